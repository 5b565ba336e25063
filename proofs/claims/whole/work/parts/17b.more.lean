section XR
variable {M pc : Nat} {ls st : List aV} {m : Mm} {Q : Option aV → Mm → Prop}
theorem x_pure {N : Nat} {as : List aV} {v : aV} (h : Tr N as m fun rv m1 => rv = some v ∧ m1 = m) (k : Q (some v) m) : Tr N as m Q := X.imp h fun _ _ ⟨a, b⟩ => by rw [a, b]; exact k
theorem pos_of {x : Int} {sh : Nat} (h : shp x = sh) (hs : sh < 99) : 1 ≤ x := by
  by_cases hx : 1 ≤ x
  · exact hx
  · unfold shp at h; rw [if_neg hx] at h; omega
theorem tok_1 {x : Int} (hx : 1 ≤ x) : tok 1 (1, x) = true := by simp [tok, hx]
theorem x_aldn {k : Fin 4} {x v : Int} {a b : Nat} (hq : cod M pc = some (.aload_n k, v, a, b)) (hl : ls[k.val]? = some (1, x)) (hx : 1 ≤ x) (K : X M (pc + 1) ls ((1, x) :: st) m Q) : X M pc ls st m Q := by
  refine x_s hq rfl rfl ?_ K
  show ldS (mk m) ls st (pc + 1) 1 k.val = _
  unfold ldS
  rw [hl]
  simp only [tok_1 hx, if_true]
theorem x_ald {i : Nat} {x v : Int} {a b : Nat} (hq : cod M pc = some (.aload i, v, a, b)) (hl : ls[i]? = some (1, x)) (hx : 1 ≤ x) (K : X M (pc + 2) ls ((1, x) :: st) m Q) : X M pc ls st m Q := by
  refine x_s hq rfl rfl ?_ K
  show ldS (mk m) ls st (pc + 2) 1 i = _
  unfold ldS
  rw [hl]
  simp only [tok_1 hx, if_true]
theorem x_astn {k : Fin 4} {x v : Int} {a b : Nat} {ls' : List aV} (hq : cod M pc = some (.astore_n k, v, a, b)) (hx : 1 ≤ x) (ho : lsok ls k.val = true) (hl : ls.set k.val (1, x) = ls') (K : X M (pc + 1) ls' st m Q) : X M pc ls ((1, x) :: st) m Q := by
  refine x_s hq rfl rfl ?_ K
  show stS (mk m) ls ((1, x) :: st) (pc + 1) 1 k.val = _
  unfold stS
  simp only [tok_1 hx, ho, Bool.and_self, if_true]
  rw [if_neg (by decide), hl]
theorem x_ast {i : Nat} {x v : Int} {a b : Nat} {ls' : List aV} (hq : cod M pc = some (.astore i, v, a, b)) (hx : 1 ≤ x) (ho : lsok ls i = true) (hl : ls.set i (1, x) = ls') (K : X M (pc + 2) ls' st m Q) : X M pc ls ((1, x) :: st) m Q := by
  refine x_s hq rfl rfl ?_ K
  show stS (mk m) ls ((1, x) :: st) (pc + 2) 1 i = _
  unfold stS
  simp only [tok_1 hx, ho, Bool.and_self, if_true]
  rw [if_neg (by decide), hl]
end XR
