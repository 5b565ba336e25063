/-! the memory behind the constructors, and that class and reference stand together there -/
def m0 (x k : Int) : Int :=
  if 598 ≤ x then (if x = 602 ∧ k = 580 then 500 else 0)
  else if x = 597 then (if k = 5 ∨ k = 27 then -1 else 0)
  else if 370 ≤ x then (if x = 370 ∧ k = 10 then -1 else if (x = 511 ∨ x = 546) ∧ k = 2 then 1 else if x = 581 ∧ k = 2 then -1 else if x = 581 ∧ k = 4 then 593 else if x = 581 ∧ k = 5 then 594 else 0)
  else if 280 ≤ x then (if x = 285 then 290 + 4 * k else if x = 283 ∨ (286 ≤ x ∧ x % 4 = 1) then -9 else 0)
  else if x = 1 then (if k = 3 then 6 else if k = 4 then 108 else if k = 5 then 210 else if k = 6 then 245 else if k = 17 then 1 else 0)
  else if x = 3 then (if k = 1 then -1 else if k = 3 then 5 else 0)
  else if x = 6 ∨ x = 108 then (if k = 7 then 500 else 0)
  else if ((12 ≤ x ∧ x ≤ 58) ∨ (114 ≤ x ∧ x ≤ 160)) ∧ x % 2 = 0 then (if k = 5 ∨ k = 6 then 268435455 else 0)
  else 0
def flG (m : Mm) (x : Int) : Nat → List (Option Int) → List Int
  | _, [] => []
  | k, o :: r => o.getD (m x (k : Int)) :: flG m x (k + 1) r
def hFG (m : Mm) : Nat → List aT → aH
  | _, [] => []
  | i, c :: r => (c.1, flG m ((i : Int) + 1) 0 c.2) :: hFG m (i + 1) r
theorem flG_get {m : Mm} {x : Int} : ∀ (l : List (Option Int)) (k j : Nat), (flG m x k l)[j]? = (l[j]?).map fun o => o.getD (m x ((k + j : Nat) : Int)) := by
  intro l
  induction l with
  | nil => intro k j; rfl
  | cons o r ih =>
    intro k j
    cases j with
    | zero => rfl
    | succ j =>
      show (flG m x (k + 1) r)[j]? = _
      rw [ih, show k + 1 + j = k + (j + 1) by omega]
      rfl
theorem hFG_get {m : Mm} : ∀ (l : List aT) (i j : Nat), (hFG m i l)[j]? = (l[j]?).map fun c => (c.1, flG m (((i + j : Nat) : Int) + 1) 0 c.2) := by
  intro l
  induction l with
  | nil => intro k j; rfl
  | cons o r ih =>
    intro k j
    cases j with
    | zero => rfl
    | succ j =>
      show (hFG m (k + 1) r)[j]? = _
      rw [ih, show k + 1 + j = k + (j + 1) by omega]
      rfl
theorem mk_hFG (m : Mm) : mk m = hFG m 0 TmL := by
  apply List.ext_getElem?
  intro i
  unfold mk
  rw [List.getElem?_mapIdx, hFG_get, Nat.zero_add]
  cases TmL[i]? with
  | none => rfl
  | some c =>
    simp only [Option.map_some, mkC]
    congr 2
    apply List.ext_getElem?
    intro j
    rw [List.getElem?_mapIdx, flG_get, Nat.zero_add]
set_option maxRecDepth 1000000 in
/-- behind the model's constructor and the law's long[1] -/
theorem mk_m0 : hM ++ [(1, [0])] = mk m0 := by
  rw [mk_hFG]
  exact eqH_t (by decide +kernel)
theorem m0_h {x k : Int} (h : 598 ≤ x) (h2 : x ≠ 602) : m0 x k = 0 := by
  unfold m0
  rw [if_pos h, if_neg (by omega)]
theorem m0_602 {k : Int} (h : k ≠ 580) : m0 602 k = 0 := by
  unfold m0
  rw [if_pos (by decide), if_neg (by omega)]
theorem m0_281 {k : Int} : m0 281 k = 0 := by simp [m0]
theorem m0_282 {k : Int} : m0 282 k = 0 := by simp [m0]
theorem m0_283 {k : Int} : m0 283 k = -9 := by simp [m0]
theorem m0_285 {k : Int} : m0 285 k = 290 + 4 * k := by simp [m0]
theorem m0_9 {k : Int} : m0 9 k = 0 := by simp [m0]
theorem m0_11 {k : Int} : m0 11 k = 0 := by simp [m0]
theorem m0_n : m0 597 23 = 0 := by decide +kernel
theorem m0_r : m0 602 578 = 0 := by decide +kernel
theorem m0_e : m0 602 579 = 0 := by decide +kernel
theorem m0_T : m0 1 3 = 6 := by decide +kernel
theorem m0_P : m0 1 5 = 210 := by decide +kernel
theorem InvT0 : InvT m0 := by
  refine ⟨by decide +kernel, by decide +kernel, by decide +kernel, by decide +kernel, by decide +kernel, by decide +kernel, fun r r0 r1 => ?_, fun e e0 e1 => ?_, fun k k0 k1 => ?_⟩
  · rw [m0_r] at r1
    omega
  · rw [m0_e] at e1
    omega
  · rw [m0_602 (k := 528 + k) (by omega), m0_602 (k := 553 + k) (by omega)]
    exact ⟨Or.inl rfl, by decide, by decide⟩
theorem CT0 : CT m0 m0 6 := by
  refine ⟨Or.inl rfl, by decide +kernel, by decide +kernel, by decide +kernel, by decide +kernel, by decide +kernel, fun r r0 r1 => ?_, fun e e0 e1 => ?_, fun k k0 k1 => ?_⟩
  · rw [m0_r] at r1
    omega
  · rw [m0_e] at e1
    omega
  · rw [m0_602 (k := 528 + k) (by omega), m0_602 (k := 553 + k) (by omega)]
    exact ⟨m0_9, m0_11⟩
theorem BS0 : BS m0 m0 := by
  refine ⟨InvT0, ⟨by rw [m0_n]; decide, fun w w0 w1 => by rw [m0_n] at w1; omega⟩, fun r r0 r1 => ?_, Ag.refl, by decide +kernel, by decide +kernel, by rw [m0_T]; exact CT0, by decide +kernel, ?_, by decide +kernel, fun r r0 r1 => ?_, fun w w0 w1 => ?_⟩
  · rw [m0_h (by decide) (by decide), m0_h (by decide) (by decide)]
    decide
  · rw [m0_P]
    refine ⟨Or.inl rfl, by decide +kernel, fun w w0 w1 => ?_⟩
    rw [m0_n] at w1
    omega
  · rw [m0_281, m0_282, m0_h (by decide) (by decide), m0_h (by decide) (by decide)]
    exact ⟨rfl, rfl⟩
  · rw [m0_283, m0_n, nx_g (by omega)]
theorem CS0 : CS shS m0 m0 := by
  refine ⟨BS0, ⟨fun h => absurd h (by decide +kernel), fun w w0 w1 => by rw [m0_n] at w1; omega⟩, ⟨⟨by decide +kernel, by decide +kernel, by decide +kernel⟩, ⟨by decide +kernel, Or.inl (by decide +kernel)⟩, ⟨fun k k0 k1 => ⟨k, k0, k1, m0_285⟩, fun k j k0 k1 j0 j1 h => ?_⟩, ⟨fun r r0 r1 => ?_, rfl⟩, fun h => absurd h (by decide +kernel), fun k k0 k1 => ?_⟩, ⟨⟨⟨by decide +kernel, by decide +kernel, by decide +kernel⟩, fun i i0 i1 => ?_, by decide +kernel, by decide +kernel⟩, fun r r0 r1 => ?_⟩, ⟨Or.inl ⟨by decide +kernel, by decide +kernel⟩, Or.inl (by decide +kernel)⟩⟩
  · rw [m0_285, m0_285] at h
    omega
  · rw [m0_h (by decide) (by decide), m0_h (by decide) (by decide)]
    decide
  · rw [show m0 597 25 = 0 by decide +kernel] at k1
    omega
  · rw [show m0 597 2 = 0 by decide +kernel] at i1
    omega
  · rw [m0_r] at r1
    omega
