/-! THE MACHINE BEHIND IT. G: where the abstract heap begins, classes, places of fields, array classes, String constants, their bytes, another reference -/
abbrev aG : Type := Nat × (Nat → ClassId) × (Nat → Nat → Nat) × (Nat → ClassId) × (Nat → Nat) × (Nat → Nat) × Nat
def gC (G : aG) : Nat → ClassId := G.2.1
def gI (G : aG) : Nat → Nat → Nat := G.2.2.1
def gA (G : aG) : Nat → ClassId := G.2.2.2.1
def gK (G : aG) : Nat → Nat := G.2.2.2.2.1
def gV (G : aG) : Nat → Nat := G.2.2.2.2.2.1
def gF (G : aG) : Nat := G.2.2.2.2.2.2
def cv (G : aG) (v : aV) : Value := match v.1 with
  | 0 => .int (i3 v.2)
  | 1 => if v.2 ≤ 0 then .null else .ref (G.1 + (v.2 - 1).toNat)
  | 2 => .long (i6 v.2)
  | 4 => .ref (gK G v.2.toNat)
  | 5 => .ref (gV G v.2.toNat)
  | 6 => if gF G = 0 then .null else .ref (gF G - 1)
  | _ => .null
def rc (G : aG) (a : Nat) (c : aC) (H : Heap) : Prop :=
  (c.1 < 9 ∧ H[a]? = some (arrV (gA G c.1) c.2.length (fun j => cv G (tgA c.1, c.2.getD j 0)))) ∨
  (20 ≤ c.1 ∧ ∃ r : vw_C, vwCl[c.1 - 20]? = some r ∧ c.2.length = r.2.2 ∧ t_OB a (gC G (c.1 - 20)) r.2.2 (gI G (c.1 - 20)) H (fun k => cv G (ftag (c.1 - 20) k, c.2.getD k 0)))
def reps (G : aG) (hp : aH) (H : Heap) : Prop := ∀ (i : Nat) (c : aC), hp[i]? = some c → rc G (G.1 + i) c H
def kn (G : aG) (U : State) : Prop := (∀ (ci : Nat) (r : vw_C), vwCl[ci]? = some r → u_Kn U r.1 r.2.1 r.2.2 (gC G ci) (gI G ci)) ∧ ∀ k, k < 9 → U.vm.findClass ("[" ++ (aft k).toString) = some (gA G k) ∧ ArrOfT U (gA G k) (aft k) ∧ (3 ≤ k → (Cond.arrayOver (aft k)).before #[] U = true)
def srT : List (String × Nat × String × Nat) := [("ShortForms", 397, "~^'&@#%*+=", 0), ("ShortForms$Script", 120, "open    word    agree   pair    strange habit   seed    any     start   vowel   cons    end     sign    noun    verb    adj     prep    conj    ", 1), ("ShortForms$Shortener", 107, "~^'&@#%*+=", 0)]
def sb32 : List (List Int32) := [sby0.map i3, sby1.map i3]
def aA (G : aG) : Nat → Prop := fun q => G.1 ≤ q
def sts (G : aG) (U : State) (H : Heap) : Prop := vk_S 2 [10, 144] sb32 (gK G) (gV G) (aA G) U H ∧ (∀ e ∈ srT, vk_R e.1 e.2.1 e.2.2.1 (gK G e.2.2.2) U) ∧ va_Z "java/lang/String" "COMPACT_STRINGS" "Z" (.int 1) (aA G) U H ∧ va_Z "jdk/internal/util/Preconditions" "SIOOBE_FORMATTER" "Ljava/util/function/BiFunction;" (if gF G = 0 then .null else .ref (gF G - 1)) (aA G) U H
def szk (al : Bool) (G : aG) (hp : aH) (H : Heap) : Prop := G.1 + hp.length ≤ H.size ∧ (al = true → H.size = G.1 + hp.length)
def lqs (G : aG) (vs : List aV) : List (Nat × Value) := (List.range vs.length).filterMap (fun j => (vs[j]?).bind fun v => if v.1 = 9 then none else some (j, cv G v))
def lok (G : aG) (vs : List aV) (ls : Array Slot) (nL : Nat) : Prop := vs.length = nL ∧ lv_has ls nL (lqs G vs)
def gT : List Cond := lw_tbl.filter goodWord
theorem mem_lqs {G : aG} {vs : List aV} {q : Nat × Value} : q ∈ lqs G vs ↔ ∃ v, vs[q.1]? = some v ∧ v.1 ≠ 9 ∧ q.2 = cv G v := by
  unfold lqs
  rw [List.mem_filterMap]
  constructor
  · rintro ⟨j, hj, h⟩
    cases hv : vs[j]? with
    | none => rw [hv] at h; cases h
    | some v =>
      rw [hv] at h
      simp only [Option.bind_some] at h
      split at h
      · cases h
      · next e =>
        cases h
        exact ⟨v, hv, e, rfl⟩
  · rintro ⟨v, h1, h2, h3⟩
    have hl : q.1 < vs.length := (List.getElem?_eq_some_iff.mp h1).1
    exact ⟨q.1, List.mem_range.mpr hl, by rw [h1]; simp only [Option.bind_some, if_neg h2]; rw [← h3]⟩
theorem lok_at {G : aG} {vs : List aV} {ls : Array Slot} {nL i : Nat} {v : aV} (h : lok G vs ls nL) (hv : vs[i]? = some v) (h9 : v.1 ≠ 9) : ls[i]? = some (.val (cv G v)) :=
  h.2.2.2 (i, cv G v) (mem_lqs.mpr ⟨v, hv, h9, rfl⟩)
theorem cv_cat2 {G : aG} {v : aV} : (cv G v).category = 2 ↔ v.1 = 2 := by
  obtain ⟨t, x⟩ := v
  unfold cv
  constructor
  · intro h
    split at h <;> first | (next e => exact e) | (split at h <;> simp [Value.category] at h) | simp [Value.category] at h
  · intro h
    simp only at h
    subst h
    rfl
theorem cv_cat1 {G : aG} {v : aV} (h : v.1 ≠ 2) : (cv G v).category = 1 := by
  have h2 : ¬ (cv G v).category = 2 := fun e => h (cv_cat2.mp e)
  cases hc : cv G v <;> rw [hc] at h2 <;> first | rfl | exact absurd rfl h2
/-- a store of a number of one word -/
theorem lok_set1 {G : aG} {vs : List aV} {ls ls' : Array Slot} {nL i : Nat} {v : aV} (h : lok G vs ls nL) (hi : lsok vs i = true) (h' : lv_has ls' nL ((i, cv G v) :: (lqs G vs).filter (fun q => !(q.1 == i) && !(q.1 + 1 == i && q.2.category == 2)))) : lok G (vs.set i v) ls' nL := by
  refine ⟨by rw [List.length_set]; exact h.1, h'.1, h'.2.1, fun q hq => h'.2.2 q ?_⟩
  obtain ⟨w, h1, h2, h3⟩ := mem_lqs.mp hq
  rw [List.getElem?_set] at h1
  split at h1
  · next e =>
    split at h1
    · cases h1
      exact List.mem_cons.mpr (Or.inl (by rw [← h3, e]))
    · cases h1
  · next e =>
    refine List.mem_cons_of_mem _ (List.mem_filter.mpr ⟨mem_lqs.mpr ⟨w, h1, h2, h3⟩, ?_⟩)
    have hne : (q.1 == i) = false := by simpa using fun z => e z.symm
    rw [hne]
    simp only [Bool.not_false, Bool.true_and, Bool.not_eq_true', Bool.and_eq_false_iff]
    by_cases hq1 : q.1 + 1 = i
    · right
      rw [h3]
      have hw : w.1 ≠ 2 := by
        unfold lsok at hi
        simp only [Bool.and_eq_true, Bool.or_eq_true, beq_iff_eq, bne_iff_ne] at hi
        rcases hi.2 with hz | hz
        · omega
        · rw [show i - 1 = q.1 by omega, List.getD_eq_getElem?_getD, h1] at hz
          exact hz
      rw [cv_cat1 hw]
      rfl
    · left
      simpa using hq1
theorem lok_set2 {G : aG} {vs : List aV} {ls ls' : Array Slot} {nL i : Nat} {v : aV} (h : lok G vs ls nL) (hi : lsok vs i = true) (h' : lv_has ls' nL ((i, cv G v) :: (lqs G vs).filter (fun q => !(q.1 == i) && (!(q.1 == i + 1) && !(q.1 + 1 == i && q.2.category == 2))))) : lok G ((vs.set i v).set (i + 1) (9, 0)) ls' nL := by
  refine ⟨by rw [List.length_set, List.length_set]; exact h.1, h'.1, h'.2.1, fun q hq => h'.2.2 q ?_⟩
  obtain ⟨w, h1, h2, h3⟩ := mem_lqs.mp hq
  rw [List.getElem?_set] at h1
  split at h1
  · split at h1
    · cases h1
      exact absurd rfl h2
    · cases h1
  · next e0 =>
    rw [List.getElem?_set] at h1
    split at h1
    · next e =>
      split at h1
      · cases h1
        exact List.mem_cons.mpr (Or.inl (by rw [← h3, e]))
      · cases h1
    · next e =>
      refine List.mem_cons_of_mem _ (List.mem_filter.mpr ⟨mem_lqs.mpr ⟨w, h1, h2, h3⟩, ?_⟩)
      have hne : (q.1 == i) = false := by simpa using fun z => e z.symm
      have hne2 : (q.1 == i + 1) = false := by simpa using fun z => e0 z.symm
      rw [hne, hne2]
      simp only [Bool.not_false, Bool.true_and, Bool.not_eq_true', Bool.and_eq_false_iff]
      by_cases hq1 : q.1 + 1 = i
      · right
        rw [h3]
        have hw : w.1 ≠ 2 := by
          unfold lsok at hi
          simp only [Bool.and_eq_true, Bool.or_eq_true, beq_iff_eq, bne_iff_ne] at hi
          rcases hi.2 with hz | hz
          · omega
          · rw [show i - 1 = q.1 by omega, List.getD_eq_getElem?_getD, h1] at hz
            exact hz
        rw [cv_cat1 hw]
        rfl
      · left
        simpa using hq1
theorem lsok_lt {vs : List aV} {i : Nat} (h : lsok vs i = true) : i < vs.length := by
  unfold lsok at h
  simp only [Bool.and_eq_true, decide_eq_true_eq] at h
  exact h.1
theorem cellAt_spec {hp : aH} {x : Int} {c : aC} (h : cellAt hp x = some c) : 1 ≤ x ∧ hp[(x - 1).toNat]? = some c := by
  unfold cellAt at h
  split at h
  · next e => exact ⟨e, h⟩
  · cases h
theorem cv_ref {G : aG} {x : Int} (h : 1 ≤ x) : cv G (1, x) = .ref (G.1 + (x - 1).toNat) := by
  unfold cv
  simp only
  rw [if_neg (by omega)]
theorem reps_at {G : aG} {hp : aH} {H : Heap} {x : Int} {c : aC} (h : reps G hp H) (hc : cellAt hp x = some c) : rc G (G.1 + (x - 1).toNat) c H := h _ _ (cellAt_spec hc).2
theorem rc_lt {G : aG} {a : Nat} {c : aC} {H : Heap} (h : rc G a c H) : a < H.size := by
  rcases h with ⟨-, h⟩ | ⟨-, r, -, -, cell, h, -⟩ <;> exact (Array.getElem?_eq_some_iff.mp h).1
theorem rc_kept {G : aG} {a : Nat} {c : aC} {H H1 : Heap} (h : rc G a c H) (hq : H1[a]? = H[a]?) : rc G a c H1 := by
  rcases h with ⟨h0, h⟩ | ⟨h0, r, h1, h2, h3⟩
  · exact Or.inl ⟨h0, by rw [hq]; exact h⟩
  · exact Or.inr ⟨h0, r, h1, h2, h3.kept hq⟩
theorem rc_arr {G : aG} {a : Nat} {sh : Nat} {l : List Int} {H : Heap} (h : rc G a (sh, l) H) (hs : sh < 20) : sh < 9 ∧ H[a]? = some (arrV (gA G sh) l.length (fun j => cv G (tgA sh, l.getD j 0))) := by
  rcases h with h | ⟨h, -⟩
  · exact h
  · exact absurd h (by simp only; omega)
theorem rc_obj {G : aG} {a ci : Nat} {l : List Int} {H : Heap} (h : rc G a (20 + ci, l) H) : ∃ r : vw_C, vwCl[ci]? = some r ∧ l.length = r.2.2 ∧ t_OB a (gC G ci) r.2.2 (gI G ci) H (fun k => cv G (ftag ci k, l.getD k 0)) := by
  rcases h with ⟨h, -⟩ | ⟨-, r, h1, h2, h3⟩
  · exact absurd h (by simp only; omega)
  · simp only [show 20 + ci - 20 = ci by omega] at h1 h2 h3
    exact ⟨r, h1, h2, h3⟩
theorem reps_put {G : aG} {hp : aH} {H H1 : Heap} {x : Int} {c d : aC} (h : reps G hp H) (hc : cellAt hp x = some c) (hd : rc G (G.1 + (x - 1).toNat) d H1) (ho : ∀ q, q ≠ G.1 + (x - 1).toNat → H1[q]? = H[q]?) : reps G (putAt hp x d) H1 := by
  intro i e he
  unfold putAt at he
  rw [List.getElem?_set] at he
  split at he
  · next ei =>
    split at he
    · cases he
      rw [← ei]
      exact hd
    · cases he
  · next ei => exact rc_kept (h i e he) (ho _ (by omega))
theorem reps_app {G : aG} {hp cs : aH} {H H1 : Heap} (h : reps G hp H) (ho : ∀ q, q < H.size → H1[q]? = H[q]?) (hn : ∀ i c, cs[i]? = some c → rc G (G.1 + hp.length + i) c H1) : reps G (hp ++ cs) H1 := by
  intro i e he
  by_cases hi : i < hp.length
  · rw [List.getElem?_append_left hi] at he
    exact rc_kept (h i e he) (ho _ (rc_lt (h i e he)))
  · rw [List.getElem?_append_right (by omega)] at he
    have := hn _ _ he
    rwa [show G.1 + hp.length + (i - hp.length) = G.1 + i by omega] at this
theorem szk_put {al : Bool} {G : aG} {hp : aH} {H H1 : Heap} {x : Int} {c : aC} (h : szk al G hp H) (hz : H1.size = H.size) : szk al G (putAt hp x c) H1 := by
  unfold szk
  rw [put_len, hz]
  exact h
theorem getD_set (l : List Int) (k j : Nat) (z : Int) (hk : k < l.length) : (l.set k z).getD j 0 = if j = k then z else l.getD j 0 := by
  rw [List.getD_eq_getElem?_getD, List.getD_eq_getElem?_getD, List.getElem?_set]
  by_cases e : k = j
  · subst e
    simp [hk]
  · rw [if_neg e, if_neg (fun q => e q.symm)]
theorem getD_of {l : List Int} {k : Nat} {z : Int} (h : l[k]? = some z) : l.getD k 0 = z := by rw [List.getD_eq_getElem?_getD, h]; rfl
theorem Clamp {j : Int} (h : -2147483648 ≤ j ∧ j < 2147483648) : (i3 j).toNatClampNeg = j.toNat := by
  show (i3 j).toInt.toNat = j.toNat
  rw [i3_in h]
theorem i3_lt {x y : Int} (hx : -2147483648 ≤ x ∧ x < 2147483648) (hy : -2147483648 ≤ y ∧ y < 2147483648) : i3 x < i3 y ↔ x < y := by
  rw [Int32.lt_iff_toInt_lt, i3_in hx, i3_in hy]
theorem i3_le {x y : Int} (hx : -2147483648 ≤ x ∧ x < 2147483648) (hy : -2147483648 ≤ y ∧ y < 2147483648) : i3 x ≤ i3 y ↔ x ≤ y := by
  rw [Int32.le_iff_toInt_le, i3_in hx, i3_in hy]
theorem i3_eq {x y : Int} (hx : -2147483648 ≤ x ∧ x < 2147483648) (hy : -2147483648 ≤ y ∧ y < 2147483648) : i3 x = i3 y ↔ x = y := by
  rw [← Int32.toInt_inj, i3_in hx, i3_in hy]
theorem i3_0 : i3 0 = 0 := rfl
theorem inZ : -2147483648 ≤ (0 : Int) ∧ (0 : Int) < 2147483648 := by decide
theorem i6_lt {x y : Int} (hx : -9223372036854775808 ≤ x ∧ x < 9223372036854775808) (hy : -9223372036854775808 ≤ y ∧ y < 9223372036854775808) : i6 x < i6 y ↔ x < y := by
  rw [Int64.lt_iff_toInt_lt, i6_in hx, i6_in hy]
theorem i6_eq {x y : Int} (hx : -9223372036854775808 ≤ x ∧ x < 9223372036854775808) (hy : -9223372036854775808 ≤ y ∧ y < 9223372036854775808) : i6 x = i6 y ↔ x = y := by
  rw [← Int64.toInt_inj, i6_in hx, i6_in hy]
