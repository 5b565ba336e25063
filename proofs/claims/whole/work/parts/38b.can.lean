/-! which choices may stand (244), the least and the ways from a choice on (243) -/
def fxE (E : Mm) (w : Int) : Int := E 607 (48 + w)
def canS (E : Mm) (w i : Int) : Bool := decide (fxE E w = -9) || (decide (cE E w i = fxE E w) || allN (cN E w) fun j => !decide (cE E w j = fxE E w))
def canH (E : Mm) (hk hw hp w i : Int) : Bool := (decide (hk = 0) || (!decide (w = hw) || (if hk = 1 then decide (i = hp) else !decide (i = hp)))) && canS E w i
theorem c245 {E m : Mm} {K : Int → Mm → Prop} (T : InvT E) (Pg : InvP E) (A : Ag E m) {w : Int} (hw : 0 ≤ w ∧ w < E 597 23) (C : ChM m w (chs E w))
    (kk : K (if (allN (cN E w) fun j => !decide (cE E w j = fxE E w)) = true then 0 else 1) m) : TrI 245 [(1, 597), (0, w)] m K := by
  have P1 := Pg.1
  have n1 := (chs_len T (w := w)).2
  have w10 : 0 ≤ w ∧ w < 10 := by omega
  have hN : ((chs E w).length : Int) = cN E w := rfl
  have n24 : (cN E w : Int) ≤ 24 := by unfold cN; omega
  have q48 : wr (48 + w) = 48 + w := wrI (by omega) (by omega)
  have q49 : 0 ≤ 48 + w ∧ 48 + w < 1276 := by omega
  refine e245 _ ?_
  have loop : ∀ (n j : Nat), j + n = cN E w → (∀ i : Int, 0 ≤ i → i < j → ¬ cE E w i = fxE E w) → X 245 2 [(1, 597), (0, w), (0, j)] [] m (qI K) := by
    intro n
    induction n with
    | zero =>
      intro j hj hall
      refine w245_2 _ _ ⟨w10, fun h => absurd h (by rw [C.1, hN]; omega), fun _ => ?_⟩
      rw [if_pos (allN_t.mpr fun i i0 i1 => by simp [hall i i0 (by omega)])] at kk
      exact kk
    | succ n ih =>
      intro j hj hall
      have hj2 : (0 : Int) ≤ j ∧ (j : Int) < cN E w := by omega
      have q1 : wr (wr (24 * w) + j) = 24 * w + j := by
        rw [wrI (x := 24 * w) (by omega) (by omega), wrI (by omega) (by omega)]
      have q3 : 0 ≤ 24 * w + (j : Int) ∧ 24 * w + (j : Int) < 240 := by clear q1 q48; omega
      refine w245_2 _ _ ⟨w10, fun _ => ?_, fun h => absurd (show (j : Int) < m 615 w by rw [C.1, hN]; exact hj2.2) h⟩
      rw [q1, q48, (C.at hj2).1, A.t (show 48 + w < 58 by clear q1 q48; omega)]
      refine ⟨q3, q49, fun h => ?_, fun h => ?_⟩
      · rw [if_neg (fun q => by have := allN_t.mp q j hj2.1 hj2.2; simp [show cE E w j = fxE E w from h] at this)] at kk
        exact kk
      · rw [wrI (x := (j : Int) + 1) (by clear q1 q48; omega) (by clear q1 q48; omega)]
        refine ih (j + 1) (by clear q1 q48; omega) fun i i0 i1 => ?_
        by_cases hi : i = j
        · rw [hi]
          exact h
        · exact hall i i0 (by clear q1 q48; omega)
  exact loop (cN E w) 0 (Nat.zero_add _) fun i i0 i1 => by clear q48; omega
theorem c244 {E m : Mm} {K : Int → Mm → Prop} (T : InvT E) (Pg : InvP E) (A : Ag E m) {w i hk hv hp : Int} (hw : 0 ≤ w ∧ w < E 597 23) (hi : 0 ≤ i ∧ i < cN E w) (C : ChM m w (chs E w)) (x1 : m 597 40 = hk) (x2 : m 597 38 = hv) (x3 : m 597 39 = hp)
    (kk : K (bi (canH E hk hv hp w i = true)) m) : TrI 244 [(1, 597), (0, w), (0, i)] m K := by
  have P1 := Pg.1
  have n1 := (chs_len T (w := w)).2
  have w10 : 0 ≤ w ∧ w < 10 := by omega
  have n24 : (cN E w : Int) ≤ 24 := by unfold cN; omega
  have q3 : 0 ≤ 24 * w + i ∧ 24 * w + i < 240 := by omega
  have q49 : 0 ≤ 48 + w ∧ 48 + w < 1276 := by omega
  have q48 : wr (48 + w) = 48 + w := wrI (by omega) (by omega)
  have q1 : wr (wr (24 * w) + i) = 24 * w + i := by
    rw [wrI (x := 24 * w) (by clear q48; omega) (by clear q48; omega), wrI (by clear q48; omega) (by clear q48; omega)]
  have inner : (decide (hk = 0) || (!decide (w = hv) || (if hk = 1 then decide (i = hp) else !decide (i = hp)))) = true → X 244 46 [(1, 597), (0, w), (0, i)] [] m (qI K) := by
    intro hh
    have e : canH E hk hv hp w i = canS E w i := by unfold canH; rw [hh, Bool.true_and]
    rw [e] at kk
    refine w244_46 _ _ ?_
    rw [q48, q1, A.t (show 48 + w < 58 by clear q1 q48; omega), (C.at hi).1]
    have yes : canS E w i = true → K 1 m := fun h => by rw [bi_t h] at kk; exact kk
    refine ⟨q49, fun h => yes ?_, fun h => ⟨q3, fun h2 => yes ?_, fun h2 => ?_⟩⟩
    · unfold canS
      rw [decide_eq_true (show fxE E w = -9 from h), Bool.true_or]
    · unfold canS
      rw [decide_eq_true (show cE E w i = fxE E w from h2), Bool.true_or, Bool.or_true]
    · have e2 : canS E w i = allN (cN E w) fun j => !decide (cE E w j = fxE E w) := by
        unfold canS
        rw [decide_eq_false (show ¬ fxE E w = -9 from h), decide_eq_false (show ¬ cE E w i = fxE E w from h2), Bool.false_or, Bool.false_or]
      refine c245 T Pg A hw C ?_
      by_cases ha : (allN (cN E w) fun j => !decide (cE E w j = fxE E w)) = true
      · rw [if_pos ha]
        exact ⟨fun _ => yes (e2.trans ha), fun h => absurd rfl h⟩
      · rw [if_neg ha]
        refine ⟨fun h => absurd h (by decide), fun _ => ?_⟩
        rw [bi_f (by rw [e2]; exact ha)] at kk
        exact kk
  have no : (decide (hk = 0) || (!decide (w = hv) || (if hk = 1 then decide (i = hp) else !decide (i = hp)))) = false → K 0 m := by
    intro hh
    rw [bi_f (by unfold canH; rw [hh, Bool.false_and]; decide)] at kk
    exact kk
  refine e244 _ _ ?_
  rw [x1, x2, x3]
  refine ⟨fun h => inner (by simp [h]), fun h => ⟨fun h2 => ⟨fun h3 => ⟨fun h4 => inner ?_, fun h4 => no ?_⟩, fun h3 => ⟨fun h4 => no ?_, fun h4 => inner ?_⟩⟩, fun h2 => inner ?_⟩⟩
  · simp [h4, h3]
  · simp [h, h2, h3, h4]
  · simp [h4, h3, h2]
  · simp [h4, h3]
  · simp [h2]
/-- the least from a choice on, and its ways; d: how many words follow -/
def bkS (E : Mm) (C : Int → Int → Bool) : Nat → Int → Int
  | 0, i => if C (E 597 23 - 1) i = true then cC E (E 597 23 - 1) i else 1000000
  | d + 1, i => if C (E 597 23 - 1 - (d + 1 : Nat)) i = true then min 1000000 (cC E (E 597 23 - 1 - (d + 1 : Nat)) i + minF (cN E (E 597 23 - 1 - d)) fun j => if bt E (cE E (E 597 23 - 1 - (d + 1 : Nat)) i) (cE E (E 597 23 - 1 - d) j) < 1000000 then bt E (cE E (E 597 23 - 1 - (d + 1 : Nat)) i) (cE E (E 597 23 - 1 - d) j) + bkS E C d j else 1000000) else 1000000
def ctS (E : Mm) (C : Int → Int → Bool) : Nat → Int → Int
  | 0, i => if C (E 597 23 - 1) i = true then 1 else 0
  | d + 1, i => if C (E 597 23 - 1 - (d + 1 : Nat)) i = true then sumF (cN E (E 597 23 - 1 - d)) fun j => if bt E (cE E (E 597 23 - 1 - (d + 1 : Nat)) i) (cE E (E 597 23 - 1 - d) j) < 1000000 then ctS E C d j else 0 else 0
