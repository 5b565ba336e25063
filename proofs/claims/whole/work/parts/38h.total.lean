/-! the class: sumUp(101) -/
def tcS (E : Mm) (C : Int → Int → Bool) : Int := if E 597 23 = 0 then 1 else sumF (cN E 0) (ctS E C (E 597 23 - 1).toNat)
theorem c101 {E m : Mm} {K : Mm → Prop} {c q : Int} {C : Int → Int → Bool} (T : InvT E) (Pg : InvP E) (hc : c = 411 ∨ c = 461) (hq : q = 511 ∨ q = 546) (Ca : CAC E m c) (R : ∀ d : Nat, (d + 1 : Nat) ≤ E 597 23 → BkC E m q C d)
    (kk : ∀ m', (∀ x k, ¬ (x = q ∧ (k = 1 ∨ k = 2)) → m' x k = m x k) → m' q 1 = totS E C → m' q 2 = tcS E C → K m') : TrV 101 [(1, q), (1, c)] m K := by
  have P1 := Pg.1
  have sq := q_shp hq
  have sc := c_shp hc
  refine e101 _ _ sq sc ?_
  rw [Ca.1]
  refine ⟨fun h0 => fun m7 e7 m9 e9 => kk m9 (fun x k n => by rw [e9, um_n (by omega), e7, um_n (by omega)]) ?_ ?_, fun h0 => fun m3 e3 m5 e5 => ?_⟩
  · rw [e9, um_k (by decide), e7, um_s]
    unfold totS
    rw [if_pos h0]
  · rw [e9, um_s]
    unfold tcS
    rw [if_pos h0]
  · have hz : E 597 23 - 1 - ((E 597 23 - 1).toNat : Int) = 0 := by omega
    have R0 := R (E 597 23 - 1).toNat (by omega)
    have d10 : (E 597 23 - 1).toNat ≤ 10 := by omega
    unfold BkC at R0
    rw [hz] at R0
    have n1 := (chs_len T (w := 0)).2
    have n24 : (cN E 0 : Int) ≤ 24 := by unfold cN; omega
    have hN : ((chs E 0).length : Int) = cN E 0 := rfl
    have cn := (Ca.2 0 (by decide) (by omega)).1
    rw [hN] at cn
    have tS : totS E C = minF (cN E 0) (bkS E C (E 597 23 - 1).toNat) := by unfold totS; rw [if_neg h0]
    have tC : tcS E C = sumF (cN E 0) (ctS E C (E 597 23 - 1).toNat) := by unfold tcS; rw [if_neg h0]
    have loop : ∀ (n j : Nat) (m6 : Mm), j + n = cN E 0 → (∀ x k, ¬ (x = q ∧ (k = 1 ∨ k = 2)) → m6 x k = m x k) → m6 q 1 = minF j (bkS E C (E 597 23 - 1).toNat) → m6 q 2 = sumF j (ctS E C (E 597 23 - 1).toNat) → X 101 31 [(1, q), (1, c), (0, j)] [] m6 (qV K) := by
      intro n
      induction n with
      | zero =>
        intro j m6 hj f x1 x2
        refine w101_31 _ _ _ sq sc ⟨fun h => absurd h ?_, fun _ => kk m6 f ?_ ?_⟩
        · rw [f _ _ (by omega), cn]
          omega
        · rw [x1, tS, show j = cN E 0 by omega]
        · rw [x2, tC, show j = cN E 0 by omega]
      | succ n ih =>
        intro j m6 hj f x1 x2
        have jE : 0 ≤ (j : Int) ∧ (j : Int) < cN E 0 := by omega
        have j24 : 0 ≤ (j : Int) ∧ (j : Int) < 24 := by omega
        have sM : minF (j + 1) (bkS E C (E 597 23 - 1).toNat) = min (minF j (bkS E C (E 597 23 - 1).toNat)) (bkS E C (E 597 23 - 1).toNat j) := rfl
        have sS : sumF (j + 1) (ctS E C (E 597 23 - 1).toNat) = sumF j (ctS E C (E 597 23 - 1).toNat) + ctS E C (E 597 23 - 1).toNat j := rfl
        have gj := ct_big (C := C) T (d := (E 597 23 - 1).toNat) (i := j) d10
        have s0 : 0 ≤ sumF j (ctS E C (E 597 23 - 1).toNat) ∧ sumF j (ctS E C (E 597 23 - 1).toNat) ≤ 24 * 63403380965376 := by
          refine ⟨sumF_ge fun i _ _ => (ct_big T d10).1, Int.le_trans (sumF_le fun i _ _ => (ct_big T d10).2) ?_⟩
          exact Int.mul_le_mul_of_nonneg_right (by omega) (by decide)
        refine w101_31 _ _ _ sq sc ⟨fun _ => ⟨j24, fun m8 e8 m10 e10 => ?_⟩, fun h => absurd (show (j : Int) < m6 (c + 27) 0 by rw [f _ _ (by omega), cn]; exact jE.2) h⟩
        have v14 : m6 (q + 14 + 0) j = bkS E C (E 597 23 - 1).toNat j := by rw [f _ _ (by omega)]; exact (R0 j jE.1 jE.2).1
        have v25 : m8 (q + 25 + 0) j = ctS E C (E 597 23 - 1).toNat j := by rw [e8, um_x (by omega), f _ _ (by omega)]; exact (R0 j jE.1 jE.2).2
        have v2 : m8 q 2 = sumF j (ctS E C (E 597 23 - 1).toNat) := by rw [e8, um_k (by decide)]; exact x2
        rw [x1, v14, ← sM] at e8
        rw [v2, v25, wlI (by omega) (by omega), ← sS] at e10
        rw [wrI (x := (j : Int) + 1) (by omega) (by omega)]
        refine ih (j + 1) m10 (by omega) (fun x k nn => ?_) ?_ ?_
        · rw [e10, um_n (by omega), e8, um_n (by omega)]
          exact f x k nn
        · rw [e10, um_k (by decide), e8, um_s]
        · rw [e10, um_s]
    refine loop (cN E 0) 0 m5 (Nat.zero_add _) (fun x k nn => by rw [e5, um_n (by omega), e3, um_n (by omega)]) ?_ ?_
    · rw [e5, um_k (by decide), e3, um_s]
      rfl
    · rw [e5, um_s]
      rfl
