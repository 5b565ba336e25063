/-! the sums' ranges; sumsAt(243) -/
theorem minF_at {n : Nat} {f : Int → Int} {i : Int} (h0 : 0 ≤ i) (h1 : i < n) : minF n f ≤ f i := by
  induction n with
  | zero => omega
  | succ n ih =>
    unfold minF
    by_cases h : i = n
    · subst h
      exact Int.min_le_right _ _
    · have := ih (by omega)
      omega
theorem sumF_zero {n : Nat} {f : Int → Int} (h : ∀ i : Int, 0 ≤ i → i < n → f i = 0) : sumF n f = 0 := by
  induction n with
  | zero => rfl
  | succ n ih =>
    unfold sumF
    rw [ih (fun i i0 i1 => h i i0 (by omega)), h n (by omega) (by omega)]
    rfl
theorem bk_rng {E : Mm} {C : Int → Int → Bool} (T : InvT E) (Pg : InvP E) (W : InvW E) : ∀ (d : Nat) (i : Int), (d + 1 : Nat) ≤ E 597 23 → 0 ≤ i ∧ i < cN E (E 597 23 - 1 - d) → (0 ≤ bkS E C d i ∧ bkS E C d i ≤ 1000000) ∧ (bkS E C d i < 1000000 → bkS E C d i ≤ 12000 * (d + 1)) := by
  intro d
  induction d with
  | zero =>
    intro i hd hi
    rw [show E 597 23 - 1 - ((0 : Nat) : Int) = E 597 23 - 1 by omega] at hi
    have := cE_in T Pg W (w := E 597 23 - 1) (by omega) hi
    unfold bkS
    split
    · omega
    · exact ⟨by decide, fun h => absurd h (by decide)⟩
  | succ d ih =>
    intro i hd hi
    have a1 := cE_in T Pg W (w := E 597 23 - 1 - (d + 1 : Nat)) (by omega) hi
    unfold bkS
    split
    · have hg : ∀ j : Int, 0 ≤ j → j < (cN E (E 597 23 - 1 - d) : Int) → 0 ≤ (if bt E (cE E (E 597 23 - 1 - (d + 1 : Nat)) i) (cE E (E 597 23 - 1 - d) j) < 1000000 then bt E (cE E (E 597 23 - 1 - (d + 1 : Nat)) i) (cE E (E 597 23 - 1 - d) j) + bkS E C d j else 1000000) := fun j j0 j1 => by
        have a2 := cE_in T Pg W (w := E 597 23 - 1 - d) (by omega) ⟨j0, j1⟩
        have b := (bt_rng T a1.2.1 a2.2.1).1
        have := (ih j (by omega) ⟨j0, j1⟩).1
        split
        · omega
        · decide
      have p0 := minF_ge hg
      refine ⟨by omega, fun hlt => ?_⟩
      have hlt2 : minF (cN E (E 597 23 - 1 - d)) (fun j => if bt E (cE E (E 597 23 - 1 - (d + 1 : Nat)) i) (cE E (E 597 23 - 1 - d) j) < 1000000 then bt E (cE E (E 597 23 - 1 - (d + 1 : Nat)) i) (cE E (E 597 23 - 1 - d) j) + bkS E C d j else 1000000) < 1000000 := by omega
      obtain ⟨j, j0, j1, j2⟩ := minF_ex hlt2
      rw [j2] at hlt2 hlt ⊢
      have a2 := cE_in T Pg W (w := E 597 23 - 1 - d) (by omega) ⟨j0, j1⟩
      have b := bt_rng T a1.2.1 a2.2.1
      have r := ih j (by omega) ⟨j0, j1⟩
      split at hlt2
      · rename_i hb
        rw [if_pos hb] at hlt ⊢
        have := b.2 hb
        have := r.2 (by omega)
        omega
      · exact absurd hlt2 (by decide)
    · exact ⟨by decide, fun h => absurd h (by decide)⟩
theorem ct_no {E : Mm} {C : Int → Int → Bool} (T : InvT E) (Pg : InvP E) (W : InvW E) : ∀ (d : Nat) (i : Int), (d + 1 : Nat) ≤ E 597 23 → 0 ≤ i ∧ i < cN E (E 597 23 - 1 - d) → ¬ bkS E C d i < 1000000 → ctS E C d i = 0 := by
  intro d
  have P1 := Pg.1
  induction d with
  | zero =>
    intro i hd hi h
    rw [show E 597 23 - 1 - ((0 : Nat) : Int) = E 597 23 - 1 by omega] at hi
    have := cE_in T Pg W (w := E 597 23 - 1) (by omega) hi
    unfold bkS at h
    unfold ctS
    split at h
    · omega
    · rw [if_neg ‹_›]
  | succ d ih =>
    intro i hd hi h
    have a1 := cE_in T Pg W (w := E 597 23 - 1 - (d + 1 : Nat)) (by omega) hi
    unfold bkS at h
    unfold ctS
    split at h
    · rename_i hC
      rw [if_pos hC]
      refine sumF_zero fun j j0 j1 => ?_
      have a2 := cE_in T Pg W (w := E 597 23 - 1 - d) (by omega) ⟨j0, j1⟩
      have b := bt_rng T a1.2.1 a2.2.1
      have r := bk_rng (C := C) T Pg W d j (by omega) ⟨j0, j1⟩
      split
      · rename_i hb
        refine ih j (by omega) ⟨j0, j1⟩ fun hlt => ?_
        have m1 := minF_at (n := cN E (E 597 23 - 1 - d)) (f := fun j => if bt E (cE E (E 597 23 - 1 - (d + 1 : Nat)) i) (cE E (E 597 23 - 1 - d) j) < 1000000 then bt E (cE E (E 597 23 - 1 - (d + 1 : Nat)) i) (cE E (E 597 23 - 1 - d) j) + bkS E C d j else 1000000) j0 j1
        rw [if_pos hb] at m1
        have := b.2 hb
        have := r.2 hlt
        omega
      · rfl
    · rw [if_neg ‹_›]
theorem ct_rng {E : Mm} {C : Int → Int → Bool} (T : InvT E) : ∀ (d : Nat) (i : Int), 0 ≤ ctS E C d i ∧ ctS E C d i ≤ 24 ^ d := by
  intro d
  induction d with
  | zero =>
    intro i
    unfold ctS
    split <;> decide
  | succ d ih =>
    intro i
    have hp : (0 : Int) ≤ 24 ^ d := Int.le_trans (ih 0).1 (ih 0).2
    unfold ctS
    split
    · refine ⟨sumF_ge fun j _ _ => ?_, Int.le_trans (sumF_le (B := 24 ^ d) fun j _ _ => ?_) ?_⟩
      · split
        · exact (ih _).1
        · decide
      · split
        · exact (ih _).2
        · exact hp
      · rw [Int.pow_succ, Int.mul_comm]
        have := (chs_len T (w := E 597 23 - 1 - d)).2
        exact Int.mul_le_mul_of_nonneg_left (by unfold cN; omega) hp
    · exact ⟨by decide, by rw [Int.pow_succ]; omega⟩
theorem ct_big {E : Mm} {C : Int → Int → Bool} (T : InvT E) {d : Nat} {i : Int} (h : d ≤ 10) : 0 ≤ ctS E C d i ∧ ctS E C d i ≤ 63403380965376 := by
  have := ct_rng (C := C) T d i
  refine ⟨this.1, Int.le_trans this.2 ?_⟩
  have h2 : (24 : Nat) ^ d ≤ 24 ^ 10 := Nat.pow_le_pow_right (by decide) h
  have h3 : ((24 : Int) ^ d) = ((24 ^ d : Nat) : Int) := by simp
  rw [h3]
  exact Int.ofNat_le.mpr h2
/-- the reference's sums of a word -/
def RowS (E m : Mm) (C : Int → Int → Bool) (d : Nat) : Prop := ∀ j, 0 ≤ j → j < (cN E (E 597 23 - 1 - d) : Int) → m 616 (24 * (E 597 23 - 1 - d) + j) = cvt (bkS E C d j) ∧ m 617 (24 * (E 597 23 - 1 - d) + j) = ctS E C d j
