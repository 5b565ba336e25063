/-! the class's place of a fixed word (97) is canS -/
theorem fstN_congr {n : Nat} {f g : Int → Bool} (h : ∀ i : Int, 0 ≤ i → i < n → f i = g i) : fstN n f = fstN n g := by
  induction n with
  | zero => rfl
  | succ n ih =>
    unfold fstN
    rw [ih (fun i i0 i1 => h i i0 (by omega)), h n (by omega) (by omega)]
theorem chE_pw {E : Mm} {w : Int} (T : InvT E) (W : InvW E) : ∀ n : Nat, (chE E w n).Pairwise fun a b => a.1 < b.1 := by
  intro n
  induction n with
  | zero => exact List.Pairwise.nil
  | succ n ih =>
    unfold chE
    refine List.pairwise_append.mpr ⟨ih, ?_, fun a ha b hb => ?_⟩
    · split
      · exact List.pairwise_singleton _ _
      · exact List.Pairwise.nil
    · have := (chE_in T W n a ha).1
      split at hb
      · rw [List.mem_singleton] at hb
        subst hb
        exact this.2
      · exact absurd hb (List.not_mem_nil)
theorem chs_pw {E : Mm} {w : Int} (T : InvT E) (W : InvW E) : (chs E w).Pairwise fun a b => a.1 < b.1 := by
  unfold chs
  split
  · split <;> exact List.pairwise_singleton _ _
  · exact chE_pw T W _
theorem cE_lt {E : Mm} {w i j : Int} (T : InvT E) (W : InvW E) (h0 : 0 ≤ i) (h1 : i < j) (h2 : j < cN E w) : cE E w i < cE E w j := by
  have hi : i.toNat < (chs E w).length := by unfold cN at h2; omega
  have hj : j.toNat < (chs E w).length := by unfold cN at h2; omega
  have := List.pairwise_iff_getElem.mp (chs_pw T W (w := w)) i.toNat j.toNat hi hj (by omega)
  unfold cE
  rw [List.getElem?_eq_getElem hi, List.getElem?_eq_getElem hj]
  exact this
theorem plC_E {E m : Mm} {c w who : Int} (C : ChC m c w (chs E w)) : plC m c w who = fstN (cN E w) fun j => decide (cE E w j = who) := by
  unfold plC
  rw [C.1]
  exact fstN_congr fun i i0 i1 => by rw [(C.at ⟨i0, i1⟩).1]
theorem canS_pl {E m : Mm} {c w i : Int} (T : InvT E) (Pg : InvP E) (W : InvW E) (hw : 0 ≤ w ∧ w < E 597 23) (C : ChC m c w (chs E w)) (hi : 0 ≤ i ∧ i < cN E w) : canS E w i = true ↔ (plC m c w (fxE E w) < 0 ∨ plC m c w (fxE E w) = i) := by
  rw [plC_E C]
  have hr := fstN_rng (n := cN E w) (f := fun j => decide (cE E w j = fxE E w))
  unfold canS
  rw [Bool.or_eq_true_iff, Bool.or_eq_true_iff, decide_eq_true_eq, decide_eq_true_eq, allN_t]
  constructor
  · rintro (h | h | h)
    · refine Or.inl ?_
      rw [fstN_no fun j j0 j1 => decide_eq_false fun q => by
        have := (cE_in T Pg W hw ⟨j0, j1⟩).1
        omega]
      decide
    · have hx := fstN_ex (f := fun j => decide (cE E w j = fxE E w)) hi.1 hi.2 (decide_eq_true h)
      have hy := of_decide_eq_true hx.2
      refine Or.inr ?_
      rcases Int.lt_trichotomy (fstN (cN E w) fun j => decide (cE E w j = fxE E w)) i with q | q | q
      · have := cE_lt T W hx.1 q hi.2
        omega
      · exact q
      · have := cE_lt T W hi.1 q hr.2
        omega
    · refine Or.inl ?_
      rw [fstN_no fun j j0 j1 => by simpa using h j j0 j1]
      decide
  · rintro (h | h)
    · refine Or.inr (Or.inr fun j j0 j1 => ?_)
      by_cases q : cE E w j = fxE E w
      · have := (fstN_ex (f := fun j => decide (cE E w j = fxE E w)) j0 j1 (decide_eq_true q)).1
        omega
      · simp [q]
    · refine Or.inr (Or.inl ?_)
      have hx : decide (cE E w i = fxE E w) = true := by
        by_cases hz : ∃ j : Int, 0 ≤ j ∧ j < cN E w ∧ cE E w j = fxE E w
        · obtain ⟨j, j0, j1, j2⟩ := hz
          have := (fstN_ex (f := fun j => decide (cE E w j = fxE E w)) j0 j1 (decide_eq_true j2)).2
          rw [h] at this
          exact this
        · have := fstN_no (n := cN E w) (f := fun j => decide (cE E w j = fxE E w)) fun j j0 j1 => decide_eq_false fun q => hz ⟨j, j0, j1, q⟩
          omega
      exact of_decide_eq_true hx
