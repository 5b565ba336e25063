/-! ranges of the letters that openings give and of the readings that they take -/
theorem wL_rng {E : Mm} (T : InvT E) (Pg : InvP E) {w : Int} (hw : 0 ≤ w ∧ w < E 597 23) : ∀ (d : Nat) (last : Int), (d : Int) ≤ E 604 w → oc E w d last < 1000000 → (∀ l ∈ wL E w d last, 0 ≤ l ∧ l < 26) ∧ ∀ r ∈ wR E w d last, 0 ≤ r ∧ r < E 602 578 := by
  have P2 := Pg.2 w hw.1 hw.2
  intro d
  induction d with
  | zero => intro last _ _; exact ⟨fun l h => absurd h (List.not_mem_nil), fun l h => absurd h (List.not_mem_nil)⟩
  | succ d ih =>
    intro last hd h
    unfold wL wR
    by_cases hs : E 603 (10 * w + (E 604 w - (d + 1 : Nat))) < 32
    · rw [if_pos hs, if_pos hs]
      have e : oc E w (d + 1) last = oc E w d (E 603 (10 * w + (E 604 w - (d + 1 : Nat)))) := by
        conv => lhs; unfold oc
        rw [if_pos hs]
      have i := ih _ (by omega) (e ▸ h)
      have b := P2.2 (E 604 w - (d + 1 : Nat)) (by omega) (by omega)
      refine ⟨fun l hl => ?_, i.2⟩
      rw [List.mem_cons] at hl
      rcases hl with hl | hl
      · omega
      · exact i.1 l hl
    · rw [if_neg hs, if_neg hs]
      obtain ⟨h1, h2, h3⟩ := wst_ok hs h
      have hM := T.2.2.2.2.2.2.1 _ h1.1 h1.2
      have hW : 0 ≤ wnow E (wst E w d last) := by unfold wnow; omega
      have i := ih (lasB E (wst E w d last) last) (by omega) (by omega)
      refine ⟨fun l hl => ?_, fun r hr => ?_⟩
      · rw [List.mem_append] at hl
        rcases hl with hl | hl
        · unfold rl at hl
          rw [List.mem_map] at hl
          obtain ⟨j, hj, rfl⟩ := hl
          rw [List.mem_range] at hj
          exact hM.2.2.2.2.2.2 j (by omega) (by omega)
        · exact i.1 l hl
      · rw [List.mem_cons] at hr
        rcases hr with hr | hr
        · rw [hr]
          exact h1
        · exact i.2 r hr
theorem xR_rng {E : Mm} {w e : Int} : ∀ (d : Nat) (k : Int), ex E w e d k < 1000000 → (∀ r, 0 ≤ r → r < E 602 578 → 0 ≤ wnow E r) → (∀ r ∈ xR E w e d k, 0 ≤ r ∧ r < E 602 578) := by
  intro d
  induction d with
  | zero => intro k _ _ r h; exact absurd h (List.not_mem_nil)
  | succ d ih =>
    intro k h hW
    unfold xR
    by_cases hs : E 603 (10 * w + (E 604 w - (d + 1 : Nat))) < 32
    · rw [if_pos hs]
      obtain ⟨h1, h2⟩ := ex_let hs h
      exact ih (k + 1) (by omega) hW
    · rw [if_neg hs]
      obtain ⟨h1, h2, h3, h4⟩ := xst_ok hs h
      have w0 := hW _ h1.1 h1.2
      have hx : ex E w e d (k + bsz E (xst E w e d k)) < 1000000 := by omega
      intro r hr
      rw [List.mem_cons] at hr
      rcases hr with hr | hr
      · rw [hr]
        exact h1
      · exact ih _ hx hW r hr
theorem wLs_rng {E : Mm} (T : InvT E) (Pg : InvP E) {w : Int} (hw : 0 ≤ w ∧ w < E 597 23) {l : Int} (hl : l ∈ wLs E w) : 0 ≤ l ∧ l < 26 := by
  have P2 := (Pg.2 w hw.1 hw.2).1
  unfold wLs at hl
  split at hl
  · exact (wL_rng T Pg hw (E 604 w).toNat (-1) (by omega) ‹_›).1 l hl
  · exact absurd hl (List.not_mem_nil)
