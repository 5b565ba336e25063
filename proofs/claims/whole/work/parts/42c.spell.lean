/-! the class: firstByte(138), spell(136), solve(130) -/
/-- the states that stand in a row x of the class's: H -/
def RepC (E m : Mm) (e x : Int) (H : hS) : Prop := (∀ s, 0 ≤ s → s < 225 → m x s = 0 ∨ (m x s = 1 ∧ ∃ k last, (0 ≤ k ∧ k ≤ zsz (E 602) e) ∧ (0 ≤ last ∧ last ≤ E 602 578) ∧ s = 25 * k + last)) ∧ ∀ k c, H k c ↔ ∃ last, (0 ≤ k ∧ k ≤ zsz (E 602) e) ∧ (0 ≤ last ∧ last ≤ E 602 578) ∧ c = cdA (E 602) last ∧ m x (25 * k + last) = 1
/-- a state, and a byte by which one can go on from it -/
def GdC (E m : Mm) (e x : Int) (d : Nat) (k last b : Int) : Prop := (0 ≤ k ∧ k ≤ zsz (E 602) e) ∧ (0 ≤ last ∧ last ≤ E 602 578) ∧ (0 ≤ b ∧ b ≤ E 602 578) ∧ m x (25 * k + last) = 1 ∧ nxB (E 602) e k (cdA (E 602) last) b = true ∧ RE (E 602) e d (nxK (E 602) k b) (cdA (E 602) b) = true
theorem go_Gd {E m : Mm} {e x v : Int} {d : Nat} {H : hS} (R : RepC E m e x H) : goS (E 602) e d H v ↔ ∃ k last b, GdC E m e x d k last b ∧ byT (E 602) e k b = v := by
  constructor
  · rintro ⟨k, c, b, hH, hb, hx, hR, hv⟩
    obtain ⟨last, hk, hl, hc, h1⟩ := (R.2 k c).mp hH
    rw [hc] at hx
    exact ⟨k, last, b, ⟨hk, hl, hb, h1, hx, hR⟩, hv⟩
  · rintro ⟨k, last, b, ⟨hk, hl, hb, h1, hx, hR⟩, hv⟩
    exact ⟨k, _, b, (R.2 k _).mpr ⟨last, hk, hl, rfl, h1⟩, hb, hx, hR, hv⟩
theorem by_rng {E : Mm} (T : InvT E) {e k c b : Int} (he : 0 ≤ e ∧ e < E 602 579) (hk : 0 ≤ k) (hb : 0 ≤ b ∧ b ≤ E 602 578) (h : nxB (E 602) e k c b = true) : 0 ≤ byT (E 602) e k b ∧ byT (E 602) e k b < 255 := by
  unfold nxB at h
  unfold byT
  by_cases h0 : b = 0
  · rw [if_pos h0, Bool.and_eq_true, decide_eq_true_eq] at h
    rw [if_pos h0]
    have := zL_rng T he ⟨hk, h.1⟩
    omega
  · rw [if_neg h0]
    have hM := T.2.2.2.2.2.2.1 (b - 1) (by omega) (by omega)
    have hsg := hM.2.2.1
    have hc : ∀ s : Nat, s < 10 → 0 ≤ cs 600 (s : Int) ∧ cs 600 (s : Int) < 255 := by decide +kernel
    have := hc (E 602 (11 * (b - 1))).toNat (by omega)
    rw [show (((E 602 (11 * (b - 1))).toNat : Nat) : Int) = E 602 (11 * (b - 1)) by omega] at this
    exact this
theorem sLex {k last k' last' : Int} (hl : 0 ≤ last ∧ last < 25) (hl' : 0 ≤ last' ∧ last' < 25) (h : 25 * k + last = 25 * k' + last') : k = k' ∧ last = last' := by omega
theorem c138 {E m : Mm} {K : Int → Mm → Prop} {t e x : Int} {d : Nat} {H : hS} (T : InvT E) (Tt : CT E m t) (he : 0 ≤ e ∧ e < E 602 579) (hd : d < 9) (Ed : EdC E m e d) (hx : m 581 4 = x) (hxx : x = 593 ∨ x = 594) (R : RepC E m e x H) (hex : ∃ u, goS (E 602) e d H u) (kk : ∀ v, lsT (E 602) e d H v → K v m) : TrI 138 [(1, 581), (1, t), (1, t + 54 + 2 * e), (0, (d : Int))] m K := by
  have T2 := T.2.1
  have zr := zsz_rng T he
  have ce := Tt.2.2.2.2.2.2.2.1 e he.1 he.2
  refine e138 _ _ _ Tt.shp ce.1 ?_
  -- what is known of the least byte, where all pairs ahead of one have been looked at
  have fin : ∀ v : Int, (v = 255 ∨ ∃ k last b, GdC E m e x d k last b ∧ byT (E 602) e k b = v) → (∀ k last b, GdC E m e x d k last b → v ≤ byT (E 602) e k b) → K v m := by
    intro v hv hall
    refine kk v ⟨?_, fun u hu => ?_⟩
    · rcases hv with hv | hv
      · obtain ⟨u, hu⟩ := hex
        obtain ⟨k, last, b, g, hb⟩ := (go_Gd R).mp hu
        have h1 := hall k last b g
        have h2 := by_rng T he g.1.1 g.2.2.1 g.2.2.2.2.1
        omega
      · exact (go_Gd R).mpr hv
    · obtain ⟨k, last, b, g, hb⟩ := (go_Gd R).mp hu
      rw [← hb]
      exact hall k last b g
  have states : ∀ (n s : Nat) (v : Int) (v6 v7 : aV), s + n = 225 → (v = 255 ∨ ∃ k last b, GdC E m e x d k last b ∧ byT (E 602) e k b = v) → (∀ k last b, GdC E m e x d k last b → 25 * k + last < (s : Int) → v ≤ byT (E 602) e k b) → X 138 8 [(1, 581), (1, t), (1, t + 54 + 2 * e), (0, (d : Int)), (0, v), (0, (s : Int)), v6, v7] [] m (qI K) := by
    intro n
    induction n with
    | zero =>
      intro s v v6 v7 hs hv hall
      exact w138_8 _ _ _ _ _ v6 v7 Tt.shp ce.1 ⟨fun h => absurd h (by omega), fun _ => fin v hv fun k last b g => hall k last b g (by
        have := g.1
        have := g.2.1
        omega)⟩
    | succ n ih =>
      intro s v v6 v7 hs hv hall
      refine w138_8 _ _ _ _ _ v6 v7 Tt.shp ce.1 ⟨fun _ => ?_, fun h => absurd (show (s : Int) < 225 by omega) h⟩
      have qs : Unit → wr ((s : Int) + 1) = ((s + 1 : Nat) : Int) := fun _ => wrI (by omega) (by omega)
      -- if the state doesn't stand, no byte of it counts
      have skip : m x (s : Int) = 0 → ∀ v6 v7, X 138 8 [(1, 581), (1, t), (1, t + 54 + 2 * e), (0, (d : Int)), (0, v), (0, ((s + 1 : Nat) : Int)), v6, v7] [] m (qI K) := fun h0 v6 v7 => ih (s + 1) v v6 v7 (by omega) hv fun k last b g hlt => by
        by_cases hq : 25 * k + last = (s : Int)
        · have := g.2.2.2.1
          rw [hq, h0] at this
          exact absurd this (by decide)
        · exact hall k last b g (by omega)
      rcases R.1 s (by omega) (by omega) with h0 | ⟨h1, k, last, hk, hl, hs2⟩
      · refine w138_19 _ _ _ _ _ _ v7 Tt.shp ce.1 ⟨fun _ => ?_, fun _ => ⟨by rw [hx]; exact b_slot hxx (by omega), fun _ => ?_, fun h => absurd (by rw [hx]; exact h0) h⟩⟩
        · rw [qs ()]
          exact skip h0 _ _
        · rw [qs ()]
          exact skip h0 _ _
      · have bys : ∀ (n b : Nat) (v : Int) (v7 : aV), (b : Int) + n = E 602 578 + 1 → (v = 255 ∨ ∃ k last b, GdC E m e x d k last b ∧ byT (E 602) e k b = v) → (∀ k' last' b', GdC E m e x d k' last' b' → (25 * k' + last' < (s : Int) ∨ (25 * k' + last' = (s : Int) ∧ b' < (b : Int))) → v ≤ byT (E 602) e k' b') → X 138 19 [(1, 581), (1, t), (1, t + 54 + 2 * e), (0, (d : Int)), (0, v), (0, (s : Int)), (0, (b : Int)), v7] [] m (qI K) := by
          intro n
          induction n with
          | zero =>
            intro b v v7 hb hv hall
            refine w138_19 _ _ _ _ _ _ v7 Tt.shp ce.1 ⟨fun _ => ?_, fun h => absurd (show (b : Int) > m t 5 by rw [Tt.2.1]; omega) h⟩
            rw [qs ()]
            exact ih (s + 1) v _ _ (by omega) hv fun k' last' b' g hlt => hall k' last' b' g (by
              have := g.2.2.1
              omega)
          | succ n ihb =>
            intro b v v7 hb hv hall
            have hbb : 0 ≤ (b : Int) ∧ (b : Int) ≤ E 602 578 := by omega
            have qb : Unit → wr ((b : Int) + 1) = ((b + 1 : Nat) : Int) := fun _ => wrI (by omega) (by omega)
            refine w138_19 _ _ _ _ _ _ v7 Tt.shp ce.1 ⟨fun h => absurd h (by rw [Tt.2.1]; omega), fun _ => ⟨by rw [hx]; exact b_slot hxx (by omega), fun h => absurd (by rw [hx]; exact h1) (fun q : m (m 581 4) (s : Int) = 1 => by rw [h] at q; exact absurd q (by decide)), fun _ => ?_⟩⟩
            rw [qb (), hs2]
            -- no change where the pair doesn't count
            have none_ : ¬ GdC E m e x d k last b → ∀ v7, X 138 19 [(1, 581), (1, t), (1, t + 54 + 2 * e), (0, (d : Int)), (0, v), (0, 25 * k + last), (0, ((b + 1 : Nat) : Int)), v7] [] m (qI K) := fun hn v7 => by
              rw [← hs2]
              refine ihb (b + 1) v v7 (by omega) hv fun k' last' b' g hlt => ?_
              by_cases hq : 25 * k' + last' = (s : Int) ∧ b' = b
              · obtain ⟨p1, p2⟩ := sLex (k := k') (k' := k) (last := last') (last' := last) (by have := g.2.1; omega) (by omega) (by omega)
                rw [p1, p2, hq.2] at g
                exact absurd g hn
              · exact hall k' last' b' g (by omega)
            refine c135 T Tt he hk hl hbb (fun hxb => ?_) (fun hxb => ?_)
            · have nr := nx_rng T he hk.1 hbb hxb
              have ev := Ed _ _ nr.1.1 nr.1.2 hbb.1 hbb.2
              refine ⟨fun h => absurd h (by omega), fun _ => ⟨by omega, by omega, fun hr => ?_, fun hr => ?_⟩⟩
              · rw [ev] at hr
                have hRE : RE (E 602) e d (nxK (E 602) k b) (cdA (E 602) b) = true := by
                  split at hr
                  · assumption
                  · exact absurd hr (by decide)
                have g : GdC E m e x d k last b := ⟨hk, hl, hbb, by rw [← hs2]; exact h1, hxb, hRE⟩
                refine c139 T Tt he hk hl hbb hxb ?_
                rw [← hs2]
                refine ihb (b + 1) _ _ (by omega) ?_ fun k' last' b' g' hlt => ?_
                · by_cases hle : v ≤ byT (E 602) e k b
                  · rw [Int.min_eq_left hle]
                    exact hv
                  · rw [Int.min_eq_right (by omega)]
                    exact Or.inr ⟨k, last, b, g, rfl⟩
                · by_cases hq : 25 * k' + last' = (s : Int) ∧ b' = b
                  · obtain ⟨p1, p2⟩ := sLex (k := k') (k' := k) (last := last') (last' := last) (by have := g'.2.1; omega) (by omega) (by omega)
                    rw [p1, hq.2]
                    exact Int.min_le_right _ _
                  · exact Int.le_trans (Int.min_le_left _ _) (hall k' last' b' g' (by omega))
              · rw [ev] at hr
                exact none_ (fun g => hr (by rw [if_pos g.2.2.2.2.2])) _
            · exact ⟨fun _ => none_ (fun g => hxb g.2.2.2.2.1) _, fun h => absurd (by decide) h⟩
        exact bys (E 602 578 + 1).toNat 0 v v7 (by omega) hv fun k' last' b' g hlt => hall k' last' b' g (by
          have := g.2.2.1
          omega)
  exact states 225 0 255 (9, 0) (9, 0) (by decide) (Or.inl rfl) fun k last b g hlt => by
    have := g.1
    have := g.2.1
    omega
