/-! the class: spell(136), solve(130); shortest(129), shortByte(140) -/
/-- the state that a pair leads to -/
def toC (E : Mm) (k b : Int) : Int := 25 * nxK (E 602) k b + b
theorem c136 {E m : Mm} {K : Mm → Prop} {t e : Int} {N : Nat} (T : InvT E) (Tt : CT E m t) (he : 0 ≤ e ∧ e < E 602 579) (hN : N ≤ 8) (Ed : ∀ d : Nat, d ≤ N → EdC E m e d) (hR0 : RE (E 602) e N 0 0 = true) (hsz : m 581 1 = N) (hpp : (m 581 4 = 593 ∧ m 581 5 = 594) ∨ (m 581 4 = 594 ∧ m 581 5 = 593))
    (kk : ∀ m' l, (∀ x k, ¬ (x = 581 ∧ (k = 4 ∨ k = 5)) → x ≠ 582 → x ≠ 593 → x ≠ 594 → m' x k = m x k) → ((m' 581 4 = 593 ∧ m' 581 5 = 594) ∨ (m' 581 4 = 594 ∧ m' 581 5 = 593)) → l.length = N → LA m' 582 0 l → Sp (E 602) e N H0 l → K m') : TrV 136 [(1, 581), (1, t), (1, t + 54 + 2 * e)] m K := by
  have T2 := T.2.1
  have T3 := T.2.2.1
  have zr := zsz_rng T he
  have ce := Tt.2.2.2.2.2.2.2.1 e he.1 he.2
  have tt := Tt.1
  have fT : ∀ m1 : Mm, (∀ x k, ¬ (x = 581 ∧ (k = 4 ∨ k = 5)) → x ≠ 582 → x ≠ 593 → x ≠ 594 → m1 x k = m x k) → CT E m1 t := fun m1 f => Tt.fr T fun x k x0 x1 => f x k (by omega) (by omega) (by omega) (by omega)
  have fE : ∀ m1 : Mm, (∀ x k, ¬ (x = 581 ∧ (k = 4 ∨ k = 5)) → x ≠ 582 → x ≠ 593 → x ≠ 594 → m1 x k = m x k) → ∀ d : Nat, d ≤ N → EdC E m1 e d := fun m1 f d hd => (Ed d hd).fr fun k => f _ _ (by omega) (by omega) (by omega) (by omega)
  -- the byte after byte
  have outer : ∀ (rem j : Nat) (m1 : Mm) (H : hS) (pre : List Int) (v4 v5 v6 v7 v8 : aV), j + rem = N → (∀ x k, ¬ (x = 581 ∧ (k = 4 ∨ k = 5)) → x ≠ 582 → x ≠ 593 → x ≠ 594 → m1 x k = m x k) → ((m1 581 4 = 593 ∧ m1 581 5 = 594) ∨ (m1 581 4 = 594 ∧ m1 581 5 = 593)) → RepC E m1 e (m1 581 4) H → (∃ k c, H k c ∧ 0 ≤ k ∧ RE (E 602) e rem k c = true) → pre.length = j → LA m1 582 0 pre → (∀ tl, Sp (E 602) e rem H tl → Sp (E 602) e N H0 (pre ++ tl)) → X 136 16 [(1, 581), (1, t), (1, t + 54 + 2 * e), (0, (j : Int)), v4, v5, v6, v7, v8] [] m1 (qV K) := by
    intro rem
    induction rem with
    | zero =>
      intro j m1 H pre v4 v5 v6 v7 v8 hj f pp R hx hl L hS
      refine w136_16 _ _ _ v4 v5 v6 v7 v8 Tt.shp ce.1 ⟨fun h => absurd h (by rw [f 581 1 (by decide) (by decide) (by decide) (by decide), hsz]; omega), fun _ => ?_⟩
      have := hS [] rfl
      rw [List.append_nil] at this
      exact kk m1 pre f pp (by omega) L this
    | succ d ih =>
      intro j m1 H pre v4 v5 v6 v7 v8 hj f pp R hx hl L hS
      have hsz1 : m1 581 1 = N := by rw [f 581 1 (by decide) (by decide) (by decide) (by decide)]; exact hsz
      have hjN : 0 ≤ (j : Int) ∧ (j : Int) < 8 := by omega
      refine w136_16 _ _ _ v4 v5 v6 v7 v8 Tt.shp ce.1 ⟨fun _ => ?_, fun h => absurd (show (j : Int) < m1 581 1 by rw [hsz1]; omega) h⟩
      have q : wr (wr ((N : Int) - 1) - j) = (d : Int) := by
        rw [wrI (x := (N : Int) - 1) (by omega) (by omega), wrI (by omega) (by omega)]
        omega
      rw [hsz1, q]
      clear q
      obtain ⟨x, hxv⟩ : ∃ x, m1 581 4 = x := ⟨_, rfl⟩
      obtain ⟨y, hyv⟩ : ∃ y, m1 581 5 = y := ⟨_, rfl⟩
      rw [hxv] at R
      have hxy : (x = 593 ∧ y = 594) ∨ (x = 594 ∧ y = 593) := by omega
      have hxx : x = 593 ∨ x = 594 := by omega
      have hyy : y = 593 ∨ y = 594 := by omega
      have hex : ∃ u, goS (E 602) e d H u := by
        obtain ⟨k, c, hH, hk0, hR⟩ := hx
        obtain ⟨b, b0, b1, b2, b3⟩ := (RE_by T2.1).mp hR
        exact ⟨_, k, c, b, hH, ⟨b0, b1⟩, b2, b3, rfl⟩
      refine c138 T (fT m1 f) he (by omega) (fE m1 f d (by omega)) hxv hxx R hex fun v hv => ⟨hjN, fun m8 e8 => ?_⟩
      have y8 : m8 581 5 = y := by rw [e8, um_x (by decide)]; exact hyv
      rw [y8]
      refine c137 hyy fun m10 f10 Z10 => ?_
      -- states of m10: as in m1, but for the letters and the cleared row
      have f1m : ∀ s, m10 x s = m1 x s := fun s => by rw [f10 _ _ (by omega), e8, um_x (by omega)]
      have fr10 : ∀ z s, ¬ (z = 581 ∧ (s = 4 ∨ s = 5)) → z ≠ 582 → z ≠ 593 → z ≠ 594 → m10 z s = m z s := fun z s n1 n2 n3 n4 => by rw [f10 _ _ (by omega), e8, um_x (by omega)]; exact f z s n1 n2 n3 n4
      have cT : CT E m10 t := fT m10 fr10
      have cE' := fE m10 fr10 d (by omega)
      have x10 : m10 581 4 = x := by rw [f10 _ _ (by omega), e8, um_x (by decide)]; exact hxv
      have y10 : m10 581 5 = y := by rw [f10 _ _ (by omega), e8, um_x (by decide)]; exact hyv
      have sy : shp y = 2 ∧ ∀ s, 0 ≤ s ∧ s < 225 → slot y s = some none := ⟨(b_slot hyy (s := 0) (by decide)).1, fun s hs => (b_slot hyy hs).2⟩
      have sx : shp x = 2 ∧ ∀ s, 0 ≤ s ∧ s < 225 → slot x s = some none := ⟨(b_slot hxx (s := 0) (by decide)).1, fun s hs => (b_slot hxx hs).2⟩
      have Rx : ∀ m2 : Mm, (∀ s, m2 x s = m1 x s) → RepC E m2 e x H := fun m2 h => by
        unfold RepC
        simp only [h]
        exact R
      -- the row there, where all pairs ahead of one have been looked at
      have end_ : ∀ m2 : Mm, (∀ z s, z ≠ y → m2 z s = m10 z s) → (∀ s, 0 ≤ s → s < 225 → (m2 y s = 0 ∧ ∀ k last b, GdC E m2 e x d k last b → byT (E 602) e k b = v → toC E k b ≠ s) ∨ (m2 y s = 1 ∧ ∃ k last b, GdC E m2 e x d k last b ∧ byT (E 602) e k b = v ∧ toC E k b = s)) → ∀ v7 v8 : aV, X 136 62 [(1, 581), (1, t), (1, t + 54 + 2 * e), (0, (j : Int)), (0, (d : Int)), (0, v), (0, 225), v7, v8] [] m2 (qV K) := by
        intro m2 f2 I v7 v8
        have x2 : m2 581 4 = x := by rw [f2 _ _ (by omega)]; exact x10
        have y2 : m2 581 5 = y := by rw [f2 _ _ (by omega)]; exact y10
        have qj : wr ((j : Int) + 1) = ((j + 1 : Nat) : Int) := wrI (by omega) (by omega)
        refine w136_62 _ _ _ _ _ _ v7 v8 Tt.shp ce.1 ⟨fun h => absurd h (by decide), fun _ => ?_⟩
        rw [qj, x2, y2]
        clear qj
        refine ⟨by omega, fun m5 e5 => fun m7 e7 => ?_⟩
        have z4 : m7 581 4 = y := by rw [e7, um_k (by decide), e5, um_s]
        have z5 : m7 581 5 = x := by rw [e7, um_s]
        have zz : ∀ z s, z ≠ 581 → m7 z s = m2 z s := fun z s hn => by rw [e7, um_x hn, e5, um_x hn]
        have R2 := Rx m2 fun s => by rw [f2 _ _ (by omega)]; exact f1m s
        refine ih (j + 1) m7 (stp (E 602) e d H v) (pre ++ [v]) _ _ _ v7 v8 (by omega) (fun z s n1 n2 n3 n4 => ?_) (by rw [z4, z5]; omega) ?_ ?_ ?_ ?_ ?_
        · rw [e7, um_n (by omega), e5, um_n (by omega), f2 _ _ (by omega)]
          exact fr10 z s n1 n2 n3 n4
        · rw [z4]
          refine ⟨fun s s0 s1 => ?_, fun k c => ?_⟩
          · rw [zz _ _ (by omega)]
            rcases I s s0 s1 with ⟨h, _⟩ | ⟨h, k, last, b, g, _, hto⟩
            · exact Or.inl h
            · have nr := nx_rng T he g.1.1 g.2.2.1 g.2.2.2.2.1
              exact Or.inr ⟨h, _, b, nr.1, g.2.2.1, hto.symm⟩
          · constructor
            · rintro ⟨k0, c0, b, hH, hb, hnx, hRE, hby, rfl, rfl⟩
              obtain ⟨last, hk, hl', hc, h1⟩ := (R2.2 k0 c0).mp hH
              rw [hc] at hnx
              have nr := nx_rng T he hk.1 hb hnx
              refine ⟨b, nr.1, hb, rfl, ?_⟩
              rw [zz _ _ (by omega)]
              rcases I (25 * nxK (E 602) k0 b + b) (by omega) (by omega) with ⟨_, h⟩ | ⟨h, _⟩
              · exact absurd rfl (h k0 last b ⟨hk, hl', hb, h1, hnx, hRE⟩ hby)
              · exact h
            · rintro ⟨last, hk, hl', hc, h1⟩
              rw [zz _ _ (by omega)] at h1
              rcases I (25 * k + last) (by omega) (by omega) with ⟨h, _⟩ | ⟨_, k0, last0, b, g, hby, hto⟩
              · rw [h] at h1
                exact absurd h1 (by decide)
              · have nr := nx_rng T he g.1.1 g.2.2.1 g.2.2.2.2.1
                unfold toC at hto
                obtain ⟨p1, p2⟩ := sLex (k := nxK (E 602) k0 b) (k' := k) (last := b) (last' := last) (by have := g.2.2.1; omega) (by omega) hto
                refine ⟨k0, _, b, (R2.2 k0 _).mpr ⟨last0, g.1, g.2.1, rfl, g.2.2.2.1⟩, g.2.2.1, g.2.2.2.2.1, g.2.2.2.2.2, hby, p1.symm, ?_⟩
                rw [hc, p2]
        · obtain ⟨k, c, b, hH, hb, hnx, hRE, hby⟩ := hv.1
          obtain ⟨last, hk, hl', hc, h1⟩ := (R2.2 k c).mp hH
          have nr := nx_rng T he hk.1 hb hnx
          exact ⟨_, _, ⟨k, c, b, hH, hb, hnx, hRE, hby, rfl, rfl⟩, nr.1.1, hRE⟩
        · rw [List.length_append, List.length_singleton]
          omega
        · refine (L.snoc (m' := m7) (fun s s0 s1 => ?_) ?_)
          · rw [zz _ _ (by decide), f2 _ _ (by omega), f10 _ _ (by omega), e8, um_k (by omega)]
          · rw [zz _ _ (by decide), f2 _ _ (by omega), f10 _ _ (by omega), e8, hl, um_s]
            omega
        · intro tl htl
          have := hS (v :: tl) ⟨v, tl, rfl, hv, htl⟩
          rw [List.append_assoc]
          exact this
      have states : ∀ (n s : Nat) (m2 : Mm) (v7 v8 : aV), s + n = 225 → (∀ z s, z ≠ y → m2 z s = m10 z s) → (∀ s', 0 ≤ s' → s' < 225 → (m2 y s' = 0 ∧ ∀ k last b, GdC E m2 e x d k last b → 25 * k + last < (s : Int) → byT (E 602) e k b = v → toC E k b ≠ s') ∨ (m2 y s' = 1 ∧ ∃ k last b, GdC E m2 e x d k last b ∧ byT (E 602) e k b = v ∧ toC E k b = s')) → X 136 62 [(1, 581), (1, t), (1, t + 54 + 2 * e), (0, (j : Int)), (0, (d : Int)), (0, v), (0, (s : Int)), v7, v8] [] m2 (qV K) := by
        intro n
        induction n with
        | zero =>
          intro s m2 v7 v8 hs f2 I
          have hs2 : s = 225 := by omega
          subst hs2
          exact end_ m2 f2 (fun s' s0 s1 => (I s' s0 s1).imp (fun h => ⟨h.1, fun k last b g hb => h.2 k last b g (by
            have := g.1
            have := g.2.1
            omega) hb⟩) fun h => h) v7 v8
        | succ n ihs =>
          intro s m2 v7 v8 hs f2 I
          have qs : Unit → wr ((s : Int) + 1) = ((s + 1 : Nat) : Int) := fun _ => wrI (by omega) (by omega)
          refine w136_62 _ _ _ _ _ _ v7 v8 Tt.shp ce.1 ⟨fun _ => ?_, fun h => absurd (show (s : Int) < 225 by omega) h⟩
          have cT2 : ∀ m3 : Mm, (∀ z s, z ≠ y → m3 z s = m10 z s) → CT E m3 t := fun m3 f3 => cT.fr T fun z s z0 z1 => f3 z s (by omega)
          have cE2 : ∀ m3 : Mm, (∀ z s, z ≠ y → m3 z s = m10 z s) → EdC E m3 e d := fun m3 f3 => cE'.fr fun s => f3 _ _ (by omega)
          have r5 : ∀ m3 : Mm, (∀ z s, z ≠ y → m3 z s = m10 z s) → m3 t 5 = E 602 578 := fun m3 f3 => (cT2 m3 f3).2.1
          have x4 : ∀ m3 : Mm, (∀ z s, z ≠ y → m3 z s = m10 z s) → m3 581 4 = x := fun m3 f3 => by rw [f3 _ _ (by omega)]; exact x10
          have y5 : ∀ m3 : Mm, (∀ z s, z ≠ y → m3 z s = m10 z s) → m3 581 5 = y := fun m3 f3 => by rw [f3 _ _ (by omega)]; exact y10
          have xs : ∀ m3 : Mm, (∀ z s, z ≠ y → m3 z s = m10 z s) → ∀ s, m3 x s = m1 x s := fun m3 f3 s => by rw [f3 _ _ (by omega)]; exact f1m s
          have gg : ∀ m3 m4 : Mm, (∀ z s, z ≠ y → m3 z s = m10 z s) → (∀ z s, z ≠ y → m4 z s = m10 z s) → ∀ k last b, GdC E m3 e x d k last b → GdC E m4 e x d k last b := fun m3 m4 f3 f4 k last b g => ⟨g.1, g.2.1, g.2.2.1, by rw [xs m4 f4, ← xs m3 f3]; exact g.2.2.2.1, g.2.2.2.2.1, g.2.2.2.2.2⟩
          rcases (Rx m2 (xs m2 f2)).1 s (by omega) (by omega) with h0 | ⟨h1, k, last, hk, hl', hs2⟩
          · have skip : ∀ v7 v8, X 136 62 [(1, 581), (1, t), (1, t + 54 + 2 * e), (0, (j : Int)), (0, (d : Int)), (0, v), (0, ((s + 1 : Nat) : Int)), v7, v8] [] m2 (qV K) := fun v7 v8 => ihs (s + 1) m2 v7 v8 (by omega) f2 fun s' s0 s1 => (I s' s0 s1).imp (fun h => ⟨h.1, fun k last b g hlt hb => by
              by_cases hq : 25 * k + last = (s : Int)
              · have := g.2.2.2.1
                rw [hq, h0] at this
                exact absurd this (by decide)
              · exact h.2 k last b g (by omega) hb⟩) fun h => h
            refine w136_73 _ _ _ _ _ _ _ v8 Tt.shp ce.1 ⟨fun _ => ?_, fun _ => ⟨by rw [x4 m2 f2]; exact ⟨sx.1, sx.2 s (by omega)⟩, fun _ => ?_, fun h => absurd (by rw [x4 m2 f2]; exact h0) h⟩⟩
            · rw [qs ()]
              exact skip _ _
            · rw [qs ()]
              exact skip _ _
          · have bys : ∀ (n b : Nat) (m3 : Mm) (v8 : aV), (b : Int) + n = E 602 578 + 1 → (∀ z s, z ≠ y → m3 z s = m10 z s) → (∀ s', 0 ≤ s' → s' < 225 → (m3 y s' = 0 ∧ ∀ k' last' b', GdC E m3 e x d k' last' b' → (25 * k' + last' < (s : Int) ∨ (25 * k' + last' = (s : Int) ∧ b' < (b : Int))) → byT (E 602) e k' b' = v → toC E k' b' ≠ s') ∨ (m3 y s' = 1 ∧ ∃ k last b, GdC E m3 e x d k last b ∧ byT (E 602) e k b = v ∧ toC E k b = s')) → X 136 73 [(1, 581), (1, t), (1, t + 54 + 2 * e), (0, (j : Int)), (0, (d : Int)), (0, v), (0, (s : Int)), (0, (b : Int)), v8] [] m3 (qV K) := by
              intro n
              induction n with
              | zero =>
                intro b m3 v8 hb f3 J
                refine w136_73 _ _ _ _ _ _ _ v8 Tt.shp ce.1 ⟨fun _ => ?_, fun h => absurd (show (b : Int) > m3 t 5 by rw [r5 m3 f3]; omega) h⟩
                rw [qs ()]
                exact ihs (s + 1) m3 _ _ (by omega) f3 fun s' s0 s1 => (J s' s0 s1).imp (fun h => ⟨h.1, fun k' last' b' g hlt hb' => h.2 k' last' b' g (by
                  have := g.2.2.1
                  omega) hb'⟩) fun h => h
              | succ n ihb =>
                intro b m3 v8 hb f3 J
                have hbb : 0 ≤ (b : Int) ∧ (b : Int) ≤ E 602 578 := by omega
                have qb : Unit → wr ((b : Int) + 1) = ((b + 1 : Nat) : Int) := fun _ => wrI (by omega) (by omega)
                have h13 : m3 x (s : Int) = 1 := by rw [xs m3 f3, ← xs m2 f2]; exact h1
                refine w136_73 _ _ _ _ _ _ _ v8 Tt.shp ce.1 ⟨fun h => absurd h (by rw [r5 m3 f3]; omega), fun _ => ⟨by rw [x4 m3 f3]; exact ⟨sx.1, sx.2 s (by omega)⟩, fun h => absurd h13 (by rw [← x4 m3 f3, h]; decide), fun _ => ?_⟩⟩
                rw [qb (), hs2]
                -- where the pair doesn't count
                have none_ : (¬ (GdC E m3 e x d k last b ∧ byT (E 602) e k b = v)) → ∀ v8, X 136 73 [(1, 581), (1, t), (1, t + 54 + 2 * e), (0, (j : Int)), (0, (d : Int)), (0, v), (0, 25 * k + last), (0, ((b + 1 : Nat) : Int)), v8] [] m3 (qV K) := fun hn v8 => by
                  rw [← hs2]
                  refine ihb (b + 1) m3 v8 (by omega) f3 fun s' s0 s1 => (J s' s0 s1).imp (fun h => ⟨h.1, fun k' last' b' g hlt hb' => ?_⟩) fun h => h
                  by_cases hq : 25 * k' + last' = (s : Int) ∧ b' = b
                  · obtain ⟨p1, p2⟩ := sLex (k := k') (k' := k) (last := last') (last' := last) (by have := g.2.1; omega) (by omega) (by omega)
                    rw [p1, p2, hq.2] at g
                    rw [p1, hq.2] at hb'
                    exact absurd ⟨g, hb'⟩ hn
                  · exact h.2 k' last' b' g (by omega) hb'
                refine c135 T (cT2 m3 f3) he hk hl' hbb (fun hxb => ?_) (fun hxb => ?_)
                · have nr := nx_rng T he hk.1 hbb hxb
                  have ev := cE2 m3 f3 _ _ nr.1.1 nr.1.2 hbb.1 hbb.2
                  refine ⟨fun h => absurd h (by omega), fun _ => ⟨by omega, by omega, fun hr => ?_, fun hr => ?_⟩⟩
                  · rw [ev] at hr
                    have hRE : RE (E 602) e d (nxK (E 602) k b) (cdA (E 602) b) = true := by
                      split at hr
                      · assumption
                      · exact absurd hr (by decide)
                    have g : GdC E m3 e x d k last b := ⟨hk, hl', hbb, by rw [← hs2]; exact h13, hxb, hRE⟩
                    refine c139 T (cT2 m3 f3) he hk hl' hbb hxb ⟨fun hby => ⟨?_, fun m25 e25 => ?_⟩, fun hby => none_ (fun z => hby z.2) _⟩
                    · rw [y5 m3 f3]
                      exact ⟨sy.1, sy.2 _ (by omega)⟩
                    · rw [y5 m3 f3] at e25
                      have f25 : ∀ z s, z ≠ y → m25 z s = m10 z s := fun z s hn => by rw [e25, um_x hn]; exact f3 z s hn
                      rw [← hs2]
                      refine ihb (b + 1) m25 _ (by omega) f25 fun s' s0 s1 => ?_
                      by_cases hto : s' = toC E k b
                      · refine Or.inr ⟨?_, k, last, b, gg m3 m25 f3 f25 _ _ _ g, hby, hto.symm⟩
                        rw [hto, e25]
                        exact um_s
                      · have e' : m25 y s' = m3 y s' := by rw [e25, um_k (show s' ≠ 25 * nxK (E 602) k b + b from hto)]
                        rw [e']
                        refine (J s' s0 s1).imp (fun h => ⟨h.1, fun k' last' b' g' hlt hb' => ?_⟩) fun h => ⟨h.1, ?_⟩
                        · have g3 := gg m25 m3 f25 f3 _ _ _ g'
                          by_cases hq : 25 * k' + last' = (s : Int) ∧ b' = b
                          · obtain ⟨p1, p2⟩ := sLex (k := k') (k' := k) (last := last') (last' := last) (by have := g'.2.1; omega) (by omega) (by omega)
                            rw [p1, hq.2]
                            exact fun z => hto z.symm
                          · exact h.2 k' last' b' g3 (by omega) hb'
                        · obtain ⟨k', last', b', g', z⟩ := h.2
                          exact ⟨k', last', b', gg m3 m25 f3 f25 _ _ _ g', z⟩
                  · rw [ev] at hr
                    exact none_ (fun z => hr (by rw [if_pos z.1.2.2.2.2.2])) _
                · exact ⟨fun _ => none_ (fun z => hxb z.1.2.2.2.2.1) _, fun h => absurd (by decide) h⟩
            refine bys (E 602 578 + 1).toNat 0 m2 v8 (by omega) f2 fun s' s0 s1 => (I s' s0 s1).imp (fun h => ⟨h.1, fun k' last' b' g hlt hb' => h.2 k' last' b' g (by
              have := g.2.2.1
              omega) hb'⟩) fun h => h
      exact states 225 0 m10 v7 v8 (by decide) (fun _ _ _ => rfl) fun s' s0 s1 => Or.inl ⟨Z10 s' s0 s1, fun k last b g hlt _ => by
        have := g.1
        have := g.2.1
        omega⟩
  obtain ⟨x, hxv⟩ : ∃ x, m 581 4 = x := ⟨_, rfl⟩
  have hxx : x = 593 ∨ x = 594 := by omega
  refine e136 _ _ Tt.shp ce.1 ?_
  rw [hxv]
  refine c137 hxx fun m1 f1 Z1 => ?_
  have x1 : m1 581 4 = x := by rw [f1 _ _ (by omega)]; exact hxv
  rw [x1]
  refine ⟨b_slot hxx (by decide), fun m5 e5 => ?_⟩
  have x5 : m5 581 4 = x := by rw [e5, um_x (by omega)]; exact x1
  refine outer N 0 m5 H0 [] (9, 0) (9, 0) (9, 0) (9, 0) (9, 0) (by omega) (fun z s n1 n2 n3 n4 => by rw [e5, um_x (by omega), f1 _ _ (by omega)]) ?_ ?_ ⟨0, 0, ⟨rfl, rfl⟩, Int.le_refl _, hR0⟩ rfl LA.nil fun tl h => h
  · rw [e5, um_x (by omega), um_x (by omega), f1 _ _ (by omega), f1 _ _ (by omega)]
    exact hpp
  · rw [x5]
    refine ⟨fun s s0 s1 => ?_, fun k c => ?_⟩
    · by_cases hs : s = 0
      · rw [hs, e5, um_s]
        exact Or.inr ⟨rfl, 0, 0, ⟨Int.le_refl _, by omega⟩, ⟨Int.le_refl _, T2.1⟩, rfl⟩
      · rw [e5, um_k hs]
        exact Or.inl (Z1 s s0 s1)
    · constructor
      · rintro ⟨rfl, rfl⟩
        refine ⟨0, ⟨Int.le_refl _, by omega⟩, ⟨Int.le_refl _, T2.1⟩, rfl, ?_⟩
        rw [e5]
        exact um_s
      · rintro ⟨last, hk, hl, hc, h1⟩
        by_cases hs : 25 * k + last = 0
        · obtain ⟨p1, p2⟩ := sLex (k := k) (k' := 0) (last := last) (last' := 0) (by omega) (by omega) hs
          rw [hc, p2]
          exact ⟨p1, rfl⟩
        · rw [e5, um_k hs, Z1 _ (by omega) (by omega)] at h1
          exact absurd h1 (by decide)
/-- solve(130) -/
theorem c130 {E m : Mm} {K : Mm → Prop} {t e : Int} (T : InvT E) (Tt : CT E m t) (he : 0 ≤ e ∧ e < E 602 579) (S : SS shS E m)
    (kk : ∀ m', (∀ x k, ¬ (581 ≤ x ∧ x < 595) → m' x k = m x k) → SS shS E m' → m' 581 1 = (shS (E 602) e).length → LA m' 582 0 (shS (E 602) e) → (shS (E 602) e).length ≤ 8 → K m') : TrV 130 [(1, 581), (1, t), (0, e)] m K := by
  have T2 := T.2.1
  have T3 := T.2.2.1
  have zr := zsz_rng T he
  have tt := Tt.1
  refine e130 _ _ Tt.shp ⟨fun h => ?_, fun h => ⟨by omega, fun m5 e5 => ?_⟩⟩
  · obtain ⟨s1, s2⟩ := S
    rcases s2 with s2 | ⟨s2, s3, s4, s5⟩
    · omega
    · refine kk m (fun _ _ _ => rfl) ⟨s1, Or.inr ⟨s2, s3, s4, s5⟩⟩ ?_ ?_ ?_
      · rw [← h]
        exact s3
      · rw [← h]
        exact s4
      · rw [← h]
        omega
  · have f5 : ∀ x k, ¬ (x = 581 ∧ k = 1) → m5 x k = m x k := fun x k hn => by rw [e5, um_n hn]
    have T5 : CT E m5 t := Tt.fr T fun x k x0 x1 => f5 x k (by omega)
    refine c131 T T5 he fun m7 f7 E7 => ?_
    have loop : ∀ (n N : Nat) (m1 : Mm), (N : Int) + n = zsz (E 602) e → (∀ x k, ¬ (581 ≤ x ∧ x < 595) → m1 x k = m x k) → ((m1 581 4 = 593 ∧ m1 581 5 = 594) ∨ (m1 581 4 = 594 ∧ m1 581 5 = 593)) → m1 581 1 = N → (∀ d : Nat, d ≤ N → EdC E m1 e d) → (∀ d : Nat, d < N → ¬ RE (E 602) e d 0 0 = true) → X 130 27 [(1, 581), (1, t), (0, e), (1, t + 54 + 2 * e)] [] m1 (qV K) := by
      intro n
      induction n with
      | zero =>
        intro N m1 hN f pp hsz Ed hno
        have T1 : CT E m1 t := Tt.fr T fun x k x0 x1 => f x k (by omega)
        have ce := T1.2.2.2.2.2.2.2.1 e he.1 he.2
        have z1 : m1 (t + 54 + 2 * e) 1 = zsz (E 602) e := ce.2.1
        have hRE : RE (E 602) e N 0 0 = true := RE_own T he N 0 (Int.le_refl _) (by omega)
        refine w130_27 _ _ _ Tt.shp ⟨by omega, ce.1, fun h => absurd h (by rw [hsz, z1]; omega), fun _ => ?_⟩
        refine c136 T T1 he (by omega) Ed hRE hsz pp fun m2 l f2 pp2 hl L2 hS => fun m9 e9 => ?_
        have hl' := shS_eq ⟨N, hRE, hno, hl, hS⟩
        have g1 : m9 581 1 = (shS (E 602) e).length := by rw [e9, um_k (by decide), f2 _ _ (by decide) (by decide) (by decide) (by decide), hsz, hl', hl]
        have g2 : LA m9 582 0 (shS (E 602) e) := by
          rw [hl', e9]
          exact L2.fr fun k _ _ => um_x (by decide)
        refine kk m9 (fun x k hn => ?_) ⟨?_, Or.inr ?_⟩ g1 g2 (by rw [hl', hl]; omega)
        · rw [e9, um_n (by omega), f2 _ _ (by omega) (by omega) (by omega) (by omega)]
          exact f x k hn
        · rw [e9, um_k (by decide), um_k (by decide)]
          exact pp2
        · have : m9 581 2 = e := by rw [e9, um_s]
          rw [this]
          exact ⟨he, g1, g2, by rw [g1, hl', hl]; omega⟩
      | succ n ih =>
        intro N m1 hN f pp hsz Ed hno
        have T1 : CT E m1 t := Tt.fr T fun x k x0 x1 => f x k (by omega)
        have ce := T1.2.2.2.2.2.2.2.1 e he.1 he.2
        have z1 : m1 (t + 54 + 2 * e) 1 = zsz (E 602) e := ce.2.1
        have q : wr ((N : Int) + 1) = ((N + 1 : Nat) : Int) := wrI (by omega) (by omega)
        have ev : m1 (584 + (N : Int)) 0 = if RE (E 602) e N 0 0 = true then 1 else 0 := by
          have := Ed N (Nat.le_refl _) 0 0 (Int.le_refl _) (by clear q; omega) (Int.le_refl _) T2.1
          exact this
        refine w130_27 _ _ _ Tt.shp ⟨by clear q; omega, ce.1, fun _ => ?_, fun h => absurd (show m1 581 1 < m1 (t + 54 + 2 * e) 1 by rw [hsz, z1]; clear q; omega) h⟩
        rw [hsz, q]
        clear q
        refine ⟨by omega, fun h0 => fun m19 e19 => ?_, fun h1 => ?_⟩
        · rw [ev] at h0
          have hnR : ¬ RE (E 602) e N 0 0 = true := fun z => by
            rw [if_pos z] at h0
            exact absurd h0 (by decide)
          have x19 : m19 581 1 = ((N + 1 : Nat) : Int) := by rw [e19, um_s]
          have f19 : ∀ x k, ¬ (x = 581 ∧ k = 1) → m19 x k = m1 x k := fun x k hn => by rw [e19, um_n hn]
          have T19 : CT E m19 t := T1.fr T fun x k x0 x1 => f19 x k (by omega)
          rw [x19]
          refine c134 T T19 he (by omega) ((Ed N (Nat.le_refl _)).fr fun k => f19 _ _ (by omega)) fun m21 f21 E21 => ?_
          refine ih (N + 1) m21 (by omega) (fun x k hn => by rw [f21 _ _ (by omega), f19 _ _ (by omega)]; exact f x k hn) ?_ ?_ (fun d hd => ?_) fun d hd => ?_
          · rw [f21 _ _ (by omega), f21 _ _ (by omega), f19 _ _ (by decide), f19 _ _ (by decide)]
            exact pp
          · rw [f21 _ _ (by omega)]
            exact x19
          · by_cases hdN : d = N + 1
            · rw [hdN]
              exact E21
            · exact (Ed d (by omega)).fr fun k => by rw [f21 _ _ (by omega), f19 _ _ (by omega)]
          · by_cases hdN : d = N
            · rw [hdN]
              exact hnR
            · exact hno d (by omega)
        · rw [ev] at h1
          have hRE : RE (E 602) e N 0 0 = true := by
            split at h1
            · assumption
            · exact absurd rfl h1
          refine c136 T T1 he (by omega) Ed hRE hsz pp fun m2 l f2 pp2 hl L2 hS => fun m9 e9 => ?_
          have hl' := shS_eq ⟨N, hRE, hno, hl, hS⟩
          have g1 : m9 581 1 = (shS (E 602) e).length := by rw [e9, um_k (by decide), f2 _ _ (by decide) (by decide) (by decide) (by decide), hsz, hl', hl]
          have g2 : LA m9 582 0 (shS (E 602) e) := by
            rw [hl', e9]
            exact L2.fr fun k _ _ => um_x (by decide)
          refine kk m9 (fun x k hn => ?_) ⟨?_, Or.inr ?_⟩ g1 g2 (by rw [hl', hl]; omega)
          · rw [e9, um_n (by omega), f2 _ _ (by omega) (by omega) (by omega) (by omega)]
            exact f x k hn
          · rw [e9, um_k (by decide), um_k (by decide)]
            exact pp2
          · have : m9 581 2 = e := by rw [e9, um_s]
            rw [this]
            exact ⟨he, g1, g2, by rw [g1, hl', hl]; omega⟩
    refine loop (zsz (E 602) e).toNat 0 m7 (by omega) (fun x k hn => by rw [f7 _ _ (by omega), f5 _ _ (by omega)]) ?_ ?_ (fun d hd => ?_) fun d hd => absurd hd (by omega)
    · rw [f7 _ _ (by decide), f7 _ _ (by decide), f5 _ _ (by decide), f5 _ _ (by decide)]
      exact S.1
    · rw [f7 _ _ (by decide), e5, um_s]
      rfl
    · have : d = 0 := by omega
      rw [this]
      exact E7
theorem shS_len {E m : Mm} {e : Int} (T : InvT E) (Tt : True) (he : 0 ≤ e ∧ e < E 602 579) (h : IsSh (E 602) e (shS (E 602) e)) : 1 ≤ (shS (E 602) e).length ∧ (shS (E 602) e).length ≤ 8 := by
  obtain ⟨N, h1, h2, h3, h4⟩ := h
  have zr := zsz_rng T he
  rw [h3]
  refine ⟨?_, ?_⟩
  · apply Classical.byContradiction
    intro hn
    have : N = 0 := by omega
    subst this
    unfold RE at h1
    rw [Bool.and_eq_true, decide_eq_true_eq] at h1
    omega
  · apply Classical.byContradiction
    intro hn
    exact h2 (zsz (E 602) e).toNat (by omega) (RE_own T he _ 0 (Int.le_refl _) (by omega))
