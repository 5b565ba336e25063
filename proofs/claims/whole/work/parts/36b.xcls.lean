/-! the class's exact costs: weighExactSign(92), weighExact(91) -/
theorem stC_stM {E m : Mm} {x y r e k : Int} (hR : CR E m x r) (hE : CE E m y e) (hM : v_M E r) (hk : 0 ≤ k) : stC m x y k = true ↔ stM E r e k = true := by
  obtain ⟨-, -, h3, h4, -⟩ := hR
  obtain ⟨-, g2, -, -, g5⟩ := hE
  obtain ⟨-, -, -, b4, -⟩ := hM
  unfold stC stM
  rw [Bool.and_eq_true_iff, Bool.and_eq_true_iff, allN_t, allN_t, h3, g2]
  simp only [decide_eq_true_eq]
  unfold bsz esz
  constructor
  · rintro ⟨q1, q2⟩
    refine ⟨q1, fun i i0 i1 => ?_⟩
    have e1 := q2 i i0 i1
    rw [h4 i i0 (by omega), g5 (k + i) (by omega) (by omega)] at e1
    omega
  · rintro ⟨q1, q2⟩
    refine ⟨q1, fun i i0 i1 => ?_⟩
    have e1 := q2 i i0 i1
    rw [h4 i i0 (by omega), g5 (k + i) (by omega) (by omega)]
    omega
theorem cAt_las {E m : Mm} {y e k : Int} (hE : CE E m y e) (hk : 0 ≤ k ∧ k ≤ esz E e) : cAt m y (k - 1) = lasO E e k + 1 := by
  obtain ⟨-, g2, -, -, g5⟩ := hE
  unfold esz at hk
  unfold cAt lasO
  by_cases h : k = 0
  · rw [if_neg (by omega), if_pos h]
    rfl
  · rw [if_pos (by omega), if_neg h, g5 (k - 1) (by omega) (by omega)]
    omega
theorem lasO_rng {E : Mm} (T : InvT E) {e k : Int} (he : 0 ≤ e ∧ e < E 602 579) (hk : 0 ≤ k ∧ k ≤ esz E e) : -1 ≤ lasO E e k ∧ lasO E e k < 26 := by
  obtain ⟨g1, g2, g3, g4⟩ := T.2.2.2.2.2.2.2.1 e he.1 he.2
  unfold lasO
  split
  · decide
  · have := g4 (k - 1) (by omega) (by omega)
    omega
def CelC (E m : Mm) (w e : Int) (d : Nat) (k : Int) : Prop := m (400 + (E 604 w - d)) k = ex E w e d k
def RoXC (E m : Mm) (w e : Int) (d : Nat) : Prop := ∀ k, 0 ≤ k → k ≤ esz E e → CelC E m w e d k
theorem gX_eq {E : Mm} {w e k r : Int} {d : Nat} : gX E w e d k r = if fitM E r (lasO E e k) w (E 604 w - (d + 1 : Nat)) = true ∧ stM E r e k = true then wnow E r + ex E w e d (k + bsz E r) else 1000000 := by
  unfold gX
  by_cases h : fitM E r (lasO E e k) w (E 604 w - (d + 1 : Nat)) = true ∧ stM E r e k = true
  · rw [if_pos (Bool.and_eq_true_iff.mpr h), if_pos h]
  · rw [if_neg (fun q => h (Bool.and_eq_true_iff.mp q)), if_neg h]
theorem c92 {E m : Mm} {K : Mm → Prop} {t p w e k : Int} {d : Nat} (T : InvT E) (Pg : InvP E) (W : InvW E) (Tt : CT E m t) (Pp : CP E m p) (O : CO E m t) (hw : 0 ≤ w ∧ w < E 597 23) (he : 0 ≤ e ∧ e < E 602 579) (hd : (d + 1 : Nat) ≤ E 604 w) (hk : 0 ≤ k ∧ k ≤ esz E e) (R : RoXC E m w e d) (hs : ¬ E 603 (10 * w + (E 604 w - (d + 1 : Nat))) < 32)
    (kk : ∀ m', m' = umem m (400 + (E 604 w - (d + 1 : Nat))) k (ex E w e (d + 1) k) → K m') :
    TrV 92 [(1, 370), (1, p), (0, w), (0, E 604 w - (d + 1 : Nat)), (1, t + 54 + 2 * e), (0, k)] m K := by
  have P2 := (Pg.2 w hw.1 hw.2).1
  have P1 := Pg.1
  have T2 := T.2.1
  have T3 := T.2.2.1
  have h8 := (T.2.2.2.2.2.2.2.1 e he.1 he.2).1
  have hE := Tt.2.2.2.2.2.2.2.1 e he.1 he.2
  have hvE := hE.v T he
  have w10 : 0 ≤ w ∧ w < 10 := by omega
  have a10 : 0 ≤ E 604 w - ((d + 1 : Nat) : Int) ∧ E 604 w - ((d + 1 : Nat) : Int) < 10 := by omega
  have a11 : 0 ≤ E 604 w - ((d + 1 : Nat) : Int) ∧ E 604 w - ((d + 1 : Nat) : Int) < 11 := by omega
  have k8 : 0 ≤ k ∧ k ≤ 8 := by omega
  have k9 : 0 ≤ k ∧ k < 9 := by omega
  have q5 : wr (E 604 w - (d + 1 : Nat) + 1) = E 604 w - d := by
    rw [wrI (by omega) (by omega)]
    omega
  have q6 : 0 ≤ E 604 w - (d : Int) ∧ E 604 w - (d : Int) < 11 := by omega
  have hla := lasO_rng T he hk
  obtain ⟨pp1, pp2⟩ := (Pp.2.2 w hw.1 hw.2).2.2 (E 604 w - (d + 1 : Nat)) a10.1 (by omega)
  have hex : ex E w e (d + 1) k = minF (E 602 578).toNat (gX E w e d k) := by
    conv => lhs; unfold ex
    rw [if_neg hs]
    rfl
  refine e92 _ _ _ _ _ Pp.shp hE.1 ⟨hvE, ?_⟩
  rw [wrI (x := k - 1) (by omega) (by omega), cAt_las hE hk]
  have loop : ∀ (n r : Nat), r + n = (E 602 578).toNat → X 92 18 [(1, 370), (1, p), (0, w), (0, E 604 w - (d + 1 : Nat)), (1, t + 54 + 2 * e), (0, k), (0, lasO E e k + 1), (0, minF r (gX E w e d k)), (0, r)] [] m (qV K) := by
    intro n
    induction n with
    | zero =>
      intro r hr
      refine w92_18 _ _ _ _ _ _ _ _ Pp.shp hE.1 ⟨fun h => absurd h (by rw [O.1]; omega), fun _ => ⟨a11, k9, fun m7 e7 => kk m7 ?_⟩⟩
      rw [e7, hex, show r = (E 602 578).toNat by omega]
    | succ n ih =>
      intro r hr
      have hrE : (r : Int) < E 602 578 := by omega
      have r24 : (0 : Int) ≤ r ∧ (r : Int) < 24 := ⟨Int.natCast_nonneg r, Int.lt_of_lt_of_le hrE T2.2⟩
      have hrr : wr ((r : Int) + 1) = ((r + 1 : Nat) : Int) := wrI (by omega) (by omega)
      have hM : v_M E r := T.2.2.2.2.2.2.1 r r24.1 hrE
      have hR := Tt.2.2.2.2.2.2.1 r r24.1 hrE
      obtain ⟨o1, o2⟩ := O.2.2 r r24.1 hrE
      have hsu := suC_fit Pg Tt O hw (a := E 604 w - (d + 1 : Nat)) (by omega) hla ⟨r24.1, hrE⟩ hs
      have hst := stC_stM hR hE hM hk.1
      have s2 : minF (r + 1) (gX E w e d k) = min (minF r (gX E w e d k)) (gX E w e d k r) := rfl
      have p5 : minF r (gX E w e d k) ≤ 1000000 := minF_le
      have skip : gX E w e d k r = 1000000 → X 92 18 [(1, 370), (1, p), (0, w), (0, E 604 w - (d + 1 : Nat)), (1, t + 54 + 2 * e), (0, k), (0, lasO E e k + 1), (0, minF r (gX E w e d k)), (0, ((r + 1 : Nat) : Int))] [] m (qV K) := fun hg => by
        have := ih (r + 1) (by omega)
        rw [s2, hg, Int.min_eq_left p5] at this
        exact this
      refine w92_18 _ _ _ _ _ _ _ _ Pp.shp hE.1 ⟨fun _ => ?_, fun h => absurd (show (r : Int) < m 370 9 by rw [O.1]; exact hrE) h⟩
      rw [q5, Pp.code hw (a := E 604 w - d) (by omega), (pp2.1 hs).2, hrr, show E 604 w - (d : Int) = E 604 w - (d + 1 : Nat) + 1 by omega, hsu, o1, hst]
      refine ⟨w10, a10, by omega, ⟨r24, hR.1⟩, fun hf => ⟨r24, hR.1, ⟨hR.v hM, hvE, k8⟩, fun h2 => ?_, fun h2 => ?_⟩, fun hf => ?_⟩
      · have hg : gX E w e d k r = wnow E r + ex E w e d (k + bsz E r) := by rw [gX_eq, if_pos ⟨hf, h2⟩]
        have hle := stM_le h2
        have g4 := hM.2.2.2.1
        have hB : bsz E r = E 602 (11 * r + 1) := rfl
        have hc := R (k + bsz E r) (by omega) hle
        unfold CelC at hc
        have p7 := wnow_rng T W (r := r) r24.1 r24.2
        have p3 := ex_rng T W (w := w) (e := e) d (k + bsz E r)
        rw [hR.2.2.1, ← hB, wrI (x := k + bsz E r) (by omega) (by omega), show E 604 w - ((d + 1 : Nat) : Int) + 1 = E 604 w - d by omega, hc, o2, wrI (x := wnow E r + _) (by omega) (by omega), ← hg, ← s2]
        exact ⟨by omega, ih (r + 1) (by omega)⟩
      · exact skip (by rw [gX_eq, if_neg (fun h => h2 h.2)])
      · exact skip (by rw [gX_eq, if_neg (fun h => hf h.1)])
  exact loop (E 602 578).toNat 0 (by omega)
def f91 (m m' : Mm) : Prop := ∀ x k, ¬ (400 ≤ x ∧ x < 411) → m' x k = m x k
theorem f91.T {E m m' : Mm} {t : Int} (T : InvT E) (h : f91 m m') (c : CT E m t) : CT E m' t := c.fr T fun x k h1 h2 => h x k (by omega)
theorem f91.P {E m m' : Mm} {p : Int} (T : InvP E) (h : f91 m m') (c : CP E m p) : CP E m' p := c.fr T fun x k h1 h2 => h x k (by omega)
theorem f91.O {E m m' : Mm} {t : Int} (h : f91 m m') (c : CO E m t) : CO E m' t := c.fr fun x k h1 h2 => h x k (by omega)
theorem c91 {E m : Mm} {K : Int → Mm → Prop} {t p w e : Int} (T : InvT E) (Pg : InvP E) (W : InvW E) (Tt : CT E m t) (Pp : CP E m p) (O : CO E m t) (hw : 0 ≤ w ∧ w < E 597 23) (he : 0 ≤ e ∧ e < E 602 579)
    (kk : ∀ m', f91 m m' → (∀ d : Nat, (d : Int) ≤ E 604 w → RoXC E m' w e d) → K (ex E w e (E 604 w).toNat 0) m') : TrI 91 [(1, 370), (1, p), (0, w), (1, t + 54 + 2 * e)] m K := by
  have P2 := (Pg.2 w hw.1 hw.2).1
  have P1 := Pg.1
  have T3 := T.2.2.1
  have h8 := (T.2.2.2.2.2.2.2.1 e he.1 he.2).1
  have hE0 := Tt.2.2.2.2.2.2.2.1 e he.1 he.2
  have w10 : 0 ≤ w ∧ w < 10 := by omega
  have sz : ∀ m1, f91 m m1 → m1 (t + 54 + 2 * e) 1 = esz E e := fun m1 f1 => ((f1.T T Tt).2.2.2.2.2.2.2.1 e he.1 he.2).2.1
  have outer : ∀ (n d : Nat) (m1 : Mm) (v6 v7 v8 : aV), d + n = (E 604 w).toNat → f91 m m1 → (∀ d' : Nat, d' ≤ d → RoXC E m1 w e d') → X 91 57 [(1, 370), (1, p), (0, w), (1, t + 54 + 2 * e), (0, E 604 w), (0, E 604 w - d - 1), v6, v7, v8] [] m1 (qI K) := by
    intro n
    induction n with
    | zero =>
      intro d m1 v6 v7 v8 hd f R
      refine w91_57 _ _ _ _ _ v6 v7 v8 Pp.shp hE0.1 ⟨fun _ => ?_, fun h => absurd (show E 604 w - (d : Int) - 1 < 0 by omega) h⟩
      have := R (E 604 w).toNat (by omega) 0 (by omega) (by omega)
      unfold CelC at this
      rw [show 400 + (E 604 w - ((E 604 w).toNat : Int)) = 400 by omega] at this
      rw [this]
      exact kk m1 f fun d' hd' => R d' (by omega)
    | succ n ih =>
      intro d m1 v6 v7 v8 hd f R
      have Pm := f.P Pg Pp
      have a10 : 0 ≤ E 604 w - (d : Int) - 1 ∧ E 604 w - (d : Int) - 1 < 10 := by omega
      have a11 : 0 ≤ E 604 w - (d : Int) - 1 ∧ E 604 w - (d : Int) - 1 < 11 := by omega
      have q5 : wr (E 604 w - (d : Int) - 1 + 1) = E 604 w - d := by
        rw [wrI (by omega) (by omega)]
        omega
      have q6 : 0 ≤ E 604 w - (d : Int) ∧ E 604 w - (d : Int) < 11 := by omega
      have q7 : E 604 w - ((d + 1 : Nat) : Int) = E 604 w - d - 1 := by omega
      have hb := (Pg.2 w hw.1 hw.2).2 (E 604 w - d - 1) a10.1 (by omega)
      refine w91_57 _ _ _ _ _ v6 v7 v8 Pp.shp hE0.1 ⟨fun h => absurd h (by omega), fun _ => ⟨w10, a11, ?_⟩⟩
      rw [Pm.code hw (by omega)]
      have hN : nxA E w (E 604 w - d - 1) = if E 603 (10 * w + (E 604 w - d - 1)) < 32 then E 603 (10 * w + (E 604 w - d - 1)) + 1 else 27 := by
        unfold nxA
        rw [if_pos (by omega)]
      have inner : ∀ (j : Nat) (k : Int) (m2 : Mm) (v8 : aV), 0 ≤ k → k + j = esz E e + 1 → f91 m m2 → (∀ d' : Nat, d' ≤ d → RoXC E m2 w e d') → (∀ k', 0 ≤ k' → k' < k → CelC E m2 w e (d + 1) k') → X 91 76 [(1, 370), (1, p), (0, w), (1, t + 54 + 2 * e), (0, E 604 w), (0, E 604 w - d - 1), (0, nxA E w (E 604 w - d - 1)), (0, k), v8] [] m2 (qI K) := by
        intro j
        induction j with
        | zero =>
          intro k m2 v8 h1 h2 f2 R2 C2
          refine w91_76 _ _ _ _ _ _ _ v8 Pp.shp hE0.1 (by simp) ⟨fun _ => ?_, fun h => absurd (show k > m2 (t + 54 + 2 * e) 1 by rw [sz m2 f2]; omega) h⟩
          rw [wrI (x := E 604 w - d - 1 + -1) (by omega) (by omega), show E 604 w - (d : Int) - 1 + -1 = E 604 w - (d + 1 : Nat) - 1 by omega]
          refine ih (d + 1) m2 _ _ _ (by omega) f2 fun d' hd' => ?_
          by_cases hx : d' = d + 1
          · subst hx
            exact fun k' q1 q2 => C2 k' q1 (by omega)
          · exact R2 d' (by omega)
        | succ j ihj =>
          intro k m2 v8 h1 h2 f2 R2 C2
          have hkk : 0 ≤ k ∧ k ≤ esz E e := by omega
          have P2m := f2.P Pg Pp
          have hE2 := (f2.T T Tt).2.2.2.2.2.2.2.1 e he.1 he.2
          have hlast : ∀ (m3 : Mm) v8, m3 = umem m2 (400 + (E 604 w - d - 1)) k (ex E w e (d + 1) k) → X 91 76 [(1, 370), (1, p), (0, w), (1, t + 54 + 2 * e), (0, E 604 w), (0, E 604 w - d - 1), (0, nxA E w (E 604 w - d - 1)), (0, wr (k + 1)), v8] [] m3 (qI K) := fun m3 v8 e3 => by
            rw [wrI (x := k + 1) (by omega) (by omega)]
            refine ihj (k + 1) m3 v8 (by omega) (by omega) (fun x k' q1 => ?_) (fun d' hd' k' q1 q2 => ?_) fun k' q1 q2 => ?_
            · rw [e3, um_x (by omega)]
              exact f2 x k' q1
            · unfold CelC
              rw [e3, um_x (by omega)]
              exact R2 d' hd' k' q1 q2
            · unfold CelC
              rw [q7]
              by_cases hx : k' = k
              · subst hx
                rw [e3, um_s]
              · rw [e3, um_k hx]
                have := C2 k' q1 (by omega)
                unfold CelC at this
                rw [q7] at this
                exact this
          refine w91_76 _ _ _ _ _ _ _ v8 Pp.shp hE0.1 (by simp) ⟨fun h => absurd h (by rw [sz m2 f2]; omega), fun _ => ⟨fun hc => ?_, fun hc => ?_⟩⟩
          · have hs : ¬ E 603 (10 * w + (E 604 w - d - 1)) < 32 := fun hs => by
              rw [hN, if_pos hs] at hc
              omega
            have := c92 (K := fun m15 => X 91 76 [(1, 370), (1, p), (0, w), (1, t + 54 + 2 * e), (0, E 604 w), (0, E 604 w - d - 1), (0, nxA E w (E 604 w - d - 1)), (0, wr (k + 1)), v8] [] m15 (qI K)) (d := d) T Pg W (f2.T T Tt) P2m (f2.O O) hw he (by omega) hkk (R2 d (Nat.le_refl _)) (by rw [q7]; exact hs) (by rw [q7]; exact fun m' e' => hlast m' v8 e')
            rw [q7] at this
            exact this
          · have hs : E 603 (10 * w + (E 604 w - d - 1)) < 32 := Classical.byContradiction fun hs => hc (by rw [hN, if_neg hs])
            have hby := ((P2m.2.2 w hw.1 hw.2).2.2 (E 604 w - d - 1) a10.1 (by omega)).2.2
            unfold byB at hby
            rw [if_pos hs] at hby
            have hex : ex E w e (d + 1) k = if k < esz E e ∧ eL E e k = E 603 (10 * w + (E 604 w - d - 1)) then ex E w e d (k + 1) else 1000000 := by
              conv => lhs; unfold ex
              rw [q7, if_pos hs]
            have k9 : 0 ≤ k ∧ k < 9 := by omega
            have no : ¬ (k < esz E e ∧ eL E e k = E 603 (10 * w + (E 604 w - d - 1))) → X 91 139 [(1, 370), (1, p), (0, w), (1, t + 54 + 2 * e), (0, E 604 w), (0, E 604 w - d - 1), (0, nxA E w (E 604 w - d - 1)), (0, k), v8] [(0, 0)] m2 (qI K) := fun hn => by
              refine w91_139 _ _ _ _ _ _ _ v8 _ Pp.shp hE0.1 ⟨a11, fun _ => ⟨k9, fun m7 e7 => hlast m7 _ ?_⟩, fun h => absurd rfl h⟩
              rw [e7, hex, if_neg hn]
            rw [sz m2 f2]
            refine ⟨fun hlt => ⟨by omega, w10, a10, ?_⟩, fun hge => no fun h => hge h.1⟩
            rw [hE2.2.2.2.2 k h1 hlt, hby]
            refine ⟨fun heq => ?_, fun hne => no fun h => hne (by unfold eL at h; omega)⟩
            refine w91_139 _ _ _ _ _ _ _ v8 _ Pp.shp hE0.1 ⟨a11, fun h => absurd h (by decide), fun _ => ?_⟩
            rw [q5, wrI (x := k + 1) (by omega) (by omega)]
            have hcc := R2 d (Nat.le_refl _) (k + 1) (by omega) (by omega)
            unfold CelC at hcc
            rw [hcc]
            refine ⟨q6, by omega, k9, fun m15 e15 => ?_⟩
            have := hlast m15 (0, 1) (by rw [e15, hex, if_pos ⟨hlt, by unfold eL; omega⟩])
            rw [wrI (x := k + 1) (by omega) (by omega)] at this
            exact this
      exact inner (esz E e + 1).toNat 0 m1 v8 (Int.le_refl _) (by omega) f R fun k' q1 q2 => by omega
  refine e91 _ _ _ Pp.shp hE0.1 ⟨w10, ?_⟩
  rw [(Pp.2.2 w hw.1 hw.2).1]
  have first : ∀ (j : Nat) (k : Int) (m1 : Mm), 0 ≤ k → k + j = esz E e + 1 → f91 m m1 → (∀ k', 0 ≤ k' → k' < k → CelC E m1 w e 0 k') → X 91 11 [(1, 370), (1, p), (0, w), (1, t + 54 + 2 * e), (0, E 604 w), (0, k), (9, 0), (9, 0), (9, 0)] [] m1 (qI K) := by
    intro j
    induction j with
    | zero =>
      intro k m1 h1 h2 f1 C1
      refine w91_11 _ _ _ _ _ _ _ _ Pp.shp hE0.1 ⟨fun _ => ?_, fun h => absurd (show k > m1 (t + 54 + 2 * e) 1 by rw [sz m1 f1]; omega) h⟩
      rw [wrI (x := E 604 w - 1) (by omega) (by omega)]
      have := outer (E 604 w).toNat 0 m1 (9, 0) (9, 0) (9, 0) (by omega) f1 (fun d' hd' => by
        have : d' = 0 := by omega
        subst this
        exact fun k' q1 q2 => C1 k' q1 (by omega))
      rw [show E 604 w - ((0 : Nat) : Int) - 1 = E 604 w - 1 by omega] at this
      exact this
    | succ j ihj =>
      intro k m1 h1 h2 f1 C1
      have go : ∀ m2 : Mm, m2 = umem m1 (400 + E 604 w) k (ex E w e 0 k) → X 91 11 [(1, 370), (1, p), (0, w), (1, t + 54 + 2 * e), (0, E 604 w), (0, k + 1), (9, 0), (9, 0), (9, 0)] [] m2 (qI K) := fun m2 e2 => by
        refine ihj (k + 1) m2 (by omega) (by omega) (fun x k' q1 => ?_) fun k' q1 q2 => ?_
        · rw [e2, um_x (by omega)]
          exact f1 x k' q1
        · unfold CelC
          rw [show E 604 w - ((0 : Nat) : Int) = E 604 w by omega]
          by_cases hx : k' = k
          · subst hx
            rw [e2, um_s]
          · rw [e2, um_k hx]
            have := C1 k' q1 (by omega)
            unfold CelC at this
            rw [show E 604 w - ((0 : Nat) : Int) = E 604 w by omega] at this
            exact this
      refine w91_11 _ _ _ _ _ _ _ _ Pp.shp hE0.1 ⟨fun h => absurd h (by rw [sz m1 f1]; omega), fun _ => ?_⟩
      rw [sz m1 f1, wrI (x := k + 1) (by omega) (by omega)]
      refine ⟨by omega, fun hk => ⟨by omega, fun m13 e13 => go m13 ?_⟩, fun hk => ⟨by omega, fun m9 e9 => go m9 ?_⟩⟩
      · rw [e13]
        unfold ex
        rw [if_pos hk]
      · rw [e9]
        unfold ex
        rw [if_neg hk]
  exact first (esz E e + 1).toNat 0 m (Int.le_refl _) (by omega) (fun _ _ _ => rfl) fun k' q1 q2 => by omega
