/-! the class's exact walk: firstExact(110), walkExact(109) -/
def f109 (m m' : Mm) : Prop := ∀ x k, ¬ (x = 371 ∨ (400 ≤ x ∧ x < 411)) → ¬ (x = 370 ∧ k = 2) → m' x k = m x k
theorem f109.T {E m m' : Mm} {t : Int} (T : InvT E) (h : f109 m m') (c : CT E m t) : CT E m' t := c.fr T fun x k h1 h2 => h x k (by omega) (by omega)
theorem f109.P {E m m' : Mm} {p : Int} (T : InvP E) (h : f109 m m') (c : CP E m p) : CP E m' p := c.fr T fun x k h1 h2 => h x k (by omega) (by omega)
theorem f109.O {E m m' : Mm} {t : Int} (h : f109 m m') (c : CO E m t) : CO E m' t := by
  obtain ⟨h1, h2, h3⟩ := c
  refine ⟨by rw [h _ _ (by omega) (by omega)]; exact h1, by rw [h _ _ (by omega) (by omega)]; exact h2, fun r r0 r1 => ?_⟩
  rw [h _ _ (by omega) (by omega), h _ _ (by omega) (by omega)]
  exact h3 r r0 r1
theorem c110 {E m : Mm} {K : Int → Mm → Prop} {t p w e k : Int} {d : Nat} (T : InvT E) (Pg : InvP E) (W : InvW E) (Tt : CT E m t) (Pp : CP E m p) (O : CO E m t) (hw : 0 ≤ w ∧ w < E 597 23) (he : 0 ≤ e ∧ e < E 602 579) (hd : (d + 1 : Nat) ≤ E 604 w) (hk : 0 ≤ k ∧ k ≤ esz E e) (R : ∀ d : Nat, (d : Int) ≤ E 604 w → RoXC E m w e d) (hs : ¬ E 603 (10 * w + (E 604 w - (d + 1 : Nat))) < 32) (hc : ex E w e (d + 1) k < 1000000)
    (kk : K (xst E w e d k) m) : TrI 110 [(1, 370), (1, p), (0, w), (0, E 604 w - (d + 1 : Nat)), (1, t + 54 + 2 * e), (0, k)] m K := by
  obtain ⟨x1, ⟨x2, x2'⟩, x3, x4⟩ := xst_ok hs hc
  have P2 := (Pg.2 w hw.1 hw.2).1
  have P1 := Pg.1
  have T2 := T.2.1
  have h8 := (T.2.2.2.2.2.2.2.1 e he.1 he.2).1
  have hE := Tt.2.2.2.2.2.2.2.1 e he.1 he.2
  have hvE := hE.v T he
  have w10 : 0 ≤ w ∧ w < 10 := by omega
  have a10 : 0 ≤ E 604 w - ((d + 1 : Nat) : Int) ∧ E 604 w - ((d + 1 : Nat) : Int) < 10 := by omega
  have a11 : 0 ≤ E 604 w - ((d + 1 : Nat) : Int) ∧ E 604 w - ((d + 1 : Nat) : Int) < 11 := by omega
  have k8 : 0 ≤ k ∧ k ≤ 8 := by omega
  have k9 : 0 ≤ k ∧ k < 9 := by omega
  have q5 : wr (E 604 w - (d + 1 : Nat) + 1) = E 604 w - d := by
    rw [wrI (by omega) (by omega)]
    omega
  have q6 : 0 ≤ E 604 w - (d : Int) ∧ E 604 w - (d : Int) < 11 := by omega
  have hla := lasO_rng T he hk
  obtain ⟨pp1, pp2⟩ := (Pp.2.2 w hw.1 hw.2).2.2 (E 604 w - (d + 1 : Nat)) a10.1 (by omega)
  refine e110 _ _ _ _ _ Pp.shp hE.1 ⟨hvE, ?_⟩
  rw [wrI (x := k - 1) (by omega) (by omega), cAt_las hE hk]
  have body : ∀ r : Nat, (r : Int) < E 602 578 → (gX E w e d k r = ex E w e (d + 1) k → K r m) → (gX E w e d k r ≠ ex E w e (d + 1) k → X 110 14 [(1, 370), (1, p), (0, w), (0, E 604 w - (d + 1 : Nat)), (1, t + 54 + 2 * e), (0, k), (0, lasO E e k + 1), (0, ((r + 1 : Nat) : Int))] [] m (qI K)) → X 110 14 [(1, 370), (1, p), (0, w), (0, E 604 w - (d + 1 : Nat)), (1, t + 54 + 2 * e), (0, k), (0, lasO E e k + 1), (0, r)] [] m (qI K) := by
    intro r hrE yes no
    have r24 : (0 : Int) ≤ r ∧ (r : Int) < 24 := ⟨Int.natCast_nonneg r, Int.lt_of_lt_of_le hrE T2.2⟩
    have hrr : wr ((r : Int) + 1) = ((r + 1 : Nat) : Int) := wrI (by omega) (by omega)
    have hM : v_M E r := T.2.2.2.2.2.2.1 r r24.1 hrE
    have hR := Tt.2.2.2.2.2.2.1 r r24.1 hrE
    obtain ⟨o1, o2⟩ := O.2.2 r r24.1 hrE
    have hsu := suC_fit Pg Tt O hw (a := E 604 w - (d + 1 : Nat)) (by omega) hla ⟨r24.1, hrE⟩ hs
    have hst := stC_stM hR hE hM hk.1
    refine w110_14 _ _ _ _ _ _ _ Pp.shp hE.1 ⟨fun _ => ?_, fun h => absurd (show (r : Int) < m 370 9 by rw [O.1]; exact hrE) h⟩
    rw [q5, Pp.code hw (a := E 604 w - d) (by omega), (pp2.1 hs).2, hrr, show E 604 w - (d : Int) = E 604 w - (d + 1 : Nat) + 1 by omega, hsu, o1, hst]
    refine ⟨w10, a10, by omega, ⟨r24, hR.1⟩, fun hf => ⟨r24, hR.1, ⟨hR.v hM, hvE, k8⟩, fun h2 => ?_, fun h2 => ?_⟩, fun hf => ?_⟩
    · have hg : gX E w e d k r = wnow E r + ex E w e d (k + bsz E r) := by rw [gX_eq, if_pos ⟨hf, h2⟩]
      have hle := stM_le h2
      have g4 := hM.2.2.2.1
      have hB : bsz E r = E 602 (11 * r + 1) := rfl
      have hcc := R d (by omega) (k + bsz E r) (by omega) hle
      have hc1 := R (d + 1) hd k hk.1 hk.2
      unfold CelC at hcc hc1
      have p7 := wnow_rng T W (r := r) r24.1 r24.2
      have p3 := ex_rng T W (w := w) (e := e) d (k + bsz E r)
      rw [hR.2.2.1, ← hB, wrI (x := k + bsz E r) (by omega) (by omega), show E 604 w - ((d + 1 : Nat) : Int) + 1 = E 604 w - d by omega, hcc, hc1, o2, wrI (x := wnow E r + _) (by omega) (by omega), ← hg]
      exact ⟨by omega, a11, k9, yes, no⟩
    · exact no (by rw [gX_eq, if_neg (fun h => h2 h.2)]; omega)
    · exact no (by rw [gX_eq, if_neg (fun h => hf h.1)]; omega)
  have search : ∀ (n r : Nat), r + n = (xst E w e d k).toNat → X 110 14 [(1, 370), (1, p), (0, w), (0, E 604 w - (d + 1 : Nat)), (1, t + 54 + 2 * e), (0, k), (0, lasO E e k + 1), (0, r)] [] m (qI K) := by
    intro n
    induction n with
    | zero =>
      intro r hr
      exact body r (by omega) (fun _ => by rw [show (r : Int) = xst E w e d k by omega]; exact kk) (fun h => absurd (by rw [show (r : Int) = xst E w e d k by omega]; exact x4) h)
    | succ n ihn =>
      intro r hr
      refine body r (by omega) (fun hg => ?_) (fun _ => ihn (r + 1) (by omega))
      have := fstN_lt (n := (E 602 578).toNat) (f := fun r => decide (gX E w e d k r = ex E w e (d + 1) k)) (i := r) (by omega) (by unfold xst at hr; omega)
      exact absurd hg (of_decide_eq_false this)
  exact search (xst E w e d k).toNat 0 (by omega)
theorem c109 {E m : Mm} {K : Mm → Prop} {t p w e : Int} (T : InvT E) (Pg : InvP E) (W : InvW E) (Tt : CT E m t) (Pp : CP E m p) (O : CO E m t) (hw : 0 ≤ w ∧ w < E 597 23) (he : 0 ≤ e ∧ e < E 602 579)
    (kn : ∀ m', f109 m m' → ¬ ex E w e (E 604 w).toNat 0 < 1000000 → m' 370 2 = 0 → K m')
    (kk : ∀ m', f109 m m' → ex E w e (E 604 w).toNat 0 < 1000000 → m' 370 2 = (xR E w e (E 604 w).toNat 0).length → LA m' 371 0 (xR E w e (E 604 w).toNat 0) → K m') : TrV 109 [(1, 370), (1, p), (0, w), (1, t + 54 + 2 * e)] m K := by
  have P2 := (Pg.2 w hw.1 hw.2).1
  have P1 := Pg.1
  have T2 := T.2.1
  have h8 := (T.2.2.2.2.2.2.2.1 e he.1 he.2).1
  have hE0 := Tt.2.2.2.2.2.2.2.1 e he.1 he.2
  have w10 : 0 ≤ w ∧ w < 10 := by omega
  obtain ⟨RR, hRR⟩ : ∃ RR, xR E w e (E 604 w).toNat 0 = RR := ⟨_, rfl⟩
  refine e109 _ _ _ Pp.shp hE0.1 fun m1 e1 => ?_
  have f1 : f109 m m1 := fun x k' n1 n2 => by rw [e1, um_n (by omega)]
  refine c91 T Pg W (f1.T T Tt) (f1.P Pg Pp) (f1.O O) hw he fun m3 f3' R3 => ?_
  have f3 : f109 m m3 := fun x k' n1 n2 => (f3' x k' (by omega)).trans (f1 x k' n1 n2)
  have z2 : m3 370 2 = 0 := by rw [f3' _ _ (by omega), e1, um_s]
  refine ⟨fun hc0 => ?_, fun hc0 => kn m3 f3 hc0 z2⟩
  have walk : ∀ (d : Nat) (k : Int) (m6 : Mm) (R : List Int) (v6 : aV), (d : Int) ≤ E 604 w → (0 ≤ k ∧ k ≤ esz E e) → ex E w e d k < 1000000 → f109 m m6 → (∀ d : Nat, (d : Int) ≤ E 604 w → RoXC E m6 w e d) → m6 370 2 = R.length → LA m6 371 0 R → R.length + d ≤ 10 → R ++ xR E w e d k = RR → X 109 24 [(1, 370), (1, p), (0, w), (1, t + 54 + 2 * e), (0, k), (0, E 604 w - d), v6] [] m6 (qV K) := by
    intro d
    induction d with
    | zero =>
      intro k m6 R v6 hd hk hc f Rx s1 s2 n2 eR
      have Pm := f.P Pg Pp
      refine w109_24 _ _ _ _ _ v6 Pp.shp hE0.1 ⟨w10, fun h => absurd h (by rw [(Pm.2.2 w hw.1 hw.2).1]; omega), fun _ => ?_⟩
      unfold xR at eR
      rw [List.append_nil] at eR
      refine kk m6 f hc0 ?_ ?_
      · rw [hRR, ← eR]
        exact s1
      · rw [hRR, ← eR]
        exact s2
    | succ d ih =>
      intro k m6 R v6 hd hk hc f Rx s1 s2 n2 eR
      have Pm := f.P Pg Pp
      have a10 : 0 ≤ E 604 w - ((d + 1 : Nat) : Int) ∧ E 604 w - ((d + 1 : Nat) : Int) < 11 := by omega
      have q5 : wr (E 604 w - (d + 1 : Nat) + 1) = E 604 w - d := by
        rw [wrI (by omega) (by omega)]
        omega
      have q8 : (0 : Int) ≤ R.length ∧ (R.length : Int) < 10 := by omega
      obtain ⟨pp1, pp2⟩ := (Pm.2.2 w hw.1 hw.2).2.2 (E 604 w - (d + 1 : Nat)) a10.1 (by omega)
      have hb := (Pg.2 w hw.1 hw.2).2 (E 604 w - (d + 1 : Nat)) (by omega) (by omega)
      refine w109_24 _ _ _ _ _ v6 Pp.shp hE0.1 ⟨w10, fun _ => ⟨a10, fun h27 => ?_, fun h27 => ?_⟩, fun h => absurd (show E 604 w - ((d + 1 : Nat) : Int) < m6 (p + 1) w by rw [(Pm.2.2 w hw.1 hw.2).1]; omega) h⟩
      · have hs : ¬ E 603 (10 * w + (E 604 w - (d + 1 : Nat))) < 32 := fun hs => by
          rw [pp1 hs] at h27
          omega
        obtain ⟨h1, ⟨h2, h2'⟩, h3, h4⟩ := xst_ok hs hc
        unfold xR at eR
        rw [if_neg hs] at eR
        have hle := stM_le h2'
        have hM := T.2.2.2.2.2.2.1 _ h1.1 h1.2
        have g4 := hM.2.2.2.1
        have hB : bsz E (xst E w e d k) = E 602 (11 * xst E w e d k + 1) := rfl
        have r24 : 0 ≤ xst E w e d k ∧ xst E w e d k < 24 := ⟨h1.1, Int.lt_of_lt_of_le h1.2 T2.2⟩
        have hW := (wnow_rng T W r24.1 r24.2).1
        refine c110 T Pg W (f.T T Tt) Pm (f.O O) hw he hd hk Rx hs hc ⟨fun h => absurd h1.1 (by omega), fun _ => ⟨by rw [s1]; exact q8, fun m16 e16 m18 e18 => ?_⟩⟩
        have e33 : m16 370 2 = R.length := by rw [e16, um_x (by decide)]; exact s1
        rw [e33, wrI (x := (R.length : Int) + 1) (by omega) (by omega)] at e18
        have f18 : f109 m m18 := fun x k' n1 n3 => by
          rw [e18, e16, um_n (by omega), um_n (by omega)]
          exact f x k' n1 n3
        have hR := (f18.T T Tt).2.2.2.2.2.2.1 _ h1.1 h1.2
        obtain ⟨o1, o2⟩ := (f18.O O).2.2 _ h1.1 h1.2
        rw [o1, hR.2.2.1, ← hB, wrI (x := k + bsz E _) (by omega) (by omega), q5]
        refine ⟨r24, hR.1, ih _ m18 (R ++ [xst E w e d k]) _ (by omega) (by omega) (by omega) f18 (fun d' hd' l l0 l1 => ?_) ?_ ?_ ?_ ?_⟩
        · unfold CelC
          rw [e18, um_x (by omega), e16, um_x (by omega)]
          exact Rx d' hd' l l0 l1
        · rw [e18, um_s, List.length_append]
          rfl
        · refine s2.snoc (fun k' k0 k1 => ?_) ?_
          · rw [e18, um_x (by decide), e16, um_k (by omega)]
          · rw [e18, um_x (by decide), e16, s1, um_s]
            omega
        · rw [List.length_append, List.length_singleton]
          omega
        · rw [List.append_assoc]
          exact eR
      · have hs : E 603 (10 * w + (E 604 w - (d + 1 : Nat))) < 32 := Classical.byContradiction fun hs => h27 (pp2.1 hs).1
        obtain ⟨hk1, hx⟩ := ex_let hs hc
        unfold xR at eR
        rw [if_pos hs] at eR
        rw [wrI (x := k + 1) (by omega) (by omega), q5]
        exact ih (k + 1) m6 R v6 (by omega) (by omega) (hx ▸ hc) f Rx s1 s2 (by omega) eR
  have := walk (E 604 w).toNat 0 m3 [] (9, 0) (by omega) (by omega) hc0 f3 R3 z2 LA.nil (by simp; omega) hRR
  rw [show E 604 w - ((E 604 w).toNat : Int) = 0 by omega] at this
  exact this
