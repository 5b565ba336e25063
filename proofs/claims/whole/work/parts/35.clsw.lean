/-! the class's walk through a word -/
theorem c77 {E m : Mm} {K : Mm → Prop} {t b : Int} (T : InvT E) (Tt : CT E m t) (hb : b = 280) (hW : ∀ r, 0 ≤ r → r < E 602 578 → v_W m b r (E 602 581) ∧ max 0 (m (b + 1) r - E 602 581 * m (b + 2) r) = wnow E r)
    (k : ∀ m', (∀ x k, ¬ (x = 373 ∨ x = 374) → ¬ (x = 370 ∧ (k = 9 ∨ k = 10)) → m' x k = m x k) → CO E m' t → K m') : TrV 77 [(1, 370), (1, t), (1, b), (0, E 597 27)] m K := by
  have T2 := T.2.1
  have tb := Tt.1
  have hs : shp b = 22 := by
    rw [hb]
    decide +kernel
  have main : ∀ (n r : Nat) (m1 : Mm) (v3 : aV), v3.1 ≠ 2 → r + n = (E 602 578).toNat → (∀ x k, ¬ (x = 373 ∨ x = 374) → ¬ (x = 370 ∧ (k = 9 ∨ k = 10)) → m1 x k = m x k) → m1 370 9 = E 602 578 → m1 370 10 = E 597 27 → (∀ i : Int, 0 ≤ i → i < r → m1 373 i = t + 6 + 2 * i ∧ m1 374 i = wnow E i) → X 77 16 [(1, 370), (1, t), (1, b), v3, (0, r)] [] m1 (qV K) := by
    intro n
    induction n with
    | zero =>
      intro r m1 v3 hv hr f e9 e10 h
      exact w77_16 _ _ _ _ Tt.shp hs hv ⟨fun h2 => absurd h2 (by rw [e9]; omega), fun _ => k m1 f ⟨e9, e10, fun i i0 i1 => h i i0 (by omega)⟩⟩
    | succ n ih =>
      intro r m1 v3 hv hr f e9 e10 h
      have hrE : (r : Int) < E 602 578 := by omega
      have r24 : (0 : Int) ≤ r ∧ (r : Int) < 24 := ⟨Int.natCast_nonneg r, Int.lt_of_lt_of_le hrE T2.2⟩
      obtain ⟨w1, w2⟩ := hW r r24.1 hrE
      refine w77_16 _ _ _ _ Tt.shp hs hv ⟨fun _ => ⟨r24, fun m5 e5 => ?_⟩, fun h2 => absurd (show (r : Int) < m1 370 9 by rw [e9]; exact hrE) h2⟩
      have f5 : ∀ x k, ¬ (x = 373 ∨ x = 374) → ¬ (x = 370 ∧ (k = 9 ∨ k = 10)) → m5 x k = m x k := fun x k' h1 h2 => by
        rw [e5, um_n (by omega)]
        exact f x k' h1 h2
      have q8 : m5 t 8 = E 602 581 := by rw [f5 _ _ (by omega) (by omega)]; exact Tt.2.2.2.2.1
      have q1 : m5 (b + 1) r = m (b + 1) r := f5 _ _ (by omega) (by omega)
      have q2 : m5 (b + 2) r = m (b + 2) r := f5 _ _ (by omega) (by omega)
      rw [q8, q1, q2, w2]
      refine ⟨?_, fun m9 e9' => ?_⟩
      · unfold v_W at w1 ⊢
        rw [q1, q2]
        exact w1
      · rw [wrI (x := (r : Int) + 1) (by omega) (by omega)]
        refine ih (r + 1) m9 v3 hv (by omega) (fun x k' h1 h2 => ?_) ?_ ?_ fun i i0 i1 => ?_
        · rw [e9', um_n (by omega)]
          exact f5 x k' h1 h2
        · rw [e9', um_x (by decide), e5, um_x (by decide)]
          exact e9
        · rw [e9', um_x (by decide), e5, um_x (by decide)]
          exact e10
        · by_cases hi : i = r
          · subst hi
            rw [e9', um_x (by decide), um_s, e5, um_s]
            exact ⟨rfl, rfl⟩
          · rw [e9', um_x (by decide), um_k hi, e5, um_k hi, um_x (by decide)]
            exact h i i0 (by omega)
  refine e77 _ _ _ Tt.shp hs fun m1 e1 m3 e3 => ?_
  refine main (E 602 578).toNat 0 m3 (0, _) (by simp) (by omega) (fun x k' h1 h2 => ?_) ?_ ?_ fun i i0 i1 => by omega
  · rw [e3, e1, um_n (by omega), um_n (by omega)]
  · rw [e3, um_k (by decide), e1, um_s]
    exact Tt.2.1
  · rw [e3, um_s]
/-- firstLeast(88) -/
theorem l88 {E m : Mm} {K : Int → Mm → Prop} {t w last : Int} {d : Nat} (T : InvT E) (Pg : InvP E) (W : InvW E) (Tt : CT E m t) (O : CO E m t) (hw : 0 ≤ w ∧ w < E 597 23) (hd : (d + 1 : Nat) ≤ E 604 w) (hl : -1 ≤ last ∧ last < 26) (R : ∀ d : Nat, (d : Int) ≤ E 604 w → RowC E m w d) (hs : ¬ E 603 (10 * w + (E 604 w - (d + 1 : Nat))) < 32) (hc : oc E w (d + 1) last < 1000000)
    (k : K (wst E w d last) m) : ∀ (n r : Nat), r + n = (wst E w d last).toNat → X 88 3 [(1, 370), (0, E 604 w - (d + 1 : Nat)), (0, last + 1), (0, E 603 (10 * w + (E 604 w - (d + 1 : Nat))) - 32), (0, nxA E w (E 604 w - (d + 1 : Nat) + 1)), (0, r)] [] m (qI K) := by
  obtain ⟨h1, h2, h3⟩ := wst_ok hs hc
  have P2 := (Pg.2 w hw.1 hw.2).1
  have P1 := Pg.1
  have T2 := T.2.1
  have aR : (0 ≤ E 604 w - ((d + 1 : Nat) : Int) ∧ E 604 w - ((d + 1 : Nat) : Int) < 11) ∧ (0 ≤ E 604 w - ((d + 1 : Nat) : Int) + 1 ∧ E 604 w - ((d + 1 : Nat) : Int) + 1 < 11) := by omega
  have l27 : 0 ≤ last + 1 ∧ last + 1 < 27 := by omega
  have q5 : wr (E 604 w - (d + 1 : Nat) + 1) = E 604 w - d := by
    rw [wrI (by omega) (by omega)]
    omega
  have q6 : 0 ≤ E 604 w - (d : Int) ∧ E 604 w - (d : Int) < 11 := by omega
  have body : ∀ r : Nat, (r : Int) < E 602 578 → ((fitM E r last w (E 604 w - (d + 1 : Nat)) = true ∧ wnow E r + oc E w d (lasB E r last) = oc E w (d + 1) last) → K r m) →
      (¬ (fitM E r last w (E 604 w - (d + 1 : Nat)) = true ∧ wnow E r + oc E w d (lasB E r last) = oc E w (d + 1) last) → X 88 3 [(1, 370), (0, E 604 w - (d + 1 : Nat)), (0, last + 1), (0, E 603 (10 * w + (E 604 w - (d + 1 : Nat))) - 32), (0, nxA E w (E 604 w - (d + 1 : Nat) + 1)), (0, ((r + 1 : Nat) : Int))] [] m (qI K)) →
      X 88 3 [(1, 370), (0, E 604 w - (d + 1 : Nat)), (0, last + 1), (0, E 603 (10 * w + (E 604 w - (d + 1 : Nat))) - 32), (0, nxA E w (E 604 w - (d + 1 : Nat) + 1)), (0, r)] [] m (qI K) := by
    intro r hrE yes no
    have hM : v_M E r := T.2.2.2.2.2.2.1 r (by omega) hrE
    have hR := Tt.2.2.2.2.2.2.1 r (by omega) hrE
    have r24 : (0 : Int) ≤ r ∧ (r : Int) < 24 := ⟨Int.natCast_nonneg r, Int.lt_of_lt_of_le hrE T2.2⟩
    have hrr : wr ((r : Int) + 1) = ((r + 1 : Nat) : Int) := wrI (by omega) (by omega)
    obtain ⟨o1, o2⟩ := O.2.2 r r24.1 hrE
    have hsu := suC_fit Pg Tt O hw (a := E 604 w - (d + 1 : Nat)) (by omega) hl ⟨r24.1, hrE⟩ hs
    refine w88_3 _ _ _ _ _ ⟨fun _ => ⟨⟨r24, by rw [o1]; exact hR.1⟩, fun hf => ?_, fun hf => ?_⟩, fun h => absurd (show (r : Int) < m 370 9 by rw [O.1]; exact hrE) h⟩
    · rw [hsu] at hf
      rw [o1, cAft_las hR hM, o2, q5, hrr]
      have hL := lasB_rng hM hl
      have p7 := wnow_rng T W (r := r) r24.1 r24.2
      have p3 := oc_rng T W (w := w) d (lasB E r last)
      rw [(R d (by omega) _ hL.1 hL.2).1, (R (d + 1) (by omega) _ hl.1 hl.2).1, wrI (x := wnow E r + _) (by omega) (by omega)]
      refine ⟨r24, q6, hR.1, hR.v hM, by omega, aR.1, l27, fun h => yes ⟨hf, h⟩, fun h => no fun hh => h hh.2⟩
    · rw [hsu] at hf
      rw [hrr]
      exact no fun hh => hf hh.1
  intro n
  induction n with
  | zero =>
    intro r hr
    refine body r (by omega) (fun _ => ?_) fun h => absurd ⟨?_, ?_⟩ h
    · rw [show (r : Int) = wst E w d last by omega]
      exact k
    · rw [show (r : Int) = wst E w d last by omega]
      exact h2
    · rw [show (r : Int) = wst E w d last by omega]
      exact h3
  | succ n ih =>
    intro r hr
    refine body r (by omega) (fun h => ?_) fun h => ih (r + 1) (by omega)
    have := fstN_lt (n := (E 602 578).toNat) (f := fun r => fitM E r last w (E 604 w - (d + 1 : Nat)) && decide (wnow E r + oc E w d (lasB E r last) = oc E w (d + 1) last)) (i := r) (by omega) (by unfold wst at hr; omega)
    exact absurd this (by show ¬ (_ && _) = false; rw [h.1, decide_eq_true h.2]; decide)
/-- the walk's record: letters and readings -/
def S8 (m : Mm) (L R : List Int) : Prop := m 370 3 = L.length ∧ LA m 372 97 L ∧ m 370 2 = R.length ∧ LA m 371 0 R
def f85 (m m' : Mm) : Prop := ∀ x k, ¬ (x = 371 ∨ x = 372) → ¬ (x = 370 ∧ (k = 2 ∨ k = 3)) → m' x k = m x k
theorem f85.T {E m m' : Mm} {t : Int} (T : InvT E) (h : f85 m m') (c : CT E m t) : CT E m' t := c.fr T fun x k h1 h2 => h x k (by omega) (by omega)
theorem f85.P {E m m' : Mm} {p : Int} (T : InvP E) (h : f85 m m') (c : CP E m p) : CP E m' p := c.fr T fun x k h1 h2 => h x k (by omega) (by omega)
theorem f85.O {E m m' : Mm} {t : Int} (h : f85 m m') (c : CO E m t) : CO E m' t := by
  obtain ⟨h1, h2, h3⟩ := c
  refine ⟨by rw [h _ _ (by omega) (by omega)]; exact h1, by rw [h _ _ (by omega) (by omega)]; exact h2, fun r r0 r1 => ?_⟩
  rw [h _ _ (by omega) (by omega), h _ _ (by omega) (by omega)]
  exact h3 r r0 r1
theorem f85.R {E m m' : Mm} {w : Int} {d : Nat} (h : f85 m m') (h0 : 0 ≤ E 604 w - d ∧ E 604 w ≤ 10) (c : RowC E m w d) : RowC E m' w d := fun l h1 h2 => by
  unfold CellC
  rw [h _ _ (by omega) (by omega), h _ _ (by omega) (by omega)]
  exact c l h1 h2
/-- Opener.put(87) -/
theorem c87 {m : Mm} {K : Mm → Prop} {L R : List Int} {v : Int} (S : S8 m L R) (hL : L.length < 60) (k : ∀ m', f85 m m' → S8 m' (L ++ [v]) R → K m') : TrV 87 [(1, 370), (0, 97 + v)] m K := by
  obtain ⟨h1, h2, h3, h4⟩ := S
  refine e87 _ ⟨fun _ => ⟨by omega, fun m5 e5 m7 e7 => ?_⟩, fun h => absurd (show m 370 3 < 60 by omega) h⟩
  have q : m5 370 3 = L.length := by rw [e5, um_x (by decide)]; exact h1
  rw [q, wrI (x := (L.length : Int) + 1) (by omega) (by omega)] at e7
  refine k m7 (fun x k' n1 n2 => ?_) ⟨?_, ?_, ?_, ?_⟩
  · rw [e7, e5, um_n (by omega), um_n (by omega)]
  · rw [e7, um_s, List.length_append]
    rfl
  · refine h2.snoc (fun k' k0 k1 => ?_) ?_
    · rw [e7, um_x (by decide), e5, um_k (by omega)]
    · rw [e7, um_x (by decide), e5, h1, um_s]
  · rw [e7, um_k (by decide), e5, um_x (by decide)]
    exact h3
  · refine h4.fr fun k' k0 k1 => ?_
    rw [e7, um_x (by decide), e5, um_x (by decide)]
theorem l85w {E m0 : Mm} {K : Mm → Prop} {t p : Int} (T : InvT E) (Pp : shp p = 24) (Tt0 : CT E m0 t) (O0 : CO E m0 t) {w a last r : Int} {L R : List Int} (hr : 0 ≤ r ∧ r < E 602 578) (hL : L.length ≤ 54)
    (k : ∀ m' v6, f85 m0 m' → S8 m' (L ++ rl E r) R → X 85 25 [(1, 370), (1, p), (0, w), (0, lasB E r last + 1), (0, wr (a + 1)), (0, r), (0, v6)] [] m' (qV K)) :
    ∀ (n i : Nat) (m : Mm), i + n = (rl E r).length → f85 m0 m → S8 m (L ++ (rl E r).take i) R → X 85 135 [(1, 370), (1, p), (0, w), (0, last + 1), (0, a), (0, r), (0, i)] [] m (qV K) := by
  have hM := T.2.2.2.2.2.2.1 r hr.1 hr.2
  obtain ⟨hl1, hl2⟩ := rl_len hM
  have T2 := T.2.1
  have r24 : 0 ≤ r ∧ r < 24 := ⟨hr.1, Int.lt_of_lt_of_le hr.2 T2.2⟩
  intro n
  induction n with
  | zero =>
    intro i m hi f S
    have O := f.O O0
    have hR := (f.T T Tt0).2.2.2.2.2.2.1 r hr.1 hr.2
    obtain ⟨o1, o2⟩ := O.2.2 r hr.1 hr.2
    have hie : i = (rl E r).length := by omega
    subst hie
    rw [List.take_length] at S
    refine w85_135 _ _ _ _ _ _ Pp ⟨r24, ?_⟩
    rw [o1]
    refine ⟨hR.1, fun h => absurd h (by rw [hR.2.2.1]; omega), fun _ => ⟨hR.v hM, ?_⟩⟩
    rw [cAft_las hR hM]
    exact k m _ f S
  | succ n ih =>
    intro i m hi f S
    have O := f.O O0
    have hR := (f.T T Tt0).2.2.2.2.2.2.1 r hr.1 hr.2
    obtain ⟨o1, o2⟩ := O.2.2 r hr.1 hr.2
    have il : i < (rl E r).length := by omega
    refine w85_135 _ _ _ _ _ _ Pp ⟨r24, ?_⟩
    rw [o1]
    refine ⟨hR.1, fun _ => ⟨by omega, ?_⟩, fun h => absurd (show (i : Int) < m (t + 6 + 2 * r) 2 by rw [hR.2.2.1]; omega) h⟩
    rw [hR.2.2.2.1 i (by omega) (by omega), ← rl_at il]
    refine c87 S ?_ fun m' f' S' => ?_
    · rw [List.length_append, List.length_take]
      omega
    · rw [wrI (x := (i : Int) + 1) (by omega) (by omega)]
      refine ih (i + 1) m' (by omega) (fun x k' n1 n2 => (f' x k' n1 n2).trans (f x k' n1 n2)) ?_
      rw [take_one il, ← List.append_assoc]
      exact S'
theorem l85 {E m0 : Mm} {K : Mm → Prop} {t p w : Int} (T : InvT E) (Pg : InvP E) (W : InvW E) (Tt : CT E m0 t) (Pp : CP E m0 p) (O : CO E m0 t) (hw : 0 ≤ w ∧ w < E 597 23) (R0 : ∀ d : Nat, (d : Int) ≤ E 604 w → RowC E m0 w d)
    {LL RR : List Int} (k : ∀ m', f85 m0 m' → S8 m' LL RR → K m') :
    ∀ (d : Nat) (last : Int) (m : Mm) (L R : List Int) (v5 v6 : aV), (d : Int) ≤ E 604 w → (-1 ≤ last ∧ last < 26) → oc E w d last < 1000000 → f85 m0 m → S8 m L R → L.length + 6 * d ≤ 60 → R.length + d ≤ 10 → L ++ wL E w d last = LL → R ++ wR E w d last = RR →
      X 85 25 [(1, 370), (1, p), (0, w), (0, last + 1), (0, E 604 w - d), v5, v6] [] m (qV K) := by
  have P2 := (Pg.2 w hw.1 hw.2).1
  have P1 := Pg.1
  have w10 : 0 ≤ w ∧ w < 10 := by omega
  intro d
  induction d with
  | zero =>
    intro last m L R v5 v6 hd hl hc f S n1 n2 eL eR
    have Pm := f.P Pg Pp
    refine w85_25 _ _ _ _ v5 v6 Pp.shp ⟨w10, fun h => absurd h ?_, fun _ => k m f ?_⟩
    · rw [(Pm.2.2 w hw.1 hw.2).1]
      omega
    · unfold wL at eL
      unfold wR at eR
      rw [List.append_nil] at eL eR
      rw [← eL, ← eR]
      exact S
  | succ d ih =>
    intro last m L R v5 v6 hd hl hc f S n1 n2 eL eR
    have Pm := f.P Pg Pp
    have hb := (Pg.2 w hw.1 hw.2).2 (E 604 w - (d + 1 : Nat)) (by omega) (by omega)
    have a10 : 0 ≤ E 604 w - (d + 1 : Nat) ∧ E 604 w - (d + 1 : Nat) < 10 := by omega
    have a11 : 0 ≤ E 604 w - (d + 1 : Nat) ∧ E 604 w - (d + 1 : Nat) < 11 := by omega
    have q5 : wr (E 604 w - (d + 1 : Nat) + 1) = E 604 w - d := by
      rw [wrI (by omega) (by omega)]
      omega
    have q6 : 0 ≤ E 604 w - (d : Int) ∧ E 604 w - (d : Int) < 11 := by omega
    have q7 : L.length ≤ 54 := by omega
    have q8 : (0 : Int) ≤ R.length ∧ (R.length : Int) < 10 := by omega
    obtain ⟨pp1, pp2⟩ := (Pm.2.2 w hw.1 hw.2).2.2 (E 604 w - (d + 1 : Nat)) a10.1 (by omega)
    refine w85_25 _ _ _ _ v5 v6 Pp.shp ⟨w10, fun _ => ?_, fun h => absurd (show E 604 w - ((d + 1 : Nat) : Int) < m (p + 1) w by rw [(Pm.2.2 w hw.1 hw.2).1]; omega) h⟩
    rw [q5]
    refine ⟨a11, fun h27 => ?_, fun h27 => ?_⟩
    · have hs : ¬ E 603 (10 * w + (E 604 w - (d + 1 : Nat))) < 32 := fun hs => by
        rw [pp1 hs] at h27
        omega
      obtain ⟨h1, h2, h3⟩ := wst_ok hs hc
      have hM := T.2.2.2.2.2.2.1 _ h1.1 h1.2
      have hW : 0 ≤ wnow E (wst E w d last) := by unfold wnow; omega
      have hL := lasB_rng hM hl
      unfold wL at eL
      unfold wR at eR
      rw [if_neg hs] at eL eR
      rw [Pm.code hw (a := E 604 w - d) (by omega), (pp2.1 hs).2]
      refine ⟨a10, q6, ?_⟩
      have := l88 (K := fun v15 m13 => (v15 < 0 → K m13) ∧ (¬ v15 < 0 → (0 ≤ (m13 370 2) ∧ (m13 370 2) < 10) ∧ ∀ m20, m20 = umem m13 371 (m13 370 2) v15 → ∀ m22, m22 = umem m20 370 2 (wr ((m20 370 2) + 1)) → X 85 135 [(1, 370), (1, p), (0, w), (0, last + 1), (0, E 604 w - (d + 1 : Nat)), (0, v15), (0, 0)] [] m22 (qV K))) T Pg W (f.T T Tt) (f.O O) hw hd hl (fun d' hd' => f.R (by omega) (R0 d' hd')) hs hc ⟨fun h => absurd h1.1 (by omega), fun _ => ⟨by rw [S.2.2.1]; exact q8, fun m20 e20 m22 e22 => ?_⟩⟩ (wst E w d last).toNat 0 (by omega)
      · rw [show E 604 w - ((d + 1 : Nat) : Int) + 1 = E 604 w - d by omega] at this
        exact e88 _ _ _ _ this
      · have e2 : m20 370 2 = R.length := by rw [e20, um_x (by decide)]; exact S.2.2.1
        rw [e2, wrI (x := (R.length : Int) + 1) (by omega) (by omega)] at e22
        have f22 : f85 m0 m22 := fun x k' n1 n2 => by
          rw [e22, e20, um_n (by omega), um_n (by omega)]
          exact f x k' n1 n2
        have S22 : S8 m22 L (R ++ [wst E w d last]) := by
          obtain ⟨s1, s2, s3, s4⟩ := S
          refine ⟨?_, ?_, ?_, ?_⟩
          · rw [e22, um_k (by decide), e20, um_x (by decide)]
            exact s1
          · refine s2.fr fun k' k0 k1 => ?_
            rw [e22, um_x (by decide), e20, um_x (by decide)]
          · rw [e22, um_s, List.length_append]
            rfl
          · refine s4.snoc (fun k' k0 k1 => ?_) ?_
            · rw [e22, um_x (by decide), e20, um_k (by omega)]
            · rw [e22, um_x (by decide), e20, s3, um_s]
              omega
        refine l85w T Pp.shp Tt O (L := L) (R := R ++ [wst E w d last]) h1 q7 (fun m' v6' f' S' => ?_) (rl E (wst E w d last)).length 0 m22 (Nat.zero_add _) f22 (by rw [List.take_zero, List.append_nil]; exact S22)
        rw [q5]
        have := (rl_len hM).2
        refine ih _ m' (L ++ rl E (wst E w d last)) (R ++ [wst E w d last]) _ _ (by omega) hL (by omega) f' S' ?_ ?_ ?_ ?_
        · rw [List.length_append]
          omega
        · rw [List.length_append, List.length_singleton]
          omega
        · rw [List.append_assoc]
          exact eL
        · rw [List.append_assoc]
          exact eR
    · have hs : E 603 (10 * w + (E 604 w - (d + 1 : Nat))) < 32 := Classical.byContradiction fun hs => h27 (pp2.1 hs).1
      have hby : m (p + 3 + w) (E 604 w - (d + 1 : Nat)) = 97 + E 603 (10 * w + (E 604 w - (d + 1 : Nat))) := by
        rw [pp2.2]
        unfold byB
        rw [if_pos hs]
      have x1 : oc E w (d + 1) last = oc E w d (E 603 (10 * w + (E 604 w - (d + 1 : Nat)))) := by
        conv => lhs; unfold oc
        rw [if_pos hs]
      unfold wL at eL
      unfold wR at eR
      rw [if_pos hs] at eL eR
      rw [hby]
      refine ⟨a10, c87 S (by omega) fun m' f' S' => ?_⟩
      have f2 : f85 m0 m' := fun x k' n1 n2 => (f' x k' n1 n2).trans (f x k' n1 n2)
      have Pm' := f2.P Pg Pp
      rw [((Pm'.2.2 w hw.1 hw.2).2.2 (E 604 w - (d + 1 : Nat)) a10.1 (by omega)).1 hs]
      refine ih _ m' (L ++ [E 603 (10 * w + (E 604 w - (d + 1 : Nat)))]) R v5 v6 (by omega) (by omega) (x1 ▸ hc) f2 S' ?_ (by omega) ?_ eR
      · rw [List.length_append, List.length_singleton]
        omega
      · rw [List.append_assoc]
        exact eL
/-- walkLeast(85) behind weighOpenings -/
theorem c85 {E m : Mm} {K : Mm → Prop} {t p w : Int} (T : InvT E) (Pg : InvP E) (W : InvW E) (Tt : CT E m t) (Pp : CP E m p) (O : CO E m t) (hw : 0 ≤ w ∧ w < E 597 23) (R : ∀ d : Nat, (d : Int) ≤ E 604 w → RowC E m w d)
    (kn : ∀ m', f85 m m' → ¬ oc E w (E 604 w).toNat (-1) < 1000000 → S8 m' [] [] → K m')
    (k : ∀ m', f85 m m' → oc E w (E 604 w).toNat (-1) < 1000000 → S8 m' (wL E w (E 604 w).toNat (-1)) (wR E w (E 604 w).toNat (-1)) → K m') : TrV 85 [(1, 370), (1, p), (0, w)] m K := by
  have P2 := (Pg.2 w hw.1 hw.2).1
  have hd : (((E 604 w).toNat : Nat) : Int) = E 604 w := by omega
  refine e85 _ _ Pp.shp fun m1 e1 m3 e3 => ?_
  have f3 : f85 m m3 := fun x k' n1 n2 => by rw [e3, e1, um_n (by omega), um_n (by omega)]
  have S3' : S8 m3 [] [] := ⟨by rw [e3, um_s]; rfl, LA.nil, by rw [e3, um_k (by decide), e1, um_s]; rfl, LA.nil⟩
  have c0 : m3 376 0 = oc E w (E 604 w).toNat (-1) := by
    have := (R (E 604 w).toNat (by omega) (-1) (by decide) (by decide)).1
    rw [hd] at this
    rw [f3 _ _ (by omega) (by omega), show (376 : Int) = 376 + (E 604 w - E 604 w) by omega]
    exact this
  rw [c0]
  refine ⟨fun h => ?_, fun h => kn m3 f3 h S3'⟩
  have := l85 (K := K) T Pg W Tt Pp O hw R (fun m' f' S' => k m' f' h S') (E 604 w).toNat (-1) m3 [] [] (9, 0) (9, 0) (by omega) (by decide) h f3 S3' (by simp; omega) (by simp; omega) rfl rfl
  rw [hd, show E 604 w - E 604 w = 0 by omega] at this
  exact this
