/-! the class's side: table, page, opener; its openings -/
def nxE (c : Int) : Int := if c = 0 then -1 else if c = 27 then 32 else c - 1
def CR (E m : Mm) (x r : Int) : Prop := shp x = 27 ∧ m x 1 = E 602 (11 * r) ∧ m x 2 = E 602 (11 * r + 1) ∧ (∀ i, 0 ≤ i → i < E 602 (11 * r + 1) → m (x + 1) i = 97 + E 602 (11 * r + 5 + i)) ∧ m x 7 = E 602 (11 * r + 4) ∧
  (∀ l, 0 ≤ l → l < 27 → (iand (ishr (m x 5) l) 1 = 1 ↔ fbB (E 602 (11 * r + 2)) (l - 1) = true)) ∧ ∀ c, 0 ≤ c → c < 28 → (iand (ishr (m x 6) c) 1 = 1 ↔ letB (E 602 (11 * r + 3)) (nxE c) = true)
def CE (E m : Mm) (x e : Int) : Prop := shp x = 21 ∧ m x 1 = E 602 (264 + 11 * e) ∧ m x 2 = E 602 (264 + 11 * e + 1) ∧ m x 3 = E 602 (264 + 11 * e + 2) ∧ ∀ i, 0 ≤ i → i < E 602 (264 + 11 * e) → m (x + 1) i = 97 + E 602 (264 + 11 * e + 3 + i)
def CT (E m : Mm) (t : Int) : Prop := (t = 6 ∨ t = 108) ∧ m t 5 = E 602 578 ∧ m t 6 = E 602 579 ∧ m t 7 = E 602 580 ∧ m t 8 = E 602 581 ∧ m t 9 = E 602 582 ∧ (∀ r, 0 ≤ r → r < E 602 578 → CR E m (t + 6 + 2 * r) r) ∧ (∀ e, 0 ≤ e → e < E 602 579 → CE E m (t + 54 + 2 * e) e) ∧
  ∀ k, 0 ≤ k → k < 25 → m (t + 3) k = E 602 (528 + k) ∧ m (t + 5) k = E 602 (553 + k)
/-- a byte of the page, as the class keeps it -/
def byB (b : Int) : Int := if b < 32 then 97 + b else cs 600 (b - 32)
def CP (E m : Mm) (p : Int) : Prop := (p = 210 ∨ p = 245) ∧ m p 4 = E 597 23 ∧ ∀ w, 0 ≤ w → w < E 597 23 → m (p + 1) w = E 604 w ∧ m (p + 25 + w) (E 604 w) = 0 ∧ ∀ i, 0 ≤ i → i < E 604 w → (E 603 (10 * w + i) < 32 → m (p + 25 + w) i = E 603 (10 * w + i) + 1) ∧ (¬ E 603 (10 * w + i) < 32 → m (p + 25 + w) i = 27 ∧ m (p + 14 + w) i = E 603 (10 * w + i) - 32) ∧ m (p + 3 + w) i = byB (E 603 (10 * w + i))
def CO (E m : Mm) (t : Int) : Prop := m 370 9 = E 602 578 ∧ m 370 10 = E 597 27 ∧ ∀ r, 0 ≤ r → r < E 602 578 → m 373 r = t + 6 + 2 * r ∧ m 374 r = wnow E r
theorem CT.shp {E m : Mm} {t : Int} (h : CT E m t) : shp t = 30 := by
  obtain h | h := h.1 <;> rw [h] <;> decide +kernel
theorem CP.shp {E m : Mm} {p : Int} (h : CP E m p) : shp p = 24 := by
  obtain h | h := h.1 <;> rw [h] <;> decide +kernel
theorem CR.fr {E m m' : Mm} {x r : Int} (h : CR E m x r) (h1 : ∀ k, m' x k = m x k) (h2 : ∀ k, m' (x + 1) k = m (x + 1) k) : CR E m' x r := by
  unfold CR
  simp only [h1, h2]
  exact h
theorem CE.fr {E m m' : Mm} {x e : Int} (h : CE E m x e) (h1 : ∀ k, m' x k = m x k) (h2 : ∀ k, m' (x + 1) k = m (x + 1) k) : CE E m' x e := by
  unfold CE
  simp only [h1, h2]
  exact h
theorem CT.fr {E m m' : Mm} {t : Int} (T : InvT E) (h : CT E m t) (hf : ∀ x k, 6 ≤ x → x < 210 → m' x k = m x k) : CT E m' t := by
  obtain ⟨h1, h2, h3, h4, h5, h6, h7, h8, h9⟩ := h
  have T2 := T.2.1
  have T3 := T.2.2.1
  refine ⟨h1, ?_, ?_, ?_, ?_, ?_, fun r r0 r1 => (h7 r r0 r1).fr (fun k => hf _ _ (by omega) (by omega)) (fun k => hf _ _ (by omega) (by omega)), fun e e0 e1 => (h8 e e0 e1).fr (fun k => hf _ _ (by omega) (by omega)) (fun k => hf _ _ (by omega) (by omega)), fun k k0 k1 => ?_⟩
  · rw [hf _ _ (by omega) (by omega)]; exact h2
  · rw [hf _ _ (by omega) (by omega)]; exact h3
  · rw [hf _ _ (by omega) (by omega)]; exact h4
  · rw [hf _ _ (by omega) (by omega)]; exact h5
  · rw [hf _ _ (by omega) (by omega)]; exact h6
  · rw [hf _ _ (by omega) (by omega), hf _ _ (by omega) (by omega)]
    exact h9 k k0 k1
theorem CP.fr {E m m' : Mm} {p : Int} (T : InvP E) (h : CP E m p) (hf : ∀ x k, 210 ≤ x → x < 280 → m' x k = m x k) : CP E m' p := by
  obtain ⟨h1, h2, h3⟩ := h
  have T1 := T.1
  refine ⟨h1, by rw [hf _ _ (by omega) (by omega)]; exact h2, fun w w0 w1 => ?_⟩
  have h4 := h3 w w0 w1
  refine ⟨by rw [hf _ _ (by omega) (by omega)]; exact h4.1, by rw [hf _ _ (by omega) (by omega)]; exact h4.2.1, fun i i0 i1 => ?_⟩
  rw [hf _ _ (by omega) (by omega), hf _ _ (by omega) (by omega), hf _ _ (by omega) (by omega)]
  exact h4.2.2 i i0 i1
theorem CO.fr {E m m' : Mm} {t : Int} (h : CO E m t) (hf : ∀ x k, 370 ≤ x → x < 376 → m' x k = m x k) : CO E m' t := by
  obtain ⟨h1, h2, h3⟩ := h
  refine ⟨by rw [hf _ _ (by omega) (by omega)]; exact h1, by rw [hf _ _ (by omega) (by omega)]; exact h2, fun r r0 r1 => ?_⟩
  rw [hf _ _ (by omega) (by omega), hf _ _ (by omega) (by omega)]
  exact h3 r r0 r1
/-- the next byte's code at a place -/
def nxA (E : Mm) (w a : Int) : Int := if a < E 604 w then (if E 603 (10 * w + a) < 32 then E 603 (10 * w + a) + 1 else 27) else 0
theorem CP.code {E m : Mm} {p w a : Int} (h : CP E m p) (hw : 0 ≤ w ∧ w < E 597 23) (ha : 0 ≤ a ∧ a ≤ E 604 w) : m (p + 25 + w) a = nxA E w a := by
  obtain ⟨h4, h5, h6⟩ := h.2.2 w hw.1 hw.2
  unfold nxA
  by_cases hc : a < E 604 w
  · rw [if_pos hc]
    have := h6 a ha.1 hc
    split
    · exact this.1 ‹_›
    · exact (this.2.1 ‹_›).1
  · rw [if_neg hc, show a = E 604 w by omega]
    exact h5
theorem letB_sg {c b : Int} (hb : 32 ≤ b) : letB c b = letB c 32 := by
  unfold letB
  rw [if_neg (show ¬ b < 0 by omega), if_neg (show ¬ b < 32 by omega)]
  rfl
theorem nxA_let {E : Mm} (Pg : InvP E) {w a c : Int} (hw : 0 ≤ w ∧ w < E 597 23) (ha : 0 ≤ a ∧ a ≤ E 604 w) : (0 ≤ nxA E w a ∧ nxA E w a < 28) ∧ letB c (nxE (nxA E w a)) = letB c (if a < E 604 w then E 603 (10 * w + a) else -1) := by
  unfold nxA
  by_cases hc : a < E 604 w
  · rw [if_pos hc, if_pos hc]
    have := (Pg.2 w hw.1 hw.2).2 a ha.1 hc
    split
    · refine ⟨by omega, ?_⟩
      unfold nxE
      rw [if_neg (by omega), if_neg (by omega), show E 603 (10 * w + a) + 1 - 1 = E 603 (10 * w + a) by omega]
    · refine ⟨by decide, ?_⟩
      rw [letB_sg (b := E 603 (10 * w + a)) (by omega)]
      rfl
  · rw [if_neg hc, if_neg hc]
    exact ⟨by decide, rfl⟩
/-- the class's fit is the reference's -/
theorem suC_fit {E m : Mm} {t w a last r : Int} (Pg : InvP E) (Tt : CT E m t) (O : CO E m t) (hw : 0 ≤ w ∧ w < E 597 23) (ha : 0 ≤ a ∧ a < E 604 w) (hl : -1 ≤ last ∧ last < 26) (hr : 0 ≤ r ∧ r < E 602 578) (hs : ¬ E 603 (10 * w + a) < 32) :
    suC m r (E 603 (10 * w + a) - 32) (last + 1) (nxA E w (a + 1)) = true ↔ fitM E r last w a = true := by
  obtain ⟨-, h2, -, -, h5, h6, h7⟩ := Tt.2.2.2.2.2.2.1 r hr.1 hr.2
  obtain ⟨q1, q2⟩ := nxA_let (c := E 602 (11 * r + 3)) Pg hw (a := a + 1) (by omega)
  have e1 := h6 (last + 1) (by omega) (by omega)
  have e2 := h7 _ q1.1 q1.2
  rw [q2] at e2
  rw [show last + 1 - 1 = last by omega] at e1
  unfold suC fitM
  rw [(O.2.2 r hr.1 hr.2).1, O.2.1]
  simp only [Bool.and_eq_true, decide_eq_true_eq]
  rw [e1, e2, h2]
  constructor
  · exact fun h => ⟨h.2.1, by omega, by rw [show 10 * w + a + 1 = 10 * w + (a + 1) by omega]; exact h.2.2⟩
  · exact fun h => ⟨by omega, h.1, by rw [show 10 * w + (a + 1) = 10 * w + a + 1 by omega]; exact h.2.2⟩
theorem CR.v {E m : Mm} {x r : Int} (h : CR E m x r) (hM : v_M E r) : v_R m x := by
  obtain ⟨h1, h2, h3, h4, -⟩ := h
  obtain ⟨-, -, -, g4, -, -, g7⟩ := hM
  refine ⟨h1, by omega, fun i i0 i1 => ?_⟩
  have := h4 i i0 (by omega)
  have := g7 i i0 (by omega)
  omega
theorem CE.v {E m : Mm} {x e : Int} (h : CE E m x e) (T : InvT E) (he : 0 ≤ e ∧ e < E 602 579) : v_E m x := by
  obtain ⟨h1, h2, -, -, h5⟩ := h
  obtain ⟨g1, g2, g3, g4⟩ := T.2.2.2.2.2.2.2.1 e he.1 he.2
  unfold esz at g1 g4
  refine ⟨h1, by omega, fun i i0 i1 => ?_⟩
  have := h5 i i0 (by omega)
  have := g4 i i0 (by omega)
  omega
theorem cAft_las {E m : Mm} {x r last : Int} (h : CR E m x r) (hM : v_M E r) : cAft m x (last + 1) = lasB E r last + 1 := by
  obtain ⟨h1, h2, h3, h4, -⟩ := h
  obtain ⟨-, -, -, g4, -, -, g7⟩ := hM
  unfold cAft lasB
  by_cases hz : E 602 (11 * r + 1) = 0
  · rw [if_neg (by omega), if_pos hz]
  · rw [if_pos (by omega), if_neg hz, h3]
    have := h4 (E 602 (11 * r + 1) - 1) (by omega) (by omega)
    omega
def CellC (E m : Mm) (w : Int) (d : Nat) (last : Int) : Prop := m (376 + (E 604 w - d)) (last + 1) = oc E w d last ∧ m (388 + (E 604 w - d)) (last + 1) = ow E w d last
def RowC (E m : Mm) (w : Int) (d : Nat) : Prop := ∀ l, -1 ≤ l → l < 26 → CellC E m w d l
theorem ow_big {E : Mm} (T : InvT E) {w last : Int} {d : Nat} (h : d ≤ 10) : 0 ≤ ow E w d last ∧ ow E w d last ≤ 63403380965376 := by
  have := ow_rng T (w := w) d last
  refine ⟨this.1, Int.le_trans this.2 ?_⟩
  have h2 : (24 : Nat) ^ d ≤ 24 ^ 10 := Nat.pow_le_pow_right (by decide) h
  have h3 : ((24 : Int) ^ d) = ((24 ^ d : Nat) : Int) := by simp
  rw [h3]
  exact Int.ofNat_le.mpr h2
theorem sW_big {E : Mm} (T : InvT E) {w last : Int} {d : Nat} (h : d + 1 ≤ 10) : ∀ n : Nat, n ≤ 24 → 0 ≤ sumF n (gW E w d last) ∧ sumF n (gW E w d last) ≤ 1521681143169024 := by
  intro n hn
  have h1 : ∀ i, 0 ≤ gW E w d last i ∧ gW E w d last i ≤ 63403380965376 := fun i => by
    unfold gW
    split
    · exact ow_big T (by omega)
    · decide
  refine ⟨sumF_ge fun i _ _ => (h1 i).1, Int.le_trans (sumF_le fun i _ _ => (h1 i).2) ?_⟩
  omega
theorem l82 {E m : Mm} {K : Mm → Prop} {t w last : Int} {d : Nat} (T : InvT E) (Pg : InvP E) (W : InvW E) (Tt : CT E m t) (O : CO E m t) (hw : 0 ≤ w ∧ w < E 597 23) (hd : (d + 1 : Nat) ≤ E 604 w) (hl : -1 ≤ last ∧ last < 26) (R : RowC E m w d) (hs : ¬ E 603 (10 * w + (E 604 w - (d + 1 : Nat))) < 32)
    (k : ∀ m', m' = umem (umem m (376 + (E 604 w - (d + 1 : Nat))) (last + 1) (oc E w (d + 1) last)) (388 + (E 604 w - (d + 1 : Nat))) (last + 1) (ow E w (d + 1) last) → K m') :
    ∀ (n r : Nat) (v9 : aV), r + n = (E 602 578).toNat →
      X 82 10 [(1, 370), (0, E 604 w - (d + 1 : Nat)), (0, last + 1), (0, E 603 (10 * w + (E 604 w - (d + 1 : Nat))) - 32), (0, nxA E w (E 604 w - (d + 1 : Nat) + 1)), (0, minF r (gCo E w d last)), (2, sumF r (gW E w d last)), (9, 0), (0, r), v9] [] m (qV K) := by
  have T2 := T.2.1
  have P2 := (Pg.2 w hw.1 hw.2).1
  have hd10 : d + 1 ≤ 10 ∧ d ≤ 10 := by omega
  have aR : 0 ≤ E 604 w - (d + 1 : Nat) ∧ E 604 w - (d + 1 : Nat) < 10 := by omega
  generalize ha : E 604 w - (d + 1 : Nat) = a at *
  intro n
  induction n with
  | zero =>
    intro r v9 hr
    have : r = (E 602 578).toNat := by omega
    refine w82_10 _ _ _ _ _ _ _ v9 ⟨fun h => ?_, fun _ => ⟨by omega, by omega, fun m7 e7 m9 e9 => k m9 ?_⟩⟩
    · rw [O.1] at h
      omega
    · rw [e9, e7, this]
      have e1 : oc E w (d + 1) last = minF (E 602 578).toNat (gCo E w d last) := by
        unfold oc
        rw [ha, if_neg hs]
        unfold gCo
        rw [ha]
      have e2 : ow E w (d + 1) last = sumF (E 602 578).toNat (gW E w d last) := by
        unfold ow
        rw [ha, if_neg hs]
        unfold gW
        rw [ha]
      rw [e1, e2]
  | succ n ih =>
    intro r v9 hr
    have hrE : 0 ≤ (r : Int) ∧ (r : Int) < E 602 578 := by omega
    have hrr : wr ((r : Int) + 1) = ((r + 1 : Nat) : Int) := wrI (by omega) (by omega)
    have r24 : ((0 : Int) ≤ r ∧ (r : Int) < 24) ∧ r ≤ 24 := ⟨⟨hrE.1, Int.lt_of_lt_of_le hrE.2 T2.2⟩, Int.ofNat_le.mp (Int.le_of_lt (Int.lt_of_lt_of_le hrE.2 T2.2))⟩
    have l27 : 0 ≤ last + 1 ∧ last + 1 < 27 := by omega
    obtain ⟨o1, o2⟩ := O.2.2 r hrE.1 hrE.2
    have hR := Tt.2.2.2.2.2.2.1 r hrE.1 hrE.2
    have hM : v_M E r := T.2.2.2.2.2.2.1 r hrE.1 hrE.2
    have hsu := suC_fit Pg Tt O hw (a := a) (by omega) hl hrE hs
    refine w82_10 _ _ _ _ _ _ _ v9 ⟨fun _ => ⟨⟨r24.1, by rw [o1]; exact hR.1⟩, fun hf => ?_, fun hf => ?_⟩, fun h => absurd (show (r : Int) < m 370 9 by rw [O.1]; exact hrE.2) h⟩
    · rw [hsu] at hf
      rw [o1, cAft_las hR hM, o2]
      have aR1 : 0 ≤ a + 1 ∧ a + 1 < 11 := by omega
      have hL := lasB_rng hM hl
      have hgW : gW E w d last r = ow E w d (lasB E r last) := by unfold gW; rw [ha, if_pos hf]
      have hgC : gCo E w d last r = wnow E r + oc E w d (lasB E r last) := by unfold gCo; rw [ha, if_pos hf]
      generalize lasB E r last = L at hL hgW hgC ⊢
      have hc := R L hL.1 hL.2
      unfold CellC at hc
      rw [show E 604 w - (d : Int) = a + 1 by omega] at hc
      rw [wrI (x := a + 1) (by omega) (by omega), hc.1, hc.2]
      have p1 := ow_big T (w := w) (last := L) (d := d) hd10.2
      have p2 := sW_big T (w := w) (last := last) (d := d) hd10.1 r r24.2
      have p3 := oc_rng T W (w := w) d L
      have p7 := wnow_rng T W (r := r) r24.1.1 r24.1.2
      rw [wrI (x := wnow E r + oc E w d L) (by omega) (by omega), wlI (by omega) (by omega), hrr]
      refine ⟨r24.1, hR.1, hR.v hM, aR1, by omega, ?_⟩
      rw [← hgC, ← hgW]
      exact ih (r + 1) _ (by omega)
    · rw [hsu] at hf
      rw [hrr]
      have e1 : gCo E w d last r = 1000000 := by unfold gCo; rw [ha, if_neg hf]
      have e2 : gW E w d last r = 0 := by unfold gW; rw [ha, if_neg hf]
      have := ih (r + 1) v9 (by omega)
      have s1 : sumF (r + 1) (gW E w d last) = sumF r (gW E w d last) := by
        show sumF r (gW E w d last) + gW E w d last r = _
        rw [e2, Int.add_zero]
      have s2 : minF (r + 1) (gCo E w d last) = minF r (gCo E w d last) := by
        show min (minF r (gCo E w d last)) (gCo E w d last r) = _
        rw [e1]
        have : minF r (gCo E w d last) ≤ 1000000 := minF_le
        omega
      rw [s1, s2] at this
      exact this
theorem c82 {E m : Mm} {K : Mm → Prop} {t w last : Int} {d : Nat} (T : InvT E) (Pg : InvP E) (W : InvW E) (Tt : CT E m t) (O : CO E m t) (hw : 0 ≤ w ∧ w < E 597 23) (hd : (d + 1 : Nat) ≤ E 604 w) (hl : -1 ≤ last ∧ last < 26) (R : RowC E m w d) (hs : ¬ E 603 (10 * w + (E 604 w - (d + 1 : Nat))) < 32)
    (k : ∀ m', m' = umem (umem m (376 + (E 604 w - (d + 1 : Nat))) (last + 1) (oc E w (d + 1) last)) (388 + (E 604 w - (d + 1 : Nat))) (last + 1) (ow E w (d + 1) last) → K m') :
    TrV 82 [(1, 370), (0, E 604 w - (d + 1 : Nat)), (0, last + 1), (0, E 603 (10 * w + (E 604 w - (d + 1 : Nat))) - 32), (0, nxA E w (E 604 w - (d + 1 : Nat) + 1))] m K :=
  e82 _ _ _ _ (l82 T Pg W Tt O hw hd hl R hs k (E 602 578).toNat 0 (9, 0) (by omega))
def f81 (m m' : Mm) : Prop := ∀ x k, ¬ (376 ≤ x ∧ x < 400) → m' x k = m x k
theorem f81.T {E m m' : Mm} {t : Int} (T : InvT E) (h : f81 m m') (c : CT E m t) : CT E m' t := c.fr T fun x k h1 h2 => h x k (by omega)
theorem f81.P {E m m' : Mm} {p : Int} (T : InvP E) (h : f81 m m') (c : CP E m p) : CP E m' p := c.fr T fun x k h1 h2 => h x k (by omega)
theorem f81.O {E m m' : Mm} {t : Int} (h : f81 m m') (c : CO E m t) : CO E m' t := c.fr fun x k h1 h2 => h x k (by omega)
theorem l81 {E m0 : Mm} {K : Mm → Prop} {t p w : Int} (T : InvT E) (Pg : InvP E) (W : InvW E) (Tt : CT E m0 t) (Pp : CP E m0 p) (O : CO E m0 t) (hw : 0 ≤ w ∧ w < E 597 23)
    (k : ∀ m', f81 m0 m' → (∀ d : Nat, (d : Int) ≤ E 604 w → RowC E m' w d) → K m') :
    ∀ (n d : Nat) (m : Mm) (v5 v6 : aV), d + n = (E 604 w).toNat → f81 m0 m → (∀ d' : Nat, d' ≤ d → RowC E m w d') → X 81 48 [(1, 370), (1, p), (0, w), (0, E 604 w), (0, E 604 w - d - 1), v5, v6] [] m (qV K) := by
  have P2 := (Pg.2 w hw.1 hw.2).1
  have P1 := Pg.1
  intro n
  induction n with
  | zero =>
    intro d m v5 v6 hd f R
    exact w81_48 _ _ _ _ v5 v6 Pp.shp ⟨fun _ => k m f fun d' hd' => R d' (by omega), fun h => absurd (show E 604 w - (d : Int) - 1 < 0 by omega) h⟩
  | succ n ih =>
    intro d m v5 v6 hd f R
    have Pm := f.P Pg Pp
    refine w81_48 _ _ _ _ v5 v6 Pp.shp ⟨fun h => absurd h (by omega), fun _ => ⟨by omega, by omega, ?_⟩⟩
    rw [Pm.code hw (by omega)]
    have hb := (Pg.2 w hw.1 hw.2).2 (E 604 w - d - 1) (by omega) (by omega)
    have hN : nxA E w (E 604 w - d - 1) = if E 603 (10 * w + (E 604 w - d - 1)) < 32 then E 603 (10 * w + (E 604 w - d - 1)) + 1 else 27 := by
      unfold nxA
      rw [if_pos (by omega)]
    have inner : ∀ (j : Nat) (l : Int) (m1 : Mm), -1 ≤ l → l + j = 26 → f81 m0 m1 → (∀ d' : Nat, d' ≤ d → RowC E m1 w d') → (∀ l', -1 ≤ l' → l' < l → CellC E m1 w (d + 1) l') → X 81 67 [(1, 370), (1, p), (0, w), (0, E 604 w), (0, E 604 w - d - 1), (0, nxA E w (E 604 w - d - 1)), (0, l + 1)] [] m1 (qV K) := by
      intro j
      induction j with
      | zero =>
        intro l m1 h1 h2 f1 R1 C1
        refine w81_67 _ _ _ _ _ _ Pp.shp (by simp) ⟨fun h => absurd h (by omega), fun _ => ?_⟩
        rw [wrI (x := E 604 w - d - 1 + -1) (by omega) (by omega), show E 604 w - (d : Int) - 1 + -1 = E 604 w - (d + 1 : Nat) - 1 by omega]
        refine ih (d + 1) m1 _ _ (by omega) f1 fun d' hd' => ?_
        by_cases hx : d' = d + 1
        · subst hx
          exact fun l' q1 q2 => C1 l' q1 (by omega)
        · exact R1 d' (by omega)
      | succ j ihj =>
        intro l m1 h1 h2 f1 R1 C1
        have P1m := f1.P Pg Pp
        have hlast : ∀ m2 : Mm, m2 = umem (umem m1 (376 + (E 604 w - (d + 1 : Nat))) (l + 1) (oc E w (d + 1) l)) (388 + (E 604 w - (d + 1 : Nat))) (l + 1) (ow E w (d + 1) l) → X 81 67 [(1, 370), (1, p), (0, w), (0, E 604 w), (0, E 604 w - d - 1), (0, nxA E w (E 604 w - d - 1)), (0, wr (l + 1 + 1))] [] m2 (qV K) := fun m2 e2 => by
          rw [wrI (x := l + 1 + 1) (by omega) (by omega)]
          have out : ∀ x k', ¬ ((x = 376 + (E 604 w - (d + 1 : Nat)) ∨ x = 388 + (E 604 w - (d + 1 : Nat))) ∧ k' = l + 1) → m2 x k' = m1 x k' := fun x k' hn => by
            rw [e2, um_n (by omega), um_n (by omega)]
          have keep : ∀ (d' : Nat) (l' : Int), d' ≤ d + 1 → (d' ≤ d ∨ l' < l) → CellC E m1 w d' l' → CellC E m2 w d' l' := fun d' l' q1 q4 c => by
            unfold CellC
            rw [out _ _ (by omega), out _ _ (by omega)]
            exact c
          refine ihj (l + 1) m2 (by omega) (by omega) (fun x k' q1 => (out x k' (by omega)).trans (f1 x k' q1)) (fun d' hd' l' q1 q2 => keep d' l' (by omega) (Or.inl hd') (R1 d' hd' l' q1 q2)) fun l' q1 q2 => ?_
          by_cases hx : l' = l
          · subst hx
            refine ⟨?_, ?_⟩
            · rw [e2, um_x (by omega), um_s]
            · rw [e2, um_s]
          · exact keep (d + 1) l' (Nat.le_refl _) (Or.inr (by omega)) (C1 l' q1 (by omega))
        refine w81_67 _ _ _ _ _ _ Pp.shp (by simp) ⟨fun _ => ⟨fun hc => ⟨by omega, by omega, ?_, ?_⟩, fun hc => ?_⟩, fun h => absurd (show l + 1 < 27 by omega) h⟩
        · rw [wrI (by omega) (by omega)]
          omega
        · have hs : ¬ E 603 (10 * w + (E 604 w - d - 1)) < 32 := fun hs => by
            rw [hN, if_pos hs] at hc
            omega
          rw [wrI (x := E 604 w - d - 1 + 1) (by omega) (by omega), P1m.code hw (by omega), (((P1m.2.2 w hw.1 hw.2).2.2 _ (by omega) (by omega)).2.1 hs).2]
          have := c82 (K := fun m23 => X 81 67 [(1, 370), (1, p), (0, w), (0, E 604 w), (0, E 604 w - d - 1), (0, nxA E w (E 604 w - d - 1)), (0, wr (l + 1 + 1))] [] m23 (qV K)) (d := d) T Pg W (f1.T T Tt) (f1.O O) hw (by omega) ⟨h1, by omega⟩ (R1 d (Nat.le_refl _)) (by rw [show E 604 w - ((d + 1 : Nat) : Int) = E 604 w - d - 1 by omega]; exact hs) hlast
          rw [show E 604 w - ((d + 1 : Nat) : Int) = E 604 w - d - 1 by omega] at this
          exact this
        · have hs : E 603 (10 * w + (E 604 w - d - 1)) < 32 := Classical.byContradiction fun hs => hc (by rw [hN, if_neg hs])
          have hc' : nxA E w (E 604 w - d - 1) = E 603 (10 * w + (E 604 w - d - 1)) + 1 := by rw [hN, if_pos hs]
          have hcc := R1 d (Nat.le_refl _) (E 603 (10 * w + (E 604 w - d - 1))) (by omega) (by omega)
          rw [wrI (x := E 604 w - d - 1 + 1) (by omega) (by omega)]
          refine ⟨by omega, by omega, by omega, by omega, fun m13 e13 m15 e15 => hlast m15 ?_⟩
          have x1 : oc E w (d + 1) l = oc E w d (E 603 (10 * w + (E 604 w - d - 1))) := by
            conv => lhs; unfold oc
            rw [show E 604 w - ((d + 1 : Nat) : Int) = E 604 w - d - 1 by omega, if_pos hs]
          have x2 : ow E w (d + 1) l = ow E w d (E 603 (10 * w + (E 604 w - d - 1))) := by
            conv => lhs; unfold ow
            rw [show E 604 w - ((d + 1 : Nat) : Int) = E 604 w - d - 1 by omega, if_pos hs]
          unfold CellC at hcc
          rw [show 376 + (E 604 w - (d : Int)) = 376 + (E 604 w - d - 1 + 1) by omega, show 388 + (E 604 w - (d : Int)) = 388 + (E 604 w - d - 1 + 1) by omega, ← hc'] at hcc
          rw [e15, e13, hcc.1, um_x (by omega), hcc.2, x1, x2, show E 604 w - ((d + 1 : Nat) : Int) = E 604 w - d - 1 by omega]
    exact inner 27 (-1) m (by decide) (by decide) f R fun l' q1 q2 => by omega
theorem c81 {E m : Mm} {K : Mm → Prop} {t p w : Int} (T : InvT E) (Pg : InvP E) (W : InvW E) (Tt : CT E m t) (Pp : CP E m p) (O : CO E m t) (hw : 0 ≤ w ∧ w < E 597 23)
    (k : ∀ m', f81 m m' → (∀ d : Nat, (d : Int) ≤ E 604 w → RowC E m' w d) → K m') : TrV 81 [(1, 370), (1, p), (0, w)] m K := by
  have P2 := (Pg.2 w hw.1 hw.2).1
  have P1 := Pg.1
  refine e81 _ _ Pp.shp ⟨by omega, ?_⟩
  rw [(Pp.2.2 w hw.1 hw.2).1]
  have first : ∀ (j : Nat) (l : Int) (m1 : Mm), -1 ≤ l → l + j = 26 → f81 m m1 → (∀ l', -1 ≤ l' → l' < l → CellC E m1 w 0 l') → X 81 10 [(1, 370), (1, p), (0, w), (0, E 604 w), (0, l + 1), (9, 0), (9, 0)] [] m1 (qV K) := by
    intro j
    induction j with
    | zero =>
      intro l m1 h1 h2 f1 C1
      refine w81_10 _ _ _ _ _ _ Pp.shp ⟨fun h => absurd h (by omega), fun _ => ?_⟩
      rw [wrI (x := E 604 w - 1) (by omega) (by omega)]
      have := l81 T Pg W Tt Pp O hw k (E 604 w).toNat 0 m1 (9, 0) (9, 0) (by omega) f1 (fun d' hd' => by
        have : d' = 0 := by omega
        subst this
        exact fun l' q1 q2 => C1 l' q1 (by omega))
      rw [show E 604 w - ((0 : Nat) : Int) - 1 = E 604 w - 1 by omega] at this
      exact this
    | succ j ihj =>
      intro l m1 h1 h2 f1 C1
      refine w81_10 _ _ _ _ _ _ Pp.shp ⟨fun _ => ⟨by omega, by omega, fun m7 e7 m9 e9 => ?_⟩, fun h => absurd (show l + 1 < 27 by omega) h⟩
      rw [wrI (x := l + 1 + 1) (by omega) (by omega)]
      refine ihj (l + 1) m9 (by omega) (by omega) (fun x k' q1 => ?_) fun l' q1 q2 => ?_
      · rw [e9, e7, um_x (by omega), um_x (by omega)]
        exact f1 x k' q1
      · unfold CellC
        by_cases hx : l' = l
        · subst hx
          rw [show E 604 w - ((0 : Nat) : Int) = E 604 w by omega, e9, e7, um_s, um_x (by omega), um_s]
          exact ⟨rfl, rfl⟩
        · have := C1 l' q1 (by omega)
          unfold CellC at this
          rw [show E 604 w - ((0 : Nat) : Int) = E 604 w by omega] at this ⊢
          rw [e9, e7, um_n (by omega), um_n (by omega), um_n (by omega), um_n (by omega)]
          exact this
  exact first 27 (-1) m (by decide) (by decide) (fun _ _ _ => rfl) fun l' q1 q2 => by omega
