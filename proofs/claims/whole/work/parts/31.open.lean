/-! the reference's openings: laysAt(214), laysOpenings(213) -/
theorem minF_ex {n : Nat} {f : Int → Int} (h : minF n f < 1000000) : ∃ i : Int, 0 ≤ i ∧ i < n ∧ minF n f = f i := by
  induction n with
  | zero => exact absurd h (show ¬ (1000000 : Int) < 1000000 by decide)
  | succ n ih =>
    unfold minF at h ⊢
    by_cases hc : minF n f ≤ f n
    · obtain ⟨i, h0, h1, h2⟩ := ih (by omega)
      exact ⟨i, h0, by omega, by omega⟩
    · exact ⟨n, by omega, by omega, by omega⟩
theorem oc_fin {E : Mm} (T : InvT E) (W : InvW E) {w : Int} : ∀ (d : Nat) (last : Int), oc E w d last < 1000000 → oc E w d last ≤ 999 * d := by
  intro d
  induction d with
  | zero => intro last _; exact Int.le_refl _
  | succ d ih =>
    intro last h
    unfold oc at h ⊢
    split at h <;> rename_i hc
    · rw [if_pos hc]
      have := ih _ h
      omega
    · rw [if_neg hc]
      obtain ⟨r, h0, h1, h2⟩ := minF_ex h
      rw [h2] at h ⊢
      split at h <;> rename_i hf
      · rw [if_pos hf]
        have h3 := (wnow_rng T W h0 (by have := T.2.1; omega))
        have := ih _ (show oc E w d (lasB E r last) < 1000000 by omega)
        omega
      · exact absurd h (by decide)
def cvt (c : Int) : Int := if c < 1000000 then c else -2
/-- one cell of the two arrays: the openings of the last d bytes behind last -/
def Cell (E m : Mm) (w : Int) (d : Nat) (last : Int) : Prop := m 608 (27 * (E 604 w - d) + last + 1) = min 1000000000000 (ow E w d last) ∧ m 609 (27 * (E 604 w - d) + last + 1) = cvt (oc E w d last)
def Row (E m : Mm) (w : Int) (d : Nat) : Prop := ∀ l, -1 ≤ l → l < 26 → Cell E m w d l
theorem Cell.fr {E m m' : Mm} {w : Int} {d : Nat} {last : Int} (h : Cell E m w d last) (h1 : m' 608 (27 * (E 604 w - d) + last + 1) = m 608 (27 * (E 604 w - d) + last + 1)) (h2 : m' 609 (27 * (E 604 w - d) + last + 1) = m 609 (27 * (E 604 w - d) + last + 1)) : Cell E m' w d last := by
  unfold Cell
  rw [h1, h2]
  exact h
/-- m' is m but for one cell of each of the two -/
def f214 (m m' : Mm) (i : Int) : Prop := ∀ x k, ¬ ((x = 608 ∨ x = 609) ∧ k = i) → m' x k = m x k
theorem per_no {x k : Int} (h : per x k) : x ≠ 608 ∧ x ≠ 609 := by
  unfold per at h
  omega
theorem f214.ag {E m m' : Mm} {i : Int} (h : f214 m m' i) (A : Ag E m) : Ag E m' := A.fr fun x k hp => h x k (by have := per_no hp; omega)
theorem f214.u8 {m m' : Mm} {i v : Int} (h : f214 m m' i) : f214 m (umem m' 608 i v) i := fun x k hn => by
  rw [um_n (by omega)]
  exact h x k hn
theorem f214.u9 {m m' : Mm} {i v : Int} (h : f214 m m' i) : f214 m (umem m' 609 i v) i := fun x k hn => by
  rw [um_n (by omega)]
  exact h x k hn
theorem f214.refl {m : Mm} {i : Int} : f214 m m i := fun _ _ _ => rfl
theorem bi_tt {p : Prop} {a : Prop} (h : p) : (p → a) → a := fun f => f h
def gW (E : Mm) (w : Int) (d : Nat) (last r : Int) : Int := if fitM E r last w (E 604 w - (d + 1 : Nat)) = true then ow E w d (lasB E r last) else 0
def gCo (E : Mm) (w : Int) (d : Nat) (last r : Int) : Int := if fitM E r last w (E 604 w - (d + 1 : Nat)) = true then wnow E r + oc E w d (lasB E r last) else 1000000
theorem l214 {E m0 : Mm} {K : Mm → Prop} (T : InvT E) (W : InvW E) (A0 : Ag E m0) {w last : Int} {d : Nat} (hw : 0 ≤ w ∧ w < 10) (hs : E 604 w ≤ 10) (hd : (d + 1 : Nat) ≤ E 604 w) (hl : -1 ≤ last ∧ last < 26) (R : Row E m0 w d) {v5 : aV} (hv5 : v5.1 ≠ 2)
    (k : ∀ m', f214 m0 m' (27 * (E 604 w - (d + 1 : Nat)) + last + 1) → m' 608 (27 * (E 604 w - (d + 1 : Nat)) + last + 1) = min 1000000000000 (sumF (E 602 578).toNat (gW E w d last)) → m' 609 (27 * (E 604 w - (d + 1 : Nat)) + last + 1) = cvt (minF (E 602 578).toNat (gCo E w d last)) → K m') :
    ∀ (n r : Nat) (m : Mm) (v7 : aV), r + n = (E 602 578).toNat → f214 m0 m (27 * (E 604 w - (d + 1 : Nat)) + last + 1) → m 608 (27 * (E 604 w - (d + 1 : Nat)) + last + 1) = min 1000000000000 (sumF r (gW E w d last)) → m 609 (27 * (E 604 w - (d + 1 : Nat)) + last + 1) = cvt (minF r (gCo E w d last)) →
      X 214 136 [(1, 597), (0, w), (0, E 604 w - (d + 1 : Nat)), (0, last), (0, 27 * (E 604 w - (d + 1 : Nat)) + last + 1), v5, (0, r), v7] [] m (qV K) := by
  obtain ⟨T1, T2, T3, T4, T5, T6, T7, T8, T9⟩ := id T
  generalize ha : E 604 w - (d + 1 : Nat) = a at k ⊢
  have hi : 0 ≤ 27 * a + last + 1 ∧ 27 * a + last + 1 < 270 := by omega
  intro n
  induction n with
  | zero =>
    intro r m v7 hr f h8 h9
    have A := f.ag A0
    refine w214_136 w a last _ v5 r v7 hv5 ⟨A.b.trans T1, fun h => ?_, fun _ => ?_⟩
    · rw [A.r] at h
      omega
    · have : r = (E 602 578).toNat := by omega
      subst this
      exact k m f h8 h9
  | succ n ih =>
    intro r m v7 hr f h8 h9
    have A := f.ag A0
    have hrE : (r : Int) < E 602 578 := by omega
    have r24 : (0 : Int) ≤ r ∧ (r : Int) < 24 := ⟨by omega, by omega⟩
    have hM : v_M E r := T7 r r24.1 hrE
    have hMm := v_M_ag A hM
    have hrr : wr ((r : Int) + 1) = ((r + 1 : Nat) : Int) := wrI (by omega) (by omega)
    refine w214_136 w a last _ v5 r v7 hv5 ⟨A.b.trans T1, fun _ => ⟨⟨hMm, hw, ?_, ?_⟩, fun hf => ?_, fun hf => ?_⟩, fun h => absurd (show (r : Int) < m 602 578 by rw [A.r]; exact hrE) h⟩
    · rw [A.s]; omega
    · rw [A.s]; omega
    · rw [fit_ag A r24.2] at hf
      rw [lasB_ag A hM]
      have hL := lasB_rng hM hl
      have hgW : gW E w d last r = ow E w d (lasB E r last) := by unfold gW; rw [ha, if_pos hf]
      have hgC : gCo E w d last r = wnow E r + oc E w d (lasB E r last) := by unfold gCo; rw [ha, if_pos hf]
      generalize lasB E r last = L at hL hgW hgC ⊢
      have hj : wr (wr (wr (27 * wr (a + 1)) + L) + 1) = 27 * (a + 1) + L + 1 := by
        rw [wrI (x := a + 1) (by omega) (by omega), wrI (x := 27 * (a + 1)) (by omega) (by omega), wrI (x := 27 * (a + 1) + L) (by omega) (by omega), wrI (by omega) (by omega)]
      rw [hj]
      have hc := R L hL.1 hL.2
      unfold Cell at hc
      rw [show E 604 w - (d : Int) = a + 1 by omega] at hc
      have e8 : m 608 (27 * (a + 1) + L + 1) = min 1000000000000 (ow E w d L) := (f 608 _ (by omega)).trans hc.1
      have e9 : m 609 (27 * (a + 1) + L + 1) = cvt (oc E w d L) := (f 609 _ (by omega)).trans hc.2
      have p1 := (ow_rng T (w := w) d L).1
      have p2 : 0 ≤ sumF r (gW E w d last) := sumF_ge fun i h0 h1 => by
        unfold gW
        split
        · exact (ow_rng T d _).1
        · decide
      have p3 := oc_rng T W (w := w) d L
      have p4 := oc_fin T W (w := w) d L
      have p5 : minF r (gCo E w d last) ≤ 1000000 := minF_le
      have p6 : 0 ≤ minF r (gCo E w d last) := minF_ge fun i h0 h1 => by
        unfold gCo
        split
        · have := (oc_rng T W (w := w) d (lasB E i last)).1
          have := (wnow_rng T W (r := i) h0 (Int.lt_trans h1 r24.2)).1
          omega
        · decide
      have p7 := wnow_rng T W (r := r) r24.1 r24.2
      have s1 : sumF (r + 1) (gW E w d last) = sumF r (gW E w d last) + ow E w d L := by rw [← hgW]; rfl
      have s2 : minF (r + 1) (gCo E w d last) = min (minF r (gCo E w d last)) (wnow E r + oc E w d L) := by rw [← hgC]; rfl
      have hV : ∀ m2, f214 m0 m2 (27 * a + last + 1) → v_V m2 r := fun m2 f2 => v_V_of (f2.ag A0) T W r24.1 r24.2
      have key : ∀ m2 : Mm, f214 m0 m2 (27 * a + last + 1) → m2 608 (27 * a + last + 1) = min 1000000000000 (sumF (r + 1) (gW E w d last)) → m2 609 (27 * a + last + 1) = cvt (minF r (gCo E w d last)) → X 214 219 [(1, 597), (0, w), (0, a), (0, last), (0, 27 * a + last + 1), v5, (0, r), (0, 27 * (a + 1) + L + 1)] [] m2 (qV K) := by
        intro m2 f2 g8 g9
        have A2 := f2.ag A0
        have e9' : m2 609 (27 * (a + 1) + L + 1) = cvt (oc E w d L) := (f2 609 _ (by omega)).trans hc.2
        have big : cvt (oc E w d L) < 0 → oc E w d L = 1000000 := by unfold cvt; split <;> omega
        have fin : ¬ cvt (oc E w d L) < 0 → oc E w d L < 1000000 ∧ cvt (oc E w d L) = oc E w d L := by unfold cvt; split <;> omega
        have put : ∀ v, ¬ cvt (oc E w d L) < 0 → (cvt (minF r (gCo E w d last)) < 0 ∨ wr (wnow m2 r + m2 609 (27 * (a + 1) + L + 1)) < cvt (minF r (gCo E w d last))) → X 214 263 [(1, 597), (0, w), (0, a), (0, last), (0, 27 * a + last + 1), v5, (0, r), v] [] m2 (qV K) ∨ v ≠ (0, 27 * (a + 1) + L + 1) := by
          intro v hn hlt
          by_cases hv : v = (0, 27 * (a + 1) + L + 1)
          · left
            subst hv
            obtain ⟨q1, q2⟩ := fin hn
            rw [wnow_ag A2 r24.2, e9', q2, wrI (x := wnow E r + oc E w d L) (by omega) (by omega)] at hlt
            refine w214_263 w a last _ v5 r _ hv5 ⟨hV m2 f2, by omega, by omega, fun m7 e7 => ?_⟩
            rw [wnow_ag A2 r24.2, e9', q2, wrI (x := wnow E r + oc E w d L) (by omega) (by omega)] at e7
            rw [hrr]
            refine ih (r + 1) m7 _ (by omega) (by rw [e7]; exact f2.u9) (by rw [e7, um_x (by decide)]; exact g8) ?_
            rw [e7, um_s, s2]
            unfold cvt at hlt ⊢
            split at hlt <;> split <;> omega
          · exact Or.inr hv
        refine w214_219 w a last _ v5 r _ hv5 ⟨by omega, fun h => ?_, fun h => ⟨by omega, fun h2 => ?_, fun h2 => ⟨hV m2 f2, fun h3 => ?_, fun h3 => ?_⟩⟩⟩
        · rw [e9'] at h
          have := big h
          rw [hrr]
          refine ih (r + 1) m2 _ (by omega) f2 g8 ?_
          rw [g9, s2]
          exact congrArg cvt (by omega)
        · rw [e9'] at h
          rw [g9] at h2
          exact (put _ h (Or.inl h2)).resolve_right (fun q => q rfl)
        · rw [e9'] at h
          rw [g9] at h3
          exact (put _ h (Or.inr h3)).resolve_right (fun q => q rfl)
        · rw [e9'] at h
          obtain ⟨q1, q2⟩ := fin h
          rw [g9] at h2 h3
          rw [wnow_ag A2 r24.2, e9', q2, wrI (x := wnow E r + oc E w d L) (by omega) (by omega)] at h3
          rw [hrr]
          refine ih (r + 1) m2 _ (by omega) f2 g8 ?_
          rw [g9, s2]
          unfold cvt at h2 h3 ⊢
          split at h2 <;> split <;> omega
      refine ⟨hMm, by omega, by omega, fun m15 e15 => ?_⟩
      rw [h8, e8, wlI (by omega) (by omega)] at e15
      have f15 : f214 m0 m15 (27 * a + last + 1) := by rw [e15]; exact f.u8
      have h15 : m15 608 (27 * a + last + 1) = min 1000000000000 (sumF r (gW E w d last)) + min 1000000000000 (ow E w d L) := by rw [e15, um_s]
      have h95 : m15 609 (27 * a + last + 1) = cvt (minF r (gCo E w d last)) := by rw [e15, um_x (by decide)]; exact h9
      rw [h15]
      refine ⟨fun h => ?_, fun h => ?_⟩
      · intro m19 e19
        refine key m19 (by rw [e19]; exact f15.u8) ?_ (by rw [e19, um_x (by decide)]; exact h95)
        rw [e19, um_s, s1]
        unfold lcmp at h
        split at h <;> omega
      · refine key m15 f15 ?_ h95
        rw [h15, s1]
        unfold lcmp at h
        split at h <;> omega
    · rw [fit_ag A r24.2] at hf
      rw [hrr]
      refine ih (r + 1) m _ (by omega) f ?_ ?_
      · rw [h8]
        show _ = min 1000000000000 (sumF r (gW E w d last) + gW E w d last r)
        unfold gW
        rw [ha, if_neg hf, Int.add_zero]
      · rw [h9]
        show _ = cvt (min (minF r (gCo E w d last)) (gCo E w d last r))
        have p5 : minF r (gCo E w d last) ≤ 1000000 := minF_le
        have : gCo E w d last r = 1000000 := by
          unfold gCo
          rw [ha, if_neg hf]
        rw [this]
        exact congrArg cvt (by omega)
theorem c214 {E m : Mm} {K : Mm → Prop} (T : InvT E) (Pg : InvP E) (W : InvW E) (A : Ag E m) {w last : Int} {d : Nat} (hw : 0 ≤ w ∧ w < E 597 23) (hd : (d : Int) ≤ E 604 w) (hl : -1 ≤ last ∧ last < 26) (R : ∀ d', d = d' + 1 → Row E m w d')
    (k : ∀ m', f214 m m' (27 * (E 604 w - d) + last + 1) → Cell E m' w d last → K m') : TrV 214 [(1, 597), (0, w), (0, E 604 w - d), (0, last)] m K := by
  have P2 := (Pg.2 w hw.1 hw.2).1
  have P1 := Pg.1
  have q : wr (wr (wr (27 * (E 604 w - d)) + last) + 1) = 27 * (E 604 w - d) + last + 1 := by
    rw [wrI (x := 27 * (E 604 w - d)) (by omega) (by omega), wrI (x := 27 * (E 604 w - d) + last) (by omega) (by omega), wrI (by omega) (by omega)]
  refine e214 w (E 604 w - d) last ⟨by omega, fun h => ?_, fun h => ?_⟩ <;> rw [q]
  · rw [A.s] at h
    have hd0 : d = 0 := by omega
    subst hd0
    refine w214_31 _ _ _ _ _ _ _ _ _ ⟨by omega, fun m3 e3 => ⟨by omega, fun h2 => ?_, fun h2 => absurd ?_ h2⟩⟩
    · refine w214_54 _ _ _ _ _ _ _ _ _ ⟨by omega, fun m5 e5 => ⟨by omega, fun h3 => ?_, fun h3 => absurd ?_ h3⟩⟩
      · refine k m5 (by rw [e5, e3]; exact f214.refl.u8.u9) ⟨?_, ?_⟩
        · rw [e5, um_x (by decide), e3, um_s]
          rfl
        · rw [e5, um_s]
          rfl
      · rw [e5, um_x (by decide), e3, um_x (by decide), A.s]
        omega
    · rw [e3, um_x (by decide), A.s]
      omega
  · rw [A.s] at h
    obtain ⟨d', rfl⟩ : ∃ d', d = d' + 1 := ⟨d - 1, by omega⟩
    have R' := R d' rfl
    refine w214_31 _ _ _ _ _ _ _ _ _ ⟨by omega, fun m3 e3 => ⟨by omega, fun h2 => absurd ?_ h, fun _ => ?_⟩⟩
    · rw [e3, um_x (by decide), A.s] at h2
      exact h2
    · refine w214_54 _ _ _ _ _ _ _ _ _ ⟨by omega, fun m5 e5 => ?_⟩
      have f5 : f214 m m5 (27 * (E 604 w - (d' + 1 : Nat)) + last + 1) := by rw [e5, e3]; exact f214.refl.u8.u9
      have A5 := f5.ag A
      have h8 : m5 608 (27 * (E 604 w - (d' + 1 : Nat)) + last + 1) = 0 := by rw [e5, um_x (by decide), e3, um_s]
      have h9 : m5 609 (27 * (E 604 w - (d' + 1 : Nat)) + last + 1) = -2 := by rw [e5, um_s]
      refine ⟨by omega, fun h2 => absurd ?_ h, fun _ => ?_⟩
      · rw [A5.s] at h2
        exact h2
      have hb := (Pg.2 w hw.1 hw.2).2 (E 604 w - (d' + 1 : Nat)) (by omega) (by omega)
      have q2 : wr (wr (10 * w) + (E 604 w - (d' + 1 : Nat))) = 10 * w + (E 604 w - (d' + 1 : Nat)) := by
        rw [wrI (x := 10 * w) (by omega) (by omega), wrI (by omega) (by omega)]
      rw [q2, A5.p]
      refine ⟨by omega, fun hc => ?_, fun hc => ?_⟩
      · generalize hB : E 603 (10 * w + (E 604 w - (d' + 1 : Nat))) = b at hb hc ⊢
        have q3 : wr (wr (wr (27 * wr (E 604 w - (d' + 1 : Nat) + 1)) + b) + 1) = 27 * (E 604 w - d') + b + 1 := by
          rw [wrI (x := E 604 w - (d' + 1 : Nat) + 1) (by omega) (by omega), wrI (x := 27 * (E 604 w - (d' + 1 : Nat) + 1)) (by omega) (by omega), wrI (x := _ + b) (by omega) (by omega), wrI (by omega) (by omega)]
          omega
        rw [q3]
        refine ⟨by omega, by omega, fun m17 e17 m19 e19 => ?_⟩
        have hc1 := R' b (by omega) (by omega)
        have g8 : m5 608 (27 * (E 604 w - d') + b + 1) = min 1000000000000 (ow E w d' b) := (f5 608 _ (by omega)).trans hc1.1
        have g9 : m5 609 (27 * (E 604 w - d') + b + 1) = cvt (oc E w d' b) := (f5 609 _ (by omega)).trans hc1.2
        have x1 : oc E w (d' + 1) last = oc E w d' b := by
          rw [← hB] at hc ⊢
          conv => lhs; unfold oc
          rw [if_pos hc]
        have x2 : ow E w (d' + 1) last = ow E w d' b := by
          rw [← hB] at hc ⊢
          conv => lhs; unfold ow
          rw [if_pos hc]
        rw [g8] at e17
        have g9' : m17 609 (27 * (E 604 w - d') + b + 1) = cvt (oc E w d' b) := by rw [e17, um_x (by decide)]; exact g9
        rw [g9'] at e19
        refine k m19 (by rw [e19, e17]; exact f5.u8.u9) ⟨?_, ?_⟩
        · rw [e19, um_x (by decide), e17, um_s, x2]
        · rw [e19, um_s, x1]
      · refine l214 (m0 := m) (r := 0) T W A (by omega) P2.2 hd hl R' (v5 := (0, _)) (by simp) (fun m' f' h8' h9' => k m' f' ⟨?_, ?_⟩) (E 602 578).toNat m5 (9, 0) (by omega) f5 h8 h9
        · rw [h8']
          refine congrArg (min 1000000000000) ?_
          conv => rhs; unfold ow
          rw [if_neg hc]
          rfl
        · rw [h9']
          refine congrArg cvt ?_
          conv => rhs; unfold oc
          rw [if_neg hc]
          rfl
def f213 (m m' : Mm) : Prop := ∀ x k, x ≠ 608 → x ≠ 609 → m' x k = m x k
theorem f213.ag {E m m' : Mm} (h : f213 m m') (A : Ag E m) : Ag E m' := A.fr fun x k hp => h x k (per_no hp).1 (per_no hp).2
theorem l213 {E m0 : Mm} {K : Mm → Prop} (T : InvT E) (Pg : InvP E) (W : InvW E) (A0 : Ag E m0) {w : Int} (hw : 0 ≤ w ∧ w < E 597 23)
    (k : ∀ m', f213 m0 m' → (∀ d : Nat, (d : Int) ≤ E 604 w → Row E m' w d) → K m') :
    ∀ (n d : Nat) (m : Mm) (v3 : aV), d + n = (E 604 w).toNat + 1 → f213 m0 m → (∀ d' : Nat, d' < d → Row E m w d') → X 213 7 [(1, 597), (0, w), (0, E 604 w - d), v3] [] m (qV K) := by
  have P2 := (Pg.2 w hw.1 hw.2).1
  intro n
  induction n with
  | zero =>
    intro d m v3 hd f R
    exact w213_7 _ _ v3 ⟨fun _ => k m f fun d' hd' => R d' (by omega), fun h => absurd (show E 604 w - (d : Int) < 0 by omega) h⟩
  | succ n ih =>
    intro d m v3 hd f R
    refine w213_7 _ _ v3 ⟨fun h => absurd h (by omega), fun _ => ?_⟩
    have inner : ∀ (j : Nat) (l : Int) (m1 : Mm), -1 ≤ l → l + j = 26 → f213 m0 m1 → (∀ d' : Nat, d' < d → Row E m1 w d') → (∀ l', -1 ≤ l' → l' < l → Cell E m1 w d l') → X 213 13 [(1, 597), (0, w), (0, E 604 w - d), (0, l)] [] m1 (qV K) := by
      intro j
      induction j with
      | zero =>
        intro l m1 h1 h2 f1 R1 C1
        refine w213_13 _ _ _ ⟨fun h => absurd h (by omega), fun _ => ?_⟩
        rw [wrI (x := E 604 w - d + -1) (by omega) (by omega), show E 604 w - (d : Int) + -1 = E 604 w - (d + 1 : Nat) by omega]
        refine ih (d + 1) m1 _ (by omega) f1 fun d' hd' => ?_
        by_cases hx : d' = d
        · subst hx
          exact fun l' q1 q2 => C1 l' q1 (by omega)
        · exact R1 d' (by omega)
      | succ j ihj =>
        intro l m1 h1 h2 f1 R1 C1
        refine w213_13 _ _ _ ⟨fun _ => ?_, fun h => absurd (show l < 26 by omega) h⟩
        refine c214 T Pg W (f1.ag A0) hw (by omega) ⟨h1, by omega⟩ (fun d' hd' => R1 d' (by omega)) fun m2 f2 c2 => ?_
        rw [wrI (x := l + 1) (by omega) (by omega)]
        have keep : ∀ (d' : Nat) (l' : Int), d' ≤ d → -1 ≤ l' → l' < 26 → (d' < d ∨ l' < l) → Cell E m1 w d' l' → Cell E m2 w d' l' := fun d' l' q1 q2 q3 q4 c => by
          refine c.fr (f2 _ _ ?_) (f2 _ _ ?_) <;> rintro ⟨-, e⟩ <;> omega
        refine ihj (l + 1) m2 (by omega) (by omega) (fun x k' q1 q2 => (f2 x k' (by omega)).trans (f1 x k' q1 q2)) (fun d' hd' l' q1 q2 => keep d' l' (by omega) q1 q2 (Or.inl hd') (R1 d' hd' l' q1 q2)) fun l' q1 q2 => ?_
        by_cases hx : l' = l
        · rw [hx]
          exact c2
        · exact keep d l' (Nat.le_refl _) q1 (by omega) (Or.inr (by omega)) (C1 l' q1 (by omega))
    exact inner 27 (-1) m (by decide) (by decide) f R fun l' q1 q2 => by omega
theorem c213 {E m : Mm} {K : Mm → Prop} (T : InvT E) (Pg : InvP E) (W : InvW E) (A : Ag E m) {w : Int} (hw : 0 ≤ w ∧ w < E 597 23)
    (k : ∀ m', f213 m m' → (∀ d : Nat, (d : Int) ≤ E 604 w → Row E m' w d) → K m') : TrV 213 [(1, 597), (0, w)] m K := by
  have P1 := Pg.1
  refine e213 w ⟨by omega, ?_⟩
  rw [A.s]
  have := l213 T Pg W A hw k ((E 604 w).toNat + 1) 0 m (9, 0) (by omega) (fun _ _ _ _ => rfl) (fun d' h => absurd h (by omega))
  rw [show E 604 w - ((0 : Nat) : Int) = E 604 w by omega] at this
  exact this
