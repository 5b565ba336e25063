/-! exact costs: a word that opens to an entry's letters -/
def eL (E : Mm) (e k : Int) : Int := E 602 (264 + 11 * e + 3 + k)
def ex (E : Mm) (w e : Int) : Nat → Int → Int
  | 0, k => if k = esz E e then 0 else 1000000
  | d + 1, k => if E 603 (10 * w + (E 604 w - (d + 1 : Nat))) < 32 then (if k < esz E e ∧ eL E e k = E 603 (10 * w + (E 604 w - (d + 1 : Nat))) then ex E w e d (k + 1) else 1000000)
    else minF (E 602 578).toNat fun r => if (fitM E r (lasO E e k) w (E 604 w - (d + 1 : Nat)) && stM E r e k) = true then wnow E r + ex E w e d (k + bsz E r) else 1000000
def gX (E : Mm) (w e : Int) (d : Nat) (k r : Int) : Int := if (fitM E r (lasO E e k) w (E 604 w - (d + 1 : Nat)) && stM E r e k) = true then wnow E r + ex E w e d (k + bsz E r) else 1000000
theorem ex_rng {E : Mm} (T : InvT E) (W : InvW E) {w e : Int} : ∀ (d : Nat) (k : Int), 0 ≤ ex E w e d k ∧ ex E w e d k ≤ 1000000 := by
  intro d
  induction d with
  | zero =>
    intro k
    unfold ex
    split <;> decide
  | succ d ih =>
    intro k
    unfold ex
    split
    · split
      · exact ih _
      · decide
    · refine ⟨minF_ge fun r h0 h1 => ?_, minF_le⟩
      split
      · have := (wnow_rng T W h0 (by have := T.2.1; omega)).1
        have := (ih (k + bsz E r)).1
        omega
      · decide
theorem ex_fin {E : Mm} (T : InvT E) (W : InvW E) {w e : Int} : ∀ (d : Nat) (k : Int), ex E w e d k < 1000000 → ex E w e d k ≤ 999 * d := by
  intro d
  induction d with
  | zero =>
    intro k h
    unfold ex at h ⊢
    split at h
    · rw [if_pos ‹_›]
      decide
    · exact absurd h (by decide)
  | succ d ih =>
    intro k h
    unfold ex at h ⊢
    split at h <;> rename_i hc
    · rw [if_pos hc]
      split at h <;> rename_i hk
      · rw [if_pos hk]
        have := ih _ h
        omega
      · exact absurd h (by decide)
    · rw [if_neg hc]
      obtain ⟨r, h0, h1, h2⟩ := minF_ex h
      rw [h2] at h ⊢
      split at h <;> rename_i hf
      · rw [if_pos hf]
        have h3 := (wnow_rng T W h0 (by have := T.2.1; omega))
        have := ih _ (show ex E w e d (k + bsz E r) < 1000000 by omega)
        omega
      · exact absurd h (by decide)
theorem stM_le {E : Mm} {r e k : Int} (h : stM E r e k = true) : k + bsz E r ≤ esz E e := by
  unfold stM at h
  rw [Bool.and_eq_true] at h
  exact of_decide_eq_true h.1
/-- the reference's array of exact costs -/
def CelX (E m : Mm) (w e : Int) (d : Nat) (k : Int) : Prop := m 612 (9 * (E 604 w - d) + k) = cvt (ex E w e d k)
def RowX (E m : Mm) (w e : Int) (d : Nat) : Prop := ∀ k, 0 ≤ k → k ≤ esz E e → CelX E m w e d k
theorem v_B_of {E m : Mm} (A : Ag E m) (T : InvT E) {r e k : Int} (hr : 0 ≤ r ∧ r < E 602 578) (he : 0 ≤ e ∧ e < E 602 579) (hk : 0 ≤ k ∧ k ≤ esz E e) : v_B m r e k := by
  have h1 := (T.2.2.2.2.2.2.2.1 e he.1 he.2).1
  have h2 := T.2.2.1
  refine ⟨v_M_ag A (T.2.2.2.2.2.2.1 r hr.1 hr.2), ⟨he.1, Int.lt_of_lt_of_le he.2 h2.2⟩, by omega, ?_⟩
  rw [esz_ag A (Int.lt_of_lt_of_le he.2 h2.2)]
  omega
/-- exactBy1(229) -/
theorem c229 {E m : Mm} {K : Int → Mm → Prop} (T : InvT E) (Pg : InvP E) (W : InvW E) (A : Ag E m) {w e k r : Int} {d : Nat} (hw : 0 ≤ w ∧ w < E 597 23) (he : 0 ≤ e ∧ e < E 602 579) (hd : (d + 1 : Nat) ≤ E 604 w) (hk : 0 ≤ k ∧ k ≤ esz E e) (hr : 0 ≤ r ∧ r < E 602 578) (R : RowX E m w e d)
    (kk : K (if gX E w e d k r < 1000000 then gX E w e d k r else -1) m) : TrI 229 [(1, 597), (0, w), (0, e), (0, E 604 w - (d + 1 : Nat)), (0, k), (0, r)] m K := by
  have P2 := (Pg.2 w hw.1 hw.2).1
  have P1 := Pg.1
  have T2 := T.2.1
  have T3 := T.2.2.1
  have h8 := (T.2.2.2.2.2.2.2.1 e he.1 he.2).1
  have r24 : 0 ≤ r ∧ r < 24 := ⟨hr.1, Int.lt_of_lt_of_le hr.2 T2.2⟩
  have e24 : 0 ≤ e ∧ e < 24 := ⟨he.1, Int.lt_of_lt_of_le he.2 T3.2⟩
  have hM : v_M E r := T.2.2.2.2.2.2.1 r hr.1 hr.2
  have hMm := v_M_ag A hM
  have hB : bsz E r = E 602 (11 * r + 1) := rfl
  have g4 := hM.2.2.2.1
  have q5 : wr (9 * wr (E 604 w - (d + 1 : Nat) + 1)) = 9 * (E 604 w - d) := by
    rw [wrI (x := E 604 w - (d + 1 : Nat) + 1) (by omega) (by omega), wrI (by omega) (by omega)]
    omega
  have hF : v_F m r w (E 604 w - (d + 1 : Nat)) := ⟨hMm, by omega, by rw [A.s]; omega, by rw [A.s]; omega⟩
  refine e229 _ _ _ _ _ ⟨⟨A.b.trans T.1, e24, by omega⟩, hF, fun hf => ⟨v_B_of A T hr he hk, w229_31 _ _ _ _ _ _ _ ⟨fun hn => ?_, fun hn => ?_⟩⟩, fun hf => w229_31 _ _ _ _ _ _ _ ⟨fun _ => ?_, fun h => absurd (by decide) h⟩⟩
  · rw [lasO_ag A e24.2 (by omega), fit_ag A r24.2] at hf
    rw [bhd_ag A hM e24.2 (by omega)] at hn
    have hst : ¬ stM E r e k = true := fun hs => by
      unfold bhd at hn
      rw [if_pos hs] at hn
      omega
    have : gX E w e d k r = 1000000 := by
      unfold gX
      rw [if_neg (fun h => hst (Bool.and_eq_true_iff.mp h).2)]
    rw [this, if_neg (by decide)] at kk
    exact kk
  · rw [lasO_ag A e24.2 (by omega), fit_ag A r24.2] at hf
    rw [bhd_ag A hM e24.2 (by omega)] at hn ⊢
    have hst : stM E r e k = true := by
      unfold bhd at hn
      split at hn
      · assumption
      · exact absurd (by decide) hn
    have hle := stM_le hst
    have hbh : bhd E r e k = k + bsz E r := by unfold bhd; rw [if_pos hst]
    have hg : gX E w e d k r = wnow E r + ex E w e d (k + bsz E r) := by
      unfold gX
      rw [if_pos (Bool.and_eq_true_iff.mpr ⟨hf, hst⟩)]
    have hc := R (k + bsz E r) (by omega) hle
    unfold CelX at hc
    rw [hbh, q5, wrI (x := 9 * (E 604 w - d) + (k + bsz E r)) (by omega) (by omega), hc]
    refine ⟨by omega, fun h => ?_, fun h => ⟨v_V_of A T W r24.1 r24.2, ?_⟩⟩
    · have hb : ¬ ex E w e d (k + bsz E r) < 1000000 := fun hlt => by
        unfold cvt at h
        rw [if_pos hlt] at h
        have := (ex_rng T W (w := w) (e := e) d (k + bsz E r)).1
        omega
      have := (wnow_rng T W r24.1 r24.2).1
      rw [hg, if_neg (by omega)] at kk
      exact kk
    · have hb : ex E w e d (k + bsz E r) < 1000000 := by
        unfold cvt at h
        split at h
        · assumption
        · exact absurd (by decide) h
      have p4 := ex_fin T W (w := w) (e := e) d (k + bsz E r) hb
      have p5 := (ex_rng T W (w := w) (e := e) d (k + bsz E r)).1
      have p7 := wnow_rng T W r24.1 r24.2
      have hcv : cvt (ex E w e d (k + bsz E r)) = ex E w e d (k + bsz E r) := if_pos hb
      rw [wnow_ag A r24.2, hcv, wrI (by omega) (by omega)]
      rw [hg, if_pos (by omega)] at kk
      exact kk
  · rw [lasO_ag A e24.2 (by omega), fit_ag A r24.2] at hf
    have : gX E w e d k r = 1000000 := by
      unfold gX
      rw [if_neg (fun h => hf (Bool.and_eq_true_iff.mp h).1)]
    rw [this, if_neg (by decide)] at kk
    exact kk
def f612 (m m' : Mm) (i : Int) : Prop := ∀ x k, ¬ (x = 612 ∧ k = i) → m' x k = m x k
theorem f612.ag {E m m' : Mm} {i : Int} (h : f612 m m' i) (A : Ag E m) : Ag E m' := A.fr fun x k hp => by
  unfold per at hp
  exact h x k (by omega)
theorem f612.row {E m m' : Mm} {w e k : Int} {d d' : Nat} (h : f612 m m' (9 * (E 604 w - d) + k)) (hk : 0 ≤ k ∧ k < 9) (h8 : esz E e ≤ 8) (hd : d' ≠ d) (R : RowX E m w e d') : RowX E m' w e d' := fun l h0 h1 => by
  unfold CelX
  rw [h _ _ (by omega)]
  exact R l h0 h1
/-- laysExactAt(228) -/
theorem c228 {E m : Mm} {K : Mm → Prop} (T : InvT E) (Pg : InvP E) (W : InvW E) (A : Ag E m) {w e k : Int} {d : Nat} (hw : 0 ≤ w ∧ w < E 597 23) (he : 0 ≤ e ∧ e < E 602 579) (hd : (d : Int) ≤ E 604 w) (hk : 0 ≤ k ∧ k ≤ esz E e) (R : ∀ d', d = d' + 1 → RowX E m w e d')
    (kk : ∀ m', f612 m m' (9 * (E 604 w - d) + k) → CelX E m' w e d k → K m') : TrV 228 [(1, 597), (0, w), (0, e), (0, E 604 w - d), (0, k)] m K := by
  have P2 := (Pg.2 w hw.1 hw.2).1
  have P1 := Pg.1
  have T2 := T.2.1
  have T3 := T.2.2.1
  have h8 := (T.2.2.2.2.2.2.2.1 e he.1 he.2).1
  have e24 : 0 ≤ e ∧ e < 24 := ⟨he.1, Int.lt_of_lt_of_le he.2 T3.2⟩
  have w10 : 0 ≤ w ∧ w < 10 := by omega
  have hE : esz E e = E 602 (264 + 11 * e) := rfl
  have q : wr (wr (9 * (E 604 w - d)) + k) = 9 * (E 604 w - d) + k := by
    rw [wrI (x := 9 * (E 604 w - d)) (by omega) (by omega), wrI (by omega) (by omega)]
  have qe : wr (264 + wr (11 * e)) = 264 + 11 * e := by
    rw [wrI (x := 11 * e) (by omega) (by omega), wrI (by omega) (by omega)]
  have qe3 : 0 ≤ 264 + 11 * e ∧ 264 + 11 * e < 1166 := by omega
  have qi : 0 ≤ 9 * (E 604 w - d) + k ∧ 9 * (E 604 w - d) + k < 99 := by omega
  refine e228 _ _ _ _ ?_
  rw [q, qe]
  refine ⟨qi, fun m3 e3 => ?_⟩
  have f3 : f612 m m3 (9 * (E 604 w - d) + k) := fun x k' hn => by rw [e3, um_n hn]
  have A3 := f3.ag A
  have h3 : m3 612 (9 * (E 604 w - d) + k) = -2 := by rw [e3, um_s]
  have fu : ∀ (m4 : Mm) v, f612 m m4 (9 * (E 604 w - d) + k) → f612 m (umem m4 612 (9 * (E 604 w - d) + k) v) (9 * (E 604 w - d) + k) := fun m4 v f x k' hn => by
    rw [um_n hn]
    exact f x k' hn
  refine ⟨w10, fun h => ?_, fun h => ?_⟩
  · rw [A3.s] at h
    have hd0 : d = 0 := by omega
    rw [A3.a (show 264 + 11 * e < 583 by omega), ← hE]
    refine ⟨⟨A3.b.trans T.1, qe3⟩, fun hk2 m31 e31 => kk m31 (by rw [e31]; exact fu _ _ f3) ?_, fun hk2 m29 e29 => kk m29 (by rw [e29]; exact fu _ _ f3) ?_⟩
    · unfold CelX
      rw [e31, um_s, hd0]
      unfold ex
      rw [if_pos hk2]
      rfl
    · unfold CelX
      rw [e29, um_s, hd0]
      unfold ex
      rw [if_neg hk2]
      rfl
  · rw [A3.s] at h
    obtain ⟨d', rfl⟩ : ∃ d', d = d' + 1 := ⟨d - 1, by omega⟩
    have R' := R d' rfl
    have a10 : 0 ≤ 10 * w + (E 604 w - (d' + 1 : Nat)) ∧ 10 * w + (E 604 w - (d' + 1 : Nat)) < 100 := by omega
    have q2 : wr (wr (10 * w) + (E 604 w - (d' + 1 : Nat))) = 10 * w + (E 604 w - (d' + 1 : Nat)) := by
      rw [wrI (x := 10 * w) (by omega) (by omega), wrI (by omega) (by omega)]
    have q4 : wr (wr (264 + 11 * e + 3) + k) = 264 + 11 * e + 3 + k := by
      rw [wrI (x := 264 + 11 * e + 3) (by omega) (by omega), wrI (by omega) (by omega)]
    have q5 : wr (wr (9 * wr (E 604 w - (d' + 1 : Nat) + 1)) + k) = 9 * (E 604 w - d') + k := by
      rw [wrI (x := E 604 w - (d' + 1 : Nat) + 1) (by omega) (by omega), wrI (x := 9 * (E 604 w - (d' + 1 : Nat) + 1)) (by omega) (by omega), wrI (by omega) (by omega)]
      omega
    rw [q2, A3.p]
    refine ⟨a10, fun hs => ?_, fun hs => ?_⟩
    · rw [A3.a (show 264 + 11 * e < 583 by omega), ← hE, q4, A3.a (show 264 + 11 * e + 3 + k < 583 by omega), q5]
      have hex : ex E w e (d' + 1) k = if k < esz E e ∧ eL E e k = E 603 (10 * w + (E 604 w - (d' + 1 : Nat))) then ex E w e d' (k + 1) else 1000000 := by
        conv => lhs; unfold ex
        rw [if_pos hs]
      refine ⟨⟨A3.b.trans T.1, qe3⟩, fun hk2 => ⟨⟨A3.b.trans T.1, by omega⟩, fun hb => ?_, fun hb => kk m3 f3 ?_⟩, fun hk2 => kk m3 f3 ?_⟩
      · have q6 : wr (9 * (E 604 w - d') + k + 1) = 9 * (E 604 w - d') + (k + 1) := by
          rw [wrI (by omega) (by omega)]
          omega
        rw [q6]
        have hc := R' (k + 1) (by omega) (by omega)
        unfold CelX at hc
        refine ⟨by omega, fun m23 e23 => kk m23 (by rw [e23]; exact fu _ _ f3) ?_⟩
        unfold CelX
        rw [e23, um_s, f3 _ _ (by omega), hc, hex, if_pos ⟨hk2, hb⟩]
      · unfold CelX
        rw [h3, hex, if_neg (fun hh => hb hh.2)]
        rfl
      · unfold CelX
        rw [h3, hex, if_neg (fun hh => hk2 hh.1)]
        rfl
    · have hex : ex E w e (d' + 1) k = minF (E 602 578).toNat (gX E w e d' k) := by
        conv => lhs; unfold ex
        rw [if_neg hs]
        rfl
      have loop : ∀ (n r : Nat) (m1 : Mm) (v8 : aV), r + n = (E 602 578).toNat → f612 m m1 (9 * (E 604 w - (d' + 1 : Nat)) + k) → m1 612 (9 * (E 604 w - (d' + 1 : Nat)) + k) = cvt (minF r (gX E w e d' k)) → X 228 135 [(1, 597), (0, w), (0, e), (0, E 604 w - (d' + 1 : Nat)), (0, k), (0, 9 * (E 604 w - (d' + 1 : Nat)) + k), (0, E 603 (10 * w + (E 604 w - (d' + 1 : Nat)))), (0, r), v8] [] m1 (qV K) := by
        intro n
        induction n with
        | zero =>
          intro r m1 v8 hr f1 h1
          have A1 := f1.ag A
          refine w228_135 _ _ _ _ _ _ _ _ (by simp) ⟨A1.b.trans T.1, fun h2 => absurd h2 (by rw [A1.r]; omega), fun _ => kk m1 f1 ?_⟩
          unfold CelX
          rw [h1, hex, show r = (E 602 578).toNat by omega]
        | succ n ih =>
          intro r m1 v8 hr f1 h1
          have A1 := f1.ag A
          have hrE : (r : Int) < E 602 578 := by omega
          have r24 : (0 : Int) ≤ r ∧ (r : Int) < 24 := ⟨Int.natCast_nonneg r, Int.lt_of_lt_of_le hrE T2.2⟩
          have hrr : wr ((r : Int) + 1) = ((r + 1 : Nat) : Int) := wrI (by omega) (by omega)
          have s2 : minF (r + 1) (gX E w e d' k) = min (minF r (gX E w e d' k)) (gX E w e d' k r) := rfl
          have p5 : minF r (gX E w e d' k) ≤ 1000000 := minF_le
          have pg : ∀ i : Int, 0 ≤ i → i < 24 → 0 ≤ gX E w e d' k i := fun i i0 i1 => by
            unfold gX
            split
            · have := (wnow_rng T W (r := i) i0 i1).1
              have := (ex_rng T W (w := w) (e := e) d' (k + bsz E i)).1
              omega
            · decide
          have p6 : 0 ≤ minF r (gX E w e d' k) := minF_ge fun i i0 i1 => pg i i0 (Int.lt_trans i1 r24.2)
          have p7 := pg r r24.1 r24.2
          refine w228_135 _ _ _ _ _ _ _ _ (by simp) ⟨A1.b.trans T.1, fun _ => ?_, fun h2 => absurd (show (r : Int) < m1 602 578 by rw [A1.r]; exact hrE) h2⟩
          refine c229 T Pg W A1 hw he hd hk ⟨r24.1, hrE⟩ (f1.row ⟨hk.1, by omega⟩ h8.2 (by omega) R') ?_
          rw [hrr]
          generalize gX E w e d' k r = g at s2 p7
          refine ⟨fun h2 => ih (r + 1) m1 _ (by omega) f1 ?_, fun h2 => ⟨qi, fun h4 m14 e14 => ih (r + 1) m14 _ (by omega) (by rw [e14]; exact fu _ _ f1) ?_, fun h4 => ⟨fun h6 m18 e18 => ih (r + 1) m18 _ (by omega) (by rw [e18]; exact fu _ _ f1) ?_, fun h6 => ih (r + 1) m1 _ (by omega) f1 ?_⟩⟩⟩
          · rw [h1, s2]
            split at h2
            · omega
            · exact congrArg cvt (by omega)
          · rw [h1] at h4
            rw [e14, um_s, s2]
            unfold cvt at h4 ⊢
            split at h2 <;> split at h4 <;> split <;> omega
          · rw [h1] at h4 h6
            rw [e18, um_s, s2]
            unfold cvt at h4 h6 ⊢
            split at h2 <;> split at h4 <;> split <;> omega
          · rw [h1] at h4 h6 ⊢
            rw [s2]
            unfold cvt at h4 h6 ⊢
            split at h2 <;> split at h4 <;> split <;> omega
      exact loop (E 602 578).toNat 0 m3 (9, 0) (by omega) f3 h3
def f227 (m m' : Mm) : Prop := ∀ x k, x ≠ 612 → m' x k = m x k
theorem f227.ag {E m m' : Mm} (h : f227 m m') (A : Ag E m) : Ag E m' := A.fr fun x k hp => by
  unfold per at hp
  exact h x k (by omega)
/-- exactOf(227) -/
theorem c227 {E m : Mm} {K : Int → Mm → Prop} (T : InvT E) (Pg : InvP E) (W : InvW E) (A : Ag E m) {w e : Int} (hw : 0 ≤ w ∧ w < E 597 23) (he : 0 ≤ e ∧ e < E 602 579)
    (kk : ∀ m', f227 m m' → (∀ d : Nat, (d : Int) ≤ E 604 w → RowX E m' w e d) → K (cvt (ex E w e (E 604 w).toNat 0)) m') : TrI 227 [(1, 597), (0, w), (0, e)] m K := by
  have P2 := (Pg.2 w hw.1 hw.2).1
  have P1 := Pg.1
  have T3 := T.2.2.1
  have h8 := (T.2.2.2.2.2.2.2.1 e he.1 he.2).1
  have e24 : 0 ≤ e ∧ e < 24 := ⟨he.1, Int.lt_of_lt_of_le he.2 T3.2⟩
  have hE : esz E e = E 602 (264 + 11 * e) := rfl
  have qe : wr (264 + wr (11 * e)) = 264 + 11 * e := by
    rw [wrI (x := 11 * e) (by omega) (by omega), wrI (by omega) (by omega)]
  have qe3 : 0 ≤ 264 + 11 * e ∧ 264 + 11 * e < 1166 := by omega
  have outer : ∀ (n d : Nat) (m1 : Mm) (v4 : aV), d + n = (E 604 w).toNat + 1 → f227 m m1 → (∀ d' : Nat, d' < d → RowX E m1 w e d') → X 227 7 [(1, 597), (0, w), (0, e), (0, E 604 w - d), v4] [] m1 (qI K) := by
    intro n
    induction n with
    | zero =>
      intro d m1 v4 hd f R
      refine w227_7 _ _ _ v4 ⟨fun _ => ?_, fun h => absurd (show E 604 w - (d : Int) < 0 by omega) h⟩
      have := R (E 604 w).toNat (by omega) 0 (by omega) (by omega)
      unfold CelX at this
      rw [show 9 * (E 604 w - ((E 604 w).toNat : Int)) + 0 = 0 by omega] at this
      rw [this]
      exact kk m1 f fun d' hd' => R d' (by omega)
    | succ n ih =>
      intro d m1 v4 hd f R
      have A1 := f.ag A
      refine w227_7 _ _ _ v4 ⟨fun h => absurd h (by omega), fun _ => ?_⟩
      rw [qe, A1.a (show 264 + 11 * e < 583 by omega), ← hE]
      refine ⟨⟨A1.b.trans T.1, qe3⟩, ?_⟩
      have inner : ∀ (j : Nat) (k : Int) (m2 : Mm), k + 1 = j → k ≤ esz E e → f227 m m2 → (∀ d' : Nat, d' < d → RowX E m2 w e d') → (∀ k', k < k' → k' ≤ esz E e → CelX E m2 w e d k') → X 227 25 [(1, 597), (0, w), (0, e), (0, E 604 w - d), (0, k)] [] m2 (qI K) := by
        intro j
        induction j with
        | zero =>
          intro k m2 hk hk2 f2 R2 C2
          refine w227_25 _ _ _ _ ⟨fun _ => ?_, fun h => absurd (show k < 0 by omega) h⟩
          rw [wrI (x := E 604 w - d + -1) (by omega) (by omega), show E 604 w - (d : Int) + -1 = E 604 w - (d + 1 : Nat) by omega]
          refine ih (d + 1) m2 _ (by omega) f2 fun d' hd' => ?_
          by_cases hx : d' = d
          · subst hx
            exact fun k' q1 q2 => C2 k' (by omega) q2
          · exact R2 d' (by omega)
        | succ j ihj =>
          intro k m2 hk hk2 f2 R2 C2
          refine w227_25 _ _ _ _ ⟨fun h => absurd h (by omega), fun _ => ?_⟩
          refine c228 T Pg W (f2.ag A) hw he (by omega) ⟨by omega, hk2⟩ (fun d' hd' => R2 d' (by omega)) fun m3 f3 c3 => ?_
          rw [wrI (x := k + -1) (by omega) (by omega)]
          refine ihj (k + -1) m3 (by omega) (by omega) (fun x k' q1 => (f3 x k' (fun hh => q1 hh.1)).trans (f2 x k' q1)) (fun d' hd' => f3.row ⟨by omega, by omega⟩ h8.2 (by omega) (R2 d' hd')) fun k' q1 q2 => ?_
          by_cases hx : k' = k
          · rw [hx]
            exact c3
          · unfold CelX
            rw [f3 _ _ (by omega)]
            exact C2 k' (by omega) q2
      exact inner (esz E e + 1).toNat (esz E e) m1 (by omega) (Int.le_refl _) f R fun k' q1 q2 => by omega
  refine e227 _ _ ⟨by omega, ?_⟩
  rw [A.s]
  have := outer ((E 604 w).toNat + 1) 0 m (9, 0) (by omega) (fun _ _ _ => rfl) (fun d' h => absurd h (by omega))
  rw [show E 604 w - ((0 : Nat) : Int) = E 604 w by omega] at this
  exact this
