/-! the reference's follows(223) -/
def f223 (m m' : Mm) : Prop := ∀ x k, ¬ (x = 610 ∨ x = 611) → ¬ (x = 597 ∧ (k = 31 ∨ k = 33)) → m' x k = m x k
theorem f223.ag {E m m' : Mm} (h : f223 m m') (A : Ag E m) : Ag E m' := A.fr fun x k hp => by
  unfold per at hp
  exact h x k (by omega) (by omega)
def S3 (m : Mm) (L R : List Int) : Prop := m 597 31 = L.length ∧ LA m 610 0 L ∧ m 597 33 = R.length ∧ LA m 611 0 R
theorem rl_at {E : Mm} {r : Int} {i : Nat} (h : i < (rl E r).length) : (rl E r)[i] = E 602 (11 * r + 5 + i) := by
  simp [rl]
theorem S3.put {m : Mm} {L R : List Int} {v : Int} (h : S3 m L R) : S3 (umem (umem m 610 (m 597 31) v) 597 31 (L.length + 1)) (L ++ [v]) R := by
  obtain ⟨h1, h2, h3, h4⟩ := h
  refine ⟨?_, ?_, ?_, ?_⟩
  · rw [um_s, List.length_append]
    rfl
  · refine h2.snoc (fun k k0 k1 => ?_) ?_
    · rw [um_x (by decide), um_k (by omega)]
    · rw [um_x (by decide), h1, um_s]
      omega
  · rw [um_k (by decide), um_x (by decide)]
    exact h3
  · refine h4.fr fun k k0 k1 => ?_
    rw [um_x (by decide), um_x (by decide)]
theorem S3.take {m : Mm} {L R : List Int} {r : Int} (h : S3 m L R) : S3 (umem (umem m 611 (m 597 33) r) 597 33 (R.length + 1)) L (R ++ [r]) := by
  obtain ⟨h1, h2, h3, h4⟩ := h
  refine ⟨?_, ?_, ?_, ?_⟩
  · rw [um_k (by decide), um_x (by decide)]
    exact h1
  · refine h2.fr fun k k0 k1 => ?_
    rw [um_x (by decide), um_x (by decide)]
  · rw [um_s, List.length_append]
    rfl
  · refine h4.snoc (fun k k0 k1 => ?_) ?_
    · rw [um_x (by decide), um_k (by omega)]
    · rw [um_x (by decide), h3, um_s]
      omega
theorem take_one {l : List Int} {i : Nat} (h : i < l.length) : l.take (i + 1) = l.take i ++ [l[i]] := by
  rw [List.take_succ, List.getElem?_eq_getElem h]
  rfl
theorem l223w {E m0 : Mm} {K : Int → Mm → Prop} (T : InvT E) (A0 : Ag E m0) {w a last r : Int} {L R : List Int} (hr : 0 ≤ r ∧ r < E 602 578) (hL : (L.length : Int) ≤ 54) (hR : (R.length : Int) < 10) {v4 : aV}
    (k : ∀ m' v6, f223 m0 m' → S3 m' (L ++ rl E r) (R ++ [r]) → X 223 30 [(1, 597), (0, w), (0, lasB E r last), (0, wr (a + 1)), v4, (0, r), (0, v6)] [] m' (qI K)) :
    ∀ (n i : Nat) (m : Mm), i + n = (rl E r).length → f223 m0 m → S3 m (L ++ (rl E r).take i) R → X 223 84 [(1, 597), (0, w), (0, last), (0, a), v4, (0, r), (0, i)] [] m (qI K) := by
  have hM := T.2.2.2.2.2.2.1 r hr.1 hr.2
  obtain ⟨hl1, hl2⟩ := rl_len hM
  have T2 := T.2.1
  have r24 : 0 ≤ r ∧ r < 24 := ⟨hr.1, Int.lt_of_lt_of_le hr.2 T2.2⟩
  have q1 : wr (wr (11 * r) + 1) = 11 * r + 1 := by rw [wrI (x := 11 * r) (by omega) (by omega), wrI (by omega) (by omega)]
  have q3 : 0 ≤ 11 * r + 1 ∧ 11 * r + 1 < 1166 := by omega
  intro n
  induction n with
  | zero =>
    intro i m hi f S
    have A := f.ag A0
    have hie : i = (rl E r).length := by omega
    subst hie
    rw [List.take_length] at S
    refine w223_84 _ _ _ _ _ _ ⟨⟨A.b.trans T.1, by rw [q1]; exact q3⟩, fun h => absurd h ?_, fun _ => ⟨?_, fun m7 e7 m9 e9 => ?_⟩⟩
    · rw [q1, A.a (show 11 * r + 1 < 583 by omega)]
      omega
    · rw [S.2.2.1]
      omega
    · have e33 : m7 597 33 = R.length := by rw [e7, um_x (by decide)]; exact S.2.2.1
      rw [e33, wrI (by omega) (by omega)] at e9
      have f9 : f223 m0 m9 := fun x k' h1 h2 => by
        rw [e9, e7, um_n (by omega), um_n (by omega)]
        exact f x k' h1 h2
      refine ⟨v_M_ag (f9.ag A0) hM, ?_⟩
      rw [lasB_ag (f9.ag A0) hM]
      refine k m9 _ f9 ?_
      rw [e9, e7]
      exact S.take
  | succ n ih =>
    intro i m hi f S
    have A := f.ag A0
    have il : i < (rl E r).length := by omega
    have q2 : wr (wr (wr (11 * r) + 5) + i) = 11 * r + 5 + i := by
      rw [wrI (x := 11 * r) (by omega) (by omega), wrI (x := 11 * r + 5) (by omega) (by omega), wrI (by omega) (by omega)]
    have q4 : 0 ≤ 11 * r + 5 + (i : Int) ∧ 11 * r + 5 + (i : Int) < 1166 := by omega
    have hlen : ((L ++ (rl E r).take i).length : Int) = L.length + i := by
      rw [List.length_append, List.length_take]
      omega
    refine w223_84 _ _ _ _ _ _ ⟨⟨A.b.trans T.1, by rw [q1]; exact q3⟩, fun _ => ⟨⟨A.b.trans T.1, by rw [q2]; exact q4⟩, ?_, fun m17 e17 m19 e19 => ?_⟩, fun h => absurd ?_ h⟩
    · rw [S.1]
      omega
    · rw [q2, A.a (show 11 * r + 5 + (i : Int) < 583 by omega), ← rl_at il] at e17
      have e31 : m17 597 31 = (L ++ (rl E r).take i).length := by rw [e17, um_x (by decide)]; exact S.1
      rw [e31, wrI (x := ((L ++ (rl E r).take i).length : Int) + 1) (by omega) (by omega)] at e19
      rw [wrI (x := (i : Int) + 1) (by omega) (by omega)]
      refine ih (i + 1) m19 (by omega) (fun x k' h1 h2 => ?_) ?_
      · rw [e19, e17, um_n (by omega), um_n (by omega)]
        exact f x k' h1 h2
      · rw [take_one il, ← List.append_assoc, e19, e17]
        exact S.put
    · rw [q1, A.a (show 11 * r + 1 < 583 by omega)]
      omega
theorem f223.row {E m m' : Mm} {w : Int} {d : Nat} (h : f223 m m') (R : Row E m w d) : Row E m' w d := fun l h1 h2 => (R l h1 h2).fr (h _ _ (by omega) (by omega)) (h _ _ (by omega) (by omega))
theorem l223 {E m0 : Mm} {K : Int → Mm → Prop} (T : InvT E) (Pg : InvP E) (W : InvW E) (A0 : Ag E m0) {w : Int} (hw : 0 ≤ w ∧ w < E 597 23) (R0 : ∀ d : Nat, (d : Int) ≤ E 604 w → Row E m0 w d)
    {LL RR : List Int} (k : ∀ m', f223 m0 m' → S3 m' LL RR → K 1 m') :
    ∀ (d : Nat) (last : Int) (m : Mm) (L R : List Int) (v4 v5 v6 : aV), (d : Int) ≤ E 604 w → (-1 ≤ last ∧ last < 26) → oc E w d last < 1000000 → f223 m0 m → S3 m L R → L.length + 6 * d ≤ 60 → R.length + d ≤ 10 → L ++ wL E w d last = LL → R ++ wR E w d last = RR →
      X 223 30 [(1, 597), (0, w), (0, last), (0, E 604 w - d), v4, v5, v6] [] m (qI K) := by
  have P2 := (Pg.2 w hw.1 hw.2).1
  have P1 := Pg.1
  have w10 : 0 ≤ w ∧ w < 10 := by omega
  intro d
  induction d with
  | zero =>
    intro last m L R v4 v5 v6 hd hl hc f S n1 n2 eL eR
    have A := f.ag A0
    refine w223_30 _ _ _ v4 v5 v6 ⟨w10, fun h => absurd h ?_, fun _ => k m f ?_⟩
    · rw [A.s]
      omega
    · unfold wL at eL
      unfold wR at eR
      rw [List.append_nil] at eL eR
      rw [← eL, ← eR]
      exact S
  | succ d ih =>
    intro last m L R v4 v5 v6 hd hl hc f S n1 n2 eL eR
    have A := f.ag A0
    have hb := (Pg.2 w hw.1 hw.2).2 (E 604 w - (d + 1 : Nat)) (by omega) (by omega)
    have a10 : 0 ≤ E 604 w - (d + 1 : Nat) ∧ E 604 w - (d + 1 : Nat) < 10 := by omega
    have q2 : wr (wr (10 * w) + (E 604 w - (d + 1 : Nat))) = 10 * w + (E 604 w - (d + 1 : Nat)) := by
      rw [wrI (x := 10 * w) (by omega) (by omega), wrI (by omega) (by omega)]
    have q5 : wr (E 604 w - (d + 1 : Nat) + 1) = E 604 w - d := by
      rw [wrI (by omega) (by omega)]
      omega
    have q6 : 0 ≤ 10 * w + (E 604 w - (d + 1 : Nat)) ∧ 10 * w + (E 604 w - (d + 1 : Nat)) < 100 := by omega
    have q7 : (0 : Int) ≤ L.length ∧ (L.length : Int) ≤ 54 := by omega
    have q8 : (R.length : Int) < 10 := by omega
    refine w223_30 _ _ _ v4 v5 v6 ⟨w10, fun _ => ?_, fun h => absurd (show E 604 w - ((d + 1 : Nat) : Int) < m 604 w by rw [A.s]; omega) h⟩
    rw [q2, A.p, q5]
    refine ⟨q6, fun hs => ⟨by rw [S.1]; omega, fun m14 e14 m16 e16 => ?_⟩, fun hs => ?_⟩
    · have e31 : m14 597 31 = L.length := by rw [e14, um_x (by decide)]; exact S.1
      rw [e31, wrI (x := (L.length : Int) + 1) (by omega) (by omega)] at e16
      have x1 : oc E w (d + 1) last = oc E w d (E 603 (10 * w + (E 604 w - (d + 1 : Nat)))) := by
        conv => lhs; unfold oc
        rw [if_pos hs]
      unfold wL at eL
      unfold wR at eR
      rw [if_pos hs] at eL eR
      refine ih _ m16 (L ++ [E 603 (10 * w + (E 604 w - (d + 1 : Nat)))]) R _ v5 v6 (by omega) (by omega) (x1 ▸ hc) (fun x k' h1 h2 => ?_) ?_ ?_ (by omega) ?_ eR
      · rw [e16, e14, um_n (by omega), um_n (by omega)]
        exact f x k' h1 h2
      · rw [e16, e14]
        exact S.put
      · rw [List.length_append, List.length_singleton]
        omega
      · rw [List.append_assoc]
        exact eL
    · obtain ⟨h1, h2, h3⟩ := wst_ok hs hc
      have hM := T.2.2.2.2.2.2.1 _ h1.1 h1.2
      have hW : 0 ≤ wnow E (wst E w d last) := by unfold wnow; omega
      have hL := lasB_rng hM hl
      unfold wL at eL
      unfold wR at eR
      rw [if_neg hs] at eL eR
      refine c225 T Pg W A hw hd hl (fun d' hd' => f.row (R0 d' hd')) hs hc ?_
      refine l223w T A0 (L := L) (R := R) h1 q7.2 q8 (fun m' v6' f' S' => ?_) (rl E (wst E w d last)).length 0 m (Nat.zero_add _) f (by rw [List.take_zero, List.append_nil]; exact S)
      rw [q5]
      have := (rl_len hM).2
      refine ih _ m' (L ++ rl E (wst E w d last)) (R ++ [wst E w d last]) _ _ _ (by omega) hL (by omega) f' S' ?_ ?_ ?_ ?_
      · rw [List.length_append]
        omega
      · rw [List.length_append, List.length_singleton]
        omega
      · rw [List.append_assoc]
        exact eL
      · rw [List.append_assoc]
        exact eR
/-- follows(223): the letters and the readings of a word's least opening -/
theorem c223 {E m : Mm} {K : Int → Mm → Prop} (T : InvT E) (Pg : InvP E) (W : InvW E) (A : Ag E m) {w : Int} (hw : 0 ≤ w ∧ w < E 597 23)
    (kn : ∀ m', (∀ x k, ¬ (608 ≤ x ∧ x ≤ 611) → ¬ (x = 597 ∧ (k = 31 ∨ k = 33)) → m' x k = m x k) → Cell E m' w (E 604 w).toNat (-1) → ¬ oc E w (E 604 w).toNat (-1) < 1000000 → K 0 m')
    (k : ∀ m', (∀ x k, ¬ (608 ≤ x ∧ x ≤ 611) → ¬ (x = 597 ∧ (k = 31 ∨ k = 33)) → m' x k = m x k) → Cell E m' w (E 604 w).toNat (-1) → oc E w (E 604 w).toNat (-1) < 1000000 → S3 m' (wL E w (E 604 w).toNat (-1)) (wR E w (E 604 w).toNat (-1)) → K 1 m') : TrI 223 [(1, 597), (0, w)] m K := by
  have P2 := (Pg.2 w hw.1 hw.2).1
  refine e223 w (c213 T Pg W A hw fun m1 f1 R1 m3 e3 m5 e5 => ?_)
  have f5 : ∀ x k, ¬ (608 ≤ x ∧ x ≤ 611) → ¬ (x = 597 ∧ (k = 31 ∨ k = 33)) → m5 x k = m x k := fun x k h1 h2 => by
    rw [e5, e3, um_n (by omega), um_n (by omega)]
    exact f1 x k (by omega) (by omega)
  have A5 : Ag E m5 := A.fr fun x k hp => by
    unfold per at hp
    exact f5 x k (by omega) (by omega)
  have R5 : ∀ d : Nat, (d : Int) ≤ E 604 w → Row E m5 w d := fun d hd l h1 h2 => by
    refine (R1 d hd l h1 h2).fr ?_ ?_ <;> rw [e5, e3, um_x (by decide), um_x (by decide)]
  have hd : (((E 604 w).toNat : Nat) : Int) = E 604 w := by omega
  have c0 := R5 (E 604 w).toNat (by omega) (-1) (by decide) (by decide)
  have c9 : m5 609 0 = cvt (oc E w (E 604 w).toNat (-1)) := by
    have := c0.2
    rw [hd] at this
    rw [show (0 : Int) = 27 * (E 604 w - E 604 w) + -1 + 1 by omega]
    exact this
  have S5 : S3 m5 [] [] := ⟨by rw [e5, um_k (by decide), e3, um_s]; rfl, LA.nil, by rw [e5, um_s]; rfl, LA.nil⟩
  have p3 := oc_rng T W (w := w) (E 604 w).toNat (-1)
  rw [c9]
  refine ⟨fun h => kn m5 f5 c0 fun hlt => ?_, fun h => ?_⟩
  · unfold cvt at h
    rw [if_pos hlt] at h
    omega
  · have hc : oc E w (E 604 w).toNat (-1) < 1000000 := by
      unfold cvt at h
      split at h
      · assumption
      · exact absurd (by decide) h
    have := l223 (K := K) T Pg W A5 hw R5 (fun m' f' S' => k m' (fun x k h1 h2 => (f' x k (by omega) h2).trans (f5 x k h1 h2)) (c0.fr (f' _ _ (by omega) (by omega)) (f' _ _ (by omega) (by omega))) hc S') (E 604 w).toNat (-1) m5 [] [] (9, 0) (9, 0) (9, 0) (by omega) (by decide) hc (fun _ _ _ _ => rfl) S5 (by simp; omega) (by simp; omega) rfl rfl
    rw [hd, show E 604 w - E 604 w = 0 by omega] at this
    exact this
