/-! text, both sides -/
section PTX
variable {sh : (Int → Int) → Int → List Int} {E m m' : Mm}
theorem CT.frt {t : Int} (T : InvT E) (h : CT E m t) (hf : ∀ x k, t ≤ x → x < t + 102 → m' x k = m x k) : CT E m' t := by
  obtain ⟨h1, h2, h3, h4, h5, h6, h7, h8, h9⟩ := h
  have T2 := T.2.1
  have T3 := T.2.2.1
  refine ⟨h1, ?_, ?_, ?_, ?_, ?_, fun r r0 r1 => (h7 r r0 r1).fr (fun k => hf _ _ (by omega) (by omega)) (fun k => hf _ _ (by omega) (by omega)), fun e e0 e1 => (h8 e e0 e1).fr (fun k => hf _ _ (by omega) (by omega)) (fun k => hf _ _ (by omega) (by omega)), fun k k0 k1 => ?_⟩
  · rw [hf _ _ (by omega) (by omega)]; exact h2
  · rw [hf _ _ (by omega) (by omega)]; exact h3
  · rw [hf _ _ (by omega) (by omega)]; exact h4
  · rw [hf _ _ (by omega) (by omega)]; exact h5
  · rw [hf _ _ (by omega) (by omega)]; exact h6
  · rw [hf _ _ (by omega) (by omega), hf _ _ (by omega) (by omega)]
    exact h9 k k0 k1
theorem CT.bk {B : Bk} {t : Int} (I : BI B) (h : CT (EB B) m t) (e : ∀ k, 0 ≤ k → k < 583 → E 602 k = B k) : CT E m t := by
  obtain ⟨h1, h2, h3, h4, h5, h6, h7, h8, h9⟩ := h
  have I1 := I.1
  have I2 := I.2.1
  have e1 := e 578 (by decide) (by decide)
  have e2 := e 579 (by decide) (by decide)
  refine ⟨h1, h2.trans e1.symm, h3.trans e2.symm, h4.trans (e 580 (by decide) (by decide)).symm, h5.trans (e 581 (by decide) (by decide)).symm, h6.trans (e 582 (by decide) (by decide)).symm, fun r r0 r1 => ?_, fun y y0 y1 => ?_, fun k k0 k1 => ?_⟩
  · rw [e1] at r1
    exact (h7 r r0 r1).eq (I.2.2.2.2.2.1 r r0 r1).2.1.2 (fun j j0 j1 => by rw [e _ (by omega) (by omega)]; exact EB_t.symm) (fun _ => rfl) fun _ => rfl
  · rw [e2] at y1
    exact (h8 y y0 y1).eq (I.2.2.2.2.2.2.1 y y0 y1).1.2 (fun j j0 j1 => by rw [e _ (by omega) (by omega)]; exact EB_t.symm) (fun _ => rfl) fun _ => rfl
  · rw [e _ (by omega) (by omega), e _ (by omega) (by omega)]
    exact h9 k k0 k1
theorem BI.T' {B : Bk} (I : BI B) (h16 : E 597 16 = 0) (e : ∀ k, 0 ≤ k → k < 583 → E 602 k = B k) : InvT E := by
  obtain ⟨h1, h2, h3, h4, h5, h6, h7, h8, h9⟩ := I
  have e1 := e 578 (by decide) (by decide)
  have e2 := e 579 (by decide) (by decide)
  refine ⟨h16, by rw [e1]; exact h1, by rw [e2]; exact h2, by rw [e _ (by decide) (by decide)]; exact h3, by rw [e _ (by decide) (by decide)]; exact h4, by rw [e _ (by decide) (by decide)]; exact h5, fun r r0 r1 => ?_, fun y y0 y1 => ?_, fun k k0 k1 => by rw [e _ (by omega) (by omega), e _ (by omega) (by omega)]; exact ⟨(h8 k k0 k1).1, (h8 k k0 k1).2.1⟩⟩
  · rw [e1] at r1
    have b := h6 r r0 r1
    unfold v_M
    rw [e (11 * r) (by omega) (by omega), e (11 * r + 1) (by omega) (by omega), e (11 * r + 2) (by omega) (by omega), e (11 * r + 3) (by omega) (by omega)]
    refine ⟨h16, ⟨r0, by omega⟩, b.1, b.2.1, b.2.2.1, b.2.2.2.1, fun i i0 i1 => ?_⟩
    rw [e _ (by omega) (by omega)]
    exact b.2.2.2.2 i i0 i1
  · rw [e2] at y1
    have b := h7 y y0 y1
    unfold esz
    rw [e (264 + 11 * y) (by omega) (by omega), e (264 + 11 * y + 1) (by omega) (by omega), e (264 + 11 * y + 2) (by omega) (by omega)]
    refine ⟨b.1, b.2.1, b.2.2.1, fun i i0 i1 => ?_⟩
    rw [e _ (by omega) (by omega)]
    exact b.2.2.2 i i0 i1
/-- a call that fails: all but the tape, the fault and the spare parts stays -/
theorem CS.fa (S : CS sh E m) (f : ∀ x k, ¬ (x = 1 ∧ k = 1) → x ≠ 2 → x ≠ 3 → x ≠ 4 → ¬ (m 1 4 ≤ x ∧ x < m 1 4 + 102) → ¬ (m 1 6 ≤ x ∧ x < m 1 6 + 35) → ¬ (x = 597 ∧ k ≤ 18 ∧ k ≠ 16) → x ≠ 598 → x ≠ 601 → x ≠ 605 → x ≠ 606 → ¬ (x = 602 ∧ 583 ≤ k) → m' x k = m x k) (hT : TS m') : CS sh E m' := by
  obtain ⟨B, R, P, T, H⟩ := S
  obtain ⟨iT, Pg, W, A, b1, b2, b3, b4, b5, b6, b7, b8⟩ := id B
  have t3 := b3.1
  have p5 := b5.1
  have T2 := iT.2.1
  have P1 := Pg.1
  have e3 : m' 1 3 = m 1 3 := f _ _ (by omega) (by omega) (by omega) (by omega) (by omega) (by omega) (by omega) (by omega) (by omega) (by omega) (by omega) (by omega)
  have e4 : m' 1 4 = m 1 4 := f _ _ (by omega) (by omega) (by omega) (by omega) (by omega) (by omega) (by omega) (by omega) (by omega) (by omega) (by omega) (by omega)
  have e5 : m' 1 5 = m 1 5 := f _ _ (by omega) (by omega) (by omega) (by omega) (by omega) (by omega) (by omega) (by omega) (by omega) (by omega) (by omega) (by omega)
  have e6 : m' 1 6 = m 1 6 := f _ _ (by omega) (by omega) (by omega) (by omega) (by omega) (by omega) (by omega) (by omega) (by omega) (by omega) (by omega) (by omega)
  have B' : BS E m' := by
    refine ⟨iT, Pg, W, A.fr fun x k hp => ?_, b1, ?_, ?_, by rw [e3, e4]; exact b4, ?_, by rw [e5, e6]; exact b6, fun r r0 r1 => ?_, fun w w0 w1 => ?_⟩
    · unfold per at hp
      exact f x k (by omega) (by omega) (by omega) (by omega) (by omega) (by omega) (by omega) (by omega) (by omega) (by omega) (by omega) (by omega)
    · rw [f _ _ (by omega) (by omega) (by omega) (by omega) (by omega) (by omega) (by omega) (by omega) (by omega) (by omega) (by omega) (by omega)]
      exact b2
    · rw [e3]
      exact b3.frt iT fun x k x0 x1 => f x k (by omega) (by omega) (by omega) (by omega) (by omega) (by omega) (by omega) (by omega) (by omega) (by omega) (by omega) (by omega)
    · rw [e5]
      obtain ⟨h1, h2, h3⟩ := b5
      refine ⟨h1, by rw [f _ _ (by omega) (by omega) (by omega) (by omega) (by omega) (by omega) (by omega) (by omega) (by omega) (by omega) (by omega) (by omega)]; exact h2, fun w w0 w1 => ?_⟩
      have h4 := h3 w w0 w1
      have g : ∀ x k, m 1 5 ≤ x → x < m 1 5 + 35 → m' x k = m x k := fun x k x0 x1 => f x k (by omega) (by omega) (by omega) (by omega) (by omega) (by omega) (by omega) (by omega) (by omega) (by omega) (by omega) (by omega)
      refine ⟨by rw [g _ _ (by omega) (by omega)]; exact h4.1, by rw [g _ _ (by omega) (by omega)]; exact h4.2.1, fun i i0 i1 => ?_⟩
      rw [g _ _ (by omega) (by omega), g _ _ (by omega) (by omega), g _ _ (by omega) (by omega)]
      exact h4.2.2 i i0 i1
    · rw [f _ _ (by omega) (by omega) (by omega) (by omega) (by omega) (by omega) (by omega) (by omega) (by omega) (by omega) (by omega) (by omega), f _ _ (by omega) (by omega) (by omega) (by omega) (by omega) (by omega) (by omega) (by omega) (by omega) (by omega) (by omega) (by omega)]
      exact b7 r r0 r1
    · rw [f _ _ (by omega) (by omega) (by omega) (by omega) (by omega) (by omega) (by omega) (by omega) (by omega) (by omega) (by omega) (by omega)]
      exact b8 w w0 w1
  refine ⟨B', RS.fr B R fun x k h => f x k (by omega) (by omega) (by omega) (by omega) (by omega) (by omega) (by omega) (by omega) (by omega) (by omega) (by omega) (by omega), P.fr fun x k h => f x k (by omega) (by omega) (by omega) (by omega) (by omega) (by omega) (by omega) (by omega) (by omega) (by omega) (by omega) (by omega), ⟨hT, fun r r0 r1 => ?_⟩, H.fr fun x k h => f x k (by omega) (by omega) (by omega) (by omega) (by omega) (by omega) (by omega) (by omega) (by omega) (by omega) (by omega) (by omega)⟩
  rw [e3, f _ _ (by omega) (by omega) (by omega) (by omega) (by omega) (by omega) (by omega) (by omega) (by omega) (by omega) (by omega) (by omega), f _ _ (by omega) (by omega) (by omega) (by omega) (by omega) (by omega) (by omega) (by omega) (by omega) (by omega) (by omega) (by omega)]
  exact T.2 r r0 r1
theorem TS.nil (h1 : m 1 1 = 0) (h2 : m 597 2 = 0) (h3 : m 3 0 = m 597 4) (h4 : m 3 1 = m 597 5) : TS m := ⟨⟨by rw [h1, h2], by omega, by omega⟩, fun i i0 i1 => by omega, h3, h4⟩
/-- a text that is taken -/
theorem CS.tx {B : Bk} {m1 m2 : Mm} (S : CS sh E m) (I : BI B) (hb : BP B) (C : TxC B m m1) (R : TxR B m1 m2) : CS sh m2 m2 := by
  obtain ⟨BB, -, P, T, H⟩ := S
  obtain ⟨iT, Pg, W, A, b1, b2, b3, b4, b5, b6, b7, b8⟩ := id BB
  obtain ⟨c1, ⟨k1, k2, k3, k4, k5, k6, k7, k8, k9, k10⟩, TB, c4, c5, c6⟩ := C
  obtain ⟨r1, ⟨l1, l2, l3, l4, l5, l6, l7⟩, r3, r4, r5⟩ := R
  have t3 := b3.1
  have p5 := b5.1
  have I1 := I.1
  have I2 := I.2.1
  have cls : ∀ x k, x < 597 → m2 x k = m1 x k := fun x k h => r1 x k (by omega) (by omega) (by omega) (by omega)
  have e15 : m2 1 5 = m 1 5 := by rw [cls _ _ (by decide)]; exact c1 _ _ (by omega) (by omega) (by omega) (by omega) (by omega) (by omega) (by omega) (by omega) (by omega)
  have e16 : m2 1 6 = m 1 6 := by rw [cls _ _ (by decide)]; exact c1 _ _ (by omega) (by omega) (by omega) (by omega) (by omega) (by omega) (by omega) (by omega) (by omega)
  have e13 : m2 1 3 = m 1 4 := by rw [cls _ _ (by decide)]; exact k2
  have e14 : m2 1 4 = m 1 3 := by rw [cls _ _ (by decide)]; exact k3
  have old : ∀ k, k = 27 ∨ k = 40 → m2 597 k = m 597 k := fun k h => by rw [r1 _ _ (by omega) (by omega) (by omega) (by omega)]; exact c1 _ _ (by omega) (by omega) (by omega) (by omega) (by omega) (by omega) (by omega) (by omega) (by omega)
  have iT2 : InvT m2 := I.T' l4 r3
  have mk : ∀ r, 0 ≤ r → r < 24 → 0 ≤ m2 607 r ∧ m2 607 r ≤ 999 := fun r r0 r1' => by
    rw [(r4 r r0 r1').1]
    by_cases h : r < B 578
    · rw [if_pos h]
      exact hb r r0 h
    · rw [if_neg h]
      decide
  have vacP : ∀ w : Int, 0 ≤ w → w < m2 597 23 → False := fun w w0 w1 => by omega
  refine ⟨⟨iT2, ⟨by rw [l5]; decide, fun w w0 w1 => (vacP w w0 w1).elim⟩, fun r r0 r1' => ⟨mk r r0 r1', by rw [(r4 r r0 r1').2]; decide⟩, Ag.refl, by rw [old 27 (Or.inl rfl), ← b1]; exact A.w, by rw [old 40 (Or.inr rfl)]; exact b2, ?_, by rw [e13, e14]; omega, ?_, by rw [e15, e16]; exact b6, fun r r0 r1' => ?_, fun w w0 w1 => ?_⟩, ⟨fun h => ?_, fun w w0 w1 => (vacP w w0 w1).elim⟩, ⟨⟨?_, ?_⟩, ⟨?_, Or.inl l7⟩, ?_, ⟨fun r r0 r1' => ?_, rfl⟩, fun h => ?_, fun k k0 k1 => ?_⟩, ⟨TS.nil ?_ l1 ?_ ?_, fun r r0 r1' => ?_⟩, ?_⟩
  · rw [e13]
    exact CT.bk I (CT.frt I.T TB.2.1 fun x k x0 x1 => cls x k (by omega)) r3
  · rw [e15]
    exact ⟨p5, by rw [cls _ _ (by omega), k7, l5], fun w w0 w1 => (vacP w w0 w1).elim⟩
  · rw [cls 281 _ (by decide), cls 282 _ (by decide), (c4 r r0 r1').1, (c4 r r0 r1').2, (r4 r r0 r1').1, (r4 r r0 r1').2]
    exact ⟨rfl, rfl⟩
  · rw [cls _ _ (by decide), c5 w w0 w1, r5 w w0 w1, nx_9]
  · rw [cls _ _ (by decide), k4] at h
    omega
  · rw [cls _ _ (by decide), k8, l6]
  · rw [l6]; decide
  · rw [cls _ _ (by decide), k9, l7]
  · exact P.2.2.1.fr fun k => by rw [cls _ _ (by decide)]; exact c1 _ _ (by omega) (by omega) (by omega) (by omega) (by omega) (by omega) (by omega) (by omega) (by omega)
  · rw [Int.zero_add, Int.zero_add]
    exact ⟨mk r r0 r1', by rw [(r4 r r0 r1').2]; decide⟩
  · rw [l7] at h
    exact absurd h (by decide)
  · rw [l6] at k1
    omega
  · rw [cls _ _ (by decide)]; exact k1
  · rw [cls _ _ (by decide), k5, l2]
  · rw [cls _ _ (by decide), k6, l3]
  · rw [r3 578 (by decide) (by decide)] at r1'
    have := TB.2.2.1 r r0 r1'
    rw [e13, cls (m 1 4 + 6 + 2 * r) 3 (by omega), cls (m 1 4 + 6 + 2 * r) 4 (by omega), r3 _ (by omega) (by omega), r3 _ (by omega) (by omega)]
    exact this
  · unfold SS at H ⊢
    refine ⟨?_, Or.inl (by rw [cls _ _ (by decide)]; exact k10)⟩
    have q : ∀ k, k ≠ 2 → m2 581 k = m 581 k := fun k hk => by rw [cls _ _ (by decide)]; exact c1 _ _ (by omega) (by omega) (by omega) (by omega) (by omega) (by omega) (by omega) (by omega) (by omega)
    rw [q 4 (by decide), q 5 (by decide)]
    exact H.1
theorem B0_p : BP B0 := fun r r0 r1 => by
  have : r < 0 := r1
  omega
theorem p_text {n : Int} {K : Int → Int → Mm → Prop} (S : CS sh E m) (kk : ∀ F m' s, CS sh F m' → K s s m') : TrI 14 [(1, 1), (0, n)] m fun v1 m1 => TrI 168 [(1, 597), (0, n)] m1 fun v2 m2 => K v1 v2 m2 := by
  obtain ⟨⟨t1, t2, t3⟩, hb, t5, t6⟩ := id S.to.1
  have B := S.b
  obtain ⟨iT, Pg, W, A, b1, b2, b3, b4, b5, b6, b7, b8⟩ := id B
  have c3 := b3.1
  have c5 := b5.1
  have hf : ∀ i, 0 ≤ i → i < m 597 2 → m 2 i = m 2 i ∧ 0 ≤ m 2 i ∧ m 2 i < 256 := fun i i0 i1 => ⟨rfl, by rw [(hb i i0 i1).1]; exact (hb i i0 i1).2⟩
  refine c14 (f := m 2) (N := m 597 2) b4 (by omega) c5 t1 ⟨t2, t3⟩ hf (fun q => ?_) fun n0 n1 => ?_
  · exact c168 (f := m 2) (N := m 597 2) rfl ⟨t2, t3⟩ (fun i i0 i1 => ⟨(hb i i0 i1).1.symm, (hf i i0 i1).2⟩) (fun _ m' e' => kk E m' _ (S.th e')) fun n0 n1 => absurd ⟨n0, n1⟩ q
  · have ok := txS_ok (f := m 2) (n := n) (n + 1).toNat B0 0 0 B0_ok B0_p n0
    have both : ∀ m1 : Mm, (∀ x k, 597 ≤ x → m1 x k = m x k) → ∀ K : Int → Mm → Prop, OutR (fun e x => ∀ m', fT m1 m' → m' 597 2 = 0 → m' 597 4 = e → m' 597 5 = x → m' 597 16 = 0 → K (-1) m') (fun B' c' => BI B' → ∀ m', TxR B' m1 m' → K c' m') (txS (m 2) n (n + 1).toNat B0 0 0) → TrI 168 [(1, 597), (0, n)] m1 K := fun m1 g K h =>
      c168 (f := m 2) (N := m 597 2) (g _ _ (by decide)) ⟨t2, t3⟩ (fun i i0 i1 => by rw [g _ _ (by decide)]; exact ⟨(hb i i0 i1).1.symm, (hf i i0 i1).2⟩) (fun q => absurd ⟨n0, n1⟩ q) fun _ _ => h
    revert ok both
    generalize txS (m 2) n (n + 1).toNat B0 0 0 = r
    intro ok both
    cases r with
    | inl q =>
      intro m1 f1 y1 y0 y0'
      refine both m1 (fun x k h => f1 x k (by omega) (by omega) (by omega) (by omega)) _ ?_
      intro m2 f2 z2 z4 z5 z16
      have lo : ∀ x k, x < 597 → m2 x k = m1 x k := fun x k h => f2 x k (by omega) (by omega) (by omega)
      refine kk E m2 _ (S.fa (fun x k h1 h2 h3 h4 h5 h6 h7 h8 h9 h10 h11 h12 => ?_) (TS.nil (by rw [lo _ _ (by decide)]; exact y1) z2 (by rw [lo _ _ (by decide), y0, z4]) (by rw [lo _ _ (by decide), y0', z5])))
      by_cases h16 : x = 597 ∧ k = 16
      · rw [h16.1, h16.2, z16]
        exact (iT.1.symm.trans A.b.symm)
      · rw [f2 x k (by omega) h9 h12]
        exact f1 x k h1 h3 h4 h5
    | inr q =>
      obtain ⟨o1, o2, o3⟩ := ok
      refine ⟨o3, fun m1 C => ?_⟩
      refine both m1 (fun x k h => C.1 x k (by omega) (by omega) (by omega) (by omega) (by omega) (by omega) (by omega) (by omega) (by omega)) _ ?_
      intro _ m2 R
      exact kk m2 m2 _ (S.tx o1 o2 C R)
end PTX
