/-! fixed, keep, back, undo, count, open -/
section PQ
variable {sh : (Int → Int) → Int → List Int} {E m : Mm}
theorem c151 {K : Int → Mm → Prop} (kk : K (fxB (fun w => decide (¬ m 283 w = -9)) 10) m) : TrI 151 [(1, 280)] m K := by
  have s : shp 280 = 22 := by decide +kernel
  refine e151 _ s ?_
  have loop : ∀ (n w : Nat), w + n = 10 → X 151 4 [(1, 280), (0, fxB (fun w => decide (¬ m 283 w = -9)) w), (0, (w : Int))] [] m (qI K) := by
    intro n
    induction n with
    | zero =>
      intro w hw
      refine w151_4 _ _ _ s ⟨fun h => absurd h (by omega), fun _ => ?_⟩
      rw [show w = 10 by omega]
      exact kk
    | succ n ih =>
      intro w hw
      have := ih (w + 1) (by omega)
      refine w151_4 _ _ _ s ⟨fun _ => ⟨by omega, fun h => ?_, fun h => ?_⟩, fun h => absurd (show (w : Int) < 10 by omega) h⟩
      · rw [wrI (x := (w : Int) + 1) (by omega) (by omega)]
        unfold fxB at this
        rw [if_neg (by simp; exact h)] at this
        exact this
      · rw [wrI (x := (w : Int) + 1) (by omega) (by omega)]
        unfold fxB at this
        rw [if_pos (by simp; exact h)] at this
        exact this
  exact loop 10 0 (by decide)
theorem c196 {K : Int → Mm → Prop} {N : Int} (hn : m 597 23 = N) (h0 : 0 ≤ N ∧ N ≤ 10) (kk : K (fxB (fun w => decide (¬ m 607 (48 + w) = -9)) N.toNat) m) : TrI 196 [(1, 597)] m K := by
  refine e196 ?_
  have loop : ∀ (n w : Nat), (w : Int) + n = N → X 196 4 [(1, 597), (0, fxB (fun w => decide (¬ m 607 (48 + w) = -9)) w), (0, (w : Int))] [] m (qI K) := by
    intro n
    induction n with
    | zero =>
      intro w hw
      refine w196_4 _ _ ⟨fun h => absurd h (by rw [hn]; omega), fun _ => ?_⟩
      rw [show w = N.toNat by omega]
      exact kk
    | succ n ih =>
      intro w hw
      have := ih (w + 1) (by omega)
      have q : wr (48 + (w : Int)) = 48 + w := wrI (by omega) (by omega)
      refine w196_4 _ _ ⟨fun _ => ?_, fun h => absurd (show (w : Int) < m 597 23 by rw [hn]; clear q; omega) h⟩
      rw [q]
      clear q
      rw [wrI (x := (w : Int) + 1) (by omega) (by omega)]
      refine ⟨by omega, fun h => ?_, fun h => ?_⟩
      · unfold fxB at this
        rw [if_neg (by simp; exact h)] at this
        rw [ior_0 (fxB_32 w)]
        exact this
      · unfold fxB at this
        rw [if_pos (by simp; exact h)] at this
        exact this
  exact loop N.toNat 0 (by omega)
/-- the class's ten words say no more than the reference's -/
theorem fx_eq {N : Int} (h0 : 0 ≤ N ∧ N ≤ 10) (h3 : ∀ w, 0 ≤ w → w < 10 → m 283 w = nx N (48 + w) (m 607 (48 + w))) : fxB (fun w => decide (¬ m 283 w = -9)) 10 = fxB (fun w => decide (¬ m 607 (48 + w) = -9)) N.toNat := by
  rw [fxB_congr (g := fun w => decide (¬ nx N (48 + w) (m 607 (48 + w)) = -9)) 10 fun i i0 i1 => by rw [h3 i i0 i1]]
  have := fxB_more (f := fun w => decide (¬ nx N (48 + w) (m 607 (48 + w)) = -9)) (a := N.toNat) (10 - N.toNat) fun i i0 i1 => by
    show decide (¬ nx N (48 + i) (m 607 (48 + i)) = -9) = false
    rw [nx_g (by omega)]
    rfl
  rw [show N.toNat + (10 - N.toNat) = 10 by omega] at this
  rw [this]
  exact fxB_congr _ fun i i0 i1 => by rw [nx_l (by omega)]
theorem RS.fr {m' : Mm} (B : BS E m) (R : RS E m) (f : ∀ x k, (x = 1 ∧ k = 17) ∨ (411 ≤ x ∧ x < 546) ∨ x = 595 → m' x k = m x k) : RS E m' :=
  ⟨fun h => (R.1 (by rw [← f 1 17 (by decide)]; exact h)).fr B.p fun x k x0 x1 _ => f x k (by omega), R.2.fr fun k => f _ _ (by omega)⟩
/-- a call that leaves all but the kept copies -/
theorem CS.kp {md : Mm} (S : CS sh E m) (f : ∀ x k, ¬ (284 ≤ x ∧ x < 370) → ¬ (x = 607 ∧ 58 ≤ k) → ¬ (x = 597 ∧ (k = 0 ∨ k = 25 ∨ k = 26)) → md x k = m x k) (hP : PS E md) : CS sh E md := by
  obtain ⟨B, R, P, T, H⟩ := S
  exact ⟨B.fr fun x k h => by
      unfold per at h
      exact f x k (by omega) (by omega) (by omega), RS.fr B R fun x k h => f x k (by omega) (by omega) (by omega), hP, T.fr B fun x k h => f x k (by omega) (by omega) (by omega), H.fr fun x k h => f x k (by omega) (by omega) (by omega)⟩
theorem p_fixed {K : Int → Int → Mm → Prop} (S : CS sh E m) (kk : ∀ F m' s, CS sh F m' → K s s m') : TrI 150 [(1, 1)] m fun v1 m1 => TrI 279 [(1, 597)] m1 fun v2 m2 => K v1 v2 m2 := by
  have B := S.b
  refine e150 (c151 ?_)
  refine e279 fun m1 e1 => ?_
  have S1 := S.th e1
  have B1 := S1.b
  refine c196 B1.a.n B1.p.1 ?_
  rw [fx_eq (m := m) B.p.1 (fun w w0 w1 => B.m3' w0 w1)]
  have e : (fun w => decide (¬ m1 607 (48 + w) = -9)) = fun w => decide (¬ m 607 (48 + w) = -9) := by
    funext w
    rw [e1, um_x (by decide)]
  rw [e]
  exact kk E m1 _ S1
/-- keep -/
theorem p_keep {K : Int → Int → Mm → Prop} (S : CS sh E m) (kk : ∀ F m' s, CS sh F m' → K s s m') : TrI 156 [(1, 1)] m fun v1 m1 => TrI 195 [(1, 597)] m1 fun v2 m2 => K v1 v2 m2 := by
  have B := S.b
  have P1 := B.p.1
  refine e156 (c144 (by decide +kernel) (by decide +kernel) (by decide) fun m1 f1 C1 => fun m3 e3 => c151 (c157 ?_))
  refine e195 fun m4 e4 => c194 (by decide) (by decide) (by decide) fun m5 f5 C5 => fun md ed => ?_
  have fr : ∀ x k, ¬ (286 < x ∧ x < 290) → ¬ (x = 284 ∧ k = 3) → ¬ (x = 607 ∧ 58 ≤ k ∧ k < 116) → ¬ (x = 597 ∧ (k = 0 ∨ k = 26)) → md x k = m x k := fun x k n1 n2 n3 n4 => by
    rw [ed, um_n (by omega), f5 x k (by omega), e4, um_n (by omega), e3, um_n n2]
    exact f1 x k (by omega)
  have r1 : ∀ i, 0 ≤ i → i < 58 → md 607 (58 + i) = m 607 (0 + i) := fun i i0 i1 => by
    have := C5 i i0 i1
    rw [show 58 * 1 + i = 58 + i by omega, show 58 * 0 + i = 0 + i by omega] at this
    rw [ed, um_x (by decide), this, e4, um_x (by decide), e3, um_x (by decide)]
    exact f1 _ _ (by omega)
  have hP : PS E md := by
    obtain ⟨h1, h2, R, h4, h5, h6⟩ := S.ps
    have e25 : md 597 25 = m 597 25 := fr _ _ (by omega) (by omega) (by omega) (by omega)
    have e26 : md 597 26 = 1 := by rw [ed, um_s]
    have e285 : ∀ k, md 285 k = m 285 k := fun k => fr _ _ (by omega) (by omega) (by omega) (by omega)
    refine ⟨?_, ?_, R.fr e285, h4.fr fun k _ _ => fr _ _ (by omega) (by omega) (by omega) (by omega), fun _ => ⟨fun i i0 i1 => ?_, h4.mv r1⟩, fun k k0 k1 => ?_⟩
    · rw [e25, fr 284 2 (by omega) (by omega) (by omega) (by omega)]
      exact h1
    · rw [e26, ed, um_n (by omega), f5 _ _ (by omega), e4, um_n (by omega), e3, um_s]
      exact ⟨rfl, Or.inr rfl⟩
    · rw [r1 i i0 i1]
      have : mkc md 286 i = mkc m1 286 i := mkc.fr (fun x k x0 x1 => by rw [ed, um_n (by omega), f5 x k (by omega), e4, um_n (by omega), e3, um_n (by omega)]) i
      rw [this, C1 i i0 i1]
      exact B.mk i i0 i1
    · rw [e25] at k1
      rw [e285]
      have hin := R.in k0 (by omega)
      exact ⟨(h6 k k0 k1).1.fr (fun x k' x0 x1 => fr x k' (by omega) (by omega) (by omega) (by omega)) fun k' _ _ => fr _ _ (by omega) (by omega) (by omega) (by omega), (h6 k k0 k1).2.fr fun k' _ _ => fr _ _ (by omega) (by omega) (by omega) (by omega)⟩
  have Sd : CS sh E md := S.kp (fun x k n1 n2 n3 => fr x k (by omega) (by omega) (by omega) (by omega)) hP
  refine c196 (N := E 597 23) Sd.b.a.n P1 (c198 ?_)
  have x3 : ∀ w, 0 ≤ w → w < 10 → m3 283 w = nx (E 597 23) (48 + w) (m3 607 (48 + w)) := fun w w0 w1 => by
    rw [e3, um_n (by omega), um_n (by omega), f1 _ _ (by omega), f1 _ _ (by omega)]
    exact B.m3' w0 w1
  rw [fx_eq (m := m3) P1 x3, fxB_bc (by omega)]
  have e : fxB (fun w => decide (¬ md 607 (48 + w) = -9)) (E 597 23).toNat = fxB (fun w => decide (¬ m3 607 (48 + w) = -9)) (E 597 23).toNat := fxB_congr _ fun i i0 i1 => by
    rw [fr _ _ (by omega) (by omega) (by omega) (by omega), e3, um_n (by omega), f1 _ _ (by omega)]
  rw [e]
  exact kk E md _ Sd
/-- back -/
theorem p_back {K : Int → Int → Mm → Prop} (S : CS sh E m) (kk : ∀ F m' s, CS sh F m' → K s s m') : TrI 158 [(1, 1)] m fun v1 m1 => TrI 199 [(1, 597)] m1 fun v2 m2 => K v1 v2 m2 := by
  have B := S.b
  have P1 := B.p.1
  obtain ⟨h1, h2, R, h4, h5, h6⟩ := id S.ps
  refine e158 ⟨fun h => ?_, fun h => ?_⟩
  · refine e199 fun m1 e1 => ?_
    have S1 := S.th e1
    have : m1 597 26 = 0 := by rw [e1, um_k (by decide), ← h2.1]; exact h
    rw [this]
    exact ⟨fun _ => kk E m1 _ S1, fun q => absurd rfl q⟩
  · have i26 : m 597 26 = 1 := by omega
    obtain ⟨iR, iV⟩ := h5 i26
    refine c144 (by decide +kernel) (by decide +kernel) (by decide) fun m3 f3 C3 => fun m5 e5 => fun m7 e7 => c151 (c157 ?_)
    refine e199 fun m8 e8 => ?_
    have : m8 597 26 = 1 := by rw [e8, um_k (by decide), e7, um_n (by omega), e5, um_n (by omega), f3 _ _ (by omega)]; exact i26
    rw [this]
    refine ⟨fun q => absurd q (by decide), fun _ => c194 (by decide) (by decide) (by decide) fun m9 f9 C9 => fun md ed => ?_⟩
    have fr : ∀ x k, ¬ (280 < x ∧ x < 284) → ¬ (x = 284 ∧ k = 2) → ¬ (x = 1 ∧ k = 17) → ¬ (x = 607 ∧ 0 ≤ k ∧ k < 58) → ¬ (x = 597 ∧ (k = 0 ∨ k = 25)) → md x k = m x k := fun x k n1 n2 n3 n4 n5 => by
      rw [ed, um_n (by omega), f9 x k (by omega), e8, um_n (by omega), e7, um_n n3, e5, um_n n2]
      exact f3 x k (by omega)
    have r1 : ∀ i, 0 ≤ i → i < 58 → md 607 (0 + i) = m 607 (58 + i) := fun i i0 i1 => by
      have := C9 i i0 i1
      rw [show 58 * 0 + i = 0 + i by omega, show 58 * 1 + i = 58 + i by omega] at this
      rw [ed, um_x (by decide), this, e8, um_x (by decide), e7, um_x (by decide), e5, um_x (by decide)]
      exact f3 _ _ (by omega)
    have hV : MkV md (E 597 23) 0 := iV.mv r1
    have c7 : ∀ x k, 280 < x ∧ x < 284 → md x k = m3 x k := fun x k h => by rw [ed, um_n (by omega), f9 x k (by omega), e8, um_n (by omega), e7, um_n (by omega), e5, um_n (by omega)]
    have hR : MkR (E 597 23) md 280 0 := fun i i0 i1 => by
      rw [mkc.fr (m := m3) (fun x k x0 x1 => c7 x k ⟨x0, x1⟩) i, C3 i i0 i1, r1 i i0 i1]
      exact iR i i0 i1
    have hP : PS (eSt E md) md := by
      have e25 : md 597 25 = 0 := by rw [ed, um_s]
      have e26 : md 597 26 = m 597 26 := fr _ _ (by omega) (by omega) (by omega) (by omega) (by omega)
      have e285 : ∀ k, md 285 k = m 285 k := fun k => fr _ _ (by omega) (by omega) (by omega) (by omega) (by omega)
      refine PS.er (E := E) ⟨?_, ?_, R.fr e285, hV, fun _ => ⟨iR.fr (fun x k x0 x1 => fr x k (by omega) (by omega) (by omega) (by omega) (by omega)) fun k _ _ => fr _ _ (by omega) (by omega) (by omega) (by omega) (by omega), iV.fr fun k _ _ => fr _ _ (by omega) (by omega) (by omega) (by omega) (by omega)⟩, fun k k0 k1 => ?_⟩ (eSt_x (by decide))
      · rw [e25, ed, um_n (by omega), f9 _ _ (by omega), e8, um_n (by omega), e7, um_n (by omega), e5, um_s]
        exact ⟨rfl, by decide, by decide⟩
      · rw [e26, fr 284 3 (by omega) (by omega) (by omega) (by omega) (by omega)]
        exact h2
      · rw [e25] at k1
        omega
    have Sd : CS sh (eSt E md) md := S.ch (fun x k n1 n2 n3 n4 n5 n6 n7 n8 n9 n10 => fr x k (by omega) (by omega) (by omega) (by omega) (by omega)) hV hR hP (by rw [ed, um_n (by omega), f9 _ _ (by omega), e8, um_n (by omega), e7, um_s])
    have n23 : md 597 23 = E 597 23 := by rw [fr _ _ (by omega) (by omega) (by omega) (by omega) (by omega)]; exact B.a.n
    refine c196 n23 P1 (c198 ?_)
    have x3 : ∀ w, 0 ≤ w → w < 10 → md 283 w = nx (E 597 23) (48 + w) (md 607 (48 + w)) := fun w w0 w1 => by
      have := hR.w w0 w1
      rw [Int.zero_add] at this
      exact this
    have e : fxB (fun w => decide (¬ m7 283 w = -9)) 10 = fxB (fun w => decide (¬ md 283 w = -9)) 10 := fxB_congr _ fun i i0 i1 => by
      rw [c7 _ _ (by omega), e7, um_n (by omega), e5, um_n (by omega)]
    rw [e, fx_eq (m := md) P1 x3, fxB_bc (by omega)]
    exact kk _ md _ Sd
/-- undo -/
theorem p_undo {K : Int → Int → Mm → Prop} (S : CS sh E m) (kk : ∀ F m' s, CS sh F m' → K s s m') : TrI 154 [(1, 1)] m fun v1 m1 => TrI 193 [(1, 597)] m1 fun v2 m2 => K v1 v2 m2 := by
  have B := S.b
  have P1 := B.p.1
  obtain ⟨h1, h2, R, h4, h5, h6⟩ := id S.ps
  generalize hn : m 597 25 = n at *
  rw [← hn] at h1
  refine e154 ⟨fun h => ?_, fun h => ?_⟩
  · refine e193 fun m1 e1 => ?_
    have S1 := S.th e1
    have : m1 597 25 = 0 := by rw [e1, um_k (by decide), ← h1.1]; exact h
    rw [this]
    exact ⟨fun _ => kk E m1 _ S1, fun q => absurd rfl q⟩
  · have n0 : 0 < n := by omega
    have n20 : n ≤ 20 := by omega
    have m2 : m 284 2 = n := by omega
    refine e155 _ (by decide +kernel) ?_
    rw [m2, wrI (x := n - 1) (by omega) (by omega)]
    refine ⟨fun _ => fun m3 e3 => ?_, fun q => absurd (show n > 0 from n0) q⟩
    have x3 : m3 284 2 = n - 1 := by rw [e3, um_s]
    have b3 : m3 285 (n - 1) = m 285 (n - 1) := by rw [e3, um_n (by omega)]
    rw [x3, b3]
    have hin := R.in (k := n - 1) (by omega) (by omega)
    refine ⟨by omega, c144 (by decide +kernel) (R.s22 (by omega) (by omega)) (by omega) fun m4 f4 C4 => fun m5 e5 => ?_⟩
    have x5 : m5 284 2 = n - 1 := by rw [e5, um_n (by omega), f4 _ _ (by omega)]; exact x3
    rw [x5]
    refine e193 fun m6 e6 => ?_
    have y6 : m6 597 25 = n := by rw [e6, um_k (by decide), e5, um_n (by omega), f4 _ _ (by omega), e3, um_n (by omega)]; exact hn
    rw [y6, wrI (x := n - 1) (by omega) (by omega)]
    refine ⟨fun q => absurd q (by omega), fun _ => fun m7 e7 => ?_⟩
    have y7 : m7 597 25 = n - 1 := by rw [e7, um_s]
    rw [y7, wrI (x := 2 + (n - 1)) (by omega) (by omega)]
    refine c194 (by omega) (by decide) (by omega) fun md f8 C8 => ?_
    have fr : ∀ x k, ¬ (280 < x ∧ x < 284) → ¬ (x = 284 ∧ k = 2) → ¬ (x = 1 ∧ k = 17) → ¬ (x = 607 ∧ 0 ≤ k ∧ k < 58) → ¬ (x = 597 ∧ (k = 0 ∨ k = 25)) → md x k = m x k := fun x k n1 n2 n3 n4 n5 => by
      rw [f8 x k (by omega), e7, um_n (by omega), e6, um_n (by omega), e5, um_n n3, f4 x k (by omega), e3, um_n n2]
    have hq := h6 (n - 1) (by omega) (by omega)
    have r1 : ∀ i, 0 ≤ i → i < 58 → md 607 (0 + i) = m 607 (58 * (2 + (n - 1)) + i) := fun i i0 i1 => by
      have := C8 i i0 i1
      rw [show 58 * 0 + i = 0 + i by omega] at this
      rw [this, e7, um_x (by decide), e6, um_x (by decide), e5, um_x (by decide), f4 _ _ (by omega), e3, um_x (by decide)]
    have hV : MkV md (E 597 23) 0 := hq.2.mv r1
    have hR : MkR (E 597 23) md 280 0 := fun i i0 i1 => by
      rw [mkc.fr (m := m4) (fun x k x0 x1 => by rw [f8 x k (by omega), e7, um_n (by omega), e6, um_n (by omega), e5, um_n (by omega)]) i, C4 i i0 i1, r1 i i0 i1, ← hq.1 i i0 i1]
      exact mkc.fr (fun x k x0 x1 => by rw [e3, um_n (by omega)]) i
    have hP : PS (eSt E md) md := by
      have e25 : md 597 25 = n - 1 := by rw [f8 _ _ (by omega)]; exact y7
      have e26 : md 597 26 = m 597 26 := fr _ _ (by omega) (by omega) (by omega) (by omega) (by omega)
      have e285 : ∀ k, md 285 k = m 285 k := fun k => fr _ _ (by omega) (by omega) (by omega) (by omega) (by omega)
      refine PS.er (E := E) ⟨?_, ?_, R.fr e285, hV, fun q => ?_, fun k k0 k1 => ?_⟩ (eSt_x (by decide))
      · rw [e25, f8 _ _ (by omega), e7, um_n (by omega), e6, um_n (by omega), x5]
        exact ⟨rfl, by omega, by omega⟩
      · rw [e26, fr 284 3 (by omega) (by omega) (by omega) (by omega) (by omega)]
        exact h2
      · rw [e26] at q
        exact ⟨(h5 q).1.fr (fun x k x0 x1 => fr x k (by omega) (by omega) (by omega) (by omega) (by omega)) fun k _ _ => fr _ _ (by omega) (by omega) (by omega) (by omega) (by omega), (h5 q).2.fr fun k _ _ => fr _ _ (by omega) (by omega) (by omega) (by omega) (by omega)⟩
      · rw [e25] at k1
        rw [e285]
        have hin := R.in k0 (by omega)
        exact ⟨(h6 k k0 (by omega)).1.fr (fun x k' x0 x1 => fr x k' (by omega) (by omega) (by omega) (by omega) (by omega)) fun k' _ _ => fr _ _ (by omega) (by omega) (by omega) (by omega) (by omega), (h6 k k0 (by omega)).2.fr fun k' _ _ => fr _ _ (by omega) (by omega) (by omega) (by omega) (by omega)⟩
    have Sd : CS sh (eSt E md) md := S.ch (fun x k n1 n2 n3 n4 n5 n6 n7 n8 n9 n10 => fr x k (by omega) (by omega) (by omega) (by omega) (by omega)) hV hR hP (by rw [f8 _ _ (by omega), e7, um_n (by omega), e6, um_n (by omega), e5, um_s])
    rw [show md 597 25 = n - 1 by rw [f8 _ _ (by omega)]; exact y7]
    exact kk _ md _ Sd
end PQ
