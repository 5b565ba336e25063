/-! text, the reference's side -/
def fT (m m' : Mm) : Prop := ∀ x k, ¬ (x = 597 ∧ (k = 0 ∨ (2 ≤ k ∧ k ≤ 5) ∨ (8 ≤ k ∧ k ≤ 14) ∨ (16 ≤ k ∧ k ≤ 18))) → x ≠ 601 → ¬ (x = 602 ∧ 583 ≤ k) → m' x k = m x k
/-- what a text that is taken leaves on the reference's side -/
def TxR (B : Bk) (m m' : Mm) : Prop := (∀ x k, ¬ (x = 597 ∧ (k = 0 ∨ (2 ≤ k ∧ k ≤ 5) ∨ (8 ≤ k ∧ k ≤ 14) ∨ (16 ≤ k ∧ k ≤ 18) ∨ k = 23 ∨ k = 25 ∨ k = 26)) → x ≠ 601 → ¬ (x = 602 ∧ 0 ≤ k) → ¬ (x = 607 ∧ 0 ≤ k ∧ k < 58) → m' x k = m x k)
  ∧ (m' 597 2 = 0 ∧ m' 597 4 = 0 ∧ m' 597 5 = -1 ∧ m' 597 16 = 0 ∧ m' 597 23 = 0 ∧ m' 597 25 = 0 ∧ m' 597 26 = 0) ∧ (∀ k, 0 ≤ k → k < 583 → m' 602 k = B k) ∧ (∀ r, 0 ≤ r → r < 24 → m' 607 r = (if r < B 578 then B (11 * r + 4) else 0) ∧ m' 607 (24 + r) = 0) ∧ ∀ w, 0 ≤ w → w < 10 → m' 607 (48 + w) = -9
section RTX
variable {f : Int → Int} {n p : Int} {B : Bk} {m m' : Mm}
theorem fRf.T (h : fRf m m') : fT m m' := fun x k a b c => h x k (by omega) b c
theorem fT.tr {m1 m2 : Mm} (h : fT m m1) (h2 : fT m1 m2) : fT m m2 := fun x k a b c => (h2 x k a b c).trans (h x k a b c)
theorem c190 {K : Mm → Prop} (kk : ∀ m', (∀ x k, ¬ (x = 607 ∧ 0 ≤ k ∧ k < 58) → ¬ (x = 597 ∧ (k = 25 ∨ k = 26)) → m' x k = m x k) → (∀ k, 0 ≤ k → k < 58 → m' 607 k = if k < 48 then 0 else -9) → m' 597 25 = 0 → m' 597 26 = 0 → K m') : TrV 190 [(1, 597)] m K := by
  refine e190 ?_
  have loop : ∀ (d i : Nat) (m1 : Mm), i + d = 58 → (∀ x k, ¬ (x = 607 ∧ 0 ≤ k ∧ k < 58) → m1 x k = m x k) → (∀ k, 0 ≤ k → k < (i : Int) → m1 607 k = if k < 48 then 0 else -9) → X 190 2 [(1, 597), (0, (i : Int))] [] m1 (qV K) := by
    intro d
    induction d with
    | zero =>
      intro i m1 hi f1 I1
      refine w190_2 _ ⟨fun q => absurd q (by omega), fun _ m2 e2 m3 e3 => ?_⟩
      exact kk m3 (fun x k h1 h2 => by rw [e3, um_n (by omega), e2, um_n (by omega)]; exact f1 x k h1) (fun k k0 k1 => by rw [e3, um_x (by decide), e2, um_x (by decide)]; exact I1 k k0 (by omega)) (by rw [e3, um_k (by decide), e2, um_s]) (by rw [e3, um_s])
    | succ d ih =>
      intro i m1 hi f1 I1
      have go : ∀ m2, m2 = umem m1 607 i (if (i : Int) < 48 then 0 else -9) → X 190 2 [(1, 597), (0, wr ((i : Int) + 1))] [] m2 (qV K) := fun m2 e2 => by
        rw [wrI (x := (i : Int) + 1) (by omega) (by omega)]
        refine ih (i + 1) m2 (by omega) (fun x k hx => by rw [e2, um_n (by omega)]; exact f1 x k hx) fun k k0 k1 => ?_
        by_cases hk : k = i
        · rw [hk, e2, um_s]
        · rw [e2, um_k hk]
          exact I1 k k0 (by omega)
      refine w190_2 _ ⟨fun _ => ⟨fun q => ⟨by omega, fun m2 e2 => go m2 (by rw [if_pos q]; exact e2)⟩, fun q => ⟨by omega, fun m2 e2 => go m2 (by rw [if_neg q]; exact e2)⟩⟩, fun q => absurd (show (i : Int) < 58 by omega) q⟩
  exact loop 58 0 m (by omega) (fun _ _ _ => rfl) fun k k0 k1 => by omega
/-- what follows a text that is taken -/
theorem c168e {c : Int} {u : aV} {K : Int → Mm → Prop} (I : BI B) (h16 : m 597 16 = 0) (h2 : m 597 2 = 0) (h4 : m 597 4 = 0) (h5 : m 597 5 = -1) (hB : ∀ k, 0 ≤ k → k < 583 → m 602 (583 + k) = B k) (kk : ∀ m', TxR B m m' → K c m') : X 168 109 [(1, 597), u, (0, c), (0, 1), (0, 0)] [] m (qI K) := by
  have I1 := I.1
  have t0 : ((0, 1) : aV).1 ≠ 2 := by decide
  have loop : ∀ (d i : Nat) (m1 : Mm), i + d = 583 → (∀ x k, ¬ (x = 602 ∧ 0 ≤ k ∧ k < 583) → m1 x k = m x k) → (∀ k, 0 ≤ k → k < (i : Int) → m1 602 k = B k) → X 168 109 [(1, 597), u, (0, c), (0, 1), (0, (i : Int))] [] m1 (qI K) := by
    intro d
    induction d with
    | zero =>
      intro i m1 hi f1 I1'
      refine w168_109 _ _ _ _ t0 ⟨fun q => absurd q (by omega), fun _ m2 e2 => c190 fun m3 f3 z3 y25 y26 => ?_⟩
      have b3 : ∀ k, 0 ≤ k → k < 583 → m3 602 k = B k := fun k k0 k1 => by
        rw [f3 _ _ (by omega) (by omega), e2, um_n (by omega)]
        exact I1' k k0 (by omega)
      have y16 : m3 597 16 = 0 := by rw [f3 _ _ (by omega) (by omega), e2, um_n (by omega), f1 _ _ (by omega)]; exact h16
      have b578 := b3 578 (by decide) (by decide)
      have F3 : ∀ x k, ¬ (x = 597 ∧ (k = 23 ∨ k = 25 ∨ k = 26)) → ¬ (x = 602 ∧ 0 ≤ k) → ¬ (x = 607 ∧ 0 ≤ k ∧ k < 58) → m3 x k = m x k := fun x k a b' c' => by
        rw [f3 x k c' (by omega), e2, um_n (by omega), f1 x k (by omega)]
      have l2 : ∀ (d r : Nat) (m4 : Mm), (r : Int) + d = B 578 → (∀ x k, ¬ (x = 607 ∧ 0 ≤ k ∧ k < B 578) → m4 x k = m3 x k) → (∀ k, 0 ≤ k → k < (r : Int) → m4 607 k = B (11 * k + 4)) → X 168 153 [(1, 597), u, (0, c), (0, 1), (0, (r : Int))] [] m4 (qI K) := by
        intro d
        induction d with
        | zero =>
          intro r m4 hr f4 I4
          have z16 : m4 597 16 = 0 := by rw [f4 _ _ (by omega)]; exact y16
          refine w168_153b _ _ _ _ t0 ⟨z16, fun q => absurd q (by rw [f4 _ _ (by omega), b578]; omega), fun _ => ?_⟩
          refine kk m4 ⟨fun x k a a2 a3 a4 => ?_, ⟨?_, ?_, ?_, z16, ?_, ?_, ?_⟩, fun k k0 k1 => ?_, fun r r0 r1 => ⟨?_, ?_⟩, fun w w0 w1 => ?_⟩
          · rw [f4 x k (by omega), F3 x k (by omega) a3 a4]
          · rw [f4 _ _ (by omega), F3 _ _ (by omega) (by omega) (by omega)]; exact h2
          · rw [f4 _ _ (by omega), F3 _ _ (by omega) (by omega) (by omega)]; exact h4
          · rw [f4 _ _ (by omega), F3 _ _ (by omega) (by omega) (by omega)]; exact h5
          · rw [f4 _ _ (by omega), f3 _ _ (by omega) (by omega), e2, um_s]
          · rw [f4 _ _ (by omega)]; exact y25
          · rw [f4 _ _ (by omega)]; exact y26
          · rw [f4 _ _ (by omega)]; exact b3 k k0 k1
          · by_cases h : r < B 578
            · rw [if_pos h]
              exact I4 r r0 (by omega)
            · rw [if_neg h, f4 _ _ (by omega), z3 _ r0 (by omega), if_pos (by omega)]
          · rw [f4 _ _ (by omega), z3 _ (by omega) (by omega), if_pos (by omega)]
          · rw [f4 _ _ (by omega), z3 _ (by omega) (by omega), if_neg (by omega)]
        | succ d ih =>
          intro r m4 hr f4 I4
          have z16 : m4 597 16 = 0 := by rw [f4 _ _ (by omega)]; exact y16
          have z4 : m4 602 (11 * r + 4) = B (11 * r + 4) := by rw [f4 _ _ (by omega)]; exact b3 _ (by omega) (by omega)
          refine w168_153b _ _ _ _ t0 ⟨z16, fun _ => ?_, fun q => absurd (show (r : Int) < m4 602 578 by rw [f4 _ _ (by omega), b578]; omega) q⟩
          rw [wrI (x := 11 * (r : Int)) (by omega) (by omega), wrI (x := 11 * (r : Int) + 4) (by omega) (by omega), z4, wrI (x := 0 + (r : Int)) (by omega) (by omega), wrI (x := (r : Int) + 1) (by omega) (by omega), Int.zero_add]
          refine ⟨⟨z16, by omega, by omega⟩, by omega, fun m5 e5 => ih (r + 1) m5 (by omega) (fun x k hx => by rw [e5, um_n (by omega)]; exact f4 x k hx) fun k k0 k1 => ?_⟩
          by_cases hk : k = r
          · rw [hk, e5, um_s]
          · rw [e5, um_k hk]
            exact I4 k k0 (by omega)
      exact l2 (B 578).toNat 0 m3 (by omega) (fun _ _ _ => rfl) fun k k0 k1 => by omega
    | succ d ih =>
      intro i m1 hi f1 I1'
      have bi : m1 602 (583 + i) = B i := by rw [f1 _ _ (by omega)]; exact hB i (by omega) (by omega)
      refine w168_109 _ _ _ _ t0 ⟨fun _ => ?_, fun q => absurd (show (i : Int) < 583 by omega) q⟩
      rw [wrI (x := 583 + (i : Int)) (by omega) (by omega), bi, wrI (x := (i : Int) + 1) (by omega) (by omega)]
      refine ⟨by omega, by omega, fun m2 e2 => ih (i + 1) m2 (by omega) (fun x k hx => by rw [e2, um_n (by omega)]; exact f1 x k hx) fun k k0 k1 => ?_⟩
      by_cases hk : k = i
      · rw [hk, e2, um_s]
      · rw [e2, um_k hk]
        exact I1' k k0 (by omega)
  exact loop 583 0 m (by omega) (fun _ _ _ => rfl) fun k k0 k1 => by omega
/-- the clauses -/
theorem c168l {u1 u4 : aV} (hu : u1.1 ≠ 2) {K : Int → Mm → Prop} : ∀ (d : Nat) (B : Bk) (p c : Int) (m : Mm), n - p < d → 0 ≤ c → c ≤ p → BI B → m 597 2 = 0 → StR f n B m p → OutR (fun e x => ∀ m', fT m m' → m' 597 2 = 0 → m' 597 4 = e → m' 597 5 = x → m' 597 16 = 0 → K (-1) m') (fun B' c' => BI B' → ∀ m', TxR B' m m' → K c' m') (txS f n d B p c) → X 168 73 [(1, 597), u1, (0, c), (0, 1), u4] [] m (qI K) := by
  intro d
  induction d with
  | zero =>
    intro B p c m hd c0 cp I h2 S kk
    have := S.2.2.2.1
    omega
  | succ d ih =>
    intro B p c m hd c0 cp I h2 S kk
    have hb := S.2.2.2.1
    have hn := S.1.2.2.1.2.2
    have te := tk_e (f := f) hb.2
    have rk0 := (rk_1 (tk_w (f := f) hb.2).2.2.2.2).2.2.2.2.2.2
    unfold txS at kk
    refine w168_73 _ _ _ _ hu ⟨fun q => absurd q (by decide), fun _ => ?_⟩
    rw [S.2.1.2.1]
    refine ⟨fun h m1 e1 => ⟨fun q => absurd q (by decide), fun _ => ?_⟩, fun h => ?_⟩
    · rw [if_pos (rk0.mp h)] at kk
      have kk' : BI B → ∀ m', TxR B m m' → K c m' := kk
      have T := S.2.2.1
      refine c168e I (by rw [e1, um_s]) (by rw [e1, um_k (by decide)]; exact h2) (by rw [e1, um_k (by decide)]; exact S.2.2.2.2.1) (by rw [e1, um_k (by decide)]; exact S.2.2.2.2.2) (fun k k0 k1 => by rw [e1, um_x (by decide)]; exact T.2.1 k k0 k1) fun m' X' => kk' I m' ?_
      refine ⟨fun x k a a2 a3 a4 => ?_, X'.2⟩
      rw [X'.1 x k a a2 a3 a4, e1, um_n (by omega)]
    · rw [if_neg (fun z => h (rk0.mpr z))] at kk
      have pr := te.2.2.2 (fun z => h (rk0.mpr z))
      have ok := clS_ok (f := f) (T := tk f n p) I te.2.2.1
      refine c177 I S ?_
      unfold OR OkR at *
      revert kk ok
      generalize clS f n B (tk f n p) = r
      intro kk ok
      cases r with
      | inl q =>
        have kk' : ∀ m', fT m m' → m' 597 2 = 0 → m' 597 4 = q.1 → m' 597 5 = q.2 → m' 597 16 = 0 → K (-1) m' := kk
        intro m1 g1 y4 y5
        refine w168_73 _ _ _ _ hu ⟨fun _ m2 e2 => ⟨fun _ => ?_, fun z => absurd rfl z⟩, fun z => absurd rfl z⟩
        exact kk' m2 (fun x k a b' c' => by rw [e2, um_n (by omega)]; exact g1.T x k a b' c') (by rw [e2, um_k (by decide), g1 _ _ (by decide) (by decide) (by decide)]; exact h2) (by rw [e2, um_k (by decide)]; exact y4) (by rw [e2, um_k (by decide)]; exact y5) (by rw [e2, um_s])
      | inr q =>
        obtain ⟨o1, o2, o3⟩ := ok
        intro m1 g1 S1
        rw [wrI (x := c + 1) (by omega) (by omega)]
        refine ih q.1 q.2 (c + 1) m1 (by omega) (by omega) (by omega) o1 (by rw [g1 _ _ (by decide) (by decide) (by decide)]; exact h2) S1 ?_
        have kk' : OutR (fun e x => ∀ m', fT m m' → m' 597 2 = 0 → m' 597 4 = e → m' 597 5 = x → m' 597 16 = 0 → K (-1) m') (fun B' c' => BI B' → ∀ m', TxR B' m m' → K c' m') (txS f n d q.1 q.2 (c + 1)) := kk
        revert kk'
        generalize txS f n d q.1 q.2 (c + 1) = r2
        intro kk'
        cases r2 with
        | inl z => exact fun m2 g h2' b e h => kk' m2 (g1.T.tr g) h2' b e h
        | inr z =>
          intro I2 m2 X2
          refine kk' I2 m2 ⟨fun x k a a2 a3 a4 => ?_, X2.2⟩
          rw [X2.1 x k a a2 a3 a4, g1 x k (by omega) a2 (by omega)]
/-- text(168) -/
theorem c168 {N : Int} {K : Int → Mm → Prop} (h2 : m 597 2 = N) (hN : 0 ≤ N ∧ N ≤ 900) (hf : ∀ i, 0 ≤ i → i < N → m 598 i = f i ∧ 0 ≤ f i ∧ f i < 256)
    (b2 : ¬ (0 ≤ n ∧ n ≤ N) → ∀ m', m' = umem m 597 0 0 → K (-2) m')
    (kk : 0 ≤ n → n ≤ N → OutR (fun e x => ∀ m', fT m m' → m' 597 2 = 0 → m' 597 4 = e → m' 597 5 = x → m' 597 16 = 0 → K (-1) m') (fun B' c' => BI B' → ∀ m', TxR B' m m' → K c' m') (txS f n (n + 1).toNat B0 0 0)) : TrI 168 [(1, 597), (0, n)] m K := by
  refine e168 _ fun m1 e1 => ?_
  have x2 : m1 597 2 = N := by rw [e1, um_k (by decide)]; exact h2
  refine e169 _ ?_
  rw [x2]
  refine ⟨fun q => ⟨fun _ => b2 (by omega) m1 e1, fun z => absurd rfl z⟩, fun q => ⟨fun q2 => ⟨fun _ => b2 (by omega) m1 e1, fun z => absurd rfl z⟩, fun q2 => fun m2 e2 m3 e3 m4 e4 m5 e5 m6 e6 => ⟨fun z => absurd z (by decide), fun _ m7 e7 => ?_⟩⟩⟩
  have kk' := kk (by omega) (by omega)
  have F7 : ∀ x k, ¬ (x = 597 ∧ (k = 0 ∨ (2 ≤ k ∧ k ≤ 5) ∨ k = 8 ∨ k = 16)) → m7 x k = m x k := fun x k h => by
    rw [e7, um_n (by omega), e6, um_n (by omega), e5, um_n (by omega), e4, um_n (by omega), e3, um_n (by omega), e2, um_n (by omega), e1, um_n (by omega)]
  have y : m7 597 16 = 1 ∧ m7 597 8 = 0 ∧ m7 597 5 = -1 ∧ m7 597 4 = 0 ∧ m7 597 2 = 0 ∧ m7 597 3 = n := by
    refine ⟨by rw [e7, um_s], ?_, ?_, ?_, ?_, ?_⟩
    · rw [e7, um_k (by decide), e6, um_s]
    · rw [e7, um_k (by decide), e6, um_k (by decide), e5, um_s]
    · rw [e7, um_k (by decide), e6, um_k (by decide), e5, um_k (by decide), e4, um_s]
    · rw [e7, um_k (by decide), e6, um_k (by decide), e5, um_k (by decide), e4, um_k (by decide), e3, um_s]
    · rw [e7, um_k (by decide), e6, um_k (by decide), e5, um_k (by decide), e4, um_k (by decide), e3, um_k (by decide), e2, um_s]
  clear e1 e2 e3 e4 e5 e6 e7 x2
  have t0 : ((0, n) : aV).1 ≠ 2 := by show (0 : Nat) ≠ 2; decide
  have bz : ∀ i : Nat, i < 25 → ¬ iand (ishr 0 i) 1 = 1 := by decide +kernel
  have loop : ∀ (d i : Nat) (a : Mm), i + d = 583 → (∀ x k, ¬ (x = 602 ∧ 583 ≤ k) → a x k = m7 x k) → (∀ k, 0 ≤ k → k < (i : Int) → a 602 (583 + k) = B0 k) → X 168 23 [(1, 597), (0, n), (0, (i : Int)), (9, 0), (9, 0)] [] a (qI K) := by
    intro d
    induction d with
    | zero =>
      intro i a hi fa Ia
      refine w168_23 _ _ _ _ t0 ⟨fun q => absurd q (by omega), fun _ m8 e8 m9 e9 => ?_⟩
      have F9 : ∀ x k, ¬ (x = 597 ∧ (k = 17 ∨ k = 18)) → m9 x k = a x k := fun x k h => by rw [e9, um_n (by omega), e8, um_n (by omega)]
      have y' : ∀ k, k ≠ 17 → k ≠ 18 → m9 597 k = m7 597 k := fun k h h' => by rw [F9 _ _ (by omega), fa _ _ (by omega)]
      have S0 : ScR f n m9 0 := ⟨by rw [y' _ (by decide) (by decide)]; exact y.2.2.2.2.2, by rw [y' _ (by decide) (by decide)]; exact y.2.1, ⟨Int.le_refl _, by omega, by omega⟩, fun i i0 i1 => by
        rw [F9 _ _ (by omega), fa _ _ (by omega), F7 _ _ (by omega)]
        exact hf i i0 (by omega)⟩
      have gT9 : fT m m9 := fun x k a1 a2 a3 => by rw [F9 x k (by omega), fa x k a3, F7 x k (by omega)]
      refine c170 S0 fun m10 f10 S10 H10 => ?_
      have gT : fT m m10 := gT9.tr f10.R.T
      have T9 : TbR B0 m9 := by
        refine ⟨by rw [y' _ (by decide) (by decide)]; exact y.1, fun k k0 k1 => by rw [F9 _ _ (by omega)]; exact Ia k k0 (by omega), fun i i0 i1 => ?_, fun i i0 i1 => ?_⟩
        · rw [e9, um_k (by decide), e8, um_s]
          obtain ⟨j, rfl⟩ := Int.eq_ofNat_of_zero_le i0
          unfold B0
          rw [if_neg (by omega)]
          exact ⟨fun h => absurd h (bz j (by omega)), fun h => absurd h (by decide)⟩
        · rw [e9, um_s]
          obtain ⟨j, rfl⟩ := Int.eq_ofNat_of_zero_le i0
          unfold B0
          rw [if_neg (by omega)]
          exact ⟨fun h => absurd h (bz j (by omega)), fun h => absurd h (by decide)⟩
      have z : ∀ k, k ≠ 17 → k ≠ 18 → ¬ (8 ≤ k ∧ k ≤ 13) → m10 597 k = m7 597 k := fun k h h' h'' => by rw [f10 _ _ (by omega) (by omega), y' k h h']
      refine c168l t0 (n + 1).toNat B0 0 0 m10 (by omega) (Int.le_refl _) (Int.le_refl _) B0_ok (by rw [z _ (by decide) (by decide) (by decide)]; exact y.2.2.2.2.1) ⟨S10, H10, T9.fr f10, ⟨Int.le_refl _, by omega⟩, by rw [z _ (by decide) (by decide) (by decide)]; exact y.2.2.2.1, by rw [z _ (by decide) (by decide) (by decide)]; exact y.2.2.1⟩ ?_
      have z2 : m10 597 2 = 0 := by rw [z _ (by decide) (by decide) (by decide)]; exact y.2.2.2.2.1
      revert kk'
      generalize txS f n (n + 1).toNat B0 0 0 = r
      intro kk'
      cases r with
      | inl q => exact fun m2 g h2' b e h => kk' m2 (gT.tr g) h2' b e h
      | inr q =>
        intro I2 m2 X2
        refine kk' I2 m2 ⟨fun x k a a2 a3 a4 => ?_, X2.2⟩
        rw [X2.1 x k a a2 a3 a4, gT x k (by omega) a2 (by omega)]
    | succ d ih =>
      intro i a hi fa Ia
      have a16 : a 597 16 = 1 := by rw [fa _ _ (by omega)]; exact y.1
      have go : ∀ m2, m2 = umem a 602 (583 + i) (B0 i) → X 168 23 [(1, 597), (0, n), (0, wr ((i : Int) + 1)), (9, 0), (9, 0)] [] m2 (qI K) := fun m2 e2 => by
        rw [wrI (x := (i : Int) + 1) (by omega) (by omega)]
        refine ih (i + 1) m2 (by omega) (fun x k hx => by rw [e2, um_n (by omega)]; exact fa x k hx) fun k k0 k1 => ?_
        by_cases hk : k = i
        · rw [hk, e2, um_s]
        · rw [e2, um_k (by omega)]
          exact Ia k k0 (by omega)
      refine w168_23 _ _ _ _ t0 ⟨fun _ => ?_, fun q => absurd (show (i : Int) < 583 by omega) q⟩
      rw [a16, wb (k := (i : Int)) (by omega)]
      unfold B0 at go
      refine ⟨fun q => ⟨by omega, fun m2 e2 => go m2 (by rw [if_pos q]; exact e2)⟩, fun q => ⟨by omega, fun m2 e2 => go m2 (by rw [if_neg q]; exact e2)⟩⟩
  exact loop 583 0 m7 (by omega) (fun _ _ _ => rfl) fun k k0 k1 => by omega
end RTX
