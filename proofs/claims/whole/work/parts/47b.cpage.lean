/-! page, the class's side -/
def fPg (p : Int) (m m' : Mm) : Prop := ∀ x k, x ≠ 3 → ¬ (p ≤ x ∧ x < p + 35) → m' x k = m x k
section PGK
variable {f : Int → Int} {n p : Int} {m m' : Mm}
theorem fPg.tr {m1 m2 : Mm} (h : fPg p m m1) (h2 : fPg p m1 m2) : fPg p m m2 := fun x k a b => (h2 x k a b).trans (h x k a b)
theorem c42p {c x : Int} {K : Int → Mm → Prop} (h7 : m 3 7 = x) (kk : ∀ m', fPg p m m' → m' 3 0 = c → m' 3 1 = x → K 0 m') : TrI 42 [(1, 3), (0, c)] m K := by
  refine e42 _ fun m1 e1 m2 e2 => ?_
  have x7 : m1 3 7 = x := by rw [e1, um_k (by decide)]; exact h7
  rw [x7] at e2
  exact kk m2 (fun y k a _ => by rw [e2, um_x a, e1, um_x a]) (by rw [e2, um_k (by decide), e1, um_s]) (by rw [e2, um_s])
/-- the class stands at q of a page -/
def StP (f : Int → Int) (n p : Int) (G : Bk) (m : Mm) (q : Int) : Prop := m 3 3 = 2 ∧ m 3 4 = n ∧ m 3 7 = q ∧ (0 ≤ q ∧ q ≤ n ∧ n ≤ 900) ∧ (∀ i, 0 ≤ i → i < n → m 2 i = f i ∧ 0 ≤ f i ∧ f i < 256) ∧ m 3 0 = 0 ∧ m 3 1 = -1 ∧ CP (EG G) m p
/-- a byte is laid -/
theorem c64p {G G1 : Bk} {q : Int} {u1 u2 : aV} {K : Int → Mm → Prop} (hp : p = 210 ∨ p = 245) (I : GI G) (S : StP f n p G m q) (hq : q < n) (hn : ¬ bcS (f q) < 0) (hG : (G1 = G ∧ 1 ≤ G 0 ∧ G (9 + G 0) < 10) ∨ (G1 = pgN G ∧ G 0 < 10)) {m1 : Mm} (f1 : ∀ x k, ¬ (x = p + 1 ∧ k = G1 0 - 1) → ¬ (x = p + 25 + (G1 0 - 1) ∧ k = 0 ∧ G1 (9 + G1 0) = 0) → ¬ (x = p ∧ k = 4) → m1 x k = m x k) (y4 : m1 p 4 = G1 0) (y1 : m1 (p + 1) (G1 0 - 1) = G1 (9 + G1 0))
    (kk : ∀ m3, fPg p m m3 → StP f n p (pgA (bcS (f q)) G1) m3 (q + 1) → GI (pgA (bcS (f q)) G1) → 1 ≤ pgA (bcS (f q)) G1 0 → X 60 19 [(1, 3), u1, u2, (1, p), (0, 1), (0, f q), (0, sgN (f q))] [] m3 (qI K)) : TrV 64 [(1, p), (0, f q), (0, sgN (f q))] m1 fun m9 => ∀ m11, m11 = umem m9 3 7 (wr (m9 3 7 + 1)) → X 60 19 [(1, 3), u1, u2, (1, p), (0, 1), (0, f q), (0, sgN (f q))] [] m11 (qI K) := by
  obtain ⟨s3, s4, s7, sb, sf, z0, z1, C⟩ := S
  have fr := (sf q sb.1 hq).2
  obtain ⟨W, s, w0, w1, s0, s1, e0, es, v0, v1, v2, o, ew, ek, e5, I'⟩ := I.app hG (bc_rng hn)
  have p1 : 210 ≤ p := by omega
  have c1 : G1 0 - 1 = W := by omega
  have c9 : 9 + G1 0 = 10 + W := by omega
  rw [c1, c9, es] at f1
  rw [c1, c9, es] at y1
  have y4' : m1 p 4 = W + 1 := y4.trans e0
  clear hG y4 e0 c1 c9
  refine c64 hp y4' ⟨w0, w1⟩ y1 ⟨s0, s1⟩ fr fun m2 f2 k1 k3 k14 k25 k26 => fun m3 e3 => ?_
  clear hp
  have F2 : ∀ x k, ¬ (x = p + 1 ∧ k = W) → ¬ (x = p + 3 + W ∧ k = s) → ¬ (x = p + 14 + W ∧ k = s) → ¬ (x = p + 25 + W ∧ (k = s ∨ k = s + 1)) → ¬ (x = p ∧ k = 4) → m2 x k = m x k := fun x k a2 a3 a4 a5 a6 => by
    rw [f2 x k a2 a3 a4 a5, f1 x k a2 (fun z => a5 ⟨z.1, Or.inl (z.2.1.trans z.2.2.symm)⟩) a6]
  have low : ∀ x k, x < 210 → m2 x k = m x k := fun x k hx => F2 x k (fun z => by have := z.1; omega) (fun z => by have := z.1; omega) (fun z => by have := z.1; omega) (fun z => by have := z.1; omega) (fun z => by have := z.1; omega)
  rw [low 3 7 (by decide), s7, wrI (x := q + 1) (by omega) (by omega)] at e3
  have t3 : ∀ x k, x ≠ 3 → m3 x k = m2 x k := fun x k a => by rw [e3, um_x a]
  have t7 : ∀ k, k ≠ 7 → m3 3 k = m 3 k := fun k a => by rw [e3, um_k a, low 3 k (by decide)]
  have n3 : ∀ x, p ≤ x → x ≠ 3 := fun x h => by omega
  have g3 : fPg p m m3 := fun x k a b => by
    rw [t3 x k a]
    exact F2 x k (fun z => b (by have := z.1; omega)) (fun z => b (by have := z.1; omega)) (fun z => b (by have := z.1; omega)) (fun z => b (by have := z.1; omega)) (fun z => b (by have := z.1; omega))
  refine kk m3 g3 ⟨by rw [t7 3 (by decide)]; exact s3, by rw [t7 4 (by decide)]; exact s4, by rw [e3, um_s], by omega, fun i i0 i1 => by rw [t3 2 i (by decide), low 2 i (by decide)]; exact sf i i0 i1, by rw [t7 0 (by decide)]; exact z0, by rw [t7 1 (by decide)]; exact z1, ?_⟩ I' (by rw [v0]; omega)
  refine C.app I w0 w1 s0 s1 v0 v1 v2 o ew ek e5 rfl rfl hn (fun x k a1 a2 a3 a4 a5 a6 a7 => ?_) (fun v a1 a2 => ?_) ?_ ?_ ?_ ?_ ?_ ?_
  · rw [t3 x k (n3 x a1)]
    exact F2 x k (fun z => a4 z.1) a5 a6 a7 (fun z => a3 z.1)
  · rw [t3 _ _ (n3 _ (by omega))]
    exact F2 _ _ (fun z => by have := z.2; omega) (fun z => by have := z.1; omega) (fun z => by have := z.1; omega) (fun z => by have := z.1; omega) (fun z => by have := z.1; omega)
  · rw [t3 _ _ (n3 _ (Int.le_refl _)), f2 _ _ (fun z => by have := z.1; omega) (fun z => by have := z.1; omega) (fun z => by have := z.1; omega) (fun z => by have := z.1; omega)]
    exact y4'
  · rw [t3 _ _ (n3 _ (by omega))]; exact k1
  · rw [t3 _ _ (n3 _ (by omega))]; exact k3
  · rw [t3 _ _ (n3 _ (by omega))]; exact k14
  · rw [t3 _ _ (n3 _ (by omega))]; exact k25
  · rw [t3 _ _ (n3 _ (by omega))]; exact k26
theorem c60l (hp : p = 210 ∨ p = 245) {u1 u2 : aV} {K : Int → Mm → Prop} : ∀ (d : Nat) (G : Bk) (q w : Int) (u5 u6 : aV) (m : Mm), n - q < d → GI G → (w = 0 ∨ (w = 1 ∧ 1 ≤ G 0)) → StP f n p G m q → OutR (fun e x => ∀ m', fPg p m m' → m' 3 0 = e → m' 3 1 = x → K (-1) m') (fun G' c' => GI G' → ∀ m', fPg p m m' → m' 3 0 = 0 → m' 3 1 = -1 → CP (EG G') m' p → K c' m') (pgS f n d G q w) → X 60 19 [(1, 3), u1, u2, (1, p), (0, w), u5, u6] [] m (qI K) := by
  have sp := (p_sh (w := 0) hp (by decide)).1
  intro d
  induction d with
  | zero =>
    intro G q w u5 u6 m hd I hw S kk
    have := S.2.2.2.1
    omega
  | succ d ih =>
    intro G q w u5 u6 m hd I hw S kk
    obtain ⟨s3, s4, s7, sb, sf, z0, z1, C⟩ := id S
    have C4 : m p 4 = G 0 := C.2.1
    unfold pgS at kk
    refine w60_19 _ _ _ _ _ _ sp ?_
    rw [s7, s4, s3]
    refine ⟨fun hq => ?_, fun hq => ?_⟩
    · rw [if_pos hq] at kk
      obtain ⟨fq, fr⟩ := sf q sb.1 hq
      rw [fq]
      have mvK : ∀ {r : Rs} {m1 : Mm}, fPg p m m1 → OutR (fun e x => ∀ m', fPg p m m' → m' 3 0 = e → m' 3 1 = x → K (-1) m') (fun G' c' => GI G' → ∀ m', fPg p m m' → m' 3 0 = 0 → m' 3 1 = -1 → CP (EG G') m' p → K c' m') r → OutR (fun e x => ∀ m', fPg p m1 m' → m' 3 0 = e → m' 3 1 = x → K (-1) m') (fun G' c' => GI G' → ∀ m', fPg p m1 m' → m' 3 0 = 0 → m' 3 1 = -1 → CP (EG G') m' p → K c' m') r := fun {r m1} g h => by
        cases r with
        | inl z => exact fun m2 a b e => h m2 (g.tr a) b e
        | inr z => exact fun I' m2 a b e c => h I' m2 (g.tr a) b e c
      refine ⟨t_slot (by omega), fun hb m1 e1 => ?_, fun hb => c32 ?_⟩
      · rw [if_pos hb] at kk
        rw [wrI (x := q + 1) (by omega) (by omega)] at e1
        have g1 : fPg p m m1 := fun x k a _ => by rw [e1, um_x a]
        refine ih G (q + 1) 0 _ _ m1 (by omega) I (Or.inl rfl) ⟨by rw [e1, um_k (by decide)]; exact s3, by rw [e1, um_k (by decide)]; exact s4, by rw [e1, um_s], by omega, fun i i0 i1 => by rw [e1, um_x (by decide)]; exact sf i i0 i1, by rw [e1, um_k (by decide)]; exact z0, by rw [e1, um_k (by decide)]; exact z1, ?_⟩ (mvK g1 kk)
        obtain ⟨h1, h2, h3⟩ := C
        refine ⟨h1, by rw [e1, um_n (by omega)]; exact h2, fun v v0 v1 => ?_⟩
        have h4 := h3 v v0 v1
        refine ⟨by rw [e1, um_n (by omega)]; exact h4.1, by rw [e1, um_n (by omega)]; exact h4.2.1, fun i i0 i1 => ?_⟩
        rw [e1, um_n (by omega), um_n (by omega), um_n (by omega)]
        exact h4.2.2 i i0 i1
      · rw [if_neg hb] at kk
        -- a byte that stands for something
        have lay : ¬ bcS (f q) < 0 → X 60 83 [(1, 3), u1, u2, (1, p), (0, w), (0, f q), (0, sgN (f q))] [] m (qI K) := by
          intro hn
          rw [if_neg hn] at kk
          -- the bytes' laying
          have put : ∀ (G1 : Bk) (m1 : Mm), ((G1 = G ∧ 1 ≤ G 0 ∧ G (9 + G 0) < 10) ∨ (G1 = pgN G ∧ G 0 < 10)) → (∀ x k, ¬ (x = p + 1 ∧ k = G1 0 - 1) → ¬ (x = p + 25 + (G1 0 - 1) ∧ k = 0 ∧ G1 (9 + G1 0) = 0) → ¬ (x = p ∧ k = 4) → m1 x k = m x k) → m1 p 4 = G1 0 → m1 (p + 1) (G1 0 - 1) = G1 (9 + G1 0) → OutR (fun e x => ∀ m', fPg p m m' → m' 3 0 = e → m' 3 1 = x → K (-1) m') (fun G' c' => GI G' → ∀ m', fPg p m m' → m' 3 0 = 0 → m' 3 1 = -1 → CP (EG G') m' p → K c' m') (pgS f n d (pgA (bcS (f q)) G1) (q + 1) 1) → TrV 64 [(1, p), (0, f q), (0, sgN (f q))] m1 fun m9 => ∀ m11, m11 = umem m9 3 7 (wr (m9 3 7 + 1)) → X 60 19 [(1, 3), u1, u2, (1, p), (0, 1), (0, f q), (0, sgN (f q))] [] m11 (qI K) := fun G1 m1 hG f1 y4 y1 kk =>
            c64p hp I S hq hn hG f1 y4 y1 fun m3 g3 S3 I3 g0 => ih _ (q + 1) 1 _ _ m3 (by omega) I3 (Or.inr ⟨rfl, g0⟩) S3 (mvK g3 kk)
          refine w60_83 _ _ _ _ _ _ sp ?_
          rw [C4]
          refine ⟨fun w0 => ⟨sp, fun h10 => ?_, fun h10 => ?_⟩, fun w0 => ⟨⟨sp, I.1.2⟩, fun h10 => ?_, fun h10 => ?_⟩⟩
          · rw [if_pos w0, if_pos h10] at kk
            have kk' : ∀ m', fPg p m m' → m' 3 0 = 2 → m' 3 1 = q → K (-1) m' := kk
            exact c42p s7 kk'
          · rw [if_pos w0, if_neg h10] at kk
            refine w60_113 _ _ _ _ _ _ sp ⟨fun _ => ?_, fun z => absurd w0 z⟩
            refine c63 hp C4 ⟨I.1.1, by omega⟩ fun m1 e1 => ?_
            have n0 : pgN G 0 = G 0 + 1 := if_pos rfl
            have n9 : pgN G (9 + pgN G 0) = 0 := by
              rw [n0]
              unfold pgN
              have i0 := I.1.1
              rw [if_neg (by omega), if_pos (by omega)]
            refine put (pgN G) m1 (Or.inr ⟨rfl, by omega⟩) (fun x k a1 a2 a3 => ?_) (by rw [e1, um_s, n0]) ?_ kk
            · rw [n9] at a2
              rw [n0] at a1 a2
              rw [e1, um_n a3, um_n (by omega), um_n (by omega)]
            · rw [n9, n0, e1, um_n (by omega), um_n (by omega), show G 0 + 1 - 1 = G 0 by omega, um_s]
          · have hw1 : 1 ≤ G 0 := by omega
            have sz : m (p + 1) (G 0 - 1) = G (9 + G 0) := by
              have := (C.2.2 (G 0 - 1) (by omega) (by rw [EG_n]; omega)).1
              rw [EG_s, show 10 + (G 0 - 1) = 9 + G 0 by omega] at this
              exact this
            rw [sz] at h10
            rw [if_neg w0, if_pos h10.2] at kk
            have kk' : ∀ m', fPg p m m' → m' 3 0 = 2 → m' 3 1 = q → K (-1) m' := kk
            exact c42p s7 kk'
          · have hw1 : 1 ≤ G 0 := by omega
            have sz : m (p + 1) (G 0 - 1) = G (9 + G 0) := by
              have := (C.2.2 (G 0 - 1) (by omega) (by rw [EG_n]; omega)).1
              rw [EG_s, show 10 + (G 0 - 1) = 9 + G 0 by omega] at this
              exact this
            rw [sz] at h10
            have h10' : ¬ 10 ≤ G (9 + G 0) := fun z => h10 ⟨by omega, z⟩
            rw [if_neg w0, if_neg h10'] at kk
            have w1 : w = 1 := by omega
            subst w1
            exact w60_113 _ _ _ _ _ _ sp ⟨fun z => absurd z w0, fun _ => put G m (Or.inl ⟨rfl, hw1, by omega⟩) (fun _ _ _ _ _ => rfl) C4 sz kk⟩
        refine ⟨fun h9 => ⟨fun hl => lay ?_, fun hl => ?_⟩, fun h9 => lay ?_⟩
        · unfold bcS
          rw [if_pos hl]
          omega
        · have : bcS (f q) = -1 := by unfold bcS; rw [if_neg hl, if_pos h9]
          rw [if_pos (by omega)] at kk
          have kk' : ∀ m', fPg p m m' → m' 3 0 = 1 → m' 3 1 = q → K (-1) m' := kk
          exact c42p s7 kk'
        · unfold bcS
          split
          · omega
          · omega
    · rw [if_neg hq] at kk
      have kk' : GI G → ∀ m', fPg p m m' → m' 3 0 = 0 → m' 3 1 = -1 → CP (EG G) m' p → K (G 0) m' := kk
      rw [C4]
      exact kk' I m (fun _ _ _ _ => rfl) z0 z1 C
def G0 : Bk := fun _ => 0
theorem G0_ok : GI G0 := ⟨⟨Int.le_refl _, show (0 : Int) ≤ 10 by decide⟩, fun w w0 w1 => by
  have : w < 0 := w1
  omega⟩
theorem c60 (hp : p = 210 ∨ p = 245) {K : Int → Mm → Prop} (hn : 0 ≤ n ∧ n ≤ 900) (hf : ∀ i, 0 ≤ i → i < n → m 2 i = f i ∧ 0 ≤ f i ∧ f i < 256) (kk : OutR (fun e x => ∀ m', fPg p m m' → m' 3 0 = e → m' 3 1 = x → K (-1) m') (fun G' c' => GI G' → ∀ m', fPg p m m' → m' 3 0 = 0 → m' 3 1 = -1 → CP (EG G') m' p → K c' m') (pgS f n (n + 1).toNat G0 0 0)) : TrI 60 [(1, 3), (1, 2), (0, n), (1, p)] m K := by
  have sp := (p_sh (w := 0) hp (by decide)).1
  have al : alen 2 = 900 := by decide +kernel
  refine e60 _ _ _ sp ⟨by decide, e16 _ _ ⟨by decide, fun m1 e1 => ⟨by decide, fun m2 e2 m3 e3 m4 e4 m5 e5 => fun m6 e6 m7 e7 => ?_⟩⟩⟩
  rw [al, show min n 900 = n by omega] at e2
  have g7 : fPg p m m7 := fun x k a b => by rw [e7, um_x a, e6, um_n (by omega), e5, um_x a, e4, um_x a, e3, um_x a, e2, um_x a, e1, um_x a]
  refine c60l hp (n + 1).toNat G0 0 0 _ _ m7 (by omega) G0_ok (Or.inl rfl) ⟨?_, ?_, by rw [e7, um_s], ⟨Int.le_refl _, hn.1, hn.2⟩, fun i i0 i1 => by rw [g7 2 i (by omega) (by omega)]; exact hf i i0 i1, ?_, ?_, hp, ?_, fun w w0 w1 => ?_⟩ ?_
  · rw [e7, um_k (by decide), e6, um_n (by omega), e5, um_k (by decide), e4, um_k (by decide), e3, um_k (by decide), e2, um_k (by decide), e1, um_s]
  · rw [e7, um_k (by decide), e6, um_n (by omega), e5, um_k (by decide), e4, um_k (by decide), e3, um_k (by decide), e2, um_s]
  · rw [e7, um_k (by decide), e6, um_n (by omega), e5, um_k (by decide), e4, um_s]
  · rw [e7, um_k (by decide), e6, um_n (by omega), e5, um_s]
  · rw [e7, um_n (by omega), e6, um_s]
    rfl
  · have : w < 0 := w1
    omega
  · revert kk
    generalize pgS f n (n + 1).toNat G0 0 0 = r
    intro kk
    cases r with
    | inl z => exact fun m2 a b e => kk m2 (g7.tr a) b e
    | inr z => exact fun I' m2 a b e c => kk I' m2 (g7.tr a) b e c
/-- what a page that is taken leaves on the class's side -/
def PgC (G : Bk) (m m' : Mm) : Prop := (∀ x k, ¬ (x = 1 ∧ (k = 1 ∨ k = 5 ∨ k = 6 ∨ k = 17)) → x ≠ 3 → ¬ (m 1 6 ≤ x ∧ x < m 1 6 + 35) → x ≠ 283 → ¬ (x = 284 ∧ (k = 2 ∨ k = 3)) → x ≠ 595 → m' x k = m x k)
  ∧ (m' 1 1 = 0 ∧ m' 1 5 = m 1 6 ∧ m' 1 6 = m 1 5 ∧ m' 1 17 = 1 ∧ m' 3 0 = 0 ∧ m' 3 1 = -1 ∧ m' 284 2 = 0 ∧ m' 284 3 = 0) ∧ CP (EG G) m' (m 1 6) ∧ (∀ w, 0 ≤ w → w < 10 → m' 283 w = -9) ∧ ∀ w, 0 ≤ w → w < 10 → m' 595 w = 16777215
theorem CP.fs {G : Bk} {p : Int} (I : GI G) (h : CP (EG G) m p) (g : ∀ x k, p ≤ x → x < p + 35 → m' x k = m x k) : CP (EG G) m' p := by
  have I1 := I.1
  obtain ⟨h1, h2, h3⟩ := h
  refine ⟨h1, by rw [g _ _ (by omega) (by omega)]; exact h2, fun w w0 w1 => ?_⟩
  have w1' : w < G 0 := w1
  have h4 := h3 w w0 w1
  refine ⟨by rw [g _ _ (by omega) (by omega)]; exact h4.1, by rw [g _ _ (by omega) (by omega)]; exact h4.2.1, fun i i0 i1 => ?_⟩
  rw [g _ _ (by omega) (by omega), g _ _ (by omega) (by omega), g _ _ (by omega) (by omega)]
  exact h4.2.2 i i0 i1
theorem c59 {N : Int} {K : Int → Mm → Prop} (hp : m 1 6 = 210 ∨ m 1 6 = 245) (h1 : m 1 1 = N) (hN : 0 ≤ N ∧ N ≤ 900) (hf : ∀ i, 0 ≤ i → i < N → m 2 i = f i ∧ 0 ≤ f i ∧ f i < 256)
    (b2 : ¬ (0 ≤ n ∧ n ≤ N) → K (-2) m)
    (kk : 0 ≤ n → n ≤ N → OutR (fun e x => ∀ m', (∀ y k, ¬ (y = 1 ∧ k = 1) → y ≠ 3 → ¬ (m 1 6 ≤ y ∧ y < m 1 6 + 35) → m' y k = m y k) → m' 1 1 = 0 → m' 3 0 = e → m' 3 1 = x → K (-1) m') (fun G' c' => 0 ≤ c' ∧ (GI G' → ∀ m', PgC G' m m' → K c' m')) (pgS f n (n + 1).toNat G0 0 0)) : TrI 59 [(1, 1), (0, n)] m K := by
  refine e59 _ ⟨fun q => b2 (by omega), fun q => ⟨fun q2 => b2 (by omega), fun q2 => ?_⟩⟩
  have kk' := kk (by omega) (by omega)
  refine c60 (f := f) hp ⟨by omega, by omega⟩ (fun i i0 i1 => hf i i0 (by omega)) ?_
  revert kk'
  generalize pgS f n (n + 1).toNat G0 0 0 = r
  intro kk'
  have sp : shp (m 1 6) = 24 := (p_sh (w := 0) hp (by decide)).1
  cases r with
  | inl q =>
    intro m1 f1 y0 y1 m2 e2
    exact ⟨fun _ => kk' m2 (fun y k h1 h2 h3 => by rw [e2, um_n h1]; exact f1 y k h2 h3) (by rw [e2, um_s]) (by rw [e2, um_n (by decide)]; exact y0) (by rw [e2, um_n (by decide)]; exact y1), fun z => absurd (show (-1 : Int) < 0 by decide) z⟩
  | inr q =>
    obtain ⟨G, c⟩ := q
    obtain ⟨c0, kk'⟩ := kk'
    intro I1 m1 f1 y0 y1 C1 m2 e2
    have I : GI G := I1
    have C1 : CP (EG G) m1 (m 1 6) := C1
    refine ⟨fun z => absurd (show c < 0 from z) (by omega), fun _ => ?_⟩
    have f2 : ∀ y k, ¬ (y = 1 ∧ k = 1) → y ≠ 3 → ¬ (m 1 6 ≤ y ∧ y < m 1 6 + 35) → m2 y k = m y k := fun y k h1 h2 h3 => by rw [e2, um_n h1]; exact f1 y k h2 h3
    have a5 : m2 1 5 = m 1 5 := f2 _ _ (by omega) (by omega) (by omega)
    have a6 : m2 1 6 = m 1 6 := f2 _ _ (by omega) (by omega) (by omega)
    rw [a6]
    refine ⟨sp, fun m3 e3 m4 e4 => ?_⟩
    rw [a5] at e3
    refine c56x fun m6 f6 z3 => fun m7 e7 m8 e8 => ?_
    refine c58 fun m' f' z5 z17 => ?_
    have F : ∀ y k, y ≠ 595 → ¬ (y = 1 ∧ k = 17) → ¬ (y = 284 ∧ (k = 2 ∨ k = 3)) → m' y k = m6 y k := fun y k h1 h2 h3 => by
      rw [f' y k h1 h2, e8, um_n (by omega), e7, um_n (by omega)]
    have F6 : ∀ y k, y ≠ 283 → ¬ (y = 1 ∧ (k = 5 ∨ k = 6)) → m6 y k = m2 y k := fun y k h1 h2 => by
      rw [f6 y k h1, e4, um_n (by omega), e3, um_n (by omega)]
    refine kk' I m' ⟨fun y k n1 n2 n3 n4 n5 n6 => ?_, ⟨?_, ?_, ?_, z17, ?_, ?_, ?_, ?_⟩, C1.fs I fun x k x0 x1 => ?_, fun w w0 w1 => ?_, z5⟩
    · rw [F y k n6 (by omega) (by omega), F6 y k n4 (by omega)]
      exact f2 y k (by omega) n2 n3
    · rw [F _ _ (by decide) (by decide) (by decide), F6 _ _ (by decide) (by decide), e2, um_s]
    · rw [F _ _ (by decide) (by decide) (by decide), f6 _ _ (by decide), e4, um_s]
    · rw [F _ _ (by decide) (by decide) (by decide), f6 _ _ (by decide), e4, um_k (by decide), e3, um_s]
    · rw [F _ _ (by decide) (by decide) (by decide), F6 _ _ (by decide) (by decide), e2, um_n (by decide)]
      exact y0
    · rw [F _ _ (by decide) (by decide) (by decide), F6 _ _ (by decide) (by decide), e2, um_n (by decide)]
      exact y1
    · rw [f' _ _ (by decide) (by decide), e8, um_k (by decide), e7, um_s]
    · rw [f' _ _ (by decide) (by decide), e8, um_s]
    · rw [F x k (by omega) (by omega) (by omega), F6 x k (by omega) (by omega), e2, um_n (by omega)]
    · rw [F _ _ (by omega) (by omega) (by omega)]
      exact z3 w w0 w1
end PGK
