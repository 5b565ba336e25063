/-! page, the reference's loop -/
section PGR2
variable {f : Int → Int} {n : Int} {m m' : Mm}
theorem PgR.mv {G : Bk} {m1 m2 : Mm} (h : PgR G m1 m2) (g : fU m m1) : PgR G m m2 := ⟨fun x k a b c d e f' => by rw [h.1 x k a b c d e f', g x k (by omega) d e], h.2⟩
theorem c192l {u1 : aV} (hu : u1.1 ≠ 2) {K : Int → Mm → Prop} (hn9 : n ≤ 900) : ∀ (d : Nat) (G : Bk) (q w : Int) (u5 u6 : aV) (m : Mm), n - q < d → 0 ≤ q → q ≤ n → GI G → (w = 0 ∨ (w = 1 ∧ 1 ≤ G 0)) → StQ f n G m → OutR (fun e x => ∀ m', fU m m' → m' 597 2 = 0 → m' 597 4 = e → m' 597 5 = x → K (-1) m') (fun G' c' => GI G' → ∀ m', PgR G' m m' → K c' m') (pgS f n d G q w) → X 192 23 [(1, 597), u1, (0, G 0), (0, w), (0, q), u5, u6] [] m (qI K) := by
  intro d
  induction d with
  | zero =>
    intro G q w u5 u6 m hd q0 qn
    omega
  | succ d ih =>
    intro G q w u5 u6 m hd q0 qn I hw S kk
    obtain ⟨s3, sf, z2, z4, z5, C⟩ := id S
    have I1 := I.1
    have t0 : ∀ v : Int, ((0, v) : aV).1 ≠ 2 := fun v => by show (0 : Nat) ≠ 2; decide
    have mvK : ∀ {r : Rs} {m1 : Mm}, fU m m1 → OutR (fun e x => ∀ m', fU m m' → m' 597 2 = 0 → m' 597 4 = e → m' 597 5 = x → K (-1) m') (fun G' c' => GI G' → ∀ m', PgR G' m m' → K c' m') r → OutR (fun e x => ∀ m', fU m1 m' → m' 597 2 = 0 → m' 597 4 = e → m' 597 5 = x → K (-1) m') (fun G' c' => GI G' → ∀ m', PgR G' m1 m' → K c' m') r := fun {r m1} g h => by
      cases r with
      | inl z => exact fun m2 a b e c => h m2 (g.tr a) b e c
      | inr z => exact fun I' m2 a => h I' m2 (a.mv g)
    have flt : ∀ e : Int, (∀ m', fU m m' → m' 597 2 = 0 → m' 597 4 = e → m' 597 5 = q → K (-1) m') → ∀ m1, m1 = umem m 597 4 e → ∀ m2, m2 = umem m1 597 5 q → K (-1) m2 := fun e h m1 e1 m2 e2 => h m2 (fun x k a _ _ => by rw [e2, um_n (by omega), e1, um_n (by omega)]) (by rw [e2, um_k (by decide), e1, um_k (by decide)]; exact z2) (by rw [e2, um_k (by decide), e1, um_s]) (by rw [e2, um_s])
    unfold pgS at kk
    have body : q < n → X 192 86 [(1, 597), u1, (0, G 0), (0, w), (0, q), u5, u6] [(0, bcS (f q))] m (qI K) := by
      intro hq
      rw [if_pos hq] at kk
      have fq := (sf q q0 hq).1
      refine w192_86 _ _ _ _ _ _ _ ?_
      rw [fq, wrI (x := q + 1) (by omega) (by omega)]
      have bl : f q = 10 ∨ f q = 32 → X 192 23 [(1, 597), u1, (0, G 0), (0, 0), (0, q + 1), (0, bcS (f q)), u6] [] m (qI K) := fun h => by
        rw [if_pos h] at kk
        exact ih G (q + 1) 0 _ _ m (by omega) (by omega) (by omega) I (Or.inl rfl) S kk
      refine ⟨by omega, fun h => bl (Or.inl h), fun h1 => ⟨fun h => bl (Or.inr h), fun h2 => ?_⟩⟩
      rw [if_neg (by omega)] at kk
      refine ⟨fun hb m1 e1 m2 e2 => ?_, fun hb => ?_⟩
      · rw [if_pos hb] at kk
        refine w192_137 _ _ _ _ _ _ _ ⟨fun _ => ?_, fun z => absurd rfl z⟩
        exact w192_163 _ _ _ _ _ _ hu ⟨fun _ => ⟨fun _ => flt 1 kk m1 e1 m2 e2, fun z => absurd rfl z⟩, fun z => absurd rfl z⟩
      · rw [if_neg hb] at kk
        refine w192_137 _ _ _ _ _ _ _ ⟨fun z => absurd z (by decide), fun _ => ⟨fun w0 => ⟨fun h10 m1 e1 m2 e2 => ?_, fun h10 => ?_⟩, fun w0 => ?_⟩⟩
        · rw [if_pos w0, if_pos (by omega)] at kk
          exact w192_163 _ _ _ _ _ _ hu ⟨fun _ => ⟨fun _ => flt 2 kk m1 e1 m2 e2, fun z => absurd rfl z⟩, fun z => absurd rfl z⟩
        · rw [if_pos w0, if_neg (by omega)] at kk
          refine w192_163 _ _ _ _ _ _ hu ⟨fun z => absurd z (by decide), fun _ => ⟨fun _ => ⟨fun z => absurd z (by decide), fun _ => ⟨fun _ => ⟨by omega, fun m1 e1 => ?_⟩, fun z => absurd w0 z⟩⟩, fun z => absurd w0 z⟩⟩
          rw [wrI (x := G 0 + 1) (by omega) (by omega)]
          have n0 : pgN G 0 = G 0 + 1 := if_pos rfl
          have n9 : pgN G (9 + pgN G 0) = 0 := by
            rw [n0]
            unfold pgN
            rw [if_neg (by omega), if_pos (by omega)]
          have := c192p (G1 := pgN G) (q := q) (u1 := u1) (u3 := (0, w)) (u6 := (0, 1)) (K := K) (m1 := m1) I S ⟨q0, hq⟩ hn9 hb (Or.inr ⟨rfl, by omega⟩) (fun x k a => by rw [e1, um_n (by rw [n0] at a; omega)]) (by rw [n9, n0, e1, show G 0 + 1 - 1 = G 0 by omega, um_s]) fun m3 f3 S3 I3 g0 => ih _ (q + 1) 1 _ _ m3 (by omega) (by omega) (by omega) I3 (Or.inr ⟨rfl, g0⟩) S3 (mvK (fun x k _ b c => f3 x k b c) kk)
          rw [n0] at this
          exact this
        · have hw1 : w = 1 ∧ 1 ≤ G 0 := by omega
          have sz := (C (G 0 - 1) (by omega) (by omega)).1
          rw [show 10 + (G 0 - 1) = 9 + G 0 by omega] at sz
          have sb := (I.2 (G 0 - 1) (by omega) (by omega)).1
          rw [show 10 + (G 0 - 1) = 9 + G 0 by omega] at sb
          rw [if_neg w0] at kk
          refine w192_163 _ _ _ _ _ _ hu ⟨fun z => absurd z (by decide), fun _ => ⟨fun z => absurd z w0, fun _ => ?_⟩⟩
          rw [wrI (x := G 0 - 1) (by omega) (by omega), sz]
          refine ⟨by omega, fun h10 m1 e1 m2 e2 => ?_, fun h10 => ⟨fun z => absurd z (by decide), fun _ => ⟨fun z => absurd z w0, fun _ => ?_⟩⟩⟩
          · rw [if_pos (by omega)] at kk
            exact flt 2 kk m1 e1 m2 e2
          · rw [if_neg (by omega)] at kk
            exact c192p (G1 := G) (q := q) I S ⟨q0, hq⟩ hn9 hb (Or.inl ⟨rfl, hw1.2, by omega⟩) (fun x k _ => rfl) sz fun m3 f3 S3 I3 g0 => ih _ (q + 1) 1 _ _ m3 (by omega) (by omega) (by omega) I3 (Or.inr ⟨rfl, g0⟩) S3 (mvK (fun x k _ b c => f3 x k b c) kk)
    have b86 := fun hq => body hq
    clear body
    refine w192_23 _ _ _ _ _ _ ?_
    rw [s3]
    refine ⟨fun hq => ⟨fun _ => ⟨by omega, fun hl => ?_, fun hl => ?_⟩, fun z => absurd hq z⟩, fun hq m1 e1 => ?_⟩
    · have fr := sf q q0 hq
      have := b86 hq
      rw [fr.1] at hl ⊢
      rw [wrI (x := f q - 97) (by omega) (by omega)]
      have hb : bcS (f q) = f q - 97 := by unfold bcS; rw [if_pos hl]
      rw [hb] at this
      exact this
    · have fr := sf q q0 hq
      have := b86 hq
      rw [fr.1] at hl ⊢
      refine c176 ⟨fun h => ?_, fun h => ?_⟩
      · have hb : bcS (f q) = -1 := by unfold bcS; rw [if_neg hl, if_pos h]
        rw [hb] at this
        exact this
      · rw [fr.1]
        refine c176 ?_
        have r := sgN_rng (c := f q)
        rw [wrI (x := 32 + sgN (f q)) (by omega) (by omega)]
        have hb : bcS (f q) = 32 + sgN (f q) := by unfold bcS; rw [if_neg hl, if_neg h]
        rw [hb] at this
        exact this
    · rw [if_neg hq] at kk
      have kk' : GI G → ∀ m', PgR G m m' → K (G 0) m' := kk
      refine c192e (t0 w) I (by rw [e1, um_k (by decide)]; exact z2) (by rw [e1, um_k (by decide)]; exact z4) (by rw [e1, um_k (by decide)]; exact z5) (by rw [e1, um_s]) (fun v v0 v1 => by rw [e1, um_x (by decide)]; exact ⟨(C v v0 v1).1, fun i i0 i1 => by rw [um_x (by decide)]; exact (C v v0 v1).2 i i0 i1⟩) fun m' F y1 y2 y3 => kk' I m' ⟨fun x k a b c d e f' => by rw [F x k (by omega) b c f', e1, um_n (by omega)], y1, y2, y3⟩
theorem c192 {N : Int} {K : Int → Mm → Prop} (h2 : m 597 2 = N) (hN : 0 ≤ N ∧ N ≤ 900) (hf : ∀ i, 0 ≤ i → i < N → m 598 i = f i ∧ 0 ≤ f i ∧ f i < 256)
    (b2 : ¬ (0 ≤ n ∧ n ≤ N) → ∀ m', m' = umem m 597 0 0 → K (-2) m')
    (kk : 0 ≤ n → n ≤ N → OutR (fun e x => ∀ m', fU m m' → m' 597 2 = 0 → m' 597 4 = e → m' 597 5 = x → K (-1) m') (fun G' c' => GI G' → ∀ m', PgR G' m m' → K c' m') (pgS f n (n + 1).toNat G0 0 0)) : TrI 192 [(1, 597), (0, n)] m K := by
  refine e192 _ fun m1 e1 => ?_
  have x2 : m1 597 2 = N := by rw [e1, um_k (by decide)]; exact h2
  refine e169 _ ?_
  rw [x2]
  refine ⟨fun q => ⟨fun _ => b2 (by omega) m1 e1, fun z => absurd rfl z⟩, fun q => ⟨fun q2 => ⟨fun _ => b2 (by omega) m1 e1, fun z => absurd rfl z⟩, fun q2 => fun m2 e2 m3 e3 m4 e4 m5 e5 m6 e6 => ⟨fun z => absurd z (by decide), fun _ => ?_⟩⟩⟩
  have kk' := kk (by omega) (by omega)
  have F6 : fU m m6 := fun x k h _ _ => by
    rw [e6, um_n (by omega), e5, um_n (by omega), e4, um_n (by omega), e3, um_n (by omega), e2, um_n (by omega), e1, um_n (by omega)]
  refine c192l (f := f) (n := n) (u1 := (0, n)) (by show (0 : Nat) ≠ 2; decide) (by omega) (n + 1).toNat G0 0 0 _ _ m6 (by omega) (Int.le_refl _) (by omega) G0_ok (Or.inl rfl) ⟨?_, fun i i0 i1 => ?_, ?_, ?_, ?_, fun w w0 w1 => ?_⟩ ?_
  · rw [e6, um_k (by decide), e5, um_k (by decide), e4, um_k (by decide), e3, um_k (by decide), e2, um_s]
  · rw [F6 _ _ (by omega) (by decide) (by decide)]
    exact hf i i0 (by omega)
  · rw [e6, um_k (by decide), e5, um_k (by decide), e4, um_k (by decide), e3, um_s]
  · rw [e6, um_k (by decide), e5, um_k (by decide), e4, um_s]
  · rw [e6, um_k (by decide), e5, um_s]
  · have : w < 0 := w1
    omega
  · revert kk'
    generalize pgS f n (n + 1).toNat G0 0 0 = r
    intro kk'
    cases r with
    | inl z => exact fun m2 a b e c => kk' m2 (F6.tr a) b e c
    | inr z => exact fun I' m2 a => kk' I' m2 (a.mv F6)
end PGR2
