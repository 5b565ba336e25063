/-! the class reads a clause: readings, entries -/
section CLA
variable {f : Int → Int} {n p t : Int} {B : Bk} {m : Mm}
theorem StC.sh (S : StC f n B t m p) : shp t = 30 := S.2.2.2.2.1.shp
theorem cd_rng {who : Int} (hw : who = 0 ∨ who = 1) (hp : p ≤ n) : -1 ≤ cdS f who (tk f n p) ∧ cdS f who (tk f n p) ≤ (if who = 0 then 29 else 30) := by
  have w := (tk_w (f := f) hp).1
  generalize tk f n p = T at *
  unfold cdS
  by_cases h : T.k = 2 ∧ T.sz = 1
  · have b := w h.1
    have := b.2.2 T.pl (Int.le_refl _) (by omega)
    rw [if_pos h]
    split <;> omega
  · rw [if_neg h]
    obtain rfl | rfl := hw
    all_goals
      repeat' split
      all_goals omega
theorem c43b {sg s1 lp : Int} {u3 u4 : aV} {K Z : Int → Mm → Prop} (hh : KH K Z) (S : StC f n B t m p) (hB : B 578 < 24) (hs : 0 ≤ sg ∧ sg < 10) (hz : 0 ≤ s1 ∧ s1 ≤ 6) (hl : ∀ i, 0 ≤ i → i < s1 → 97 ≤ f (lp + i) ∧ f (lp + i) ≤ 122) (x1 : m (t + 6 + 2 * B 578) 1 = sg) (xl : ∀ i, 0 ≤ i → i < s1 → m (t + 6 + 2 * B 578 + 1) i = f (lp + i))
    (kk : OC f n t m K (rd3 f n B sg lp s1 p)) : X 43 93 [(1, 3), (1, t), (1, t + 6 + 2 * B 578), u3, u4] [(0, s1), (1, t + 6 + 2 * B 578)] m (qI Z) := by
  have I := S.2.2.2.1
  have I1 := I.1
  have I2 := I.2.1
  have ht := S.tt
  have hp := S.b
  have sx := x_sh ht ⟨I1.1, hB⟩
  obtain ⟨x, hx⟩ : ∃ x, x = t + 6 + 2 * B 578 := ⟨_, rfl⟩
  rw [← hx] at sx x1 xl ⊢
  unfold rd3 at kk
  refine w43_93 _ _ _ _ _ _ S.sh ⟨sx.1, fun m1 e1 => ?_⟩
  have S1 : StC f n B t m1 p := S.fw fun y k h => by rw [e1, um_n (by omega)]
  have g1 : fC t m m1 := fun y k _ _ h => by rw [e1, um_n (by omega)]
  refine s19 S1 fun m2 f2 S2 H2 => ?_
  have te := tk_e (f := f) hp.2.1
  refine c45 (Or.inl rfl) S2.1 ⟨hp.1, hp.2.1⟩ H2 ⟨fun h => ?_, fun h => ?_⟩
  · rw [if_pos h] at kk
    exact c42 (t := t) H2.2.1 (FC.w (hh.ft fun m' a b d => kk m' ((g1.tr f2.fC).tr a) b d))
  rw [if_neg h] at kk
  have r0 := cd_rng (f := f) (who := 0) (Or.inl rfl) hp.2.1
  rw [if_pos rfl] at r0
  generalize cdS f 0 (tk f n p) = c0 at *
  unfold rd4 at kk
  generalize (tk f n p).e = p3 at *
  refine s19 S2 fun m3 f3 S3 H3 => ?_
  have hp3 : 0 ≤ p3 ∧ p3 ≤ n := by omega
  have te3 := tk_e (f := f) hp3.2
  refine c45 (Or.inr rfl) S3.1 hp3 H3 ⟨fun h' => ?_, fun h' => ?_⟩
  · rw [if_pos h'] at kk
    exact c42 (t := t) H3.2.1 (FC.w (hh.ft fun m' a b d => kk m' (((g1.tr f2.fC).tr f3.fC).tr a) b d))
  rw [if_neg h'] at kk
  have r1 := cd_rng (f := f) (who := 1) (Or.inr rfl) hp3.2
  rw [if_neg (by decide)] at r1
  generalize cdS f 1 (tk f n p3) = c1 at *
  unfold rd5 nuS at kk
  generalize (tk f n p3).e = p4 at *
  refine s19 S3 fun m4 f4 S4 H4 => ?_
  have hp4 : 0 ≤ p4 ∧ p4 ≤ n := by omega
  have te4 := tk_e (f := f) hp4.2
  have tw4 := tk_w (f := f) hp4.2
  have g4 : fC t m m4 := ((g1.tr f2.fC).tr f3.fC).tr f4.fC
  refine c46 (t := t) H4 (fun q => ?_) (fun q q2 => ?_) fun q q2 => ?_
  · rw [if_pos q] at kk
    have kk' : FC t m Z 1 (tk f n p4).pl := hh.ft kk
    exact fun m' a b d => ⟨fun _ => kk' m' (g4.tr a) b d, fun z => absurd rfl z⟩
  · rw [if_neg (fun z => z q), if_pos q2] at kk
    have kk' : FC t m Z 2 (tk f n p4).pl := hh.ft kk
    exact fun m' a b d => ⟨fun _ => kk' m' (g4.tr a) b d, fun z => absurd rfl z⟩
  rw [if_neg (fun z => z q), if_neg q2] at kk
  refine ⟨fun z => absurd z (by decide), fun _ => ⟨by omega, sx.1, fun m5 e5 => c47 sx.1 fun m6 f6 y3 y4 y5 y6 => fun m7 e7 => ?_⟩⟩
  have v9 := H4.2.2.2
  rw [v9] at e5
  have vb := tw4.2.2.1 q
  generalize (tk f n p4).v = v at *
  generalize (tk f n p4).e = p5 at *
  have t5 : m6 t 5 = B 578 := by
    rw [f6 _ _ (by omega), e5, um_n (by omega)]
    exact S4.2.2.2.2.1.2.1
  rw [t5, wrI (x := B 578 + 1) (by omega) (by omega)] at e7
  have h7 : ∀ y k, ¬ (y = t ∧ k = 5) → ¬ (y = x ∧ 3 ≤ k ∧ k ≤ 7) → m7 y k = m4 y k := fun y k n1 n2 => by
    rw [e7, um_n n1, f6 _ _ (by omega), e5, um_n (by omega)]
  have h4 : ∀ y k, y ≠ 3 → ¬ (y = x ∧ k = 2) → m4 y k = m y k := fun y k n1 n2 => by
    rw [f4 _ _ (by omega), f3 _ _ (by omega), f2 _ _ (by omega), e1, um_n n2]
  have S7 : StC f n (rdB f B sg lp s1 c0 c1 v) t m7 p5 := by
    obtain ⟨⟨a, b, c, d, e⟩, g, g2, T⟩ := S4
    refine ⟨⟨by rw [h7 _ _ (by omega) (by omega)]; exact a, by rw [h7 _ _ (by omega) (by omega)]; exact b, by rw [h7 _ _ (by omega) (by omega)]; exact c, d, fun i i0 i1 => by rw [h7 _ _ (by omega) (by omega)]; exact e i i0 i1⟩, by rw [h7 _ _ (by omega) (by omega)]; exact g, by rw [h7 _ _ (by omega) (by omega)]; exact g2, ?_⟩
    refine T.rd hB hs hz (by omega) (by omega) hl (fun y k hy => h7 y k (by omega) (by omega)) (by rw [e7, um_s]) ?_ ?_ ?_ ?_ ?_ ?_ ?_ ?_
    · rw [← hx, h7 _ _ (by omega) (by omega), h4 _ _ (by omega) (by omega)]
      exact x1
    · rw [← hx, h7 _ _ (by omega) (by omega), f4 _ _ (by omega), f3 _ _ (by omega), f2 _ _ (by omega), e1, um_s]
    · rw [← hx, e7, um_n (by omega)]; exact y3
    · rw [← hx, e7, um_n (by omega)]; exact y4
    · rw [← hx, e7, um_n (by omega)]; exact y5
    · rw [← hx, e7, um_n (by omega)]; exact y6
    · rw [← hx, e7, um_n (by omega), f6 _ _ (by omega), e5, um_s]
    · intro i i0 i1
      rw [← hx, h7 _ _ (by omega) (by omega), h4 _ _ (by omega) (by omega)]
      exact xl i i0 i1
  have g7 : fC t m m7 := g4.tr fun y k _ _ hy => h7 y k (by omega) (by omega)
  exact hh.o (c49 S7 (kk.mv g7))
/-- an opening(43) -/
theorem c43 {pl : Int} {K Z : Int → Mm → Prop} (hh : KH K Z) (S : StC f n B t m p) (h7 : m 3 7 = pl) (kk : OC f n t m K (rd1 f n B pl p)) : TrI 43 [(1, 3), (1, t)] m Z := by
  have I := S.2.2.2.1
  have I1 := I.1
  have I2 := I.2.1
  have ht := S.tt
  have hp := S.b
  unfold rd1 at kk
  refine e43 _ S.sh ?_
  rw [show m t 5 = B 578 from S.2.2.2.2.1.2.1]
  refine ⟨fun hB => ?_, fun hB => ?_⟩
  · rw [if_pos hB] at kk
    refine ⟨⟨I1.1, hB⟩, ?_⟩
    have sx := x_sh ht ⟨I1.1, hB⟩
    have br : ∀ {u3 u4 : aV} {sg s1 lp q : Int} {m : Mm}, StC f n B t m q → 0 ≤ sg ∧ sg < 10 → 0 ≤ s1 ∧ s1 ≤ 6 → (∀ i, 0 ≤ i → i < s1 → 97 ≤ f (lp + i) ∧ f (lp + i) ≤ 122) → m (t + 6 + 2 * B 578) 1 = sg → (∀ i, 0 ≤ i → i < s1 → m (t + 6 + 2 * B 578 + 1) i = f (lp + i)) → OC f n t m K (rd3 f n B sg lp s1 q) → X 43 93 [(1, 3), (1, t), (1, t + 6 + 2 * B 578), u3, u4] [(0, s1), (1, t + 6 + 2 * B 578)] m (qI Z) := fun a b c d e g k => c43b hh a hB b c d e g k
    obtain ⟨x, hx⟩ : ∃ x, x = t + 6 + 2 * B 578 := ⟨_, rfl⟩
    rw [← hx] at sx br ⊢
    refine s19 S fun m1 f1 S1 H1 => ?_
    have te := tk_e (f := f) hp.2.1
    have tw := tk_w (f := f) hp.2.1
    rw [H1.1, H1.2.2.2]
    refine ⟨fun h4 m2 e2 => ?_, fun h4 => ?_⟩
    · rw [if_pos h4] at kk
      have sv := tw.2.1 h4
      generalize (tk f n p).v = sg at *
      generalize (tk f n p).e = p2 at *
      unfold rd2 at kk
      have S2 : StC f n B t m2 p2 := S1.fw fun y k h => by rw [e2, um_n (by omega)]
      have g2 : fC t m m2 := f1.fC.tr fun y k _ _ h => by rw [e2, um_n (by omega)]
      have hp2 : 0 ≤ p2 ∧ p2 ≤ n := by omega
      have te2 := tk_e (f := f) hp2.2
      have tw2 := tk_w (f := f) hp2.2
      refine s19 S2 fun m3 f3 S3 H3 => ?_
      have x31 : m3 x 1 = sg := by rw [f3 _ _ (by omega), e2, um_s]
      rw [H3.1]
      refine ⟨fun h5 => ⟨fun _ => ?_, fun q => absurd h5 q⟩, fun h5 => ?_⟩
      · rw [if_pos h5] at kk
        exact br S3 sv ⟨Int.le_refl _, by decide⟩ (fun i i0 i1 => by omega) x31 (fun i i0 i1 => by omega) (kk.mv (g2.tr f3.fC))
      · rw [if_neg h5] at kk
        refine c44 (t := t) (L := 6) S3.1 hp2 H3 ⟨by omega, by omega, by omega, sx.2.1, sx.2.2.1, sx.2.2.2.1⟩ (by decide) (fun q => ?_) fun q1 q2 m4 f4 l4 => ?_
        · rw [if_neg q] at kk
          have kk' : FC t m Z 1 (tk f n p2).pl := hh.ft kk
          exact fun m' a b d => ⟨fun _ => kk' m' ((g2.tr f3.fC).tr a) b d, fun z => absurd rfl z⟩
        · rw [if_pos ⟨q1, q2⟩] at kk
          have b := tw2.1 q1
          have y6 : m4 3 6 = (tk f n p2).k := by rw [f4 _ _ (by omega)]; exact H3.1
          have y8 : m4 3 8 = (tk f n p2).sz := by rw [f4 _ _ (by omega)]; exact H3.2.2.1
          refine ⟨fun z => absurd z (by decide), fun _ => ?_⟩
          rw [y6, y8]
          refine ⟨fun z => absurd z h5, fun _ => ?_⟩
          have g4 : fC t m m4 := (g2.tr f3.fC).tr fun y k _ _ h => f4 y k (by omega)
          exact br (S3.fw fun y k h => f4 y k (by omega)) sv ⟨by omega, q2⟩ (fun i i0 i1 => b.2.2 _ (by omega) (by omega)) (by rw [f4 _ _ (by omega)]; exact x31) l4 (kk.mv g4)
    · rw [if_neg h4] at kk
      have kk' : FC t m Z 1 (tk f n p).pl := hh.ft kk
      exact c42 (t := t) H1.2.1 (FC.w fun m' a b d => kk' m' (f1.fC.tr a) b d)
  · rw [if_neg hB] at kk
    have kk' : FC t m Z 2 pl := hh.ft kk
    exact c42 (t := t) h7 (FC.w kk')
/-- an entry(50) -/
theorem c50 {pl : Int} {K Z : Int → Mm → Prop} (hh : KH K Z) (S : StC f n B t m p) (h7 : m 3 7 = pl) (kk : OC f n t m K (en1 f n B pl p)) : TrI 50 [(1, 3), (1, t)] m Z := by
  have I := S.2.2.2.1
  have I1 := I.1
  have I2 := I.2.1
  have ht := S.tt
  have hp := S.b
  unfold en1 at kk
  refine e50 _ S.sh ?_
  rw [show m t 6 = B 579 from S.2.2.2.2.1.2.2.1]
  refine ⟨fun hB => ?_, fun hB => ?_⟩
  · rw [if_pos hB] at kk
    refine ⟨⟨I2.1, hB⟩, ?_⟩
    have sx := x_sh ht ⟨I2.1, hB⟩
    obtain ⟨x, hx⟩ : ∃ x, x = t + 54 + 2 * B 579 := ⟨_, rfl⟩
    rw [← hx] at sx ⊢
    refine s19 S fun m1 f1 S1 H1 => ?_
    have te := tk_e (f := f) hp.2.1
    have tw := tk_w (f := f) hp.2.1
    refine c44 (t := t) (L := 8) S1.1 ⟨hp.1, hp.2.1⟩ H1 ⟨by omega, by omega, by omega, sx.2.2.2.2.2.1, sx.2.2.2.2.2.2.1, sx.2.2.2.2.2.2.2⟩ (by decide) (fun q => ?_) fun q1 z8 m2 f2 l2 => ?_
    · rw [if_neg q] at kk
      have kk' : FC t m Z 1 (tk f n p).pl := hh.ft kk
      exact fun m' a b d => ⟨fun _ => kk' m' (f1.fC.tr a) b d, fun z => absurd rfl z⟩
    rw [if_pos ⟨q1, z8⟩] at kk
    have b := tw.1 q1
    have y8 : m2 3 8 = (tk f n p).sz := by rw [f2 _ _ (by omega)]; exact H1.2.2.1
    refine ⟨fun z => absurd z (by decide), fun _ => ?_⟩
    rw [y8]
    intro m3 e3
    have S2 := S1.fw (m' := m2) fun y k h => f2 y k (by omega)
    have S3 : StC f n B t m3 (tk f n p).e := S2.fw fun y k h => by rw [e3, um_n (by omega)]
    have g3 : fC t m m3 := f1.fC.tr fun y k _ _ h => by rw [e3, um_n (by omega), f2 _ _ (by omega)]
    generalize (tk f n p).sz = sz at *
    generalize (tk f n p).pl = lp at *
    generalize (tk f n p).e = p2 at *
    have hp2 : 0 ≤ p2 ∧ p2 ≤ n := by omega
    unfold en2 at kk
    refine s19 S3 fun m4 f4 S4 H4 => ?_
    have te2 := tk_e (f := f) hp2.2
    refine c51 H4.1 H4.2.2.2 hp2.2 ?_
    intro m5 e5
    have S5 : StC f n B t m5 (tk f n p2).e := S4.fw fun y k h => by rw [e5, um_n (by omega)]
    have g5 : fC t m m5 := (g3.tr f4.fC).tr fun y k _ _ h => by rw [e5, um_n (by omega)]
    have x52 : m5 x 2 = kdS (tk f n p2) := by rw [e5, um_s]
    rw [x52]
    refine ⟨fun h => ?_, fun h => ?_⟩
    · rw [if_pos h] at kk
      have kk' : FC t m Z 1 (tk f n p2).pl := hh.ft kk
      exact c42 (t := t) (by rw [e5, um_n (by omega)]; exact H4.2.1) (FC.w fun m' a b d => kk' m' (g5.tr a) b d)
    rw [if_neg h] at kk
    have kr : kdS (tk f n p2) < 5 := by
      unfold kdS
      split <;> omega
    generalize kdS (tk f n p2) = kd at *
    generalize (tk f n p2).e = p3 at *
    have hp3 : 0 ≤ p3 ∧ p3 ≤ n := by omega
    unfold en3 nuS at kk
    refine s19 S5 fun m6 f6 S6 H6 => ?_
    have te3 := tk_e (f := f) hp3.2
    have tw3 := tk_w (f := f) hp3.2
    have g6 : fC t m m6 := g5.tr f6.fC
    refine c46 (t := t) H6 (fun q => ?_) (fun q q2 => ?_) fun q q2 => ?_
    · rw [if_pos q] at kk
      have kk' : FC t m Z 1 (tk f n p3).pl := hh.ft kk
      exact fun m' a b d => ⟨fun _ => kk' m' (g6.tr a) b d, fun z => absurd rfl z⟩
    · rw [if_neg (fun z => z q), if_pos q2] at kk
      have kk' : FC t m Z 2 (tk f n p3).pl := hh.ft kk
      exact fun m' a b d => ⟨fun _ => kk' m' (g6.tr a) b d, fun z => absurd rfl z⟩
    rw [if_neg (fun z => z q), if_neg q2] at kk
    refine ⟨fun z => absurd z (by decide), fun _ => fun m7 e7 m8 e8 => ?_⟩
    have v9 := H6.2.2.2
    rw [v9] at e7
    have vb := tw3.2.2.1 q
    generalize (tk f n p3).v = v at *
    generalize (tk f n p3).e = p5 at *
    have t6 : m7 t 6 = B 579 := by
      rw [e7, um_n (by omega)]
      exact S6.2.2.2.2.1.2.2.1
    rw [t6, wrI (x := B 579 + 1) (by omega) (by omega)] at e8
    have h8 : ∀ y k, ¬ (y = t ∧ k = 6) → ¬ (y = x ∧ k = 3) → m8 y k = m6 y k := fun y k n1 n2 => by
      rw [e8, um_n n1, e7, um_n n2]
    have h6 : ∀ y k, y ≠ 3 → ¬ (y = x ∧ (k = 1 ∨ k = 2)) → m6 y k = m2 y k := fun y k n1 n2 => by
      rw [f6 _ _ (by omega), e5, um_n (by omega), f4 _ _ (by omega), e3, um_n (by omega)]
    have S8 : StC f n (enB f B lp sz kd v) t m8 p5 := by
      obtain ⟨⟨a, b', c, d, e⟩, g, g2, T⟩ := S6
      refine ⟨⟨by rw [h8 _ _ (by omega) (by omega)]; exact a, by rw [h8 _ _ (by omega) (by omega)]; exact b', by rw [h8 _ _ (by omega) (by omega)]; exact c, d, fun i i0 i1 => by rw [h8 _ _ (by omega) (by omega)]; exact e i i0 i1⟩, by rw [h8 _ _ (by omega) (by omega)]; exact g, by rw [h8 _ _ (by omega) (by omega)]; exact g2, ?_⟩
      refine T.en hB ⟨b.1, z8⟩ (by omega) (by omega) (fun i i0 i1 => b.2.2 _ (by omega) (by omega)) (fun y k hy => h8 y k (by omega) (by omega)) (by rw [e8, um_s]) ?_ ?_ ?_ ?_
      · rw [← hx, h8 _ _ (by omega) (by omega), f6 _ _ (by omega), e5, um_n (by omega), f4 _ _ (by omega), e3, um_s]
      · rw [← hx, h8 _ _ (by omega) (by omega), f6 _ _ (by omega)]
        exact x52
      · rw [← hx, e8, um_n (by omega), e7, um_s]
      · intro i i0 i1
        rw [← hx, h8 _ _ (by omega) (by omega), h6 _ _ (by omega) (by omega)]
        exact l2 i i0 i1
    have g8 : fC t m m8 := g6.tr fun y k _ _ hy => h8 y k (by omega) (by omega)
    exact hh.o (c49 S8 (kk.mv g8))
  · rw [if_neg hB] at kk
    have kk' : FC t m Z 2 pl := hh.ft kk
    exact c42 (t := t) h7 (FC.w kk')
end CLA
