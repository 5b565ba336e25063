/-! the reference reads a clause: readings -/
def lets (f : Int → Int) (lp b : Int) : Nat → Bk → Bk
  | 0, B => B
  | i + 1, B => bkU (b + i) (f (lp + i) - 97) (lets f lp b i B)
theorem lets_v {f : Int → Int} {lp b : Int} {B : Bk} {k : Int} : ∀ i : Nat, lets f lp b i B k = if b ≤ k ∧ k < b + i then f (lp + (k - b)) - 97 else B k := by
  intro i
  induction i with
  | zero => exact (if_neg (by omega)).symm
  | succ i ih =>
    show (if k = b + i then f (lp + i) - 97 else lets f lp b i B k) = _
    rw [ih]
    by_cases h : k = b + i
    · rw [if_pos h, if_pos (by omega), h, show b + (i : Int) - b = i by omega]
    · rw [if_neg h]
      by_cases h2 : b ≤ k ∧ k < b + i
      · rw [if_pos h2, if_pos (by omega)]
      · rw [if_neg h2, if_neg (by omega)]
section RRD
variable {f : Int → Int} {n p : Int} {B : Bk} {m m' : Mm} {K K' : Int → Mm → Prop}
theorem FR.z {c x : Int} {P : Int → Mm → Prop} (h : FR m K c x) (h0 : ∀ m', K 0 m' → K' 0 m') : FR m (fun v m' => (v = 0 → K' 0 m') ∧ (¬ v = 0 → P v m')) c x := fun m' a b d => ⟨fun _ => h0 m' (h m' a b d), fun q => absurd rfl q⟩
theorem wb {k : Int} (h : 0 ≤ k ∧ k < 583) : wr (wr (583 * 1) + k) = 583 + k := by
  rw [wrI (x := 583 * 1) (by decide) (by decide), wrI (by omega) (by omega)]
  omega
/-- the close -/
theorem c177e {u : aV} (S : StR f n B m p) (kk : OR f n m K (clo f n B p)) : X 177 84 [(1, 597), u] [(0, 1)] m (qI K) := by
  have rk := (rk_1 (tk_w (f := f) S.2.2.2.1.2).2.2.2.2).2.2.2.2.1
  unfold clo at kk
  refine w177_84 _ _ ⟨fun q => absurd q (by decide), fun _ => ?_⟩
  rw [S.2.1.2.1]
  refine ⟨fun q => ?_, fun q => ?_⟩
  · rw [if_pos (rk.mp q)] at kk
    exact s170 S fun m1 f1 S1 => kk m1 f1.R S1
  · rw [if_neg (fun z => q (rk.mpr z))] at kk
    have kk' : FR m K 1 (tk f n p).pl := kk
    exact FR.at kk' S.2.1.1
theorem rd_pt {sg lp sz c0 c1 v : Int} (hB : 0 ≤ B 578 ∧ B 578 < 24) (hz : 0 ≤ sz ∧ sz ≤ 6) (k : Int) : rdB f B sg lp sz c0 c1 v k = bkU 578 (B 578 + 1) (bkU (11 * B 578 + 4) v (bkU (11 * B 578 + 3) c1 (bkU (11 * B 578 + 2) c0 (lets f lp (11 * B 578 + 5) sz.toNat (bkU (11 * B 578 + 1) sz (bkU (11 * B 578) sg B)))))) k := by
  unfold rdB bkU
  rw [lets_v, Int.toNat_of_nonneg hz.1]
  generalize B 578 = R at *
  by_cases h1 : k = 578
  · rw [if_pos h1, if_pos h1]
  · rw [if_neg h1, if_neg h1]
    by_cases h2 : k = 11 * R
    · rw [if_pos h2, if_neg (by omega), if_neg (by omega), if_neg (by omega), if_neg (by omega), if_neg (by omega), if_pos h2]
    · rw [if_neg h2]
      by_cases h3 : k = 11 * R + 1
      · rw [if_pos h3, if_neg (by omega), if_neg (by omega), if_neg (by omega), if_neg (by omega), if_pos h3]
      · rw [if_neg h3]
        by_cases h4 : k = 11 * R + 2
        · rw [if_pos h4, if_neg (by omega), if_neg (by omega), if_pos h4]
        · rw [if_neg h4]
          by_cases h5 : k = 11 * R + 3
          · rw [if_pos h5, if_neg (by omega), if_pos h5]
          · rw [if_neg h5]
            by_cases h6 : k = 11 * R + 4
            · rw [if_pos h6, if_pos h6]
            · rw [if_neg h6, if_neg h6, if_neg h5, if_neg h4]
              by_cases h7 : 11 * R + 5 ≤ k ∧ k < 11 * R + 5 + sz
              · rw [if_pos h7, if_pos h7]
              · rw [if_neg h7, if_neg h7, if_neg h3, if_neg h2]
theorem c180b {sg : Int} {u : aV} (hB : 0 ≤ B 578 ∧ B 578 < 24) (S : StR f n (bkU (11 * B 578) sg B) m p) (h2 : (tk f n p).k = 5 ∨ ((tk f n p).k = 2 ∧ (tk f n p).sz ≤ 6)) (h0 : ∀ m', K 0 m' → K' 0 m') (h1 : ∀ B' e m', StR f n B' m' e → OR f n m' K (clo f n B' e) → K' 1 m') (kk : OR f n m K (rd3 f n B sg (tk f n p).pl (if (tk f n p).k = 5 then 0 else (tk f n p).sz) (tk f n p).e)) : X 180 86 [(1, 597), (0, 11 * B 578), u] [] m (qI K') := by
  have tw := tk_w (f := f) S.2.2.2.1.2
  have rk := rk_1 tw.2.2.2.2
  have rk6 := rk.2.2.2.1
  have rk2 := rk.2.2.2.2.2.1
  have tw1 := tw.1
  have hp := S.2.2.2.1
  clear tw rk
  obtain ⟨sz, hsz⟩ : ∃ sz, sz = if (tk f n p).k = 5 then 0 else (tk f n p).sz := ⟨_, rfl⟩
  have zr : 0 ≤ sz ∧ sz ≤ 6 := by
    by_cases c : (tk f n p).k = 5
    · rw [if_pos c] at hsz
      omega
    · rw [if_neg c] at hsz
      have := tw1 (by omega)
      omega
  rw [← hsz] at kk
  obtain ⟨R, hR⟩ : ∃ R, R = B 578 := ⟨_, rfl⟩
  have H5 := S.2.1.2.2.2.2
  have lt : ∀ i, 0 ≤ i → i < sz → m 601 i = f ((tk f n p).pl + i) - 97 := fun i i0 i1 => by
    by_cases c : (tk f n p).k = 5
    · rw [if_pos c] at hsz
      omega
    · rw [if_neg c] at hsz
      exact (H5 (rk2.mpr ⟨by omega, by omega⟩)).2 i i0 (by omega)
  -- what follows the letters
  have body : ∀ m1, fRf m m1 → StR f n (bkU (11 * R + 1) sz (bkU (11 * R) sg B)) m1 p → (∀ i, 0 ≤ i → i < sz → m1 601 i = f ((tk f n p).pl + i) - 97) → X 180 112 [(1, 597), (0, 11 * R), (0, 0)] [] m1 (qI K') := by
    intro m1 g1 S1 l1
    have tail : ∀ m2, fRf m m2 → StR f n (lets f (tk f n p).pl (11 * R + 5) sz.toNat (bkU (11 * R + 1) sz (bkU (11 * R) sg B))) m2 p → TrV 170 [(1, 597)] m2 fun m5 => TrI 183 [(1, 597), (0, 8), (0, (-1))] m5 fun v9 m7 => (v9 = 0 → K' 0 m7) ∧ (¬ v9 = 0 → (0 ≤ (wr ((wr (583 * (m7 597 16))) + (wr (11 * R + 2)))) ∧ (wr ((wr (583 * (m7 597 16))) + (wr (11 * R + 2)))) < 1166) ∧ ∀ m14, m14 = umem m7 602 (wr ((wr (583 * (m7 597 16))) + (wr (11 * R + 2)))) (m7 597 14) → TrI 183 [(1, 597), (0, 11), (0, 12)] m14 fun v18 m16 => (v18 = 0 → K' 0 m16) ∧ (¬ v18 = 0 → (0 ≤ (wr ((wr (583 * (m16 597 16))) + (wr (11 * R + 3)))) ∧ (wr ((wr (583 * (m16 597 16))) + (wr (11 * R + 3)))) < 1166) ∧ ∀ m23, m23 = umem m16 602 (wr ((wr (583 * (m16 597 16))) + (wr (11 * R + 3)))) (m16 597 14) → TrI 184 [(1, 597), (0, 999)] m23 fun v27 m25 => (v27 = 0 → K' 0 m25) ∧ (¬ v27 = 0 → (0 ≤ (wr ((wr (583 * (m25 597 16))) + (wr (11 * R + 4)))) ∧ (wr ((wr (583 * (m25 597 16))) + (wr (11 * R + 4)))) < 1166) ∧ ∀ m32, m32 = umem m25 602 (wr ((wr (583 * (m25 597 16))) + (wr (11 * R + 4)))) (m25 597 14) → m32 597 16 = 1 ∧ (0 ≤ (wr ((wr (583 * (m32 597 16))) + 578)) ∧ (wr ((wr (583 * (m32 597 16))) + 578)) < 1166) ∧ ∀ m38, m38 = umem m32 602 (wr ((wr (583 * (m32 597 16))) + 578)) (wr ((m32 602 1161) + 1)) → K' 1 m38))) := by
      intro m2 g2 S2
      have q2 : wr (11 * R + 2) = 11 * R + 2 := wrI (by omega) (by omega)
      have q3 : wr (11 * R + 3) = 11 * R + 3 := wrI (by omega) (by omega)
      have q4 : wr (11 * R + 4) = 11 * R + 4 := wrI (by omega) (by omega)
      rw [q2, q3, q4]
      clear q2 q3 q4
      unfold rd3 at kk
      refine s170 S2 fun m3 f3 S3 => ?_
      have te := tk_e (f := f) S3.2.2.2.1.2
      have g3 := g2.tr f3.R
      refine c183 (who := 0) (Or.inl ⟨rfl, rfl, rfl⟩) S3 (fun c => ?_) fun c m4 g4 S4 y4 => ?_
      · rw [if_pos c] at kk
        have kk' : FR m K 1 (tk f n (tk f n p).e).pl := kk
        exact FR.z (kk'.mv g3) h0
      rw [if_neg c] at kk
      clear c
      generalize (tk f n p).e = p3 at *
      generalize cdS f 0 (tk f n p3) = c0 at *
      refine ⟨fun q => absurd q (by decide), fun _ => ?_⟩
      rw [S4.2.2.1.1, wb (k := 11 * R + 2) (by omega), y4]
      refine ⟨by omega, fun m5 e5 => ?_⟩
      obtain ⟨S5, g5⟩ := S4.wr (q := 11 * R + 2) (by omega) e5
      unfold rd4 at kk
      refine c183 (who := 1) (Or.inr ⟨rfl, rfl, rfl⟩) S5 (fun c => ?_) fun c m6 g6 S6 y6 => ?_
      · rw [if_pos c] at kk
        have kk' : FR m K 1 (tk f n (tk f n p3).e).pl := kk
        exact FR.z (kk'.mv ((g3.tr g4).tr g5)) h0
      rw [if_neg c] at kk
      clear c
      generalize (tk f n p3).e = p4 at *
      generalize cdS f 1 (tk f n p4) = c1 at *
      refine ⟨fun q => absurd q (by decide), fun _ => ?_⟩
      rw [S6.2.2.1.1, wb (k := 11 * R + 3) (by omega), y6]
      refine ⟨by omega, fun m7 e7 => ?_⟩
      obtain ⟨S7, g7⟩ := S6.wr (q := 11 * R + 3) (by omega) e7
      have gg7 : fRf m m7 := (((g3.tr g4).tr g5).tr g6).tr g7
      unfold rd5 nuS at kk
      refine c184 (by decide) S7 (fun c => ?_) (fun c c' => ?_) fun c c' m8 g8 S8 y8 => ?_
      · rw [if_pos c] at kk
        have kk' : FR m K 1 (tk f n (tk f n p4).e).pl := kk
        exact FR.z (kk'.mv gg7) h0
      · rw [if_neg (fun z => z c), if_pos c'] at kk
        have kk' : FR m K 2 (tk f n (tk f n p4).e).pl := kk
        exact FR.z (kk'.mv gg7) h0
      rw [if_neg (fun z => z c), if_neg c'] at kk
      generalize (tk f n p4).e = p5 at *
      generalize (tk f n p5).v = v at *
      refine ⟨fun q => absurd q (by decide), fun _ => ?_⟩
      rw [S8.2.2.1.1, wb (k := 11 * R + 4) (by omega), y8]
      refine ⟨by omega, fun m9 e9 => ?_⟩
      obtain ⟨S9, g9⟩ := S8.wr (q := 11 * R + 4) (by omega) e9
      have b9 : m9 602 1161 = R := by
        have := S9.2.2.1.2.1 578 (by decide) (by decide)
        rw [bkU_n (by omega), bkU_n (by omega), bkU_n (by omega), lets_v, if_neg (by omega), bkU_n (by omega), bkU_n (by omega), ← hR] at this
        exact this
      rw [S9.2.2.1.1, wb (k := 578) (by decide), b9, wrI (x := R + 1) (by omega) (by omega)]
      refine ⟨rfl, by decide, fun m10 e10 => ?_⟩
      obtain ⟨S10, g10⟩ := S9.wr (q := 578) (by decide) e10
      have S11 : StR f n (rdB f B sg (tk f n p).pl sz c0 c1 v) m10 (tk f n p5).e := S10.eq fun k _ => by
        rw [hR]
        exact rd_pt hB zr k
      exact h1 _ _ _ S11 (OR.mv (r := clo f n (rdB f B sg (tk f n p).pl sz c0 c1 v) (tk f n p5).e) kk (((gg7.tr g8).tr g9).tr g10))
    have loop : ∀ (d i : Nat) (m2 : Mm), i + d = sz.toNat → fRf m m2 → StR f n (lets f (tk f n p).pl (11 * R + 5) i (bkU (11 * R + 1) sz (bkU (11 * R) sg B))) m2 p → (∀ j, 0 ≤ j → j < sz → m2 601 j = f ((tk f n p).pl + j) - 97) → X 180 112 [(1, 597), (0, 11 * R), (0, (i : Int))] [] m2 (qI K') := by
      intro d
      induction d with
      | zero =>
        intro i m2 hi g2 S2 l2
        have bz : m2 602 (583 + (11 * R + 1)) = sz := by
          have := S2.2.2.1.2.1 (11 * R + 1) (by omega) (by omega)
          rw [lets_v, if_neg (by omega), bkU_s] at this
          exact this
        refine w180_112 _ _ ?_
        rw [wrI (x := 11 * R + 1) (by omega) (by omega), bz]
        refine ⟨⟨S2.2.2.1.1, by omega, by omega⟩, fun q => absurd q (by omega), fun _ => ?_⟩
        have := tail m2 g2 (by rw [show sz.toNat = i by omega]; exact S2)
        exact this
      | succ d ih =>
        intro i m2 hi g2 S2 l2
        have bz : m2 602 (583 + (11 * R + 1)) = sz := by
          have := S2.2.2.1.2.1 (11 * R + 1) (by omega) (by omega)
          rw [lets_v, if_neg (by omega), bkU_s] at this
          exact this
        have a5 : wr (wr (11 * R + 5) + (i : Int)) = 11 * R + 5 + i := by rw [wrI (x := 11 * R + 5) (by omega) (by omega), wrI (by omega) (by omega)]
        refine w180_112 _ _ ?_
        rw [wrI (x := 11 * R + 1) (by omega) (by omega), bz, a5, S2.2.2.1.1, wb (k := 11 * R + 5 + i) (by omega), l2 i (by omega) (by omega), wrI (x := (i : Int) + 1) (by omega) (by omega)]
        clear a5
        refine ⟨⟨rfl, by omega, by omega⟩, fun _ => ⟨by omega, by omega, fun m3 e3 => ?_⟩, fun q => absurd (show (i : Int) < sz by omega) q⟩
        obtain ⟨S3, g3⟩ := S2.wr (q := 11 * R + 5 + i) (by omega) e3
        exact ih (i + 1) m3 (by omega) (g2.tr g3) S3 fun j j0 j1 => by rw [e3, um_x (by decide)]; exact l2 j j0 j1
    exact loop sz.toNat 0 m1 (by omega) g1 S1 l1
  rw [← hR] at S ⊢
  refine w180_86 _ _ ?_
  rw [S.2.1.2.1, S.2.2.1.1, wrI (x := 11 * R + 1) (by omega) (by omega), wb (k := 11 * R + 1) (by omega)]
  refine ⟨fun q => ⟨by omega, fun m1 e1 => ?_⟩, fun q => ⟨by omega, fun m1 e1 => ?_⟩⟩
  · rw [if_pos (rk6.mp q)] at hsz
    obtain ⟨S1, g1⟩ := S.wr (q := 11 * R + 1) (by omega) e1
    rw [← hsz] at S1
    exact body m1 g1 S1 fun i i0 i1 => by omega
  · have c : ¬ (tk f n p).k = 5 := fun z => q (rk6.mpr z)
    rw [if_neg c] at hsz
    have z13 := (H5 (rk2.mpr ⟨by omega, by omega⟩)).1
    rw [z13, ← hsz] at e1
    obtain ⟨S1, g1⟩ := S.wr (q := 11 * R + 1) (by omega) e1
    exact body m1 g1 S1 fun i i0 i1 => by rw [e1, um_x (by decide)]; exact lt i i0 i1
/-- a reading(180) -/
theorem c180 (I : BI B) (S : StR f n B m p) (h0 : ∀ m', K 0 m' → K' 0 m') (h1 : ∀ B' e m', StR f n B' m' e → OR f n m' K (clo f n B' e) → K' 1 m') (kk : OR f n m K (rd1 f n B (tk f n p).pl (tk f n p).e)) : TrI 180 [(1, 597)] m K' := by
  have I1 := I.1
  have b1 : m 602 1161 = B 578 := S.2.2.1.2.1 578 (by decide) (by decide)
  unfold rd1 at kk
  refine e180 ?_
  rw [b1]
  refine ⟨S.2.2.1.1, fun q => ?_, fun q => ⟨S.2.2.1.1, ?_⟩⟩
  · rw [if_neg (by omega)] at kk
    have kk' : FR m K 2 (tk f n p).pl := kk
    exact fun m1 e1 m2 e2 => h0 _ (FR.at kk' S.2.1.1 m1 e1 m2 e2)
  rw [if_pos (by omega)] at kk
  rw [wrI (x := 11 * B 578) (by omega) (by omega)]
  refine s170 S fun m1 f1 S1 => ?_
  generalize (tk f n p).e = p2 at *
  have tw := tk_w (f := f) S1.2.2.2.1.2
  have rk := rk_1 tw.2.2.2.2
  rw [S1.2.1.2.1, S1.2.2.1.1, wb (k := 11 * B 578) (by omega)]
  refine ⟨fun q4 => ⟨by omega, fun m2 e2 => ?_⟩, fun q4 => ?_⟩
  · have k4 := rk.2.2.1.mp q4
    rw [if_pos k4] at kk
    rw [S1.2.1.2.2.1 (Or.inr k4)] at e2
    obtain ⟨S2, g2⟩ := S1.wr (q := 11 * B 578) (by omega) e2
    unfold rd2 at kk
    refine s170 S2 fun m3 f3 S3 => ?_
    have g3 : fRf m m3 := (f1.R.tr g2).tr f3.R
    generalize (tk f n p2).v = sg at *
    generalize (tk f n p2).e = p3 at *
    clear tw rk
    have tw := tk_w (f := f) S3.2.2.2.1.2
    have rk := rk_1 tw.2.2.2.2
    rw [S3.2.1.2.1]
    have bd : ∀ {c : Prop}, (¬ (tk f n p3).k = 5 → ¬ ((tk f n p3).k = 2 ∧ (tk f n p3).sz ≤ 6) → FR m K 1 (tk f n p3).pl) := fun {c} a b => by
      rw [if_neg a, if_neg b] at kk
      exact kk
    refine ⟨fun q5 => ?_, fun q5 => ⟨fun q6 => ⟨fun q7 => ?_, fun q7 => ?_⟩, fun q6 => ?_⟩⟩
    · have k5 := rk.2.2.2.1.mp q5
      rw [if_pos k5] at kk
      exact c180b ⟨I1.1, by omega⟩ S3 (Or.inl k5) h0 h1 (by rw [if_pos k5]; exact kk.mv g3)
    · have k2 := rk.2.2.2.2.2.1.mp q6
      have z := (S3.2.1.2.2.2.2 q6).1
      have kk' := bd (c := True) (by omega) (by omega)
      exact fun m4 e4 m5 e5 => h0 _ (FR.at (kk'.mv g3) S3.2.1.1 m4 e4 m5 e5)
    · have k2 := rk.2.2.2.2.2.1.mp q6
      have z := (S3.2.1.2.2.2.2 q6).1
      have c2 : (tk f n p3).k = 2 ∧ (tk f n p3).sz ≤ 6 := by omega
      have c5 : ¬ (tk f n p3).k = 5 := by omega
      rw [if_neg c5, if_pos c2] at kk
      exact c180b ⟨I1.1, by omega⟩ S3 (Or.inr c2) h0 h1 (by rw [if_neg c5]; exact kk.mv g3)
    · have kk' := bd (c := True) (fun z => q5 (rk.2.2.2.1.mpr z)) (fun z => q6 (rk.2.2.2.2.2.1.mpr ⟨z.1, by omega⟩))
      exact fun m4 e4 m5 e5 => h0 _ (FR.at (kk'.mv g3) S3.2.1.1 m4 e4 m5 e5)
  · rw [if_neg (fun z => q4 (rk.2.2.1.mpr z))] at kk
    have kk' : FR m K 1 (tk f n p2).pl := kk
    exact fun m4 e4 m5 e5 => h0 _ (FR.at (kk'.mv f1.R) S1.2.1.1 m4 e4 m5 e5)
end RRD
