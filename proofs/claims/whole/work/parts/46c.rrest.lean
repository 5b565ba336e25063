/-! the reference reads a clause: entries, pairs, settings, the clause -/
section RRE
variable {f : Int → Int} {n p : Int} {B : Bk} {m m' : Mm} {K K' : Int → Mm → Prop}
theorem en_pt {lp sz kd v : Int} (hB : 0 ≤ B 579 ∧ B 579 < 24) (hz : 0 ≤ sz ∧ sz ≤ 8) (k : Int) : enB f B lp sz kd v k = bkU 579 (B 579 + 1) (bkU (264 + 11 * B 579 + 2) v (bkU (264 + 11 * B 579 + 1) kd (lets f lp (264 + 11 * B 579 + 3) sz.toNat (bkU (264 + 11 * B 579) sz B)))) k := by
  unfold enB bkU
  rw [lets_v, Int.toNat_of_nonneg hz.1]
  generalize B 579 = R at *
  by_cases h1 : k = 579
  · rw [if_pos h1, if_pos h1]
  · rw [if_neg h1, if_neg h1]
    by_cases h2 : k = 264 + 11 * R
    · rw [if_pos h2, if_neg (by omega), if_neg (by omega), if_neg (by omega), if_pos h2]
    · rw [if_neg h2]
      by_cases h4 : k = 264 + 11 * R + 1
      · rw [if_pos h4, if_neg (by omega), if_pos h4]
      · rw [if_neg h4]
        by_cases h6 : k = 264 + 11 * R + 2
        · rw [if_pos h6, if_pos h6]
        · rw [if_neg h6, if_neg h6, if_neg h4]
          by_cases h7 : 264 + 11 * R + 3 ≤ k ∧ k < 264 + 11 * R + 3 + sz
          · rw [if_pos h7, if_pos h7]
          · rw [if_neg h7, if_neg h7, if_neg h2]
/-- an entry(185) -/
theorem c185 (I : BI B) (S : StR f n B m p) (h0 : ∀ m', K 0 m' → K' 0 m') (h1 : ∀ B' e m', StR f n B' m' e → OR f n m' K (clo f n B' e) → K' 1 m') (kk : OR f n m K (en1 f n B (tk f n p).pl (tk f n p).e)) : TrI 185 [(1, 597)] m K' := by
  have I2 := I.2.1
  have b1 : m 602 1162 = B 579 := S.2.2.1.2.1 579 (by decide) (by decide)
  unfold en1 at kk
  refine e185 ?_
  rw [b1]
  refine ⟨S.2.2.1.1, fun q => ?_, fun q => ⟨S.2.2.1.1, ?_⟩⟩
  · rw [if_neg (by omega)] at kk
    have kk' : FR m K 2 (tk f n p).pl := kk
    exact fun m1 e1 m2 e2 => h0 _ (FR.at kk' S.2.1.1 m1 e1 m2 e2)
  rw [if_pos (by omega)] at kk
  have hB : 0 ≤ B 579 ∧ B 579 < 24 := by omega
  obtain ⟨R, hR⟩ : ∃ R, R = B 579 := ⟨_, rfl⟩
  rw [← hR] at hB ⊢
  rw [wrI (x := 11 * R) (by omega) (by omega), wrI (x := 264 + 11 * R) (by omega) (by omega)]
  refine s170 S fun m1 f1 S1 => ?_
  generalize (tk f n p).e = p2 at *
  have rk2 := (rk_1 (tk_w (f := f) S1.2.2.2.1.2).2.2.2.2).2.2.2.2.2.1
  have tw1 := (tk_w (f := f) S1.2.2.2.1.2).1
  rw [S1.2.1.2.1, S1.2.2.1.1, wb (k := 264 + 11 * R) (by omega)]
  refine ⟨fun q4 => ⟨by omega, fun m2 e2 => ?_⟩, fun q4 => ?_⟩
  · have k2 := rk2.mp q4
    rw [if_pos k2] at kk
    obtain ⟨z13, l601⟩ := S1.2.1.2.2.2.2 q4
    have zr := tw1 k2.1
    rw [z13] at e2
    obtain ⟨S2, g2⟩ := S1.wr (q := 264 + 11 * R) (by omega) e2
    obtain ⟨sz, hsz⟩ : ∃ sz, sz = (tk f n p2).sz := ⟨_, rfl⟩
    rw [← hsz] at kk l601 S2 k2 z13 zr
    have l2 : ∀ i, 0 ≤ i → i < sz → m2 601 i = f ((tk f n p2).pl + i) - 97 := fun i i0 i1 => by rw [e2, um_x (by decide)]; exact l601 i i0 i1
    have z2 : m2 597 13 = sz := by rw [e2, um_x (by decide)]; exact z13
    have gg2 : fRf m m2 := f1.R.tr g2
    have loop : ∀ (d i : Nat) (m3 : Mm), i + d = sz.toNat → fRf m m3 → StR f n (lets f (tk f n p2).pl (264 + 11 * R + 3) i (bkU (264 + 11 * R) sz B)) m3 p2 → (∀ j, 0 ≤ j → j < sz → m3 601 j = f ((tk f n p2).pl + j) - 97) → m3 597 13 = sz → X 185 56 [(1, 597), (0, 264 + 11 * R), (0, (i : Int))] [] m3 (qI K') := by
      intro d
      induction d with
      | zero =>
        intro i m3 hi g3 S3 l3 z3
        have q1 : wr (264 + 11 * R + 1) = 264 + 11 * R + 1 := wrI (by omega) (by omega)
        have q2 : wr (264 + 11 * R + 2) = 264 + 11 * R + 2 := wrI (by omega) (by omega)
        refine w185_56 _ _ ?_
        rw [q1, q2, z3]
        clear q1 q2
        refine ⟨fun q => absurd q (by omega), fun _ => ?_⟩
        unfold en2 at kk
        refine s170 S3 fun m4 f4 S4 => ?_
        have g4 := g3.tr f4.R
        have pe : (tk f n p2).e = (tk f n p2).e := rfl
        refine c187 S4 (fun c => ?_) fun c m5 g5 S5 y5 => ?_
        · rw [if_pos c] at kk
          have kk' : FR m K 1 (tk f n (tk f n p2).e).pl := kk
          exact FR.z (kk'.mv g4) h0
        rw [if_neg c] at kk
        have kl := kd_lt (T := tk f n (tk f n p2).e)
        generalize kdS (tk f n (tk f n p2).e) = kd at *
        generalize (tk f n (tk f n p2).e).e = p4 at *
        refine ⟨fun q => absurd q (by decide), fun _ => ?_⟩
        rw [S5.2.2.1.1, wb (k := 264 + 11 * R + 1) (by omega), y5, wrI (x := 13 + kd - 13) (by omega) (by omega), show 13 + kd - 13 = kd by omega]
        refine ⟨by omega, fun m6 e6 => ?_⟩
        obtain ⟨S6, g6⟩ := S5.wr (q := 264 + 11 * R + 1) (by omega) e6
        have gg6 : fRf m m6 := (g4.tr g5).tr g6
        unfold en3 nuS at kk
        refine c184 (by decide) S6 (fun c => ?_) (fun c c' => ?_) fun c c' m8 g8 S8 y8 => ?_
        · rw [if_pos c] at kk
          have kk' : FR m K 1 (tk f n p4).pl := kk
          exact FR.z (kk'.mv gg6) h0
        · rw [if_neg (fun z => z c), if_pos c'] at kk
          have kk' : FR m K 2 (tk f n p4).pl := kk
          exact FR.z (kk'.mv gg6) h0
        rw [if_neg (fun z => z c), if_neg c'] at kk
        generalize (tk f n p4).v = v at *
        generalize (tk f n p4).e = p5 at *
        refine ⟨fun q => absurd q (by decide), fun _ => ?_⟩
        rw [S8.2.2.1.1, wb (k := 264 + 11 * R + 2) (by omega), y8]
        refine ⟨by omega, fun m9 e9 => ?_⟩
        obtain ⟨S9, g9⟩ := S8.wr (q := 264 + 11 * R + 2) (by omega) e9
        have b9 : m9 602 1162 = R := by
          have := S9.2.2.1.2.1 579 (by decide) (by decide)
          rw [bkU_n (by omega), bkU_n (by omega), lets_v, if_neg (by omega), bkU_n (by omega), ← hR] at this
          exact this
        rw [S9.2.2.1.1, wb (k := 579) (by decide), b9, wrI (x := R + 1) (by omega) (by omega)]
        refine ⟨rfl, by decide, fun m10 e10 => ?_⟩
        obtain ⟨S10, g10⟩ := S9.wr (q := 579) (by decide) e10
        have S11 : StR f n (enB f B (tk f n p2).pl sz kd v) m10 p5 := S10.eq fun k _ => by
          rw [show i = sz.toNat by omega, hR]
          exact en_pt (by omega) ⟨by omega, by omega⟩ k
        exact h1 _ _ _ S11 (OR.mv (r := clo f n (enB f B (tk f n p2).pl sz kd v) p5) kk (((gg6.tr g8).tr g9).tr g10))
      | succ d ih =>
        intro i m3 hi g3 S3 l3 z3
        have a5 : wr (wr (264 + 11 * R + 3) + (i : Int)) = 264 + 11 * R + 3 + i := by rw [wrI (x := 264 + 11 * R + 3) (by omega) (by omega), wrI (by omega) (by omega)]
        refine w185_56 _ _ ?_
        rw [a5, S3.2.2.1.1, wb (k := 264 + 11 * R + 3 + i) (by omega), l3 i (by omega) (by omega), wrI (x := (i : Int) + 1) (by omega) (by omega), z3]
        clear a5
        refine ⟨fun _ => ⟨by omega, by omega, fun m4 e4 => ?_⟩, fun q => absurd (show (i : Int) < sz by omega) q⟩
        obtain ⟨S4, g4⟩ := S3.wr (q := 264 + 11 * R + 3 + i) (by omega) e4
        exact ih (i + 1) m4 (by omega) (g3.tr g4) S4 (fun j j0 j1 => by rw [e4, um_x (by decide)]; exact l3 j j0 j1) (by rw [e4, um_x (by decide)]; exact z3)
    exact loop sz.toNat 0 m2 (by omega) gg2 S2 l2 z2
  · rw [if_neg (fun z => q4 (rk2.mpr z))] at kk
    have kk' : FR m K 1 (tk f n p2).pl := kk
    exact fun m4 e4 m5 e5 => h0 _ (FR.at (kk'.mv f1.R) S1.2.1.1 m4 e4 m5 e5)
/-- a bit of what was told is set -/
theorem bit_up {x j i : Int} (hj : 0 ≤ j ∧ j < 25) (hi : 0 ≤ i ∧ i < 25) : iand (ishr (ior x (ishl 1 j)) i) 1 = 1 ↔ (i = j ∨ iand (ishr x i) 1 = 1) := by
  have sh : ∀ n : Nat, n < 25 → ∀ e : Nat, e < 25 → (i3 (ishl 1 n)).toBitVec.getLsbD e = decide (e = n) := by decide +kernel
  obtain ⟨a, rfl⟩ := Int.eq_ofNat_of_zero_le hj.1
  obtain ⟨b, rfl⟩ := Int.eq_ofNat_of_zero_le hi.1
  rw [bit_of (by omega), bit_of (by omega), bit_or, sh a (by omega) b (by omega), Bool.or_eq_true_iff, decide_eq_true_eq]
  constructor
  · rintro (h | h)
    · exact Or.inr h
    · exact Or.inl (by omega)
  · rintro (h | h)
    · exact Or.inr (by omega)
    · exact Or.inl h
theorem StR.told {q v : Int} (S : StR f n B m p) (hq : (q = 17 ∧ ∃ i, (0 ≤ i ∧ i < 3) ∧ v = ior (m 597 17) (ishl 1 i) ∧ ∃ j, j = 600 + i ∧ m' = umem m 597 17 v) ∨ (q = 18 ∧ ∃ i, (0 ≤ i ∧ i < 25) ∧ v = ior (m 597 18) (ishl 1 i) ∧ ∃ j, j = 610 + i ∧ m' = umem m 597 18 v)) : ∀ B', (∀ i, 0 ≤ i → i < 3 → (iand (ishr (m' 597 17) i) 1 = 1 ↔ B' (600 + i) = 1)) → (∀ i, 0 ≤ i → i < 25 → (iand (ishr (m' 597 18) i) 1 = 1 ↔ B' (610 + i) = 1)) → (∀ k, 0 ≤ k → k < 583 → B' k = B k) → StR f n B' m' p ∧ fRf m m' := by
  intro B' u1 u2 u3
  have e : ∀ x k, ¬ (x = 597 ∧ (k = 17 ∨ k = 18)) → m' x k = m x k := fun x k h => by
    obtain ⟨-, i, -, -, j, -, e⟩ | ⟨-, i, -, -, j, -, e⟩ := hq
    · rw [e, um_n (by omega)]
    · rw [e, um_n (by omega)]
  clear hq
  obtain ⟨⟨a, b, c, d⟩, ⟨h1, h2, h3, h4, h5⟩, ⟨t1, t2, t3, t4⟩, g, g2, g3⟩ := S
  refine ⟨⟨⟨by rw [e _ _ (by decide)]; exact a, by rw [e _ _ (by decide)]; exact b, c, fun i i0 i1 => by rw [e _ _ (by omega)]; exact d i i0 i1⟩, ⟨by rw [e _ _ (by decide)]; exact h1, by rw [e _ _ (by decide)]; exact h2, fun q => by rw [e _ _ (by decide)]; exact h3 q, fun q => by rw [e _ _ (by decide)]; exact h4 q, fun q => ?_⟩, ⟨by rw [e _ _ (by decide)]; exact t1, fun k k0 k1 => by rw [e _ _ (by omega), u3 k k0 k1]; exact t2 k k0 k1, u1, u2⟩, g, by rw [e _ _ (by decide)]; exact g2, by rw [e _ _ (by decide)]; exact g3⟩, fun x k h _ _ => e x k (by omega)⟩
  rw [e _ _ (by decide)]
  exact ⟨(h5 q).1, fun i i0 i1 => by rw [e _ _ (by omega)]; exact (h5 q).2 i i0 i1⟩
theorem StR.t17 {i : Int} (S : StR f n B m p) (hi : 0 ≤ i ∧ i < 3) (e : m' = umem m 597 17 (ior (m 597 17) (ishl 1 i))) : StR f n (bkU (600 + i) 1 B) m' p ∧ fRf m m' := by
  refine S.told (q := 17) (Or.inl ⟨rfl, i, hi, rfl, _, rfl, e⟩) _ (fun k k0 k1 => ?_) (fun k k0 k1 => ?_) fun k k0 k1 => bkU_n (by omega)
  · rw [e, um_s, bit_up (by omega) (by omega), S.2.2.1.2.2.1 k k0 k1]
    by_cases hk : k = i
    · rw [hk, bkU_s]
      exact ⟨fun _ => rfl, fun _ => Or.inl rfl⟩
    · rw [bkU_n (by omega)]
      exact ⟨fun h => h.resolve_left hk, Or.inr⟩
  · rw [e, um_k (by decide), bkU_n (by omega)]
    exact S.2.2.1.2.2.2 k k0 k1
theorem StR.t18 {i : Int} (S : StR f n B m p) (hi : 0 ≤ i ∧ i < 25) (e : m' = umem m 597 18 (ior (m 597 18) (ishl 1 i))) : StR f n (bkU (610 + i) 1 B) m' p ∧ fRf m m' := by
  refine S.told (q := 18) (Or.inr ⟨rfl, i, hi, rfl, _, rfl, e⟩) _ (fun k k0 k1 => ?_) (fun k k0 k1 => ?_) fun k k0 k1 => bkU_n (by omega)
  · rw [e, um_k (by decide), bkU_n (by omega)]
    exact S.2.2.1.2.2.1 k k0 k1
  · rw [e, um_s, bit_up (by omega) (by omega), S.2.2.1.2.2.2 k k0 k1]
    by_cases hk : k = i
    · rw [hk, bkU_s]
      exact ⟨fun _ => rfl, fun _ => Or.inl rfl⟩
    · rw [bkU_n (by omega)]
      exact ⟨fun h => h.resolve_left hk, Or.inr⟩
/-- pairs(188): its argument is 1 where they agree, 0 where they are priced -/
theorem c188 {w : Int} (hw : w = 0 ∨ w = 1) (I : BI B) (S : StR f n B m p) (h0 : ∀ m', K 0 m' → K' 0 m') (h1 : ∀ B' e m', StR f n B' m' e → OR f n m' K (clo f n B' e) → K' 1 m') (kk : OR f n m K (paS f n B (1 - w) (tk f n p).e)) : TrI 188 [(1, 597), (0, w)] m K' := by
  unfold paS at kk
  refine e188 _ ?_
  refine s170 S fun m1 f1 S1 => ?_
  generalize (tk f n p).e = p2 at *
  refine c187 S1 (fun c => ?_) fun c m2 g2 S2 y2 => ?_
  · rw [if_pos c] at kk
    have kk' : FR m K 1 (tk f n p2).pl := kk
    exact FR.z (kk'.mv f1.R) h0
  rw [if_neg c] at kk
  have ka := kd_lt (T := tk f n p2)
  generalize kdS (tk f n p2) = a at *
  generalize (tk f n p2).e = p3 at *
  refine ⟨fun q => absurd q (by decide), fun _ => ?_⟩
  have gg2 : fRf m m2 := f1.R.tr g2
  have tw := tk_w (f := f) S2.2.2.2.1.2
  have rk1 := (rk_1 tw.2.2.2.2).1
  have tw4 := tw.2.2.2.1
  clear tw
  have bd1 : kdS (tk f n p3) < 0 → ∀ m4, m4 = umem m2 597 4 1 → ∀ m5, m5 = umem m4 597 5 (m2 597 11) → K' 0 m5 := fun q m4 e4 m5 e5 => by
    rw [if_pos q] at kk
    have kk' : FR m K 1 (tk f n p3).pl := kk
    exact h0 _ (FR.at (kk'.mv gg2) S2.2.1.1 m4 e4 m5 e5)
  rw [S2.2.1.2.1]
  refine ⟨fun q => ?_, fun q => bd1 (by unfold kdS; rw [if_neg (fun z => q (rk1.mpr z.1))]; decide)⟩
  have k1 := rk1.mp q
  have v1 := S2.2.1.2.2.1 (Or.inl k1)
  rw [v1, y2]
  refine ⟨fun q2 => ?_, fun q2 => bd1 (by unfold kdS; rw [if_neg (fun z => q2 z.2)]; decide)⟩
  have kb : kdS (tk f n p3) = (tk f n p3).v - 13 := by unfold kdS; rw [if_pos ⟨k1, q2⟩]
  rw [if_neg (by omega)] at kk
  rw [kb] at kk
  have pl3 := S2.2.1.1
  generalize (tk f n p3).v = V at *
  clear bd1 kb v1 tw4 rk1
  obtain ⟨j, hj⟩ : ∃ j, j = 5 * a + (V - 13) := ⟨_, rfl⟩
  simp only [← hj] at kk
  have j25 : 0 ≤ j ∧ j < 25 := by omega
  have wj : wr (wr (5 * wr (13 + a - 13)) + wr (V - 13)) = j := by
    rw [wrI (x := 13 + a - 13) (by omega) (by omega), wrI (x := V - 13) (by omega) (by omega), wrI (x := 5 * (13 + a - 13)) (by omega) (by omega), wrI (by omega) (by omega)]
    omega
  rw [wj]
  clear wj
  have I8 := I.2.2.2.2.2.2.2.1 j j25.1 j25.2
  have T2 := S2.2.2.1
  have w8 : wr (528 + j) = 528 + j := wrI (by omega) (by omega)
  have b8 : m2 602 (583 + (528 + j)) = B (528 + j) := T2.2.1 _ (by omega) (by omega)
  have b18 := T2.2.2.2 j j25.1 j25.2
  rw [w8, b8]
  clear w8
  refine ⟨fun hw0 => ?_, fun hw0 => ⟨⟨T2.1, by omega, by omega⟩, fun z => ?_, fun z => ?_⟩⟩
  · subst hw0
    rw [if_neg (by decide)] at kk
    refine ⟨fun z => ?_, fun z => ?_⟩
    · rw [if_pos (b18.mp z)] at kk
      have kk' : FR m K 3 (tk f n p3).pl := kk
      exact fun m4 e4 m5 e5 => h0 _ (FR.at (kk'.mv gg2) pl3 m4 e4 m5 e5)
    · rw [if_neg (fun y => z (b18.mpr y))] at kk
      refine w188_103 _ _ (s170 S2 fun m3 f3 S3 => ⟨fun _ m4 e4 => ?_, fun q => absurd rfl q⟩)
      obtain ⟨S4, g4⟩ := S3.t18 j25 e4
      have gg4 : fRf m m4 := (gg2.tr f3.R).tr g4
      generalize (tk f n p3).e = p4 at *
      unfold nuS at kk
      refine c184 (by decide) S4 (fun c => ?_) (fun c c' => ?_) fun c c' m8 g8 S8 y8 => ?_
      · rw [if_pos c] at kk
        have kk' : FR m K 1 (tk f n p4).pl := kk
        exact FR.z (kk'.mv gg4) h0
      · rw [if_neg (fun z => z c), if_pos c'] at kk
        have kk' : FR m K 2 (tk f n p4).pl := kk
        exact FR.z (kk'.mv gg4) h0
      rw [if_neg (fun z => z c), if_neg c'] at kk
      generalize (tk f n p4).v = v at *
      generalize (tk f n p4).e = p5 at *
      refine ⟨fun q => absurd q (by decide), fun _ => ?_⟩
      have w5 : wr (553 + j) = 553 + j := wrI (by omega) (by omega)
      rw [S8.2.2.1.1, w5, wb (k := 553 + j) (by omega), y8]
      clear w5
      refine ⟨by omega, fun m9 e9 => ?_⟩
      obtain ⟨S9, g9⟩ := S8.wr (q := 553 + j) (by omega) e9
      exact h1 _ _ _ S9 (OR.mv (r := clo f n (bkU (553 + j) v (bkU (610 + j) 1 B)) p5) kk ((gg4.tr g8).tr g9))
  · have hw1 : w = 1 := by omega
    subst hw1
    rw [if_pos (by decide), if_pos z] at kk
    have kk' : FR m K 3 (tk f n p3).pl := kk
    exact fun m4 e4 m5 e5 => h0 _ (FR.at (kk'.mv gg2) pl3 m4 e4 m5 e5)
  · have hw1 : w = 1 := by omega
    subst hw1
    rw [if_pos (by decide), if_neg z] at kk
    refine w188_103 _ _ (s170 S2 fun m3 f3 S3 => ⟨fun q => absurd q (by decide), fun _ => ?_⟩)
    have w8 : wr (528 + j) = 528 + j := wrI (by omega) (by omega)
    rw [S3.2.2.1.1, w8, wb (k := 528 + j) (by omega)]
    clear w8
    refine ⟨by omega, fun m4 e4 => ?_⟩
    obtain ⟨S4, g4⟩ := S3.wr (q := 528 + j) (by omega) e4
    exact h1 _ _ _ S4 (OR.mv (r := clo f n (bkU (528 + j) 1 B) (tk f n p3).e) kk ((gg2.tr f3.R).tr g4))
/-- a setting(189) -/
theorem c189 {i : Int} (hi : 0 ≤ i ∧ i < 3) (S : StR f n B m p) (h9 : m 597 10 = 4 + i) (h0 : ∀ m', K 0 m' → K' 0 m') (h1 : ∀ B' e m', StR f n B' m' e → OR f n m' K (clo f n B' e) → K' 1 m') (kk : OR f n m K (seS f n B i (tk f n p).pl (tk f n p).e)) : TrI 189 [(1, 597)] m K' := by
  have T := S.2.2.1.2.2.1 i hi.1 hi.2
  unfold seS at kk
  refine e189 ?_
  rw [h9, wrI (x := 4 + i - 4) (by omega) (by omega), show 4 + i - 4 = i by omega]
  refine ⟨fun z => ?_, fun z m1 e1 => ?_⟩
  · rw [if_pos (T.mp z)] at kk
    have kk' : FR m K 3 (tk f n p).pl := kk
    exact fun m4 e4 m5 e5 => h0 _ (FR.at kk' S.2.1.1 m4 e4 m5 e5)
  rw [if_neg (fun y => z (T.mpr y))] at kk
  obtain ⟨S1, g1⟩ := S.t17 hi e1
  refine s170 S1 fun m4 f4 S4 => ?_
  have gg4 : fRf m m4 := g1.tr f4.R
  generalize (tk f n p).e = p4 at *
  generalize (tk f n p).pl = pl at *
  unfold nuS at kk
  have go : ∀ bd, bd ≤ 99999 → bd = (if i = 0 then 999 else if i = 1 then 99 else 99999) → X 189 64 [(1, 597), (0, i)] [(0, bd), (1, 597)] m4 (qI K') := by
    intro bd hb hbd
    rw [← hbd] at kk
    refine w189_64 _ _ ?_
    refine c184 hb S4 (fun c => ?_) (fun c c' => ?_) fun c c' m8 g8 S8 y8 => ?_
    · rw [if_pos c] at kk
      have kk' : FR m K 1 (tk f n p4).pl := kk
      exact FR.z (kk'.mv gg4) h0
    · rw [if_neg (fun z => z c), if_pos c'] at kk
      have kk' : FR m K 2 (tk f n p4).pl := kk
      exact FR.z (kk'.mv gg4) h0
    rw [if_neg (fun z => z c), if_neg c'] at kk
    generalize (tk f n p4).v = v at *
    generalize (tk f n p4).e = p5 at *
    refine ⟨fun q => absurd q (by decide), fun _ => ?_⟩
    have w5 : wr (580 + i) = 580 + i := wrI (by omega) (by omega)
    rw [S8.2.2.1.1, w5, wb (k := 580 + i) (by omega), y8]
    clear w5
    refine ⟨by omega, fun m9 e9 => ?_⟩
    obtain ⟨S9, g9⟩ := S8.wr (q := 580 + i) (by omega) e9
    exact h1 _ _ _ S9 (OR.mv (r := clo f n (bkU (580 + i) v (bkU (600 + i) 1 B)) p5) kk ((gg4.tr g8).tr g9))
  refine ⟨fun z => go 999 (by decide) (by rw [if_pos z]), fun z => ⟨fun z2 => go 99 (by decide) (by rw [if_neg z, if_pos z2]), fun z2 => go 99999 (by decide) (by rw [if_neg z, if_neg z2])⟩⟩
/-- a clause(177) -/
theorem c177 (I : BI B) (S : StR f n B m p) (kk : OR f n m K (clS f n B (tk f n p))) : TrI 177 [(1, 597)] m K := by
  have rk1 := (rk_1 (tk_w (f := f) S.2.2.2.1.2).2.2.2.2).1
  have tw4 := (tk_w (f := f) S.2.2.2.1.2).2.2.2.1
  unfold clS at kk
  have no : ¬ ((tk f n p).k = 1 ∧ 0 ≤ (tk f n p).v ∧ (tk f n p).v ≤ 6) → ∀ m4, m4 = umem m 597 4 1 → ∀ m5, m5 = umem m4 597 5 (m 597 11) → K 0 m5 := fun q m4 e4 m5 e5 => by
    rw [if_neg q] at kk
    have kk' : FR m K 1 (tk f n p).pl := kk
    exact FR.at kk' S.2.1.1 m4 e4 m5 e5
  have h0 : ∀ m', K 0 m' → X 177 84 [(1, 597), (9, 0)] [(0, 0)] m' (qI K) := fun m' h => w177_84 _ _ ⟨fun _ => h, fun q => absurd rfl q⟩
  have h1 : ∀ B' e m', StR f n B' m' e → OR f n m' K (clo f n B' e) → X 177 84 [(1, 597), (9, 0)] [(0, 1)] m' (qI K) := fun B' e m' S' k' => c177e S' k'
  refine e177 ?_
  rw [S.2.1.2.1]
  refine ⟨fun q => ?_, fun q => no fun z => q (rk1.mpr z.1)⟩
  have k1 := rk1.mp q
  have v1 := S.2.1.2.2.1 (Or.inl k1)
  have vr := tw4 k1
  rw [v1]
  refine ⟨fun q6 => no (by omega), fun q6 => ?_⟩
  rw [if_pos (by omega)] at kk
  refine ⟨fun z => ?_, fun z => ⟨fun z1 => ?_, fun z1 => ⟨fun z2 => ⟨fun z3 => ?_, fun z3 => ?_⟩, fun z2 => ?_⟩⟩⟩
  · rw [if_pos z] at kk
    exact c180 I S h0 h1 kk
  · rw [if_neg z, if_pos z1] at kk
    exact c185 I S h0 h1 kk
  · rw [if_neg z, if_neg z1, if_pos z3] at kk
    exact c188 (w := 1) (Or.inr rfl) I S h0 h1 kk
  · rw [if_neg z, if_neg z1, if_neg z3, if_pos (by omega)] at kk
    exact c188 (w := 0) (Or.inl rfl) I S h0 h1 kk
  · rw [if_neg z, if_neg z1, if_neg (by omega), if_neg (by omega)] at kk
    exact c189 (i := (tk f n p).v - 4) (by omega) S (by rw [v1]; omega) h0 h1 kk
end RRE
