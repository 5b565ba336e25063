/-! rules of the methods: printed by wip/whole/gen26.py -/
set_option maxRecDepth 100000 in
theorem w153_0 {m : Mm} {K : Int → Mm → Prop} (a1 : Int) (a2 : Int) 
  (H : (0 ≤ a1 ∧ a1 < 10) ∧ (shp 411 = 20 ∧ (0 ≤ a1 ∧ a1 < 10) ∧ m (411 + 27) a1 ≤ 24) ∧ ((plC m 411 a1 (m 283 a1)) < 0 → ((m 438 a1) > 0 → ¬ (m 438 a1) = 0 ∧ K (wr (lrem a2 (m 438 a1))) m) ∧ (¬ (m 438 a1) > 0 → K 0 m)) ∧ (¬ (plC m 411 a1 (m 283 a1)) < 0 → K (plC m 411 a1 (m 283 a1)) m)) : X 153 0 [(1, 1), (0, a1), (2, a2), (9, 0), (9, 0), (9, 0)] [] m (qI K) := by
  refine x_s (q := (.aload_n 0, 0, 0, 0)) (cod_153 rfl) rfl rfl rfl ?_
  refine x_gc (kk := 10) (c := 411) (t := 1) (cod_153 rfl) sq_p_1 sq_l_1_10 rfl rfl ?_
  refine x_gc (kk := 6) (c := 438) (t := 1) (cod_153 rfl) sq_p_411 sq_l_411_6 rfl rfl ?_
  refine x_s (q := (.iload_n 1, 0, 0, 0)) (cod_153 rfl) rfl rfl rfl ?_
  obtain ⟨c1, H2⟩ := H
  refine x_iald (cod_153 rfl) sq_a_438.s (sq_a_438.k c1.1 c1.2) ?_
  refine x_s (q := (.istore 4, 0, 0, 0)) (cod_153 rfl) rfl rfl rfl ?_
  refine x_s (q := (.aload_n 0, 0, 0, 0)) (cod_153 rfl) rfl rfl rfl ?_
  refine x_gc (kk := 10) (c := 411) (t := 1) (cod_153 rfl) sq_p_1 sq_l_1_10 rfl rfl ?_
  refine x_s (q := (.iload_n 1, 0, 0, 0)) (cod_153 rfl) rfl rfl rfl ?_
  refine x_s (q := (.aload_n 0, 0, 0, 0)) (cod_153 rfl) rfl rfl rfl ?_
  refine x_gc (kk := 7) (c := 280) (t := 1) (cod_153 rfl) sq_p_1 sq_l_1_7 rfl rfl ?_
  refine x_gc (kk := 2) (c := 283) (t := 1) (cod_153 rfl) sq_p_280 sq_l_280_2 rfl rfl ?_
  refine x_s (q := (.iload_n 1, 0, 0, 0)) (cod_153 rfl) rfl rfl rfl ?_
  refine x_iald (cod_153 rfl) sq_a_283.s (sq_a_283.k c1.1 c1.2) ?_
  obtain ⟨c3, H4⟩ := H2
  refine x_call (as := [(1, 411), (0, a1), (0, m 283 a1)]) (rest := []) (cod_153 rfl) rfl rfl (by decide) (by decide) rfl rfl (Nat.le_of_ble_eq_true rfl) (rcv0 sq_l_411_0 sq_p_411 (by decide)) (Nat.le_of_ble_eq_true rfl) ?_
  refine x_pure (p97 c3) ?_
  show X 153 28 [(1, 1), (0, a1), (2, a2), (9, 0), (0, m 438 a1), (9, 0)] [(0, plC m 411 a1 (m 283 a1))] m _
  refine x_s (q := (.istore 5, 0, 0, 0)) (cod_153 rfl) rfl rfl rfl ?_
  refine x_s (q := (.iload 5, 0, 0, 0)) (cod_153 rfl) rfl rfl rfl ?_
  refine x_if (p := (plC m 411 a1 (m 283 a1)) < 0) (tgt := 38) (cod_153 rfl) (by decide) xj_lt (fun h => ?_) (fun h => ?_)
  · have H5 := H4.1 h
    refine x_s (q := (.iload 4, 0, 0, 0)) (cod_153 rfl) rfl rfl rfl ?_
    refine x_if (p := ¬ (m 438 a1) > 0) (tgt := 52) (cod_153 rfl) (by decide) xn_le (fun h => ?_) (fun h => ?_)
    · have H7 := H5.2 h
      refine x_s (q := (.iconst 0, 0, 0, 0)) (cod_153 rfl) rfl rfl rfl ?_
      refine x_retI (t := .int) (cod_153 rfl) rfl rfl rfl ?_
      exact H7
    · have H8 := H5.1 (Classical.not_not.mp h)
      refine x_s (q := (.lload_n 2, 0, 0, 0)) (cod_153 rfl) rfl rfl rfl ?_
      refine x_s (q := (.iload 4, 0, 0, 0)) (cod_153 rfl) rfl rfl rfl ?_
      refine x_s (q := (.i2l, 0, 0, 0)) (cod_153 rfl) rfl rfl rfl ?_
      obtain ⟨c9, H10⟩ := H8
      refine x_lrem (cod_153 rfl) c9 ?_
      refine x_s (q := (.l2i, 0, 0, 0)) (cod_153 rfl) rfl rfl rfl ?_
      refine x_go (tgt := 53) (cod_153 rfl) (by decide) ?_
      refine x_retI (t := .int) (cod_153 rfl) rfl rfl rfl ?_
      exact H10
  · have H6 := H4.2 h
    refine x_s (q := (.iload 5, 0, 0, 0)) (cod_153 rfl) rfl rfl rfl ?_
    refine x_retI (t := .int) (cod_153 rfl) rfl rfl rfl ?_
    exact H6
theorem e153 {m : Mm} {K : Int → Mm → Prop} (a1 : Int) (a2 : Int) 
  (H : (0 ≤ a1 ∧ a1 < 10) ∧ (shp 411 = 20 ∧ (0 ≤ a1 ∧ a1 < 10) ∧ m (411 + 27) a1 ≤ 24) ∧ ((plC m 411 a1 (m 283 a1)) < 0 → ((m 438 a1) > 0 → ¬ (m 438 a1) = 0 ∧ K (wr (lrem a2 (m 438 a1))) m) ∧ (¬ (m 438 a1) > 0 → K 0 m)) ∧ (¬ (plC m 411 a1 (m 283 a1)) < 0 → K (plC m 411 a1 (m 283 a1)) m)) : TrI 153 [(1, 1), (0, a1), (2, a2)] m K := by
  exact w153_0 a1 a2 H
set_option maxRecDepth 100000 in
theorem w154_0 {m : Mm} {K : Int → Mm → Prop}  
  (H : ((m 284 2) = 0 → K (-1) m) ∧ (¬ (m 284 2) = 0 → TrV 155 [(1, 284), (1, 280)] m fun m3 => ∀ m5, m5 = umem m3 1 17 1 → K (m5 284 2) m5)) : X 154 0 [(1, 1)] [] m (qI K) := by
  refine x_s (q := (.aload_n 0, 0, 0, 0)) (cod_154 rfl) rfl rfl rfl ?_
  refine x_gc (kk := 8) (c := 284) (t := 1) (cod_154 rfl) sq_p_1 sq_l_1_8 rfl rfl ?_
  refine x_gf (kk := 2) (t := 0) (cod_154 rfl) sq_p_284 sq_l_284_2 rfl rfl ?_
  refine x_if (p := ¬ (m 284 2) = 0) (tgt := 12) (cod_154 rfl) (by decide) xj_ne (fun h => ?_) (fun h => ?_)
  · have H1 := H.2 h
    refine x_s (q := (.aload_n 0, 0, 0, 0)) (cod_154 rfl) rfl rfl rfl ?_
    refine x_gc (kk := 8) (c := 284) (t := 1) (cod_154 rfl) sq_p_1 sq_l_1_8 rfl rfl ?_
    refine x_s (q := (.aload_n 0, 0, 0, 0)) (cod_154 rfl) rfl rfl rfl ?_
    refine x_gc (kk := 7) (c := 280) (t := 1) (cod_154 rfl) sq_p_1 sq_l_1_7 rfl rfl ?_
    refine x_call (as := [(1, 284), (1, 280)]) (rest := []) (cod_154 rfl) rfl rfl (by decide) (by decide) rfl rfl (Nat.le_of_ble_eq_true rfl) (rcv0 sq_l_284_0 sq_p_284 (by decide)) (Nat.le_of_ble_eq_true rfl) ?_
    refine X.imp H1 ?_
    rintro _ m3 ⟨rfl, H4⟩
    show X 154 23 [(1, 1)] [] m3 _
    refine x_s (q := (.aload_n 0, 0, 0, 0)) (cod_154 rfl) rfl rfl rfl ?_
    refine x_s (q := (.iconst 1, 0, 0, 0)) (cod_154 rfl) rfl rfl rfl ?_
    refine x_pf (kk := 17) (t := 0) (cod_154 rfl) sq_p_1 sq_l_1_17 rfl rfl rfl ?_
    have H6 := H4 _ rfl
    generalize umem m3 1 17 1 = m5 at H6 ⊢
    refine x_s (q := (.aload_n 0, 0, 0, 0)) (cod_154 rfl) rfl rfl rfl ?_
    refine x_gc (kk := 8) (c := 284) (t := 1) (cod_154 rfl) sq_p_1 sq_l_1_8 rfl rfl ?_
    refine x_gf (kk := 2) (t := 0) (cod_154 rfl) sq_p_284 sq_l_284_2 rfl rfl ?_
    refine x_retI (t := .int) (cod_154 rfl) rfl rfl rfl ?_
    exact H6
  · have H2 := H.1 (Classical.not_not.mp h)
    refine x_s (q := (.iconst (-1), 0, 0, 0)) (cod_154 rfl) rfl rfl rfl ?_
    refine x_retI (t := .int) (cod_154 rfl) rfl rfl rfl ?_
    exact H2
theorem e154 {m : Mm} {K : Int → Mm → Prop}  
  (H : ((m 284 2) = 0 → K (-1) m) ∧ (¬ (m 284 2) = 0 → TrV 155 [(1, 284), (1, 280)] m fun m3 => ∀ m5, m5 = umem m3 1 17 1 → K (m5 284 2) m5)) : TrI 154 [(1, 1)] m K := by
  exact w154_0  H
set_option maxRecDepth 100000 in
theorem w155_0 {m : Mm} {K : Mm → Prop} (a1 : Int) (ta1 : shp a1 = 22)
  (H : ((m 284 2) > 0 → ∀ m3, m3 = umem m 284 2 (wr ((m 284 2) - 1)) → (0 ≤ (m3 284 2) ∧ (m3 284 2) < 20) ∧ TrV 144 [(1, a1), (1, (m3 285 (m3 284 2)))] m3 fun m7 => K m7) ∧ (¬ (m 284 2) > 0 → K m)) : X 155 0 [(1, 284), (1, a1)] [] m (qV K) := by
  refine x_s (q := (.aload_n 0, 0, 0, 0)) (cod_155 rfl) rfl rfl rfl ?_
  refine x_gf (kk := 2) (t := 0) (cod_155 rfl) sq_p_284 sq_l_284_2 rfl rfl ?_
  refine x_if (p := ¬ (m 284 2) > 0) (tgt := 30) (cod_155 rfl) (by decide) xn_le (fun h => ?_) (fun h => ?_)
  · have H1 := H.2 h
    refine x_retV (cod_155 rfl) rfl ?_
    exact H1
  · have H2 := H.1 (Classical.not_not.mp h)
    refine x_s (q := (.aload_n 0, 0, 0, 0)) (cod_155 rfl) rfl rfl rfl ?_
    refine x_s (q := (.dup, 0, 0, 0)) (cod_155 rfl) rfl rfl rfl ?_
    refine x_gf (kk := 2) (t := 0) (cod_155 rfl) sq_p_284 sq_l_284_2 rfl rfl ?_
    refine x_s (q := (.iconst 1, 0, 0, 0)) (cod_155 rfl) rfl rfl rfl ?_
    refine x_s (q := (.isub, 0, 0, 0)) (cod_155 rfl) rfl rfl rfl ?_
    refine x_pf (kk := 2) (t := 0) (cod_155 rfl) sq_p_284 sq_l_284_2 rfl rfl rfl ?_
    have H4 := H2 _ rfl
    generalize umem m 284 2 (wr ((m 284 2) - 1)) = m3 at H4 ⊢
    refine x_aldn (cod_155 rfl) rfl (pos_of ta1 (by decide)) ?_
    refine x_s (q := (.aload_n 0, 0, 0, 0)) (cod_155 rfl) rfl rfl rfl ?_
    refine x_gc (kk := 0) (c := 285) (t := 1) (cod_155 rfl) sq_p_284 sq_l_284_0 rfl rfl ?_
    refine x_s (q := (.aload_n 0, 0, 0, 0)) (cod_155 rfl) rfl rfl rfl ?_
    refine x_gf (kk := 2) (t := 0) (cod_155 rfl) sq_p_284 sq_l_284_2 rfl rfl ?_
    obtain ⟨c5, H6⟩ := H4
    refine x_aald (cod_155 rfl) (by rw [sq_a_285.s]; decide) (sq_a_285.k c5.1 c5.2) ?_
    refine x_call (as := [(1, a1), (1, (m3 285 (m3 284 2)))]) (rest := []) (cod_155 rfl) rfl rfl (by decide) (by decide) rfl rfl (Nat.le_of_ble_eq_true rfl) (rcv0 (sq_c_2_0 ta1) ta1 (by decide)) (Nat.le_of_ble_eq_true rfl) ?_
    refine X.imp H6 ?_
    rintro _ m7 ⟨rfl, H8⟩
    show X 155 30 [(1, 284), (1, a1)] [] m7 _
    refine x_retV (cod_155 rfl) rfl ?_
    exact H8
theorem e155 {m : Mm} {K : Mm → Prop} (a1 : Int) (ta1 : shp a1 = 22)
  (H : ((m 284 2) > 0 → ∀ m3, m3 = umem m 284 2 (wr ((m 284 2) - 1)) → (0 ≤ (m3 284 2) ∧ (m3 284 2) < 20) ∧ TrV 144 [(1, a1), (1, (m3 285 (m3 284 2)))] m3 fun m7 => K m7) ∧ (¬ (m 284 2) > 0 → K m)) : TrV 155 [(1, 284), (1, a1)] m K := by
  exact w155_0 a1 ta1 H
set_option maxRecDepth 100000 in
theorem w156_0 {m : Mm} {K : Int → Mm → Prop}  
  (H : TrV 144 [(1, 286), (1, 280)] m fun m1 => ∀ m3, m3 = umem m1 284 3 1 → TrI 151 [(1, 280)] m3 fun v7 m5 => TrI 157 [(0, v7)] m5 fun v10 m8 => K v10 m8) : X 156 0 [(1, 1)] [] m (qI K) := by
  refine x_s (q := (.aload_n 0, 0, 0, 0)) (cod_156 rfl) rfl rfl rfl ?_
  refine x_gc (kk := 8) (c := 284) (t := 1) (cod_156 rfl) sq_p_1 sq_l_1_8 rfl rfl ?_
  refine x_gc (kk := 1) (c := 286) (t := 1) (cod_156 rfl) sq_p_284 sq_l_284_1 rfl rfl ?_
  refine x_s (q := (.aload_n 0, 0, 0, 0)) (cod_156 rfl) rfl rfl rfl ?_
  refine x_gc (kk := 7) (c := 280) (t := 1) (cod_156 rfl) sq_p_1 sq_l_1_7 rfl rfl ?_
  refine x_call (as := [(1, 286), (1, 280)]) (rest := []) (cod_156 rfl) rfl rfl (by decide) (by decide) rfl rfl (Nat.le_of_ble_eq_true rfl) (rcv0 sq_l_286_0 sq_p_286 (by decide)) (Nat.le_of_ble_eq_true rfl) ?_
  refine X.imp H ?_
  rintro _ m1 ⟨rfl, H2⟩
  show X 156 14 [(1, 1)] [] m1 _
  refine x_s (q := (.aload_n 0, 0, 0, 0)) (cod_156 rfl) rfl rfl rfl ?_
  refine x_gc (kk := 8) (c := 284) (t := 1) (cod_156 rfl) sq_p_1 sq_l_1_8 rfl rfl ?_
  refine x_s (q := (.iconst 1, 0, 0, 0)) (cod_156 rfl) rfl rfl rfl ?_
  refine x_pf (kk := 3) (t := 0) (cod_156 rfl) sq_p_284 sq_l_284_3 rfl rfl rfl ?_
  have H4 := H2 _ rfl
  generalize umem m1 284 3 1 = m3 at H4 ⊢
  refine x_s (q := (.aload_n 0, 0, 0, 0)) (cod_156 rfl) rfl rfl rfl ?_
  refine x_gc (kk := 7) (c := 280) (t := 1) (cod_156 rfl) sq_p_1 sq_l_1_7 rfl rfl ?_
  refine x_call (as := [(1, 280)]) (rest := []) (cod_156 rfl) rfl rfl (by decide) (by decide) rfl rfl (Nat.le_of_ble_eq_true rfl) (rcv0 sq_l_280_0 sq_p_280 (by decide)) (Nat.le_of_ble_eq_true rfl) ?_
  refine X.imp H4 ?_
  rintro _ m5 ⟨v7, rfl, H6⟩
  show X 156 29 [(1, 1)] [(0, v7)] m5 _
  refine x_call (as := [(0, v7)]) (rest := []) (cod_156 rfl) rfl rfl (by decide) (by decide) rfl rfl (Nat.le_of_ble_eq_true rfl) rfl (Nat.le_of_ble_eq_true rfl) ?_
  refine X.imp H6 ?_
  rintro _ m8 ⟨v10, rfl, H9⟩
  show X 156 32 [(1, 1)] [(0, v10)] m8 _
  refine x_retI (t := .int) (cod_156 rfl) rfl rfl rfl ?_
  exact H9
theorem e156 {m : Mm} {K : Int → Mm → Prop}  
  (H : TrV 144 [(1, 286), (1, 280)] m fun m1 => ∀ m3, m3 = umem m1 284 3 1 → TrI 151 [(1, 280)] m3 fun v7 m5 => TrI 157 [(0, v7)] m5 fun v10 m8 => K v10 m8) : TrI 156 [(1, 1)] m K := by
  exact w156_0  H
set_option maxRecDepth 100000 in
theorem w158_0 {m : Mm} {K : Int → Mm → Prop}  
  (H : ((m 284 3) = 0 → K (-1) m) ∧ (¬ (m 284 3) = 0 → TrV 144 [(1, 280), (1, 286)] m fun m3 => ∀ m5, m5 = umem m3 284 2 0 → ∀ m7, m7 = umem m5 1 17 1 → TrI 151 [(1, 280)] m7 fun v11 m9 => TrI 157 [(0, v11)] m9 fun v14 m12 => K v14 m12)) : X 158 0 [(1, 1)] [] m (qI K) := by
  refine x_s (q := (.aload_n 0, 0, 0, 0)) (cod_158 rfl) rfl rfl rfl ?_
  refine x_gc (kk := 8) (c := 284) (t := 1) (cod_158 rfl) sq_p_1 sq_l_1_8 rfl rfl ?_
  refine x_gf (kk := 3) (t := 0) (cod_158 rfl) sq_p_284 sq_l_284_3 rfl rfl ?_
  refine x_if (p := ¬ (m 284 3) = 0) (tgt := 12) (cod_158 rfl) (by decide) xj_ne (fun h => ?_) (fun h => ?_)
  · have H1 := H.2 h
    refine x_s (q := (.aload_n 0, 0, 0, 0)) (cod_158 rfl) rfl rfl rfl ?_
    refine x_gc (kk := 7) (c := 280) (t := 1) (cod_158 rfl) sq_p_1 sq_l_1_7 rfl rfl ?_
    refine x_s (q := (.aload_n 0, 0, 0, 0)) (cod_158 rfl) rfl rfl rfl ?_
    refine x_gc (kk := 8) (c := 284) (t := 1) (cod_158 rfl) sq_p_1 sq_l_1_8 rfl rfl ?_
    refine x_gc (kk := 1) (c := 286) (t := 1) (cod_158 rfl) sq_p_284 sq_l_284_1 rfl rfl ?_
    refine x_call (as := [(1, 280), (1, 286)]) (rest := []) (cod_158 rfl) rfl rfl (by decide) (by decide) rfl rfl (Nat.le_of_ble_eq_true rfl) (rcv0 sq_l_280_0 sq_p_280 (by decide)) (Nat.le_of_ble_eq_true rfl) ?_
    refine X.imp H1 ?_
    rintro _ m3 ⟨rfl, H4⟩
    show X 158 26 [(1, 1)] [] m3 _
    refine x_s (q := (.aload_n 0, 0, 0, 0)) (cod_158 rfl) rfl rfl rfl ?_
    refine x_gc (kk := 8) (c := 284) (t := 1) (cod_158 rfl) sq_p_1 sq_l_1_8 rfl rfl ?_
    refine x_s (q := (.iconst 0, 0, 0, 0)) (cod_158 rfl) rfl rfl rfl ?_
    refine x_pf (kk := 2) (t := 0) (cod_158 rfl) sq_p_284 sq_l_284_2 rfl rfl rfl ?_
    have H6 := H4 _ rfl
    generalize umem m3 284 2 0 = m5 at H6 ⊢
    refine x_s (q := (.aload_n 0, 0, 0, 0)) (cod_158 rfl) rfl rfl rfl ?_
    refine x_s (q := (.iconst 1, 0, 0, 0)) (cod_158 rfl) rfl rfl rfl ?_
    refine x_pf (kk := 17) (t := 0) (cod_158 rfl) sq_p_1 sq_l_1_17 rfl rfl rfl ?_
    have H8 := H6 _ rfl
    generalize umem m5 1 17 1 = m7 at H8 ⊢
    refine x_s (q := (.aload_n 0, 0, 0, 0)) (cod_158 rfl) rfl rfl rfl ?_
    refine x_gc (kk := 7) (c := 280) (t := 1) (cod_158 rfl) sq_p_1 sq_l_1_7 rfl rfl ?_
    refine x_call (as := [(1, 280)]) (rest := []) (cod_158 rfl) rfl rfl (by decide) (by decide) rfl rfl (Nat.le_of_ble_eq_true rfl) (rcv0 sq_l_280_0 sq_p_280 (by decide)) (Nat.le_of_ble_eq_true rfl) ?_
    refine X.imp H8 ?_
    rintro _ m9 ⟨v11, rfl, H10⟩
    show X 158 46 [(1, 1)] [(0, v11)] m9 _
    refine x_call (as := [(0, v11)]) (rest := []) (cod_158 rfl) rfl rfl (by decide) (by decide) rfl rfl (Nat.le_of_ble_eq_true rfl) rfl (Nat.le_of_ble_eq_true rfl) ?_
    refine X.imp H10 ?_
    rintro _ m12 ⟨v14, rfl, H13⟩
    show X 158 49 [(1, 1)] [(0, v14)] m12 _
    refine x_retI (t := .int) (cod_158 rfl) rfl rfl rfl ?_
    exact H13
  · have H2 := H.1 (Classical.not_not.mp h)
    refine x_s (q := (.iconst (-1), 0, 0, 0)) (cod_158 rfl) rfl rfl rfl ?_
    refine x_retI (t := .int) (cod_158 rfl) rfl rfl rfl ?_
    exact H2
theorem e158 {m : Mm} {K : Int → Mm → Prop}  
  (H : ((m 284 3) = 0 → K (-1) m) ∧ (¬ (m 284 3) = 0 → TrV 144 [(1, 280), (1, 286)] m fun m3 => ∀ m5, m5 = umem m3 284 2 0 → ∀ m7, m7 = umem m5 1 17 1 → TrI 151 [(1, 280)] m7 fun v11 m9 => TrI 157 [(0, v11)] m9 fun v14 m12 => K v14 m12)) : TrI 158 [(1, 1)] m K := by
  exact w158_0  H
set_option maxRecDepth 100000 in
theorem w159_0 {m : Mm} {K : Int → Mm → Prop} (a1 : Int) 
  (H : ((a1 < 0 ∨ 9 < a1) → K (-1) m) ∧ (a1 = 0 → shp (m 1 3) = 30 ∧ K (m (m 1 3) 5) m) ∧ (a1 = 1 → shp (m 1 3) = 30 ∧ K (m (m 1 3) 6) m) ∧ (a1 = 2 → shp (m 1 5) = 24 ∧ K (m (m 1 5) 4) m) ∧ (a1 = 3 → shp (m 1 3) = 30 ∧ K (m (m 1 3) 7) m) ∧ (a1 = 4 → shp (m 1 3) = 30 ∧ K (m (m 1 3) 8) m) ∧ (a1 = 5 → TrI 146 [(1, 1)] m fun v20 m18 => K v20 m18) ∧ (a1 = 6 → K (m 284 2) m) ∧ (a1 = 7 → K (m 1 1) m) ∧ (a1 = 8 → TrV 76 [(1, 1)] m fun m24 => TrI 160 [(1, 1), (0, (-3))] m24 fun v28 m26 => K v28 m26) ∧ (a1 = 9 → TrV 76 [(1, 1)] m fun m30 => TrI 160 [(1, 1), (0, (-2))] m30 fun v34 m32 => K v34 m32)) : X 159 0 [(1, 1), (0, a1)] [] m (qI K) := by
  refine x_s (q := (.iload_n 1, 0, 0, 0)) (cod_159 rfl) rfl rfl rfl ?_
  refine x_tsw (cod_159 rfl) (by decide) (by decide) (by decide) (fun h => ?_) (fun i o ho h => ?_)
  · have H1 := H.1 h
    refine x_s (q := (.iconst (-1), 0, 0, 0)) (cod_159 rfl) rfl rfl rfl ?_
    refine x_retI (t := .int) (cod_159 rfl) rfl rfl rfl ?_
    exact H1
  · match i, ho with
    | 0, ho =>
      cases ho
      have H2 := H.2.1 (by omega)
      refine x_s (q := (.aload_n 0, 0, 0, 0)) (cod_159 rfl) rfl rfl rfl ?_
      refine x_gf (kk := 3) (t := 1) (cod_159 rfl) sq_p_1 sq_l_1_3 rfl rfl ?_
      obtain ⟨c3, H4⟩ := H2
      refine x_gf (kk := 5) (t := 0) (cod_159 rfl) c3 (sq_c_10_5 c3) rfl rfl ?_
      refine x_retI (t := .int) (cod_159 rfl) rfl rfl rfl ?_
      exact H4
    | 1, ho =>
      cases ho
      have H5 := H.2.2.1 (by omega)
      refine x_s (q := (.aload_n 0, 0, 0, 0)) (cod_159 rfl) rfl rfl rfl ?_
      refine x_gf (kk := 3) (t := 1) (cod_159 rfl) sq_p_1 sq_l_1_3 rfl rfl ?_
      obtain ⟨c6, H7⟩ := H5
      refine x_gf (kk := 6) (t := 0) (cod_159 rfl) c6 (sq_c_10_6 c6) rfl rfl ?_
      refine x_retI (t := .int) (cod_159 rfl) rfl rfl rfl ?_
      exact H7
    | 2, ho =>
      cases ho
      have H8 := H.2.2.2.1 (by omega)
      refine x_s (q := (.aload_n 0, 0, 0, 0)) (cod_159 rfl) rfl rfl rfl ?_
      refine x_gf (kk := 5) (t := 1) (cod_159 rfl) sq_p_1 sq_l_1_5 rfl rfl ?_
      obtain ⟨c9, H10⟩ := H8
      refine x_gf (kk := 4) (t := 0) (cod_159 rfl) c9 (sq_c_4_4 c9) rfl rfl ?_
      refine x_retI (t := .int) (cod_159 rfl) rfl rfl rfl ?_
      exact H10
    | 3, ho =>
      cases ho
      have H11 := H.2.2.2.2.1 (by omega)
      refine x_s (q := (.aload_n 0, 0, 0, 0)) (cod_159 rfl) rfl rfl rfl ?_
      refine x_gf (kk := 3) (t := 1) (cod_159 rfl) sq_p_1 sq_l_1_3 rfl rfl ?_
      obtain ⟨c12, H13⟩ := H11
      refine x_gf (kk := 7) (t := 0) (cod_159 rfl) c12 (sq_c_10_7 c12) rfl rfl ?_
      refine x_retI (t := .int) (cod_159 rfl) rfl rfl rfl ?_
      exact H13
    | 4, ho =>
      cases ho
      have H14 := H.2.2.2.2.2.1 (by omega)
      refine x_s (q := (.aload_n 0, 0, 0, 0)) (cod_159 rfl) rfl rfl rfl ?_
      refine x_gf (kk := 3) (t := 1) (cod_159 rfl) sq_p_1 sq_l_1_3 rfl rfl ?_
      obtain ⟨c15, H16⟩ := H14
      refine x_gf (kk := 8) (t := 0) (cod_159 rfl) c15 (sq_c_10_8 c15) rfl rfl ?_
      refine x_retI (t := .int) (cod_159 rfl) rfl rfl rfl ?_
      exact H16
    | 5, ho =>
      cases ho
      have H17 := H.2.2.2.2.2.2.1 (by omega)
      refine x_s (q := (.aload_n 0, 0, 0, 0)) (cod_159 rfl) rfl rfl rfl ?_
      refine x_call (as := [(1, 1)]) (rest := []) (cod_159 rfl) rfl rfl (by decide) (by decide) rfl rfl (Nat.le_of_ble_eq_true rfl) (rcv0 sq_l_1_0 sq_p_1 (by decide)) (Nat.le_of_ble_eq_true rfl) ?_
      refine X.imp H17 ?_
      rintro _ m18 ⟨v20, rfl, H19⟩
      show X 159 100 [(1, 1), (0, a1)] [(0, v20)] m18 _
      refine x_retI (t := .int) (cod_159 rfl) rfl rfl rfl ?_
      exact H19
    | 6, ho =>
      cases ho
      have H21 := H.2.2.2.2.2.2.2.1 (by omega)
      refine x_s (q := (.aload_n 0, 0, 0, 0)) (cod_159 rfl) rfl rfl rfl ?_
      refine x_gc (kk := 8) (c := 284) (t := 1) (cod_159 rfl) sq_p_1 sq_l_1_8 rfl rfl ?_
      refine x_gf (kk := 2) (t := 0) (cod_159 rfl) sq_p_284 sq_l_284_2 rfl rfl ?_
      refine x_retI (t := .int) (cod_159 rfl) rfl rfl rfl ?_
      exact H21
    | 7, ho =>
      cases ho
      have H22 := H.2.2.2.2.2.2.2.2.1 (by omega)
      refine x_s (q := (.aload_n 0, 0, 0, 0)) (cod_159 rfl) rfl rfl rfl ?_
      refine x_gf (kk := 1) (t := 0) (cod_159 rfl) sq_p_1 sq_l_1_1 rfl rfl ?_
      refine x_retI (t := .int) (cod_159 rfl) rfl rfl rfl ?_
      exact H22
    | 8, ho =>
      cases ho
      have H23 := H.2.2.2.2.2.2.2.2.2.1 (by omega)
      refine x_s (q := (.aload_n 0, 0, 0, 0)) (cod_159 rfl) rfl rfl rfl ?_
      refine x_call (as := [(1, 1)]) (rest := []) (cod_159 rfl) rfl rfl (by decide) (by decide) rfl rfl (Nat.le_of_ble_eq_true rfl) (rcv0 sq_l_1_0 sq_p_1 (by decide)) (Nat.le_of_ble_eq_true rfl) ?_
      refine X.imp H23 ?_
      rintro _ m24 ⟨rfl, H25⟩
      show X 159 118 [(1, 1), (0, a1)] [] m24 _
      refine x_s (q := (.aload_n 0, 0, 0, 0)) (cod_159 rfl) rfl rfl rfl ?_
      refine x_s (q := (.bipush (-3), 0, 0, 0)) (cod_159 rfl) rfl rfl rfl ?_
      refine x_call (as := [(1, 1), (0, (-3))]) (rest := []) (cod_159 rfl) rfl rfl (by decide) (by decide) rfl rfl (Nat.le_of_ble_eq_true rfl) (rcv0 sq_l_1_0 sq_p_1 (by decide)) (Nat.le_of_ble_eq_true rfl) ?_
      refine X.imp H25 ?_
      rintro _ m26 ⟨v28, rfl, H27⟩
      show X 159 124 [(1, 1), (0, a1)] [(0, v28)] m26 _
      refine x_retI (t := .int) (cod_159 rfl) rfl rfl rfl ?_
      exact H27
    | 9, ho =>
      cases ho
      have H29 := H.2.2.2.2.2.2.2.2.2.2 (by omega)
      refine x_s (q := (.aload_n 0, 0, 0, 0)) (cod_159 rfl) rfl rfl rfl ?_
      refine x_call (as := [(1, 1)]) (rest := []) (cod_159 rfl) rfl rfl (by decide) (by decide) rfl rfl (Nat.le_of_ble_eq_true rfl) (rcv0 sq_l_1_0 sq_p_1 (by decide)) (Nat.le_of_ble_eq_true rfl) ?_
      refine X.imp H29 ?_
      rintro _ m30 ⟨rfl, H31⟩
      show X 159 129 [(1, 1), (0, a1)] [] m30 _
      refine x_s (q := (.aload_n 0, 0, 0, 0)) (cod_159 rfl) rfl rfl rfl ?_
      refine x_s (q := (.bipush (-2), 0, 0, 0)) (cod_159 rfl) rfl rfl rfl ?_
      refine x_call (as := [(1, 1), (0, (-2))]) (rest := []) (cod_159 rfl) rfl rfl (by decide) (by decide) rfl rfl (Nat.le_of_ble_eq_true rfl) (rcv0 sq_l_1_0 sq_p_1 (by decide)) (Nat.le_of_ble_eq_true rfl) ?_
      refine X.imp H31 ?_
      rintro _ m32 ⟨v34, rfl, H33⟩
      show X 159 135 [(1, 1), (0, a1)] [(0, v34)] m32 _
      refine x_retI (t := .int) (cod_159 rfl) rfl rfl rfl ?_
      exact H33
    | k + 10, ho => exact absurd ho (by simp)
theorem e159 {m : Mm} {K : Int → Mm → Prop} (a1 : Int) 
  (H : ((a1 < 0 ∨ 9 < a1) → K (-1) m) ∧ (a1 = 0 → shp (m 1 3) = 30 ∧ K (m (m 1 3) 5) m) ∧ (a1 = 1 → shp (m 1 3) = 30 ∧ K (m (m 1 3) 6) m) ∧ (a1 = 2 → shp (m 1 5) = 24 ∧ K (m (m 1 5) 4) m) ∧ (a1 = 3 → shp (m 1 3) = 30 ∧ K (m (m 1 3) 7) m) ∧ (a1 = 4 → shp (m 1 3) = 30 ∧ K (m (m 1 3) 8) m) ∧ (a1 = 5 → TrI 146 [(1, 1)] m fun v20 m18 => K v20 m18) ∧ (a1 = 6 → K (m 284 2) m) ∧ (a1 = 7 → K (m 1 1) m) ∧ (a1 = 8 → TrV 76 [(1, 1)] m fun m24 => TrI 160 [(1, 1), (0, (-3))] m24 fun v28 m26 => K v28 m26) ∧ (a1 = 9 → TrV 76 [(1, 1)] m fun m30 => TrI 160 [(1, 1), (0, (-2))] m30 fun v34 m32 => K v34 m32)) : TrI 159 [(1, 1), (0, a1)] m K := by
  exact w159_0 a1 H
set_option maxRecDepth 100000 in
theorem w160_0 {m : Mm} {K : Int → Mm → Prop} (a1 : Int) 
  (H : X 160 4 [(1, 1), (0, a1), (0, 0), (0, 0)] [] m (qI K)) : X 160 0 [(1, 1), (0, a1), (9, 0), (9, 0)] [] m (qI K) := by
  refine x_s (q := (.iconst 0, 0, 0, 0)) (cod_160 rfl) rfl rfl rfl ?_
  refine x_s (q := (.istore_n 2, 0, 0, 0)) (cod_160 rfl) rfl rfl rfl ?_
  refine x_s (q := (.iconst 0, 0, 0, 0)) (cod_160 rfl) rfl rfl rfl ?_
  refine x_s (q := (.istore_n 3, 0, 0, 0)) (cod_160 rfl) rfl rfl rfl ?_
  exact H
theorem e160 {m : Mm} {K : Int → Mm → Prop} (a1 : Int) 
  (H : X 160 4 [(1, 1), (0, a1), (0, 0), (0, 0)] [] m (qI K)) : TrI 160 [(1, 1), (0, a1)] m K := by
  exact w160_0 a1 H
set_option maxRecDepth 100000 in
theorem w160_4 {m : Mm} {K : Int → Mm → Prop} (a1 : Int) (a2 : Int) (a3 : Int) 
  (H : shp (m 1 5) = 24 ∧ (a3 < (m (m 1 5) 4) → (0 ≤ a3 ∧ a3 < 10) ∧ ((m (440 + a3) 0) = a1 → X 160 4 [(1, 1), (0, a1), (0, wr (a2 + 1)), (0, wr (a3 + 1))] [] m (qI K)) ∧ (¬ (m (440 + a3) 0) = a1 → X 160 4 [(1, 1), (0, a1), (0, a2), (0, wr (a3 + 1))] [] m (qI K))) ∧ (¬ a3 < (m (m 1 5) 4) → K a2 m)) : X 160 4 [(1, 1), (0, a1), (0, a2), (0, a3)] [] m (qI K) := by
  refine x_s (q := (.iload_n 3, 0, 0, 0)) (cod_160 rfl) rfl rfl rfl ?_
  refine x_s (q := (.aload_n 0, 0, 0, 0)) (cod_160 rfl) rfl rfl rfl ?_
  refine x_gf (kk := 5) (t := 1) (cod_160 rfl) sq_p_1 sq_l_1_5 rfl rfl ?_
  obtain ⟨c1, H2⟩ := H
  refine x_gf (kk := 4) (t := 0) (cod_160 rfl) c1 (sq_c_4_4 c1) rfl rfl ?_
  refine x_ic (p := ¬ a3 < (m (m 1 5) 4)) (tgt := 39) (cod_160 rfl) (by decide) xn_ge (fun h => ?_) (fun h => ?_)
  · have H3 := H2.2 h
    refine x_s (q := (.iload_n 2, 0, 0, 0)) (cod_160 rfl) rfl rfl rfl ?_
    refine x_retI (t := .int) (cod_160 rfl) rfl rfl rfl ?_
    exact H3
  · have H4 := H2.1 (Classical.not_not.mp h)
    refine x_s (q := (.aload_n 0, 0, 0, 0)) (cod_160 rfl) rfl rfl rfl ?_
    refine x_gc (kk := 10) (c := 411) (t := 1) (cod_160 rfl) sq_p_1 sq_l_1_10 rfl rfl ?_
    refine x_gc (kk := 7) (c := 439) (t := 1) (cod_160 rfl) sq_p_411 sq_l_411_7 rfl rfl ?_
    refine x_s (q := (.iload_n 3, 0, 0, 0)) (cod_160 rfl) rfl rfl rfl ?_
    obtain ⟨c5, H6⟩ := H4
    refine x_aaldc (c := (440 + a3)) (cod_160 rfl) (by rw [(sq_ro_439 (j := a3) c5.1 c5.2).2]; decide) (sq_ro_439 (j := a3) c5.1 c5.2).1 ?_
    refine x_s (q := (.iconst 0, 0, 0, 0)) (cod_160 rfl) rfl rfl rfl ?_
    refine x_iald (cod_160 rfl) (sq_rw_439 (j := a3) c5.1 c5.2).s ((sq_rw_439 (j := a3) c5.1 c5.2).k (by decide) (by decide)) ?_
    refine x_s (q := (.iload_n 1, 0, 0, 0)) (cod_160 rfl) rfl rfl rfl ?_
    refine x_ic (p := ¬ (m (440 + a3) 0) = a1) (tgt := 33) (cod_160 rfl) (by decide) xj_ne (fun h => ?_) (fun h => ?_)
    · have H7 := H6.2 h
      refine x_s (q := (.iinc 3 1, 0, 0, 0)) (cod_160 rfl) rfl rfl rfl ?_
      refine x_go (tgt := 4) (cod_160 rfl) (by decide) ?_
      exact H7
    · have H8 := H6.1 (Classical.not_not.mp h)
      refine x_s (q := (.iinc 2 1, 0, 0, 0)) (cod_160 rfl) rfl rfl rfl ?_
      refine x_s (q := (.iinc 3 1, 0, 0, 0)) (cod_160 rfl) rfl rfl rfl ?_
      refine x_go (tgt := 4) (cod_160 rfl) (by decide) ?_
      exact H8
set_option maxRecDepth 100000 in
theorem w161_0 {m : Mm} {K : Int → Mm → Prop} (a1 : Int) (a2 : Int) 
  (H : shp (m 1 3) = 30 ∧ ((0 ≤ a1 ∧ a1 < m (m 1 3) 5) → shp (m 1 3) = 30 ∧ (0 ≤ a1 ∧ a1 < 24) ∧ ((a2 < 0 ∨ 6 < a2) → False) ∧ (a2 = 0 → K (m ((m 1 3) + 6 + 2 * a1) 1) m) ∧ (a2 = 1 → K (m ((m 1 3) + 6 + 2 * a1) 2) m) ∧ (a2 = 2 → K (m ((m 1 3) + 6 + 2 * a1) 3) m) ∧ (a2 = 3 → K (m ((m 1 3) + 6 + 2 * a1) 4) m) ∧ (a2 = 4 → K (m 281 a1) m) ∧ (a2 = 5 → K (m 282 a1) m) ∧ (a2 = 6 → v_W m 280 a1 (m (m 1 3) 8) ∧ K (max 0 (m (280 + 1) a1 - (m (m 1 3) 8) * m (280 + 2) a1)) m)) ∧ (¬ (0 ≤ a1 ∧ a1 < m (m 1 3) 5) → False)) : X 161 0 [(1, 1), (0, a1), (0, a2), (9, 0)] [] m (qI K) := by
  refine x_s (q := (.aload_n 0, 0, 0, 0)) (cod_161 rfl) rfl rfl rfl ?_
  refine x_s (q := (.iload_n 1, 0, 0, 0)) (cod_161 rfl) rfl rfl rfl ?_
  obtain ⟨c1, H2⟩ := H
  refine x_call (as := [(1, 1), (0, a1)]) (rest := []) (cod_161 rfl) rfl rfl (by decide) (by decide) rfl rfl (Nat.le_of_ble_eq_true rfl) (rcv0 sq_l_1_0 sq_p_1 (by decide)) (Nat.le_of_ble_eq_true rfl) ?_
  refine x_pure (p70 c1) ?_
  show X 161 5 [(1, 1), (0, a1), (0, a2), (9, 0)] [(0, bi (0 ≤ a1 ∧ a1 < m (m 1 3) 5))] m _
  refine x_if (p := 0 ≤ a1 ∧ a1 < m (m 1 3) 5) (tgt := 18) (cod_161 rfl) (by decide) xb_ne (fun h => ?_) (fun h => ?_)
  · have H3 := H2.1 h
    refine x_s (q := (.aload_n 0, 0, 0, 0)) (cod_161 rfl) rfl rfl rfl ?_
    refine x_gf (kk := 3) (t := 1) (cod_161 rfl) sq_p_1 sq_l_1_3 rfl rfl ?_
    obtain ⟨c5, H6⟩ := H3
    refine x_gc (kk := 0) (c := ((m 1 3) + 1)) (t := 1) (cod_161 rfl) c5 (sq_c_10_0 c5) rfl rfl ?_
    refine x_s (q := (.iload_n 1, 0, 0, 0)) (cod_161 rfl) rfl rfl rfl ?_
    obtain ⟨c7, H8⟩ := H6
    refine x_aaldc (c := ((m 1 3) + 6 + 2 * a1)) (cod_161 rfl) (by rw [(sq_oa_10_0 (j := a1) c5 c7.1 c7.2).2.1]; decide) (sq_oa_10_0 (j := a1) c5 c7.1 c7.2).1 ?_
    refine x_astn (ls' := [(1, 1), (0, a1), (0, a2), (1, ((m 1 3) + 6 + 2 * a1))]) (cod_161 rfl) (pos_of (sq_oa_10_0 (j := a1) c5 c7.1 c7.2).2.2 (by decide)) rfl rfl ?_
    refine x_s (q := (.iload_n 2, 0, 0, 0)) (cod_161 rfl) rfl rfl rfl ?_
    refine x_tsw (cod_161 rfl) (by decide) (by decide) (by decide) (fun h => ?_) (fun i o ho h => ?_)
    · have H9 := H8.1 h
      exact H9.elim
    · match i, ho with
      | 0, ho =>
        cases ho
        have H10 := H8.2.1 (by omega)
        refine x_aldn (cod_161 rfl) rfl (pos_of (sq_oa_10_0 (j := a1) c5 c7.1 c7.2).2.2 (by decide)) ?_
        refine x_gf (kk := 1) (t := 0) (cod_161 rfl) (sq_oa_10_0 (j := a1) c5 c7.1 c7.2).2.2 (sq_c_7_1 (sq_oa_10_0 (j := a1) c5 c7.1 c7.2).2.2) rfl rfl ?_
        refine x_retI (t := .int) (cod_161 rfl) rfl rfl rfl ?_
        exact H10
      | 1, ho =>
        cases ho
        have H11 := H8.2.2.1 (by omega)
        refine x_aldn (cod_161 rfl) rfl (pos_of (sq_oa_10_0 (j := a1) c5 c7.1 c7.2).2.2 (by decide)) ?_
        refine x_gf (kk := 2) (t := 0) (cod_161 rfl) (sq_oa_10_0 (j := a1) c5 c7.1 c7.2).2.2 (sq_c_7_2 (sq_oa_10_0 (j := a1) c5 c7.1 c7.2).2.2) rfl rfl ?_
        refine x_retI (t := .int) (cod_161 rfl) rfl rfl rfl ?_
        exact H11
      | 2, ho =>
        cases ho
        have H12 := H8.2.2.2.1 (by omega)
        refine x_aldn (cod_161 rfl) rfl (pos_of (sq_oa_10_0 (j := a1) c5 c7.1 c7.2).2.2 (by decide)) ?_
        refine x_gf (kk := 3) (t := 0) (cod_161 rfl) (sq_oa_10_0 (j := a1) c5 c7.1 c7.2).2.2 (sq_c_7_3 (sq_oa_10_0 (j := a1) c5 c7.1 c7.2).2.2) rfl rfl ?_
        refine x_retI (t := .int) (cod_161 rfl) rfl rfl rfl ?_
        exact H12
      | 3, ho =>
        cases ho
        have H13 := H8.2.2.2.2.1 (by omega)
        refine x_aldn (cod_161 rfl) rfl (pos_of (sq_oa_10_0 (j := a1) c5 c7.1 c7.2).2.2 (by decide)) ?_
        refine x_gf (kk := 4) (t := 0) (cod_161 rfl) (sq_oa_10_0 (j := a1) c5 c7.1 c7.2).2.2 (sq_c_7_4 (sq_oa_10_0 (j := a1) c5 c7.1 c7.2).2.2) rfl rfl ?_
        refine x_retI (t := .int) (cod_161 rfl) rfl rfl rfl ?_
        exact H13
      | 4, ho =>
        cases ho
        have H14 := H8.2.2.2.2.2.1 (by omega)
        refine x_s (q := (.aload_n 0, 0, 0, 0)) (cod_161 rfl) rfl rfl rfl ?_
        refine x_gc (kk := 7) (c := 280) (t := 1) (cod_161 rfl) sq_p_1 sq_l_1_7 rfl rfl ?_
        refine x_gc (kk := 0) (c := 281) (t := 1) (cod_161 rfl) sq_p_280 sq_l_280_0 rfl rfl ?_
        refine x_s (q := (.iload_n 1, 0, 0, 0)) (cod_161 rfl) rfl rfl rfl ?_
        refine x_iald (cod_161 rfl) sq_a_281.s (sq_a_281.k c7.1 c7.2) ?_
        refine x_retI (t := .int) (cod_161 rfl) rfl rfl rfl ?_
        exact H14
      | 5, ho =>
        cases ho
        have H15 := H8.2.2.2.2.2.2.1 (by omega)
        refine x_s (q := (.aload_n 0, 0, 0, 0)) (cod_161 rfl) rfl rfl rfl ?_
        refine x_gc (kk := 7) (c := 280) (t := 1) (cod_161 rfl) sq_p_1 sq_l_1_7 rfl rfl ?_
        refine x_gc (kk := 1) (c := 282) (t := 1) (cod_161 rfl) sq_p_280 sq_l_280_1 rfl rfl ?_
        refine x_s (q := (.iload_n 1, 0, 0, 0)) (cod_161 rfl) rfl rfl rfl ?_
        refine x_iald (cod_161 rfl) sq_a_282.s (sq_a_282.k c7.1 c7.2) ?_
        refine x_retI (t := .int) (cod_161 rfl) rfl rfl rfl ?_
        exact H15
      | 6, ho =>
        cases ho
        have H16 := H8.2.2.2.2.2.2.2 (by omega)
        refine x_s (q := (.aload_n 0, 0, 0, 0)) (cod_161 rfl) rfl rfl rfl ?_
        refine x_gc (kk := 7) (c := 280) (t := 1) (cod_161 rfl) sq_p_1 sq_l_1_7 rfl rfl ?_
        refine x_s (q := (.iload_n 1, 0, 0, 0)) (cod_161 rfl) rfl rfl rfl ?_
        refine x_s (q := (.aload_n 0, 0, 0, 0)) (cod_161 rfl) rfl rfl rfl ?_
        refine x_gf (kk := 3) (t := 1) (cod_161 rfl) sq_p_1 sq_l_1_3 rfl rfl ?_
        refine x_gf (kk := 8) (t := 0) (cod_161 rfl) c5 (sq_c_10_8 c5) rfl rfl ?_
        obtain ⟨c17, H18⟩ := H16
        refine x_call (as := [(1, 280), (0, a1), (0, m (m 1 3) 8)]) (rest := []) (cod_161 rfl) rfl rfl (by decide) (by decide) rfl rfl (Nat.le_of_ble_eq_true rfl) (rcv0 sq_l_280_0 sq_p_280 (by decide)) (Nat.le_of_ble_eq_true rfl) ?_
        refine x_pure (p78 c17) ?_
        show X 161 127 [(1, 1), (0, a1), (0, a2), (1, ((m 1 3) + 6 + 2 * a1))] [(0, max 0 (m (280 + 1) a1 - (m (m 1 3) 8) * m (280 + 2) a1))] m _
        refine x_retI (t := .int) (cod_161 rfl) rfl rfl rfl ?_
        exact H18
      | k + 7, ho => exact absurd ho (by simp)
  · have H4 := H2.2 h
    exact H4.elim
theorem e161 {m : Mm} {K : Int → Mm → Prop} (a1 : Int) (a2 : Int) 
  (H : shp (m 1 3) = 30 ∧ ((0 ≤ a1 ∧ a1 < m (m 1 3) 5) → shp (m 1 3) = 30 ∧ (0 ≤ a1 ∧ a1 < 24) ∧ ((a2 < 0 ∨ 6 < a2) → False) ∧ (a2 = 0 → K (m ((m 1 3) + 6 + 2 * a1) 1) m) ∧ (a2 = 1 → K (m ((m 1 3) + 6 + 2 * a1) 2) m) ∧ (a2 = 2 → K (m ((m 1 3) + 6 + 2 * a1) 3) m) ∧ (a2 = 3 → K (m ((m 1 3) + 6 + 2 * a1) 4) m) ∧ (a2 = 4 → K (m 281 a1) m) ∧ (a2 = 5 → K (m 282 a1) m) ∧ (a2 = 6 → v_W m 280 a1 (m (m 1 3) 8) ∧ K (max 0 (m (280 + 1) a1 - (m (m 1 3) 8) * m (280 + 2) a1)) m)) ∧ (¬ (0 ≤ a1 ∧ a1 < m (m 1 3) 5) → False)) : TrI 161 [(1, 1), (0, a1), (0, a2)] m K := by
  exact w161_0 a1 a2 H
