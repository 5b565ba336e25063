/-! rules of the methods: printed by wip/whole/gen26.py -/
set_option maxRecDepth 100000 in
theorem w55_0 {m : Mm} {K : Mm → Prop} (a0 : Int) (ta0 : shp a0 = 22)
  (H : X 55 2 [(1, a0), (0, 0)] [] m (qV K)) : X 55 0 [(1, a0), (9, 0)] [] m (qV K) := by
  refine x_s (q := (.iconst 0, 0, 0, 0)) (cod_55 rfl) rfl rfl rfl ?_
  refine x_s (q := (.istore_n 1, 0, 0, 0)) (cod_55 rfl) rfl rfl rfl ?_
  exact H
theorem e55 {m : Mm} {K : Mm → Prop} (a0 : Int) (ta0 : shp a0 = 22)
  (H : X 55 2 [(1, a0), (0, 0)] [] m (qV K)) : TrV 55 [(1, a0)] m K := by
  exact w55_0 a0 ta0 H
set_option maxRecDepth 100000 in
theorem w55_2 {m : Mm} {K : Mm → Prop} (a0 : Int) (a1 : Int) (ta0 : shp a0 = 22)
  (H : (a1 < 24 → (0 ≤ a1 ∧ a1 < 24) ∧ ∀ m5, m5 = umem m (a0 + 2) a1 0 → X 55 2 [(1, a0), (0, wr (a1 + 1))] [] m5 (qV K)) ∧ (¬ a1 < 24 → K m)) : X 55 2 [(1, a0), (0, a1)] [] m (qV K) := by
  refine x_s (q := (.iload_n 1, 0, 0, 0)) (cod_55 rfl) rfl rfl rfl ?_
  refine x_s (q := (.bipush 24, 0, 0, 0)) (cod_55 rfl) rfl rfl rfl ?_
  refine x_ic (p := ¬ a1 < 24) (tgt := 21) (cod_55 rfl) (by decide) xn_ge (fun h => ?_) (fun h => ?_)
  · have H1 := H.2 h
    refine x_retV (cod_55 rfl) rfl ?_
    exact H1
  · have H2 := H.1 (Classical.not_not.mp h)
    refine x_aldn (cod_55 rfl) rfl (pos_of ta0 (by decide)) ?_
    refine x_gc (kk := 1) (c := (a0 + 2)) (t := 1) (cod_55 rfl) ta0 (sq_c_2_1 ta0) rfl rfl ?_
    refine x_s (q := (.iload_n 1, 0, 0, 0)) (cod_55 rfl) rfl rfl rfl ?_
    refine x_s (q := (.iconst 0, 0, 0, 0)) (cod_55 rfl) rfl rfl rfl ?_
    obtain ⟨c3, H4⟩ := H2
    refine x_iast (cod_55 rfl) (sq_ac_2_1 ta0).s ((sq_ac_2_1 ta0).k c3.1 c3.2) ?_
    have H6 := H4 _ rfl
    generalize umem m (a0 + 2) a1 0 = m5 at H6 ⊢
    refine x_s (q := (.iinc 1 1, 0, 0, 0)) (cod_55 rfl) rfl rfl rfl ?_
    refine x_go (tgt := 2) (cod_55 rfl) (by decide) ?_
    exact H6
set_option maxRecDepth 100000 in
theorem w56_0 {m : Mm} {K : Mm → Prop} (a0 : Int) (ta0 : shp a0 = 22)
  (H : X 56 2 [(1, a0), (0, 0)] [] m (qV K)) : X 56 0 [(1, a0), (9, 0)] [] m (qV K) := by
  refine x_s (q := (.iconst 0, 0, 0, 0)) (cod_56 rfl) rfl rfl rfl ?_
  refine x_s (q := (.istore_n 1, 0, 0, 0)) (cod_56 rfl) rfl rfl rfl ?_
  exact H
theorem e56 {m : Mm} {K : Mm → Prop} (a0 : Int) (ta0 : shp a0 = 22)
  (H : X 56 2 [(1, a0), (0, 0)] [] m (qV K)) : TrV 56 [(1, a0)] m K := by
  exact w56_0 a0 ta0 H
set_option maxRecDepth 100000 in
theorem w56_2 {m : Mm} {K : Mm → Prop} (a0 : Int) (a1 : Int) (ta0 : shp a0 = 22)
  (H : (a1 < 10 → (0 ≤ a1 ∧ a1 < 10) ∧ ∀ m5, m5 = umem m (a0 + 3) a1 (-9) → X 56 2 [(1, a0), (0, wr (a1 + 1))] [] m5 (qV K)) ∧ (¬ a1 < 10 → K m)) : X 56 2 [(1, a0), (0, a1)] [] m (qV K) := by
  refine x_s (q := (.iload_n 1, 0, 0, 0)) (cod_56 rfl) rfl rfl rfl ?_
  refine x_s (q := (.bipush 10, 0, 0, 0)) (cod_56 rfl) rfl rfl rfl ?_
  refine x_ic (p := ¬ a1 < 10) (tgt := 22) (cod_56 rfl) (by decide) xn_ge (fun h => ?_) (fun h => ?_)
  · have H1 := H.2 h
    refine x_retV (cod_56 rfl) rfl ?_
    exact H1
  · have H2 := H.1 (Classical.not_not.mp h)
    refine x_aldn (cod_56 rfl) rfl (pos_of ta0 (by decide)) ?_
    refine x_gc (kk := 2) (c := (a0 + 3)) (t := 1) (cod_56 rfl) ta0 (sq_c_2_2 ta0) rfl rfl ?_
    refine x_s (q := (.iload_n 1, 0, 0, 0)) (cod_56 rfl) rfl rfl rfl ?_
    refine x_s (q := (.bipush (-9), 0, 0, 0)) (cod_56 rfl) rfl rfl rfl ?_
    obtain ⟨c3, H4⟩ := H2
    refine x_iast (cod_56 rfl) (sq_ac_2_2 ta0).s ((sq_ac_2_2 ta0).k c3.1 c3.2) ?_
    have H6 := H4 _ rfl
    generalize umem m (a0 + 3) a1 (-9) = m5 at H6 ⊢
    refine x_s (q := (.iinc 1 1, 0, 0, 0)) (cod_56 rfl) rfl rfl rfl ?_
    refine x_go (tgt := 2) (cod_56 rfl) (by decide) ?_
    exact H6
set_option maxRecDepth 100000 in
theorem w58_0 {m : Mm} {K : Mm → Prop}  
  (H : X 58 2 [(1, 1), (0, 0)] [] m (qV K)) : X 58 0 [(1, 1), (9, 0)] [] m (qV K) := by
  refine x_s (q := (.iconst 0, 0, 0, 0)) (cod_58 rfl) rfl rfl rfl ?_
  refine x_s (q := (.istore_n 1, 0, 0, 0)) (cod_58 rfl) rfl rfl rfl ?_
  exact H
theorem e58 {m : Mm} {K : Mm → Prop}  
  (H : X 58 2 [(1, 1), (0, 0)] [] m (qV K)) : TrV 58 [(1, 1)] m K := by
  exact w58_0  H
set_option maxRecDepth 100000 in
theorem w58_2 {m : Mm} {K : Mm → Prop} (a1 : Int) 
  (H : (a1 < 10 → (0 ≤ a1 ∧ a1 < 10) ∧ ∀ m7, m7 = umem m 595 a1 16777215 → X 58 2 [(1, 1), (0, wr (a1 + 1))] [] m7 (qV K)) ∧ (¬ a1 < 10 → ∀ m3, m3 = umem m 1 17 1 → K m3)) : X 58 2 [(1, 1), (0, a1)] [] m (qV K) := by
  refine x_s (q := (.iload_n 1, 0, 0, 0)) (cod_58 rfl) rfl rfl rfl ?_
  refine x_s (q := (.bipush 10, 0, 0, 0)) (cod_58 rfl) rfl rfl rfl ?_
  refine x_ic (p := ¬ a1 < 10) (tgt := 23) (cod_58 rfl) (by decide) xn_ge (fun h => ?_) (fun h => ?_)
  · have H1 := H.2 h
    refine x_s (q := (.aload_n 0, 0, 0, 0)) (cod_58 rfl) rfl rfl rfl ?_
    refine x_s (q := (.iconst 1, 0, 0, 0)) (cod_58 rfl) rfl rfl rfl ?_
    refine x_pf (kk := 17) (t := 0) (cod_58 rfl) sq_p_1 sq_l_1_17 rfl rfl rfl ?_
    have H4 := H1 _ rfl
    generalize umem m 1 17 1 = m3 at H4 ⊢
    refine x_retV (cod_58 rfl) rfl ?_
    exact H4
  · have H2 := H.1 (Classical.not_not.mp h)
    refine x_s (q := (.aload_n 0, 0, 0, 0)) (cod_58 rfl) rfl rfl rfl ?_
    refine x_gc (kk := 15) (c := 595) (t := 1) (cod_58 rfl) sq_p_1 sq_l_1_15 rfl rfl ?_
    refine x_s (q := (.iload_n 1, 0, 0, 0)) (cod_58 rfl) rfl rfl rfl ?_
    refine x_s (q := (.ldc_w 386, 16777215, 0, 0)) (cod_58 rfl) rfl rfl rfl ?_
    obtain ⟨c5, H6⟩ := H2
    refine x_iast (cod_58 rfl) sq_a_595.s (sq_a_595.k c5.1 c5.2) ?_
    have H8 := H6 _ rfl
    generalize umem m 595 a1 16777215 = m7 at H8 ⊢
    refine x_s (q := (.iinc 1 1, 0, 0, 0)) (cod_58 rfl) rfl rfl rfl ?_
    refine x_go (tgt := 2) (cod_58 rfl) (by decide) ?_
    exact H8
set_option maxRecDepth 100000 in
theorem w59_0 {m : Mm} {K : Int → Mm → Prop} (a1 : Int) 
  (H : (a1 < 0 → K (-2) m) ∧ (¬ a1 < 0 → (a1 > (m 1 1) → K (-2) m) ∧ (¬ a1 > (m 1 1) → TrI 60 [(1, 3), (1, 2), (0, a1), (1, (m 1 6))] m fun v7 m5 => ∀ m8, m8 = umem m5 1 1 0 → (v7 < 0 → K (-1) m8) ∧ (¬ v7 < 0 → shp (m8 1 6) = 24 ∧ ∀ m14, m14 = umem m8 1 6 (m8 1 5) → ∀ m16, m16 = umem m14 1 5 (m8 1 6) → TrV 56 [(1, 280)] m16 fun m18 => ∀ m20, m20 = umem m18 284 2 0 → ∀ m22, m22 = umem m20 284 3 0 → TrV 58 [(1, 1)] m22 fun m24 => K v7 m24)))) : X 59 0 [(1, 1), (0, a1), (9, 0), (9, 0)] [] m (qI K) := by
  refine x_s (q := (.iload_n 1, 0, 0, 0)) (cod_59 rfl) rfl rfl rfl ?_
  refine x_if (p := a1 < 0) (tgt := 12) (cod_59 rfl) (by decide) xj_lt (fun h => ?_) (fun h => ?_)
  · have H1 := H.1 h
    refine x_s (q := (.bipush (-2), 0, 0, 0)) (cod_59 rfl) rfl rfl rfl ?_
    refine x_retI (t := .int) (cod_59 rfl) rfl rfl rfl ?_
    exact H1
  · have H2 := H.2 h
    refine x_s (q := (.iload_n 1, 0, 0, 0)) (cod_59 rfl) rfl rfl rfl ?_
    refine x_s (q := (.aload_n 0, 0, 0, 0)) (cod_59 rfl) rfl rfl rfl ?_
    refine x_gf (kk := 1) (t := 0) (cod_59 rfl) sq_p_1 sq_l_1_1 rfl rfl ?_
    refine x_ic (p := ¬ a1 > (m 1 1)) (tgt := 15) (cod_59 rfl) (by decide) xn_le (fun h => ?_) (fun h => ?_)
    · have H3 := H2.2 h
      refine x_s (q := (.aload_n 0, 0, 0, 0)) (cod_59 rfl) rfl rfl rfl ?_
      refine x_gc (kk := 2) (c := 3) (t := 1) (cod_59 rfl) sq_p_1 sq_l_1_2 rfl rfl ?_
      refine x_s (q := (.aload_n 0, 0, 0, 0)) (cod_59 rfl) rfl rfl rfl ?_
      refine x_gc (kk := 0) (c := 2) (t := 1) (cod_59 rfl) sq_p_1 sq_l_1_0 rfl rfl ?_
      refine x_s (q := (.iload_n 1, 0, 0, 0)) (cod_59 rfl) rfl rfl rfl ?_
      refine x_s (q := (.aload_n 0, 0, 0, 0)) (cod_59 rfl) rfl rfl rfl ?_
      refine x_gf (kk := 6) (t := 1) (cod_59 rfl) sq_p_1 sq_l_1_6 rfl rfl ?_
      refine x_call (as := [(1, 3), (1, 2), (0, a1), (1, (m 1 6))]) (rest := []) (cod_59 rfl) rfl rfl (by decide) (by decide) rfl rfl (Nat.le_of_ble_eq_true rfl) (rcv0 sq_l_3_0 sq_p_3 (by decide)) (Nat.le_of_ble_eq_true rfl) ?_
      refine X.imp H3 ?_
      rintro _ m5 ⟨v7, rfl, H6⟩
      show X 59 31 [(1, 1), (0, a1), (9, 0), (9, 0)] [(0, v7)] m5 _
      refine x_s (q := (.istore_n 2, 0, 0, 0)) (cod_59 rfl) rfl rfl rfl ?_
      refine x_s (q := (.aload_n 0, 0, 0, 0)) (cod_59 rfl) rfl rfl rfl ?_
      refine x_s (q := (.iconst 0, 0, 0, 0)) (cod_59 rfl) rfl rfl rfl ?_
      refine x_pf (kk := 1) (t := 0) (cod_59 rfl) sq_p_1 sq_l_1_1 rfl rfl rfl ?_
      have H9 := H6 _ rfl
      generalize umem m5 1 1 0 = m8 at H9 ⊢
      refine x_s (q := (.iload_n 2, 0, 0, 0)) (cod_59 rfl) rfl rfl rfl ?_
      refine x_if (p := ¬ v7 < 0) (tgt := 43) (cod_59 rfl) (by decide) xn_ge (fun h => ?_) (fun h => ?_)
      · have H10 := H9.2 h
        refine x_s (q := (.aload_n 0, 0, 0, 0)) (cod_59 rfl) rfl rfl rfl ?_
        refine x_gf (kk := 6) (t := 1) (cod_59 rfl) sq_p_1 sq_l_1_6 rfl rfl ?_
        obtain ⟨c12, H13⟩ := H10
        refine x_astn (ls' := [(1, 1), (0, a1), (0, v7), (1, (m8 1 6))]) (cod_59 rfl) (pos_of c12 (by decide)) rfl rfl ?_
        refine x_s (q := (.aload_n 0, 0, 0, 0)) (cod_59 rfl) rfl rfl rfl ?_
        refine x_s (q := (.aload_n 0, 0, 0, 0)) (cod_59 rfl) rfl rfl rfl ?_
        refine x_gf (kk := 5) (t := 1) (cod_59 rfl) sq_p_1 sq_l_1_5 rfl rfl ?_
        refine x_pf (kk := 6) (t := 1) (cod_59 rfl) sq_p_1 sq_l_1_6 rfl rfl rfl ?_
        have H15 := H13 _ rfl
        generalize umem m8 1 6 (m8 1 5) = m14 at H15 ⊢
        refine x_s (q := (.aload_n 0, 0, 0, 0)) (cod_59 rfl) rfl rfl rfl ?_
        refine x_aldn (cod_59 rfl) rfl (pos_of c12 (by decide)) ?_
        refine x_pf (kk := 5) (t := 1) (cod_59 rfl) sq_p_1 sq_l_1_5 rfl rfl rfl ?_
        have H17 := H15 _ rfl
        generalize umem m14 1 5 (m8 1 6) = m16 at H17 ⊢
        refine x_s (q := (.aload_n 0, 0, 0, 0)) (cod_59 rfl) rfl rfl rfl ?_
        refine x_gc (kk := 7) (c := 280) (t := 1) (cod_59 rfl) sq_p_1 sq_l_1_7 rfl rfl ?_
        refine x_call (as := [(1, 280)]) (rest := []) (cod_59 rfl) rfl rfl (by decide) (by decide) rfl rfl (Nat.le_of_ble_eq_true rfl) (rcv0 sq_l_280_0 sq_p_280 (by decide)) (Nat.le_of_ble_eq_true rfl) ?_
        refine X.imp H17 ?_
        rintro _ m18 ⟨rfl, H19⟩
        show X 59 68 [(1, 1), (0, a1), (0, v7), (1, (m8 1 6))] [] m18 _
        refine x_s (q := (.aload_n 0, 0, 0, 0)) (cod_59 rfl) rfl rfl rfl ?_
        refine x_gc (kk := 8) (c := 284) (t := 1) (cod_59 rfl) sq_p_1 sq_l_1_8 rfl rfl ?_
        refine x_call (as := [(1, 284)]) (rest := []) (cod_59 rfl) rfl rfl (by decide) (by decide) rfl rfl (Nat.le_of_ble_eq_true rfl) (rcv0 sq_l_284_0 sq_p_284 (by decide)) (Nat.le_of_ble_eq_true rfl) ?_
        show X 57 0 [(1, 284)] [] m18 _
        refine x_s (q := (.aload_n 0, 0, 0, 0)) (cod_57 rfl) rfl rfl rfl ?_
        refine x_s (q := (.iconst 0, 0, 0, 0)) (cod_57 rfl) rfl rfl rfl ?_
        refine x_pf (kk := 2) (t := 0) (cod_57 rfl) sq_p_284 sq_l_284_2 rfl rfl rfl ?_
        have H21 := H19 _ rfl
        generalize umem m18 284 2 0 = m20 at H21 ⊢
        refine x_s (q := (.aload_n 0, 0, 0, 0)) (cod_57 rfl) rfl rfl rfl ?_
        refine x_s (q := (.iconst 0, 0, 0, 0)) (cod_57 rfl) rfl rfl rfl ?_
        refine x_pf (kk := 3) (t := 0) (cod_57 rfl) sq_p_284 sq_l_284_3 rfl rfl rfl ?_
        have H23 := H21 _ rfl
        generalize umem m20 284 3 0 = m22 at H23 ⊢
        refine x_rV (cod_57 rfl) rfl ?_
        show X 59 75 [(1, 1), (0, a1), (0, v7), (1, (m8 1 6))] [] m22 _
        refine x_s (q := (.aload_n 0, 0, 0, 0)) (cod_59 rfl) rfl rfl rfl ?_
        refine x_call (as := [(1, 1)]) (rest := []) (cod_59 rfl) rfl rfl (by decide) (by decide) rfl rfl (Nat.le_of_ble_eq_true rfl) (rcv0 sq_l_1_0 sq_p_1 (by decide)) (Nat.le_of_ble_eq_true rfl) ?_
        refine X.imp H23 ?_
        rintro _ m24 ⟨rfl, H25⟩
        show X 59 79 [(1, 1), (0, a1), (0, v7), (1, (m8 1 6))] [] m24 _
        refine x_s (q := (.iload_n 2, 0, 0, 0)) (cod_59 rfl) rfl rfl rfl ?_
        refine x_retI (t := .int) (cod_59 rfl) rfl rfl rfl ?_
        exact H25
      · have H11 := H9.1 (Classical.not_not.mp h)
        refine x_s (q := (.iconst (-1), 0, 0, 0)) (cod_59 rfl) rfl rfl rfl ?_
        refine x_retI (t := .int) (cod_59 rfl) rfl rfl rfl ?_
        exact H11
    · have H4 := H2.1 (Classical.not_not.mp h)
      refine x_s (q := (.bipush (-2), 0, 0, 0)) (cod_59 rfl) rfl rfl rfl ?_
      refine x_retI (t := .int) (cod_59 rfl) rfl rfl rfl ?_
      exact H4
theorem e59 {m : Mm} {K : Int → Mm → Prop} (a1 : Int) 
  (H : (a1 < 0 → K (-2) m) ∧ (¬ a1 < 0 → (a1 > (m 1 1) → K (-2) m) ∧ (¬ a1 > (m 1 1) → TrI 60 [(1, 3), (1, 2), (0, a1), (1, (m 1 6))] m fun v7 m5 => ∀ m8, m8 = umem m5 1 1 0 → (v7 < 0 → K (-1) m8) ∧ (¬ v7 < 0 → shp (m8 1 6) = 24 ∧ ∀ m14, m14 = umem m8 1 6 (m8 1 5) → ∀ m16, m16 = umem m14 1 5 (m8 1 6) → TrV 56 [(1, 280)] m16 fun m18 => ∀ m20, m20 = umem m18 284 2 0 → ∀ m22, m22 = umem m20 284 3 0 → TrV 58 [(1, 1)] m22 fun m24 => K v7 m24)))) : TrI 59 [(1, 1), (0, a1)] m K := by
  exact w59_0 a1 H
set_option maxRecDepth 100000 in
theorem w60_0 {m : Mm} {K : Int → Mm → Prop} (a1 : Int) (a2 : Int) (a3 : Int) (ta3 : shp a3 = 24)
  (H : 1 ≤ a1 ∧ TrV 16 [(1, 3), (1, a1), (0, a2)] m fun m3 => ∀ m5, m5 = umem m3 a3 4 0 → ∀ m7, m7 = umem m5 3 7 0 → X 60 19 [(1, 3), (1, a1), (0, a2), (1, a3), (0, 0), (9, 0), (9, 0)] [] m7 (qI K)) : X 60 0 [(1, 3), (1, a1), (0, a2), (1, a3), (9, 0), (9, 0), (9, 0)] [] m (qI K) := by
  refine x_s (q := (.aload_n 0, 0, 0, 0)) (cod_60 rfl) rfl rfl rfl ?_
  obtain ⟨c1, H2⟩ := H
  refine x_aldn (cod_60 rfl) rfl c1 ?_
  refine x_s (q := (.iload_n 2, 0, 0, 0)) (cod_60 rfl) rfl rfl rfl ?_
  refine x_call (as := [(1, 3), (1, a1), (0, a2)]) (rest := []) (cod_60 rfl) rfl rfl (by decide) (by decide) rfl rfl (Nat.le_of_ble_eq_true rfl) (rcv0 sq_l_3_0 sq_p_3 (by decide)) (Nat.le_of_ble_eq_true rfl) ?_
  refine X.imp H2 ?_
  rintro _ m3 ⟨rfl, H4⟩
  show X 60 6 [(1, 3), (1, a1), (0, a2), (1, a3), (9, 0), (9, 0), (9, 0)] [] m3 _
  refine x_aldn (cod_60 rfl) rfl (pos_of ta3 (by decide)) ?_
  refine x_s (q := (.iconst 0, 0, 0, 0)) (cod_60 rfl) rfl rfl rfl ?_
  refine x_pf (kk := 4) (t := 0) (cod_60 rfl) ta3 (sq_c_4_4 ta3) rfl rfl rfl ?_
  have H6 := H4 _ rfl
  generalize umem m3 a3 4 0 = m5 at H6 ⊢
  refine x_s (q := (.iconst 0, 0, 0, 0)) (cod_60 rfl) rfl rfl rfl ?_
  refine x_s (q := (.istore 4, 0, 0, 0)) (cod_60 rfl) rfl rfl rfl ?_
  refine x_s (q := (.aload_n 0, 0, 0, 0)) (cod_60 rfl) rfl rfl rfl ?_
  refine x_s (q := (.iconst 0, 0, 0, 0)) (cod_60 rfl) rfl rfl rfl ?_
  refine x_pf (kk := 7) (t := 0) (cod_60 rfl) sq_p_3 sq_l_3_7 rfl rfl rfl ?_
  have H8 := H6 _ rfl
  generalize umem m5 3 7 0 = m7 at H8 ⊢
  exact H8
theorem e60 {m : Mm} {K : Int → Mm → Prop} (a1 : Int) (a2 : Int) (a3 : Int) (ta3 : shp a3 = 24)
  (H : 1 ≤ a1 ∧ TrV 16 [(1, 3), (1, a1), (0, a2)] m fun m3 => ∀ m5, m5 = umem m3 a3 4 0 → ∀ m7, m7 = umem m5 3 7 0 → X 60 19 [(1, 3), (1, a1), (0, a2), (1, a3), (0, 0), (9, 0), (9, 0)] [] m7 (qI K)) : TrI 60 [(1, 3), (1, a1), (0, a2), (1, a3)] m K := by
  exact w60_0 a1 a2 a3 ta3 H
set_option maxRecDepth 100000 in
theorem w60_19 {m : Mm} {K : Int → Mm → Prop} (ua1 : aV) (ua2 : aV) (a3 : Int) (a4 : Int) (ua5 : aV) (ua6 : aV) (ta3 : shp a3 = 24)
  (H : ((m 3 7) < (m 3 4) → (shp (m 3 3) = 0 ∧ slot (m 3 3) (m 3 7) = some none) ∧ (((m (m 3 3) (m 3 7)) = 10 ∨ (m (m 3 3) (m 3 7)) = 32) → ∀ m17, m17 = umem m 3 7 (wr ((m 3 7) + 1)) → X 60 19 [(1, 3), ua1, ua2, (1, a3), (0, 0), (0, m (m 3 3) (m 3 7)), ua6] [] m17 (qI K)) ∧ (¬ ((m (m 3 3) (m 3 7)) = 10 ∨ (m (m 3 3) (m 3 7)) = 32) → TrI 32 [(0, m (m 3 3) (m 3 7))] m fun v9 m7 => (v9 < 0 → ((97 ≤ (m (m 3 3) (m 3 7)) ∧ (m (m 3 3) (m 3 7)) ≤ 122) → X 60 83 [(1, 3), ua1, ua2, (1, a3), (0, a4), (0, m (m 3 3) (m 3 7)), (0, v9)] [] m7 (qI K)) ∧ (¬ (97 ≤ (m (m 3 3) (m 3 7)) ∧ (m (m 3 3) (m 3 7)) ≤ 122) → TrI 42 [(1, 3), (0, 1)] m7 fun v16 m14 => K (-1) m14)) ∧ (¬ v9 < 0 → X 60 83 [(1, 3), ua1, ua2, (1, a3), (0, a4), (0, m (m 3 3) (m 3 7)), (0, v9)] [] m7 (qI K)))) ∧ (¬ (m 3 7) < (m 3 4) → K (m a3 4) m)) : X 60 19 [(1, 3), ua1, ua2, (1, a3), (0, a4), ua5, ua6] [] m (qI K) := by
  refine x_s (q := (.aload_n 0, 0, 0, 0)) (cod_60 rfl) rfl rfl rfl ?_
  refine x_gf (kk := 7) (t := 0) (cod_60 rfl) sq_p_3 sq_l_3_7 rfl rfl ?_
  refine x_s (q := (.aload_n 0, 0, 0, 0)) (cod_60 rfl) rfl rfl rfl ?_
  refine x_gf (kk := 4) (t := 0) (cod_60 rfl) sq_p_3 sq_l_3_4 rfl rfl ?_
  refine x_ic (p := ¬ (m 3 7) < (m 3 4)) (tgt := 146) (cod_60 rfl) (by decide) xn_ge (fun h => ?_) (fun h => ?_)
  · have H1 := H.2 h
    refine x_aldn (cod_60 rfl) rfl (pos_of ta3 (by decide)) ?_
    refine x_gf (kk := 4) (t := 0) (cod_60 rfl) ta3 (sq_c_4_4 ta3) rfl rfl ?_
    refine x_retI (t := .int) (cod_60 rfl) rfl rfl rfl ?_
    exact H1
  · have H2 := H.1 (Classical.not_not.mp h)
    refine x_s (q := (.aload_n 0, 0, 0, 0)) (cod_60 rfl) rfl rfl rfl ?_
    refine x_gf (kk := 3) (t := 1) (cod_60 rfl) sq_p_3 sq_l_3_3 rfl rfl ?_
    refine x_s (q := (.aload_n 0, 0, 0, 0)) (cod_60 rfl) rfl rfl rfl ?_
    refine x_gf (kk := 7) (t := 0) (cod_60 rfl) sq_p_3 sq_l_3_7 rfl rfl ?_
    obtain ⟨c3, H4⟩ := H2
    refine x_iald (cod_60 rfl) c3.1 c3.2 ?_
    refine x_s (q := (.istore 5, 0, 0, 0)) (cod_60 rfl) rfl rfl rfl ?_
    refine x_s (q := (.iload 5, 0, 0, 0)) (cod_60 rfl) rfl rfl rfl ?_
    refine x_call (as := [(0, m (m 3 3) (m 3 7))]) (rest := []) (cod_60 rfl) rfl rfl (by decide) (by decide) rfl rfl (Nat.le_of_ble_eq_true rfl) rfl (Nat.le_of_ble_eq_true rfl) ?_
    refine x_pure (p20) ?_
    show X 60 46 [(1, 3), ua1, ua2, (1, a3), (0, a4), (0, m (m 3 3) (m 3 7)), ua6] [(0, bi ((m (m 3 3) (m 3 7)) = 10 ∨ (m (m 3 3) (m 3 7)) = 32))] m _
    refine x_if (p := ¬ ((m (m 3 3) (m 3 7)) = 10 ∨ (m (m 3 3) (m 3 7)) = 32)) (tgt := 55) (cod_60 rfl) (by decide) xb_eq (fun h => ?_) (fun h => ?_)
    · have H5 := H4.2 h
      refine x_s (q := (.iload 5, 0, 0, 0)) (cod_60 rfl) rfl rfl rfl ?_
      refine x_call (as := [(0, m (m 3 3) (m 3 7))]) (rest := []) (cod_60 rfl) rfl rfl (by decide) (by decide) rfl rfl (Nat.le_of_ble_eq_true rfl) rfl (Nat.le_of_ble_eq_true rfl) ?_
      refine X.imp H5 ?_
      rintro _ m7 ⟨v9, rfl, H8⟩
      show X 60 60 [(1, 3), ua1, ua2, (1, a3), (0, a4), (0, m (m 3 3) (m 3 7)), ua6] [(0, v9)] m7 _
      refine x_s (q := (.istore 6, 0, 0, 0)) (cod_60 rfl) rfl rfl rfl ?_
      refine x_s (q := (.iload 6, 0, 0, 0)) (cod_60 rfl) rfl rfl rfl ?_
      refine x_if (p := ¬ v9 < 0) (tgt := 83) (cod_60 rfl) (by decide) xn_ge (fun h => ?_) (fun h => ?_)
      · have H10 := H8.2 h
        exact H10
      · have H11 := H8.1 (Classical.not_not.mp h)
        refine x_s (q := (.iload 5, 0, 0, 0)) (cod_60 rfl) rfl rfl rfl ?_
        refine x_call (as := [(0, m (m 3 3) (m 3 7))]) (rest := []) (cod_60 rfl) rfl rfl (by decide) (by decide) rfl rfl (Nat.le_of_ble_eq_true rfl) rfl (Nat.le_of_ble_eq_true rfl) ?_
        refine x_pure (p21) ?_
        show X 60 72 [(1, 3), ua1, ua2, (1, a3), (0, a4), (0, m (m 3 3) (m 3 7)), (0, v9)] [(0, bi (97 ≤ (m (m 3 3) (m 3 7)) ∧ (m (m 3 3) (m 3 7)) ≤ 122))] m7 _
        refine x_if (p := 97 ≤ (m (m 3 3) (m 3 7)) ∧ (m (m 3 3) (m 3 7)) ≤ 122) (tgt := 83) (cod_60 rfl) (by decide) xb_ne (fun h => ?_) (fun h => ?_)
        · have H12 := H11.1 h
          exact H12
        · have H13 := H11.2 h
          refine x_s (q := (.aload_n 0, 0, 0, 0)) (cod_60 rfl) rfl rfl rfl ?_
          refine x_s (q := (.iconst 1, 0, 0, 0)) (cod_60 rfl) rfl rfl rfl ?_
          refine x_call (as := [(1, 3), (0, 1)]) (rest := []) (cod_60 rfl) rfl rfl (by decide) (by decide) rfl rfl (Nat.le_of_ble_eq_true rfl) (rcv0 sq_l_3_0 sq_p_3 (by decide)) (Nat.le_of_ble_eq_true rfl) ?_
          refine X.imp H13 ?_
          rintro _ m14 ⟨v16, rfl, H15⟩
          show X 60 80 [(1, 3), ua1, ua2, (1, a3), (0, a4), (0, m (m 3 3) (m 3 7)), (0, v9)] [(0, v16)] m14 _
          refine x_s (q := (.pop, 0, 0, 0)) (cod_60 rfl) rfl rfl rfl ?_
          refine x_s (q := (.iconst (-1), 0, 0, 0)) (cod_60 rfl) rfl rfl rfl ?_
          refine x_retI (t := .int) (cod_60 rfl) rfl rfl rfl ?_
          exact H15
    · have H6 := H4.1 (Classical.not_not.mp h)
      refine x_s (q := (.iconst 0, 0, 0, 0)) (cod_60 rfl) rfl rfl rfl ?_
      refine x_s (q := (.istore 4, 0, 0, 0)) (cod_60 rfl) rfl rfl rfl ?_
      refine x_go (tgt := 133) (cod_60 rfl) (by decide) ?_
      refine x_s (q := (.aload_n 0, 0, 0, 0)) (cod_60 rfl) rfl rfl rfl ?_
      refine x_s (q := (.dup, 0, 0, 0)) (cod_60 rfl) rfl rfl rfl ?_
      refine x_gf (kk := 7) (t := 0) (cod_60 rfl) sq_p_3 sq_l_3_7 rfl rfl ?_
      refine x_s (q := (.iconst 1, 0, 0, 0)) (cod_60 rfl) rfl rfl rfl ?_
      refine x_s (q := (.iadd, 0, 0, 0)) (cod_60 rfl) rfl rfl rfl ?_
      refine x_pf (kk := 7) (t := 0) (cod_60 rfl) sq_p_3 sq_l_3_7 rfl rfl rfl ?_
      have H18 := H6 _ rfl
      generalize umem m 3 7 (wr ((m 3 7) + 1)) = m17 at H18 ⊢
      refine x_go (tgt := 19) (cod_60 rfl) (by decide) ?_
      exact H18
set_option maxRecDepth 100000 in
theorem w60_83 {m : Mm} {K : Int → Mm → Prop} (ua1 : aV) (ua2 : aV) (a3 : Int) (a4 : Int) (a5 : Int) (a6 : Int) (ta3 : shp a3 = 24)
  (H : (a4 = 0 → shp a3 = 24 ∧ ((10 ≤ m a3 4) → TrI 42 [(1, 3), (0, 2)] m fun v9 m7 => K (-1) m7) ∧ (¬ (10 ≤ m a3 4) → X 60 113 [(1, 3), ua1, ua2, (1, a3), (0, a4), (0, a5), (0, a6)] [] m (qI K))) ∧ (¬ a4 = 0 → (shp a3 = 24 ∧ m a3 4 ≤ 10) ∧ ((0 < m a3 4 ∧ 10 ≤ m (a3 + 1) (m a3 4 - 1)) → TrI 42 [(1, 3), (0, 2)] m fun v16 m14 => K (-1) m14) ∧ (¬ (0 < m a3 4 ∧ 10 ≤ m (a3 + 1) (m a3 4 - 1)) → X 60 113 [(1, 3), ua1, ua2, (1, a3), (0, a4), (0, a5), (0, a6)] [] m (qI K)))) : X 60 83 [(1, 3), ua1, ua2, (1, a3), (0, a4), (0, a5), (0, a6)] [] m (qI K) := by
  refine x_s (q := (.iload 4, 0, 0, 0)) (cod_60 rfl) rfl rfl rfl ?_
  refine x_if (p := a4 = 0) (tgt := 98) (cod_60 rfl) (by decide) xj_eq (fun h => ?_) (fun h => ?_)
  · have H1 := H.1 h
    refine x_aldn (cod_60 rfl) rfl (pos_of ta3 (by decide)) ?_
    obtain ⟨c3, H4⟩ := H1
    refine x_call (as := [(1, a3)]) (rest := []) (cod_60 rfl) rfl rfl (by decide) (by decide) rfl rfl (Nat.le_of_ble_eq_true rfl) (rcv0 (sq_c_4_0 ta3) ta3 (by decide)) (Nat.le_of_ble_eq_true rfl) ?_
    refine x_pure (p62 c3) ?_
    show X 60 102 [(1, 3), ua1, ua2, (1, a3), (0, a4), (0, a5), (0, a6)] [(0, bi (10 ≤ m a3 4))] m _
    refine x_if (p := ¬ (10 ≤ m a3 4)) (tgt := 113) (cod_60 rfl) (by decide) xb_eq (fun h => ?_) (fun h => ?_)
    · have H5 := H4.2 h
      exact H5
    · have H6 := H4.1 (Classical.not_not.mp h)
      refine x_s (q := (.aload_n 0, 0, 0, 0)) (cod_60 rfl) rfl rfl rfl ?_
      refine x_s (q := (.iconst 2, 0, 0, 0)) (cod_60 rfl) rfl rfl rfl ?_
      refine x_call (as := [(1, 3), (0, 2)]) (rest := []) (cod_60 rfl) rfl rfl (by decide) (by decide) rfl rfl (Nat.le_of_ble_eq_true rfl) (rcv0 sq_l_3_0 sq_p_3 (by decide)) (Nat.le_of_ble_eq_true rfl) ?_
      refine X.imp H6 ?_
      rintro _ m7 ⟨v9, rfl, H8⟩
      show X 60 110 [(1, 3), ua1, ua2, (1, a3), (0, a4), (0, a5), (0, a6)] [(0, v9)] m7 _
      refine x_s (q := (.pop, 0, 0, 0)) (cod_60 rfl) rfl rfl rfl ?_
      refine x_s (q := (.iconst (-1), 0, 0, 0)) (cod_60 rfl) rfl rfl rfl ?_
      refine x_retI (t := .int) (cod_60 rfl) rfl rfl rfl ?_
      exact H8
  · have H2 := H.2 h
    refine x_aldn (cod_60 rfl) rfl (pos_of ta3 (by decide)) ?_
    obtain ⟨c10, H11⟩ := H2
    refine x_call (as := [(1, a3)]) (rest := []) (cod_60 rfl) rfl rfl (by decide) (by decide) rfl rfl (Nat.le_of_ble_eq_true rfl) (rcv0 (sq_c_4_0 ta3) ta3 (by decide)) (Nat.le_of_ble_eq_true rfl) ?_
    refine x_pure (p61 c10) ?_
    show X 60 92 [(1, 3), ua1, ua2, (1, a3), (0, a4), (0, a5), (0, a6)] [(0, bi (0 < m a3 4 ∧ 10 ≤ m (a3 + 1) (m a3 4 - 1)))] m _
    refine x_if (p := ¬ (0 < m a3 4 ∧ 10 ≤ m (a3 + 1) (m a3 4 - 1))) (tgt := 113) (cod_60 rfl) (by decide) xb_eq (fun h => ?_) (fun h => ?_)
    · have H12 := H11.2 h
      exact H12
    · have H13 := H11.1 (Classical.not_not.mp h)
      refine x_go (tgt := 105) (cod_60 rfl) (by decide) ?_
      refine x_s (q := (.aload_n 0, 0, 0, 0)) (cod_60 rfl) rfl rfl rfl ?_
      refine x_s (q := (.iconst 2, 0, 0, 0)) (cod_60 rfl) rfl rfl rfl ?_
      refine x_call (as := [(1, 3), (0, 2)]) (rest := []) (cod_60 rfl) rfl rfl (by decide) (by decide) rfl rfl (Nat.le_of_ble_eq_true rfl) (rcv0 sq_l_3_0 sq_p_3 (by decide)) (Nat.le_of_ble_eq_true rfl) ?_
      refine X.imp H13 ?_
      rintro _ m14 ⟨v16, rfl, H15⟩
      show X 60 110 [(1, 3), ua1, ua2, (1, a3), (0, a4), (0, a5), (0, a6)] [(0, v16)] m14 _
      refine x_s (q := (.pop, 0, 0, 0)) (cod_60 rfl) rfl rfl rfl ?_
      refine x_s (q := (.iconst (-1), 0, 0, 0)) (cod_60 rfl) rfl rfl rfl ?_
      refine x_retI (t := .int) (cod_60 rfl) rfl rfl rfl ?_
      exact H15
set_option maxRecDepth 100000 in
theorem w60_113 {m : Mm} {K : Int → Mm → Prop} (ua1 : aV) (ua2 : aV) (a3 : Int) (a4 : Int) (a5 : Int) (a6 : Int) (ta3 : shp a3 = 24)
  (H : (a4 = 0 → TrV 63 [(1, a3)] m fun m7 => TrV 64 [(1, a3), (0, a5), (0, a6)] m7 fun m9 => ∀ m11, m11 = umem m9 3 7 (wr ((m9 3 7) + 1)) → X 60 19 [(1, 3), ua1, ua2, (1, a3), (0, 1), (0, a5), (0, a6)] [] m11 (qI K)) ∧ (¬ a4 = 0 → TrV 64 [(1, a3), (0, a5), (0, a6)] m fun m3 => ∀ m5, m5 = umem m3 3 7 (wr ((m3 3 7) + 1)) → X 60 19 [(1, 3), ua1, ua2, (1, a3), (0, a4), (0, a5), (0, a6)] [] m5 (qI K))) : X 60 113 [(1, 3), ua1, ua2, (1, a3), (0, a4), (0, a5), (0, a6)] [] m (qI K) := by
  refine x_s (q := (.iload 4, 0, 0, 0)) (cod_60 rfl) rfl rfl rfl ?_
  refine x_if (p := ¬ a4 = 0) (tgt := 125) (cod_60 rfl) (by decide) xj_ne (fun h => ?_) (fun h => ?_)
  · have H1 := H.2 h
    refine x_aldn (cod_60 rfl) rfl (pos_of ta3 (by decide)) ?_
    refine x_s (q := (.iload 5, 0, 0, 0)) (cod_60 rfl) rfl rfl rfl ?_
    refine x_s (q := (.iload 6, 0, 0, 0)) (cod_60 rfl) rfl rfl rfl ?_
    refine x_call (as := [(1, a3), (0, a5), (0, a6)]) (rest := []) (cod_60 rfl) rfl rfl (by decide) (by decide) rfl rfl (Nat.le_of_ble_eq_true rfl) (rcv0 (sq_c_4_0 ta3) ta3 (by decide)) (Nat.le_of_ble_eq_true rfl) ?_
    refine X.imp H1 ?_
    rintro _ m3 ⟨rfl, H4⟩
    show X 60 133 [(1, 3), ua1, ua2, (1, a3), (0, a4), (0, a5), (0, a6)] [] m3 _
    refine x_s (q := (.aload_n 0, 0, 0, 0)) (cod_60 rfl) rfl rfl rfl ?_
    refine x_s (q := (.dup, 0, 0, 0)) (cod_60 rfl) rfl rfl rfl ?_
    refine x_gf (kk := 7) (t := 0) (cod_60 rfl) sq_p_3 sq_l_3_7 rfl rfl ?_
    refine x_s (q := (.iconst 1, 0, 0, 0)) (cod_60 rfl) rfl rfl rfl ?_
    refine x_s (q := (.iadd, 0, 0, 0)) (cod_60 rfl) rfl rfl rfl ?_
    refine x_pf (kk := 7) (t := 0) (cod_60 rfl) sq_p_3 sq_l_3_7 rfl rfl rfl ?_
    have H6 := H4 _ rfl
    generalize umem m3 3 7 (wr ((m3 3 7) + 1)) = m5 at H6 ⊢
    refine x_go (tgt := 19) (cod_60 rfl) (by decide) ?_
    exact H6
  · have H2 := H.1 (Classical.not_not.mp h)
    refine x_aldn (cod_60 rfl) rfl (pos_of ta3 (by decide)) ?_
    refine x_call (as := [(1, a3)]) (rest := []) (cod_60 rfl) rfl rfl (by decide) (by decide) rfl rfl (Nat.le_of_ble_eq_true rfl) (rcv0 (sq_c_4_0 ta3) ta3 (by decide)) (Nat.le_of_ble_eq_true rfl) ?_
    refine X.imp H2 ?_
    rintro _ m7 ⟨rfl, H8⟩
    show X 60 122 [(1, 3), ua1, ua2, (1, a3), (0, a4), (0, a5), (0, a6)] [] m7 _
    refine x_s (q := (.iconst 1, 0, 0, 0)) (cod_60 rfl) rfl rfl rfl ?_
    refine x_s (q := (.istore 4, 0, 0, 0)) (cod_60 rfl) rfl rfl rfl ?_
    refine x_aldn (cod_60 rfl) rfl (pos_of ta3 (by decide)) ?_
    refine x_s (q := (.iload 5, 0, 0, 0)) (cod_60 rfl) rfl rfl rfl ?_
    refine x_s (q := (.iload 6, 0, 0, 0)) (cod_60 rfl) rfl rfl rfl ?_
    refine x_call (as := [(1, a3), (0, a5), (0, a6)]) (rest := []) (cod_60 rfl) rfl rfl (by decide) (by decide) rfl rfl (Nat.le_of_ble_eq_true rfl) (rcv0 (sq_c_4_0 ta3) ta3 (by decide)) (Nat.le_of_ble_eq_true rfl) ?_
    refine X.imp H8 ?_
    rintro _ m9 ⟨rfl, H10⟩
    show X 60 133 [(1, 3), ua1, ua2, (1, a3), (0, 1), (0, a5), (0, a6)] [] m9 _
    refine x_s (q := (.aload_n 0, 0, 0, 0)) (cod_60 rfl) rfl rfl rfl ?_
    refine x_s (q := (.dup, 0, 0, 0)) (cod_60 rfl) rfl rfl rfl ?_
    refine x_gf (kk := 7) (t := 0) (cod_60 rfl) sq_p_3 sq_l_3_7 rfl rfl ?_
    refine x_s (q := (.iconst 1, 0, 0, 0)) (cod_60 rfl) rfl rfl rfl ?_
    refine x_s (q := (.iadd, 0, 0, 0)) (cod_60 rfl) rfl rfl rfl ?_
    refine x_pf (kk := 7) (t := 0) (cod_60 rfl) sq_p_3 sq_l_3_7 rfl rfl rfl ?_
    have H12 := H10 _ rfl
    generalize umem m9 3 7 (wr ((m9 3 7) + 1)) = m11 at H12 ⊢
    refine x_go (tgt := 19) (cod_60 rfl) (by decide) ?_
    exact H12
set_option maxRecDepth 100000 in
theorem w63_0 {m : Mm} {K : Mm → Prop} (a0 : Int) (ta0 : shp a0 = 24)
  (H : ((m a0 4) < 10 → (0 ≤ (m a0 4) ∧ (m a0 4) < 10) ∧ ∀ m5, m5 = umem m (a0 + 1) (m a0 4) 0 → (0 ≤ (m5 a0 4) ∧ (m5 a0 4) < 10) ∧ ∀ m9, m9 = umem m5 (a0 + 25 + (m5 a0 4)) 0 0 → ∀ m11, m11 = umem m9 a0 4 (wr ((m9 a0 4) + 1)) → K m11) ∧ (¬ (m a0 4) < 10 → K m)) : X 63 0 [(1, a0)] [] m (qV K) := by
  refine x_aldn (cod_63 rfl) rfl (pos_of ta0 (by decide)) ?_
  refine x_gf (kk := 4) (t := 0) (cod_63 rfl) ta0 (sq_c_4_4 ta0) rfl rfl ?_
  refine x_s (q := (.bipush 10, 0, 0, 0)) (cod_63 rfl) rfl rfl rfl ?_
  refine x_ic (p := ¬ (m a0 4) < 10) (tgt := 41) (cod_63 rfl) (by decide) xn_ge (fun h => ?_) (fun h => ?_)
  · have H1 := H.2 h
    refine x_retV (cod_63 rfl) rfl ?_
    exact H1
  · have H2 := H.1 (Classical.not_not.mp h)
    refine x_aldn (cod_63 rfl) rfl (pos_of ta0 (by decide)) ?_
    refine x_gc (kk := 0) (c := (a0 + 1)) (t := 1) (cod_63 rfl) ta0 (sq_c_4_0 ta0) rfl rfl ?_
    refine x_aldn (cod_63 rfl) rfl (pos_of ta0 (by decide)) ?_
    refine x_gf (kk := 4) (t := 0) (cod_63 rfl) ta0 (sq_c_4_4 ta0) rfl rfl ?_
    refine x_s (q := (.iconst 0, 0, 0, 0)) (cod_63 rfl) rfl rfl rfl ?_
    obtain ⟨c3, H4⟩ := H2
    refine x_iast (cod_63 rfl) (sq_ac_4_0 ta0).s ((sq_ac_4_0 ta0).k c3.1 c3.2) ?_
    have H6 := H4 _ rfl
    generalize umem m (a0 + 1) (m a0 4) 0 = m5 at H6 ⊢
    refine x_aldn (cod_63 rfl) rfl (pos_of ta0 (by decide)) ?_
    refine x_gc (kk := 3) (c := (a0 + 24)) (t := 1) (cod_63 rfl) ta0 (sq_c_4_3 ta0) rfl rfl ?_
    refine x_aldn (cod_63 rfl) rfl (pos_of ta0 (by decide)) ?_
    refine x_gf (kk := 4) (t := 0) (cod_63 rfl) ta0 (sq_c_4_4 ta0) rfl rfl ?_
    obtain ⟨c7, H8⟩ := H6
    refine x_aaldc (c := (a0 + 25 + (m5 a0 4))) (cod_63 rfl) (by rw [(sq_roc_4_3 (j := m5 a0 4) ta0 c7.1 c7.2).2]; decide) (sq_roc_4_3 (j := m5 a0 4) ta0 c7.1 c7.2).1 ?_
    refine x_s (q := (.iconst 0, 0, 0, 0)) (cod_63 rfl) rfl rfl rfl ?_
    refine x_s (q := (.iconst 0, 0, 0, 0)) (cod_63 rfl) rfl rfl rfl ?_
    refine x_iast (cod_63 rfl) (sq_rwc_4_3 (j := m5 a0 4) ta0 c7.1 c7.2).s ((sq_rwc_4_3 (j := m5 a0 4) ta0 c7.1 c7.2).k (by decide) (by decide)) ?_
    have H10 := H8 _ rfl
    generalize umem m5 (a0 + 25 + (m5 a0 4)) 0 0 = m9 at H10 ⊢
    refine x_aldn (cod_63 rfl) rfl (pos_of ta0 (by decide)) ?_
    refine x_s (q := (.dup, 0, 0, 0)) (cod_63 rfl) rfl rfl rfl ?_
    refine x_gf (kk := 4) (t := 0) (cod_63 rfl) ta0 (sq_c_4_4 ta0) rfl rfl ?_
    refine x_s (q := (.iconst 1, 0, 0, 0)) (cod_63 rfl) rfl rfl rfl ?_
    refine x_s (q := (.iadd, 0, 0, 0)) (cod_63 rfl) rfl rfl rfl ?_
    refine x_pf (kk := 4) (t := 0) (cod_63 rfl) ta0 (sq_c_4_4 ta0) rfl rfl rfl ?_
    have H12 := H10 _ rfl
    generalize umem m9 a0 4 (wr ((m9 a0 4) + 1)) = m11 at H12 ⊢
    refine x_retV (cod_63 rfl) rfl ?_
    exact H12
theorem e63 {m : Mm} {K : Mm → Prop} (a0 : Int) (ta0 : shp a0 = 24)
  (H : ((m a0 4) < 10 → (0 ≤ (m a0 4) ∧ (m a0 4) < 10) ∧ ∀ m5, m5 = umem m (a0 + 1) (m a0 4) 0 → (0 ≤ (m5 a0 4) ∧ (m5 a0 4) < 10) ∧ ∀ m9, m9 = umem m5 (a0 + 25 + (m5 a0 4)) 0 0 → ∀ m11, m11 = umem m9 a0 4 (wr ((m9 a0 4) + 1)) → K m11) ∧ (¬ (m a0 4) < 10 → K m)) : TrV 63 [(1, a0)] m K := by
  exact w63_0 a0 ta0 H
set_option maxRecDepth 100000 in
theorem w64_0 {m : Mm} {K : Mm → Prop} (a0 : Int) (a1 : Int) (a2 : Int) (ta0 : shp a0 = 24)
  (H : ((wr ((m a0 4) - 1)) < 0 → K m) ∧ (¬ (wr ((m a0 4) - 1)) < 0 → (0 ≤ (wr ((m a0 4) - 1)) ∧ (wr ((m a0 4) - 1)) < 10) ∧ ((m (a0 + 1) (wr ((m a0 4) - 1))) < 10 → (0 ≤ (m (a0 + 1) (wr ((m a0 4) - 1))) ∧ (m (a0 + 1) (wr ((m a0 4) - 1))) < 10) ∧ ∀ m9, m9 = umem m (a0 + 3 + (wr ((m a0 4) - 1))) (m (a0 + 1) (wr ((m a0 4) - 1))) a1 → ∀ m11, m11 = umem m9 (a0 + 14 + (wr ((m a0 4) - 1))) (m (a0 + 1) (wr ((m a0 4) - 1))) a2 → (a2 < 0 → ((97 ≤ a1 ∧ a1 ≤ 122) → X 64 71 [(1, a0), (0, a1), (0, a2), (0, wr ((m a0 4) - 1)), (0, m (a0 + 1) (wr ((m a0 4) - 1)))] [(0, wr ((wr (a1 - 97)) + 1)), (0, m (a0 + 1) (wr ((m a0 4) - 1))), (1, (a0 + 25 + (wr ((m a0 4) - 1))))] m11 (qV K)) ∧ (¬ (97 ≤ a1 ∧ a1 ≤ 122) → X 64 71 [(1, a0), (0, a1), (0, a2), (0, wr ((m a0 4) - 1)), (0, m (a0 + 1) (wr ((m a0 4) - 1)))] [(0, 0), (0, m (a0 + 1) (wr ((m a0 4) - 1))), (1, (a0 + 25 + (wr ((m a0 4) - 1))))] m11 (qV K))) ∧ (¬ a2 < 0 → X 64 71 [(1, a0), (0, a1), (0, a2), (0, wr ((m a0 4) - 1)), (0, m (a0 + 1) (wr ((m a0 4) - 1)))] [(0, 27), (0, m (a0 + 1) (wr ((m a0 4) - 1))), (1, (a0 + 25 + (wr ((m a0 4) - 1))))] m11 (qV K))) ∧ (¬ (m (a0 + 1) (wr ((m a0 4) - 1))) < 10 → K m))) : X 64 0 [(1, a0), (0, a1), (0, a2), (9, 0), (9, 0)] [] m (qV K) := by
  refine x_aldn (cod_64 rfl) rfl (pos_of ta0 (by decide)) ?_
  refine x_gf (kk := 4) (t := 0) (cod_64 rfl) ta0 (sq_c_4_4 ta0) rfl rfl ?_
  refine x_s (q := (.iconst 1, 0, 0, 0)) (cod_64 rfl) rfl rfl rfl ?_
  refine x_s (q := (.isub, 0, 0, 0)) (cod_64 rfl) rfl rfl rfl ?_
  refine x_s (q := (.istore_n 3, 0, 0, 0)) (cod_64 rfl) rfl rfl rfl ?_
  refine x_s (q := (.iload_n 3, 0, 0, 0)) (cod_64 rfl) rfl rfl rfl ?_
  refine x_if (p := (wr ((m a0 4) - 1)) < 0) (tgt := 94) (cod_64 rfl) (by decide) xj_lt (fun h => ?_) (fun h => ?_)
  · have H1 := H.1 h
    refine x_retV (cod_64 rfl) rfl ?_
    exact H1
  · have H2 := H.2 h
    refine x_aldn (cod_64 rfl) rfl (pos_of ta0 (by decide)) ?_
    refine x_gc (kk := 0) (c := (a0 + 1)) (t := 1) (cod_64 rfl) ta0 (sq_c_4_0 ta0) rfl rfl ?_
    refine x_s (q := (.iload_n 3, 0, 0, 0)) (cod_64 rfl) rfl rfl rfl ?_
    obtain ⟨c3, H4⟩ := H2
    refine x_iald (cod_64 rfl) (sq_ac_4_0 ta0).s ((sq_ac_4_0 ta0).k c3.1 c3.2) ?_
    refine x_s (q := (.bipush 10, 0, 0, 0)) (cod_64 rfl) rfl rfl rfl ?_
    refine x_ic (p := ¬ (m (a0 + 1) (wr ((m a0 4) - 1))) < 10) (tgt := 94) (cod_64 rfl) (by decide) xn_ge (fun h => ?_) (fun h => ?_)
    · have H5 := H4.2 h
      refine x_retV (cod_64 rfl) rfl ?_
      exact H5
    · have H6 := H4.1 (Classical.not_not.mp h)
      refine x_aldn (cod_64 rfl) rfl (pos_of ta0 (by decide)) ?_
      refine x_gc (kk := 0) (c := (a0 + 1)) (t := 1) (cod_64 rfl) ta0 (sq_c_4_0 ta0) rfl rfl ?_
      refine x_s (q := (.iload_n 3, 0, 0, 0)) (cod_64 rfl) rfl rfl rfl ?_
      refine x_iald (cod_64 rfl) (sq_ac_4_0 ta0).s ((sq_ac_4_0 ta0).k c3.1 c3.2) ?_
      refine x_s (q := (.istore 4, 0, 0, 0)) (cod_64 rfl) rfl rfl rfl ?_
      refine x_aldn (cod_64 rfl) rfl (pos_of ta0 (by decide)) ?_
      refine x_gc (kk := 1) (c := (a0 + 2)) (t := 1) (cod_64 rfl) ta0 (sq_c_4_1 ta0) rfl rfl ?_
      refine x_s (q := (.iload_n 3, 0, 0, 0)) (cod_64 rfl) rfl rfl rfl ?_
      refine x_aaldc (c := (a0 + 3 + (wr ((m a0 4) - 1)))) (cod_64 rfl) (by rw [(sq_roc_4_1 (j := wr ((m a0 4) - 1)) ta0 c3.1 c3.2).2]; decide) (sq_roc_4_1 (j := wr ((m a0 4) - 1)) ta0 c3.1 c3.2).1 ?_
      refine x_s (q := (.iload 4, 0, 0, 0)) (cod_64 rfl) rfl rfl rfl ?_
      refine x_s (q := (.iload_n 1, 0, 0, 0)) (cod_64 rfl) rfl rfl rfl ?_
      obtain ⟨c7, H8⟩ := H6
      refine x_iast (cod_64 rfl) (sq_rwc_4_1 (j := wr ((m a0 4) - 1)) ta0 c3.1 c3.2).s ((sq_rwc_4_1 (j := wr ((m a0 4) - 1)) ta0 c3.1 c3.2).k c7.1 c7.2) ?_
      have H10 := H8 _ rfl
      generalize umem m (a0 + 3 + (wr ((m a0 4) - 1))) (m (a0 + 1) (wr ((m a0 4) - 1))) a1 = m9 at H10 ⊢
      refine x_aldn (cod_64 rfl) rfl (pos_of ta0 (by decide)) ?_
      refine x_gc (kk := 2) (c := (a0 + 13)) (t := 1) (cod_64 rfl) ta0 (sq_c_4_2 ta0) rfl rfl ?_
      refine x_s (q := (.iload_n 3, 0, 0, 0)) (cod_64 rfl) rfl rfl rfl ?_
      refine x_aaldc (c := (a0 + 14 + (wr ((m a0 4) - 1)))) (cod_64 rfl) (by rw [(sq_roc_4_2 (j := wr ((m a0 4) - 1)) ta0 c3.1 c3.2).2]; decide) (sq_roc_4_2 (j := wr ((m a0 4) - 1)) ta0 c3.1 c3.2).1 ?_
      refine x_s (q := (.iload 4, 0, 0, 0)) (cod_64 rfl) rfl rfl rfl ?_
      refine x_s (q := (.iload_n 2, 0, 0, 0)) (cod_64 rfl) rfl rfl rfl ?_
      refine x_iast (cod_64 rfl) (sq_rwc_4_2 (j := wr ((m a0 4) - 1)) ta0 c3.1 c3.2).s ((sq_rwc_4_2 (j := wr ((m a0 4) - 1)) ta0 c3.1 c3.2).k c7.1 c7.2) ?_
      have H12 := H10 _ rfl
      generalize umem m9 (a0 + 14 + (wr ((m a0 4) - 1))) (m (a0 + 1) (wr ((m a0 4) - 1))) a2 = m11 at H12 ⊢
      refine x_aldn (cod_64 rfl) rfl (pos_of ta0 (by decide)) ?_
      refine x_gc (kk := 3) (c := (a0 + 24)) (t := 1) (cod_64 rfl) ta0 (sq_c_4_3 ta0) rfl rfl ?_
      refine x_s (q := (.iload_n 3, 0, 0, 0)) (cod_64 rfl) rfl rfl rfl ?_
      refine x_aaldc (c := (a0 + 25 + (wr ((m a0 4) - 1)))) (cod_64 rfl) (by rw [(sq_roc_4_3 (j := wr ((m a0 4) - 1)) ta0 c3.1 c3.2).2]; decide) (sq_roc_4_3 (j := wr ((m a0 4) - 1)) ta0 c3.1 c3.2).1 ?_
      refine x_s (q := (.iload 4, 0, 0, 0)) (cod_64 rfl) rfl rfl rfl ?_
      refine x_s (q := (.iload_n 2, 0, 0, 0)) (cod_64 rfl) rfl rfl rfl ?_
      refine x_if (p := a2 < 0) (tgt := 67) (cod_64 rfl) (by decide) xj_lt (fun h => ?_) (fun h => ?_)
      · have H13 := H12.1 h
        refine x_s (q := (.iload_n 1, 0, 0, 0)) (cod_64 rfl) rfl rfl rfl ?_
        refine x_call (as := [(0, a1)]) (rest := [(0, m (a0 + 1) (wr ((m a0 4) - 1))), (1, (a0 + 25 + (wr ((m a0 4) - 1))))]) (cod_64 rfl) rfl rfl (by decide) (by decide) rfl rfl (Nat.le_of_ble_eq_true rfl) rfl (Nat.le_of_ble_eq_true rfl) ?_
        show X 65 0 [(0, a1)] [] m11 _
        refine x_s (q := (.iload_n 0, 0, 0, 0)) (cod_65 rfl) rfl rfl rfl ?_
        refine x_call (as := [(0, a1)]) (rest := []) (cod_65 rfl) rfl rfl (by decide) (by decide) rfl rfl (Nat.le_of_ble_eq_true rfl) rfl (Nat.le_of_ble_eq_true rfl) ?_
        refine x_pure (p21) ?_
        show X 65 4 [(0, a1)] [(0, bi (97 ≤ a1 ∧ a1 ≤ 122))] m11 _
        refine x_if (p := ¬ (97 ≤ a1 ∧ a1 ≤ 122)) (tgt := 16) (cod_65 rfl) (by decide) xb_eq (fun h => ?_) (fun h => ?_)
        · have H15 := H13.2 h
          refine x_s (q := (.iconst 0, 0, 0, 0)) (cod_65 rfl) rfl rfl rfl ?_
          refine x_rI (t := .int) (cod_65 rfl) rfl rfl rfl ?_
          show X 64 71 [(1, a0), (0, a1), (0, a2), (0, wr ((m a0 4) - 1)), (0, m (a0 + 1) (wr ((m a0 4) - 1)))] [(0, 0), (0, m (a0 + 1) (wr ((m a0 4) - 1))), (1, (a0 + 25 + (wr ((m a0 4) - 1))))] m11 _
          exact H15
        · have H16 := H13.1 (Classical.not_not.mp h)
          refine x_s (q := (.iload_n 0, 0, 0, 0)) (cod_65 rfl) rfl rfl rfl ?_
          refine x_s (q := (.bipush 97, 0, 0, 0)) (cod_65 rfl) rfl rfl rfl ?_
          refine x_s (q := (.isub, 0, 0, 0)) (cod_65 rfl) rfl rfl rfl ?_
          refine x_s (q := (.iconst 1, 0, 0, 0)) (cod_65 rfl) rfl rfl rfl ?_
          refine x_s (q := (.iadd, 0, 0, 0)) (cod_65 rfl) rfl rfl rfl ?_
          refine x_go (tgt := 17) (cod_65 rfl) (by decide) ?_
          refine x_rI (t := .int) (cod_65 rfl) rfl rfl rfl ?_
          show X 64 71 [(1, a0), (0, a1), (0, a2), (0, wr ((m a0 4) - 1)), (0, m (a0 + 1) (wr ((m a0 4) - 1)))] [(0, wr ((wr (a1 - 97)) + 1)), (0, m (a0 + 1) (wr ((m a0 4) - 1))), (1, (a0 + 25 + (wr ((m a0 4) - 1))))] m11 _
          exact H16
      · have H14 := H12.2 h
        refine x_s (q := (.bipush 27, 0, 0, 0)) (cod_64 rfl) rfl rfl rfl ?_
        refine x_go (tgt := 71) (cod_64 rfl) (by decide) ?_
        exact H14
theorem e64 {m : Mm} {K : Mm → Prop} (a0 : Int) (a1 : Int) (a2 : Int) (ta0 : shp a0 = 24)
  (H : ((wr ((m a0 4) - 1)) < 0 → K m) ∧ (¬ (wr ((m a0 4) - 1)) < 0 → (0 ≤ (wr ((m a0 4) - 1)) ∧ (wr ((m a0 4) - 1)) < 10) ∧ ((m (a0 + 1) (wr ((m a0 4) - 1))) < 10 → (0 ≤ (m (a0 + 1) (wr ((m a0 4) - 1))) ∧ (m (a0 + 1) (wr ((m a0 4) - 1))) < 10) ∧ ∀ m9, m9 = umem m (a0 + 3 + (wr ((m a0 4) - 1))) (m (a0 + 1) (wr ((m a0 4) - 1))) a1 → ∀ m11, m11 = umem m9 (a0 + 14 + (wr ((m a0 4) - 1))) (m (a0 + 1) (wr ((m a0 4) - 1))) a2 → (a2 < 0 → ((97 ≤ a1 ∧ a1 ≤ 122) → X 64 71 [(1, a0), (0, a1), (0, a2), (0, wr ((m a0 4) - 1)), (0, m (a0 + 1) (wr ((m a0 4) - 1)))] [(0, wr ((wr (a1 - 97)) + 1)), (0, m (a0 + 1) (wr ((m a0 4) - 1))), (1, (a0 + 25 + (wr ((m a0 4) - 1))))] m11 (qV K)) ∧ (¬ (97 ≤ a1 ∧ a1 ≤ 122) → X 64 71 [(1, a0), (0, a1), (0, a2), (0, wr ((m a0 4) - 1)), (0, m (a0 + 1) (wr ((m a0 4) - 1)))] [(0, 0), (0, m (a0 + 1) (wr ((m a0 4) - 1))), (1, (a0 + 25 + (wr ((m a0 4) - 1))))] m11 (qV K))) ∧ (¬ a2 < 0 → X 64 71 [(1, a0), (0, a1), (0, a2), (0, wr ((m a0 4) - 1)), (0, m (a0 + 1) (wr ((m a0 4) - 1)))] [(0, 27), (0, m (a0 + 1) (wr ((m a0 4) - 1))), (1, (a0 + 25 + (wr ((m a0 4) - 1))))] m11 (qV K))) ∧ (¬ (m (a0 + 1) (wr ((m a0 4) - 1))) < 10 → K m))) : TrV 64 [(1, a0), (0, a1), (0, a2)] m K := by
  exact w64_0 a0 a1 a2 ta0 H
set_option maxRecDepth 100000 in
theorem w64_71 {m : Mm} {K : Mm → Prop} (a0 : Int) (ua1 : aV) (ua2 : aV) (a3 : Int) (a4 : Int) (s0 : Int) (s1 : Int) (s2 : Int) (ta0 : shp a0 = 24)
  (H : (shp s0 = 0 ∧ slot s0 s1 = some none) ∧ ∀ m3, m3 = umem m s0 s1 s2 → (0 ≤ a3 ∧ a3 < 10) ∧ (0 ≤ (wr (a4 + 1)) ∧ (wr (a4 + 1)) < 11) ∧ ∀ m9, m9 = umem m3 (a0 + 25 + a3) (wr (a4 + 1)) 0 → ∀ m11, m11 = umem m9 (a0 + 1) a3 (wr (a4 + 1)) → K m11) : X 64 71 [(1, a0), ua1, ua2, (0, a3), (0, a4)] [(0, s2), (0, s1), (1, s0)] m (qV K) := by
  obtain ⟨c1, H2⟩ := H
  refine x_iast (cod_64 rfl) c1.1 c1.2 ?_
  have H4 := H2 _ rfl
  generalize umem m s0 s1 s2 = m3 at H4 ⊢
  refine x_aldn (cod_64 rfl) rfl (pos_of ta0 (by decide)) ?_
  refine x_gc (kk := 3) (c := (a0 + 24)) (t := 1) (cod_64 rfl) ta0 (sq_c_4_3 ta0) rfl rfl ?_
  refine x_s (q := (.iload_n 3, 0, 0, 0)) (cod_64 rfl) rfl rfl rfl ?_
  obtain ⟨c5, H6⟩ := H4
  refine x_aaldc (c := (a0 + 25 + a3)) (cod_64 rfl) (by rw [(sq_roc_4_3 (j := a3) ta0 c5.1 c5.2).2]; decide) (sq_roc_4_3 (j := a3) ta0 c5.1 c5.2).1 ?_
  refine x_s (q := (.iload 4, 0, 0, 0)) (cod_64 rfl) rfl rfl rfl ?_
  refine x_s (q := (.iconst 1, 0, 0, 0)) (cod_64 rfl) rfl rfl rfl ?_
  refine x_s (q := (.iadd, 0, 0, 0)) (cod_64 rfl) rfl rfl rfl ?_
  refine x_s (q := (.iconst 0, 0, 0, 0)) (cod_64 rfl) rfl rfl rfl ?_
  obtain ⟨c7, H8⟩ := H6
  refine x_iast (cod_64 rfl) (sq_rwc_4_3 (j := a3) ta0 c5.1 c5.2).s ((sq_rwc_4_3 (j := a3) ta0 c5.1 c5.2).k c7.1 c7.2) ?_
  have H10 := H8 _ rfl
  generalize umem m3 (a0 + 25 + a3) (wr (a4 + 1)) 0 = m9 at H10 ⊢
  refine x_aldn (cod_64 rfl) rfl (pos_of ta0 (by decide)) ?_
  refine x_gc (kk := 0) (c := (a0 + 1)) (t := 1) (cod_64 rfl) ta0 (sq_c_4_0 ta0) rfl rfl ?_
  refine x_s (q := (.iload_n 3, 0, 0, 0)) (cod_64 rfl) rfl rfl rfl ?_
  refine x_s (q := (.iload 4, 0, 0, 0)) (cod_64 rfl) rfl rfl rfl ?_
  refine x_s (q := (.iconst 1, 0, 0, 0)) (cod_64 rfl) rfl rfl rfl ?_
  refine x_s (q := (.iadd, 0, 0, 0)) (cod_64 rfl) rfl rfl rfl ?_
  refine x_iast (cod_64 rfl) (sq_ac_4_0 ta0).s ((sq_ac_4_0 ta0).k c5.1 c5.2) ?_
  have H12 := H10 _ rfl
  generalize umem m9 (a0 + 1) a3 (wr (a4 + 1)) = m11 at H12 ⊢
  refine x_retV (cod_64 rfl) rfl ?_
  exact H12
set_option maxRecDepth 100000 in
theorem w66_0 {m : Mm} {K : Int → Mm → Prop} (a1 : Int) 
  (H : (a1 = 0 → K (m 3 0) m) ∧ (¬ a1 = 0 → (a1 = 1 → K (m 3 1) m) ∧ (¬ a1 = 1 → K (-1) m))) : X 66 0 [(1, 1), (0, a1)] [] m (qI K) := by
  refine x_s (q := (.iload_n 1, 0, 0, 0)) (cod_66 rfl) rfl rfl rfl ?_
  refine x_if (p := ¬ a1 = 0) (tgt := 12) (cod_66 rfl) (by decide) xj_ne (fun h => ?_) (fun h => ?_)
  · have H1 := H.2 h
    refine x_s (q := (.iload_n 1, 0, 0, 0)) (cod_66 rfl) rfl rfl rfl ?_
    refine x_s (q := (.iconst 1, 0, 0, 0)) (cod_66 rfl) rfl rfl rfl ?_
    refine x_ic (p := ¬ a1 = 1) (tgt := 27) (cod_66 rfl) (by decide) xj_ne (fun h => ?_) (fun h => ?_)
    · have H3 := H1.2 h
      refine x_s (q := (.iconst (-1), 0, 0, 0)) (cod_66 rfl) rfl rfl rfl ?_
      refine x_retI (t := .int) (cod_66 rfl) rfl rfl rfl ?_
      exact H3
    · have H4 := H1.1 (Classical.not_not.mp h)
      refine x_s (q := (.aload_n 0, 0, 0, 0)) (cod_66 rfl) rfl rfl rfl ?_
      refine x_gc (kk := 2) (c := 3) (t := 1) (cod_66 rfl) sq_p_1 sq_l_1_2 rfl rfl ?_
      refine x_gf (kk := 1) (t := 0) (cod_66 rfl) sq_p_3 sq_l_3_1 rfl rfl ?_
      refine x_go (tgt := 28) (cod_66 rfl) (by decide) ?_
      refine x_retI (t := .int) (cod_66 rfl) rfl rfl rfl ?_
      exact H4
  · have H2 := H.1 (Classical.not_not.mp h)
    refine x_s (q := (.aload_n 0, 0, 0, 0)) (cod_66 rfl) rfl rfl rfl ?_
    refine x_gc (kk := 2) (c := 3) (t := 1) (cod_66 rfl) sq_p_1 sq_l_1_2 rfl rfl ?_
    refine x_gf (kk := 0) (t := 0) (cod_66 rfl) sq_p_3 sq_l_3_0 rfl rfl ?_
    refine x_retI (t := .int) (cod_66 rfl) rfl rfl rfl ?_
    exact H2
theorem e66 {m : Mm} {K : Int → Mm → Prop} (a1 : Int) 
  (H : (a1 = 0 → K (m 3 0) m) ∧ (¬ a1 = 0 → (a1 = 1 → K (m 3 1) m) ∧ (¬ a1 = 1 → K (-1) m))) : TrI 66 [(1, 1), (0, a1)] m K := by
  exact w66_0 a1 H
set_option maxRecDepth 100000 in
theorem w67_0 {m : Mm} {K : Int → Mm → Prop} (a1 : Int) (a2 : Int) 
  (H : shp (m 1 3) = 30 ∧ ((0 ≤ a1 ∧ a1 < m (m 1 3) 6) → shp (m 1 3) = 30 ∧ (0 ≤ a1 ∧ a1 < 24) ∧ ((a2 < 0 ∨ 2 < a2) → K (-1) m) ∧ (a2 = 0 → K (m ((m 1 3) + 54 + 2 * a1) 1) m) ∧ (a2 = 1 → K (m ((m 1 3) + 54 + 2 * a1) 2) m) ∧ (a2 = 2 → K (m ((m 1 3) + 54 + 2 * a1) 3) m)) ∧ (¬ (0 ≤ a1 ∧ a1 < m (m 1 3) 6) → K (-1) m)) : X 67 0 [(1, 1), (0, a1), (0, a2), (9, 0)] [] m (qI K) := by
  refine x_s (q := (.aload_n 0, 0, 0, 0)) (cod_67 rfl) rfl rfl rfl ?_
  refine x_s (q := (.iload_n 1, 0, 0, 0)) (cod_67 rfl) rfl rfl rfl ?_
  obtain ⟨c1, H2⟩ := H
  refine x_call (as := [(1, 1), (0, a1)]) (rest := []) (cod_67 rfl) rfl rfl (by decide) (by decide) rfl rfl (Nat.le_of_ble_eq_true rfl) (rcv0 sq_l_1_0 sq_p_1 (by decide)) (Nat.le_of_ble_eq_true rfl) ?_
  refine x_pure (p68 c1) ?_
  show X 67 5 [(1, 1), (0, a1), (0, a2), (9, 0)] [(0, bi (0 ≤ a1 ∧ a1 < m (m 1 3) 6))] m _
  refine x_if (p := 0 ≤ a1 ∧ a1 < m (m 1 3) 6) (tgt := 10) (cod_67 rfl) (by decide) xb_ne (fun h => ?_) (fun h => ?_)
  · have H3 := H2.1 h
    refine x_s (q := (.aload_n 0, 0, 0, 0)) (cod_67 rfl) rfl rfl rfl ?_
    refine x_gf (kk := 3) (t := 1) (cod_67 rfl) sq_p_1 sq_l_1_3 rfl rfl ?_
    obtain ⟨c5, H6⟩ := H3
    refine x_gc (kk := 1) (c := ((m 1 3) + 2)) (t := 1) (cod_67 rfl) c5 (sq_c_10_1 c5) rfl rfl ?_
    refine x_s (q := (.iload_n 1, 0, 0, 0)) (cod_67 rfl) rfl rfl rfl ?_
    obtain ⟨c7, H8⟩ := H6
    refine x_aaldc (c := ((m 1 3) + 54 + 2 * a1)) (cod_67 rfl) (by rw [(sq_oa_10_1 (j := a1) c5 c7.1 c7.2).2.1]; decide) (sq_oa_10_1 (j := a1) c5 c7.1 c7.2).1 ?_
    refine x_astn (ls' := [(1, 1), (0, a1), (0, a2), (1, ((m 1 3) + 54 + 2 * a1))]) (cod_67 rfl) (pos_of (sq_oa_10_1 (j := a1) c5 c7.1 c7.2).2.2 (by decide)) rfl rfl ?_
    refine x_s (q := (.iload_n 2, 0, 0, 0)) (cod_67 rfl) rfl rfl rfl ?_
    refine x_tsw (cod_67 rfl) (by decide) (by decide) (by decide) (fun h => ?_) (fun i o ho h => ?_)
    · have H9 := H8.1 h
      refine x_s (q := (.iconst (-1), 0, 0, 0)) (cod_67 rfl) rfl rfl rfl ?_
      refine x_retI (t := .int) (cod_67 rfl) rfl rfl rfl ?_
      exact H9
    · match i, ho with
      | 0, ho =>
        cases ho
        have H10 := H8.2.1 (by omega)
        refine x_aldn (cod_67 rfl) rfl (pos_of (sq_oa_10_1 (j := a1) c5 c7.1 c7.2).2.2 (by decide)) ?_
        refine x_gf (kk := 1) (t := 0) (cod_67 rfl) (sq_oa_10_1 (j := a1) c5 c7.1 c7.2).2.2 (sq_c_1_1 (sq_oa_10_1 (j := a1) c5 c7.1 c7.2).2.2) rfl rfl ?_
        refine x_retI (t := .int) (cod_67 rfl) rfl rfl rfl ?_
        exact H10
      | 1, ho =>
        cases ho
        have H11 := H8.2.2.1 (by omega)
        refine x_aldn (cod_67 rfl) rfl (pos_of (sq_oa_10_1 (j := a1) c5 c7.1 c7.2).2.2 (by decide)) ?_
        refine x_gf (kk := 2) (t := 0) (cod_67 rfl) (sq_oa_10_1 (j := a1) c5 c7.1 c7.2).2.2 (sq_c_1_2 (sq_oa_10_1 (j := a1) c5 c7.1 c7.2).2.2) rfl rfl ?_
        refine x_retI (t := .int) (cod_67 rfl) rfl rfl rfl ?_
        exact H11
      | 2, ho =>
        cases ho
        have H12 := H8.2.2.2 (by omega)
        refine x_aldn (cod_67 rfl) rfl (pos_of (sq_oa_10_1 (j := a1) c5 c7.1 c7.2).2.2 (by decide)) ?_
        refine x_gf (kk := 3) (t := 0) (cod_67 rfl) (sq_oa_10_1 (j := a1) c5 c7.1 c7.2).2.2 (sq_c_1_3 (sq_oa_10_1 (j := a1) c5 c7.1 c7.2).2.2) rfl rfl ?_
        refine x_retI (t := .int) (cod_67 rfl) rfl rfl rfl ?_
        exact H12
      | k + 3, ho => exact absurd ho (by simp)
  · have H4 := H2.2 h
    refine x_s (q := (.iconst (-1), 0, 0, 0)) (cod_67 rfl) rfl rfl rfl ?_
    refine x_retI (t := .int) (cod_67 rfl) rfl rfl rfl ?_
    exact H4
theorem e67 {m : Mm} {K : Int → Mm → Prop} (a1 : Int) (a2 : Int) 
  (H : shp (m 1 3) = 30 ∧ ((0 ≤ a1 ∧ a1 < m (m 1 3) 6) → shp (m 1 3) = 30 ∧ (0 ≤ a1 ∧ a1 < 24) ∧ ((a2 < 0 ∨ 2 < a2) → K (-1) m) ∧ (a2 = 0 → K (m ((m 1 3) + 54 + 2 * a1) 1) m) ∧ (a2 = 1 → K (m ((m 1 3) + 54 + 2 * a1) 2) m) ∧ (a2 = 2 → K (m ((m 1 3) + 54 + 2 * a1) 3) m)) ∧ (¬ (0 ≤ a1 ∧ a1 < m (m 1 3) 6) → K (-1) m)) : TrI 67 [(1, 1), (0, a1), (0, a2)] m K := by
  exact w67_0 a1 a2 H
set_option maxRecDepth 100000 in
theorem w69_0 {m : Mm} {K : Int → Mm → Prop} (a1 : Int) (a2 : Int) (a3 : Int) 
  (H : (a3 < 0 → K (-1) m) ∧ (¬ a3 < 0 → (a1 = 0 → shp (m 1 3) = 30 ∧ ((0 ≤ a2 ∧ a2 < m (m 1 3) 6) → X 69 29 [(1, 1), (0, a1), (0, a2), (0, a3), (9, 0)] [] m (qI K)) ∧ (¬ (0 ≤ a2 ∧ a2 < m (m 1 3) 6) → K (-1) m)) ∧ (¬ a1 = 0 → shp (m 1 3) = 30 ∧ ((0 ≤ a2 ∧ a2 < m (m 1 3) 5) → X 69 29 [(1, 1), (0, a1), (0, a2), (0, a3), (9, 0)] [] m (qI K)) ∧ (¬ (0 ≤ a2 ∧ a2 < m (m 1 3) 5) → K (-1) m)))) : X 69 0 [(1, 1), (0, a1), (0, a2), (0, a3), (9, 0)] [] m (qI K) := by
  refine x_s (q := (.iload_n 3, 0, 0, 0)) (cod_69 rfl) rfl rfl rfl ?_
  refine x_if (p := a3 < 0) (tgt := 27) (cod_69 rfl) (by decide) xj_lt (fun h => ?_) (fun h => ?_)
  · have H1 := H.1 h
    refine x_s (q := (.iconst (-1), 0, 0, 0)) (cod_69 rfl) rfl rfl rfl ?_
    refine x_retI (t := .int) (cod_69 rfl) rfl rfl rfl ?_
    exact H1
  · have H2 := H.2 h
    refine x_s (q := (.iload_n 1, 0, 0, 0)) (cod_69 rfl) rfl rfl rfl ?_
    refine x_if (p := a1 = 0) (tgt := 19) (cod_69 rfl) (by decide) xj_eq (fun h => ?_) (fun h => ?_)
    · have H3 := H2.1 h
      refine x_s (q := (.aload_n 0, 0, 0, 0)) (cod_69 rfl) rfl rfl rfl ?_
      refine x_s (q := (.iload_n 2, 0, 0, 0)) (cod_69 rfl) rfl rfl rfl ?_
      obtain ⟨c5, H6⟩ := H3
      refine x_call (as := [(1, 1), (0, a2)]) (rest := []) (cod_69 rfl) rfl rfl (by decide) (by decide) rfl rfl (Nat.le_of_ble_eq_true rfl) (rcv0 sq_l_1_0 sq_p_1 (by decide)) (Nat.le_of_ble_eq_true rfl) ?_
      refine x_pure (p68 c5) ?_
      show X 69 24 [(1, 1), (0, a1), (0, a2), (0, a3), (9, 0)] [(0, bi (0 ≤ a2 ∧ a2 < m (m 1 3) 6))] m _
      refine x_if (p := 0 ≤ a2 ∧ a2 < m (m 1 3) 6) (tgt := 29) (cod_69 rfl) (by decide) xb_ne (fun h => ?_) (fun h => ?_)
      · have H7 := H6.1 h
        exact H7
      · have H8 := H6.2 h
        refine x_s (q := (.iconst (-1), 0, 0, 0)) (cod_69 rfl) rfl rfl rfl ?_
        refine x_retI (t := .int) (cod_69 rfl) rfl rfl rfl ?_
        exact H8
    · have H4 := H2.2 h
      refine x_s (q := (.aload_n 0, 0, 0, 0)) (cod_69 rfl) rfl rfl rfl ?_
      refine x_s (q := (.iload_n 2, 0, 0, 0)) (cod_69 rfl) rfl rfl rfl ?_
      obtain ⟨c9, H10⟩ := H4
      refine x_call (as := [(1, 1), (0, a2)]) (rest := []) (cod_69 rfl) rfl rfl (by decide) (by decide) rfl rfl (Nat.le_of_ble_eq_true rfl) (rcv0 sq_l_1_0 sq_p_1 (by decide)) (Nat.le_of_ble_eq_true rfl) ?_
      refine x_pure (p70 c9) ?_
      show X 69 13 [(1, 1), (0, a1), (0, a2), (0, a3), (9, 0)] [(0, bi (0 ≤ a2 ∧ a2 < m (m 1 3) 5))] m _
      refine x_if (p := 0 ≤ a2 ∧ a2 < m (m 1 3) 5) (tgt := 29) (cod_69 rfl) (by decide) xb_ne (fun h => ?_) (fun h => ?_)
      · have H11 := H10.1 h
        exact H11
      · have H12 := H10.2 h
        refine x_go (tgt := 27) (cod_69 rfl) (by decide) ?_
        refine x_s (q := (.iconst (-1), 0, 0, 0)) (cod_69 rfl) rfl rfl rfl ?_
        refine x_retI (t := .int) (cod_69 rfl) rfl rfl rfl ?_
        exact H12
theorem e69 {m : Mm} {K : Int → Mm → Prop} (a1 : Int) (a2 : Int) (a3 : Int) 
  (H : (a3 < 0 → K (-1) m) ∧ (¬ a3 < 0 → (a1 = 0 → shp (m 1 3) = 30 ∧ ((0 ≤ a2 ∧ a2 < m (m 1 3) 6) → X 69 29 [(1, 1), (0, a1), (0, a2), (0, a3), (9, 0)] [] m (qI K)) ∧ (¬ (0 ≤ a2 ∧ a2 < m (m 1 3) 6) → K (-1) m)) ∧ (¬ a1 = 0 → shp (m 1 3) = 30 ∧ ((0 ≤ a2 ∧ a2 < m (m 1 3) 5) → X 69 29 [(1, 1), (0, a1), (0, a2), (0, a3), (9, 0)] [] m (qI K)) ∧ (¬ (0 ≤ a2 ∧ a2 < m (m 1 3) 5) → K (-1) m)))) : TrI 69 [(1, 1), (0, a1), (0, a2), (0, a3)] m K := by
  exact w69_0 a1 a2 a3 H
set_option maxRecDepth 100000 in
theorem w69_29 {m : Mm} {K : Int → Mm → Prop} (a1 : Int) (a2 : Int) (a3 : Int) (ua4 : aV) 
  (H : (a1 = 0 → shp (m 1 3) = 30 ∧ (0 ≤ a2 ∧ a2 < 24) ∧ v_E m ((m 1 3) + 54 + 2 * a2) ∧ ((lAt m ((m 1 3) + 54 + 2 * a2) 1 a3) = 0 → K (-2) m) ∧ (¬ (lAt m ((m 1 3) + 54 + 2 * a2) 1 a3) = 0 → K (lAt m ((m 1 3) + 54 + 2 * a2) 1 a3) m)) ∧ (¬ a1 = 0 → shp (m 1 3) = 30 ∧ (0 ≤ a2 ∧ a2 < 24) ∧ v_R m ((m 1 3) + 6 + 2 * a2) ∧ ((lAt m ((m 1 3) + 6 + 2 * a2) 2 a3) = 0 → K (-2) m) ∧ (¬ (lAt m ((m 1 3) + 6 + 2 * a2) 2 a3) = 0 → K (lAt m ((m 1 3) + 6 + 2 * a2) 2 a3) m))) : X 69 29 [(1, 1), (0, a1), (0, a2), (0, a3), ua4] [] m (qI K) := by
  refine x_s (q := (.iload_n 1, 0, 0, 0)) (cod_69 rfl) rfl rfl rfl ?_
  refine x_if (p := a1 = 0) (tgt := 49) (cod_69 rfl) (by decide) xj_eq (fun h => ?_) (fun h => ?_)
  · have H1 := H.1 h
    refine x_s (q := (.aload_n 0, 0, 0, 0)) (cod_69 rfl) rfl rfl rfl ?_
    refine x_gf (kk := 3) (t := 1) (cod_69 rfl) sq_p_1 sq_l_1_3 rfl rfl ?_
    obtain ⟨c3, H4⟩ := H1
    refine x_gc (kk := 1) (c := ((m 1 3) + 2)) (t := 1) (cod_69 rfl) c3 (sq_c_10_1 c3) rfl rfl ?_
    refine x_s (q := (.iload_n 2, 0, 0, 0)) (cod_69 rfl) rfl rfl rfl ?_
    obtain ⟨c5, H6⟩ := H4
    refine x_aaldc (c := ((m 1 3) + 54 + 2 * a2)) (cod_69 rfl) (by rw [(sq_oa_10_1 (j := a2) c3 c5.1 c5.2).2.1]; decide) (sq_oa_10_1 (j := a2) c3 c5.1 c5.2).1 ?_
    refine x_s (q := (.iload_n 3, 0, 0, 0)) (cod_69 rfl) rfl rfl rfl ?_
    obtain ⟨c7, H8⟩ := H6
    refine x_call (as := [(1, ((m 1 3) + 54 + 2 * a2)), (0, a3)]) (rest := []) (cod_69 rfl) rfl rfl (by decide) (by decide) rfl rfl (Nat.le_of_ble_eq_true rfl) (rcv0 (sq_c_1_0 (sq_oa_10_1 (j := a2) c3 c5.1 c5.2).2.2) (sq_oa_10_1 (j := a2) c3 c5.1 c5.2).2.2 (by decide)) (Nat.le_of_ble_eq_true rfl) ?_
    refine x_pure (p72 c7) ?_
    show X 69 62 [(1, 1), (0, a1), (0, a2), (0, a3), ua4] [(0, lAt m ((m 1 3) + 54 + 2 * a2) 1 a3)] m _
    refine x_s (q := (.istore 4, 0, 0, 0)) (cod_69 rfl) rfl rfl rfl ?_
    refine x_s (q := (.iload 4, 0, 0, 0)) (cod_69 rfl) rfl rfl rfl ?_
    refine x_if (p := ¬ (lAt m ((m 1 3) + 54 + 2 * a2) 1 a3) = 0) (tgt := 74) (cod_69 rfl) (by decide) xj_ne (fun h => ?_) (fun h => ?_)
    · have H9 := H8.2 h
      refine x_s (q := (.iload 4, 0, 0, 0)) (cod_69 rfl) rfl rfl rfl ?_
      refine x_retI (t := .int) (cod_69 rfl) rfl rfl rfl ?_
      exact H9
    · have H10 := H8.1 (Classical.not_not.mp h)
      refine x_s (q := (.bipush (-2), 0, 0, 0)) (cod_69 rfl) rfl rfl rfl ?_
      refine x_go (tgt := 76) (cod_69 rfl) (by decide) ?_
      refine x_retI (t := .int) (cod_69 rfl) rfl rfl rfl ?_
      exact H10
  · have H2 := H.2 h
    refine x_s (q := (.aload_n 0, 0, 0, 0)) (cod_69 rfl) rfl rfl rfl ?_
    refine x_gf (kk := 3) (t := 1) (cod_69 rfl) sq_p_1 sq_l_1_3 rfl rfl ?_
    obtain ⟨c11, H12⟩ := H2
    refine x_gc (kk := 0) (c := ((m 1 3) + 1)) (t := 1) (cod_69 rfl) c11 (sq_c_10_0 c11) rfl rfl ?_
    refine x_s (q := (.iload_n 2, 0, 0, 0)) (cod_69 rfl) rfl rfl rfl ?_
    obtain ⟨c13, H14⟩ := H12
    refine x_aaldc (c := ((m 1 3) + 6 + 2 * a2)) (cod_69 rfl) (by rw [(sq_oa_10_0 (j := a2) c11 c13.1 c13.2).2.1]; decide) (sq_oa_10_0 (j := a2) c11 c13.1 c13.2).1 ?_
    refine x_s (q := (.iload_n 3, 0, 0, 0)) (cod_69 rfl) rfl rfl rfl ?_
    obtain ⟨c15, H16⟩ := H14
    refine x_call (as := [(1, ((m 1 3) + 6 + 2 * a2)), (0, a3)]) (rest := []) (cod_69 rfl) rfl rfl (by decide) (by decide) rfl rfl (Nat.le_of_ble_eq_true rfl) (rcv0 (sq_c_7_0 (sq_oa_10_0 (j := a2) c11 c13.1 c13.2).2.2) (sq_oa_10_0 (j := a2) c11 c13.1 c13.2).2.2 (by decide)) (Nat.le_of_ble_eq_true rfl) ?_
    refine x_pure (p71 c15) ?_
    show X 69 46 [(1, 1), (0, a1), (0, a2), (0, a3), ua4] [(0, lAt m ((m 1 3) + 6 + 2 * a2) 2 a3)] m _
    refine x_go (tgt := 62) (cod_69 rfl) (by decide) ?_
    refine x_s (q := (.istore 4, 0, 0, 0)) (cod_69 rfl) rfl rfl rfl ?_
    refine x_s (q := (.iload 4, 0, 0, 0)) (cod_69 rfl) rfl rfl rfl ?_
    refine x_if (p := ¬ (lAt m ((m 1 3) + 6 + 2 * a2) 2 a3) = 0) (tgt := 74) (cod_69 rfl) (by decide) xj_ne (fun h => ?_) (fun h => ?_)
    · have H17 := H16.2 h
      refine x_s (q := (.iload 4, 0, 0, 0)) (cod_69 rfl) rfl rfl rfl ?_
      refine x_retI (t := .int) (cod_69 rfl) rfl rfl rfl ?_
      exact H17
    · have H18 := H16.1 (Classical.not_not.mp h)
      refine x_s (q := (.bipush (-2), 0, 0, 0)) (cod_69 rfl) rfl rfl rfl ?_
      refine x_go (tgt := 76) (cod_69 rfl) (by decide) ?_
      refine x_retI (t := .int) (cod_69 rfl) rfl rfl rfl ?_
      exact H18
set_option maxRecDepth 100000 in
theorem w73_0 {m : Mm} {K : Int → Mm → Prop} (a1 : Int) (a2 : Int) 
  (H : shp (m 1 5) = 24 ∧ ((0 ≤ a1 ∧ a1 < m (m 1 5) 4) → (a2 < 0 → K (-1) m) ∧ (¬ a2 < 0 → shp (m 1 5) = 24 ∧ (0 ≤ a1 ∧ a1 < 10) ∧ (a2 < (m ((m 1 5) + 1) a1) → (0 ≤ a2 ∧ a2 < 10) ∧ K (m ((m 1 5) + 3 + a1) a2) m) ∧ (¬ a2 < (m ((m 1 5) + 1) a1) → K (-2) m))) ∧ (¬ (0 ≤ a1 ∧ a1 < m (m 1 5) 4) → K (-1) m)) : X 73 0 [(1, 1), (0, a1), (0, a2)] [] m (qI K) := by
  refine x_s (q := (.aload_n 0, 0, 0, 0)) (cod_73 rfl) rfl rfl rfl ?_
  refine x_s (q := (.iload_n 1, 0, 0, 0)) (cod_73 rfl) rfl rfl rfl ?_
  obtain ⟨c1, H2⟩ := H
  refine x_call (as := [(1, 1), (0, a1)]) (rest := []) (cod_73 rfl) rfl rfl (by decide) (by decide) rfl rfl (Nat.le_of_ble_eq_true rfl) (rcv0 sq_l_1_0 sq_p_1 (by decide)) (Nat.le_of_ble_eq_true rfl) ?_
  refine x_pure (p74 c1) ?_
  show X 73 5 [(1, 1), (0, a1), (0, a2)] [(0, bi (0 ≤ a1 ∧ a1 < m (m 1 5) 4))] m _
  refine x_if (p := ¬ (0 ≤ a1 ∧ a1 < m (m 1 5) 4)) (tgt := 12) (cod_73 rfl) (by decide) xb_eq (fun h => ?_) (fun h => ?_)
  · have H3 := H2.2 h
    refine x_s (q := (.iconst (-1), 0, 0, 0)) (cod_73 rfl) rfl rfl rfl ?_
    refine x_retI (t := .int) (cod_73 rfl) rfl rfl rfl ?_
    exact H3
  · have H4 := H2.1 (Classical.not_not.mp h)
    refine x_s (q := (.iload_n 2, 0, 0, 0)) (cod_73 rfl) rfl rfl rfl ?_
    refine x_if (p := ¬ a2 < 0) (tgt := 14) (cod_73 rfl) (by decide) xn_ge (fun h => ?_) (fun h => ?_)
    · have H5 := H4.2 h
      refine x_s (q := (.iload_n 2, 0, 0, 0)) (cod_73 rfl) rfl rfl rfl ?_
      refine x_s (q := (.aload_n 0, 0, 0, 0)) (cod_73 rfl) rfl rfl rfl ?_
      refine x_gf (kk := 5) (t := 1) (cod_73 rfl) sq_p_1 sq_l_1_5 rfl rfl ?_
      obtain ⟨c7, H8⟩ := H5
      refine x_gc (kk := 0) (c := ((m 1 5) + 1)) (t := 1) (cod_73 rfl) c7 (sq_c_4_0 c7) rfl rfl ?_
      refine x_s (q := (.iload_n 1, 0, 0, 0)) (cod_73 rfl) rfl rfl rfl ?_
      obtain ⟨c9, H10⟩ := H8
      refine x_iald (cod_73 rfl) (sq_ac_4_0 c7).s ((sq_ac_4_0 c7).k c9.1 c9.2) ?_
      refine x_ic (p := ¬ a2 < (m ((m 1 5) + 1) a1)) (tgt := 41) (cod_73 rfl) (by decide) xn_ge (fun h => ?_) (fun h => ?_)
      · have H11 := H10.2 h
        refine x_s (q := (.bipush (-2), 0, 0, 0)) (cod_73 rfl) rfl rfl rfl ?_
        refine x_retI (t := .int) (cod_73 rfl) rfl rfl rfl ?_
        exact H11
      · have H12 := H10.1 (Classical.not_not.mp h)
        refine x_s (q := (.aload_n 0, 0, 0, 0)) (cod_73 rfl) rfl rfl rfl ?_
        refine x_gf (kk := 5) (t := 1) (cod_73 rfl) sq_p_1 sq_l_1_5 rfl rfl ?_
        refine x_gc (kk := 1) (c := ((m 1 5) + 2)) (t := 1) (cod_73 rfl) c7 (sq_c_4_1 c7) rfl rfl ?_
        refine x_s (q := (.iload_n 1, 0, 0, 0)) (cod_73 rfl) rfl rfl rfl ?_
        refine x_aaldc (c := ((m 1 5) + 3 + a1)) (cod_73 rfl) (by rw [(sq_roc_4_1 (j := a1) c7 c9.1 c9.2).2]; decide) (sq_roc_4_1 (j := a1) c7 c9.1 c9.2).1 ?_
        refine x_s (q := (.iload_n 2, 0, 0, 0)) (cod_73 rfl) rfl rfl rfl ?_
        obtain ⟨c13, H14⟩ := H12
        refine x_iald (cod_73 rfl) (sq_rwc_4_1 (j := a1) c7 c9.1 c9.2).s ((sq_rwc_4_1 (j := a1) c7 c9.1 c9.2).k c13.1 c13.2) ?_
        refine x_go (tgt := 43) (cod_73 rfl) (by decide) ?_
        refine x_retI (t := .int) (cod_73 rfl) rfl rfl rfl ?_
        exact H14
    · have H6 := H4.1 (Classical.not_not.mp h)
      refine x_s (q := (.iconst (-1), 0, 0, 0)) (cod_73 rfl) rfl rfl rfl ?_
      refine x_retI (t := .int) (cod_73 rfl) rfl rfl rfl ?_
      exact H6
theorem e73 {m : Mm} {K : Int → Mm → Prop} (a1 : Int) (a2 : Int) 
  (H : shp (m 1 5) = 24 ∧ ((0 ≤ a1 ∧ a1 < m (m 1 5) 4) → (a2 < 0 → K (-1) m) ∧ (¬ a2 < 0 → shp (m 1 5) = 24 ∧ (0 ≤ a1 ∧ a1 < 10) ∧ (a2 < (m ((m 1 5) + 1) a1) → (0 ≤ a2 ∧ a2 < 10) ∧ K (m ((m 1 5) + 3 + a1) a2) m) ∧ (¬ a2 < (m ((m 1 5) + 1) a1) → K (-2) m))) ∧ (¬ (0 ≤ a1 ∧ a1 < m (m 1 5) 4) → K (-1) m)) : TrI 73 [(1, 1), (0, a1), (0, a2)] m K := by
  exact w73_0 a1 a2 H
set_option maxRecDepth 100000 in
theorem w75_0 {m : Mm} {K : Int → Mm → Prop} (a1 : Int) 
  (H : shp (m 1 5) = 24 ∧ ((0 ≤ a1 ∧ a1 < m (m 1 5) 4) → TrV 76 [(1, 1)] m fun m5 => (0 ≤ a1 ∧ a1 < 10) ∧ K (min 1000000000000 (m5 412 a1)) m5) ∧ (¬ (0 ≤ a1 ∧ a1 < m (m 1 5) 4) → K (-1) m)) : X 75 0 [(1, 1), (0, a1)] [] m (qL K) := by
  refine x_s (q := (.aload_n 0, 0, 0, 0)) (cod_75 rfl) rfl rfl rfl ?_
  refine x_s (q := (.iload_n 1, 0, 0, 0)) (cod_75 rfl) rfl rfl rfl ?_
  obtain ⟨c1, H2⟩ := H
  refine x_call (as := [(1, 1), (0, a1)]) (rest := []) (cod_75 rfl) rfl rfl (by decide) (by decide) rfl rfl (Nat.le_of_ble_eq_true rfl) (rcv0 sq_l_1_0 sq_p_1 (by decide)) (Nat.le_of_ble_eq_true rfl) ?_
  refine x_pure (p74 c1) ?_
  show X 75 5 [(1, 1), (0, a1)] [(0, bi (0 ≤ a1 ∧ a1 < m (m 1 5) 4))] m _
  refine x_if (p := 0 ≤ a1 ∧ a1 < m (m 1 5) 4) (tgt := 12) (cod_75 rfl) (by decide) xb_ne (fun h => ?_) (fun h => ?_)
  · have H3 := H2.1 h
    refine x_s (q := (.aload_n 0, 0, 0, 0)) (cod_75 rfl) rfl rfl rfl ?_
    refine x_call (as := [(1, 1)]) (rest := []) (cod_75 rfl) rfl rfl (by decide) (by decide) rfl rfl (Nat.le_of_ble_eq_true rfl) (rcv0 sq_l_1_0 sq_p_1 (by decide)) (Nat.le_of_ble_eq_true rfl) ?_
    refine X.imp H3 ?_
    rintro _ m5 ⟨rfl, H6⟩
    show X 75 16 [(1, 1), (0, a1)] [] m5 _
    refine x_s (q := (.ldc2_w 221, 1000000000000, 0, 0)) (cod_75 rfl) rfl rfl rfl ?_
    show X 75 19 [(1, 1), (0, a1)] [(2, 1000000000000)] m5 _
    refine x_s (q := (.aload_n 0, 0, 0, 0)) (cod_75 rfl) rfl rfl rfl ?_
    refine x_gc (kk := 10) (c := 411) (t := 1) (cod_75 rfl) sq_p_1 sq_l_1_10 rfl rfl ?_
    refine x_gc (kk := 0) (c := 412) (t := 1) (cod_75 rfl) sq_p_411 sq_l_411_0 rfl rfl ?_
    refine x_s (q := (.iload_n 1, 0, 0, 0)) (cod_75 rfl) rfl rfl rfl ?_
    obtain ⟨c7, H8⟩ := H6
    refine x_laldm (cod_75 rfl) sq_a_412.s (sq_a_412.k c7.1 c7.2) ?_
    refine x_m10 (cod_75 rfl) rfl rfl (Nat.le_of_ble_eq_true rfl) ?_
    refine x_retL (cod_75 rfl) rfl ?_
    exact H8
  · have H4 := H2.2 h
    refine x_s (q := (.ldc2_w 216, (-1), 0, 0)) (cod_75 rfl) rfl rfl rfl ?_
    show X 75 11 [(1, 1), (0, a1)] [(2, (-1))] m _
    refine x_retL (cod_75 rfl) rfl ?_
    exact H4
theorem e75 {m : Mm} {K : Int → Mm → Prop} (a1 : Int) 
  (H : shp (m 1 5) = 24 ∧ ((0 ≤ a1 ∧ a1 < m (m 1 5) 4) → TrV 76 [(1, 1)] m fun m5 => (0 ≤ a1 ∧ a1 < 10) ∧ K (min 1000000000000 (m5 412 a1)) m5) ∧ (¬ (0 ≤ a1 ∧ a1 < m (m 1 5) 4) → K (-1) m)) : TrL 75 [(1, 1), (0, a1)] m K := by
  exact w75_0 a1 H
set_option maxRecDepth 100000 in
theorem w76_0 {m : Mm} {K : Mm → Prop}  
  (H : ((m 1 17) = 0 → K m) ∧ (¬ (m 1 17) = 0 → TrV 77 [(1, 370), (1, (m 1 3)), (1, 280), (0, (-1))] m fun m3 => TrV 79 [(1, 411), (1, (m3 1 3)), (1, (m3 1 5)), (1, 370), (1, 595)] m3 fun m5 => X 76 49 [(1, 1), (0, 0)] [] m5 (qV K))) : X 76 0 [(1, 1), (9, 0)] [] m (qV K) := by
  refine x_s (q := (.aload_n 0, 0, 0, 0)) (cod_76 rfl) rfl rfl rfl ?_
  refine x_gf (kk := 17) (t := 0) (cod_76 rfl) sq_p_1 sq_l_1_17 rfl rfl ?_
  refine x_if (p := ¬ (m 1 17) = 0) (tgt := 8) (cod_76 rfl) (by decide) xj_ne (fun h => ?_) (fun h => ?_)
  · have H1 := H.2 h
    refine x_s (q := (.aload_n 0, 0, 0, 0)) (cod_76 rfl) rfl rfl rfl ?_
    refine x_gc (kk := 9) (c := 370) (t := 1) (cod_76 rfl) sq_p_1 sq_l_1_9 rfl rfl ?_
    refine x_s (q := (.aload_n 0, 0, 0, 0)) (cod_76 rfl) rfl rfl rfl ?_
    refine x_gf (kk := 3) (t := 1) (cod_76 rfl) sq_p_1 sq_l_1_3 rfl rfl ?_
    refine x_s (q := (.aload_n 0, 0, 0, 0)) (cod_76 rfl) rfl rfl rfl ?_
    refine x_gc (kk := 7) (c := 280) (t := 1) (cod_76 rfl) sq_p_1 sq_l_1_7 rfl rfl ?_
    refine x_s (q := (.iconst (-1), 0, 0, 0)) (cod_76 rfl) rfl rfl rfl ?_
    refine x_call (as := [(1, 370), (1, (m 1 3)), (1, 280), (0, (-1))]) (rest := []) (cod_76 rfl) rfl rfl (by decide) (by decide) rfl rfl (Nat.le_of_ble_eq_true rfl) (rcv0 sq_l_370_0 sq_p_370 (by decide)) (Nat.le_of_ble_eq_true rfl) ?_
    refine X.imp H1 ?_
    rintro _ m3 ⟨rfl, H4⟩
    show X 76 24 [(1, 1), (9, 0)] [] m3 _
    refine x_s (q := (.aload_n 0, 0, 0, 0)) (cod_76 rfl) rfl rfl rfl ?_
    refine x_gc (kk := 10) (c := 411) (t := 1) (cod_76 rfl) sq_p_1 sq_l_1_10 rfl rfl ?_
    refine x_s (q := (.aload_n 0, 0, 0, 0)) (cod_76 rfl) rfl rfl rfl ?_
    refine x_gf (kk := 3) (t := 1) (cod_76 rfl) sq_p_1 sq_l_1_3 rfl rfl ?_
    refine x_s (q := (.aload_n 0, 0, 0, 0)) (cod_76 rfl) rfl rfl rfl ?_
    refine x_gf (kk := 5) (t := 1) (cod_76 rfl) sq_p_1 sq_l_1_5 rfl rfl ?_
    refine x_s (q := (.aload_n 0, 0, 0, 0)) (cod_76 rfl) rfl rfl rfl ?_
    refine x_gc (kk := 9) (c := 370) (t := 1) (cod_76 rfl) sq_p_1 sq_l_1_9 rfl rfl ?_
    refine x_s (q := (.aload_n 0, 0, 0, 0)) (cod_76 rfl) rfl rfl rfl ?_
    refine x_gc (kk := 15) (c := 595) (t := 1) (cod_76 rfl) sq_p_1 sq_l_1_15 rfl rfl ?_
    refine x_call (as := [(1, 411), (1, (m3 1 3)), (1, (m3 1 5)), (1, 370), (1, 595)]) (rest := []) (cod_76 rfl) rfl rfl (by decide) (by decide) rfl rfl (Nat.le_of_ble_eq_true rfl) (rcv0 sq_l_411_0 sq_p_411 (by decide)) (Nat.le_of_ble_eq_true rfl) ?_
    refine X.imp H4 ?_
    rintro _ m5 ⟨rfl, H6⟩
    show X 76 47 [(1, 1), (9, 0)] [] m5 _
    refine x_s (q := (.iconst 0, 0, 0, 0)) (cod_76 rfl) rfl rfl rfl ?_
    refine x_s (q := (.istore_n 1, 0, 0, 0)) (cod_76 rfl) rfl rfl rfl ?_
    exact H6
  · have H2 := H.1 (Classical.not_not.mp h)
    refine x_retV (cod_76 rfl) rfl ?_
    exact H2
theorem e76 {m : Mm} {K : Mm → Prop}  
  (H : ((m 1 17) = 0 → K m) ∧ (¬ (m 1 17) = 0 → TrV 77 [(1, 370), (1, (m 1 3)), (1, 280), (0, (-1))] m fun m3 => TrV 79 [(1, 411), (1, (m3 1 3)), (1, (m3 1 5)), (1, 370), (1, 595)] m3 fun m5 => X 76 49 [(1, 1), (0, 0)] [] m5 (qV K))) : TrV 76 [(1, 1)] m K := by
  exact w76_0  H
set_option maxRecDepth 100000 in
theorem w76_49 {m : Mm} {K : Mm → Prop} (a1 : Int) 
  (H : shp (m 1 5) = 24 ∧ (a1 < (m (m 1 5) 4) → (0 ≤ a1 ∧ a1 < 10) ∧ ∀ m11, m11 = umem m 595 a1 (m 437 a1) → X 76 49 [(1, 1), (0, wr (a1 + 1))] [] m11 (qV K)) ∧ (¬ a1 < (m (m 1 5) 4) → TrV 96 [(1, 511), (1, (m 1 3)), (1, 411), (1, 283)] m fun m5 => ∀ m7, m7 = umem m5 1 17 0 → K m7)) : X 76 49 [(1, 1), (0, a1)] [] m (qV K) := by
  refine x_s (q := (.iload_n 1, 0, 0, 0)) (cod_76 rfl) rfl rfl rfl ?_
  refine x_s (q := (.aload_n 0, 0, 0, 0)) (cod_76 rfl) rfl rfl rfl ?_
  refine x_gf (kk := 5) (t := 1) (cod_76 rfl) sq_p_1 sq_l_1_5 rfl rfl ?_
  obtain ⟨c1, H2⟩ := H
  refine x_gf (kk := 4) (t := 0) (cod_76 rfl) c1 (sq_c_4_4 c1) rfl rfl ?_
  refine x_ic (p := ¬ a1 < (m (m 1 5) 4)) (tgt := 81) (cod_76 rfl) (by decide) xn_ge (fun h => ?_) (fun h => ?_)
  · have H3 := H2.2 h
    refine x_s (q := (.aload_n 0, 0, 0, 0)) (cod_76 rfl) rfl rfl rfl ?_
    refine x_gc (kk := 12) (c := 511) (t := 1) (cod_76 rfl) sq_p_1 sq_l_1_12 rfl rfl ?_
    refine x_s (q := (.aload_n 0, 0, 0, 0)) (cod_76 rfl) rfl rfl rfl ?_
    refine x_gf (kk := 3) (t := 1) (cod_76 rfl) sq_p_1 sq_l_1_3 rfl rfl ?_
    refine x_s (q := (.aload_n 0, 0, 0, 0)) (cod_76 rfl) rfl rfl rfl ?_
    refine x_gc (kk := 10) (c := 411) (t := 1) (cod_76 rfl) sq_p_1 sq_l_1_10 rfl rfl ?_
    refine x_s (q := (.aload_n 0, 0, 0, 0)) (cod_76 rfl) rfl rfl rfl ?_
    refine x_gc (kk := 7) (c := 280) (t := 1) (cod_76 rfl) sq_p_1 sq_l_1_7 rfl rfl ?_
    refine x_gc (kk := 2) (c := 283) (t := 1) (cod_76 rfl) sq_p_280 sq_l_280_2 rfl rfl ?_
    refine x_call (as := [(1, 511), (1, (m 1 3)), (1, 411), (1, 283)]) (rest := []) (cod_76 rfl) rfl rfl (by decide) (by decide) rfl rfl (Nat.le_of_ble_eq_true rfl) (rcv0 sq_l_511_0 sq_p_511 (by decide)) (Nat.le_of_ble_eq_true rfl) ?_
    refine X.imp H3 ?_
    rintro _ m5 ⟨rfl, H6⟩
    show X 76 103 [(1, 1), (0, a1)] [] m5 _
    refine x_s (q := (.aload_n 0, 0, 0, 0)) (cod_76 rfl) rfl rfl rfl ?_
    refine x_s (q := (.iconst 0, 0, 0, 0)) (cod_76 rfl) rfl rfl rfl ?_
    refine x_pf (kk := 17) (t := 0) (cod_76 rfl) sq_p_1 sq_l_1_17 rfl rfl rfl ?_
    have H8 := H6 _ rfl
    generalize umem m5 1 17 0 = m7 at H8 ⊢
    refine x_retV (cod_76 rfl) rfl ?_
    exact H8
  · have H4 := H2.1 (Classical.not_not.mp h)
    refine x_s (q := (.aload_n 0, 0, 0, 0)) (cod_76 rfl) rfl rfl rfl ?_
    refine x_gc (kk := 15) (c := 595) (t := 1) (cod_76 rfl) sq_p_1 sq_l_1_15 rfl rfl ?_
    refine x_s (q := (.iload_n 1, 0, 0, 0)) (cod_76 rfl) rfl rfl rfl ?_
    refine x_s (q := (.aload_n 0, 0, 0, 0)) (cod_76 rfl) rfl rfl rfl ?_
    refine x_gc (kk := 10) (c := 411) (t := 1) (cod_76 rfl) sq_p_1 sq_l_1_10 rfl rfl ?_
    refine x_gc (kk := 5) (c := 437) (t := 1) (cod_76 rfl) sq_p_411 sq_l_411_5 rfl rfl ?_
    refine x_s (q := (.iload_n 1, 0, 0, 0)) (cod_76 rfl) rfl rfl rfl ?_
    obtain ⟨c9, H10⟩ := H4
    refine x_iald (cod_76 rfl) sq_a_437.s (sq_a_437.k c9.1 c9.2) ?_
    refine x_iast (cod_76 rfl) sq_a_595.s (sq_a_595.k c9.1 c9.2) ?_
    have H12 := H10 _ rfl
    generalize umem m 595 a1 (m 437 a1) = m11 at H12 ⊢
    refine x_s (q := (.iinc 1 1, 0, 0, 0)) (cod_76 rfl) rfl rfl rfl ?_
    refine x_go (tgt := 49) (cod_76 rfl) (by decide) ?_
    exact H12
set_option maxRecDepth 100000 in
theorem w77_0 {m : Mm} {K : Mm → Prop} (a1 : Int) (a2 : Int) (a3 : Int) (ta1 : shp a1 = 30) (ta2 : shp a2 = 22)
  (H : ∀ m1, m1 = umem m 370 9 (m a1 5) → ∀ m3, m3 = umem m1 370 10 a3 → X 77 16 [(1, 370), (1, a1), (1, a2), (0, a3), (0, 0)] [] m3 (qV K)) : X 77 0 [(1, 370), (1, a1), (1, a2), (0, a3), (9, 0)] [] m (qV K) := by
  refine x_s (q := (.aload_n 0, 0, 0, 0)) (cod_77 rfl) rfl rfl rfl ?_
  refine x_aldn (cod_77 rfl) rfl (pos_of ta1 (by decide)) ?_
  refine x_gf (kk := 5) (t := 0) (cod_77 rfl) ta1 (sq_c_10_5 ta1) rfl rfl ?_
  refine x_pf (kk := 9) (t := 0) (cod_77 rfl) sq_p_370 sq_l_370_9 rfl rfl rfl ?_
  have H2 := H _ rfl
  generalize umem m 370 9 (m a1 5) = m1 at H2 ⊢
  refine x_s (q := (.aload_n 0, 0, 0, 0)) (cod_77 rfl) rfl rfl rfl ?_
  refine x_s (q := (.iload_n 3, 0, 0, 0)) (cod_77 rfl) rfl rfl rfl ?_
  refine x_pf (kk := 10) (t := 0) (cod_77 rfl) sq_p_370 sq_l_370_10 rfl rfl rfl ?_
  have H4 := H2 _ rfl
  generalize umem m1 370 10 a3 = m3 at H4 ⊢
  refine x_s (q := (.iconst 0, 0, 0, 0)) (cod_77 rfl) rfl rfl rfl ?_
  refine x_s (q := (.istore 4, 0, 0, 0)) (cod_77 rfl) rfl rfl rfl ?_
  exact H4
theorem e77 {m : Mm} {K : Mm → Prop} (a1 : Int) (a2 : Int) (a3 : Int) (ta1 : shp a1 = 30) (ta2 : shp a2 = 22)
  (H : ∀ m1, m1 = umem m 370 9 (m a1 5) → ∀ m3, m3 = umem m1 370 10 a3 → X 77 16 [(1, 370), (1, a1), (1, a2), (0, a3), (0, 0)] [] m3 (qV K)) : TrV 77 [(1, 370), (1, a1), (1, a2), (0, a3)] m K := by
  exact w77_0 a1 a2 a3 ta1 ta2 H
set_option maxRecDepth 100000 in
theorem w77_16 {m : Mm} {K : Mm → Prop} (a1 : Int) (a2 : Int) (ua3 : aV) (a4 : Int) (ta1 : shp a1 = 30) (ta2 : shp a2 = 22) (hua3 : ua3.1 ≠ 2)
  (H : (a4 < (m 370 9) → (0 ≤ a4 ∧ a4 < 24) ∧ ∀ m5, m5 = umem m 373 a4 (a1 + 6 + 2 * a4) → v_W m5 a2 a4 (m5 a1 8) ∧ ∀ m9, m9 = umem m5 374 a4 (max 0 (m5 (a2 + 1) a4 - (m5 a1 8) * m5 (a2 + 2) a4)) → X 77 16 [(1, 370), (1, a1), (1, a2), ua3, (0, wr (a4 + 1))] [] m9 (qV K)) ∧ (¬ a4 < (m 370 9) → K m)) : X 77 16 [(1, 370), (1, a1), (1, a2), ua3, (0, a4)] [] m (qV K) := by
  refine x_s (q := (.iload 4, 0, 0, 0)) (cod_77 rfl) rfl rfl rfl ?_
  refine x_s (q := (.aload_n 0, 0, 0, 0)) (cod_77 rfl) rfl rfl rfl ?_
  refine x_gf (kk := 9) (t := 0) (cod_77 rfl) sq_p_370 sq_l_370_9 rfl rfl ?_
  refine x_ic (p := ¬ a4 < (m 370 9)) (tgt := 62) (cod_77 rfl) (by decide) xn_ge (fun h => ?_) (fun h => ?_)
  · have H1 := H.2 h
    refine x_retV (cod_77 rfl) rfl ?_
    exact H1
  · have H2 := H.1 (Classical.not_not.mp h)
    refine x_s (q := (.aload_n 0, 0, 0, 0)) (cod_77 rfl) rfl rfl rfl ?_
    refine x_gc (kk := 4) (c := 373) (t := 1) (cod_77 rfl) sq_p_370 sq_l_370_4 rfl rfl ?_
    refine x_s (q := (.iload 4, 0, 0, 0)) (cod_77 rfl) rfl rfl rfl ?_
    refine x_aldn (cod_77 rfl) rfl (pos_of ta1 (by decide)) ?_
    refine x_gc (kk := 0) (c := (a1 + 1)) (t := 1) (cod_77 rfl) ta1 (sq_c_10_0 ta1) rfl rfl ?_
    refine x_s (q := (.iload 4, 0, 0, 0)) (cod_77 rfl) rfl rfl rfl ?_
    obtain ⟨c3, H4⟩ := H2
    refine x_aaldc (c := (a1 + 6 + 2 * a4)) (cod_77 rfl) (by rw [(sq_oa_10_0 (j := a4) ta1 c3.1 c3.2).2.1]; decide) (sq_oa_10_0 (j := a4) ta1 c3.1 c3.2).1 ?_
    refine x_aast (cod_77 rfl) (by rw [sq_a_373.s]; decide) (sq_a_373.k c3.1 c3.2) (sq_c_7_0 (sq_oa_10_0 (j := a4) ta1 c3.1 c3.2).2.2) (by rw [sq_a_373.s]; exact (sq_oa_10_0 (j := a4) ta1 c3.1 c3.2).2.2) ?_
    have H6 := H4 _ rfl
    generalize umem m 373 a4 (a1 + 6 + 2 * a4) = m5 at H6 ⊢
    refine x_s (q := (.aload_n 0, 0, 0, 0)) (cod_77 rfl) rfl rfl rfl ?_
    refine x_gc (kk := 5) (c := 374) (t := 1) (cod_77 rfl) sq_p_370 sq_l_370_5 rfl rfl ?_
    refine x_s (q := (.iload 4, 0, 0, 0)) (cod_77 rfl) rfl rfl rfl ?_
    refine x_aldn (cod_77 rfl) rfl (pos_of ta2 (by decide)) ?_
    refine x_s (q := (.iload 4, 0, 0, 0)) (cod_77 rfl) rfl rfl rfl ?_
    refine x_aldn (cod_77 rfl) rfl (pos_of ta1 (by decide)) ?_
    refine x_gf (kk := 8) (t := 0) (cod_77 rfl) ta1 (sq_c_10_8 ta1) rfl rfl ?_
    obtain ⟨c7, H8⟩ := H6
    refine x_call (as := [(1, a2), (0, a4), (0, m5 a1 8)]) (rest := [(0, a4), (1, 374)]) (cod_77 rfl) rfl rfl (by decide) (by decide) rfl rfl (Nat.le_of_ble_eq_true rfl) (rcv0 (sq_c_2_0 ta2) ta2 (by decide)) (Nat.le_of_ble_eq_true rfl) ?_
    refine x_pure (p78 c7) ?_
    show X 77 55 [(1, 370), (1, a1), (1, a2), ua3, (0, a4)] [(0, max 0 (m5 (a2 + 1) a4 - (m5 a1 8) * m5 (a2 + 2) a4)), (0, a4), (1, 374)] m5 _
    refine x_iast (cod_77 rfl) sq_a_374.s (sq_a_374.k c3.1 c3.2) ?_
    have H10 := H8 _ rfl
    generalize umem m5 374 a4 (max 0 (m5 (a2 + 1) a4 - (m5 a1 8) * m5 (a2 + 2) a4)) = m9 at H10 ⊢
    show X 77 56 [(1, 370), (1, a1), (1, a2), ua3, (0, a4)] [] m9 _
    refine x_s (q := (.iinc 4 1, 0, 0, 0)) (np := 59) (ls' := [(1, 370), (1, a1), (1, a2), ua3, (0, wr (a4 + 1))]) (st' := []) (cod_77 rfl) rfl rfl (by simp [stp1, stS, tok, lsok, oif, hua3]) ?_
    refine x_go (tgt := 16) (cod_77 rfl) (by decide) ?_
    exact H10
set_option maxRecDepth 100000 in
theorem w79_0 {m : Mm} {K : Mm → Prop} (a0 : Int) (a1 : Int) (a2 : Int) (a4 : Int) (ta0 : shp a0 = 20) (ta1 : shp a1 = 30) (ta2 : shp a2 = 24)
  (H : ∀ m1, m1 = umem m a0 9 (m a2 4) → X 79 11 [(1, a0), (1, a1), (1, a2), (1, 370), (1, a4), (0, 0)] [] m1 (qV K)) : X 79 0 [(1, a0), (1, a1), (1, a2), (1, 370), (1, a4), (9, 0)] [] m (qV K) := by
  refine x_aldn (cod_79 rfl) rfl (pos_of ta0 (by decide)) ?_
  refine x_aldn (cod_79 rfl) rfl (pos_of ta2 (by decide)) ?_
  refine x_gf (kk := 4) (t := 0) (cod_79 rfl) ta2 (sq_c_4_4 ta2) rfl rfl ?_
  refine x_pf (kk := 9) (t := 0) (cod_79 rfl) ta0 (sq_c_0_9 ta0) rfl rfl rfl ?_
  have H2 := H _ rfl
  generalize umem m a0 9 (m a2 4) = m1 at H2 ⊢
  refine x_s (q := (.iconst 0, 0, 0, 0)) (cod_79 rfl) rfl rfl rfl ?_
  refine x_s (q := (.istore 5, 0, 0, 0)) (cod_79 rfl) rfl rfl rfl ?_
  exact H2
theorem e79 {m : Mm} {K : Mm → Prop} (a0 : Int) (a1 : Int) (a2 : Int) (a4 : Int) (ta0 : shp a0 = 20) (ta1 : shp a1 = 30) (ta2 : shp a2 = 24)
  (H : ∀ m1, m1 = umem m a0 9 (m a2 4) → X 79 11 [(1, a0), (1, a1), (1, a2), (1, 370), (1, a4), (0, 0)] [] m1 (qV K)) : TrV 79 [(1, a0), (1, a1), (1, a2), (1, 370), (1, a4)] m K := by
  exact w79_0 a0 a1 a2 a4 ta0 ta1 ta2 H
set_option maxRecDepth 100000 in
theorem w79_11 {m : Mm} {K : Mm → Prop} (a0 : Int) (a1 : Int) (a2 : Int) (a4 : Int) (a5 : Int) (ta0 : shp a0 = 20) (ta1 : shp a1 = 30) (ta2 : shp a2 = 24)
  (H : (a5 < (m a0 9) → TrV 80 [(1, a0), (1, a2), (1, 370), (0, a5)] m fun m3 => 1 ≤ a4 ∧ (shp a4 = 0 ∧ slot a4 a5 = some none) ∧ TrV 90 [(1, a0), (1, a1), (1, a2), (1, 370), (0, a5), (0, m3 a4 a5)] m3 fun m9 => (0 ≤ a5 ∧ a5 < 10) ∧ ((m9 (a0 + 27) a5) = 0 → ((m9 (a0 + 2) a5) < 1000000 → TrV 95 [(1, a0), (0, a5), (0, (-2)), (0, wr ((m9 (a0 + 2) a5) + (m9 a1 7)))] m9 fun m17 => X 79 84 [(1, a0), (1, a1), (1, a2), (1, 370), (1, a4), (0, a5)] [] m17 (qV K)) ∧ (¬ (m9 (a0 + 2) a5) < 1000000 → X 79 84 [(1, a0), (1, a1), (1, a2), (1, 370), (1, a4), (0, a5)] [] m9 (qV K))) ∧ (¬ (m9 (a0 + 27) a5) = 0 → X 79 84 [(1, a0), (1, a1), (1, a2), (1, 370), (1, a4), (0, a5)] [] m9 (qV K))) ∧ (¬ a5 < (m a0 9) → K m)) : X 79 11 [(1, a0), (1, a1), (1, a2), (1, 370), (1, a4), (0, a5)] [] m (qV K) := by
  refine x_s (q := (.iload 5, 0, 0, 0)) (cod_79 rfl) rfl rfl rfl ?_
  refine x_aldn (cod_79 rfl) rfl (pos_of ta0 (by decide)) ?_
  refine x_gf (kk := 9) (t := 0) (cod_79 rfl) ta0 (sq_c_0_9 ta0) rfl rfl ?_
  refine x_ic (p := ¬ a5 < (m a0 9)) (tgt := 114) (cod_79 rfl) (by decide) xn_ge (fun h => ?_) (fun h => ?_)
  · have H1 := H.2 h
    refine x_retV (cod_79 rfl) rfl ?_
    exact H1
  · have H2 := H.1 (Classical.not_not.mp h)
    refine x_aldn (cod_79 rfl) rfl (pos_of ta0 (by decide)) ?_
    refine x_aldn (cod_79 rfl) rfl (pos_of ta2 (by decide)) ?_
    refine x_s (q := (.aload_n 3, 0, 0, 0)) (cod_79 rfl) rfl rfl rfl ?_
    refine x_s (q := (.iload 5, 0, 0, 0)) (cod_79 rfl) rfl rfl rfl ?_
    refine x_call (as := [(1, a0), (1, a2), (1, 370), (0, a5)]) (rest := []) (cod_79 rfl) rfl rfl (by decide) (by decide) rfl rfl (Nat.le_of_ble_eq_true rfl) (rcv0 (sq_c_0_0 ta0) ta0 (by decide)) (Nat.le_of_ble_eq_true rfl) ?_
    refine X.imp H2 ?_
    rintro _ m3 ⟨rfl, H4⟩
    show X 79 28 [(1, a0), (1, a1), (1, a2), (1, 370), (1, a4), (0, a5)] [] m3 _
    refine x_aldn (cod_79 rfl) rfl (pos_of ta0 (by decide)) ?_
    refine x_aldn (cod_79 rfl) rfl (pos_of ta1 (by decide)) ?_
    refine x_aldn (cod_79 rfl) rfl (pos_of ta2 (by decide)) ?_
    refine x_s (q := (.aload_n 3, 0, 0, 0)) (cod_79 rfl) rfl rfl rfl ?_
    refine x_s (q := (.iload 5, 0, 0, 0)) (cod_79 rfl) rfl rfl rfl ?_
    obtain ⟨c5, H6⟩ := H4
    refine x_ald (cod_79 rfl) rfl c5 ?_
    refine x_s (q := (.iload 5, 0, 0, 0)) (cod_79 rfl) rfl rfl rfl ?_
    obtain ⟨c7, H8⟩ := H6
    refine x_iald (cod_79 rfl) c7.1 c7.2 ?_
    refine x_call (as := [(1, a0), (1, a1), (1, a2), (1, 370), (0, a5), (0, m3 a4 a5)]) (rest := []) (cod_79 rfl) rfl rfl (by decide) (by decide) rfl rfl (Nat.le_of_ble_eq_true rfl) (rcv0 (sq_c_0_0 ta0) ta0 (by decide)) (Nat.le_of_ble_eq_true rfl) ?_
    refine X.imp H8 ?_
    rintro _ m9 ⟨rfl, H10⟩
    show X 79 42 [(1, a0), (1, a1), (1, a2), (1, 370), (1, a4), (0, a5)] [] m9 _
    refine x_aldn (cod_79 rfl) rfl (pos_of ta0 (by decide)) ?_
    refine x_gc (kk := 6) (c := (a0 + 27)) (t := 1) (cod_79 rfl) ta0 (sq_c_0_6 ta0) rfl rfl ?_
    refine x_s (q := (.iload 5, 0, 0, 0)) (cod_79 rfl) rfl rfl rfl ?_
    obtain ⟨c11, H12⟩ := H10
    refine x_iald (cod_79 rfl) (sq_ac_0_6 ta0).s ((sq_ac_0_6 ta0).k c11.1 c11.2) ?_
    refine x_if (p := ¬ (m9 (a0 + 27) a5) = 0) (tgt := 84) (cod_79 rfl) (by decide) xj_ne (fun h => ?_) (fun h => ?_)
    · have H13 := H12.2 h
      exact H13
    · have H14 := H12.1 (Classical.not_not.mp h)
      refine x_aldn (cod_79 rfl) rfl (pos_of ta0 (by decide)) ?_
      refine x_gc (kk := 1) (c := (a0 + 2)) (t := 1) (cod_79 rfl) ta0 (sq_c_0_1 ta0) rfl rfl ?_
      refine x_s (q := (.iload 5, 0, 0, 0)) (cod_79 rfl) rfl rfl rfl ?_
      refine x_iald (cod_79 rfl) (sq_ac_0_1 ta0).s ((sq_ac_0_1 ta0).k c11.1 c11.2) ?_
      refine x_s (q := (.ldc 57, 1000000, 0, 0)) (cod_79 rfl) rfl rfl rfl ?_
      refine x_ic (p := ¬ (m9 (a0 + 2) a5) < 1000000) (tgt := 84) (cod_79 rfl) (by decide) xn_ge (fun h => ?_) (fun h => ?_)
      · have H15 := H14.2 h
        exact H15
      · have H16 := H14.1 (Classical.not_not.mp h)
        refine x_aldn (cod_79 rfl) rfl (pos_of ta0 (by decide)) ?_
        refine x_s (q := (.iload 5, 0, 0, 0)) (cod_79 rfl) rfl rfl rfl ?_
        refine x_s (q := (.bipush (-2), 0, 0, 0)) (cod_79 rfl) rfl rfl rfl ?_
        refine x_aldn (cod_79 rfl) rfl (pos_of ta0 (by decide)) ?_
        refine x_gc (kk := 1) (c := (a0 + 2)) (t := 1) (cod_79 rfl) ta0 (sq_c_0_1 ta0) rfl rfl ?_
        refine x_s (q := (.iload 5, 0, 0, 0)) (cod_79 rfl) rfl rfl rfl ?_
        refine x_iald (cod_79 rfl) (sq_ac_0_1 ta0).s ((sq_ac_0_1 ta0).k c11.1 c11.2) ?_
        refine x_aldn (cod_79 rfl) rfl (pos_of ta1 (by decide)) ?_
        refine x_gf (kk := 7) (t := 0) (cod_79 rfl) ta1 (sq_c_10_7 ta1) rfl rfl ?_
        refine x_s (q := (.iadd, 0, 0, 0)) (cod_79 rfl) rfl rfl rfl ?_
        refine x_call (as := [(1, a0), (0, a5), (0, (-2)), (0, wr ((m9 (a0 + 2) a5) + (m9 a1 7)))]) (rest := []) (cod_79 rfl) rfl rfl (by decide) (by decide) rfl rfl (Nat.le_of_ble_eq_true rfl) (rcv0 (sq_c_0_0 ta0) ta0 (by decide)) (Nat.le_of_ble_eq_true rfl) ?_
        refine X.imp H16 ?_
        rintro _ m17 ⟨rfl, H18⟩
        show X 79 84 [(1, a0), (1, a1), (1, a2), (1, 370), (1, a4), (0, a5)] [] m17 _
        exact H18
set_option maxRecDepth 100000 in
theorem w79_84 {m : Mm} {K : Mm → Prop} (a0 : Int) (a1 : Int) (a2 : Int) (a4 : Int) (a5 : Int) (ta0 : shp a0 = 20) (ta1 : shp a1 = 30) (ta2 : shp a2 = 24)
  (H : (0 ≤ a5 ∧ a5 < 10) ∧ ((m (a0 + 27) a5) = 0 → TrV 95 [(1, a0), (0, a5), (0, (-3)), (0, wr (2 * (m a1 7)))] m fun m5 => X 79 11 [(1, a0), (1, a1), (1, a2), (1, 370), (1, a4), (0, wr (a5 + 1))] [] m5 (qV K)) ∧ (¬ (m (a0 + 27) a5) = 0 → X 79 11 [(1, a0), (1, a1), (1, a2), (1, 370), (1, a4), (0, wr (a5 + 1))] [] m (qV K))) : X 79 84 [(1, a0), (1, a1), (1, a2), (1, 370), (1, a4), (0, a5)] [] m (qV K) := by
  refine x_aldn (cod_79 rfl) rfl (pos_of ta0 (by decide)) ?_
  refine x_gc (kk := 6) (c := (a0 + 27)) (t := 1) (cod_79 rfl) ta0 (sq_c_0_6 ta0) rfl rfl ?_
  refine x_s (q := (.iload 5, 0, 0, 0)) (cod_79 rfl) rfl rfl rfl ?_
  obtain ⟨c1, H2⟩ := H
  refine x_iald (cod_79 rfl) (sq_ac_0_6 ta0).s ((sq_ac_0_6 ta0).k c1.1 c1.2) ?_
  refine x_if (p := ¬ (m (a0 + 27) a5) = 0) (tgt := 108) (cod_79 rfl) (by decide) xj_ne (fun h => ?_) (fun h => ?_)
  · have H3 := H2.2 h
    refine x_s (q := (.iinc 5 1, 0, 0, 0)) (cod_79 rfl) rfl rfl rfl ?_
    refine x_go (tgt := 11) (cod_79 rfl) (by decide) ?_
    exact H3
  · have H4 := H2.1 (Classical.not_not.mp h)
    refine x_aldn (cod_79 rfl) rfl (pos_of ta0 (by decide)) ?_
    refine x_s (q := (.iload 5, 0, 0, 0)) (cod_79 rfl) rfl rfl rfl ?_
    refine x_s (q := (.bipush (-3), 0, 0, 0)) (cod_79 rfl) rfl rfl rfl ?_
    refine x_s (q := (.iconst 2, 0, 0, 0)) (cod_79 rfl) rfl rfl rfl ?_
    refine x_aldn (cod_79 rfl) rfl (pos_of ta1 (by decide)) ?_
    refine x_gf (kk := 7) (t := 0) (cod_79 rfl) ta1 (sq_c_10_7 ta1) rfl rfl ?_
    refine x_s (q := (.imul, 0, 0, 0)) (cod_79 rfl) rfl rfl rfl ?_
    refine x_call (as := [(1, a0), (0, a5), (0, (-3)), (0, wr (2 * (m a1 7)))]) (rest := []) (cod_79 rfl) rfl rfl (by decide) (by decide) rfl rfl (Nat.le_of_ble_eq_true rfl) (rcv0 (sq_c_0_0 ta0) ta0 (by decide)) (Nat.le_of_ble_eq_true rfl) ?_
    refine X.imp H4 ?_
    rintro _ m5 ⟨rfl, H6⟩
    show X 79 108 [(1, a0), (1, a1), (1, a2), (1, 370), (1, a4), (0, a5)] [] m5 _
    refine x_s (q := (.iinc 5 1, 0, 0, 0)) (cod_79 rfl) rfl rfl rfl ?_
    refine x_go (tgt := 11) (cod_79 rfl) (by decide) ?_
    exact H6
set_option maxRecDepth 100000 in
theorem w80_0 {m : Mm} {K : Mm → Prop} (a0 : Int) (a1 : Int) (a3 : Int) (ta0 : shp a0 = 20) (ta1 : shp a1 = 24)
  (H : TrV 81 [(1, 370), (1, a1), (0, a3)] m fun m1 => TrV 85 [(1, 370), (1, a1), (0, a3)] m1 fun m3 => (0 ≤ a3 ∧ a3 < 10) ∧ ∀ m7, m7 = umem m3 (a0 + 2) a3 (m3 376 0) → ∀ m9, m9 = umem m7 (a0 + 1) a3 (m7 388 0) → ∀ m11, m11 = umem m9 (a0 + 3) a3 (m9 370 3) → X 80 45 [(1, a0), (1, a1), (1, 370), (0, a3), (0, 0)] [] m11 (qV K)) : X 80 0 [(1, a0), (1, a1), (1, 370), (0, a3), (9, 0)] [] m (qV K) := by
  refine x_s (q := (.aload_n 2, 0, 0, 0)) (cod_80 rfl) rfl rfl rfl ?_
  refine x_aldn (cod_80 rfl) rfl (pos_of ta1 (by decide)) ?_
  refine x_s (q := (.iload_n 3, 0, 0, 0)) (cod_80 rfl) rfl rfl rfl ?_
  refine x_call (as := [(1, 370), (1, a1), (0, a3)]) (rest := []) (cod_80 rfl) rfl rfl (by decide) (by decide) rfl rfl (Nat.le_of_ble_eq_true rfl) (rcv0 sq_l_370_0 sq_p_370 (by decide)) (Nat.le_of_ble_eq_true rfl) ?_
  refine X.imp H ?_
  rintro _ m1 ⟨rfl, H2⟩
  show X 80 6 [(1, a0), (1, a1), (1, 370), (0, a3), (9, 0)] [] m1 _
  refine x_s (q := (.aload_n 2, 0, 0, 0)) (cod_80 rfl) rfl rfl rfl ?_
  refine x_aldn (cod_80 rfl) rfl (pos_of ta1 (by decide)) ?_
  refine x_s (q := (.iload_n 3, 0, 0, 0)) (cod_80 rfl) rfl rfl rfl ?_
  refine x_call (as := [(1, 370), (1, a1), (0, a3)]) (rest := []) (cod_80 rfl) rfl rfl (by decide) (by decide) rfl rfl (Nat.le_of_ble_eq_true rfl) (rcv0 sq_l_370_0 sq_p_370 (by decide)) (Nat.le_of_ble_eq_true rfl) ?_
  refine X.imp H2 ?_
  rintro _ m3 ⟨rfl, H4⟩
  show X 80 12 [(1, a0), (1, a1), (1, 370), (0, a3), (9, 0)] [] m3 _
  refine x_aldn (cod_80 rfl) rfl (pos_of ta0 (by decide)) ?_
  refine x_gc (kk := 1) (c := (a0 + 2)) (t := 1) (cod_80 rfl) ta0 (sq_c_0_1 ta0) rfl rfl ?_
  refine x_s (q := (.iload_n 3, 0, 0, 0)) (cod_80 rfl) rfl rfl rfl ?_
  refine x_s (q := (.aload_n 2, 0, 0, 0)) (cod_80 rfl) rfl rfl rfl ?_
  refine x_call (as := [(1, 370)]) (rest := [(0, a3), (1, (a0 + 2))]) (cod_80 rfl) rfl rfl (by decide) (by decide) rfl rfl (Nat.le_of_ble_eq_true rfl) (rcv0 sq_l_370_0 sq_p_370 (by decide)) (Nat.le_of_ble_eq_true rfl) ?_
  show X 86 0 [(1, 370)] [] m3 _
  refine x_s (q := (.aload_n 0, 0, 0, 0)) (cod_86 rfl) rfl rfl rfl ?_
  refine x_gc (kk := 6) (c := 375) (t := 1) (cod_86 rfl) sq_p_370 sq_l_370_6 rfl rfl ?_
  refine x_s (q := (.iconst 0, 0, 0, 0)) (cod_86 rfl) rfl rfl rfl ?_
  refine x_aaldc (c := 376) (cod_86 rfl) (by rw [(sq_ro_375 (j := 0) (by decide) (by decide)).2]; decide) (sq_ro_375 (j := 0) (by decide) (by decide)).1 ?_
  refine x_s (q := (.iconst 0, 0, 0, 0)) (cod_86 rfl) rfl rfl rfl ?_
  refine x_iald (cod_86 rfl) (sq_rw_375 (j := 0) (by decide) (by decide)).s ((sq_rw_375 (j := 0) (by decide) (by decide)).k (by decide) (by decide)) ?_
  refine x_rI (t := .int) (cod_86 rfl) rfl rfl rfl ?_
  show X 80 21 [(1, a0), (1, a1), (1, 370), (0, a3), (9, 0)] [(0, m3 376 0), (0, a3), (1, (a0 + 2))] m3 _
  obtain ⟨c5, H6⟩ := H4
  refine x_iast (cod_80 rfl) (sq_ac_0_1 ta0).s ((sq_ac_0_1 ta0).k c5.1 c5.2) ?_
  have H8 := H6 _ rfl
  generalize umem m3 (a0 + 2) a3 (m3 376 0) = m7 at H8 ⊢
  refine x_aldn (cod_80 rfl) rfl (pos_of ta0 (by decide)) ?_
  refine x_gc (kk := 0) (c := (a0 + 1)) (t := 1) (cod_80 rfl) ta0 (sq_c_0_0 ta0) rfl rfl ?_
  refine x_s (q := (.iload_n 3, 0, 0, 0)) (cod_80 rfl) rfl rfl rfl ?_
  refine x_s (q := (.aload_n 2, 0, 0, 0)) (cod_80 rfl) rfl rfl rfl ?_
  refine x_call (as := [(1, 370)]) (rest := [(0, a3), (1, (a0 + 1))]) (cod_80 rfl) rfl rfl (by decide) (by decide) rfl rfl (Nat.le_of_ble_eq_true rfl) (rcv0 sq_l_370_0 sq_p_370 (by decide)) (Nat.le_of_ble_eq_true rfl) ?_
  show X 89 0 [(1, 370)] [] m7 _
  refine x_s (q := (.aload_n 0, 0, 0, 0)) (cod_89 rfl) rfl rfl rfl ?_
  refine x_gc (kk := 7) (c := 387) (t := 1) (cod_89 rfl) sq_p_370 sq_l_370_7 rfl rfl ?_
  refine x_s (q := (.iconst 0, 0, 0, 0)) (cod_89 rfl) rfl rfl rfl ?_
  refine x_aaldc (c := 388) (cod_89 rfl) (by rw [(sq_ro_387 (j := 0) (by decide) (by decide)).2]; decide) (sq_ro_387 (j := 0) (by decide) (by decide)).1 ?_
  refine x_s (q := (.iconst 0, 0, 0, 0)) (cod_89 rfl) rfl rfl rfl ?_
  refine x_laldm (cod_89 rfl) (sq_rw_387 (j := 0) (by decide) (by decide)).s ((sq_rw_387 (j := 0) (by decide) (by decide)).k (by decide) (by decide)) ?_
  refine x_rL (cod_89 rfl) rfl ?_
  show X 80 31 [(1, a0), (1, a1), (1, 370), (0, a3), (9, 0)] [(2, m7 388 0), (0, a3), (1, (a0 + 1))] m7 _
  refine x_last (cod_80 rfl) (sq_ac_0_0 ta0).s ((sq_ac_0_0 ta0).k c5.1 c5.2) ?_
  have H10 := H8 _ rfl
  generalize umem m7 (a0 + 1) a3 (m7 388 0) = m9 at H10 ⊢
  refine x_aldn (cod_80 rfl) rfl (pos_of ta0 (by decide)) ?_
  refine x_gc (kk := 2) (c := (a0 + 3)) (t := 1) (cod_80 rfl) ta0 (sq_c_0_2 ta0) rfl rfl ?_
  refine x_s (q := (.iload_n 3, 0, 0, 0)) (cod_80 rfl) rfl rfl rfl ?_
  refine x_s (q := (.aload_n 2, 0, 0, 0)) (cod_80 rfl) rfl rfl rfl ?_
  refine x_gf (kk := 3) (t := 0) (cod_80 rfl) sq_p_370 sq_l_370_3 rfl rfl ?_
  refine x_iast (cod_80 rfl) (sq_ac_0_2 ta0).s ((sq_ac_0_2 ta0).k c5.1 c5.2) ?_
  have H12 := H10 _ rfl
  generalize umem m9 (a0 + 3) a3 (m9 370 3) = m11 at H12 ⊢
  refine x_s (q := (.iconst 0, 0, 0, 0)) (cod_80 rfl) rfl rfl rfl ?_
  refine x_s (q := (.istore 4, 0, 0, 0)) (cod_80 rfl) rfl rfl rfl ?_
  exact H12
theorem e80 {m : Mm} {K : Mm → Prop} (a0 : Int) (a1 : Int) (a3 : Int) (ta0 : shp a0 = 20) (ta1 : shp a1 = 24)
  (H : TrV 81 [(1, 370), (1, a1), (0, a3)] m fun m1 => TrV 85 [(1, 370), (1, a1), (0, a3)] m1 fun m3 => (0 ≤ a3 ∧ a3 < 10) ∧ ∀ m7, m7 = umem m3 (a0 + 2) a3 (m3 376 0) → ∀ m9, m9 = umem m7 (a0 + 1) a3 (m7 388 0) → ∀ m11, m11 = umem m9 (a0 + 3) a3 (m9 370 3) → X 80 45 [(1, a0), (1, a1), (1, 370), (0, a3), (0, 0)] [] m11 (qV K)) : TrV 80 [(1, a0), (1, a1), (1, 370), (0, a3)] m K := by
  exact w80_0 a0 a1 a3 ta0 ta1 H
set_option maxRecDepth 100000 in
theorem w80_45 {m : Mm} {K : Mm → Prop} (a0 : Int) (ua1 : aV) (a3 : Int) (a4 : Int) (ta0 : shp a0 = 20)
  (H : (a4 < (m 370 3) → (0 ≤ a3 ∧ a3 < 10) ∧ (0 ≤ a4 ∧ a4 < 60) ∧ ∀ m7, m7 = umem m (a0 + 5 + a3) a4 (m 372 a4) → X 80 45 [(1, a0), ua1, (1, 370), (0, a3), (0, wr (a4 + 1))] [] m7 (qV K)) ∧ (¬ a4 < (m 370 3) → K m)) : X 80 45 [(1, a0), ua1, (1, 370), (0, a3), (0, a4)] [] m (qV K) := by
  refine x_s (q := (.iload 4, 0, 0, 0)) (cod_80 rfl) rfl rfl rfl ?_
  refine x_s (q := (.aload_n 2, 0, 0, 0)) (cod_80 rfl) rfl rfl rfl ?_
  refine x_gf (kk := 3) (t := 0) (cod_80 rfl) sq_p_370 sq_l_370_3 rfl rfl ?_
  refine x_ic (p := ¬ a4 < (m 370 3)) (tgt := 76) (cod_80 rfl) (by decide) xn_ge (fun h => ?_) (fun h => ?_)
  · have H1 := H.2 h
    refine x_retV (cod_80 rfl) rfl ?_
    exact H1
  · have H2 := H.1 (Classical.not_not.mp h)
    refine x_aldn (cod_80 rfl) rfl (pos_of ta0 (by decide)) ?_
    refine x_gc (kk := 3) (c := (a0 + 4)) (t := 1) (cod_80 rfl) ta0 (sq_c_0_3 ta0) rfl rfl ?_
    refine x_s (q := (.iload_n 3, 0, 0, 0)) (cod_80 rfl) rfl rfl rfl ?_
    obtain ⟨c3, H4⟩ := H2
    refine x_aaldc (c := (a0 + 5 + a3)) (cod_80 rfl) (by rw [(sq_roc_0_3 (j := a3) ta0 c3.1 c3.2).2]; decide) (sq_roc_0_3 (j := a3) ta0 c3.1 c3.2).1 ?_
    refine x_s (q := (.iload 4, 0, 0, 0)) (cod_80 rfl) rfl rfl rfl ?_
    refine x_s (q := (.aload_n 2, 0, 0, 0)) (cod_80 rfl) rfl rfl rfl ?_
    refine x_gc (kk := 1) (c := 372) (t := 1) (cod_80 rfl) sq_p_370 sq_l_370_1 rfl rfl ?_
    refine x_s (q := (.iload 4, 0, 0, 0)) (cod_80 rfl) rfl rfl rfl ?_
    obtain ⟨c5, H6⟩ := H4
    refine x_iald (cod_80 rfl) sq_a_372.s (sq_a_372.k c5.1 c5.2) ?_
    refine x_iast (cod_80 rfl) (sq_rwc_0_3 (j := a3) ta0 c3.1 c3.2).s ((sq_rwc_0_3 (j := a3) ta0 c3.1 c3.2).k c5.1 c5.2) ?_
    have H8 := H6 _ rfl
    generalize umem m (a0 + 5 + a3) a4 (m 372 a4) = m7 at H8 ⊢
    refine x_s (q := (.iinc 4 1, 0, 0, 0)) (cod_80 rfl) rfl rfl rfl ?_
    refine x_go (tgt := 45) (cod_80 rfl) (by decide) ?_
    exact H8
set_option maxRecDepth 100000 in
theorem w81_0 {m : Mm} {K : Mm → Prop} (a1 : Int) (a2 : Int) (ta1 : shp a1 = 24)
  (H : (0 ≤ a2 ∧ a2 < 10) ∧ X 81 10 [(1, 370), (1, a1), (0, a2), (0, m (a1 + 1) a2), (0, 0), (9, 0), (9, 0)] [] m (qV K)) : X 81 0 [(1, 370), (1, a1), (0, a2), (9, 0), (9, 0), (9, 0), (9, 0)] [] m (qV K) := by
  refine x_aldn (cod_81 rfl) rfl (pos_of ta1 (by decide)) ?_
  refine x_gc (kk := 0) (c := (a1 + 1)) (t := 1) (cod_81 rfl) ta1 (sq_c_4_0 ta1) rfl rfl ?_
  refine x_s (q := (.iload_n 2, 0, 0, 0)) (cod_81 rfl) rfl rfl rfl ?_
  obtain ⟨c1, H2⟩ := H
  refine x_iald (cod_81 rfl) (sq_ac_4_0 ta1).s ((sq_ac_4_0 ta1).k c1.1 c1.2) ?_
  refine x_s (q := (.istore_n 3, 0, 0, 0)) (cod_81 rfl) rfl rfl rfl ?_
  refine x_s (q := (.iconst 0, 0, 0, 0)) (cod_81 rfl) rfl rfl rfl ?_
  refine x_s (q := (.istore 4, 0, 0, 0)) (cod_81 rfl) rfl rfl rfl ?_
  exact H2
theorem e81 {m : Mm} {K : Mm → Prop} (a1 : Int) (a2 : Int) (ta1 : shp a1 = 24)
  (H : (0 ≤ a2 ∧ a2 < 10) ∧ X 81 10 [(1, 370), (1, a1), (0, a2), (0, m (a1 + 1) a2), (0, 0), (9, 0), (9, 0)] [] m (qV K)) : TrV 81 [(1, 370), (1, a1), (0, a2)] m K := by
  exact w81_0 a1 a2 ta1 H
set_option maxRecDepth 100000 in
theorem w81_10 {m : Mm} {K : Mm → Prop} (a1 : Int) (a2 : Int) (a3 : Int) (a4 : Int) (ua5 : aV) (ua6 : aV) (ta1 : shp a1 = 24)
  (H : (a4 < 27 → (0 ≤ a3 ∧ a3 < 11) ∧ (0 ≤ a4 ∧ a4 < 27) ∧ ∀ m7, m7 = umem m (376 + a3) a4 0 → ∀ m9, m9 = umem m7 (388 + a3) a4 1 → X 81 10 [(1, 370), (1, a1), (0, a2), (0, a3), (0, wr (a4 + 1)), ua5, ua6] [] m9 (qV K)) ∧ (¬ a4 < 27 → X 81 48 [(1, 370), (1, a1), (0, a2), (0, a3), (0, wr (a3 - 1)), ua5, ua6] [] m (qV K))) : X 81 10 [(1, 370), (1, a1), (0, a2), (0, a3), (0, a4), ua5, ua6] [] m (qV K) := by
  refine x_s (q := (.iload 4, 0, 0, 0)) (cod_81 rfl) rfl rfl rfl ?_
  refine x_s (q := (.bipush 27, 0, 0, 0)) (cod_81 rfl) rfl rfl rfl ?_
  refine x_ic (p := ¬ a4 < 27) (tgt := 43) (cod_81 rfl) (by decide) xn_ge (fun h => ?_) (fun h => ?_)
  · have H1 := H.2 h
    refine x_s (q := (.iload_n 3, 0, 0, 0)) (cod_81 rfl) rfl rfl rfl ?_
    refine x_s (q := (.iconst 1, 0, 0, 0)) (cod_81 rfl) rfl rfl rfl ?_
    refine x_s (q := (.isub, 0, 0, 0)) (cod_81 rfl) rfl rfl rfl ?_
    refine x_s (q := (.istore 4, 0, 0, 0)) (cod_81 rfl) rfl rfl rfl ?_
    exact H1
  · have H2 := H.1 (Classical.not_not.mp h)
    refine x_s (q := (.aload_n 0, 0, 0, 0)) (cod_81 rfl) rfl rfl rfl ?_
    refine x_gc (kk := 6) (c := 375) (t := 1) (cod_81 rfl) sq_p_370 sq_l_370_6 rfl rfl ?_
    refine x_s (q := (.iload_n 3, 0, 0, 0)) (cod_81 rfl) rfl rfl rfl ?_
    obtain ⟨c3, H4⟩ := H2
    refine x_aaldc (c := (376 + a3)) (cod_81 rfl) (by rw [(sq_ro_375 (j := a3) c3.1 c3.2).2]; decide) (sq_ro_375 (j := a3) c3.1 c3.2).1 ?_
    refine x_s (q := (.iload 4, 0, 0, 0)) (cod_81 rfl) rfl rfl rfl ?_
    refine x_s (q := (.iconst 0, 0, 0, 0)) (cod_81 rfl) rfl rfl rfl ?_
    obtain ⟨c5, H6⟩ := H4
    refine x_iast (cod_81 rfl) (sq_rw_375 (j := a3) c3.1 c3.2).s ((sq_rw_375 (j := a3) c3.1 c3.2).k c5.1 c5.2) ?_
    have H8 := H6 _ rfl
    generalize umem m (376 + a3) a4 0 = m7 at H8 ⊢
    refine x_s (q := (.aload_n 0, 0, 0, 0)) (cod_81 rfl) rfl rfl rfl ?_
    refine x_gc (kk := 7) (c := 387) (t := 1) (cod_81 rfl) sq_p_370 sq_l_370_7 rfl rfl ?_
    refine x_s (q := (.iload_n 3, 0, 0, 0)) (cod_81 rfl) rfl rfl rfl ?_
    refine x_aaldc (c := (388 + a3)) (cod_81 rfl) (by rw [(sq_ro_387 (j := a3) c3.1 c3.2).2]; decide) (sq_ro_387 (j := a3) c3.1 c3.2).1 ?_
    refine x_s (q := (.iload 4, 0, 0, 0)) (cod_81 rfl) rfl rfl rfl ?_
    refine x_s (q := (.lconst 1, 0, 0, 0)) (cod_81 rfl) rfl rfl rfl ?_
    show X 81 36 [(1, 370), (1, a1), (0, a2), (0, a3), (0, a4), ua5, ua6] [(2, 1), (0, a4), (1, (388 + a3))] m7 _
    refine x_last (cod_81 rfl) (sq_rw_387 (j := a3) c3.1 c3.2).s ((sq_rw_387 (j := a3) c3.1 c3.2).k c5.1 c5.2) ?_
    have H10 := H8 _ rfl
    generalize umem m7 (388 + a3) a4 1 = m9 at H10 ⊢
    refine x_s (q := (.iinc 4 1, 0, 0, 0)) (cod_81 rfl) rfl rfl rfl ?_
    refine x_go (tgt := 10) (cod_81 rfl) (by decide) ?_
    exact H10
set_option maxRecDepth 100000 in
theorem w81_48 {m : Mm} {K : Mm → Prop} (a1 : Int) (a2 : Int) (ua3 : aV) (a4 : Int) (ua5 : aV) (ua6 : aV) (ta1 : shp a1 = 24)
  (H : (a4 < 0 → K m) ∧ (¬ a4 < 0 → (0 ≤ a2 ∧ a2 < 10) ∧ (0 ≤ a4 ∧ a4 < 11) ∧ X 81 67 [(1, 370), (1, a1), (0, a2), ua3, (0, a4), (0, m (a1 + 25 + a2) a4), (0, 0)] [] m (qV K))) : X 81 48 [(1, 370), (1, a1), (0, a2), ua3, (0, a4), ua5, ua6] [] m (qV K) := by
  refine x_s (q := (.iload 4, 0, 0, 0)) (cod_81 rfl) rfl rfl rfl ?_
  refine x_if (p := a4 < 0) (tgt := 168) (cod_81 rfl) (by decide) xj_lt (fun h => ?_) (fun h => ?_)
  · have H1 := H.1 h
    refine x_retV (cod_81 rfl) rfl ?_
    exact H1
  · have H2 := H.2 h
    refine x_aldn (cod_81 rfl) rfl (pos_of ta1 (by decide)) ?_
    refine x_gc (kk := 3) (c := (a1 + 24)) (t := 1) (cod_81 rfl) ta1 (sq_c_4_3 ta1) rfl rfl ?_
    refine x_s (q := (.iload_n 2, 0, 0, 0)) (cod_81 rfl) rfl rfl rfl ?_
    obtain ⟨c3, H4⟩ := H2
    refine x_aaldc (c := (a1 + 25 + a2)) (cod_81 rfl) (by rw [(sq_roc_4_3 (j := a2) ta1 c3.1 c3.2).2]; decide) (sq_roc_4_3 (j := a2) ta1 c3.1 c3.2).1 ?_
    refine x_s (q := (.iload 4, 0, 0, 0)) (cod_81 rfl) rfl rfl rfl ?_
    obtain ⟨c5, H6⟩ := H4
    refine x_iald (cod_81 rfl) (sq_rwc_4_3 (j := a2) ta1 c3.1 c3.2).s ((sq_rwc_4_3 (j := a2) ta1 c3.1 c3.2).k c5.1 c5.2) ?_
    refine x_s (q := (.istore 5, 0, 0, 0)) (cod_81 rfl) rfl rfl rfl ?_
    refine x_s (q := (.iconst 0, 0, 0, 0)) (cod_81 rfl) rfl rfl rfl ?_
    refine x_s (q := (.istore 6, 0, 0, 0)) (cod_81 rfl) rfl rfl rfl ?_
    exact H6
set_option maxRecDepth 100000 in
theorem w81_67 {m : Mm} {K : Mm → Prop} (a1 : Int) (a2 : Int) (ua3 : aV) (a4 : Int) (a5 : Int) (a6 : Int) (ta1 : shp a1 = 24) (hua3 : ua3.1 ≠ 2)
  (H : (a6 < 27 → (a5 = 27 → (0 ≤ a2 ∧ a2 < 10) ∧ (0 ≤ a4 ∧ a4 < 10) ∧ (0 ≤ (wr (a4 + 1)) ∧ (wr (a4 + 1)) < 11) ∧ TrV 82 [(1, 370), (0, a4), (0, a6), (0, m (a1 + 14 + a2) a4), (0, m (a1 + 25 + a2) (wr (a4 + 1)))] m fun m23 => X 81 67 [(1, 370), (1, a1), (0, a2), ua3, (0, a4), (0, a5), (0, wr (a6 + 1))] [] m23 (qV K)) ∧ (¬ a5 = 27 → (0 ≤ a4 ∧ a4 < 11) ∧ (0 ≤ (wr (a4 + 1)) ∧ (wr (a4 + 1)) < 11) ∧ (0 ≤ a5 ∧ a5 < 27) ∧ (0 ≤ a6 ∧ a6 < 27) ∧ ∀ m13, m13 = umem m (376 + a4) a6 (m (376 + (wr (a4 + 1))) a5) → ∀ m15, m15 = umem m13 (388 + a4) a6 (m13 (388 + (wr (a4 + 1))) a5) → X 81 67 [(1, 370), (1, a1), (0, a2), ua3, (0, a4), (0, a5), (0, wr (a6 + 1))] [] m15 (qV K))) ∧ (¬ a6 < 27 → X 81 48 [(1, 370), (1, a1), (0, a2), ua3, (0, wr (a4 + (-1))), (0, a5), (0, a6)] [] m (qV K))) : X 81 67 [(1, 370), (1, a1), (0, a2), ua3, (0, a4), (0, a5), (0, a6)] [] m (qV K) := by
  refine x_s (q := (.iload 6, 0, 0, 0)) (cod_81 rfl) rfl rfl rfl ?_
  refine x_s (q := (.bipush 27, 0, 0, 0)) (cod_81 rfl) rfl rfl rfl ?_
  refine x_ic (p := ¬ a6 < 27) (tgt := 162) (cod_81 rfl) (by decide) xn_ge (fun h => ?_) (fun h => ?_)
  · have H1 := H.2 h
    show X 81 162 [(1, 370), (1, a1), (0, a2), ua3, (0, a4), (0, a5), (0, a6)] [] m _
    refine x_s (q := (.iinc 4 (-1), 0, 0, 0)) (np := 165) (ls' := [(1, 370), (1, a1), (0, a2), ua3, (0, wr (a4 + (-1))), (0, a5), (0, a6)]) (st' := []) (cod_81 rfl) rfl rfl (by simp [stp1, stS, tok, lsok, oif, hua3]) ?_
    refine x_go (tgt := 48) (cod_81 rfl) (by decide) ?_
    exact H1
  · have H2 := H.1 (Classical.not_not.mp h)
    refine x_s (q := (.iload 5, 0, 0, 0)) (cod_81 rfl) rfl rfl rfl ?_
    refine x_s (q := (.bipush 27, 0, 0, 0)) (cod_81 rfl) rfl rfl rfl ?_
    refine x_ic (p := ¬ a5 = 27) (tgt := 112) (cod_81 rfl) (by decide) xj_ne (fun h => ?_) (fun h => ?_)
    · have H3 := H2.2 h
      refine x_s (q := (.aload_n 0, 0, 0, 0)) (cod_81 rfl) rfl rfl rfl ?_
      refine x_gc (kk := 6) (c := 375) (t := 1) (cod_81 rfl) sq_p_370 sq_l_370_6 rfl rfl ?_
      refine x_s (q := (.iload 4, 0, 0, 0)) (cod_81 rfl) rfl rfl rfl ?_
      obtain ⟨c5, H6⟩ := H3
      refine x_aaldc (c := (376 + a4)) (cod_81 rfl) (by rw [(sq_ro_375 (j := a4) c5.1 c5.2).2]; decide) (sq_ro_375 (j := a4) c5.1 c5.2).1 ?_
      refine x_s (q := (.iload 6, 0, 0, 0)) (cod_81 rfl) rfl rfl rfl ?_
      refine x_s (q := (.aload_n 0, 0, 0, 0)) (cod_81 rfl) rfl rfl rfl ?_
      refine x_gc (kk := 6) (c := 375) (t := 1) (cod_81 rfl) sq_p_370 sq_l_370_6 rfl rfl ?_
      refine x_s (q := (.iload 4, 0, 0, 0)) (cod_81 rfl) rfl rfl rfl ?_
      refine x_s (q := (.iconst 1, 0, 0, 0)) (cod_81 rfl) rfl rfl rfl ?_
      refine x_s (q := (.iadd, 0, 0, 0)) (cod_81 rfl) rfl rfl rfl ?_
      obtain ⟨c7, H8⟩ := H6
      refine x_aaldc (c := (376 + (wr (a4 + 1)))) (cod_81 rfl) (by rw [(sq_ro_375 (j := wr (a4 + 1)) c7.1 c7.2).2]; decide) (sq_ro_375 (j := wr (a4 + 1)) c7.1 c7.2).1 ?_
      refine x_s (q := (.iload 5, 0, 0, 0)) (cod_81 rfl) rfl rfl rfl ?_
      obtain ⟨c9, H10⟩ := H8
      refine x_iald (cod_81 rfl) (sq_rw_375 (j := wr (a4 + 1)) c7.1 c7.2).s ((sq_rw_375 (j := wr (a4 + 1)) c7.1 c7.2).k c9.1 c9.2) ?_
      obtain ⟨c11, H12⟩ := H10
      refine x_iast (cod_81 rfl) (sq_rw_375 (j := a4) c5.1 c5.2).s ((sq_rw_375 (j := a4) c5.1 c5.2).k c11.1 c11.2) ?_
      have H14 := H12 _ rfl
      generalize umem m (376 + a4) a6 (m (376 + (wr (a4 + 1))) a5) = m13 at H14 ⊢
      refine x_s (q := (.aload_n 0, 0, 0, 0)) (cod_81 rfl) rfl rfl rfl ?_
      refine x_gc (kk := 7) (c := 387) (t := 1) (cod_81 rfl) sq_p_370 sq_l_370_7 rfl rfl ?_
      refine x_s (q := (.iload 4, 0, 0, 0)) (cod_81 rfl) rfl rfl rfl ?_
      refine x_aaldc (c := (388 + a4)) (cod_81 rfl) (by rw [(sq_ro_387 (j := a4) c5.1 c5.2).2]; decide) (sq_ro_387 (j := a4) c5.1 c5.2).1 ?_
      refine x_s (q := (.iload 6, 0, 0, 0)) (cod_81 rfl) rfl rfl rfl ?_
      refine x_s (q := (.aload_n 0, 0, 0, 0)) (cod_81 rfl) rfl rfl rfl ?_
      refine x_gc (kk := 7) (c := 387) (t := 1) (cod_81 rfl) sq_p_370 sq_l_370_7 rfl rfl ?_
      refine x_s (q := (.iload 4, 0, 0, 0)) (cod_81 rfl) rfl rfl rfl ?_
      refine x_s (q := (.iconst 1, 0, 0, 0)) (cod_81 rfl) rfl rfl rfl ?_
      refine x_s (q := (.iadd, 0, 0, 0)) (cod_81 rfl) rfl rfl rfl ?_
      refine x_aaldc (c := (388 + (wr (a4 + 1)))) (cod_81 rfl) (by rw [(sq_ro_387 (j := wr (a4 + 1)) c7.1 c7.2).2]; decide) (sq_ro_387 (j := wr (a4 + 1)) c7.1 c7.2).1 ?_
      refine x_s (q := (.iload 5, 0, 0, 0)) (cod_81 rfl) rfl rfl rfl ?_
      refine x_laldm (cod_81 rfl) (sq_rw_387 (j := wr (a4 + 1)) c7.1 c7.2).s ((sq_rw_387 (j := wr (a4 + 1)) c7.1 c7.2).k c9.1 c9.2) ?_
      refine x_last (cod_81 rfl) (sq_rw_387 (j := a4) c5.1 c5.2).s ((sq_rw_387 (j := a4) c5.1 c5.2).k c11.1 c11.2) ?_
      have H16 := H14 _ rfl
      generalize umem m13 (388 + a4) a6 (m13 (388 + (wr (a4 + 1))) a5) = m15 at H16 ⊢
      refine x_s (q := (.iinc 6 1, 0, 0, 0)) (cod_81 rfl) rfl rfl rfl ?_
      refine x_go (tgt := 67) (cod_81 rfl) (by decide) ?_
      exact H16
    · have H4 := H2.1 (Classical.not_not.mp h)
      refine x_s (q := (.aload_n 0, 0, 0, 0)) (cod_81 rfl) rfl rfl rfl ?_
      refine x_s (q := (.iload 4, 0, 0, 0)) (cod_81 rfl) rfl rfl rfl ?_
      refine x_s (q := (.iload 6, 0, 0, 0)) (cod_81 rfl) rfl rfl rfl ?_
      refine x_aldn (cod_81 rfl) rfl (pos_of ta1 (by decide)) ?_
      refine x_gc (kk := 2) (c := (a1 + 13)) (t := 1) (cod_81 rfl) ta1 (sq_c_4_2 ta1) rfl rfl ?_
      refine x_s (q := (.iload_n 2, 0, 0, 0)) (cod_81 rfl) rfl rfl rfl ?_
      obtain ⟨c17, H18⟩ := H4
      refine x_aaldc (c := (a1 + 14 + a2)) (cod_81 rfl) (by rw [(sq_roc_4_2 (j := a2) ta1 c17.1 c17.2).2]; decide) (sq_roc_4_2 (j := a2) ta1 c17.1 c17.2).1 ?_
      refine x_s (q := (.iload 4, 0, 0, 0)) (cod_81 rfl) rfl rfl rfl ?_
      obtain ⟨c19, H20⟩ := H18
      refine x_iald (cod_81 rfl) (sq_rwc_4_2 (j := a2) ta1 c17.1 c17.2).s ((sq_rwc_4_2 (j := a2) ta1 c17.1 c17.2).k c19.1 c19.2) ?_
      refine x_aldn (cod_81 rfl) rfl (pos_of ta1 (by decide)) ?_
      refine x_gc (kk := 3) (c := (a1 + 24)) (t := 1) (cod_81 rfl) ta1 (sq_c_4_3 ta1) rfl rfl ?_
      refine x_s (q := (.iload_n 2, 0, 0, 0)) (cod_81 rfl) rfl rfl rfl ?_
      refine x_aaldc (c := (a1 + 25 + a2)) (cod_81 rfl) (by rw [(sq_roc_4_3 (j := a2) ta1 c17.1 c17.2).2]; decide) (sq_roc_4_3 (j := a2) ta1 c17.1 c17.2).1 ?_
      refine x_s (q := (.iload 4, 0, 0, 0)) (cod_81 rfl) rfl rfl rfl ?_
      refine x_s (q := (.iconst 1, 0, 0, 0)) (cod_81 rfl) rfl rfl rfl ?_
      refine x_s (q := (.iadd, 0, 0, 0)) (cod_81 rfl) rfl rfl rfl ?_
      obtain ⟨c21, H22⟩ := H20
      refine x_iald (cod_81 rfl) (sq_rwc_4_3 (j := a2) ta1 c17.1 c17.2).s ((sq_rwc_4_3 (j := a2) ta1 c17.1 c17.2).k c21.1 c21.2) ?_
      refine x_call (as := [(1, 370), (0, a4), (0, a6), (0, m (a1 + 14 + a2) a4), (0, m (a1 + 25 + a2) (wr (a4 + 1)))]) (rest := []) (cod_81 rfl) rfl rfl (by decide) (by decide) rfl rfl (Nat.le_of_ble_eq_true rfl) (rcv0 sq_l_370_0 sq_p_370 (by decide)) (Nat.le_of_ble_eq_true rfl) ?_
      refine X.imp H22 ?_
      rintro _ m23 ⟨rfl, H24⟩
      show X 81 109 [(1, 370), (1, a1), (0, a2), ua3, (0, a4), (0, a5), (0, a6)] [] m23 _
      refine x_go (tgt := 156) (cod_81 rfl) (by decide) ?_
      refine x_s (q := (.iinc 6 1, 0, 0, 0)) (cod_81 rfl) rfl rfl rfl ?_
      refine x_go (tgt := 67) (cod_81 rfl) (by decide) ?_
      exact H24
set_option maxRecDepth 100000 in
theorem w82_0 {m : Mm} {K : Mm → Prop} (a1 : Int) (a2 : Int) (a3 : Int) (a4 : Int) 
  (H : X 82 10 [(1, 370), (0, a1), (0, a2), (0, a3), (0, a4), (0, 1000000), (2, 0), (9, 0), (0, 0), (9, 0)] [] m (qV K)) : X 82 0 [(1, 370), (0, a1), (0, a2), (0, a3), (0, a4), (9, 0), (9, 0), (9, 0), (9, 0), (9, 0)] [] m (qV K) := by
  refine x_s (q := (.ldc 81, 1000000, 0, 0)) (cod_82 rfl) rfl rfl rfl ?_
  refine x_s (q := (.istore 5, 0, 0, 0)) (cod_82 rfl) rfl rfl rfl ?_
  refine x_s (q := (.lconst 0, 0, 0, 0)) (cod_82 rfl) rfl rfl rfl ?_
  show X 82 5 [(1, 370), (0, a1), (0, a2), (0, a3), (0, a4), (0, 1000000), (9, 0), (9, 0), (9, 0), (9, 0)] [(2, 0)] m _
  refine x_s (q := (.lstore 6, 0, 0, 0)) (cod_82 rfl) rfl rfl rfl ?_
  refine x_s (q := (.iconst 0, 0, 0, 0)) (cod_82 rfl) rfl rfl rfl ?_
  refine x_s (q := (.istore 8, 0, 0, 0)) (cod_82 rfl) rfl rfl rfl ?_
  exact H
theorem e82 {m : Mm} {K : Mm → Prop} (a1 : Int) (a2 : Int) (a3 : Int) (a4 : Int) 
  (H : X 82 10 [(1, 370), (0, a1), (0, a2), (0, a3), (0, a4), (0, 1000000), (2, 0), (9, 0), (0, 0), (9, 0)] [] m (qV K)) : TrV 82 [(1, 370), (0, a1), (0, a2), (0, a3), (0, a4)] m K := by
  exact w82_0 a1 a2 a3 a4 H
set_option maxRecDepth 100000 in
theorem w82_10 {m : Mm} {K : Mm → Prop} (a1 : Int) (a2 : Int) (a3 : Int) (a4 : Int) (a5 : Int) (a6 : Int) (a8 : Int) (ua9 : aV) 
  (H : (a8 < (m 370 9) → ((0 ≤ a8 ∧ a8 < 24) ∧ shp (m 373 a8) = 27) ∧ ((suC m a8 a3 a2 a4 = true) → (0 ≤ a8 ∧ a8 < 24) ∧ shp (m 373 a8) = 27 ∧ v_R m (m 373 a8) ∧ (0 ≤ (wr (a1 + 1)) ∧ (wr (a1 + 1)) < 11) ∧ (0 ≤ (cAft m (m 373 a8) a2) ∧ (cAft m (m 373 a8) a2) < 27) ∧ X 82 10 [(1, 370), (0, a1), (0, a2), (0, a3), (0, a4), (0, min a5 (wr ((m 374 a8) + (m (376 + (wr (a1 + 1))) (cAft m (m 373 a8) a2))))), (2, wl (a6 + (m (388 + (wr (a1 + 1))) (cAft m (m 373 a8) a2)))), (9, 0), (0, wr (a8 + 1)), (0, cAft m (m 373 a8) a2)] [] m (qV K)) ∧ (¬ (suC m a8 a3 a2 a4 = true) → X 82 10 [(1, 370), (0, a1), (0, a2), (0, a3), (0, a4), (0, a5), (2, a6), (9, 0), (0, wr (a8 + 1)), ua9] [] m (qV K))) ∧ (¬ a8 < (m 370 9) → (0 ≤ a1 ∧ a1 < 11) ∧ (0 ≤ a2 ∧ a2 < 27) ∧ ∀ m7, m7 = umem m (376 + a1) a2 a5 → ∀ m9, m9 = umem m7 (388 + a1) a2 a6 → K m9)) : X 82 10 [(1, 370), (0, a1), (0, a2), (0, a3), (0, a4), (0, a5), (2, a6), (9, 0), (0, a8), ua9] [] m (qV K) := by
  refine x_s (q := (.iload 8, 0, 0, 0)) (cod_82 rfl) rfl rfl rfl ?_
  refine x_s (q := (.aload_n 0, 0, 0, 0)) (cod_82 rfl) rfl rfl rfl ?_
  refine x_gf (kk := 9) (t := 0) (cod_82 rfl) sq_p_370 sq_l_370_9 rfl rfl ?_
  refine x_ic (p := ¬ a8 < (m 370 9)) (tgt := 93) (cod_82 rfl) (by decide) xn_ge (fun h => ?_) (fun h => ?_)
  · have H1 := H.2 h
    refine x_s (q := (.aload_n 0, 0, 0, 0)) (cod_82 rfl) rfl rfl rfl ?_
    refine x_gc (kk := 6) (c := 375) (t := 1) (cod_82 rfl) sq_p_370 sq_l_370_6 rfl rfl ?_
    refine x_s (q := (.iload_n 1, 0, 0, 0)) (cod_82 rfl) rfl rfl rfl ?_
    obtain ⟨c3, H4⟩ := H1
    refine x_aaldc (c := (376 + a1)) (cod_82 rfl) (by rw [(sq_ro_375 (j := a1) c3.1 c3.2).2]; decide) (sq_ro_375 (j := a1) c3.1 c3.2).1 ?_
    refine x_s (q := (.iload_n 2, 0, 0, 0)) (cod_82 rfl) rfl rfl rfl ?_
    refine x_s (q := (.iload 5, 0, 0, 0)) (cod_82 rfl) rfl rfl rfl ?_
    obtain ⟨c5, H6⟩ := H4
    refine x_iast (cod_82 rfl) (sq_rw_375 (j := a1) c3.1 c3.2).s ((sq_rw_375 (j := a1) c3.1 c3.2).k c5.1 c5.2) ?_
    have H8 := H6 _ rfl
    generalize umem m (376 + a1) a2 a5 = m7 at H8 ⊢
    refine x_s (q := (.aload_n 0, 0, 0, 0)) (cod_82 rfl) rfl rfl rfl ?_
    refine x_gc (kk := 7) (c := 387) (t := 1) (cod_82 rfl) sq_p_370 sq_l_370_7 rfl rfl ?_
    refine x_s (q := (.iload_n 1, 0, 0, 0)) (cod_82 rfl) rfl rfl rfl ?_
    refine x_aaldc (c := (388 + a1)) (cod_82 rfl) (by rw [(sq_ro_387 (j := a1) c3.1 c3.2).2]; decide) (sq_ro_387 (j := a1) c3.1 c3.2).1 ?_
    refine x_s (q := (.iload_n 2, 0, 0, 0)) (cod_82 rfl) rfl rfl rfl ?_
    refine x_s (q := (.lload 6, 0, 0, 0)) (cod_82 rfl) rfl rfl rfl ?_
    refine x_last (cod_82 rfl) (sq_rw_387 (j := a1) c3.1 c3.2).s ((sq_rw_387 (j := a1) c3.1 c3.2).k c5.1 c5.2) ?_
    have H10 := H8 _ rfl
    generalize umem m7 (388 + a1) a2 a6 = m9 at H10 ⊢
    refine x_retV (cod_82 rfl) rfl ?_
    exact H10
  · have H2 := H.1 (Classical.not_not.mp h)
    refine x_s (q := (.aload_n 0, 0, 0, 0)) (cod_82 rfl) rfl rfl rfl ?_
    refine x_s (q := (.iload 8, 0, 0, 0)) (cod_82 rfl) rfl rfl rfl ?_
    refine x_s (q := (.iload_n 3, 0, 0, 0)) (cod_82 rfl) rfl rfl rfl ?_
    refine x_s (q := (.iload_n 2, 0, 0, 0)) (cod_82 rfl) rfl rfl rfl ?_
    refine x_s (q := (.iload 4, 0, 0, 0)) (cod_82 rfl) rfl rfl rfl ?_
    obtain ⟨c11, H12⟩ := H2
    refine x_call (as := [(1, 370), (0, a8), (0, a3), (0, a2), (0, a4)]) (rest := []) (cod_82 rfl) rfl rfl (by decide) (by decide) rfl rfl (Nat.le_of_ble_eq_true rfl) (rcv0 sq_l_370_0 sq_p_370 (by decide)) (Nat.le_of_ble_eq_true rfl) ?_
    refine x_pure (p83 c11) ?_
    show X 82 29 [(1, 370), (0, a1), (0, a2), (0, a3), (0, a4), (0, a5), (2, a6), (9, 0), (0, a8), ua9] [(0, bi (suC m a8 a3 a2 a4 = true))] m _
    refine x_if (p := ¬ (suC m a8 a3 a2 a4 = true)) (tgt := 87) (cod_82 rfl) (by decide) xb_eq (fun h => ?_) (fun h => ?_)
    · have H13 := H12.2 h
      refine x_s (q := (.iinc 8 1, 0, 0, 0)) (cod_82 rfl) rfl rfl rfl ?_
      refine x_go (tgt := 10) (cod_82 rfl) (by decide) ?_
      exact H13
    · have H14 := H12.1 (Classical.not_not.mp h)
      refine x_s (q := (.aload_n 0, 0, 0, 0)) (cod_82 rfl) rfl rfl rfl ?_
      refine x_gc (kk := 4) (c := 373) (t := 1) (cod_82 rfl) sq_p_370 sq_l_370_4 rfl rfl ?_
      refine x_s (q := (.iload 8, 0, 0, 0)) (cod_82 rfl) rfl rfl rfl ?_
      obtain ⟨c15, H16⟩ := H14
      refine x_aald (cod_82 rfl) (by rw [sq_a_373.s]; decide) (sq_a_373.k c15.1 c15.2) ?_
      refine x_s (q := (.iload_n 2, 0, 0, 0)) (cod_82 rfl) rfl rfl rfl ?_
      obtain ⟨c17, H18⟩ := H16
      obtain ⟨c19, H20⟩ := H18
      refine x_call (as := [(1, (m 373 a8)), (0, a2)]) (rest := []) (cod_82 rfl) rfl rfl (by decide) (by decide) rfl rfl (Nat.le_of_ble_eq_true rfl) (rcv0 (sq_c_7_0 c17) c17 (by decide)) (Nat.le_of_ble_eq_true rfl) ?_
      refine x_pure (p84 c19) ?_
      show X 82 43 [(1, 370), (0, a1), (0, a2), (0, a3), (0, a4), (0, a5), (2, a6), (9, 0), (0, a8), ua9] [(0, cAft m (m 373 a8) a2)] m _
      refine x_s (q := (.istore 9, 0, 0, 0)) (cod_82 rfl) rfl rfl rfl ?_
      refine x_s (q := (.iload 5, 0, 0, 0)) (cod_82 rfl) rfl rfl rfl ?_
      refine x_s (q := (.aload_n 0, 0, 0, 0)) (cod_82 rfl) rfl rfl rfl ?_
      refine x_gc (kk := 5) (c := 374) (t := 1) (cod_82 rfl) sq_p_370 sq_l_370_5 rfl rfl ?_
      refine x_s (q := (.iload 8, 0, 0, 0)) (cod_82 rfl) rfl rfl rfl ?_
      refine x_iald (cod_82 rfl) sq_a_374.s (sq_a_374.k c15.1 c15.2) ?_
      refine x_s (q := (.aload_n 0, 0, 0, 0)) (cod_82 rfl) rfl rfl rfl ?_
      refine x_gc (kk := 6) (c := 375) (t := 1) (cod_82 rfl) sq_p_370 sq_l_370_6 rfl rfl ?_
      refine x_s (q := (.iload_n 1, 0, 0, 0)) (cod_82 rfl) rfl rfl rfl ?_
      refine x_s (q := (.iconst 1, 0, 0, 0)) (cod_82 rfl) rfl rfl rfl ?_
      refine x_s (q := (.iadd, 0, 0, 0)) (cod_82 rfl) rfl rfl rfl ?_
      obtain ⟨c21, H22⟩ := H20
      refine x_aaldc (c := (376 + (wr (a1 + 1)))) (cod_82 rfl) (by rw [(sq_ro_375 (j := wr (a1 + 1)) c21.1 c21.2).2]; decide) (sq_ro_375 (j := wr (a1 + 1)) c21.1 c21.2).1 ?_
      refine x_s (q := (.iload 9, 0, 0, 0)) (cod_82 rfl) rfl rfl rfl ?_
      obtain ⟨c23, H24⟩ := H22
      refine x_iald (cod_82 rfl) (sq_rw_375 (j := wr (a1 + 1)) c21.1 c21.2).s ((sq_rw_375 (j := wr (a1 + 1)) c21.1 c21.2).k c23.1 c23.2) ?_
      refine x_s (q := (.iadd, 0, 0, 0)) (cod_82 rfl) rfl rfl rfl ?_
      refine x_m7 (cod_82 rfl) rfl rfl (Nat.le_of_ble_eq_true rfl) ?_
      refine x_s (q := (.istore 5, 0, 0, 0)) (cod_82 rfl) rfl rfl rfl ?_
      refine x_s (q := (.lload 6, 0, 0, 0)) (cod_82 rfl) rfl rfl rfl ?_
      refine x_s (q := (.aload_n 0, 0, 0, 0)) (cod_82 rfl) rfl rfl rfl ?_
      refine x_gc (kk := 7) (c := 387) (t := 1) (cod_82 rfl) sq_p_370 sq_l_370_7 rfl rfl ?_
      refine x_s (q := (.iload_n 1, 0, 0, 0)) (cod_82 rfl) rfl rfl rfl ?_
      refine x_s (q := (.iconst 1, 0, 0, 0)) (cod_82 rfl) rfl rfl rfl ?_
      refine x_s (q := (.iadd, 0, 0, 0)) (cod_82 rfl) rfl rfl rfl ?_
      refine x_aaldc (c := (388 + (wr (a1 + 1)))) (cod_82 rfl) (by rw [(sq_ro_387 (j := wr (a1 + 1)) c21.1 c21.2).2]; decide) (sq_ro_387 (j := wr (a1 + 1)) c21.1 c21.2).1 ?_
      refine x_s (q := (.iload 9, 0, 0, 0)) (cod_82 rfl) rfl rfl rfl ?_
      refine x_laldm (cod_82 rfl) (sq_rw_387 (j := wr (a1 + 1)) c21.1 c21.2).s ((sq_rw_387 (j := wr (a1 + 1)) c21.1 c21.2).k c23.1 c23.2) ?_
      refine x_s (q := (.ladd, 0, 0, 0)) (cod_82 rfl) rfl rfl rfl ?_
      refine x_s (q := (.lstore 6, 0, 0, 0)) (cod_82 rfl) rfl rfl rfl ?_
      refine x_s (q := (.iinc 8 1, 0, 0, 0)) (cod_82 rfl) rfl rfl rfl ?_
      refine x_go (tgt := 10) (cod_82 rfl) (by decide) ?_
      exact H24
set_option maxRecDepth 100000 in
theorem w85_0 {m : Mm} {K : Mm → Prop} (a1 : Int) (a2 : Int) (ta1 : shp a1 = 24)
  (H : ∀ m1, m1 = umem m 370 2 0 → ∀ m3, m3 = umem m1 370 3 0 → ((m3 376 0) < 1000000 → X 85 25 [(1, 370), (1, a1), (0, a2), (0, 0), (0, 0), (9, 0), (9, 0)] [] m3 (qV K)) ∧ (¬ (m3 376 0) < 1000000 → K m3)) : X 85 0 [(1, 370), (1, a1), (0, a2), (9, 0), (9, 0), (9, 0), (9, 0)] [] m (qV K) := by
  refine x_s (q := (.aload_n 0, 0, 0, 0)) (cod_85 rfl) rfl rfl rfl ?_
  refine x_s (q := (.iconst 0, 0, 0, 0)) (cod_85 rfl) rfl rfl rfl ?_
  refine x_pf (kk := 2) (t := 0) (cod_85 rfl) sq_p_370 sq_l_370_2 rfl rfl rfl ?_
  have H2 := H _ rfl
  generalize umem m 370 2 0 = m1 at H2 ⊢
  refine x_s (q := (.aload_n 0, 0, 0, 0)) (cod_85 rfl) rfl rfl rfl ?_
  refine x_s (q := (.iconst 0, 0, 0, 0)) (cod_85 rfl) rfl rfl rfl ?_
  refine x_pf (kk := 3) (t := 0) (cod_85 rfl) sq_p_370 sq_l_370_3 rfl rfl rfl ?_
  have H4 := H2 _ rfl
  generalize umem m1 370 3 0 = m3 at H4 ⊢
  refine x_s (q := (.aload_n 0, 0, 0, 0)) (cod_85 rfl) rfl rfl rfl ?_
  refine x_call (as := [(1, 370)]) (rest := []) (cod_85 rfl) rfl rfl (by decide) (by decide) rfl rfl (Nat.le_of_ble_eq_true rfl) (rcv0 sq_l_370_0 sq_p_370 (by decide)) (Nat.le_of_ble_eq_true rfl) ?_
  show X 86 0 [(1, 370)] [] m3 _
  refine x_s (q := (.aload_n 0, 0, 0, 0)) (cod_86 rfl) rfl rfl rfl ?_
  refine x_gc (kk := 6) (c := 375) (t := 1) (cod_86 rfl) sq_p_370 sq_l_370_6 rfl rfl ?_
  refine x_s (q := (.iconst 0, 0, 0, 0)) (cod_86 rfl) rfl rfl rfl ?_
  refine x_aaldc (c := 376) (cod_86 rfl) (by rw [(sq_ro_375 (j := 0) (by decide) (by decide)).2]; decide) (sq_ro_375 (j := 0) (by decide) (by decide)).1 ?_
  refine x_s (q := (.iconst 0, 0, 0, 0)) (cod_86 rfl) rfl rfl rfl ?_
  refine x_iald (cod_86 rfl) (sq_rw_375 (j := 0) (by decide) (by decide)).s ((sq_rw_375 (j := 0) (by decide) (by decide)).k (by decide) (by decide)) ?_
  refine x_rI (t := .int) (cod_86 rfl) rfl rfl rfl ?_
  show X 85 14 [(1, 370), (1, a1), (0, a2), (9, 0), (9, 0), (9, 0), (9, 0)] [(0, m3 376 0)] m3 _
  refine x_s (q := (.ldc 81, 1000000, 0, 0)) (cod_85 rfl) rfl rfl rfl ?_
  refine x_ic (p := (m3 376 0) < 1000000) (tgt := 20) (cod_85 rfl) (by decide) xj_lt (fun h => ?_) (fun h => ?_)
  · have H5 := H4.1 h
    refine x_s (q := (.iconst 0, 0, 0, 0)) (cod_85 rfl) rfl rfl rfl ?_
    refine x_s (q := (.istore_n 3, 0, 0, 0)) (cod_85 rfl) rfl rfl rfl ?_
    refine x_s (q := (.iconst 0, 0, 0, 0)) (cod_85 rfl) rfl rfl rfl ?_
    refine x_s (q := (.istore 4, 0, 0, 0)) (cod_85 rfl) rfl rfl rfl ?_
    exact H5
  · have H6 := H4.2 h
    refine x_retV (cod_85 rfl) rfl ?_
    exact H6
theorem e85 {m : Mm} {K : Mm → Prop} (a1 : Int) (a2 : Int) (ta1 : shp a1 = 24)
  (H : ∀ m1, m1 = umem m 370 2 0 → ∀ m3, m3 = umem m1 370 3 0 → ((m3 376 0) < 1000000 → X 85 25 [(1, 370), (1, a1), (0, a2), (0, 0), (0, 0), (9, 0), (9, 0)] [] m3 (qV K)) ∧ (¬ (m3 376 0) < 1000000 → K m3)) : TrV 85 [(1, 370), (1, a1), (0, a2)] m K := by
  exact w85_0 a1 a2 ta1 H
set_option maxRecDepth 100000 in
theorem w85_25 {m : Mm} {K : Mm → Prop} (a1 : Int) (a2 : Int) (a3 : Int) (a4 : Int) (ua5 : aV) (ua6 : aV) (ta1 : shp a1 = 24)
  (H : (0 ≤ a2 ∧ a2 < 10) ∧ (a4 < (m (a1 + 1) a2) → (0 ≤ a4 ∧ a4 < 11) ∧ ((m (a1 + 25 + a2) a4) = 27 → (0 ≤ a4 ∧ a4 < 10) ∧ (0 ≤ (wr (a4 + 1)) ∧ (wr (a4 + 1)) < 11) ∧ TrI 88 [(1, 370), (0, a4), (0, a3), (0, m (a1 + 14 + a2) a4), (0, m (a1 + 25 + a2) (wr (a4 + 1)))] m fun v15 m13 => (v15 < 0 → K m13) ∧ (¬ v15 < 0 → (0 ≤ (m13 370 2) ∧ (m13 370 2) < 10) ∧ ∀ m20, m20 = umem m13 371 (m13 370 2) v15 → ∀ m22, m22 = umem m20 370 2 (wr ((m20 370 2) + 1)) → X 85 135 [(1, 370), (1, a1), (0, a2), (0, a3), (0, a4), (0, v15), (0, 0)] [] m22 (qV K))) ∧ (¬ (m (a1 + 25 + a2) a4) = 27 → (0 ≤ a4 ∧ a4 < 10) ∧ TrV 87 [(1, 370), (0, m (a1 + 3 + a2) a4)] m fun m26 => X 85 25 [(1, 370), (1, a1), (0, a2), (0, m26 (a1 + 25 + a2) a4), (0, wr (a4 + 1)), ua5, ua6] [] m26 (qV K))) ∧ (¬ a4 < (m (a1 + 1) a2) → K m)) : X 85 25 [(1, 370), (1, a1), (0, a2), (0, a3), (0, a4), ua5, ua6] [] m (qV K) := by
  refine x_s (q := (.iload 4, 0, 0, 0)) (cod_85 rfl) rfl rfl rfl ?_
  refine x_aldn (cod_85 rfl) rfl (pos_of ta1 (by decide)) ?_
  refine x_gc (kk := 0) (c := (a1 + 1)) (t := 1) (cod_85 rfl) ta1 (sq_c_4_0 ta1) rfl rfl ?_
  refine x_s (q := (.iload_n 2, 0, 0, 0)) (cod_85 rfl) rfl rfl rfl ?_
  obtain ⟨c1, H2⟩ := H
  refine x_iald (cod_85 rfl) (sq_ac_4_0 ta1).s ((sq_ac_4_0 ta1).k c1.1 c1.2) ?_
  refine x_ic (p := ¬ a4 < (m (a1 + 1) a2)) (tgt := 191) (cod_85 rfl) (by decide) xn_ge (fun h => ?_) (fun h => ?_)
  · have H3 := H2.2 h
    refine x_retV (cod_85 rfl) rfl ?_
    exact H3
  · have H4 := H2.1 (Classical.not_not.mp h)
    refine x_aldn (cod_85 rfl) rfl (pos_of ta1 (by decide)) ?_
    refine x_gc (kk := 3) (c := (a1 + 24)) (t := 1) (cod_85 rfl) ta1 (sq_c_4_3 ta1) rfl rfl ?_
    refine x_s (q := (.iload_n 2, 0, 0, 0)) (cod_85 rfl) rfl rfl rfl ?_
    refine x_aaldc (c := (a1 + 25 + a2)) (cod_85 rfl) (by rw [(sq_roc_4_3 (j := a2) ta1 c1.1 c1.2).2]; decide) (sq_roc_4_3 (j := a2) ta1 c1.1 c1.2).1 ?_
    refine x_s (q := (.iload 4, 0, 0, 0)) (cod_85 rfl) rfl rfl rfl ?_
    obtain ⟨c5, H6⟩ := H4
    refine x_iald (cod_85 rfl) (sq_rwc_4_3 (j := a2) ta1 c1.1 c1.2).s ((sq_rwc_4_3 (j := a2) ta1 c1.1 c1.2).k c5.1 c5.2) ?_
    refine x_s (q := (.bipush 27, 0, 0, 0)) (cod_85 rfl) rfl rfl rfl ?_
    refine x_ic (p := (m (a1 + 25 + a2) a4) = 27) (tgt := 76) (cod_85 rfl) (by decide) xj_eq (fun h => ?_) (fun h => ?_)
    · have H7 := H6.1 h
      refine x_s (q := (.aload_n 0, 0, 0, 0)) (cod_85 rfl) rfl rfl rfl ?_
      refine x_s (q := (.iload 4, 0, 0, 0)) (cod_85 rfl) rfl rfl rfl ?_
      refine x_s (q := (.iload_n 3, 0, 0, 0)) (cod_85 rfl) rfl rfl rfl ?_
      refine x_aldn (cod_85 rfl) rfl (pos_of ta1 (by decide)) ?_
      refine x_gc (kk := 2) (c := (a1 + 13)) (t := 1) (cod_85 rfl) ta1 (sq_c_4_2 ta1) rfl rfl ?_
      refine x_s (q := (.iload_n 2, 0, 0, 0)) (cod_85 rfl) rfl rfl rfl ?_
      refine x_aaldc (c := (a1 + 14 + a2)) (cod_85 rfl) (by rw [(sq_roc_4_2 (j := a2) ta1 c1.1 c1.2).2]; decide) (sq_roc_4_2 (j := a2) ta1 c1.1 c1.2).1 ?_
      refine x_s (q := (.iload 4, 0, 0, 0)) (cod_85 rfl) rfl rfl rfl ?_
      obtain ⟨c9, H10⟩ := H7
      refine x_iald (cod_85 rfl) (sq_rwc_4_2 (j := a2) ta1 c1.1 c1.2).s ((sq_rwc_4_2 (j := a2) ta1 c1.1 c1.2).k c9.1 c9.2) ?_
      refine x_aldn (cod_85 rfl) rfl (pos_of ta1 (by decide)) ?_
      refine x_gc (kk := 3) (c := (a1 + 24)) (t := 1) (cod_85 rfl) ta1 (sq_c_4_3 ta1) rfl rfl ?_
      refine x_s (q := (.iload_n 2, 0, 0, 0)) (cod_85 rfl) rfl rfl rfl ?_
      refine x_aaldc (c := (a1 + 25 + a2)) (cod_85 rfl) (by rw [(sq_roc_4_3 (j := a2) ta1 c1.1 c1.2).2]; decide) (sq_roc_4_3 (j := a2) ta1 c1.1 c1.2).1 ?_
      refine x_s (q := (.iload 4, 0, 0, 0)) (cod_85 rfl) rfl rfl rfl ?_
      refine x_s (q := (.iconst 1, 0, 0, 0)) (cod_85 rfl) rfl rfl rfl ?_
      refine x_s (q := (.iadd, 0, 0, 0)) (cod_85 rfl) rfl rfl rfl ?_
      obtain ⟨c11, H12⟩ := H10
      refine x_iald (cod_85 rfl) (sq_rwc_4_3 (j := a2) ta1 c1.1 c1.2).s ((sq_rwc_4_3 (j := a2) ta1 c1.1 c1.2).k c11.1 c11.2) ?_
      refine x_call (as := [(1, 370), (0, a4), (0, a3), (0, m (a1 + 14 + a2) a4), (0, m (a1 + 25 + a2) (wr (a4 + 1)))]) (rest := []) (cod_85 rfl) rfl rfl (by decide) (by decide) rfl rfl (Nat.le_of_ble_eq_true rfl) (rcv0 sq_l_370_0 sq_p_370 (by decide)) (Nat.le_of_ble_eq_true rfl) ?_
      refine X.imp H12 ?_
      rintro _ m13 ⟨v15, rfl, H14⟩
      show X 85 103 [(1, 370), (1, a1), (0, a2), (0, a3), (0, a4), ua5, ua6] [(0, v15)] m13 _
      refine x_s (q := (.istore 5, 0, 0, 0)) (cod_85 rfl) rfl rfl rfl ?_
      refine x_s (q := (.iload 5, 0, 0, 0)) (cod_85 rfl) rfl rfl rfl ?_
      refine x_if (p := ¬ v15 < 0) (tgt := 111) (cod_85 rfl) (by decide) xn_ge (fun h => ?_) (fun h => ?_)
      · have H16 := H14.2 h
        refine x_s (q := (.aload_n 0, 0, 0, 0)) (cod_85 rfl) rfl rfl rfl ?_
        refine x_gc (kk := 0) (c := 371) (t := 1) (cod_85 rfl) sq_p_370 sq_l_370_0 rfl rfl ?_
        refine x_s (q := (.aload_n 0, 0, 0, 0)) (cod_85 rfl) rfl rfl rfl ?_
        refine x_gf (kk := 2) (t := 0) (cod_85 rfl) sq_p_370 sq_l_370_2 rfl rfl ?_
        refine x_s (q := (.iload 5, 0, 0, 0)) (cod_85 rfl) rfl rfl rfl ?_
        obtain ⟨c18, H19⟩ := H16
        refine x_iast (cod_85 rfl) sq_a_371.s (sq_a_371.k c18.1 c18.2) ?_
        have H21 := H19 _ rfl
        generalize umem m13 371 (m13 370 2) v15 = m20 at H21 ⊢
        refine x_s (q := (.aload_n 0, 0, 0, 0)) (cod_85 rfl) rfl rfl rfl ?_
        refine x_s (q := (.dup, 0, 0, 0)) (cod_85 rfl) rfl rfl rfl ?_
        refine x_gf (kk := 2) (t := 0) (cod_85 rfl) sq_p_370 sq_l_370_2 rfl rfl ?_
        refine x_s (q := (.iconst 1, 0, 0, 0)) (cod_85 rfl) rfl rfl rfl ?_
        refine x_s (q := (.iadd, 0, 0, 0)) (cod_85 rfl) rfl rfl rfl ?_
        refine x_pf (kk := 2) (t := 0) (cod_85 rfl) sq_p_370 sq_l_370_2 rfl rfl rfl ?_
        have H23 := H21 _ rfl
        generalize umem m20 370 2 (wr ((m20 370 2) + 1)) = m22 at H23 ⊢
        refine x_s (q := (.iconst 0, 0, 0, 0)) (cod_85 rfl) rfl rfl rfl ?_
        refine x_s (q := (.istore 6, 0, 0, 0)) (cod_85 rfl) rfl rfl rfl ?_
        exact H23
      · have H17 := H14.1 (Classical.not_not.mp h)
        refine x_retV (cod_85 rfl) rfl ?_
        exact H17
    · have H8 := H6.2 h
      refine x_s (q := (.aload_n 0, 0, 0, 0)) (cod_85 rfl) rfl rfl rfl ?_
      refine x_aldn (cod_85 rfl) rfl (pos_of ta1 (by decide)) ?_
      refine x_gc (kk := 1) (c := (a1 + 2)) (t := 1) (cod_85 rfl) ta1 (sq_c_4_1 ta1) rfl rfl ?_
      refine x_s (q := (.iload_n 2, 0, 0, 0)) (cod_85 rfl) rfl rfl rfl ?_
      refine x_aaldc (c := (a1 + 3 + a2)) (cod_85 rfl) (by rw [(sq_roc_4_1 (j := a2) ta1 c1.1 c1.2).2]; decide) (sq_roc_4_1 (j := a2) ta1 c1.1 c1.2).1 ?_
      refine x_s (q := (.iload 4, 0, 0, 0)) (cod_85 rfl) rfl rfl rfl ?_
      obtain ⟨c24, H25⟩ := H8
      refine x_iald (cod_85 rfl) (sq_rwc_4_1 (j := a2) ta1 c1.1 c1.2).s ((sq_rwc_4_1 (j := a2) ta1 c1.1 c1.2).k c24.1 c24.2) ?_
      refine x_call (as := [(1, 370), (0, m (a1 + 3 + a2) a4)]) (rest := []) (cod_85 rfl) rfl rfl (by decide) (by decide) rfl rfl (Nat.le_of_ble_eq_true rfl) (rcv0 sq_l_370_0 sq_p_370 (by decide)) (Nat.le_of_ble_eq_true rfl) ?_
      refine X.imp H25 ?_
      rintro _ m26 ⟨rfl, H27⟩
      show X 85 63 [(1, 370), (1, a1), (0, a2), (0, a3), (0, a4), ua5, ua6] [] m26 _
      refine x_aldn (cod_85 rfl) rfl (pos_of ta1 (by decide)) ?_
      refine x_gc (kk := 3) (c := (a1 + 24)) (t := 1) (cod_85 rfl) ta1 (sq_c_4_3 ta1) rfl rfl ?_
      refine x_s (q := (.iload_n 2, 0, 0, 0)) (cod_85 rfl) rfl rfl rfl ?_
      refine x_aaldc (c := (a1 + 25 + a2)) (cod_85 rfl) (by rw [(sq_roc_4_3 (j := a2) ta1 c1.1 c1.2).2]; decide) (sq_roc_4_3 (j := a2) ta1 c1.1 c1.2).1 ?_
      refine x_s (q := (.iload 4, 0, 0, 0)) (cod_85 rfl) rfl rfl rfl ?_
      refine x_iald (cod_85 rfl) (sq_rwc_4_3 (j := a2) ta1 c1.1 c1.2).s ((sq_rwc_4_3 (j := a2) ta1 c1.1 c1.2).k c5.1 c5.2) ?_
      refine x_s (q := (.istore_n 3, 0, 0, 0)) (cod_85 rfl) rfl rfl rfl ?_
      refine x_go (tgt := 185) (cod_85 rfl) (by decide) ?_
      refine x_s (q := (.iinc 4 1, 0, 0, 0)) (cod_85 rfl) rfl rfl rfl ?_
      refine x_go (tgt := 25) (cod_85 rfl) (by decide) ?_
      exact H27
set_option maxRecDepth 100000 in
theorem w85_135 {m : Mm} {K : Mm → Prop} (a1 : Int) (a2 : Int) (a3 : Int) (a4 : Int) (a5 : Int) (a6 : Int) (ta1 : shp a1 = 24)
  (H : (0 ≤ a5 ∧ a5 < 24) ∧ shp (m 373 a5) = 27 ∧ (a6 < (m (m 373 a5) 2) → (0 ≤ a6 ∧ a6 < 6) ∧ TrV 87 [(1, 370), (0, m ((m 373 a5) + 1) a6)] m fun m11 => X 85 135 [(1, 370), (1, a1), (0, a2), (0, a3), (0, a4), (0, a5), (0, wr (a6 + 1))] [] m11 (qV K)) ∧ (¬ a6 < (m (m 373 a5) 2) → v_R m (m 373 a5) ∧ X 85 25 [(1, 370), (1, a1), (0, a2), (0, cAft m (m 373 a5) a3), (0, wr (a4 + 1)), (0, a5), (0, a6)] [] m (qV K))) : X 85 135 [(1, 370), (1, a1), (0, a2), (0, a3), (0, a4), (0, a5), (0, a6)] [] m (qV K) := by
  refine x_s (q := (.iload 6, 0, 0, 0)) (cod_85 rfl) rfl rfl rfl ?_
  refine x_s (q := (.aload_n 0, 0, 0, 0)) (cod_85 rfl) rfl rfl rfl ?_
  refine x_gc (kk := 4) (c := 373) (t := 1) (cod_85 rfl) sq_p_370 sq_l_370_4 rfl rfl ?_
  refine x_s (q := (.iload 5, 0, 0, 0)) (cod_85 rfl) rfl rfl rfl ?_
  obtain ⟨c1, H2⟩ := H
  refine x_aald (cod_85 rfl) (by rw [sq_a_373.s]; decide) (sq_a_373.k c1.1 c1.2) ?_
  obtain ⟨c3, H4⟩ := H2
  refine x_gf (kk := 2) (t := 0) (cod_85 rfl) c3 (sq_c_7_2 c3) rfl rfl ?_
  refine x_ic (p := ¬ a6 < (m (m 373 a5) 2)) (tgt := 173) (cod_85 rfl) (by decide) xn_ge (fun h => ?_) (fun h => ?_)
  · have H5 := H4.2 h
    refine x_s (q := (.aload_n 0, 0, 0, 0)) (cod_85 rfl) rfl rfl rfl ?_
    refine x_gc (kk := 4) (c := 373) (t := 1) (cod_85 rfl) sq_p_370 sq_l_370_4 rfl rfl ?_
    refine x_s (q := (.iload 5, 0, 0, 0)) (cod_85 rfl) rfl rfl rfl ?_
    refine x_aald (cod_85 rfl) (by rw [sq_a_373.s]; decide) (sq_a_373.k c1.1 c1.2) ?_
    refine x_s (q := (.iload_n 3, 0, 0, 0)) (cod_85 rfl) rfl rfl rfl ?_
    obtain ⟨c7, H8⟩ := H5
    refine x_call (as := [(1, (m 373 a5)), (0, a3)]) (rest := []) (cod_85 rfl) rfl rfl (by decide) (by decide) rfl rfl (Nat.le_of_ble_eq_true rfl) (rcv0 (sq_c_7_0 c3) c3 (by decide)) (Nat.le_of_ble_eq_true rfl) ?_
    refine x_pure (p84 c7) ?_
    show X 85 184 [(1, 370), (1, a1), (0, a2), (0, a3), (0, a4), (0, a5), (0, a6)] [(0, cAft m (m 373 a5) a3)] m _
    refine x_s (q := (.istore_n 3, 0, 0, 0)) (cod_85 rfl) rfl rfl rfl ?_
    refine x_s (q := (.iinc 4 1, 0, 0, 0)) (cod_85 rfl) rfl rfl rfl ?_
    refine x_go (tgt := 25) (cod_85 rfl) (by decide) ?_
    exact H8
  · have H6 := H4.1 (Classical.not_not.mp h)
    refine x_s (q := (.aload_n 0, 0, 0, 0)) (cod_85 rfl) rfl rfl rfl ?_
    refine x_s (q := (.aload_n 0, 0, 0, 0)) (cod_85 rfl) rfl rfl rfl ?_
    refine x_gc (kk := 4) (c := 373) (t := 1) (cod_85 rfl) sq_p_370 sq_l_370_4 rfl rfl ?_
    refine x_s (q := (.iload 5, 0, 0, 0)) (cod_85 rfl) rfl rfl rfl ?_
    refine x_aald (cod_85 rfl) (by rw [sq_a_373.s]; decide) (sq_a_373.k c1.1 c1.2) ?_
    refine x_gc (kk := 0) (c := ((m 373 a5) + 1)) (t := 1) (cod_85 rfl) c3 (sq_c_7_0 c3) rfl rfl ?_
    refine x_s (q := (.iload 6, 0, 0, 0)) (cod_85 rfl) rfl rfl rfl ?_
    obtain ⟨c9, H10⟩ := H6
    refine x_iald (cod_85 rfl) (sq_ac_7_0 c3).s ((sq_ac_7_0 c3).k c9.1 c9.2) ?_
    refine x_call (as := [(1, 370), (0, m ((m 373 a5) + 1) a6)]) (rest := []) (cod_85 rfl) rfl rfl (by decide) (by decide) rfl rfl (Nat.le_of_ble_eq_true rfl) (rcv0 sq_l_370_0 sq_p_370 (by decide)) (Nat.le_of_ble_eq_true rfl) ?_
    refine X.imp H10 ?_
    rintro _ m11 ⟨rfl, H12⟩
    show X 85 167 [(1, 370), (1, a1), (0, a2), (0, a3), (0, a4), (0, a5), (0, a6)] [] m11 _
    refine x_s (q := (.iinc 6 1, 0, 0, 0)) (cod_85 rfl) rfl rfl rfl ?_
    refine x_go (tgt := 135) (cod_85 rfl) (by decide) ?_
    exact H12
set_option maxRecDepth 100000 in
theorem w87_0 {m : Mm} {K : Mm → Prop} (a1 : Int) 
  (H : ((m 370 3) < 60 → (0 ≤ (m 370 3) ∧ (m 370 3) < 60) ∧ ∀ m5, m5 = umem m 372 (m 370 3) a1 → ∀ m7, m7 = umem m5 370 3 (wr ((m5 370 3) + 1)) → K m7) ∧ (¬ (m 370 3) < 60 → K m)) : X 87 0 [(1, 370), (0, a1)] [] m (qV K) := by
  refine x_s (q := (.aload_n 0, 0, 0, 0)) (cod_87 rfl) rfl rfl rfl ?_
  refine x_gf (kk := 3) (t := 0) (cod_87 rfl) sq_p_370 sq_l_370_3 rfl rfl ?_
  refine x_s (q := (.bipush 60, 0, 0, 0)) (cod_87 rfl) rfl rfl rfl ?_
  refine x_ic (p := ¬ (m 370 3) < 60) (tgt := 29) (cod_87 rfl) (by decide) xn_ge (fun h => ?_) (fun h => ?_)
  · have H1 := H.2 h
    refine x_retV (cod_87 rfl) rfl ?_
    exact H1
  · have H2 := H.1 (Classical.not_not.mp h)
    refine x_s (q := (.aload_n 0, 0, 0, 0)) (cod_87 rfl) rfl rfl rfl ?_
    refine x_gc (kk := 1) (c := 372) (t := 1) (cod_87 rfl) sq_p_370 sq_l_370_1 rfl rfl ?_
    refine x_s (q := (.aload_n 0, 0, 0, 0)) (cod_87 rfl) rfl rfl rfl ?_
    refine x_gf (kk := 3) (t := 0) (cod_87 rfl) sq_p_370 sq_l_370_3 rfl rfl ?_
    refine x_s (q := (.iload_n 1, 0, 0, 0)) (cod_87 rfl) rfl rfl rfl ?_
    obtain ⟨c3, H4⟩ := H2
    refine x_iast (cod_87 rfl) sq_a_372.s (sq_a_372.k c3.1 c3.2) ?_
    have H6 := H4 _ rfl
    generalize umem m 372 (m 370 3) a1 = m5 at H6 ⊢
    refine x_s (q := (.aload_n 0, 0, 0, 0)) (cod_87 rfl) rfl rfl rfl ?_
    refine x_s (q := (.dup, 0, 0, 0)) (cod_87 rfl) rfl rfl rfl ?_
    refine x_gf (kk := 3) (t := 0) (cod_87 rfl) sq_p_370 sq_l_370_3 rfl rfl ?_
    refine x_s (q := (.iconst 1, 0, 0, 0)) (cod_87 rfl) rfl rfl rfl ?_
    refine x_s (q := (.iadd, 0, 0, 0)) (cod_87 rfl) rfl rfl rfl ?_
    refine x_pf (kk := 3) (t := 0) (cod_87 rfl) sq_p_370 sq_l_370_3 rfl rfl rfl ?_
    have H8 := H6 _ rfl
    generalize umem m5 370 3 (wr ((m5 370 3) + 1)) = m7 at H8 ⊢
    refine x_retV (cod_87 rfl) rfl ?_
    exact H8
theorem e87 {m : Mm} {K : Mm → Prop} (a1 : Int) 
  (H : ((m 370 3) < 60 → (0 ≤ (m 370 3) ∧ (m 370 3) < 60) ∧ ∀ m5, m5 = umem m 372 (m 370 3) a1 → ∀ m7, m7 = umem m5 370 3 (wr ((m5 370 3) + 1)) → K m7) ∧ (¬ (m 370 3) < 60 → K m)) : TrV 87 [(1, 370), (0, a1)] m K := by
  exact w87_0 a1 H
set_option maxRecDepth 100000 in
theorem w88_0 {m : Mm} {K : Int → Mm → Prop} (a1 : Int) (a2 : Int) (a3 : Int) (a4 : Int) 
  (H : X 88 3 [(1, 370), (0, a1), (0, a2), (0, a3), (0, a4), (0, 0)] [] m (qI K)) : X 88 0 [(1, 370), (0, a1), (0, a2), (0, a3), (0, a4), (9, 0)] [] m (qI K) := by
  refine x_s (q := (.iconst 0, 0, 0, 0)) (cod_88 rfl) rfl rfl rfl ?_
  refine x_s (q := (.istore 5, 0, 0, 0)) (cod_88 rfl) rfl rfl rfl ?_
  exact H
theorem e88 {m : Mm} {K : Int → Mm → Prop} (a1 : Int) (a2 : Int) (a3 : Int) (a4 : Int) 
  (H : X 88 3 [(1, 370), (0, a1), (0, a2), (0, a3), (0, a4), (0, 0)] [] m (qI K)) : TrI 88 [(1, 370), (0, a1), (0, a2), (0, a3), (0, a4)] m K := by
  exact w88_0 a1 a2 a3 a4 H
set_option maxRecDepth 100000 in
theorem w88_3 {m : Mm} {K : Int → Mm → Prop} (a1 : Int) (a2 : Int) (a3 : Int) (a4 : Int) (a5 : Int) 
  (H : (a5 < (m 370 9) → ((0 ≤ a5 ∧ a5 < 24) ∧ shp (m 373 a5) = 27) ∧ ((suC m a5 a3 a2 a4 = true) → (0 ≤ a5 ∧ a5 < 24) ∧ (0 ≤ (wr (a1 + 1)) ∧ (wr (a1 + 1)) < 11) ∧ shp (m 373 a5) = 27 ∧ v_R m (m 373 a5) ∧ (0 ≤ (cAft m (m 373 a5) a2) ∧ (cAft m (m 373 a5) a2) < 27) ∧ (0 ≤ a1 ∧ a1 < 11) ∧ (0 ≤ a2 ∧ a2 < 27) ∧ ((wr ((m 374 a5) + (m (376 + (wr (a1 + 1))) (cAft m (m 373 a5) a2)))) = (m (376 + a1) a2) → K a5 m) ∧ (¬ (wr ((m 374 a5) + (m (376 + (wr (a1 + 1))) (cAft m (m 373 a5) a2)))) = (m (376 + a1) a2) → X 88 3 [(1, 370), (0, a1), (0, a2), (0, a3), (0, a4), (0, wr (a5 + 1))] [] m (qI K))) ∧ (¬ (suC m a5 a3 a2 a4 = true) → X 88 3 [(1, 370), (0, a1), (0, a2), (0, a3), (0, a4), (0, wr (a5 + 1))] [] m (qI K))) ∧ (¬ a5 < (m 370 9) → K (-1) m)) : X 88 3 [(1, 370), (0, a1), (0, a2), (0, a3), (0, a4), (0, a5)] [] m (qI K) := by
  refine x_s (q := (.iload 5, 0, 0, 0)) (cod_88 rfl) rfl rfl rfl ?_
  refine x_s (q := (.aload_n 0, 0, 0, 0)) (cod_88 rfl) rfl rfl rfl ?_
  refine x_gf (kk := 9) (t := 0) (cod_88 rfl) sq_p_370 sq_l_370_9 rfl rfl ?_
  refine x_ic (p := ¬ a5 < (m 370 9)) (tgt := 73) (cod_88 rfl) (by decide) xn_ge (fun h => ?_) (fun h => ?_)
  · have H1 := H.2 h
    refine x_s (q := (.iconst (-1), 0, 0, 0)) (cod_88 rfl) rfl rfl rfl ?_
    refine x_retI (t := .int) (cod_88 rfl) rfl rfl rfl ?_
    exact H1
  · have H2 := H.1 (Classical.not_not.mp h)
    refine x_s (q := (.aload_n 0, 0, 0, 0)) (cod_88 rfl) rfl rfl rfl ?_
    refine x_s (q := (.iload 5, 0, 0, 0)) (cod_88 rfl) rfl rfl rfl ?_
    refine x_s (q := (.iload_n 3, 0, 0, 0)) (cod_88 rfl) rfl rfl rfl ?_
    refine x_s (q := (.iload_n 2, 0, 0, 0)) (cod_88 rfl) rfl rfl rfl ?_
    refine x_s (q := (.iload 4, 0, 0, 0)) (cod_88 rfl) rfl rfl rfl ?_
    obtain ⟨c3, H4⟩ := H2
    refine x_call (as := [(1, 370), (0, a5), (0, a3), (0, a2), (0, a4)]) (rest := []) (cod_88 rfl) rfl rfl (by decide) (by decide) rfl rfl (Nat.le_of_ble_eq_true rfl) (rcv0 sq_l_370_0 sq_p_370 (by decide)) (Nat.le_of_ble_eq_true rfl) ?_
    refine x_pure (p83 c3) ?_
    show X 88 22 [(1, 370), (0, a1), (0, a2), (0, a3), (0, a4), (0, a5)] [(0, bi (suC m a5 a3 a2 a4 = true))] m _
    refine x_if (p := ¬ (suC m a5 a3 a2 a4 = true)) (tgt := 67) (cod_88 rfl) (by decide) xb_eq (fun h => ?_) (fun h => ?_)
    · have H5 := H4.2 h
      refine x_s (q := (.iinc 5 1, 0, 0, 0)) (cod_88 rfl) rfl rfl rfl ?_
      refine x_go (tgt := 3) (cod_88 rfl) (by decide) ?_
      exact H5
    · have H6 := H4.1 (Classical.not_not.mp h)
      refine x_s (q := (.aload_n 0, 0, 0, 0)) (cod_88 rfl) rfl rfl rfl ?_
      refine x_gc (kk := 5) (c := 374) (t := 1) (cod_88 rfl) sq_p_370 sq_l_370_5 rfl rfl ?_
      refine x_s (q := (.iload 5, 0, 0, 0)) (cod_88 rfl) rfl rfl rfl ?_
      obtain ⟨c7, H8⟩ := H6
      refine x_iald (cod_88 rfl) sq_a_374.s (sq_a_374.k c7.1 c7.2) ?_
      refine x_s (q := (.aload_n 0, 0, 0, 0)) (cod_88 rfl) rfl rfl rfl ?_
      refine x_gc (kk := 6) (c := 375) (t := 1) (cod_88 rfl) sq_p_370 sq_l_370_6 rfl rfl ?_
      refine x_s (q := (.iload_n 1, 0, 0, 0)) (cod_88 rfl) rfl rfl rfl ?_
      refine x_s (q := (.iconst 1, 0, 0, 0)) (cod_88 rfl) rfl rfl rfl ?_
      refine x_s (q := (.iadd, 0, 0, 0)) (cod_88 rfl) rfl rfl rfl ?_
      obtain ⟨c9, H10⟩ := H8
      refine x_aaldc (c := (376 + (wr (a1 + 1)))) (cod_88 rfl) (by rw [(sq_ro_375 (j := wr (a1 + 1)) c9.1 c9.2).2]; decide) (sq_ro_375 (j := wr (a1 + 1)) c9.1 c9.2).1 ?_
      refine x_s (q := (.aload_n 0, 0, 0, 0)) (cod_88 rfl) rfl rfl rfl ?_
      refine x_gc (kk := 4) (c := 373) (t := 1) (cod_88 rfl) sq_p_370 sq_l_370_4 rfl rfl ?_
      refine x_s (q := (.iload 5, 0, 0, 0)) (cod_88 rfl) rfl rfl rfl ?_
      refine x_aald (cod_88 rfl) (by rw [sq_a_373.s]; decide) (sq_a_373.k c7.1 c7.2) ?_
      refine x_s (q := (.iload_n 2, 0, 0, 0)) (cod_88 rfl) rfl rfl rfl ?_
      obtain ⟨c11, H12⟩ := H10
      obtain ⟨c13, H14⟩ := H12
      refine x_call (as := [(1, (m 373 a5)), (0, a2)]) (rest := [(1, (376 + (wr (a1 + 1)))), (0, m 374 a5)]) (cod_88 rfl) rfl rfl (by decide) (by decide) rfl rfl (Nat.le_of_ble_eq_true rfl) (rcv0 (sq_c_7_0 c11) c11 (by decide)) (Nat.le_of_ble_eq_true rfl) ?_
      refine x_pure (p84 c13) ?_
      show X 88 51 [(1, 370), (0, a1), (0, a2), (0, a3), (0, a4), (0, a5)] [(0, cAft m (m 373 a5) a2), (1, (376 + (wr (a1 + 1)))), (0, m 374 a5)] m _
      obtain ⟨c15, H16⟩ := H14
      refine x_iald (cod_88 rfl) (sq_rw_375 (j := wr (a1 + 1)) c9.1 c9.2).s ((sq_rw_375 (j := wr (a1 + 1)) c9.1 c9.2).k c15.1 c15.2) ?_
      refine x_s (q := (.iadd, 0, 0, 0)) (cod_88 rfl) rfl rfl rfl ?_
      refine x_s (q := (.aload_n 0, 0, 0, 0)) (cod_88 rfl) rfl rfl rfl ?_
      refine x_gc (kk := 6) (c := 375) (t := 1) (cod_88 rfl) sq_p_370 sq_l_370_6 rfl rfl ?_
      refine x_s (q := (.iload_n 1, 0, 0, 0)) (cod_88 rfl) rfl rfl rfl ?_
      obtain ⟨c17, H18⟩ := H16
      refine x_aaldc (c := (376 + a1)) (cod_88 rfl) (by rw [(sq_ro_375 (j := a1) c17.1 c17.2).2]; decide) (sq_ro_375 (j := a1) c17.1 c17.2).1 ?_
      refine x_s (q := (.iload_n 2, 0, 0, 0)) (cod_88 rfl) rfl rfl rfl ?_
      obtain ⟨c19, H20⟩ := H18
      refine x_iald (cod_88 rfl) (sq_rw_375 (j := a1) c17.1 c17.2).s ((sq_rw_375 (j := a1) c17.1 c17.2).k c19.1 c19.2) ?_
      refine x_ic (p := ¬ (wr ((m 374 a5) + (m (376 + (wr (a1 + 1))) (cAft m (m 373 a5) a2)))) = (m (376 + a1) a2)) (tgt := 67) (cod_88 rfl) (by decide) xj_ne (fun h => ?_) (fun h => ?_)
      · have H21 := H20.2 h
        refine x_s (q := (.iinc 5 1, 0, 0, 0)) (cod_88 rfl) rfl rfl rfl ?_
        refine x_go (tgt := 3) (cod_88 rfl) (by decide) ?_
        exact H21
      · have H22 := H20.1 (Classical.not_not.mp h)
        refine x_s (q := (.iload 5, 0, 0, 0)) (cod_88 rfl) rfl rfl rfl ?_
        refine x_retI (t := .int) (cod_88 rfl) rfl rfl rfl ?_
        exact H22
set_option maxRecDepth 100000 in
theorem w90_0 {m : Mm} {K : Mm → Prop} (a0 : Int) (a1 : Int) (a2 : Int) (a4 : Int) (a5 : Int) (ta0 : shp a0 = 20) (ta1 : shp a1 = 30) (ta2 : shp a2 = 24)
  (H : (0 ≤ a4 ∧ a4 < 10) ∧ ∀ m3, m3 = umem m (a0 + 27) a4 0 → ∀ m5, m5 = umem m3 (a0 + 26) a4 0 → X 90 19 [(1, a0), (1, a1), (1, a2), (1, 370), (0, a4), (0, a5), (0, 0), (9, 0), (9, 0)] [] m5 (qV K)) : X 90 0 [(1, a0), (1, a1), (1, a2), (1, 370), (0, a4), (0, a5), (9, 0), (9, 0), (9, 0)] [] m (qV K) := by
  refine x_aldn (cod_90 rfl) rfl (pos_of ta0 (by decide)) ?_
  refine x_gc (kk := 6) (c := (a0 + 27)) (t := 1) (cod_90 rfl) ta0 (sq_c_0_6 ta0) rfl rfl ?_
  refine x_s (q := (.iload 4, 0, 0, 0)) (cod_90 rfl) rfl rfl rfl ?_
  refine x_s (q := (.iconst 0, 0, 0, 0)) (cod_90 rfl) rfl rfl rfl ?_
  obtain ⟨c1, H2⟩ := H
  refine x_iast (cod_90 rfl) (sq_ac_0_6 ta0).s ((sq_ac_0_6 ta0).k c1.1 c1.2) ?_
  have H4 := H2 _ rfl
  generalize umem m (a0 + 27) a4 0 = m3 at H4 ⊢
  refine x_aldn (cod_90 rfl) rfl (pos_of ta0 (by decide)) ?_
  refine x_gc (kk := 5) (c := (a0 + 26)) (t := 1) (cod_90 rfl) ta0 (sq_c_0_5 ta0) rfl rfl ?_
  refine x_s (q := (.iload 4, 0, 0, 0)) (cod_90 rfl) rfl rfl rfl ?_
  refine x_s (q := (.iconst 0, 0, 0, 0)) (cod_90 rfl) rfl rfl rfl ?_
  refine x_iast (cod_90 rfl) (sq_ac_0_5 ta0).s ((sq_ac_0_5 ta0).k c1.1 c1.2) ?_
  have H6 := H4 _ rfl
  generalize umem m3 (a0 + 26) a4 0 = m5 at H6 ⊢
  refine x_s (q := (.iconst 0, 0, 0, 0)) (cod_90 rfl) rfl rfl rfl ?_
  refine x_s (q := (.istore 6, 0, 0, 0)) (cod_90 rfl) rfl rfl rfl ?_
  exact H6
theorem e90 {m : Mm} {K : Mm → Prop} (a0 : Int) (a1 : Int) (a2 : Int) (a4 : Int) (a5 : Int) (ta0 : shp a0 = 20) (ta1 : shp a1 = 30) (ta2 : shp a2 = 24)
  (H : (0 ≤ a4 ∧ a4 < 10) ∧ ∀ m3, m3 = umem m (a0 + 27) a4 0 → ∀ m5, m5 = umem m3 (a0 + 26) a4 0 → X 90 19 [(1, a0), (1, a1), (1, a2), (1, 370), (0, a4), (0, a5), (0, 0), (9, 0), (9, 0)] [] m5 (qV K)) : TrV 90 [(1, a0), (1, a1), (1, a2), (1, 370), (0, a4), (0, a5)] m K := by
  exact w90_0 a0 a1 a2 a4 a5 ta0 ta1 ta2 H
set_option maxRecDepth 100000 in
theorem w90_19 {m : Mm} {K : Mm → Prop} (a0 : Int) (a1 : Int) (a2 : Int) (a4 : Int) (a5 : Int) (a6 : Int) (ua7 : aV) (ua8 : aV) (ta0 : shp a0 = 20) (ta1 : shp a1 = 30) (ta2 : shp a2 = 24)
  (H : (a6 < (m a1 6) → ((iand (ishr a5 a6) 1) = 1 → X 90 44 [(1, a0), (1, a1), (1, a2), (1, 370), (0, a4), (0, a5), (0, a6), ua7, ua8] [(0, 1)] m (qV K)) ∧ (¬ (iand (ishr a5 a6) 1) = 1 → X 90 44 [(1, a0), (1, a1), (1, a2), (1, 370), (0, a4), (0, a5), (0, a6), ua7, ua8] [(0, 0)] m (qV K))) ∧ (¬ a6 < (m a1 6) → K m)) : X 90 19 [(1, a0), (1, a1), (1, a2), (1, 370), (0, a4), (0, a5), (0, a6), ua7, ua8] [] m (qV K) := by
  refine x_s (q := (.iload 6, 0, 0, 0)) (cod_90 rfl) rfl rfl rfl ?_
  refine x_aldn (cod_90 rfl) rfl (pos_of ta1 (by decide)) ?_
  refine x_gf (kk := 6) (t := 0) (cod_90 rfl) ta1 (sq_c_10_6 ta1) rfl rfl ?_
  refine x_ic (p := ¬ a6 < (m a1 6)) (tgt := 121) (cod_90 rfl) (by decide) xn_ge (fun h => ?_) (fun h => ?_)
  · have H1 := H.2 h
    refine x_retV (cod_90 rfl) rfl ?_
    exact H1
  · have H2 := H.1 (Classical.not_not.mp h)
    refine x_s (q := (.iload 5, 0, 0, 0)) (cod_90 rfl) rfl rfl rfl ?_
    refine x_s (q := (.iload 6, 0, 0, 0)) (cod_90 rfl) rfl rfl rfl ?_
    refine x_s (q := (.ishr, 0, 0, 0)) (cod_90 rfl) rfl rfl rfl ?_
    show X 90 33 [(1, a0), (1, a1), (1, a2), (1, 370), (0, a4), (0, a5), (0, a6), ua7, ua8] [(0, ishr a5 a6)] m _
    refine x_s (q := (.iconst 1, 0, 0, 0)) (cod_90 rfl) rfl rfl rfl ?_
    refine x_s (q := (.iand, 0, 0, 0)) (cod_90 rfl) rfl rfl rfl ?_
    show X 90 35 [(1, a0), (1, a1), (1, a2), (1, 370), (0, a4), (0, a5), (0, a6), ua7, ua8] [(0, iand (ishr a5 a6) 1)] m _
    refine x_s (q := (.iconst 1, 0, 0, 0)) (cod_90 rfl) rfl rfl rfl ?_
    refine x_ic (p := ¬ (iand (ishr a5 a6) 1) = 1) (tgt := 43) (cod_90 rfl) (by decide) xj_ne (fun h => ?_) (fun h => ?_)
    · have H3 := H2.2 h
      refine x_s (q := (.iconst 0, 0, 0, 0)) (cod_90 rfl) rfl rfl rfl ?_
      exact H3
    · have H4 := H2.1 (Classical.not_not.mp h)
      refine x_s (q := (.iconst 1, 0, 0, 0)) (cod_90 rfl) rfl rfl rfl ?_
      refine x_go (tgt := 44) (cod_90 rfl) (by decide) ?_
      exact H4
set_option maxRecDepth 100000 in
theorem w90_44 {m : Mm} {K : Mm → Prop} (a0 : Int) (a1 : Int) (a2 : Int) (a4 : Int) (a5 : Int) (a6 : Int) (ua7 : aV) (ua8 : aV) (s0 : Int) (ta0 : shp a0 = 20) (ta1 : shp a1 = 30) (ta2 : shp a2 = 24)
  (H : (s0 = 0 → X 90 70 [(1, a0), (1, a1), (1, a2), (1, 370), (0, a4), (0, a5), (0, a6), (0, s0), ua8] [(0, 1000000)] m (qV K)) ∧ (¬ s0 = 0 → (0 ≤ a6 ∧ a6 < 24) ∧ TrI 91 [(1, 370), (1, a2), (0, a4), (1, (a1 + 54 + 2 * a6))] m fun v7 m5 => X 90 70 [(1, a0), (1, a1), (1, a2), (1, 370), (0, a4), (0, a5), (0, a6), (0, s0), ua8] [(0, v7)] m5 (qV K))) : X 90 44 [(1, a0), (1, a1), (1, a2), (1, 370), (0, a4), (0, a5), (0, a6), ua7, ua8] [(0, s0)] m (qV K) := by
  refine x_s (q := (.istore 7, 0, 0, 0)) (cod_90 rfl) rfl rfl rfl ?_
  refine x_s (q := (.iload 7, 0, 0, 0)) (cod_90 rfl) rfl rfl rfl ?_
  refine x_if (p := s0 = 0) (tgt := 68) (cod_90 rfl) (by decide) xj_eq (fun h => ?_) (fun h => ?_)
  · have H1 := H.1 h
    refine x_s (q := (.ldc 57, 1000000, 0, 0)) (cod_90 rfl) rfl rfl rfl ?_
    exact H1
  · have H2 := H.2 h
    refine x_s (q := (.aload_n 3, 0, 0, 0)) (cod_90 rfl) rfl rfl rfl ?_
    refine x_aldn (cod_90 rfl) rfl (pos_of ta2 (by decide)) ?_
    refine x_s (q := (.iload 4, 0, 0, 0)) (cod_90 rfl) rfl rfl rfl ?_
    refine x_aldn (cod_90 rfl) rfl (pos_of ta1 (by decide)) ?_
    refine x_gc (kk := 1) (c := (a1 + 2)) (t := 1) (cod_90 rfl) ta1 (sq_c_10_1 ta1) rfl rfl ?_
    refine x_s (q := (.iload 6, 0, 0, 0)) (cod_90 rfl) rfl rfl rfl ?_
    obtain ⟨c3, H4⟩ := H2
    refine x_aaldc (c := (a1 + 54 + 2 * a6)) (cod_90 rfl) (by rw [(sq_oa_10_1 (j := a6) ta1 c3.1 c3.2).2.1]; decide) (sq_oa_10_1 (j := a6) ta1 c3.1 c3.2).1 ?_
    refine x_call (as := [(1, 370), (1, a2), (0, a4), (1, (a1 + 54 + 2 * a6))]) (rest := []) (cod_90 rfl) rfl rfl (by decide) (by decide) rfl rfl (Nat.le_of_ble_eq_true rfl) (rcv0 sq_l_370_0 sq_p_370 (by decide)) (Nat.le_of_ble_eq_true rfl) ?_
    refine X.imp H4 ?_
    rintro _ m5 ⟨v7, rfl, H6⟩
    show X 90 65 [(1, a0), (1, a1), (1, a2), (1, 370), (0, a4), (0, a5), (0, a6), (0, s0), ua8] [(0, v7)] m5 _
    refine x_go (tgt := 70) (cod_90 rfl) (by decide) ?_
    exact H6
set_option maxRecDepth 100000 in
theorem w90_70 {m : Mm} {K : Mm → Prop} (a0 : Int) (a1 : Int) (a2 : Int) (a4 : Int) (a5 : Int) (a6 : Int) (ua7 : aV) (ua8 : aV) (s0 : Int) (ta0 : shp a0 = 20) (ta1 : shp a1 = 30) (ta2 : shp a2 = 24) (hua7 : ua7.1 ≠ 2)
  (H : (0 ≤ a4 ∧ a4 < 10) ∧ (0 ≤ a6 ∧ a6 < 24) ∧ ∀ m5, m5 = umem m (a0 + 16 + a4) a6 s0 → (s0 < 1000000 → ∀ m9, m9 = umem m5 (a0 + 26) a4 (ior (m5 (a0 + 26) a4) (ishl 1 a6)) → TrV 95 [(1, a0), (0, a4), (0, a6), (0, s0)] m9 fun m11 => X 90 19 [(1, a0), (1, a1), (1, a2), (1, 370), (0, a4), (0, a5), (0, wr (a6 + 1)), ua7, (0, s0)] [] m11 (qV K)) ∧ (¬ s0 < 1000000 → X 90 19 [(1, a0), (1, a1), (1, a2), (1, 370), (0, a4), (0, a5), (0, wr (a6 + 1)), ua7, (0, s0)] [] m5 (qV K))) : X 90 70 [(1, a0), (1, a1), (1, a2), (1, 370), (0, a4), (0, a5), (0, a6), ua7, ua8] [(0, s0)] m (qV K) := by
  show X 90 70 [(1, a0), (1, a1), (1, a2), (1, 370), (0, a4), (0, a5), (0, a6), ua7, ua8] [(0, s0)] m _
  refine x_s (q := (.istore 8, 0, 0, 0)) (np := 72) (ls' := [(1, a0), (1, a1), (1, a2), (1, 370), (0, a4), (0, a5), (0, a6), ua7, (0, s0)]) (st' := []) (cod_90 rfl) rfl rfl (by simp [stp1, stS, tok, lsok, oif, hua7]) ?_
  refine x_aldn (cod_90 rfl) rfl (pos_of ta0 (by decide)) ?_
  refine x_gc (kk := 4) (c := (a0 + 15)) (t := 1) (cod_90 rfl) ta0 (sq_c_0_4 ta0) rfl rfl ?_
  refine x_s (q := (.iload 4, 0, 0, 0)) (cod_90 rfl) rfl rfl rfl ?_
  obtain ⟨c1, H2⟩ := H
  refine x_aaldc (c := (a0 + 16 + a4)) (cod_90 rfl) (by rw [(sq_roc_0_4 (j := a4) ta0 c1.1 c1.2).2]; decide) (sq_roc_0_4 (j := a4) ta0 c1.1 c1.2).1 ?_
  refine x_s (q := (.iload 6, 0, 0, 0)) (cod_90 rfl) rfl rfl rfl ?_
  refine x_s (q := (.iload 8, 0, 0, 0)) (cod_90 rfl) rfl rfl rfl ?_
  obtain ⟨c3, H4⟩ := H2
  refine x_iast (cod_90 rfl) (sq_rwc_0_4 (j := a4) ta0 c1.1 c1.2).s ((sq_rwc_0_4 (j := a4) ta0 c1.1 c1.2).k c3.1 c3.2) ?_
  have H6 := H4 _ rfl
  generalize umem m (a0 + 16 + a4) a6 s0 = m5 at H6 ⊢
  refine x_s (q := (.iload 8, 0, 0, 0)) (cod_90 rfl) rfl rfl rfl ?_
  refine x_s (q := (.ldc 57, 1000000, 0, 0)) (cod_90 rfl) rfl rfl rfl ?_
  refine x_ic (p := ¬ s0 < 1000000) (tgt := 115) (cod_90 rfl) (by decide) xn_ge (fun h => ?_) (fun h => ?_)
  · have H7 := H6.2 h
    refine x_s (q := (.iinc 6 1, 0, 0, 0)) (cod_90 rfl) rfl rfl rfl ?_
    refine x_go (tgt := 19) (cod_90 rfl) (by decide) ?_
    exact H7
  · have H8 := H6.1 (Classical.not_not.mp h)
    refine x_aldn (cod_90 rfl) rfl (pos_of ta0 (by decide)) ?_
    refine x_gc (kk := 5) (c := (a0 + 26)) (t := 1) (cod_90 rfl) ta0 (sq_c_0_5 ta0) rfl rfl ?_
    refine x_s (q := (.iload 4, 0, 0, 0)) (cod_90 rfl) rfl rfl rfl ?_
    refine x_s (q := (.dup2, 0, 0, 0)) (cod_90 rfl) rfl rfl rfl ?_
    refine x_iald (cod_90 rfl) (sq_ac_0_5 ta0).s ((sq_ac_0_5 ta0).k c1.1 c1.2) ?_
    refine x_s (q := (.iconst 1, 0, 0, 0)) (cod_90 rfl) rfl rfl rfl ?_
    refine x_s (q := (.iload 6, 0, 0, 0)) (cod_90 rfl) rfl rfl rfl ?_
    refine x_s (q := (.ishl, 0, 0, 0)) (cod_90 rfl) rfl rfl rfl ?_
    show X 90 103 [(1, a0), (1, a1), (1, a2), (1, 370), (0, a4), (0, a5), (0, a6), ua7, (0, s0)] [(0, ishl 1 a6), (0, m5 (a0 + 26) a4), (0, a4), (1, (a0 + 26))] m5 _
    refine x_s (q := (.ior, 0, 0, 0)) (cod_90 rfl) rfl rfl rfl ?_
    show X 90 104 [(1, a0), (1, a1), (1, a2), (1, 370), (0, a4), (0, a5), (0, a6), ua7, (0, s0)] [(0, ior (m5 (a0 + 26) a4) (ishl 1 a6)), (0, a4), (1, (a0 + 26))] m5 _
    refine x_iast (cod_90 rfl) (sq_ac_0_5 ta0).s ((sq_ac_0_5 ta0).k c1.1 c1.2) ?_
    have H10 := H8 _ rfl
    generalize umem m5 (a0 + 26) a4 (ior (m5 (a0 + 26) a4) (ishl 1 a6)) = m9 at H10 ⊢
    refine x_aldn (cod_90 rfl) rfl (pos_of ta0 (by decide)) ?_
    refine x_s (q := (.iload 4, 0, 0, 0)) (cod_90 rfl) rfl rfl rfl ?_
    refine x_s (q := (.iload 6, 0, 0, 0)) (cod_90 rfl) rfl rfl rfl ?_
    refine x_s (q := (.iload 8, 0, 0, 0)) (cod_90 rfl) rfl rfl rfl ?_
    refine x_call (as := [(1, a0), (0, a4), (0, a6), (0, s0)]) (rest := []) (cod_90 rfl) rfl rfl (by decide) (by decide) rfl rfl (Nat.le_of_ble_eq_true rfl) (rcv0 (sq_c_0_0 ta0) ta0 (by decide)) (Nat.le_of_ble_eq_true rfl) ?_
    refine X.imp H10 ?_
    rintro _ m11 ⟨rfl, H12⟩
    show X 90 115 [(1, a0), (1, a1), (1, a2), (1, 370), (0, a4), (0, a5), (0, a6), ua7, (0, s0)] [] m11 _
    refine x_s (q := (.iinc 6 1, 0, 0, 0)) (cod_90 rfl) rfl rfl rfl ?_
    refine x_go (tgt := 19) (cod_90 rfl) (by decide) ?_
    exact H12
set_option maxRecDepth 100000 in
theorem w91_0 {m : Mm} {K : Int → Mm → Prop} (a1 : Int) (a2 : Int) (a3 : Int) (ta1 : shp a1 = 24) (ta3 : shp a3 = 21)
  (H : (0 ≤ a2 ∧ a2 < 10) ∧ X 91 11 [(1, 370), (1, a1), (0, a2), (1, a3), (0, m (a1 + 1) a2), (0, 0), (9, 0), (9, 0), (9, 0)] [] m (qI K)) : X 91 0 [(1, 370), (1, a1), (0, a2), (1, a3), (9, 0), (9, 0), (9, 0), (9, 0), (9, 0)] [] m (qI K) := by
  refine x_aldn (cod_91 rfl) rfl (pos_of ta1 (by decide)) ?_
  refine x_gc (kk := 0) (c := (a1 + 1)) (t := 1) (cod_91 rfl) ta1 (sq_c_4_0 ta1) rfl rfl ?_
  refine x_s (q := (.iload_n 2, 0, 0, 0)) (cod_91 rfl) rfl rfl rfl ?_
  obtain ⟨c1, H2⟩ := H
  refine x_iald (cod_91 rfl) (sq_ac_4_0 ta1).s ((sq_ac_4_0 ta1).k c1.1 c1.2) ?_
  refine x_s (q := (.istore 4, 0, 0, 0)) (cod_91 rfl) rfl rfl rfl ?_
  refine x_s (q := (.iconst 0, 0, 0, 0)) (cod_91 rfl) rfl rfl rfl ?_
  refine x_s (q := (.istore 5, 0, 0, 0)) (cod_91 rfl) rfl rfl rfl ?_
  exact H2
theorem e91 {m : Mm} {K : Int → Mm → Prop} (a1 : Int) (a2 : Int) (a3 : Int) (ta1 : shp a1 = 24) (ta3 : shp a3 = 21)
  (H : (0 ≤ a2 ∧ a2 < 10) ∧ X 91 11 [(1, 370), (1, a1), (0, a2), (1, a3), (0, m (a1 + 1) a2), (0, 0), (9, 0), (9, 0), (9, 0)] [] m (qI K)) : TrI 91 [(1, 370), (1, a1), (0, a2), (1, a3)] m K := by
  exact w91_0 a1 a2 a3 ta1 ta3 H
set_option maxRecDepth 100000 in
theorem w91_11 {m : Mm} {K : Int → Mm → Prop} (a1 : Int) (a2 : Int) (a3 : Int) (a4 : Int) (a5 : Int) (ua6 : aV) (ua7 : aV) (ua8 : aV) (ta1 : shp a1 = 24) (ta3 : shp a3 = 21)
  (H : (a5 > (m a3 1) → X 91 57 [(1, 370), (1, a1), (0, a2), (1, a3), (0, a4), (0, wr (a4 - 1)), ua6, ua7, ua8] [] m (qI K)) ∧ (¬ a5 > (m a3 1) → (0 ≤ a4 ∧ a4 < 11) ∧ (a5 = (m a3 1) → (0 ≤ a5 ∧ a5 < 9) ∧ ∀ m13, m13 = umem m (400 + a4) a5 0 → X 91 11 [(1, 370), (1, a1), (0, a2), (1, a3), (0, a4), (0, wr (a5 + 1)), ua6, ua7, ua8] [] m13 (qI K)) ∧ (¬ a5 = (m a3 1) → (0 ≤ a5 ∧ a5 < 9) ∧ ∀ m9, m9 = umem m (400 + a4) a5 1000000 → X 91 11 [(1, 370), (1, a1), (0, a2), (1, a3), (0, a4), (0, wr (a5 + 1)), ua6, ua7, ua8] [] m9 (qI K)))) : X 91 11 [(1, 370), (1, a1), (0, a2), (1, a3), (0, a4), (0, a5), ua6, ua7, ua8] [] m (qI K) := by
  refine x_s (q := (.iload 5, 0, 0, 0)) (cod_91 rfl) rfl rfl rfl ?_
  refine x_aldn (cod_91 rfl) rfl (pos_of ta3 (by decide)) ?_
  refine x_gf (kk := 1) (t := 0) (cod_91 rfl) ta3 (sq_c_1_1 ta3) rfl rfl ?_
  refine x_ic (p := a5 > (m a3 1)) (tgt := 51) (cod_91 rfl) (by decide) xj_gt (fun h => ?_) (fun h => ?_)
  · have H1 := H.1 h
    refine x_s (q := (.iload 4, 0, 0, 0)) (cod_91 rfl) rfl rfl rfl ?_
    refine x_s (q := (.iconst 1, 0, 0, 0)) (cod_91 rfl) rfl rfl rfl ?_
    refine x_s (q := (.isub, 0, 0, 0)) (cod_91 rfl) rfl rfl rfl ?_
    refine x_s (q := (.istore 5, 0, 0, 0)) (cod_91 rfl) rfl rfl rfl ?_
    exact H1
  · have H2 := H.2 h
    refine x_s (q := (.aload_n 0, 0, 0, 0)) (cod_91 rfl) rfl rfl rfl ?_
    refine x_gc (kk := 8) (c := 399) (t := 1) (cod_91 rfl) sq_p_370 sq_l_370_8 rfl rfl ?_
    refine x_s (q := (.iload 4, 0, 0, 0)) (cod_91 rfl) rfl rfl rfl ?_
    obtain ⟨c3, H4⟩ := H2
    refine x_aaldc (c := (400 + a4)) (cod_91 rfl) (by rw [(sq_ro_399 (j := a4) c3.1 c3.2).2]; decide) (sq_ro_399 (j := a4) c3.1 c3.2).1 ?_
    refine x_s (q := (.iload 5, 0, 0, 0)) (cod_91 rfl) rfl rfl rfl ?_
    refine x_s (q := (.iload 5, 0, 0, 0)) (cod_91 rfl) rfl rfl rfl ?_
    refine x_aldn (cod_91 rfl) rfl (pos_of ta3 (by decide)) ?_
    refine x_gf (kk := 1) (t := 0) (cod_91 rfl) ta3 (sq_c_1_1 ta3) rfl rfl ?_
    refine x_ic (p := ¬ a5 = (m a3 1)) (tgt := 42) (cod_91 rfl) (by decide) xj_ne (fun h => ?_) (fun h => ?_)
    · have H5 := H4.2 h
      refine x_s (q := (.ldc 81, 1000000, 0, 0)) (cod_91 rfl) rfl rfl rfl ?_
      obtain ⟨c7, H8⟩ := H5
      refine x_iast (cod_91 rfl) (sq_rw_399 (j := a4) c3.1 c3.2).s ((sq_rw_399 (j := a4) c3.1 c3.2).k c7.1 c7.2) ?_
      have H10 := H8 _ rfl
      generalize umem m (400 + a4) a5 1000000 = m9 at H10 ⊢
      refine x_s (q := (.iinc 5 1, 0, 0, 0)) (cod_91 rfl) rfl rfl rfl ?_
      refine x_go (tgt := 11) (cod_91 rfl) (by decide) ?_
      exact H10
    · have H6 := H4.1 (Classical.not_not.mp h)
      refine x_s (q := (.iconst 0, 0, 0, 0)) (cod_91 rfl) rfl rfl rfl ?_
      refine x_go (tgt := 44) (cod_91 rfl) (by decide) ?_
      obtain ⟨c11, H12⟩ := H6
      refine x_iast (cod_91 rfl) (sq_rw_399 (j := a4) c3.1 c3.2).s ((sq_rw_399 (j := a4) c3.1 c3.2).k c11.1 c11.2) ?_
      have H14 := H12 _ rfl
      generalize umem m (400 + a4) a5 0 = m13 at H14 ⊢
      refine x_s (q := (.iinc 5 1, 0, 0, 0)) (cod_91 rfl) rfl rfl rfl ?_
      refine x_go (tgt := 11) (cod_91 rfl) (by decide) ?_
      exact H14
set_option maxRecDepth 100000 in
theorem w91_57 {m : Mm} {K : Int → Mm → Prop} (a1 : Int) (a2 : Int) (a3 : Int) (ua4 : aV) (a5 : Int) (ua6 : aV) (ua7 : aV) (ua8 : aV) (ta1 : shp a1 = 24) (ta3 : shp a3 = 21)
  (H : (a5 < 0 → K (m 400 0) m) ∧ (¬ a5 < 0 → (0 ≤ a2 ∧ a2 < 10) ∧ (0 ≤ a5 ∧ a5 < 11) ∧ X 91 76 [(1, 370), (1, a1), (0, a2), (1, a3), ua4, (0, a5), (0, m (a1 + 25 + a2) a5), (0, 0), ua8] [] m (qI K))) : X 91 57 [(1, 370), (1, a1), (0, a2), (1, a3), ua4, (0, a5), ua6, ua7, ua8] [] m (qI K) := by
  refine x_s (q := (.iload 5, 0, 0, 0)) (cod_91 rfl) rfl rfl rfl ?_
  refine x_if (p := a5 < 0) (tgt := 187) (cod_91 rfl) (by decide) xj_lt (fun h => ?_) (fun h => ?_)
  · have H1 := H.1 h
    refine x_s (q := (.aload_n 0, 0, 0, 0)) (cod_91 rfl) rfl rfl rfl ?_
    refine x_gc (kk := 8) (c := 399) (t := 1) (cod_91 rfl) sq_p_370 sq_l_370_8 rfl rfl ?_
    refine x_s (q := (.iconst 0, 0, 0, 0)) (cod_91 rfl) rfl rfl rfl ?_
    refine x_aaldc (c := 400) (cod_91 rfl) (by rw [(sq_ro_399 (j := 0) (by decide) (by decide)).2]; decide) (sq_ro_399 (j := 0) (by decide) (by decide)).1 ?_
    refine x_s (q := (.iconst 0, 0, 0, 0)) (cod_91 rfl) rfl rfl rfl ?_
    refine x_iald (cod_91 rfl) (sq_rw_399 (j := 0) (by decide) (by decide)).s ((sq_rw_399 (j := 0) (by decide) (by decide)).k (by decide) (by decide)) ?_
    refine x_retI (t := .int) (cod_91 rfl) rfl rfl rfl ?_
    exact H1
  · have H2 := H.2 h
    refine x_aldn (cod_91 rfl) rfl (pos_of ta1 (by decide)) ?_
    refine x_gc (kk := 3) (c := (a1 + 24)) (t := 1) (cod_91 rfl) ta1 (sq_c_4_3 ta1) rfl rfl ?_
    refine x_s (q := (.iload_n 2, 0, 0, 0)) (cod_91 rfl) rfl rfl rfl ?_
    obtain ⟨c3, H4⟩ := H2
    refine x_aaldc (c := (a1 + 25 + a2)) (cod_91 rfl) (by rw [(sq_roc_4_3 (j := a2) ta1 c3.1 c3.2).2]; decide) (sq_roc_4_3 (j := a2) ta1 c3.1 c3.2).1 ?_
    refine x_s (q := (.iload 5, 0, 0, 0)) (cod_91 rfl) rfl rfl rfl ?_
    obtain ⟨c5, H6⟩ := H4
    refine x_iald (cod_91 rfl) (sq_rwc_4_3 (j := a2) ta1 c3.1 c3.2).s ((sq_rwc_4_3 (j := a2) ta1 c3.1 c3.2).k c5.1 c5.2) ?_
    refine x_s (q := (.istore 6, 0, 0, 0)) (cod_91 rfl) rfl rfl rfl ?_
    refine x_s (q := (.iconst 0, 0, 0, 0)) (cod_91 rfl) rfl rfl rfl ?_
    refine x_s (q := (.istore 7, 0, 0, 0)) (cod_91 rfl) rfl rfl rfl ?_
    exact H6
set_option maxRecDepth 100000 in
theorem w91_76 {m : Mm} {K : Int → Mm → Prop} (a1 : Int) (a2 : Int) (a3 : Int) (ua4 : aV) (a5 : Int) (a6 : Int) (a7 : Int) (ua8 : aV) (ta1 : shp a1 = 24) (ta3 : shp a3 = 21) (hua4 : ua4.1 ≠ 2)
  (H : (a7 > (m a3 1) → X 91 57 [(1, 370), (1, a1), (0, a2), (1, a3), ua4, (0, wr (a5 + (-1))), (0, a6), (0, a7), ua8] [] m (qI K)) ∧ (¬ a7 > (m a3 1) → (a6 = 27 → TrV 92 [(1, 370), (1, a1), (0, a2), (0, a5), (1, a3), (0, a7)] m fun m15 => X 91 76 [(1, 370), (1, a1), (0, a2), (1, a3), ua4, (0, a5), (0, a6), (0, wr (a7 + 1)), ua8] [] m15 (qI K)) ∧ (¬ a6 = 27 → (a7 < (m a3 1) → (0 ≤ a7 ∧ a7 < 8) ∧ (0 ≤ a2 ∧ a2 < 10) ∧ (0 ≤ a5 ∧ a5 < 10) ∧ ((m (a3 + 1) a7) = (m (a1 + 3 + a2) a5) → X 91 139 [(1, 370), (1, a1), (0, a2), (1, a3), ua4, (0, a5), (0, a6), (0, a7), ua8] [(0, 1)] m (qI K)) ∧ (¬ (m (a3 + 1) a7) = (m (a1 + 3 + a2) a5) → X 91 139 [(1, 370), (1, a1), (0, a2), (1, a3), ua4, (0, a5), (0, a6), (0, a7), ua8] [(0, 0)] m (qI K))) ∧ (¬ a7 < (m a3 1) → X 91 139 [(1, 370), (1, a1), (0, a2), (1, a3), ua4, (0, a5), (0, a6), (0, a7), ua8] [(0, 0)] m (qI K))))) : X 91 76 [(1, 370), (1, a1), (0, a2), (1, a3), ua4, (0, a5), (0, a6), (0, a7), ua8] [] m (qI K) := by
  refine x_s (q := (.iload 7, 0, 0, 0)) (cod_91 rfl) rfl rfl rfl ?_
  refine x_aldn (cod_91 rfl) rfl (pos_of ta3 (by decide)) ?_
  refine x_gf (kk := 1) (t := 0) (cod_91 rfl) ta3 (sq_c_1_1 ta3) rfl rfl ?_
  refine x_ic (p := a7 > (m a3 1)) (tgt := 181) (cod_91 rfl) (by decide) xj_gt (fun h => ?_) (fun h => ?_)
  · have H1 := H.1 h
    show X 91 181 [(1, 370), (1, a1), (0, a2), (1, a3), ua4, (0, a5), (0, a6), (0, a7), ua8] [] m _
    refine x_s (q := (.iinc 5 (-1), 0, 0, 0)) (np := 184) (ls' := [(1, 370), (1, a1), (0, a2), (1, a3), ua4, (0, wr (a5 + (-1))), (0, a6), (0, a7), ua8]) (st' := []) (cod_91 rfl) rfl rfl (by simp [stp1, stS, tok, lsok, oif, hua4]) ?_
    refine x_go (tgt := 57) (cod_91 rfl) (by decide) ?_
    exact H1
  · have H2 := H.2 h
    refine x_s (q := (.iload 6, 0, 0, 0)) (cod_91 rfl) rfl rfl rfl ?_
    refine x_s (q := (.bipush 27, 0, 0, 0)) (cod_91 rfl) rfl rfl rfl ?_
    refine x_ic (p := ¬ a6 = 27) (tgt := 106) (cod_91 rfl) (by decide) xj_ne (fun h => ?_) (fun h => ?_)
    · have H3 := H2.2 h
      refine x_s (q := (.iload 7, 0, 0, 0)) (cod_91 rfl) rfl rfl rfl ?_
      refine x_aldn (cod_91 rfl) rfl (pos_of ta3 (by decide)) ?_
      refine x_gf (kk := 1) (t := 0) (cod_91 rfl) ta3 (sq_c_1_1 ta3) rfl rfl ?_
      refine x_ic (p := ¬ a7 < (m a3 1)) (tgt := 138) (cod_91 rfl) (by decide) xn_ge (fun h => ?_) (fun h => ?_)
      · have H5 := H3.2 h
        refine x_s (q := (.iconst 0, 0, 0, 0)) (cod_91 rfl) rfl rfl rfl ?_
        exact H5
      · have H6 := H3.1 (Classical.not_not.mp h)
        refine x_aldn (cod_91 rfl) rfl (pos_of ta3 (by decide)) ?_
        refine x_gc (kk := 0) (c := (a3 + 1)) (t := 1) (cod_91 rfl) ta3 (sq_c_1_0 ta3) rfl rfl ?_
        refine x_s (q := (.iload 7, 0, 0, 0)) (cod_91 rfl) rfl rfl rfl ?_
        obtain ⟨c7, H8⟩ := H6
        refine x_iald (cod_91 rfl) (sq_ac_1_0 ta3).s ((sq_ac_1_0 ta3).k c7.1 c7.2) ?_
        refine x_aldn (cod_91 rfl) rfl (pos_of ta1 (by decide)) ?_
        refine x_gc (kk := 1) (c := (a1 + 2)) (t := 1) (cod_91 rfl) ta1 (sq_c_4_1 ta1) rfl rfl ?_
        refine x_s (q := (.iload_n 2, 0, 0, 0)) (cod_91 rfl) rfl rfl rfl ?_
        obtain ⟨c9, H10⟩ := H8
        refine x_aaldc (c := (a1 + 3 + a2)) (cod_91 rfl) (by rw [(sq_roc_4_1 (j := a2) ta1 c9.1 c9.2).2]; decide) (sq_roc_4_1 (j := a2) ta1 c9.1 c9.2).1 ?_
        refine x_s (q := (.iload 5, 0, 0, 0)) (cod_91 rfl) rfl rfl rfl ?_
        obtain ⟨c11, H12⟩ := H10
        refine x_iald (cod_91 rfl) (sq_rwc_4_1 (j := a2) ta1 c9.1 c9.2).s ((sq_rwc_4_1 (j := a2) ta1 c9.1 c9.2).k c11.1 c11.2) ?_
        refine x_ic (p := ¬ (m (a3 + 1) a7) = (m (a1 + 3 + a2) a5)) (tgt := 138) (cod_91 rfl) (by decide) xj_ne (fun h => ?_) (fun h => ?_)
        · have H13 := H12.2 h
          refine x_s (q := (.iconst 0, 0, 0, 0)) (cod_91 rfl) rfl rfl rfl ?_
          exact H13
        · have H14 := H12.1 (Classical.not_not.mp h)
          refine x_s (q := (.iconst 1, 0, 0, 0)) (cod_91 rfl) rfl rfl rfl ?_
          refine x_go (tgt := 139) (cod_91 rfl) (by decide) ?_
          exact H14
    · have H4 := H2.1 (Classical.not_not.mp h)
      refine x_s (q := (.aload_n 0, 0, 0, 0)) (cod_91 rfl) rfl rfl rfl ?_
      refine x_aldn (cod_91 rfl) rfl (pos_of ta1 (by decide)) ?_
      refine x_s (q := (.iload_n 2, 0, 0, 0)) (cod_91 rfl) rfl rfl rfl ?_
      refine x_s (q := (.iload 5, 0, 0, 0)) (cod_91 rfl) rfl rfl rfl ?_
      refine x_aldn (cod_91 rfl) rfl (pos_of ta3 (by decide)) ?_
      refine x_s (q := (.iload 7, 0, 0, 0)) (cod_91 rfl) rfl rfl rfl ?_
      refine x_call (as := [(1, 370), (1, a1), (0, a2), (0, a5), (1, a3), (0, a7)]) (rest := []) (cod_91 rfl) rfl rfl (by decide) (by decide) rfl rfl (Nat.le_of_ble_eq_true rfl) (rcv0 sq_l_370_0 sq_p_370 (by decide)) (Nat.le_of_ble_eq_true rfl) ?_
      refine X.imp H4 ?_
      rintro _ m15 ⟨rfl, H16⟩
      show X 91 103 [(1, 370), (1, a1), (0, a2), (1, a3), ua4, (0, a5), (0, a6), (0, a7), ua8] [] m15 _
      refine x_go (tgt := 175) (cod_91 rfl) (by decide) ?_
      refine x_s (q := (.iinc 7 1, 0, 0, 0)) (cod_91 rfl) rfl rfl rfl ?_
      refine x_go (tgt := 76) (cod_91 rfl) (by decide) ?_
      exact H16
set_option maxRecDepth 100000 in
theorem w91_139 {m : Mm} {K : Int → Mm → Prop} (a1 : Int) (a2 : Int) (a3 : Int) (ua4 : aV) (a5 : Int) (a6 : Int) (a7 : Int) (ua8 : aV) (s0 : Int) (ta1 : shp a1 = 24) (ta3 : shp a3 = 21)
  (H : (0 ≤ a5 ∧ a5 < 11) ∧ (s0 = 0 → (0 ≤ a7 ∧ a7 < 9) ∧ ∀ m7, m7 = umem m (400 + a5) a7 1000000 → X 91 76 [(1, 370), (1, a1), (0, a2), (1, a3), ua4, (0, a5), (0, a6), (0, wr (a7 + 1)), (0, s0)] [] m7 (qI K)) ∧ (¬ s0 = 0 → (0 ≤ (wr (a5 + 1)) ∧ (wr (a5 + 1)) < 11) ∧ (0 ≤ (wr (a7 + 1)) ∧ (wr (a7 + 1)) < 9) ∧ (0 ≤ a7 ∧ a7 < 9) ∧ ∀ m15, m15 = umem m (400 + a5) a7 (m (400 + (wr (a5 + 1))) (wr (a7 + 1))) → X 91 76 [(1, 370), (1, a1), (0, a2), (1, a3), ua4, (0, a5), (0, a6), (0, wr (a7 + 1)), (0, s0)] [] m15 (qI K))) : X 91 139 [(1, 370), (1, a1), (0, a2), (1, a3), ua4, (0, a5), (0, a6), (0, a7), ua8] [(0, s0)] m (qI K) := by
  refine x_s (q := (.istore 8, 0, 0, 0)) (cod_91 rfl) rfl rfl rfl ?_
  refine x_s (q := (.aload_n 0, 0, 0, 0)) (cod_91 rfl) rfl rfl rfl ?_
  refine x_gc (kk := 8) (c := 399) (t := 1) (cod_91 rfl) sq_p_370 sq_l_370_8 rfl rfl ?_
  refine x_s (q := (.iload 5, 0, 0, 0)) (cod_91 rfl) rfl rfl rfl ?_
  obtain ⟨c1, H2⟩ := H
  refine x_aaldc (c := (400 + a5)) (cod_91 rfl) (by rw [(sq_ro_399 (j := a5) c1.1 c1.2).2]; decide) (sq_ro_399 (j := a5) c1.1 c1.2).1 ?_
  refine x_s (q := (.iload 7, 0, 0, 0)) (cod_91 rfl) rfl rfl rfl ?_
  refine x_s (q := (.iload 8, 0, 0, 0)) (cod_91 rfl) rfl rfl rfl ?_
  refine x_if (p := s0 = 0) (tgt := 172) (cod_91 rfl) (by decide) xj_eq (fun h => ?_) (fun h => ?_)
  · have H3 := H2.1 h
    refine x_s (q := (.ldc 81, 1000000, 0, 0)) (cod_91 rfl) rfl rfl rfl ?_
    obtain ⟨c5, H6⟩ := H3
    refine x_iast (cod_91 rfl) (sq_rw_399 (j := a5) c1.1 c1.2).s ((sq_rw_399 (j := a5) c1.1 c1.2).k c5.1 c5.2) ?_
    have H8 := H6 _ rfl
    generalize umem m (400 + a5) a7 1000000 = m7 at H8 ⊢
    refine x_s (q := (.iinc 7 1, 0, 0, 0)) (cod_91 rfl) rfl rfl rfl ?_
    refine x_go (tgt := 76) (cod_91 rfl) (by decide) ?_
    exact H8
  · have H4 := H2.2 h
    refine x_s (q := (.aload_n 0, 0, 0, 0)) (cod_91 rfl) rfl rfl rfl ?_
    refine x_gc (kk := 8) (c := 399) (t := 1) (cod_91 rfl) sq_p_370 sq_l_370_8 rfl rfl ?_
    refine x_s (q := (.iload 5, 0, 0, 0)) (cod_91 rfl) rfl rfl rfl ?_
    refine x_s (q := (.iconst 1, 0, 0, 0)) (cod_91 rfl) rfl rfl rfl ?_
    refine x_s (q := (.iadd, 0, 0, 0)) (cod_91 rfl) rfl rfl rfl ?_
    obtain ⟨c9, H10⟩ := H4
    refine x_aaldc (c := (400 + (wr (a5 + 1)))) (cod_91 rfl) (by rw [(sq_ro_399 (j := wr (a5 + 1)) c9.1 c9.2).2]; decide) (sq_ro_399 (j := wr (a5 + 1)) c9.1 c9.2).1 ?_
    refine x_s (q := (.iload 7, 0, 0, 0)) (cod_91 rfl) rfl rfl rfl ?_
    refine x_s (q := (.iconst 1, 0, 0, 0)) (cod_91 rfl) rfl rfl rfl ?_
    refine x_s (q := (.iadd, 0, 0, 0)) (cod_91 rfl) rfl rfl rfl ?_
    obtain ⟨c11, H12⟩ := H10
    refine x_iald (cod_91 rfl) (sq_rw_399 (j := wr (a5 + 1)) c9.1 c9.2).s ((sq_rw_399 (j := wr (a5 + 1)) c9.1 c9.2).k c11.1 c11.2) ?_
    refine x_go (tgt := 174) (cod_91 rfl) (by decide) ?_
    obtain ⟨c13, H14⟩ := H12
    refine x_iast (cod_91 rfl) (sq_rw_399 (j := a5) c1.1 c1.2).s ((sq_rw_399 (j := a5) c1.1 c1.2).k c13.1 c13.2) ?_
    have H16 := H14 _ rfl
    generalize umem m (400 + a5) a7 (m (400 + (wr (a5 + 1))) (wr (a7 + 1))) = m15 at H16 ⊢
    refine x_s (q := (.iinc 7 1, 0, 0, 0)) (cod_91 rfl) rfl rfl rfl ?_
    refine x_go (tgt := 76) (cod_91 rfl) (by decide) ?_
    exact H16
