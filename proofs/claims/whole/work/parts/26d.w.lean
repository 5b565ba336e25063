/-! rules of the methods: printed by wip/whole/gen26.py -/
set_option maxRecDepth 100000 in
theorem w121_0 {m : Mm} {K : Int → Mm → Prop}  
  (H : TrV 76 [(1, 1)] m fun m1 => K (m1 511 2) m1) : X 121 0 [(1, 1)] [] m (qL K) := by
  refine x_s (q := (.aload_n 0, 0, 0, 0)) (cod_121 rfl) rfl rfl rfl ?_
  refine x_call (as := [(1, 1)]) (rest := []) (cod_121 rfl) rfl rfl (by decide) (by decide) rfl rfl (Nat.le_of_ble_eq_true rfl) (rcv0 sq_l_1_0 sq_p_1 (by decide)) (Nat.le_of_ble_eq_true rfl) ?_
  refine X.imp H ?_
  rintro _ m1 ⟨rfl, H2⟩
  show X 121 4 [(1, 1)] [] m1 _
  refine x_s (q := (.aload_n 0, 0, 0, 0)) (cod_121 rfl) rfl rfl rfl ?_
  refine x_gc (kk := 12) (c := 511) (t := 1) (cod_121 rfl) sq_p_1 sq_l_1_12 rfl rfl ?_
  refine x_gf (kk := 2) (t := 2) (cod_121 rfl) sq_p_511 sq_l_511_2 rfl rfl ?_
  refine x_retL (cod_121 rfl) rfl ?_
  exact H2
theorem e121 {m : Mm} {K : Int → Mm → Prop}  
  (H : TrV 76 [(1, 1)] m fun m1 => K (m1 511 2) m1) : TrL 121 [(1, 1)] m K := by
  exact w121_0  H
set_option maxRecDepth 100000 in
theorem w122_0 {m : Mm} {K : Int → Mm → Prop} (a1 : Int) (a2 : Int) 
  (H : TrV 76 [(1, 1)] m fun m1 => TrI 113 [(1, 1), (0, a1), (0, a2)] m1 fun v5 m3 => (v5 = 0 → K (-1) m3) ∧ (¬ v5 = 0 → TrI 123 [(1, 511), (1, 411), (0, a1), (0, a2)] m3 fun v10 m8 => K (if v10 < 1000000 then v10 else -2) m8)) : X 122 0 [(1, 1), (0, a1), (0, a2)] [] m (qI K) := by
  refine x_s (q := (.aload_n 0, 0, 0, 0)) (cod_122 rfl) rfl rfl rfl ?_
  refine x_call (as := [(1, 1)]) (rest := []) (cod_122 rfl) rfl rfl (by decide) (by decide) rfl rfl (Nat.le_of_ble_eq_true rfl) (rcv0 sq_l_1_0 sq_p_1 (by decide)) (Nat.le_of_ble_eq_true rfl) ?_
  refine X.imp H ?_
  rintro _ m1 ⟨rfl, H2⟩
  show X 122 4 [(1, 1), (0, a1), (0, a2)] [] m1 _
  refine x_s (q := (.aload_n 0, 0, 0, 0)) (cod_122 rfl) rfl rfl rfl ?_
  refine x_s (q := (.iload_n 1, 0, 0, 0)) (cod_122 rfl) rfl rfl rfl ?_
  refine x_s (q := (.iload_n 2, 0, 0, 0)) (cod_122 rfl) rfl rfl rfl ?_
  refine x_call (as := [(1, 1), (0, a1), (0, a2)]) (rest := []) (cod_122 rfl) rfl rfl (by decide) (by decide) rfl rfl (Nat.le_of_ble_eq_true rfl) (rcv0 sq_l_1_0 sq_p_1 (by decide)) (Nat.le_of_ble_eq_true rfl) ?_
  refine X.imp H2 ?_
  rintro _ m3 ⟨v5, rfl, H4⟩
  show X 122 10 [(1, 1), (0, a1), (0, a2)] [(0, v5)] m3 _
  refine x_if (p := ¬ v5 = 0) (tgt := 15) (cod_122 rfl) (by decide) xj_ne (fun h => ?_) (fun h => ?_)
  · have H6 := H4.2 h
    refine x_s (q := (.aload_n 0, 0, 0, 0)) (cod_122 rfl) rfl rfl rfl ?_
    refine x_gc (kk := 12) (c := 511) (t := 1) (cod_122 rfl) sq_p_1 sq_l_1_12 rfl rfl ?_
    refine x_s (q := (.aload_n 0, 0, 0, 0)) (cod_122 rfl) rfl rfl rfl ?_
    refine x_gc (kk := 10) (c := 411) (t := 1) (cod_122 rfl) sq_p_1 sq_l_1_10 rfl rfl ?_
    refine x_s (q := (.iload_n 1, 0, 0, 0)) (cod_122 rfl) rfl rfl rfl ?_
    refine x_s (q := (.iload_n 2, 0, 0, 0)) (cod_122 rfl) rfl rfl rfl ?_
    refine x_call (as := [(1, 511), (1, 411), (0, a1), (0, a2)]) (rest := []) (cod_122 rfl) rfl rfl (by decide) (by decide) rfl rfl (Nat.le_of_ble_eq_true rfl) (rcv0 sq_l_511_0 sq_p_511 (by decide)) (Nat.le_of_ble_eq_true rfl) ?_
    refine X.imp H6 ?_
    rintro _ m8 ⟨v10, rfl, H9⟩
    show X 122 28 [(1, 1), (0, a1), (0, a2)] [(0, v10)] m8 _
    refine x_call (as := [(0, v10)]) (rest := []) (cod_122 rfl) rfl rfl (by decide) (by decide) rfl rfl (Nat.le_of_ble_eq_true rfl) rfl (Nat.le_of_ble_eq_true rfl) ?_
    refine x_pure (p105) ?_
    show X 122 31 [(1, 1), (0, a1), (0, a2)] [(0, if v10 < 1000000 then v10 else -2)] m8 _
    refine x_retI (t := .int) (cod_122 rfl) rfl rfl rfl ?_
    exact H9
  · have H7 := H4.1 (Classical.not_not.mp h)
    refine x_s (q := (.iconst (-1), 0, 0, 0)) (cod_122 rfl) rfl rfl rfl ?_
    refine x_retI (t := .int) (cod_122 rfl) rfl rfl rfl ?_
    exact H7
theorem e122 {m : Mm} {K : Int → Mm → Prop} (a1 : Int) (a2 : Int) 
  (H : TrV 76 [(1, 1)] m fun m1 => TrI 113 [(1, 1), (0, a1), (0, a2)] m1 fun v5 m3 => (v5 = 0 → K (-1) m3) ∧ (¬ v5 = 0 → TrI 123 [(1, 511), (1, 411), (0, a1), (0, a2)] m3 fun v10 m8 => K (if v10 < 1000000 then v10 else -2) m8)) : TrI 122 [(1, 1), (0, a1), (0, a2)] m K := by
  exact w122_0 a1 a2 H
set_option maxRecDepth 100000 in
theorem w123_0 {m : Mm} {K : Int → Mm → Prop} (a0 : Int) (a1 : Int) (a2 : Int) (a3 : Int) (ta0 : shp a0 = 26) (ta1 : shp a1 = 20)
  (H : (0 ≤ a2 ∧ a2 < 10) ∧ (0 ≤ a3 ∧ a3 < 24) ∧ ((m (a0 + 3 + a2) a3) < 1000000 → ((m (a0 + 14 + a2) a3) < 1000000 → K (wr ((wr ((m (a0 + 3 + a2) a3) + (m (a0 + 14 + a2) a3))) - (m (a1 + 40 + a2) a3))) m) ∧ (¬ (m (a0 + 14 + a2) a3) < 1000000 → K 1000000 m)) ∧ (¬ (m (a0 + 3 + a2) a3) < 1000000 → K 1000000 m)) : X 123 0 [(1, a0), (1, a1), (0, a2), (0, a3)] [] m (qI K) := by
  refine x_aldn (cod_123 rfl) rfl (pos_of ta0 (by decide)) ?_
  refine x_gc (kk := 3) (c := (a0 + 2)) (t := 1) (cod_123 rfl) ta0 (sq_c_6_3 ta0) rfl rfl ?_
  refine x_s (q := (.iload_n 2, 0, 0, 0)) (cod_123 rfl) rfl rfl rfl ?_
  obtain ⟨c1, H2⟩ := H
  refine x_aaldc (c := (a0 + 3 + a2)) (cod_123 rfl) (by rw [(sq_roc_6_3 (j := a2) ta0 c1.1 c1.2).2]; decide) (sq_roc_6_3 (j := a2) ta0 c1.1 c1.2).1 ?_
  refine x_s (q := (.iload_n 3, 0, 0, 0)) (cod_123 rfl) rfl rfl rfl ?_
  obtain ⟨c3, H4⟩ := H2
  refine x_iald (cod_123 rfl) (sq_rwc_6_3 (j := a2) ta0 c1.1 c1.2).s ((sq_rwc_6_3 (j := a2) ta0 c1.1 c1.2).k c3.1 c3.2) ?_
  refine x_s (q := (.ldc 63, 1000000, 0, 0)) (cod_123 rfl) rfl rfl rfl ?_
  refine x_ic (p := ¬ (m (a0 + 3 + a2) a3) < 1000000) (tgt := 26) (cod_123 rfl) (by decide) xn_ge (fun h => ?_) (fun h => ?_)
  · have H5 := H4.2 h
    refine x_s (q := (.ldc 63, 1000000, 0, 0)) (cod_123 rfl) rfl rfl rfl ?_
    refine x_retI (t := .int) (cod_123 rfl) rfl rfl rfl ?_
    exact H5
  · have H6 := H4.1 (Classical.not_not.mp h)
    refine x_aldn (cod_123 rfl) rfl (pos_of ta0 (by decide)) ?_
    refine x_gc (kk := 4) (c := (a0 + 13)) (t := 1) (cod_123 rfl) ta0 (sq_c_6_4 ta0) rfl rfl ?_
    refine x_s (q := (.iload_n 2, 0, 0, 0)) (cod_123 rfl) rfl rfl rfl ?_
    refine x_aaldc (c := (a0 + 14 + a2)) (cod_123 rfl) (by rw [(sq_roc_6_4 (j := a2) ta0 c1.1 c1.2).2]; decide) (sq_roc_6_4 (j := a2) ta0 c1.1 c1.2).1 ?_
    refine x_s (q := (.iload_n 3, 0, 0, 0)) (cod_123 rfl) rfl rfl rfl ?_
    refine x_iald (cod_123 rfl) (sq_rwc_6_4 (j := a2) ta0 c1.1 c1.2).s ((sq_rwc_6_4 (j := a2) ta0 c1.1 c1.2).k c3.1 c3.2) ?_
    refine x_s (q := (.ldc 63, 1000000, 0, 0)) (cod_123 rfl) rfl rfl rfl ?_
    refine x_ic (p := (m (a0 + 14 + a2) a3) < 1000000) (tgt := 29) (cod_123 rfl) (by decide) xj_lt (fun h => ?_) (fun h => ?_)
    · have H7 := H6.1 h
      refine x_aldn (cod_123 rfl) rfl (pos_of ta0 (by decide)) ?_
      refine x_gc (kk := 3) (c := (a0 + 2)) (t := 1) (cod_123 rfl) ta0 (sq_c_6_3 ta0) rfl rfl ?_
      refine x_s (q := (.iload_n 2, 0, 0, 0)) (cod_123 rfl) rfl rfl rfl ?_
      refine x_aaldc (c := (a0 + 3 + a2)) (cod_123 rfl) (by rw [(sq_roc_6_3 (j := a2) ta0 c1.1 c1.2).2]; decide) (sq_roc_6_3 (j := a2) ta0 c1.1 c1.2).1 ?_
      refine x_s (q := (.iload_n 3, 0, 0, 0)) (cod_123 rfl) rfl rfl rfl ?_
      refine x_iald (cod_123 rfl) (sq_rwc_6_3 (j := a2) ta0 c1.1 c1.2).s ((sq_rwc_6_3 (j := a2) ta0 c1.1 c1.2).k c3.1 c3.2) ?_
      refine x_aldn (cod_123 rfl) rfl (pos_of ta0 (by decide)) ?_
      refine x_gc (kk := 4) (c := (a0 + 13)) (t := 1) (cod_123 rfl) ta0 (sq_c_6_4 ta0) rfl rfl ?_
      refine x_s (q := (.iload_n 2, 0, 0, 0)) (cod_123 rfl) rfl rfl rfl ?_
      refine x_aaldc (c := (a0 + 14 + a2)) (cod_123 rfl) (by rw [(sq_roc_6_4 (j := a2) ta0 c1.1 c1.2).2]; decide) (sq_roc_6_4 (j := a2) ta0 c1.1 c1.2).1 ?_
      refine x_s (q := (.iload_n 3, 0, 0, 0)) (cod_123 rfl) rfl rfl rfl ?_
      refine x_iald (cod_123 rfl) (sq_rwc_6_4 (j := a2) ta0 c1.1 c1.2).s ((sq_rwc_6_4 (j := a2) ta0 c1.1 c1.2).k c3.1 c3.2) ?_
      refine x_s (q := (.iadd, 0, 0, 0)) (cod_123 rfl) rfl rfl rfl ?_
      refine x_aldn (cod_123 rfl) rfl (pos_of ta1 (by decide)) ?_
      refine x_gc (kk := 8) (c := (a1 + 39)) (t := 1) (cod_123 rfl) ta1 (sq_c_0_8 ta1) rfl rfl ?_
      refine x_s (q := (.iload_n 2, 0, 0, 0)) (cod_123 rfl) rfl rfl rfl ?_
      refine x_aaldc (c := (a1 + 40 + a2)) (cod_123 rfl) (by rw [(sq_roc_0_8 (j := a2) ta1 c1.1 c1.2).2]; decide) (sq_roc_0_8 (j := a2) ta1 c1.1 c1.2).1 ?_
      refine x_s (q := (.iload_n 3, 0, 0, 0)) (cod_123 rfl) rfl rfl rfl ?_
      refine x_iald (cod_123 rfl) (sq_rwc_0_8 (j := a2) ta1 c1.1 c1.2).s ((sq_rwc_0_8 (j := a2) ta1 c1.1 c1.2).k c3.1 c3.2) ?_
      refine x_s (q := (.isub, 0, 0, 0)) (cod_123 rfl) rfl rfl rfl ?_
      refine x_retI (t := .int) (cod_123 rfl) rfl rfl rfl ?_
      exact H7
    · have H8 := H6.2 h
      refine x_s (q := (.ldc 63, 1000000, 0, 0)) (cod_123 rfl) rfl rfl rfl ?_
      refine x_retI (t := .int) (cod_123 rfl) rfl rfl rfl ?_
      exact H8
theorem e123 {m : Mm} {K : Int → Mm → Prop} (a0 : Int) (a1 : Int) (a2 : Int) (a3 : Int) (ta0 : shp a0 = 26) (ta1 : shp a1 = 20)
  (H : (0 ≤ a2 ∧ a2 < 10) ∧ (0 ≤ a3 ∧ a3 < 24) ∧ ((m (a0 + 3 + a2) a3) < 1000000 → ((m (a0 + 14 + a2) a3) < 1000000 → K (wr ((wr ((m (a0 + 3 + a2) a3) + (m (a0 + 14 + a2) a3))) - (m (a1 + 40 + a2) a3))) m) ∧ (¬ (m (a0 + 14 + a2) a3) < 1000000 → K 1000000 m)) ∧ (¬ (m (a0 + 3 + a2) a3) < 1000000 → K 1000000 m)) : TrI 123 [(1, a0), (1, a1), (0, a2), (0, a3)] m K := by
  exact w123_0 a0 a1 a2 a3 ta0 ta1 H
set_option maxRecDepth 100000 in
theorem w124_0 {m : Mm} {K : Int → Mm → Prop} (a1 : Int) 
  (H : shp (m 1 5) = 24 ∧ ((0 ≤ a1 ∧ a1 < m (m 1 5) 4) → TrV 76 [(1, 1)] m fun m5 => TrI 125 [(1, 511), (1, 411), (0, a1)] m5 fun v9 m7 => (v9 < 1000000 → K (wr (v9 - (m7 511 1))) m7) ∧ (¬ v9 < 1000000 → K (-2) m7)) ∧ (¬ (0 ≤ a1 ∧ a1 < m (m 1 5) 4) → K (-1) m)) : X 124 0 [(1, 1), (0, a1), (9, 0)] [] m (qI K) := by
  refine x_s (q := (.aload_n 0, 0, 0, 0)) (cod_124 rfl) rfl rfl rfl ?_
  refine x_s (q := (.iload_n 1, 0, 0, 0)) (cod_124 rfl) rfl rfl rfl ?_
  obtain ⟨c1, H2⟩ := H
  refine x_call (as := [(1, 1), (0, a1)]) (rest := []) (cod_124 rfl) rfl rfl (by decide) (by decide) rfl rfl (Nat.le_of_ble_eq_true rfl) (rcv0 sq_l_1_0 sq_p_1 (by decide)) (Nat.le_of_ble_eq_true rfl) ?_
  refine x_pure (p74 c1) ?_
  show X 124 5 [(1, 1), (0, a1), (9, 0)] [(0, bi (0 ≤ a1 ∧ a1 < m (m 1 5) 4))] m _
  refine x_if (p := 0 ≤ a1 ∧ a1 < m (m 1 5) 4) (tgt := 10) (cod_124 rfl) (by decide) xb_ne (fun h => ?_) (fun h => ?_)
  · have H3 := H2.1 h
    refine x_s (q := (.aload_n 0, 0, 0, 0)) (cod_124 rfl) rfl rfl rfl ?_
    refine x_call (as := [(1, 1)]) (rest := []) (cod_124 rfl) rfl rfl (by decide) (by decide) rfl rfl (Nat.le_of_ble_eq_true rfl) (rcv0 sq_l_1_0 sq_p_1 (by decide)) (Nat.le_of_ble_eq_true rfl) ?_
    refine X.imp H3 ?_
    rintro _ m5 ⟨rfl, H6⟩
    show X 124 14 [(1, 1), (0, a1), (9, 0)] [] m5 _
    refine x_s (q := (.aload_n 0, 0, 0, 0)) (cod_124 rfl) rfl rfl rfl ?_
    refine x_gc (kk := 12) (c := 511) (t := 1) (cod_124 rfl) sq_p_1 sq_l_1_12 rfl rfl ?_
    refine x_s (q := (.aload_n 0, 0, 0, 0)) (cod_124 rfl) rfl rfl rfl ?_
    refine x_gc (kk := 10) (c := 411) (t := 1) (cod_124 rfl) sq_p_1 sq_l_1_10 rfl rfl ?_
    refine x_s (q := (.iload_n 1, 0, 0, 0)) (cod_124 rfl) rfl rfl rfl ?_
    refine x_call (as := [(1, 511), (1, 411), (0, a1)]) (rest := []) (cod_124 rfl) rfl rfl (by decide) (by decide) rfl rfl (Nat.le_of_ble_eq_true rfl) (rcv0 sq_l_511_0 sq_p_511 (by decide)) (Nat.le_of_ble_eq_true rfl) ?_
    refine X.imp H6 ?_
    rintro _ m7 ⟨v9, rfl, H8⟩
    show X 124 26 [(1, 1), (0, a1), (9, 0)] [(0, v9)] m7 _
    refine x_s (q := (.istore_n 2, 0, 0, 0)) (cod_124 rfl) rfl rfl rfl ?_
    refine x_s (q := (.iload_n 2, 0, 0, 0)) (cod_124 rfl) rfl rfl rfl ?_
    refine x_s (q := (.ldc_w 279, 1000000, 0, 0)) (cod_124 rfl) rfl rfl rfl ?_
    refine x_ic (p := ¬ v9 < 1000000) (tgt := 46) (cod_124 rfl) (by decide) xn_ge (fun h => ?_) (fun h => ?_)
    · have H10 := H8.2 h
      refine x_s (q := (.bipush (-2), 0, 0, 0)) (cod_124 rfl) rfl rfl rfl ?_
      refine x_retI (t := .int) (cod_124 rfl) rfl rfl rfl ?_
      exact H10
    · have H11 := H8.1 (Classical.not_not.mp h)
      refine x_s (q := (.iload_n 2, 0, 0, 0)) (cod_124 rfl) rfl rfl rfl ?_
      refine x_s (q := (.aload_n 0, 0, 0, 0)) (cod_124 rfl) rfl rfl rfl ?_
      refine x_gc (kk := 12) (c := 511) (t := 1) (cod_124 rfl) sq_p_1 sq_l_1_12 rfl rfl ?_
      refine x_gf (kk := 1) (t := 0) (cod_124 rfl) sq_p_511 sq_l_511_1 rfl rfl ?_
      refine x_s (q := (.isub, 0, 0, 0)) (cod_124 rfl) rfl rfl rfl ?_
      refine x_go (tgt := 48) (cod_124 rfl) (by decide) ?_
      refine x_retI (t := .int) (cod_124 rfl) rfl rfl rfl ?_
      exact H11
  · have H4 := H2.2 h
    refine x_s (q := (.iconst (-1), 0, 0, 0)) (cod_124 rfl) rfl rfl rfl ?_
    refine x_retI (t := .int) (cod_124 rfl) rfl rfl rfl ?_
    exact H4
theorem e124 {m : Mm} {K : Int → Mm → Prop} (a1 : Int) 
  (H : shp (m 1 5) = 24 ∧ ((0 ≤ a1 ∧ a1 < m (m 1 5) 4) → TrV 76 [(1, 1)] m fun m5 => TrI 125 [(1, 511), (1, 411), (0, a1)] m5 fun v9 m7 => (v9 < 1000000 → K (wr (v9 - (m7 511 1))) m7) ∧ (¬ v9 < 1000000 → K (-2) m7)) ∧ (¬ (0 ≤ a1 ∧ a1 < m (m 1 5) 4) → K (-1) m)) : TrI 124 [(1, 1), (0, a1)] m K := by
  exact w124_0 a1 H
set_option maxRecDepth 100000 in
theorem w125_0 {m : Mm} {K : Int → Mm → Prop} (a0 : Int) (a1 : Int) (a2 : Int) (ta0 : shp a0 = 26) (ta1 : shp a1 = 20)
  (H : ((m a0 1) < 1000000 → X 125 18 [(1, a0), (1, a1), (0, a2), (0, 1000000), (0, 0)] [] m (qI K)) ∧ (¬ (m a0 1) < 1000000 → K 1000000 m)) : X 125 0 [(1, a0), (1, a1), (0, a2), (9, 0), (9, 0)] [] m (qI K) := by
  refine x_s (q := (.ldc 63, 1000000, 0, 0)) (cod_125 rfl) rfl rfl rfl ?_
  refine x_s (q := (.istore_n 3, 0, 0, 0)) (cod_125 rfl) rfl rfl rfl ?_
  refine x_aldn (cod_125 rfl) rfl (pos_of ta0 (by decide)) ?_
  refine x_gf (kk := 1) (t := 0) (cod_125 rfl) ta0 (sq_c_6_1 ta0) rfl rfl ?_
  refine x_s (q := (.ldc 63, 1000000, 0, 0)) (cod_125 rfl) rfl rfl rfl ?_
  refine x_ic (p := (m a0 1) < 1000000) (tgt := 15) (cod_125 rfl) (by decide) xj_lt (fun h => ?_) (fun h => ?_)
  · have H1 := H.1 h
    refine x_s (q := (.iconst 0, 0, 0, 0)) (cod_125 rfl) rfl rfl rfl ?_
    refine x_s (q := (.istore 4, 0, 0, 0)) (cod_125 rfl) rfl rfl rfl ?_
    exact H1
  · have H2 := H.2 h
    refine x_s (q := (.ldc 63, 1000000, 0, 0)) (cod_125 rfl) rfl rfl rfl ?_
    refine x_retI (t := .int) (cod_125 rfl) rfl rfl rfl ?_
    exact H2
theorem e125 {m : Mm} {K : Int → Mm → Prop} (a0 : Int) (a1 : Int) (a2 : Int) (ta0 : shp a0 = 26) (ta1 : shp a1 = 20)
  (H : ((m a0 1) < 1000000 → X 125 18 [(1, a0), (1, a1), (0, a2), (0, 1000000), (0, 0)] [] m (qI K)) ∧ (¬ (m a0 1) < 1000000 → K 1000000 m)) : TrI 125 [(1, a0), (1, a1), (0, a2)] m K := by
  exact w125_0 a0 a1 a2 ta0 ta1 H
set_option maxRecDepth 100000 in
theorem w125_18 {m : Mm} {K : Int → Mm → Prop} (a0 : Int) (a1 : Int) (a2 : Int) (a3 : Int) (a4 : Int) (ta0 : shp a0 = 26) (ta1 : shp a1 = 20)
  (H : (0 ≤ a2 ∧ a2 < 10) ∧ (a4 < (m (a1 + 27) a2) → (a4 = (m (a0 + 1) a2) → X 125 18 [(1, a0), (1, a1), (0, a2), (0, a3), (0, wr (a4 + 1))] [] m (qI K)) ∧ (¬ a4 = (m (a0 + 1) a2) → TrI 123 [(1, a0), (1, a1), (0, a2), (0, a4)] m fun v9 m7 => X 125 18 [(1, a0), (1, a1), (0, a2), (0, min a3 v9), (0, wr (a4 + 1))] [] m7 (qI K))) ∧ (¬ a4 < (m (a1 + 27) a2) → K a3 m)) : X 125 18 [(1, a0), (1, a1), (0, a2), (0, a3), (0, a4)] [] m (qI K) := by
  refine x_s (q := (.iload 4, 0, 0, 0)) (cod_125 rfl) rfl rfl rfl ?_
  refine x_aldn (cod_125 rfl) rfl (pos_of ta1 (by decide)) ?_
  refine x_gc (kk := 6) (c := (a1 + 27)) (t := 1) (cod_125 rfl) ta1 (sq_c_0_6 ta1) rfl rfl ?_
  refine x_s (q := (.iload_n 2, 0, 0, 0)) (cod_125 rfl) rfl rfl rfl ?_
  obtain ⟨c1, H2⟩ := H
  refine x_iald (cod_125 rfl) (sq_ac_0_6 ta1).s ((sq_ac_0_6 ta1).k c1.1 c1.2) ?_
  refine x_ic (p := ¬ a4 < (m (a1 + 27) a2)) (tgt := 59) (cod_125 rfl) (by decide) xn_ge (fun h => ?_) (fun h => ?_)
  · have H3 := H2.2 h
    refine x_s (q := (.iload_n 3, 0, 0, 0)) (cod_125 rfl) rfl rfl rfl ?_
    refine x_retI (t := .int) (cod_125 rfl) rfl rfl rfl ?_
    exact H3
  · have H4 := H2.1 (Classical.not_not.mp h)
    refine x_s (q := (.iload 4, 0, 0, 0)) (cod_125 rfl) rfl rfl rfl ?_
    refine x_aldn (cod_125 rfl) rfl (pos_of ta0 (by decide)) ?_
    refine x_gc (kk := 0) (c := (a0 + 1)) (t := 1) (cod_125 rfl) ta0 (sq_c_6_0 ta0) rfl rfl ?_
    refine x_s (q := (.iload_n 2, 0, 0, 0)) (cod_125 rfl) rfl rfl rfl ?_
    refine x_iald (cod_125 rfl) (sq_ac_6_0 ta0).s ((sq_ac_6_0 ta0).k c1.1 c1.2) ?_
    refine x_ic (p := a4 = (m (a0 + 1) a2)) (tgt := 53) (cod_125 rfl) (by decide) xj_eq (fun h => ?_) (fun h => ?_)
    · have H5 := H4.1 h
      refine x_s (q := (.iinc 4 1, 0, 0, 0)) (cod_125 rfl) rfl rfl rfl ?_
      refine x_go (tgt := 18) (cod_125 rfl) (by decide) ?_
      exact H5
    · have H6 := H4.2 h
      refine x_s (q := (.iload_n 3, 0, 0, 0)) (cod_125 rfl) rfl rfl rfl ?_
      refine x_aldn (cod_125 rfl) rfl (pos_of ta0 (by decide)) ?_
      refine x_aldn (cod_125 rfl) rfl (pos_of ta1 (by decide)) ?_
      refine x_s (q := (.iload_n 2, 0, 0, 0)) (cod_125 rfl) rfl rfl rfl ?_
      refine x_s (q := (.iload 4, 0, 0, 0)) (cod_125 rfl) rfl rfl rfl ?_
      refine x_call (as := [(1, a0), (1, a1), (0, a2), (0, a4)]) (rest := [(0, a3)]) (cod_125 rfl) rfl rfl (by decide) (by decide) rfl rfl (Nat.le_of_ble_eq_true rfl) (rcv0 (sq_c_6_0 ta0) ta0 (by decide)) (Nat.le_of_ble_eq_true rfl) ?_
      refine X.imp H6 ?_
      rintro _ m7 ⟨v9, rfl, H8⟩
      show X 125 49 [(1, a0), (1, a1), (0, a2), (0, a3), (0, a4)] [(0, v9), (0, a3)] m7 _
      refine x_m7 (cod_125 rfl) rfl rfl (Nat.le_of_ble_eq_true rfl) ?_
      refine x_s (q := (.istore_n 3, 0, 0, 0)) (cod_125 rfl) rfl rfl rfl ?_
      refine x_s (q := (.iinc 4 1, 0, 0, 0)) (cod_125 rfl) rfl rfl rfl ?_
      refine x_go (tgt := 18) (cod_125 rfl) (by decide) ?_
      exact H8
set_option maxRecDepth 100000 in
theorem w126_0 {m : Mm} {K : Int → Mm → Prop}  
  (H : TrV 76 [(1, 1)] m fun m1 => X 126 10 [(1, 1), (0, 1000000), (0, 0)] [] m1 (qI K)) : X 126 0 [(1, 1), (9, 0), (9, 0)] [] m (qI K) := by
  refine x_s (q := (.aload_n 0, 0, 0, 0)) (cod_126 rfl) rfl rfl rfl ?_
  refine x_call (as := [(1, 1)]) (rest := []) (cod_126 rfl) rfl rfl (by decide) (by decide) rfl rfl (Nat.le_of_ble_eq_true rfl) (rcv0 sq_l_1_0 sq_p_1 (by decide)) (Nat.le_of_ble_eq_true rfl) ?_
  refine X.imp H ?_
  rintro _ m1 ⟨rfl, H2⟩
  show X 126 4 [(1, 1), (9, 0), (9, 0)] [] m1 _
  refine x_s (q := (.ldc_w 279, 1000000, 0, 0)) (cod_126 rfl) rfl rfl rfl ?_
  refine x_s (q := (.istore_n 1, 0, 0, 0)) (cod_126 rfl) rfl rfl rfl ?_
  refine x_s (q := (.iconst 0, 0, 0, 0)) (cod_126 rfl) rfl rfl rfl ?_
  refine x_s (q := (.istore_n 2, 0, 0, 0)) (cod_126 rfl) rfl rfl rfl ?_
  exact H2
theorem e126 {m : Mm} {K : Int → Mm → Prop}  
  (H : TrV 76 [(1, 1)] m fun m1 => X 126 10 [(1, 1), (0, 1000000), (0, 0)] [] m1 (qI K)) : TrI 126 [(1, 1)] m K := by
  exact w126_0  H
set_option maxRecDepth 100000 in
theorem w126_10 {m : Mm} {K : Int → Mm → Prop} (a1 : Int) (a2 : Int) 
  (H : shp (m 1 5) = 24 ∧ (a2 < (m (m 1 5) 4) → TrI 125 [(1, 511), (1, 411), (0, a2)] m fun v7 m5 => X 126 10 [(1, 1), (0, min a1 v7), (0, wr (a2 + 1))] [] m5 (qI K)) ∧ (¬ a2 < (m (m 1 5) 4) → K (if a1 < 1000000 then a1 else -2) m)) : X 126 10 [(1, 1), (0, a1), (0, a2)] [] m (qI K) := by
  refine x_s (q := (.iload_n 2, 0, 0, 0)) (cod_126 rfl) rfl rfl rfl ?_
  refine x_s (q := (.aload_n 0, 0, 0, 0)) (cod_126 rfl) rfl rfl rfl ?_
  refine x_gf (kk := 5) (t := 1) (cod_126 rfl) sq_p_1 sq_l_1_5 rfl rfl ?_
  obtain ⟨c1, H2⟩ := H
  refine x_gf (kk := 4) (t := 0) (cod_126 rfl) c1 (sq_c_4_4 c1) rfl rfl ?_
  refine x_ic (p := ¬ a2 < (m (m 1 5) 4)) (tgt := 44) (cod_126 rfl) (by decide) xn_ge (fun h => ?_) (fun h => ?_)
  · have H3 := H2.2 h
    refine x_s (q := (.iload_n 1, 0, 0, 0)) (cod_126 rfl) rfl rfl rfl ?_
    refine x_call (as := [(0, a1)]) (rest := []) (cod_126 rfl) rfl rfl (by decide) (by decide) rfl rfl (Nat.le_of_ble_eq_true rfl) rfl (Nat.le_of_ble_eq_true rfl) ?_
    refine x_pure (p105) ?_
    show X 126 48 [(1, 1), (0, a1), (0, a2)] [(0, if a1 < 1000000 then a1 else -2)] m _
    refine x_retI (t := .int) (cod_126 rfl) rfl rfl rfl ?_
    exact H3
  · have H4 := H2.1 (Classical.not_not.mp h)
    refine x_s (q := (.iload_n 1, 0, 0, 0)) (cod_126 rfl) rfl rfl rfl ?_
    refine x_s (q := (.aload_n 0, 0, 0, 0)) (cod_126 rfl) rfl rfl rfl ?_
    refine x_gc (kk := 12) (c := 511) (t := 1) (cod_126 rfl) sq_p_1 sq_l_1_12 rfl rfl ?_
    refine x_s (q := (.aload_n 0, 0, 0, 0)) (cod_126 rfl) rfl rfl rfl ?_
    refine x_gc (kk := 10) (c := 411) (t := 1) (cod_126 rfl) sq_p_1 sq_l_1_10 rfl rfl ?_
    refine x_s (q := (.iload_n 2, 0, 0, 0)) (cod_126 rfl) rfl rfl rfl ?_
    refine x_call (as := [(1, 511), (1, 411), (0, a2)]) (rest := [(0, a1)]) (cod_126 rfl) rfl rfl (by decide) (by decide) rfl rfl (Nat.le_of_ble_eq_true rfl) (rcv0 sq_l_511_0 sq_p_511 (by decide)) (Nat.le_of_ble_eq_true rfl) ?_
    refine X.imp H4 ?_
    rintro _ m5 ⟨v7, rfl, H6⟩
    show X 126 34 [(1, 1), (0, a1), (0, a2)] [(0, v7), (0, a1)] m5 _
    refine x_m7 (cod_126 rfl) rfl rfl (Nat.le_of_ble_eq_true rfl) ?_
    refine x_s (q := (.istore_n 1, 0, 0, 0)) (cod_126 rfl) rfl rfl rfl ?_
    refine x_s (q := (.iinc 2 1, 0, 0, 0)) (cod_126 rfl) rfl rfl rfl ?_
    refine x_go (tgt := 10) (cod_126 rfl) (by decide) ?_
    exact H6
set_option maxRecDepth 100000 in
theorem w127_0 {m : Mm} {K : Int → Mm → Prop}  
  (H : TrV 76 [(1, 1)] m fun m1 => ((m1 511 1) < 1000000 → X 127 24 [(1, 1), (0, 0), (0, 0)] [] m1 (qI K)) ∧ (¬ (m1 511 1) < 1000000 → K (-2) m1)) : X 127 0 [(1, 1), (9, 0), (9, 0)] [] m (qI K) := by
  refine x_s (q := (.aload_n 0, 0, 0, 0)) (cod_127 rfl) rfl rfl rfl ?_
  refine x_call (as := [(1, 1)]) (rest := []) (cod_127 rfl) rfl rfl (by decide) (by decide) rfl rfl (Nat.le_of_ble_eq_true rfl) (rcv0 sq_l_1_0 sq_p_1 (by decide)) (Nat.le_of_ble_eq_true rfl) ?_
  refine X.imp H ?_
  rintro _ m1 ⟨rfl, H2⟩
  show X 127 4 [(1, 1), (9, 0), (9, 0)] [] m1 _
  refine x_s (q := (.aload_n 0, 0, 0, 0)) (cod_127 rfl) rfl rfl rfl ?_
  refine x_gc (kk := 12) (c := 511) (t := 1) (cod_127 rfl) sq_p_1 sq_l_1_12 rfl rfl ?_
  refine x_gf (kk := 1) (t := 0) (cod_127 rfl) sq_p_511 sq_l_511_1 rfl rfl ?_
  refine x_s (q := (.ldc_w 279, 1000000, 0, 0)) (cod_127 rfl) rfl rfl rfl ?_
  refine x_ic (p := (m1 511 1) < 1000000) (tgt := 20) (cod_127 rfl) (by decide) xj_lt (fun h => ?_) (fun h => ?_)
  · have H3 := H2.1 h
    refine x_s (q := (.iconst 0, 0, 0, 0)) (cod_127 rfl) rfl rfl rfl ?_
    refine x_s (q := (.istore_n 1, 0, 0, 0)) (cod_127 rfl) rfl rfl rfl ?_
    refine x_s (q := (.iconst 0, 0, 0, 0)) (cod_127 rfl) rfl rfl rfl ?_
    refine x_s (q := (.istore_n 2, 0, 0, 0)) (cod_127 rfl) rfl rfl rfl ?_
    exact H3
  · have H4 := H2.2 h
    refine x_s (q := (.bipush (-2), 0, 0, 0)) (cod_127 rfl) rfl rfl rfl ?_
    refine x_retI (t := .int) (cod_127 rfl) rfl rfl rfl ?_
    exact H4
theorem e127 {m : Mm} {K : Int → Mm → Prop}  
  (H : TrV 76 [(1, 1)] m fun m1 => ((m1 511 1) < 1000000 → X 127 24 [(1, 1), (0, 0), (0, 0)] [] m1 (qI K)) ∧ (¬ (m1 511 1) < 1000000 → K (-2) m1)) : TrI 127 [(1, 1)] m K := by
  exact w127_0  H
set_option maxRecDepth 100000 in
theorem w127_24 {m : Mm} {K : Int → Mm → Prop} (a1 : Int) (a2 : Int) 
  (H : shp (m 1 5) = 24 ∧ (a2 < (m (m 1 5) 4) → TrI 125 [(1, 511), (1, 411), (0, a2)] m fun v7 m5 => (v7 > (m5 511 1) → X 127 24 [(1, 1), (0, ior a1 (ishl 1 a2)), (0, wr (a2 + 1))] [] m5 (qI K)) ∧ (¬ v7 > (m5 511 1) → X 127 24 [(1, 1), (0, a1), (0, wr (a2 + 1))] [] m5 (qI K))) ∧ (¬ a2 < (m (m 1 5) 4) → K a1 m)) : X 127 24 [(1, 1), (0, a1), (0, a2)] [] m (qI K) := by
  refine x_s (q := (.iload_n 2, 0, 0, 0)) (cod_127 rfl) rfl rfl rfl ?_
  refine x_s (q := (.aload_n 0, 0, 0, 0)) (cod_127 rfl) rfl rfl rfl ?_
  refine x_gf (kk := 5) (t := 1) (cod_127 rfl) sq_p_1 sq_l_1_5 rfl rfl ?_
  obtain ⟨c1, H2⟩ := H
  refine x_gf (kk := 4) (t := 0) (cod_127 rfl) c1 (sq_c_4_4 c1) rfl rfl ?_
  refine x_ic (p := ¬ a2 < (m (m 1 5) 4)) (tgt := 69) (cod_127 rfl) (by decide) xn_ge (fun h => ?_) (fun h => ?_)
  · have H3 := H2.2 h
    refine x_s (q := (.iload_n 1, 0, 0, 0)) (cod_127 rfl) rfl rfl rfl ?_
    refine x_retI (t := .int) (cod_127 rfl) rfl rfl rfl ?_
    exact H3
  · have H4 := H2.1 (Classical.not_not.mp h)
    refine x_s (q := (.aload_n 0, 0, 0, 0)) (cod_127 rfl) rfl rfl rfl ?_
    refine x_gc (kk := 12) (c := 511) (t := 1) (cod_127 rfl) sq_p_1 sq_l_1_12 rfl rfl ?_
    refine x_s (q := (.aload_n 0, 0, 0, 0)) (cod_127 rfl) rfl rfl rfl ?_
    refine x_gc (kk := 10) (c := 411) (t := 1) (cod_127 rfl) sq_p_1 sq_l_1_10 rfl rfl ?_
    refine x_s (q := (.iload_n 2, 0, 0, 0)) (cod_127 rfl) rfl rfl rfl ?_
    refine x_call (as := [(1, 511), (1, 411), (0, a2)]) (rest := []) (cod_127 rfl) rfl rfl (by decide) (by decide) rfl rfl (Nat.le_of_ble_eq_true rfl) (rcv0 sq_l_511_0 sq_p_511 (by decide)) (Nat.le_of_ble_eq_true rfl) ?_
    refine X.imp H4 ?_
    rintro _ m5 ⟨v7, rfl, H6⟩
    show X 127 47 [(1, 1), (0, a1), (0, a2)] [(0, v7)] m5 _
    refine x_s (q := (.aload_n 0, 0, 0, 0)) (cod_127 rfl) rfl rfl rfl ?_
    refine x_gc (kk := 12) (c := 511) (t := 1) (cod_127 rfl) sq_p_1 sq_l_1_12 rfl rfl ?_
    refine x_gf (kk := 1) (t := 0) (cod_127 rfl) sq_p_511 sq_l_511_1 rfl rfl ?_
    refine x_ic (p := ¬ v7 > (m5 511 1)) (tgt := 63) (cod_127 rfl) (by decide) xn_le (fun h => ?_) (fun h => ?_)
    · have H8 := H6.2 h
      refine x_s (q := (.iinc 2 1, 0, 0, 0)) (cod_127 rfl) rfl rfl rfl ?_
      refine x_go (tgt := 24) (cod_127 rfl) (by decide) ?_
      exact H8
    · have H9 := H6.1 (Classical.not_not.mp h)
      refine x_s (q := (.iload_n 1, 0, 0, 0)) (cod_127 rfl) rfl rfl rfl ?_
      refine x_s (q := (.iconst 1, 0, 0, 0)) (cod_127 rfl) rfl rfl rfl ?_
      refine x_s (q := (.iload_n 2, 0, 0, 0)) (cod_127 rfl) rfl rfl rfl ?_
      refine x_s (q := (.ishl, 0, 0, 0)) (cod_127 rfl) rfl rfl rfl ?_
      show X 127 61 [(1, 1), (0, a1), (0, a2)] [(0, ishl 1 a2), (0, a1)] m5 _
      refine x_s (q := (.ior, 0, 0, 0)) (cod_127 rfl) rfl rfl rfl ?_
      show X 127 62 [(1, 1), (0, a1), (0, a2)] [(0, ior a1 (ishl 1 a2))] m5 _
      refine x_s (q := (.istore_n 1, 0, 0, 0)) (cod_127 rfl) rfl rfl rfl ?_
      refine x_s (q := (.iinc 2 1, 0, 0, 0)) (cod_127 rfl) rfl rfl rfl ?_
      refine x_go (tgt := 24) (cod_127 rfl) (by decide) ?_
      exact H9
set_option maxRecDepth 100000 in
theorem w128_0 {m : Mm} {K : Int → Mm → Prop} (a1 : Int) 
  (H : shp (m 1 3) = 30 ∧ ((0 ≤ a1 ∧ a1 < m (m 1 3) 5) → TrV 76 [(1, 1)] m fun m5 => TrV 77 [(1, 370), (1, (m5 1 3)), (1, 280), (0, a1)] m5 fun m7 => TrV 79 [(1, 461), (1, (m7 1 3)), (1, (m7 1 5)), (1, 370), (1, 595)] m7 fun m9 => TrV 96 [(1, 546), (1, (m9 1 3)), (1, 461), (1, 283)] m9 fun m11 => K (if (m11 546 1) < 1000000 then (m11 546 1) else -2) m11) ∧ (¬ (0 ≤ a1 ∧ a1 < m (m 1 3) 5) → K (-1) m)) : X 128 0 [(1, 1), (0, a1)] [] m (qI K) := by
  refine x_s (q := (.aload_n 0, 0, 0, 0)) (cod_128 rfl) rfl rfl rfl ?_
  refine x_s (q := (.iload_n 1, 0, 0, 0)) (cod_128 rfl) rfl rfl rfl ?_
  obtain ⟨c1, H2⟩ := H
  refine x_call (as := [(1, 1), (0, a1)]) (rest := []) (cod_128 rfl) rfl rfl (by decide) (by decide) rfl rfl (Nat.le_of_ble_eq_true rfl) (rcv0 sq_l_1_0 sq_p_1 (by decide)) (Nat.le_of_ble_eq_true rfl) ?_
  refine x_pure (p70 c1) ?_
  show X 128 5 [(1, 1), (0, a1)] [(0, bi (0 ≤ a1 ∧ a1 < m (m 1 3) 5))] m _
  refine x_if (p := 0 ≤ a1 ∧ a1 < m (m 1 3) 5) (tgt := 10) (cod_128 rfl) (by decide) xb_ne (fun h => ?_) (fun h => ?_)
  · have H3 := H2.1 h
    refine x_s (q := (.aload_n 0, 0, 0, 0)) (cod_128 rfl) rfl rfl rfl ?_
    refine x_call (as := [(1, 1)]) (rest := []) (cod_128 rfl) rfl rfl (by decide) (by decide) rfl rfl (Nat.le_of_ble_eq_true rfl) (rcv0 sq_l_1_0 sq_p_1 (by decide)) (Nat.le_of_ble_eq_true rfl) ?_
    refine X.imp H3 ?_
    rintro _ m5 ⟨rfl, H6⟩
    show X 128 14 [(1, 1), (0, a1)] [] m5 _
    refine x_s (q := (.aload_n 0, 0, 0, 0)) (cod_128 rfl) rfl rfl rfl ?_
    refine x_gc (kk := 9) (c := 370) (t := 1) (cod_128 rfl) sq_p_1 sq_l_1_9 rfl rfl ?_
    refine x_s (q := (.aload_n 0, 0, 0, 0)) (cod_128 rfl) rfl rfl rfl ?_
    refine x_gf (kk := 3) (t := 1) (cod_128 rfl) sq_p_1 sq_l_1_3 rfl rfl ?_
    refine x_s (q := (.aload_n 0, 0, 0, 0)) (cod_128 rfl) rfl rfl rfl ?_
    refine x_gc (kk := 7) (c := 280) (t := 1) (cod_128 rfl) sq_p_1 sq_l_1_7 rfl rfl ?_
    refine x_s (q := (.iload_n 1, 0, 0, 0)) (cod_128 rfl) rfl rfl rfl ?_
    refine x_call (as := [(1, 370), (1, (m5 1 3)), (1, 280), (0, a1)]) (rest := []) (cod_128 rfl) rfl rfl (by decide) (by decide) rfl rfl (Nat.le_of_ble_eq_true rfl) (rcv0 sq_l_370_0 sq_p_370 (by decide)) (Nat.le_of_ble_eq_true rfl) ?_
    refine X.imp H6 ?_
    rintro _ m7 ⟨rfl, H8⟩
    show X 128 30 [(1, 1), (0, a1)] [] m7 _
    refine x_s (q := (.aload_n 0, 0, 0, 0)) (cod_128 rfl) rfl rfl rfl ?_
    refine x_gc (kk := 11) (c := 461) (t := 1) (cod_128 rfl) sq_p_1 sq_l_1_11 rfl rfl ?_
    refine x_s (q := (.aload_n 0, 0, 0, 0)) (cod_128 rfl) rfl rfl rfl ?_
    refine x_gf (kk := 3) (t := 1) (cod_128 rfl) sq_p_1 sq_l_1_3 rfl rfl ?_
    refine x_s (q := (.aload_n 0, 0, 0, 0)) (cod_128 rfl) rfl rfl rfl ?_
    refine x_gf (kk := 5) (t := 1) (cod_128 rfl) sq_p_1 sq_l_1_5 rfl rfl ?_
    refine x_s (q := (.aload_n 0, 0, 0, 0)) (cod_128 rfl) rfl rfl rfl ?_
    refine x_gc (kk := 9) (c := 370) (t := 1) (cod_128 rfl) sq_p_1 sq_l_1_9 rfl rfl ?_
    refine x_s (q := (.aload_n 0, 0, 0, 0)) (cod_128 rfl) rfl rfl rfl ?_
    refine x_gc (kk := 15) (c := 595) (t := 1) (cod_128 rfl) sq_p_1 sq_l_1_15 rfl rfl ?_
    refine x_call (as := [(1, 461), (1, (m7 1 3)), (1, (m7 1 5)), (1, 370), (1, 595)]) (rest := []) (cod_128 rfl) rfl rfl (by decide) (by decide) rfl rfl (Nat.le_of_ble_eq_true rfl) (rcv0 sq_l_461_0 sq_p_461 (by decide)) (Nat.le_of_ble_eq_true rfl) ?_
    refine X.imp H8 ?_
    rintro _ m9 ⟨rfl, H10⟩
    show X 128 53 [(1, 1), (0, a1)] [] m9 _
    refine x_s (q := (.aload_n 0, 0, 0, 0)) (cod_128 rfl) rfl rfl rfl ?_
    refine x_gc (kk := 13) (c := 546) (t := 1) (cod_128 rfl) sq_p_1 sq_l_1_13 rfl rfl ?_
    refine x_s (q := (.aload_n 0, 0, 0, 0)) (cod_128 rfl) rfl rfl rfl ?_
    refine x_gf (kk := 3) (t := 1) (cod_128 rfl) sq_p_1 sq_l_1_3 rfl rfl ?_
    refine x_s (q := (.aload_n 0, 0, 0, 0)) (cod_128 rfl) rfl rfl rfl ?_
    refine x_gc (kk := 11) (c := 461) (t := 1) (cod_128 rfl) sq_p_1 sq_l_1_11 rfl rfl ?_
    refine x_s (q := (.aload_n 0, 0, 0, 0)) (cod_128 rfl) rfl rfl rfl ?_
    refine x_gc (kk := 7) (c := 280) (t := 1) (cod_128 rfl) sq_p_1 sq_l_1_7 rfl rfl ?_
    refine x_gc (kk := 2) (c := 283) (t := 1) (cod_128 rfl) sq_p_280 sq_l_280_2 rfl rfl ?_
    refine x_call (as := [(1, 546), (1, (m9 1 3)), (1, 461), (1, 283)]) (rest := []) (cod_128 rfl) rfl rfl (by decide) (by decide) rfl rfl (Nat.le_of_ble_eq_true rfl) (rcv0 sq_l_546_0 sq_p_546 (by decide)) (Nat.le_of_ble_eq_true rfl) ?_
    refine X.imp H10 ?_
    rintro _ m11 ⟨rfl, H12⟩
    show X 128 75 [(1, 1), (0, a1)] [] m11 _
    refine x_s (q := (.aload_n 0, 0, 0, 0)) (cod_128 rfl) rfl rfl rfl ?_
    refine x_gc (kk := 13) (c := 546) (t := 1) (cod_128 rfl) sq_p_1 sq_l_1_13 rfl rfl ?_
    refine x_gf (kk := 1) (t := 0) (cod_128 rfl) sq_p_546 sq_l_546_1 rfl rfl ?_
    refine x_call (as := [(0, m11 546 1)]) (rest := []) (cod_128 rfl) rfl rfl (by decide) (by decide) rfl rfl (Nat.le_of_ble_eq_true rfl) rfl (Nat.le_of_ble_eq_true rfl) ?_
    refine x_pure (p105) ?_
    show X 128 85 [(1, 1), (0, a1)] [(0, if (m11 546 1) < 1000000 then (m11 546 1) else -2)] m11 _
    refine x_retI (t := .int) (cod_128 rfl) rfl rfl rfl ?_
    exact H12
  · have H4 := H2.2 h
    refine x_s (q := (.iconst (-1), 0, 0, 0)) (cod_128 rfl) rfl rfl rfl ?_
    refine x_retI (t := .int) (cod_128 rfl) rfl rfl rfl ?_
    exact H4
theorem e128 {m : Mm} {K : Int → Mm → Prop} (a1 : Int) 
  (H : shp (m 1 3) = 30 ∧ ((0 ≤ a1 ∧ a1 < m (m 1 3) 5) → TrV 76 [(1, 1)] m fun m5 => TrV 77 [(1, 370), (1, (m5 1 3)), (1, 280), (0, a1)] m5 fun m7 => TrV 79 [(1, 461), (1, (m7 1 3)), (1, (m7 1 5)), (1, 370), (1, 595)] m7 fun m9 => TrV 96 [(1, 546), (1, (m9 1 3)), (1, 461), (1, 283)] m9 fun m11 => K (if (m11 546 1) < 1000000 then (m11 546 1) else -2) m11) ∧ (¬ (0 ≤ a1 ∧ a1 < m (m 1 3) 5) → K (-1) m)) : TrI 128 [(1, 1), (0, a1)] m K := by
  exact w128_0 a1 H
set_option maxRecDepth 100000 in
theorem w129_0 {m : Mm} {K : Int → Mm → Prop} (a1 : Int) 
  (H : shp (m 1 3) = 30 ∧ ((0 ≤ a1 ∧ a1 < m (m 1 3) 6) → TrV 130 [(1, 581), (1, (m 1 3)), (0, a1)] m fun m5 => K (m5 581 1) m5) ∧ (¬ (0 ≤ a1 ∧ a1 < m (m 1 3) 6) → K (-1) m)) : X 129 0 [(1, 1), (0, a1)] [] m (qI K) := by
  refine x_s (q := (.aload_n 0, 0, 0, 0)) (cod_129 rfl) rfl rfl rfl ?_
  refine x_s (q := (.iload_n 1, 0, 0, 0)) (cod_129 rfl) rfl rfl rfl ?_
  obtain ⟨c1, H2⟩ := H
  refine x_call (as := [(1, 1), (0, a1)]) (rest := []) (cod_129 rfl) rfl rfl (by decide) (by decide) rfl rfl (Nat.le_of_ble_eq_true rfl) (rcv0 sq_l_1_0 sq_p_1 (by decide)) (Nat.le_of_ble_eq_true rfl) ?_
  refine x_pure (p68 c1) ?_
  show X 129 5 [(1, 1), (0, a1)] [(0, bi (0 ≤ a1 ∧ a1 < m (m 1 3) 6))] m _
  refine x_if (p := 0 ≤ a1 ∧ a1 < m (m 1 3) 6) (tgt := 10) (cod_129 rfl) (by decide) xb_ne (fun h => ?_) (fun h => ?_)
  · have H3 := H2.1 h
    refine x_s (q := (.aload_n 0, 0, 0, 0)) (cod_129 rfl) rfl rfl rfl ?_
    refine x_gc (kk := 14) (c := 581) (t := 1) (cod_129 rfl) sq_p_1 sq_l_1_14 rfl rfl ?_
    refine x_s (q := (.aload_n 0, 0, 0, 0)) (cod_129 rfl) rfl rfl rfl ?_
    refine x_gf (kk := 3) (t := 1) (cod_129 rfl) sq_p_1 sq_l_1_3 rfl rfl ?_
    refine x_s (q := (.iload_n 1, 0, 0, 0)) (cod_129 rfl) rfl rfl rfl ?_
    refine x_call (as := [(1, 581), (1, (m 1 3)), (0, a1)]) (rest := []) (cod_129 rfl) rfl rfl (by decide) (by decide) rfl rfl (Nat.le_of_ble_eq_true rfl) (rcv0 sq_l_581_0 sq_p_581 (by decide)) (Nat.le_of_ble_eq_true rfl) ?_
    refine X.imp H3 ?_
    rintro _ m5 ⟨rfl, H6⟩
    show X 129 22 [(1, 1), (0, a1)] [] m5 _
    refine x_s (q := (.aload_n 0, 0, 0, 0)) (cod_129 rfl) rfl rfl rfl ?_
    refine x_gc (kk := 14) (c := 581) (t := 1) (cod_129 rfl) sq_p_1 sq_l_1_14 rfl rfl ?_
    refine x_gf (kk := 1) (t := 0) (cod_129 rfl) sq_p_581 sq_l_581_1 rfl rfl ?_
    refine x_retI (t := .int) (cod_129 rfl) rfl rfl rfl ?_
    exact H6
  · have H4 := H2.2 h
    refine x_s (q := (.iconst (-1), 0, 0, 0)) (cod_129 rfl) rfl rfl rfl ?_
    refine x_retI (t := .int) (cod_129 rfl) rfl rfl rfl ?_
    exact H4
theorem e129 {m : Mm} {K : Int → Mm → Prop} (a1 : Int) 
  (H : shp (m 1 3) = 30 ∧ ((0 ≤ a1 ∧ a1 < m (m 1 3) 6) → TrV 130 [(1, 581), (1, (m 1 3)), (0, a1)] m fun m5 => K (m5 581 1) m5) ∧ (¬ (0 ≤ a1 ∧ a1 < m (m 1 3) 6) → K (-1) m)) : TrI 129 [(1, 1), (0, a1)] m K := by
  exact w129_0 a1 H
set_option maxRecDepth 100000 in
theorem w130_0 {m : Mm} {K : Mm → Prop} (a1 : Int) (a2 : Int) (ta1 : shp a1 = 30)
  (H : ((m 581 2) = a2 → K m) ∧ (¬ (m 581 2) = a2 → (0 ≤ a2 ∧ a2 < 24) ∧ ∀ m5, m5 = umem m 581 1 0 → TrV 131 [(1, 581), (1, a1), (1, (a1 + 54 + 2 * a2))] m5 fun m7 => X 130 27 [(1, 581), (1, a1), (0, a2), (1, (a1 + 54 + 2 * a2))] [] m7 (qV K))) : X 130 0 [(1, 581), (1, a1), (0, a2), (9, 0)] [] m (qV K) := by
  refine x_s (q := (.aload_n 0, 0, 0, 0)) (cod_130 rfl) rfl rfl rfl ?_
  refine x_gf (kk := 2) (t := 0) (cod_130 rfl) sq_p_581 sq_l_581_2 rfl rfl ?_
  refine x_s (q := (.iload_n 2, 0, 0, 0)) (cod_130 rfl) rfl rfl rfl ?_
  refine x_ic (p := ¬ (m 581 2) = a2) (tgt := 9) (cod_130 rfl) (by decide) xj_ne (fun h => ?_) (fun h => ?_)
  · have H1 := H.2 h
    refine x_aldn (cod_130 rfl) rfl (pos_of ta1 (by decide)) ?_
    refine x_gc (kk := 1) (c := (a1 + 2)) (t := 1) (cod_130 rfl) ta1 (sq_c_10_1 ta1) rfl rfl ?_
    refine x_s (q := (.iload_n 2, 0, 0, 0)) (cod_130 rfl) rfl rfl rfl ?_
    obtain ⟨c3, H4⟩ := H1
    refine x_aaldc (c := (a1 + 54 + 2 * a2)) (cod_130 rfl) (by rw [(sq_oa_10_1 (j := a2) ta1 c3.1 c3.2).2.1]; decide) (sq_oa_10_1 (j := a2) ta1 c3.1 c3.2).1 ?_
    refine x_astn (ls' := [(1, 581), (1, a1), (0, a2), (1, (a1 + 54 + 2 * a2))]) (cod_130 rfl) (pos_of (sq_oa_10_1 (j := a2) ta1 c3.1 c3.2).2.2 (by decide)) rfl rfl ?_
    refine x_s (q := (.aload_n 0, 0, 0, 0)) (cod_130 rfl) rfl rfl rfl ?_
    refine x_s (q := (.iconst 0, 0, 0, 0)) (cod_130 rfl) rfl rfl rfl ?_
    refine x_pf (kk := 1) (t := 0) (cod_130 rfl) sq_p_581 sq_l_581_1 rfl rfl rfl ?_
    have H6 := H4 _ rfl
    generalize umem m 581 1 0 = m5 at H6 ⊢
    refine x_s (q := (.aload_n 0, 0, 0, 0)) (cod_130 rfl) rfl rfl rfl ?_
    refine x_aldn (cod_130 rfl) rfl (pos_of ta1 (by decide)) ?_
    refine x_aldn (cod_130 rfl) rfl (pos_of (sq_oa_10_1 (j := a2) ta1 c3.1 c3.2).2.2 (by decide)) ?_
    refine x_call (as := [(1, 581), (1, a1), (1, (a1 + 54 + 2 * a2))]) (rest := []) (cod_130 rfl) rfl rfl (by decide) (by decide) rfl rfl (Nat.le_of_ble_eq_true rfl) (rcv0 sq_l_581_0 sq_p_581 (by decide)) (Nat.le_of_ble_eq_true rfl) ?_
    refine X.imp H6 ?_
    rintro _ m7 ⟨rfl, H8⟩
    show X 130 27 [(1, 581), (1, a1), (0, a2), (1, (a1 + 54 + 2 * a2))] [] m7 _
    exact H8
  · have H2 := H.1 (Classical.not_not.mp h)
    refine x_retV (cod_130 rfl) rfl ?_
    exact H2
theorem e130 {m : Mm} {K : Mm → Prop} (a1 : Int) (a2 : Int) (ta1 : shp a1 = 30)
  (H : ((m 581 2) = a2 → K m) ∧ (¬ (m 581 2) = a2 → (0 ≤ a2 ∧ a2 < 24) ∧ ∀ m5, m5 = umem m 581 1 0 → TrV 131 [(1, 581), (1, a1), (1, (a1 + 54 + 2 * a2))] m5 fun m7 => X 130 27 [(1, 581), (1, a1), (0, a2), (1, (a1 + 54 + 2 * a2))] [] m7 (qV K))) : TrV 130 [(1, 581), (1, a1), (0, a2)] m K := by
  exact w130_0 a1 a2 ta1 H
set_option maxRecDepth 100000 in
theorem w130_27 {m : Mm} {K : Mm → Prop} (a1 : Int) (a2 : Int) (a3 : Int) (ta1 : shp a1 = 30)
  (H : 1 ≤ a3 ∧ shp a3 = 21 ∧ ((m 581 1) < (m a3 1) → (0 ≤ (m 581 1) ∧ (m 581 1) < 9) ∧ ((m (584 + (m 581 1)) 0) = 0 → ∀ m19, m19 = umem m 581 1 (wr ((m 581 1) + 1)) → TrV 134 [(1, 581), (1, a1), (1, a3), (0, m19 581 1)] m19 fun m21 => X 130 27 [(1, 581), (1, a1), (0, a2), (1, a3)] [] m21 (qV K)) ∧ (¬ (m (584 + (m 581 1)) 0) = 0 → TrV 136 [(1, 581), (1, a1), (1, a3)] m fun m15 => ∀ m17, m17 = umem m15 581 2 a2 → K m17)) ∧ (¬ (m 581 1) < (m a3 1) → TrV 136 [(1, 581), (1, a1), (1, a3)] m fun m7 => ∀ m9, m9 = umem m7 581 2 a2 → K m9)) : X 130 27 [(1, 581), (1, a1), (0, a2), (1, a3)] [] m (qV K) := by
  refine x_s (q := (.aload_n 0, 0, 0, 0)) (cod_130 rfl) rfl rfl rfl ?_
  refine x_gf (kk := 1) (t := 0) (cod_130 rfl) sq_p_581 sq_l_581_1 rfl rfl ?_
  obtain ⟨c1, H2⟩ := H
  refine x_aldn (cod_130 rfl) rfl c1 ?_
  obtain ⟨c3, H4⟩ := H2
  refine x_gf (kk := 1) (t := 0) (cod_130 rfl) c3 (sq_c_1_1 c3) rfl rfl ?_
  refine x_ic (p := ¬ (m 581 1) < (m a3 1)) (tgt := 75) (cod_130 rfl) (by decide) xn_ge (fun h => ?_) (fun h => ?_)
  · have H5 := H4.2 h
    refine x_s (q := (.aload_n 0, 0, 0, 0)) (cod_130 rfl) rfl rfl rfl ?_
    refine x_aldn (cod_130 rfl) rfl (pos_of ta1 (by decide)) ?_
    refine x_aldn (cod_130 rfl) rfl (pos_of c3 (by decide)) ?_
    refine x_call (as := [(1, 581), (1, a1), (1, a3)]) (rest := []) (cod_130 rfl) rfl rfl (by decide) (by decide) rfl rfl (Nat.le_of_ble_eq_true rfl) (rcv0 sq_l_581_0 sq_p_581 (by decide)) (Nat.le_of_ble_eq_true rfl) ?_
    refine X.imp H5 ?_
    rintro _ m7 ⟨rfl, H8⟩
    show X 130 81 [(1, 581), (1, a1), (0, a2), (1, a3)] [] m7 _
    refine x_s (q := (.aload_n 0, 0, 0, 0)) (cod_130 rfl) rfl rfl rfl ?_
    refine x_s (q := (.iload_n 2, 0, 0, 0)) (cod_130 rfl) rfl rfl rfl ?_
    refine x_pf (kk := 2) (t := 0) (cod_130 rfl) sq_p_581 sq_l_581_2 rfl rfl rfl ?_
    have H10 := H8 _ rfl
    generalize umem m7 581 2 a2 = m9 at H10 ⊢
    refine x_retV (cod_130 rfl) rfl ?_
    exact H10
  · have H6 := H4.1 (Classical.not_not.mp h)
    refine x_s (q := (.aload_n 0, 0, 0, 0)) (cod_130 rfl) rfl rfl rfl ?_
    refine x_gc (kk := 3) (c := 583) (t := 1) (cod_130 rfl) sq_p_581 sq_l_581_3 rfl rfl ?_
    refine x_s (q := (.aload_n 0, 0, 0, 0)) (cod_130 rfl) rfl rfl rfl ?_
    refine x_gf (kk := 1) (t := 0) (cod_130 rfl) sq_p_581 sq_l_581_1 rfl rfl ?_
    obtain ⟨c11, H12⟩ := H6
    refine x_aaldc (c := (584 + (m 581 1))) (cod_130 rfl) (by rw [(sq_ro_583 (j := m 581 1) c11.1 c11.2).2]; decide) (sq_ro_583 (j := m 581 1) c11.1 c11.2).1 ?_
    refine x_s (q := (.iconst 0, 0, 0, 0)) (cod_130 rfl) rfl rfl rfl ?_
    refine x_iald (cod_130 rfl) (sq_rw_583 (j := m 581 1) c11.1 c11.2).s ((sq_rw_583 (j := m 581 1) c11.1 c11.2).k (by decide) (by decide)) ?_
    refine x_if (p := ¬ (m (584 + (m 581 1)) 0) = 0) (tgt := 75) (cod_130 rfl) (by decide) xj_ne (fun h => ?_) (fun h => ?_)
    · have H13 := H12.2 h
      refine x_s (q := (.aload_n 0, 0, 0, 0)) (cod_130 rfl) rfl rfl rfl ?_
      refine x_aldn (cod_130 rfl) rfl (pos_of ta1 (by decide)) ?_
      refine x_aldn (cod_130 rfl) rfl (pos_of c3 (by decide)) ?_
      refine x_call (as := [(1, 581), (1, a1), (1, a3)]) (rest := []) (cod_130 rfl) rfl rfl (by decide) (by decide) rfl rfl (Nat.le_of_ble_eq_true rfl) (rcv0 sq_l_581_0 sq_p_581 (by decide)) (Nat.le_of_ble_eq_true rfl) ?_
      refine X.imp H13 ?_
      rintro _ m15 ⟨rfl, H16⟩
      show X 130 81 [(1, 581), (1, a1), (0, a2), (1, a3)] [] m15 _
      refine x_s (q := (.aload_n 0, 0, 0, 0)) (cod_130 rfl) rfl rfl rfl ?_
      refine x_s (q := (.iload_n 2, 0, 0, 0)) (cod_130 rfl) rfl rfl rfl ?_
      refine x_pf (kk := 2) (t := 0) (cod_130 rfl) sq_p_581 sq_l_581_2 rfl rfl rfl ?_
      have H18 := H16 _ rfl
      generalize umem m15 581 2 a2 = m17 at H18 ⊢
      refine x_retV (cod_130 rfl) rfl ?_
      exact H18
    · have H14 := H12.1 (Classical.not_not.mp h)
      refine x_s (q := (.aload_n 0, 0, 0, 0)) (cod_130 rfl) rfl rfl rfl ?_
      refine x_s (q := (.dup, 0, 0, 0)) (cod_130 rfl) rfl rfl rfl ?_
      refine x_gf (kk := 1) (t := 0) (cod_130 rfl) sq_p_581 sq_l_581_1 rfl rfl ?_
      refine x_s (q := (.iconst 1, 0, 0, 0)) (cod_130 rfl) rfl rfl rfl ?_
      refine x_s (q := (.iadd, 0, 0, 0)) (cod_130 rfl) rfl rfl rfl ?_
      refine x_pf (kk := 1) (t := 0) (cod_130 rfl) sq_p_581 sq_l_581_1 rfl rfl rfl ?_
      have H20 := H14 _ rfl
      generalize umem m 581 1 (wr ((m 581 1) + 1)) = m19 at H20 ⊢
      refine x_s (q := (.aload_n 0, 0, 0, 0)) (cod_130 rfl) rfl rfl rfl ?_
      refine x_aldn (cod_130 rfl) rfl (pos_of ta1 (by decide)) ?_
      refine x_aldn (cod_130 rfl) rfl (pos_of c3 (by decide)) ?_
      refine x_s (q := (.aload_n 0, 0, 0, 0)) (cod_130 rfl) rfl rfl rfl ?_
      refine x_gf (kk := 1) (t := 0) (cod_130 rfl) sq_p_581 sq_l_581_1 rfl rfl ?_
      refine x_call (as := [(1, 581), (1, a1), (1, a3), (0, m19 581 1)]) (rest := []) (cod_130 rfl) rfl rfl (by decide) (by decide) rfl rfl (Nat.le_of_ble_eq_true rfl) (rcv0 sq_l_581_0 sq_p_581 (by decide)) (Nat.le_of_ble_eq_true rfl) ?_
      refine X.imp H20 ?_
      rintro _ m21 ⟨rfl, H22⟩
      show X 130 72 [(1, 581), (1, a1), (0, a2), (1, a3)] [] m21 _
      refine x_go (tgt := 27) (cod_130 rfl) (by decide) ?_
      exact H22
set_option maxRecDepth 100000 in
theorem w131_0 {m : Mm} {K : Mm → Prop} (a1 : Int) (a2 : Int) (ta1 : shp a1 = 30) (ta2 : shp a2 = 21)
  (H : X 131 2 [(1, 581), (1, a1), (1, a2), (0, 0), (9, 0), (9, 0)] [] m (qV K)) : X 131 0 [(1, 581), (1, a1), (1, a2), (9, 0), (9, 0), (9, 0)] [] m (qV K) := by
  refine x_s (q := (.iconst 0, 0, 0, 0)) (cod_131 rfl) rfl rfl rfl ?_
  refine x_s (q := (.istore_n 3, 0, 0, 0)) (cod_131 rfl) rfl rfl rfl ?_
  exact H
theorem e131 {m : Mm} {K : Mm → Prop} (a1 : Int) (a2 : Int) (ta1 : shp a1 = 30) (ta2 : shp a2 = 21)
  (H : X 131 2 [(1, 581), (1, a1), (1, a2), (0, 0), (9, 0), (9, 0)] [] m (qV K)) : TrV 131 [(1, 581), (1, a1), (1, a2)] m K := by
  exact w131_0 a1 a2 ta1 ta2 H
set_option maxRecDepth 100000 in
theorem w131_2 {m : Mm} {K : Mm → Prop} (a1 : Int) (a2 : Int) (a3 : Int) (ua4 : aV) (ua5 : aV) (ta1 : shp a1 = 30) (ta2 : shp a2 = 21)
  (H : (a3 > (m a2 1) → K m) ∧ (¬ a3 > (m a2 1) → X 131 13 [(1, 581), (1, a1), (1, a2), (0, a3), (0, 0), ua5] [] m (qV K))) : X 131 2 [(1, 581), (1, a1), (1, a2), (0, a3), ua4, ua5] [] m (qV K) := by
  refine x_s (q := (.iload_n 3, 0, 0, 0)) (cod_131 rfl) rfl rfl rfl ?_
  refine x_aldn (cod_131 rfl) rfl (pos_of ta2 (by decide)) ?_
  refine x_gf (kk := 1) (t := 0) (cod_131 rfl) ta2 (sq_c_1_1 ta2) rfl rfl ?_
  refine x_ic (p := a3 > (m a2 1)) (tgt := 86) (cod_131 rfl) (by decide) xj_gt (fun h => ?_) (fun h => ?_)
  · have H1 := H.1 h
    refine x_retV (cod_131 rfl) rfl ?_
    exact H1
  · have H2 := H.2 h
    refine x_s (q := (.iconst 0, 0, 0, 0)) (cod_131 rfl) rfl rfl rfl ?_
    refine x_s (q := (.istore 4, 0, 0, 0)) (cod_131 rfl) rfl rfl rfl ?_
    exact H2
set_option maxRecDepth 100000 in
theorem w131_13 {m : Mm} {K : Mm → Prop} (a1 : Int) (a2 : Int) (a3 : Int) (a4 : Int) (ua5 : aV) (ta1 : shp a1 = 30) (ta2 : shp a2 = 21)
  (H : (a4 > (m a1 5) → X 131 2 [(1, 581), (1, a1), (1, a2), (0, wr (a3 + 1)), (0, a4), ua5] [] m (qV K)) ∧ (¬ a4 > (m a1 5) → (a3 = (m a2 1) → (shp a1 = 30 ∧ 0 ≤ a4 ∧ a4 ≤ 24) ∧ ((iand (ishr (ahd m a1 a4) 0) 1 = 1) → X 131 48 [(1, 581), (1, a1), (1, a2), (0, a3), (0, a4), ua5] [(0, 1)] m (qV K)) ∧ (¬ (iand (ishr (ahd m a1 a4) 0) 1 = 1) → X 131 48 [(1, 581), (1, a1), (1, a2), (0, a3), (0, a4), ua5] [(0, 0)] m (qV K))) ∧ (¬ a3 = (m a2 1) → X 131 48 [(1, 581), (1, a1), (1, a2), (0, a3), (0, a4), ua5] [(0, 0)] m (qV K)))) : X 131 13 [(1, 581), (1, a1), (1, a2), (0, a3), (0, a4), ua5] [] m (qV K) := by
  refine x_s (q := (.iload 4, 0, 0, 0)) (cod_131 rfl) rfl rfl rfl ?_
  refine x_aldn (cod_131 rfl) rfl (pos_of ta1 (by decide)) ?_
  refine x_gf (kk := 5) (t := 0) (cod_131 rfl) ta1 (sq_c_10_5 ta1) rfl rfl ?_
  refine x_ic (p := a4 > (m a1 5)) (tgt := 80) (cod_131 rfl) (by decide) xj_gt (fun h => ?_) (fun h => ?_)
  · have H1 := H.1 h
    refine x_s (q := (.iinc 3 1, 0, 0, 0)) (cod_131 rfl) rfl rfl rfl ?_
    refine x_go (tgt := 2) (cod_131 rfl) (by decide) ?_
    exact H1
  · have H2 := H.2 h
    refine x_s (q := (.iload_n 3, 0, 0, 0)) (cod_131 rfl) rfl rfl rfl ?_
    refine x_aldn (cod_131 rfl) rfl (pos_of ta2 (by decide)) ?_
    refine x_gf (kk := 1) (t := 0) (cod_131 rfl) ta2 (sq_c_1_1 ta2) rfl rfl ?_
    refine x_ic (p := ¬ a3 = (m a2 1)) (tgt := 47) (cod_131 rfl) (by decide) xj_ne (fun h => ?_) (fun h => ?_)
    · have H3 := H2.2 h
      refine x_s (q := (.iconst 0, 0, 0, 0)) (cod_131 rfl) rfl rfl rfl ?_
      exact H3
    · have H4 := H2.1 (Classical.not_not.mp h)
      refine x_aldn (cod_131 rfl) rfl (pos_of ta1 (by decide)) ?_
      refine x_s (q := (.iload 4, 0, 0, 0)) (cod_131 rfl) rfl rfl rfl ?_
      obtain ⟨c5, H6⟩ := H4
      refine x_call (as := [(1, a1), (0, a4)]) (rest := []) (cod_131 rfl) rfl rfl (by decide) (by decide) rfl rfl (Nat.le_of_ble_eq_true rfl) rfl (Nat.le_of_ble_eq_true rfl) ?_
      refine x_pure (p132 c5) ?_
      show X 131 36 [(1, 581), (1, a1), (1, a2), (0, a3), (0, a4), ua5] [(0, ahd m a1 a4)] m _
      refine x_s (q := (.iconst 0, 0, 0, 0)) (cod_131 rfl) rfl rfl rfl ?_
      refine x_call (as := [(0, ahd m a1 a4), (0, 0)]) (rest := []) (cod_131 rfl) rfl rfl (by decide) (by decide) rfl rfl (Nat.le_of_ble_eq_true rfl) rfl (Nat.le_of_ble_eq_true rfl) ?_
      refine x_pure (p133) ?_
      show X 131 40 [(1, 581), (1, a1), (1, a2), (0, a3), (0, a4), ua5] [(0, bi (iand (ishr (ahd m a1 a4) 0) 1 = 1))] m _
      refine x_if (p := ¬ (iand (ishr (ahd m a1 a4) 0) 1 = 1)) (tgt := 47) (cod_131 rfl) (by decide) xb_eq (fun h => ?_) (fun h => ?_)
      · have H7 := H6.2 h
        refine x_s (q := (.iconst 0, 0, 0, 0)) (cod_131 rfl) rfl rfl rfl ?_
        exact H7
      · have H8 := H6.1 (Classical.not_not.mp h)
        refine x_s (q := (.iconst 1, 0, 0, 0)) (cod_131 rfl) rfl rfl rfl ?_
        refine x_go (tgt := 48) (cod_131 rfl) (by decide) ?_
        exact H8
set_option maxRecDepth 100000 in
theorem w131_48 {m : Mm} {K : Mm → Prop} (a1 : Int) (a2 : Int) (a3 : Int) (a4 : Int) (ua5 : aV) (s0 : Int) (ta1 : shp a1 = 30) (ta2 : shp a2 = 21)
  (H : (s0 = 0 → (0 ≤ (wr ((wr (a3 * 25)) + a4)) ∧ (wr ((wr (a3 * 25)) + a4)) < 225) ∧ ∀ m5, m5 = umem m 584 (wr ((wr (a3 * 25)) + a4)) 0 → X 131 13 [(1, 581), (1, a1), (1, a2), (0, a3), (0, wr (a4 + 1)), (0, s0)] [] m5 (qV K)) ∧ (¬ s0 = 0 → (0 ≤ (wr ((wr (a3 * 25)) + a4)) ∧ (wr ((wr (a3 * 25)) + a4)) < 225) ∧ ∀ m9, m9 = umem m 584 (wr ((wr (a3 * 25)) + a4)) 1 → X 131 13 [(1, 581), (1, a1), (1, a2), (0, a3), (0, wr (a4 + 1)), (0, s0)] [] m9 (qV K))) : X 131 48 [(1, 581), (1, a1), (1, a2), (0, a3), (0, a4), ua5] [(0, s0)] m (qV K) := by
  refine x_s (q := (.istore 5, 0, 0, 0)) (cod_131 rfl) rfl rfl rfl ?_
  refine x_s (q := (.aload_n 0, 0, 0, 0)) (cod_131 rfl) rfl rfl rfl ?_
  refine x_gc (kk := 3) (c := 583) (t := 1) (cod_131 rfl) sq_p_581 sq_l_581_3 rfl rfl ?_
  refine x_s (q := (.iconst 0, 0, 0, 0)) (cod_131 rfl) rfl rfl rfl ?_
  refine x_aaldc (c := 584) (cod_131 rfl) (by rw [(sq_ro_583 (j := 0) (by decide) (by decide)).2]; decide) (sq_ro_583 (j := 0) (by decide) (by decide)).1 ?_
  refine x_s (q := (.iload_n 3, 0, 0, 0)) (cod_131 rfl) rfl rfl rfl ?_
  refine x_s (q := (.bipush 25, 0, 0, 0)) (cod_131 rfl) rfl rfl rfl ?_
  refine x_s (q := (.imul, 0, 0, 0)) (cod_131 rfl) rfl rfl rfl ?_
  refine x_s (q := (.iload 4, 0, 0, 0)) (cod_131 rfl) rfl rfl rfl ?_
  refine x_s (q := (.iadd, 0, 0, 0)) (cod_131 rfl) rfl rfl rfl ?_
  refine x_s (q := (.iload 5, 0, 0, 0)) (cod_131 rfl) rfl rfl rfl ?_
  refine x_if (p := s0 = 0) (tgt := 72) (cod_131 rfl) (by decide) xj_eq (fun h => ?_) (fun h => ?_)
  · have H1 := H.1 h
    refine x_s (q := (.iconst 0, 0, 0, 0)) (cod_131 rfl) rfl rfl rfl ?_
    obtain ⟨c3, H4⟩ := H1
    refine x_iast (cod_131 rfl) (sq_rw_583 (j := 0) (by decide) (by decide)).s ((sq_rw_583 (j := 0) (by decide) (by decide)).k c3.1 c3.2) ?_
    have H6 := H4 _ rfl
    generalize umem m 584 (wr ((wr (a3 * 25)) + a4)) 0 = m5 at H6 ⊢
    refine x_s (q := (.iinc 4 1, 0, 0, 0)) (cod_131 rfl) rfl rfl rfl ?_
    refine x_go (tgt := 13) (cod_131 rfl) (by decide) ?_
    exact H6
  · have H2 := H.2 h
    refine x_s (q := (.iconst 1, 0, 0, 0)) (cod_131 rfl) rfl rfl rfl ?_
    refine x_go (tgt := 73) (cod_131 rfl) (by decide) ?_
    obtain ⟨c7, H8⟩ := H2
    refine x_iast (cod_131 rfl) (sq_rw_583 (j := 0) (by decide) (by decide)).s ((sq_rw_583 (j := 0) (by decide) (by decide)).k c7.1 c7.2) ?_
    have H10 := H8 _ rfl
    generalize umem m 584 (wr ((wr (a3 * 25)) + a4)) 1 = m9 at H10 ⊢
    refine x_s (q := (.iinc 4 1, 0, 0, 0)) (cod_131 rfl) rfl rfl rfl ?_
    refine x_go (tgt := 13) (cod_131 rfl) (by decide) ?_
    exact H10
set_option maxRecDepth 100000 in
theorem w134_0 {m : Mm} {K : Mm → Prop} (a1 : Int) (a2 : Int) (a3 : Int) (ta1 : shp a1 = 30) (ta2 : shp a2 = 21)
  (H : X 134 3 [(1, 581), (1, a1), (1, a2), (0, a3), (0, 0), (9, 0), (9, 0), (9, 0), (9, 0)] [] m (qV K)) : X 134 0 [(1, 581), (1, a1), (1, a2), (0, a3), (9, 0), (9, 0), (9, 0), (9, 0), (9, 0)] [] m (qV K) := by
  refine x_s (q := (.iconst 0, 0, 0, 0)) (cod_134 rfl) rfl rfl rfl ?_
  refine x_s (q := (.istore 4, 0, 0, 0)) (cod_134 rfl) rfl rfl rfl ?_
  exact H
theorem e134 {m : Mm} {K : Mm → Prop} (a1 : Int) (a2 : Int) (a3 : Int) (ta1 : shp a1 = 30) (ta2 : shp a2 = 21)
  (H : X 134 3 [(1, 581), (1, a1), (1, a2), (0, a3), (0, 0), (9, 0), (9, 0), (9, 0), (9, 0)] [] m (qV K)) : TrV 134 [(1, 581), (1, a1), (1, a2), (0, a3)] m K := by
  exact w134_0 a1 a2 a3 ta1 ta2 H
set_option maxRecDepth 100000 in
theorem w134_3 {m : Mm} {K : Mm → Prop} (a1 : Int) (a2 : Int) (a3 : Int) (a4 : Int) (ua5 : aV) (ua6 : aV) (ua7 : aV) (ua8 : aV) (ta1 : shp a1 = 30) (ta2 : shp a2 = 21)
  (H : (a4 > (m a2 1) → K m) ∧ (¬ a4 > (m a2 1) → X 134 15 [(1, 581), (1, a1), (1, a2), (0, a3), (0, a4), (0, 0), ua6, ua7, ua8] [] m (qV K))) : X 134 3 [(1, 581), (1, a1), (1, a2), (0, a3), (0, a4), ua5, ua6, ua7, ua8] [] m (qV K) := by
  refine x_s (q := (.iload 4, 0, 0, 0)) (cod_134 rfl) rfl rfl rfl ?_
  refine x_aldn (cod_134 rfl) rfl (pos_of ta2 (by decide)) ?_
  refine x_gf (kk := 1) (t := 0) (cod_134 rfl) ta2 (sq_c_1_1 ta2) rfl rfl ?_
  refine x_ic (p := a4 > (m a2 1)) (tgt := 116) (cod_134 rfl) (by decide) xj_gt (fun h => ?_) (fun h => ?_)
  · have H1 := H.1 h
    refine x_retV (cod_134 rfl) rfl ?_
    exact H1
  · have H2 := H.2 h
    refine x_s (q := (.iconst 0, 0, 0, 0)) (cod_134 rfl) rfl rfl rfl ?_
    refine x_s (q := (.istore 5, 0, 0, 0)) (cod_134 rfl) rfl rfl rfl ?_
    exact H2
set_option maxRecDepth 100000 in
theorem w134_15 {m : Mm} {K : Mm → Prop} (a1 : Int) (a2 : Int) (a3 : Int) (a4 : Int) (a5 : Int) (ua6 : aV) (ua7 : aV) (ua8 : aV) (ta1 : shp a1 = 30) (ta2 : shp a2 = 21)
  (H : (a5 > (m a1 5) → X 134 3 [(1, 581), (1, a1), (1, a2), (0, a3), (0, wr (a4 + 1)), (0, a5), ua6, ua7, ua8] [] m (qV K)) ∧ (¬ a5 > (m a1 5) → (0 ≤ a3 ∧ a3 < 9) ∧ (0 ≤ (wr ((wr (a4 * 25)) + a5)) ∧ (wr ((wr (a4 * 25)) + a5)) < 225) ∧ ∀ m7, m7 = umem m (584 + a3) (wr ((wr (a4 * 25)) + a5)) 0 → X 134 47 [(1, 581), (1, a1), (1, a2), (0, a3), (0, a4), (0, a5), (0, wr ((wr (a4 * 25)) + a5)), (0, 0), ua8] [] m7 (qV K))) : X 134 15 [(1, 581), (1, a1), (1, a2), (0, a3), (0, a4), (0, a5), ua6, ua7, ua8] [] m (qV K) := by
  refine x_s (q := (.iload 5, 0, 0, 0)) (cod_134 rfl) rfl rfl rfl ?_
  refine x_aldn (cod_134 rfl) rfl (pos_of ta1 (by decide)) ?_
  refine x_gf (kk := 5) (t := 0) (cod_134 rfl) ta1 (sq_c_10_5 ta1) rfl rfl ?_
  refine x_ic (p := a5 > (m a1 5)) (tgt := 110) (cod_134 rfl) (by decide) xj_gt (fun h => ?_) (fun h => ?_)
  · have H1 := H.1 h
    refine x_s (q := (.iinc 4 1, 0, 0, 0)) (cod_134 rfl) rfl rfl rfl ?_
    refine x_go (tgt := 3) (cod_134 rfl) (by decide) ?_
    exact H1
  · have H2 := H.2 h
    refine x_s (q := (.iload 4, 0, 0, 0)) (cod_134 rfl) rfl rfl rfl ?_
    refine x_s (q := (.bipush 25, 0, 0, 0)) (cod_134 rfl) rfl rfl rfl ?_
    refine x_s (q := (.imul, 0, 0, 0)) (cod_134 rfl) rfl rfl rfl ?_
    refine x_s (q := (.iload 5, 0, 0, 0)) (cod_134 rfl) rfl rfl rfl ?_
    refine x_s (q := (.iadd, 0, 0, 0)) (cod_134 rfl) rfl rfl rfl ?_
    refine x_s (q := (.istore 6, 0, 0, 0)) (cod_134 rfl) rfl rfl rfl ?_
    refine x_s (q := (.aload_n 0, 0, 0, 0)) (cod_134 rfl) rfl rfl rfl ?_
    refine x_gc (kk := 3) (c := 583) (t := 1) (cod_134 rfl) sq_p_581 sq_l_581_3 rfl rfl ?_
    refine x_s (q := (.iload_n 3, 0, 0, 0)) (cod_134 rfl) rfl rfl rfl ?_
    obtain ⟨c3, H4⟩ := H2
    refine x_aaldc (c := (584 + a3)) (cod_134 rfl) (by rw [(sq_ro_583 (j := a3) c3.1 c3.2).2]; decide) (sq_ro_583 (j := a3) c3.1 c3.2).1 ?_
    refine x_s (q := (.iload 6, 0, 0, 0)) (cod_134 rfl) rfl rfl rfl ?_
    refine x_s (q := (.iconst 0, 0, 0, 0)) (cod_134 rfl) rfl rfl rfl ?_
    obtain ⟨c5, H6⟩ := H4
    refine x_iast (cod_134 rfl) (sq_rw_583 (j := a3) c3.1 c3.2).s ((sq_rw_583 (j := a3) c3.1 c3.2).k c5.1 c5.2) ?_
    have H8 := H6 _ rfl
    generalize umem m (584 + a3) (wr ((wr (a4 * 25)) + a5)) 0 = m7 at H8 ⊢
    refine x_s (q := (.iconst 0, 0, 0, 0)) (cod_134 rfl) rfl rfl rfl ?_
    refine x_s (q := (.istore 7, 0, 0, 0)) (cod_134 rfl) rfl rfl rfl ?_
    exact H8
set_option maxRecDepth 100000 in
theorem w134_47 {m : Mm} {K : Mm → Prop} (a1 : Int) (a2 : Int) (a3 : Int) (a4 : Int) (a5 : Int) (a6 : Int) (a7 : Int) (ua8 : aV) (ta1 : shp a1 = 30) (ta2 : shp a2 = 21)
  (H : (a7 > (m a1 5) → X 134 15 [(1, 581), (1, a1), (1, a2), (0, a3), (0, a4), (0, wr (a5 + 1)), (0, a6), (0, a7), ua8] [] m (qV K)) ∧ (¬ a7 > (m a1 5) → TrI 135 [(1, 581), (1, a1), (1, a2), (0, a6), (0, a7)] m fun v5 m3 => (v5 < 0 → X 134 47 [(1, 581), (1, a1), (1, a2), (0, a3), (0, a4), (0, a5), (0, a6), (0, wr (a7 + 1)), (0, v5)] [] m3 (qV K)) ∧ (¬ v5 < 0 → (0 ≤ (wr (a3 - 1)) ∧ (wr (a3 - 1)) < 9) ∧ (0 ≤ v5 ∧ v5 < 225) ∧ ((m3 (584 + (wr (a3 - 1))) v5) = 1 → (0 ≤ a3 ∧ a3 < 9) ∧ (0 ≤ a6 ∧ a6 < 225) ∧ ∀ m18, m18 = umem m3 (584 + a3) a6 1 → X 134 47 [(1, 581), (1, a1), (1, a2), (0, a3), (0, a4), (0, a5), (0, a6), (0, wr (a7 + 1)), (0, v5)] [] m18 (qV K)) ∧ (¬ (m3 (584 + (wr (a3 - 1))) v5) = 1 → X 134 47 [(1, 581), (1, a1), (1, a2), (0, a3), (0, a4), (0, a5), (0, a6), (0, wr (a7 + 1)), (0, v5)] [] m3 (qV K))))) : X 134 47 [(1, 581), (1, a1), (1, a2), (0, a3), (0, a4), (0, a5), (0, a6), (0, a7), ua8] [] m (qV K) := by
  refine x_s (q := (.iload 7, 0, 0, 0)) (cod_134 rfl) rfl rfl rfl ?_
  refine x_aldn (cod_134 rfl) rfl (pos_of ta1 (by decide)) ?_
  refine x_gf (kk := 5) (t := 0) (cod_134 rfl) ta1 (sq_c_10_5 ta1) rfl rfl ?_
  refine x_ic (p := a7 > (m a1 5)) (tgt := 104) (cod_134 rfl) (by decide) xj_gt (fun h => ?_) (fun h => ?_)
  · have H1 := H.1 h
    refine x_s (q := (.iinc 5 1, 0, 0, 0)) (cod_134 rfl) rfl rfl rfl ?_
    refine x_go (tgt := 15) (cod_134 rfl) (by decide) ?_
    exact H1
  · have H2 := H.2 h
    refine x_s (q := (.aload_n 0, 0, 0, 0)) (cod_134 rfl) rfl rfl rfl ?_
    refine x_aldn (cod_134 rfl) rfl (pos_of ta1 (by decide)) ?_
    refine x_aldn (cod_134 rfl) rfl (pos_of ta2 (by decide)) ?_
    refine x_s (q := (.iload 6, 0, 0, 0)) (cod_134 rfl) rfl rfl rfl ?_
    refine x_s (q := (.iload 7, 0, 0, 0)) (cod_134 rfl) rfl rfl rfl ?_
    refine x_call (as := [(1, 581), (1, a1), (1, a2), (0, a6), (0, a7)]) (rest := []) (cod_134 rfl) rfl rfl (by decide) (by decide) rfl rfl (Nat.le_of_ble_eq_true rfl) (rcv0 sq_l_581_0 sq_p_581 (by decide)) (Nat.le_of_ble_eq_true rfl) ?_
    refine X.imp H2 ?_
    rintro _ m3 ⟨v5, rfl, H4⟩
    show X 134 66 [(1, 581), (1, a1), (1, a2), (0, a3), (0, a4), (0, a5), (0, a6), (0, a7), ua8] [(0, v5)] m3 _
    refine x_s (q := (.istore 8, 0, 0, 0)) (cod_134 rfl) rfl rfl rfl ?_
    refine x_s (q := (.iload 8, 0, 0, 0)) (cod_134 rfl) rfl rfl rfl ?_
    refine x_if (p := v5 < 0) (tgt := 98) (cod_134 rfl) (by decide) xj_lt (fun h => ?_) (fun h => ?_)
    · have H6 := H4.1 h
      refine x_s (q := (.iinc 7 1, 0, 0, 0)) (cod_134 rfl) rfl rfl rfl ?_
      refine x_go (tgt := 47) (cod_134 rfl) (by decide) ?_
      exact H6
    · have H7 := H4.2 h
      refine x_s (q := (.aload_n 0, 0, 0, 0)) (cod_134 rfl) rfl rfl rfl ?_
      refine x_gc (kk := 3) (c := 583) (t := 1) (cod_134 rfl) sq_p_581 sq_l_581_3 rfl rfl ?_
      refine x_s (q := (.iload_n 3, 0, 0, 0)) (cod_134 rfl) rfl rfl rfl ?_
      refine x_s (q := (.iconst 1, 0, 0, 0)) (cod_134 rfl) rfl rfl rfl ?_
      refine x_s (q := (.isub, 0, 0, 0)) (cod_134 rfl) rfl rfl rfl ?_
      obtain ⟨c8, H9⟩ := H7
      refine x_aaldc (c := (584 + (wr (a3 - 1)))) (cod_134 rfl) (by rw [(sq_ro_583 (j := wr (a3 - 1)) c8.1 c8.2).2]; decide) (sq_ro_583 (j := wr (a3 - 1)) c8.1 c8.2).1 ?_
      refine x_s (q := (.iload 8, 0, 0, 0)) (cod_134 rfl) rfl rfl rfl ?_
      obtain ⟨c10, H11⟩ := H9
      refine x_iald (cod_134 rfl) (sq_rw_583 (j := wr (a3 - 1)) c8.1 c8.2).s ((sq_rw_583 (j := wr (a3 - 1)) c8.1 c8.2).k c10.1 c10.2) ?_
      refine x_s (q := (.iconst 1, 0, 0, 0)) (cod_134 rfl) rfl rfl rfl ?_
      refine x_ic (p := ¬ (m3 (584 + (wr (a3 - 1))) v5) = 1) (tgt := 98) (cod_134 rfl) (by decide) xj_ne (fun h => ?_) (fun h => ?_)
      · have H12 := H11.2 h
        refine x_s (q := (.iinc 7 1, 0, 0, 0)) (cod_134 rfl) rfl rfl rfl ?_
        refine x_go (tgt := 47) (cod_134 rfl) (by decide) ?_
        exact H12
      · have H13 := H11.1 (Classical.not_not.mp h)
        refine x_s (q := (.aload_n 0, 0, 0, 0)) (cod_134 rfl) rfl rfl rfl ?_
        refine x_gc (kk := 3) (c := 583) (t := 1) (cod_134 rfl) sq_p_581 sq_l_581_3 rfl rfl ?_
        refine x_s (q := (.iload_n 3, 0, 0, 0)) (cod_134 rfl) rfl rfl rfl ?_
        obtain ⟨c14, H15⟩ := H13
        refine x_aaldc (c := (584 + a3)) (cod_134 rfl) (by rw [(sq_ro_583 (j := a3) c14.1 c14.2).2]; decide) (sq_ro_583 (j := a3) c14.1 c14.2).1 ?_
        refine x_s (q := (.iload 6, 0, 0, 0)) (cod_134 rfl) rfl rfl rfl ?_
        refine x_s (q := (.iconst 1, 0, 0, 0)) (cod_134 rfl) rfl rfl rfl ?_
        obtain ⟨c16, H17⟩ := H15
        refine x_iast (cod_134 rfl) (sq_rw_583 (j := a3) c14.1 c14.2).s ((sq_rw_583 (j := a3) c14.1 c14.2).k c16.1 c16.2) ?_
        have H19 := H17 _ rfl
        generalize umem m3 (584 + a3) a6 1 = m18 at H19 ⊢
        refine x_s (q := (.iinc 7 1, 0, 0, 0)) (cod_134 rfl) rfl rfl rfl ?_
        refine x_go (tgt := 47) (cod_134 rfl) (by decide) ?_
        exact H19
set_option maxRecDepth 100000 in
theorem w135_0 {m : Mm} {K : Int → Mm → Prop} (a1 : Int) (a2 : Int) (a3 : Int) (a4 : Int) (ta1 : shp a1 = 30) (ta2 : shp a2 = 21)
  (H : (shp a1 = 30 ∧ 0 ≤ (irem a3 25) ∧ (irem a3 25) ≤ 24) ∧ (a4 = 0 → v_E m a2 ∧ ((cAt m a2 (idiv a3 25)) = 0 → K (-1) m) ∧ (¬ (cAt m a2 (idiv a3 25)) = 0 → ((iand (ishr (ahd m a1 (irem a3 25)) (cAt m a2 (idiv a3 25))) 1 = 1) → K (wr ((wr ((idiv a3 25) + 1)) * 25)) m) ∧ (¬ (iand (ishr (ahd m a1 (irem a3 25)) (cAt m a2 (idiv a3 25))) 1 = 1) → K (-1) m))) ∧ (¬ a4 = 0 → (0 ≤ (wr (a4 - 1)) ∧ (wr (a4 - 1)) < 24) ∧ ((iand (ishr (ahd m a1 (irem a3 25)) 27) 1 = 1) → v_E m a2 ∧ ((iand (ishr (m (a1 + 6 + 2 * (wr (a4 - 1))) 5) (cAt m a2 (wr ((idiv a3 25) - 1)))) 1 = 1) → (v_R m (a1 + 6 + 2 * (wr (a4 - 1))) ∧ v_E m a2 ∧ 0 ≤ (idiv a3 25) ∧ (idiv a3 25) ≤ 8) ∧ ((stC m (a1 + 6 + 2 * (wr (a4 - 1))) a2 (idiv a3 25) = true) → X 135 112 [(1, 581), (1, a1), (1, a2), (0, a3), (0, a4), (0, idiv a3 25), (0, ahd m a1 (irem a3 25)), (1, (a1 + 6 + 2 * (wr (a4 - 1)))), (9, 0)] [(0, 1)] m (qI K)) ∧ (¬ (stC m (a1 + 6 + 2 * (wr (a4 - 1))) a2 (idiv a3 25) = true) → X 135 112 [(1, 581), (1, a1), (1, a2), (0, a3), (0, a4), (0, idiv a3 25), (0, ahd m a1 (irem a3 25)), (1, (a1 + 6 + 2 * (wr (a4 - 1)))), (9, 0)] [(0, 0)] m (qI K))) ∧ (¬ (iand (ishr (m (a1 + 6 + 2 * (wr (a4 - 1))) 5) (cAt m a2 (wr ((idiv a3 25) - 1)))) 1 = 1) → X 135 112 [(1, 581), (1, a1), (1, a2), (0, a3), (0, a4), (0, idiv a3 25), (0, ahd m a1 (irem a3 25)), (1, (a1 + 6 + 2 * (wr (a4 - 1)))), (9, 0)] [(0, 0)] m (qI K))) ∧ (¬ (iand (ishr (ahd m a1 (irem a3 25)) 27) 1 = 1) → X 135 112 [(1, 581), (1, a1), (1, a2), (0, a3), (0, a4), (0, idiv a3 25), (0, ahd m a1 (irem a3 25)), (1, (a1 + 6 + 2 * (wr (a4 - 1)))), (9, 0)] [(0, 0)] m (qI K)))) : X 135 0 [(1, 581), (1, a1), (1, a2), (0, a3), (0, a4), (9, 0), (9, 0), (9, 0), (9, 0)] [] m (qI K) := by
  refine x_s (q := (.iload_n 3, 0, 0, 0)) (cod_135 rfl) rfl rfl rfl ?_
  refine x_s (q := (.bipush 25, 0, 0, 0)) (cod_135 rfl) rfl rfl rfl ?_
  refine x_div (cod_135 rfl) (by decide) ?_
  refine x_s (q := (.istore 5, 0, 0, 0)) (cod_135 rfl) rfl rfl rfl ?_
  refine x_aldn (cod_135 rfl) rfl (pos_of ta1 (by decide)) ?_
  refine x_s (q := (.iload_n 3, 0, 0, 0)) (cod_135 rfl) rfl rfl rfl ?_
  refine x_s (q := (.bipush 25, 0, 0, 0)) (cod_135 rfl) rfl rfl rfl ?_
  refine x_rem (cod_135 rfl) (by decide) ?_
  obtain ⟨c1, H2⟩ := H
  refine x_call (as := [(1, a1), (0, irem a3 25)]) (rest := []) (cod_135 rfl) rfl rfl (by decide) (by decide) rfl rfl (Nat.le_of_ble_eq_true rfl) rfl (Nat.le_of_ble_eq_true rfl) ?_
  refine x_pure (p132 c1) ?_
  show X 135 14 [(1, 581), (1, a1), (1, a2), (0, a3), (0, a4), (0, idiv a3 25), (9, 0), (9, 0), (9, 0)] [(0, ahd m a1 (irem a3 25))] m _
  refine x_s (q := (.istore 6, 0, 0, 0)) (cod_135 rfl) rfl rfl rfl ?_
  refine x_s (q := (.iload 4, 0, 0, 0)) (cod_135 rfl) rfl rfl rfl ?_
  refine x_if (p := ¬ a4 = 0) (tgt := 56) (cod_135 rfl) (by decide) xj_ne (fun h => ?_) (fun h => ?_)
  · have H3 := H2.2 h
    refine x_aldn (cod_135 rfl) rfl (pos_of ta1 (by decide)) ?_
    refine x_gc (kk := 0) (c := (a1 + 1)) (t := 1) (cod_135 rfl) ta1 (sq_c_10_0 ta1) rfl rfl ?_
    refine x_s (q := (.iload 4, 0, 0, 0)) (cod_135 rfl) rfl rfl rfl ?_
    refine x_s (q := (.iconst 1, 0, 0, 0)) (cod_135 rfl) rfl rfl rfl ?_
    refine x_s (q := (.isub, 0, 0, 0)) (cod_135 rfl) rfl rfl rfl ?_
    obtain ⟨c5, H6⟩ := H3
    refine x_aaldc (c := (a1 + 6 + 2 * (wr (a4 - 1)))) (cod_135 rfl) (by rw [(sq_oa_10_0 (j := wr (a4 - 1)) ta1 c5.1 c5.2).2.1]; decide) (sq_oa_10_0 (j := wr (a4 - 1)) ta1 c5.1 c5.2).1 ?_
    refine x_ast (ls' := [(1, 581), (1, a1), (1, a2), (0, a3), (0, a4), (0, idiv a3 25), (0, ahd m a1 (irem a3 25)), (1, (a1 + 6 + 2 * (wr (a4 - 1)))), (9, 0)]) (cod_135 rfl) (pos_of (sq_oa_10_0 (j := wr (a4 - 1)) ta1 c5.1 c5.2).2.2 (by decide)) rfl rfl ?_
    refine x_s (q := (.iload 6, 0, 0, 0)) (cod_135 rfl) rfl rfl rfl ?_
    refine x_s (q := (.bipush 27, 0, 0, 0)) (cod_135 rfl) rfl rfl rfl ?_
    refine x_call (as := [(0, ahd m a1 (irem a3 25)), (0, 27)]) (rest := []) (cod_135 rfl) rfl rfl (by decide) (by decide) rfl rfl (Nat.le_of_ble_eq_true rfl) rfl (Nat.le_of_ble_eq_true rfl) ?_
    refine x_pure (p133) ?_
    show X 135 74 [(1, 581), (1, a1), (1, a2), (0, a3), (0, a4), (0, idiv a3 25), (0, ahd m a1 (irem a3 25)), (1, (a1 + 6 + 2 * (wr (a4 - 1)))), (9, 0)] [(0, bi (iand (ishr (ahd m a1 (irem a3 25)) 27) 1 = 1))] m _
    refine x_if (p := ¬ (iand (ishr (ahd m a1 (irem a3 25)) 27) 1 = 1)) (tgt := 111) (cod_135 rfl) (by decide) xb_eq (fun h => ?_) (fun h => ?_)
    · have H7 := H6.2 h
      refine x_s (q := (.iconst 0, 0, 0, 0)) (cod_135 rfl) rfl rfl rfl ?_
      exact H7
    · have H8 := H6.1 (Classical.not_not.mp h)
      refine x_ald (cod_135 rfl) rfl (pos_of (sq_oa_10_0 (j := wr (a4 - 1)) ta1 c5.1 c5.2).2.2 (by decide)) ?_
      refine x_gf (kk := 5) (t := 0) (cod_135 rfl) (sq_oa_10_0 (j := wr (a4 - 1)) ta1 c5.1 c5.2).2.2 (sq_c_7_5 (sq_oa_10_0 (j := wr (a4 - 1)) ta1 c5.1 c5.2).2.2) rfl rfl ?_
      refine x_aldn (cod_135 rfl) rfl (pos_of ta2 (by decide)) ?_
      refine x_s (q := (.iload 5, 0, 0, 0)) (cod_135 rfl) rfl rfl rfl ?_
      refine x_s (q := (.iconst 1, 0, 0, 0)) (cod_135 rfl) rfl rfl rfl ?_
      refine x_s (q := (.isub, 0, 0, 0)) (cod_135 rfl) rfl rfl rfl ?_
      obtain ⟨c9, H10⟩ := H8
      refine x_call (as := [(1, a2), (0, wr ((idiv a3 25) - 1))]) (rest := [(0, m (a1 + 6 + 2 * (wr (a4 - 1))) 5)]) (cod_135 rfl) rfl rfl (by decide) (by decide) rfl rfl (Nat.le_of_ble_eq_true rfl) (rcv0 (sq_c_1_0 ta2) ta2 (by decide)) (Nat.le_of_ble_eq_true rfl) ?_
      refine x_pure (p93 c9) ?_
      show X 135 90 [(1, 581), (1, a1), (1, a2), (0, a3), (0, a4), (0, idiv a3 25), (0, ahd m a1 (irem a3 25)), (1, (a1 + 6 + 2 * (wr (a4 - 1)))), (9, 0)] [(0, cAt m a2 (wr ((idiv a3 25) - 1))), (0, m (a1 + 6 + 2 * (wr (a4 - 1))) 5)] m _
      refine x_call (as := [(0, m (a1 + 6 + 2 * (wr (a4 - 1))) 5), (0, cAt m a2 (wr ((idiv a3 25) - 1)))]) (rest := []) (cod_135 rfl) rfl rfl (by decide) (by decide) rfl rfl (Nat.le_of_ble_eq_true rfl) rfl (Nat.le_of_ble_eq_true rfl) ?_
      refine x_pure (p133) ?_
      show X 135 93 [(1, 581), (1, a1), (1, a2), (0, a3), (0, a4), (0, idiv a3 25), (0, ahd m a1 (irem a3 25)), (1, (a1 + 6 + 2 * (wr (a4 - 1)))), (9, 0)] [(0, bi (iand (ishr (m (a1 + 6 + 2 * (wr (a4 - 1))) 5) (cAt m a2 (wr ((idiv a3 25) - 1)))) 1 = 1))] m _
      refine x_if (p := ¬ (iand (ishr (m (a1 + 6 + 2 * (wr (a4 - 1))) 5) (cAt m a2 (wr ((idiv a3 25) - 1)))) 1 = 1)) (tgt := 111) (cod_135 rfl) (by decide) xb_eq (fun h => ?_) (fun h => ?_)
      · have H11 := H10.2 h
        refine x_s (q := (.iconst 0, 0, 0, 0)) (cod_135 rfl) rfl rfl rfl ?_
        exact H11
      · have H12 := H10.1 (Classical.not_not.mp h)
        refine x_ald (cod_135 rfl) rfl (pos_of (sq_oa_10_0 (j := wr (a4 - 1)) ta1 c5.1 c5.2).2.2 (by decide)) ?_
        refine x_aldn (cod_135 rfl) rfl (pos_of ta2 (by decide)) ?_
        refine x_s (q := (.iload 5, 0, 0, 0)) (cod_135 rfl) rfl rfl rfl ?_
        obtain ⟨c13, H14⟩ := H12
        refine x_call (as := [(1, (a1 + 6 + 2 * (wr (a4 - 1)))), (1, a2), (0, idiv a3 25)]) (rest := []) (cod_135 rfl) rfl rfl (by decide) (by decide) rfl rfl (Nat.le_of_ble_eq_true rfl) (rcv0 (sq_c_7_0 (sq_oa_10_0 (j := wr (a4 - 1)) ta1 c5.1 c5.2).2.2) (sq_oa_10_0 (j := wr (a4 - 1)) ta1 c5.1 c5.2).2.2 (by decide)) (Nat.le_of_ble_eq_true rfl) ?_
        refine x_pure (p94 c13) ?_
        show X 135 104 [(1, 581), (1, a1), (1, a2), (0, a3), (0, a4), (0, idiv a3 25), (0, ahd m a1 (irem a3 25)), (1, (a1 + 6 + 2 * (wr (a4 - 1)))), (9, 0)] [(0, bi (stC m (a1 + 6 + 2 * (wr (a4 - 1))) a2 (idiv a3 25) = true))] m _
        refine x_if (p := ¬ (stC m (a1 + 6 + 2 * (wr (a4 - 1))) a2 (idiv a3 25) = true)) (tgt := 111) (cod_135 rfl) (by decide) xb_eq (fun h => ?_) (fun h => ?_)
        · have H15 := H14.2 h
          refine x_s (q := (.iconst 0, 0, 0, 0)) (cod_135 rfl) rfl rfl rfl ?_
          exact H15
        · have H16 := H14.1 (Classical.not_not.mp h)
          refine x_s (q := (.iconst 1, 0, 0, 0)) (cod_135 rfl) rfl rfl rfl ?_
          refine x_go (tgt := 112) (cod_135 rfl) (by decide) ?_
          exact H16
  · have H4 := H2.1 (Classical.not_not.mp h)
    refine x_aldn (cod_135 rfl) rfl (pos_of ta2 (by decide)) ?_
    refine x_s (q := (.iload 5, 0, 0, 0)) (cod_135 rfl) rfl rfl rfl ?_
    obtain ⟨c17, H18⟩ := H4
    refine x_call (as := [(1, a2), (0, idiv a3 25)]) (rest := []) (cod_135 rfl) rfl rfl (by decide) (by decide) rfl rfl (Nat.le_of_ble_eq_true rfl) (rcv0 (sq_c_1_0 ta2) ta2 (by decide)) (Nat.le_of_ble_eq_true rfl) ?_
    refine x_pure (p93 c17) ?_
    show X 135 27 [(1, 581), (1, a1), (1, a2), (0, a3), (0, a4), (0, idiv a3 25), (0, ahd m a1 (irem a3 25)), (9, 0), (9, 0)] [(0, cAt m a2 (idiv a3 25))] m _
    refine x_s (q := (.istore 7, 0, 0, 0)) (cod_135 rfl) rfl rfl rfl ?_
    refine x_s (q := (.iload 7, 0, 0, 0)) (cod_135 rfl) rfl rfl rfl ?_
    refine x_if (p := (cAt m a2 (idiv a3 25)) = 0) (tgt := 54) (cod_135 rfl) (by decide) xj_eq (fun h => ?_) (fun h => ?_)
    · have H19 := H18.1 h
      refine x_s (q := (.iconst (-1), 0, 0, 0)) (cod_135 rfl) rfl rfl rfl ?_
      refine x_retI (t := .int) (cod_135 rfl) rfl rfl rfl ?_
      exact H19
    · have H20 := H18.2 h
      refine x_s (q := (.iload 6, 0, 0, 0)) (cod_135 rfl) rfl rfl rfl ?_
      refine x_s (q := (.iload 7, 0, 0, 0)) (cod_135 rfl) rfl rfl rfl ?_
      refine x_call (as := [(0, ahd m a1 (irem a3 25)), (0, cAt m a2 (idiv a3 25))]) (rest := []) (cod_135 rfl) rfl rfl (by decide) (by decide) rfl rfl (Nat.le_of_ble_eq_true rfl) rfl (Nat.le_of_ble_eq_true rfl) ?_
      refine x_pure (p133) ?_
      show X 135 41 [(1, 581), (1, a1), (1, a2), (0, a3), (0, a4), (0, idiv a3 25), (0, ahd m a1 (irem a3 25)), (0, cAt m a2 (idiv a3 25)), (9, 0)] [(0, bi (iand (ishr (ahd m a1 (irem a3 25)) (cAt m a2 (idiv a3 25))) 1 = 1))] m _
      refine x_if (p := ¬ (iand (ishr (ahd m a1 (irem a3 25)) (cAt m a2 (idiv a3 25))) 1 = 1)) (tgt := 54) (cod_135 rfl) (by decide) xb_eq (fun h => ?_) (fun h => ?_)
      · have H21 := H20.2 h
        refine x_s (q := (.iconst (-1), 0, 0, 0)) (cod_135 rfl) rfl rfl rfl ?_
        refine x_retI (t := .int) (cod_135 rfl) rfl rfl rfl ?_
        exact H21
      · have H22 := H20.1 (Classical.not_not.mp h)
        refine x_s (q := (.iload 5, 0, 0, 0)) (cod_135 rfl) rfl rfl rfl ?_
        refine x_s (q := (.iconst 1, 0, 0, 0)) (cod_135 rfl) rfl rfl rfl ?_
        refine x_s (q := (.iadd, 0, 0, 0)) (cod_135 rfl) rfl rfl rfl ?_
        refine x_s (q := (.bipush 25, 0, 0, 0)) (cod_135 rfl) rfl rfl rfl ?_
        refine x_s (q := (.imul, 0, 0, 0)) (cod_135 rfl) rfl rfl rfl ?_
        refine x_go (tgt := 55) (cod_135 rfl) (by decide) ?_
        refine x_retI (t := .int) (cod_135 rfl) rfl rfl rfl ?_
        exact H22
theorem e135 {m : Mm} {K : Int → Mm → Prop} (a1 : Int) (a2 : Int) (a3 : Int) (a4 : Int) (ta1 : shp a1 = 30) (ta2 : shp a2 = 21)
  (H : (shp a1 = 30 ∧ 0 ≤ (irem a3 25) ∧ (irem a3 25) ≤ 24) ∧ (a4 = 0 → v_E m a2 ∧ ((cAt m a2 (idiv a3 25)) = 0 → K (-1) m) ∧ (¬ (cAt m a2 (idiv a3 25)) = 0 → ((iand (ishr (ahd m a1 (irem a3 25)) (cAt m a2 (idiv a3 25))) 1 = 1) → K (wr ((wr ((idiv a3 25) + 1)) * 25)) m) ∧ (¬ (iand (ishr (ahd m a1 (irem a3 25)) (cAt m a2 (idiv a3 25))) 1 = 1) → K (-1) m))) ∧ (¬ a4 = 0 → (0 ≤ (wr (a4 - 1)) ∧ (wr (a4 - 1)) < 24) ∧ ((iand (ishr (ahd m a1 (irem a3 25)) 27) 1 = 1) → v_E m a2 ∧ ((iand (ishr (m (a1 + 6 + 2 * (wr (a4 - 1))) 5) (cAt m a2 (wr ((idiv a3 25) - 1)))) 1 = 1) → (v_R m (a1 + 6 + 2 * (wr (a4 - 1))) ∧ v_E m a2 ∧ 0 ≤ (idiv a3 25) ∧ (idiv a3 25) ≤ 8) ∧ ((stC m (a1 + 6 + 2 * (wr (a4 - 1))) a2 (idiv a3 25) = true) → X 135 112 [(1, 581), (1, a1), (1, a2), (0, a3), (0, a4), (0, idiv a3 25), (0, ahd m a1 (irem a3 25)), (1, (a1 + 6 + 2 * (wr (a4 - 1)))), (9, 0)] [(0, 1)] m (qI K)) ∧ (¬ (stC m (a1 + 6 + 2 * (wr (a4 - 1))) a2 (idiv a3 25) = true) → X 135 112 [(1, 581), (1, a1), (1, a2), (0, a3), (0, a4), (0, idiv a3 25), (0, ahd m a1 (irem a3 25)), (1, (a1 + 6 + 2 * (wr (a4 - 1)))), (9, 0)] [(0, 0)] m (qI K))) ∧ (¬ (iand (ishr (m (a1 + 6 + 2 * (wr (a4 - 1))) 5) (cAt m a2 (wr ((idiv a3 25) - 1)))) 1 = 1) → X 135 112 [(1, 581), (1, a1), (1, a2), (0, a3), (0, a4), (0, idiv a3 25), (0, ahd m a1 (irem a3 25)), (1, (a1 + 6 + 2 * (wr (a4 - 1)))), (9, 0)] [(0, 0)] m (qI K))) ∧ (¬ (iand (ishr (ahd m a1 (irem a3 25)) 27) 1 = 1) → X 135 112 [(1, 581), (1, a1), (1, a2), (0, a3), (0, a4), (0, idiv a3 25), (0, ahd m a1 (irem a3 25)), (1, (a1 + 6 + 2 * (wr (a4 - 1)))), (9, 0)] [(0, 0)] m (qI K)))) : TrI 135 [(1, 581), (1, a1), (1, a2), (0, a3), (0, a4)] m K := by
  exact w135_0 a1 a2 a3 a4 ta1 ta2 H
set_option maxRecDepth 100000 in
theorem w135_112 {m : Mm} {K : Int → Mm → Prop} (ua0 : aV) (ua1 : aV) (ua2 : aV) (ua3 : aV) (a4 : Int) (a5 : Int) (ua6 : aV) (a7 : Int) (ua8 : aV) (s0 : Int) 
  (H : (s0 = 0 → K (-1) m) ∧ (¬ s0 = 0 → 1 ≤ a7 ∧ shp a7 = 27 ∧ K (wr ((wr ((wr (a5 + (m a7 2))) * 25)) + a4)) m)) : X 135 112 [ua0, ua1, ua2, ua3, (0, a4), (0, a5), ua6, (1, a7), ua8] [(0, s0)] m (qI K) := by
  refine x_s (q := (.istore 8, 0, 0, 0)) (cod_135 rfl) rfl rfl rfl ?_
  refine x_s (q := (.iload 8, 0, 0, 0)) (cod_135 rfl) rfl rfl rfl ?_
  refine x_if (p := s0 = 0) (tgt := 136) (cod_135 rfl) (by decide) xj_eq (fun h => ?_) (fun h => ?_)
  · have H1 := H.1 h
    refine x_s (q := (.iconst (-1), 0, 0, 0)) (cod_135 rfl) rfl rfl rfl ?_
    refine x_retI (t := .int) (cod_135 rfl) rfl rfl rfl ?_
    exact H1
  · have H2 := H.2 h
    refine x_s (q := (.iload 5, 0, 0, 0)) (cod_135 rfl) rfl rfl rfl ?_
    obtain ⟨c3, H4⟩ := H2
    refine x_ald (cod_135 rfl) rfl c3 ?_
    obtain ⟨c5, H6⟩ := H4
    refine x_gf (kk := 2) (t := 0) (cod_135 rfl) c5 (sq_c_7_2 c5) rfl rfl ?_
    refine x_s (q := (.iadd, 0, 0, 0)) (cod_135 rfl) rfl rfl rfl ?_
    refine x_s (q := (.bipush 25, 0, 0, 0)) (cod_135 rfl) rfl rfl rfl ?_
    refine x_s (q := (.imul, 0, 0, 0)) (cod_135 rfl) rfl rfl rfl ?_
    refine x_s (q := (.iload 4, 0, 0, 0)) (cod_135 rfl) rfl rfl rfl ?_
    refine x_s (q := (.iadd, 0, 0, 0)) (cod_135 rfl) rfl rfl rfl ?_
    refine x_go (tgt := 137) (cod_135 rfl) (by decide) ?_
    refine x_retI (t := .int) (cod_135 rfl) rfl rfl rfl ?_
    exact H6
set_option maxRecDepth 100000 in
theorem w136_0 {m : Mm} {K : Mm → Prop} (a1 : Int) (a2 : Int) (ta1 : shp a1 = 30) (ta2 : shp a2 = 21)
  (H : TrV 137 [(1, (m 581 4))] m fun m1 => (shp (m1 581 4) = 2 ∧ slot (m1 581 4) 0 = some none) ∧ ∀ m5, m5 = umem m1 (m1 581 4) 0 1 → X 136 16 [(1, 581), (1, a1), (1, a2), (0, 0), (9, 0), (9, 0), (9, 0), (9, 0), (9, 0)] [] m5 (qV K)) : X 136 0 [(1, 581), (1, a1), (1, a2), (9, 0), (9, 0), (9, 0), (9, 0), (9, 0), (9, 0)] [] m (qV K) := by
  refine x_s (q := (.aload_n 0, 0, 0, 0)) (cod_136 rfl) rfl rfl rfl ?_
  refine x_gf (kk := 4) (t := 1) (cod_136 rfl) sq_p_581 sq_l_581_4 rfl rfl ?_
  refine x_call (as := [(1, (m 581 4))]) (rest := []) (cod_136 rfl) rfl rfl (by decide) (by decide) rfl rfl (Nat.le_of_ble_eq_true rfl) rfl (Nat.le_of_ble_eq_true rfl) ?_
  refine X.imp H ?_
  rintro _ m1 ⟨rfl, H2⟩
  show X 136 7 [(1, 581), (1, a1), (1, a2), (9, 0), (9, 0), (9, 0), (9, 0), (9, 0), (9, 0)] [] m1 _
  refine x_s (q := (.aload_n 0, 0, 0, 0)) (cod_136 rfl) rfl rfl rfl ?_
  refine x_gf (kk := 4) (t := 1) (cod_136 rfl) sq_p_581 sq_l_581_4 rfl rfl ?_
  refine x_s (q := (.iconst 0, 0, 0, 0)) (cod_136 rfl) rfl rfl rfl ?_
  refine x_s (q := (.iconst 1, 0, 0, 0)) (cod_136 rfl) rfl rfl rfl ?_
  obtain ⟨c3, H4⟩ := H2
  refine x_bast (cod_136 rfl) c3.1 c3.2 (by decide) ?_
  have H6 := H4 _ rfl
  generalize umem m1 (m1 581 4) 0 1 = m5 at H6 ⊢
  refine x_s (q := (.iconst 0, 0, 0, 0)) (cod_136 rfl) rfl rfl rfl ?_
  refine x_s (q := (.istore_n 3, 0, 0, 0)) (cod_136 rfl) rfl rfl rfl ?_
  exact H6
theorem e136 {m : Mm} {K : Mm → Prop} (a1 : Int) (a2 : Int) (ta1 : shp a1 = 30) (ta2 : shp a2 = 21)
  (H : TrV 137 [(1, (m 581 4))] m fun m1 => (shp (m1 581 4) = 2 ∧ slot (m1 581 4) 0 = some none) ∧ ∀ m5, m5 = umem m1 (m1 581 4) 0 1 → X 136 16 [(1, 581), (1, a1), (1, a2), (0, 0), (9, 0), (9, 0), (9, 0), (9, 0), (9, 0)] [] m5 (qV K)) : TrV 136 [(1, 581), (1, a1), (1, a2)] m K := by
  exact w136_0 a1 a2 ta1 ta2 H
set_option maxRecDepth 100000 in
theorem w136_16 {m : Mm} {K : Mm → Prop} (a1 : Int) (a2 : Int) (a3 : Int) (ua4 : aV) (ua5 : aV) (ua6 : aV) (ua7 : aV) (ua8 : aV) (ta1 : shp a1 = 30) (ta2 : shp a2 = 21)
  (H : (a3 < (m 581 1) → TrI 138 [(1, 581), (1, a1), (1, a2), (0, wr ((wr ((m 581 1) - 1)) - a3))] m fun v5 m3 => (0 ≤ a3 ∧ a3 < 8) ∧ ∀ m8, m8 = umem m3 582 a3 v5 → TrV 137 [(1, (m8 581 5))] m8 fun m10 => X 136 62 [(1, 581), (1, a1), (1, a2), (0, a3), (0, wr ((wr ((m 581 1) - 1)) - a3)), (0, v5), (0, 0), ua7, ua8] [] m10 (qV K)) ∧ (¬ a3 < (m 581 1) → K m)) : X 136 16 [(1, 581), (1, a1), (1, a2), (0, a3), ua4, ua5, ua6, ua7, ua8] [] m (qV K) := by
  refine x_s (q := (.iload_n 3, 0, 0, 0)) (cod_136 rfl) rfl rfl rfl ?_
  refine x_s (q := (.aload_n 0, 0, 0, 0)) (cod_136 rfl) rfl rfl rfl ?_
  refine x_gf (kk := 1) (t := 0) (cod_136 rfl) sq_p_581 sq_l_581_1 rfl rfl ?_
  refine x_ic (p := ¬ a3 < (m 581 1)) (tgt := 183) (cod_136 rfl) (by decide) xn_ge (fun h => ?_) (fun h => ?_)
  · have H1 := H.2 h
    refine x_retV (cod_136 rfl) rfl ?_
    exact H1
  · have H2 := H.1 (Classical.not_not.mp h)
    refine x_s (q := (.aload_n 0, 0, 0, 0)) (cod_136 rfl) rfl rfl rfl ?_
    refine x_gf (kk := 1) (t := 0) (cod_136 rfl) sq_p_581 sq_l_581_1 rfl rfl ?_
    refine x_s (q := (.iconst 1, 0, 0, 0)) (cod_136 rfl) rfl rfl rfl ?_
    refine x_s (q := (.isub, 0, 0, 0)) (cod_136 rfl) rfl rfl rfl ?_
    refine x_s (q := (.iload_n 3, 0, 0, 0)) (cod_136 rfl) rfl rfl rfl ?_
    refine x_s (q := (.isub, 0, 0, 0)) (cod_136 rfl) rfl rfl rfl ?_
    refine x_s (q := (.istore 4, 0, 0, 0)) (cod_136 rfl) rfl rfl rfl ?_
    refine x_s (q := (.aload_n 0, 0, 0, 0)) (cod_136 rfl) rfl rfl rfl ?_
    refine x_aldn (cod_136 rfl) rfl (pos_of ta1 (by decide)) ?_
    refine x_aldn (cod_136 rfl) rfl (pos_of ta2 (by decide)) ?_
    refine x_s (q := (.iload 4, 0, 0, 0)) (cod_136 rfl) rfl rfl rfl ?_
    refine x_call (as := [(1, 581), (1, a1), (1, a2), (0, wr ((wr ((m 581 1) - 1)) - a3))]) (rest := []) (cod_136 rfl) rfl rfl (by decide) (by decide) rfl rfl (Nat.le_of_ble_eq_true rfl) (rcv0 sq_l_581_0 sq_p_581 (by decide)) (Nat.le_of_ble_eq_true rfl) ?_
    refine X.imp H2 ?_
    rintro _ m3 ⟨v5, rfl, H4⟩
    show X 136 42 [(1, 581), (1, a1), (1, a2), (0, a3), (0, wr ((wr ((m 581 1) - 1)) - a3)), ua5, ua6, ua7, ua8] [(0, v5)] m3 _
    refine x_s (q := (.istore 5, 0, 0, 0)) (cod_136 rfl) rfl rfl rfl ?_
    refine x_s (q := (.aload_n 0, 0, 0, 0)) (cod_136 rfl) rfl rfl rfl ?_
    refine x_gc (kk := 0) (c := 582) (t := 1) (cod_136 rfl) sq_p_581 sq_l_581_0 rfl rfl ?_
    refine x_s (q := (.iload_n 3, 0, 0, 0)) (cod_136 rfl) rfl rfl rfl ?_
    refine x_s (q := (.iload 5, 0, 0, 0)) (cod_136 rfl) rfl rfl rfl ?_
    obtain ⟨c6, H7⟩ := H4
    refine x_iast (cod_136 rfl) sq_a_582.s (sq_a_582.k c6.1 c6.2) ?_
    have H9 := H7 _ rfl
    generalize umem m3 582 a3 v5 = m8 at H9 ⊢
    refine x_s (q := (.aload_n 0, 0, 0, 0)) (cod_136 rfl) rfl rfl rfl ?_
    refine x_gf (kk := 5) (t := 1) (cod_136 rfl) sq_p_581 sq_l_581_5 rfl rfl ?_
    refine x_call (as := [(1, (m8 581 5))]) (rest := []) (cod_136 rfl) rfl rfl (by decide) (by decide) rfl rfl (Nat.le_of_ble_eq_true rfl) rfl (Nat.le_of_ble_eq_true rfl) ?_
    refine X.imp H9 ?_
    rintro _ m10 ⟨rfl, H11⟩
    show X 136 59 [(1, 581), (1, a1), (1, a2), (0, a3), (0, wr ((wr ((m 581 1) - 1)) - a3)), (0, v5), ua6, ua7, ua8] [] m10 _
    refine x_s (q := (.iconst 0, 0, 0, 0)) (cod_136 rfl) rfl rfl rfl ?_
    refine x_s (q := (.istore 6, 0, 0, 0)) (cod_136 rfl) rfl rfl rfl ?_
    exact H11
set_option maxRecDepth 100000 in
theorem w136_62 {m : Mm} {K : Mm → Prop} (a1 : Int) (a2 : Int) (a3 : Int) (a4 : Int) (a5 : Int) (a6 : Int) (ua7 : aV) (ua8 : aV) (ta1 : shp a1 = 30) (ta2 : shp a2 = 21)
  (H : (a6 < 225 → X 136 73 [(1, 581), (1, a1), (1, a2), (0, a3), (0, a4), (0, a5), (0, a6), (0, 0), ua8] [] m (qV K)) ∧ (¬ a6 < 225 → 1 ≤ (m 581 4) ∧ ∀ m5, m5 = umem m 581 4 (m 581 5) → ∀ m7, m7 = umem m5 581 5 (m 581 4) → X 136 16 [(1, 581), (1, a1), (1, a2), (0, wr (a3 + 1)), (0, a4), (0, a5), (1, (m 581 4)), ua7, ua8] [] m7 (qV K))) : X 136 62 [(1, 581), (1, a1), (1, a2), (0, a3), (0, a4), (0, a5), (0, a6), ua7, ua8] [] m (qV K) := by
  refine x_s (q := (.iload 6, 0, 0, 0)) (cod_136 rfl) rfl rfl rfl ?_
  refine x_s (q := (.sipush 225, 0, 0, 0)) (cod_136 rfl) rfl rfl rfl ?_
  refine x_ic (p := ¬ a6 < 225) (tgt := 157) (cod_136 rfl) (by decide) xn_ge (fun h => ?_) (fun h => ?_)
  · have H1 := H.2 h
    refine x_s (q := (.aload_n 0, 0, 0, 0)) (cod_136 rfl) rfl rfl rfl ?_
    refine x_gf (kk := 4) (t := 1) (cod_136 rfl) sq_p_581 sq_l_581_4 rfl rfl ?_
    obtain ⟨c3, H4⟩ := H1
    refine x_ast (ls' := [(1, 581), (1, a1), (1, a2), (0, a3), (0, a4), (0, a5), (1, (m 581 4)), ua7, ua8]) (cod_136 rfl) c3 rfl rfl ?_
    refine x_s (q := (.aload_n 0, 0, 0, 0)) (cod_136 rfl) rfl rfl rfl ?_
    refine x_s (q := (.aload_n 0, 0, 0, 0)) (cod_136 rfl) rfl rfl rfl ?_
    refine x_gf (kk := 5) (t := 1) (cod_136 rfl) sq_p_581 sq_l_581_5 rfl rfl ?_
    refine x_pf (kk := 4) (t := 1) (cod_136 rfl) sq_p_581 sq_l_581_4 rfl rfl rfl ?_
    have H6 := H4 _ rfl
    generalize umem m 581 4 (m 581 5) = m5 at H6 ⊢
    refine x_s (q := (.aload_n 0, 0, 0, 0)) (cod_136 rfl) rfl rfl rfl ?_
    refine x_ald (cod_136 rfl) rfl c3 ?_
    refine x_pf (kk := 5) (t := 1) (cod_136 rfl) sq_p_581 sq_l_581_5 rfl rfl rfl ?_
    have H8 := H6 _ rfl
    generalize umem m5 581 5 (m 581 4) = m7 at H8 ⊢
    refine x_s (q := (.iinc 3 1, 0, 0, 0)) (cod_136 rfl) rfl rfl rfl ?_
    refine x_go (tgt := 16) (cod_136 rfl) (by decide) ?_
    exact H8
  · have H2 := H.1 (Classical.not_not.mp h)
    refine x_s (q := (.iconst 0, 0, 0, 0)) (cod_136 rfl) rfl rfl rfl ?_
    refine x_s (q := (.istore 7, 0, 0, 0)) (cod_136 rfl) rfl rfl rfl ?_
    exact H2
set_option maxRecDepth 100000 in
theorem w136_73 {m : Mm} {K : Mm → Prop} (a1 : Int) (a2 : Int) (a3 : Int) (a4 : Int) (a5 : Int) (a6 : Int) (a7 : Int) (ua8 : aV) (ta1 : shp a1 = 30) (ta2 : shp a2 = 21)
  (H : (a7 > (m a1 5) → X 136 62 [(1, 581), (1, a1), (1, a2), (0, a3), (0, a4), (0, a5), (0, wr (a6 + 1)), (0, a7), ua8] [] m (qV K)) ∧ (¬ a7 > (m a1 5) → (shp (m 581 4) = 2 ∧ slot (m 581 4) a6 = some none) ∧ ((m (m 581 4) a6) = 0 → X 136 62 [(1, 581), (1, a1), (1, a2), (0, a3), (0, a4), (0, a5), (0, wr (a6 + 1)), (0, a7), ua8] [] m (qV K)) ∧ (¬ (m (m 581 4) a6) = 0 → TrI 135 [(1, 581), (1, a1), (1, a2), (0, a6), (0, a7)] m fun v9 m7 => (v9 < 0 → X 136 73 [(1, 581), (1, a1), (1, a2), (0, a3), (0, a4), (0, a5), (0, a6), (0, wr (a7 + 1)), (0, v9)] [] m7 (qV K)) ∧ (¬ v9 < 0 → (0 ≤ a4 ∧ a4 < 9) ∧ (0 ≤ v9 ∧ v9 < 225) ∧ ((m7 (584 + a4) v9) = 1 → TrI 139 [(1, a1), (1, a2), (0, a6), (0, a7)] m7 fun v20 m18 => (v20 = a5 → (shp (m18 581 5) = 2 ∧ slot (m18 581 5) v9 = some none) ∧ ∀ m25, m25 = umem m18 (m18 581 5) v9 1 → X 136 73 [(1, 581), (1, a1), (1, a2), (0, a3), (0, a4), (0, a5), (0, a6), (0, wr (a7 + 1)), (0, v9)] [] m25 (qV K)) ∧ (¬ v20 = a5 → X 136 73 [(1, 581), (1, a1), (1, a2), (0, a3), (0, a4), (0, a5), (0, a6), (0, wr (a7 + 1)), (0, v9)] [] m18 (qV K))) ∧ (¬ (m7 (584 + a4) v9) = 1 → X 136 73 [(1, 581), (1, a1), (1, a2), (0, a3), (0, a4), (0, a5), (0, a6), (0, wr (a7 + 1)), (0, v9)] [] m7 (qV K)))))) : X 136 73 [(1, 581), (1, a1), (1, a2), (0, a3), (0, a4), (0, a5), (0, a6), (0, a7), ua8] [] m (qV K) := by
  refine x_s (q := (.iload 7, 0, 0, 0)) (cod_136 rfl) rfl rfl rfl ?_
  refine x_aldn (cod_136 rfl) rfl (pos_of ta1 (by decide)) ?_
  refine x_gf (kk := 5) (t := 0) (cod_136 rfl) ta1 (sq_c_10_5 ta1) rfl rfl ?_
  refine x_ic (p := a7 > (m a1 5)) (tgt := 151) (cod_136 rfl) (by decide) xj_gt (fun h => ?_) (fun h => ?_)
  · have H1 := H.1 h
    refine x_s (q := (.iinc 6 1, 0, 0, 0)) (cod_136 rfl) rfl rfl rfl ?_
    refine x_go (tgt := 62) (cod_136 rfl) (by decide) ?_
    exact H1
  · have H2 := H.2 h
    refine x_s (q := (.aload_n 0, 0, 0, 0)) (cod_136 rfl) rfl rfl rfl ?_
    refine x_gf (kk := 4) (t := 1) (cod_136 rfl) sq_p_581 sq_l_581_4 rfl rfl ?_
    refine x_s (q := (.iload 6, 0, 0, 0)) (cod_136 rfl) rfl rfl rfl ?_
    obtain ⟨c3, H4⟩ := H2
    refine x_bald (cod_136 rfl) c3.1 c3.2 ?_
    refine x_if (p := (m (m 581 4) a6) = 0) (tgt := 151) (cod_136 rfl) (by decide) xj_eq (fun h => ?_) (fun h => ?_)
    · have H5 := H4.1 h
      refine x_s (q := (.iinc 6 1, 0, 0, 0)) (cod_136 rfl) rfl rfl rfl ?_
      refine x_go (tgt := 62) (cod_136 rfl) (by decide) ?_
      exact H5
    · have H6 := H4.2 h
      refine x_s (q := (.aload_n 0, 0, 0, 0)) (cod_136 rfl) rfl rfl rfl ?_
      refine x_aldn (cod_136 rfl) rfl (pos_of ta1 (by decide)) ?_
      refine x_aldn (cod_136 rfl) rfl (pos_of ta2 (by decide)) ?_
      refine x_s (q := (.iload 6, 0, 0, 0)) (cod_136 rfl) rfl rfl rfl ?_
      refine x_s (q := (.iload 7, 0, 0, 0)) (cod_136 rfl) rfl rfl rfl ?_
      refine x_call (as := [(1, 581), (1, a1), (1, a2), (0, a6), (0, a7)]) (rest := []) (cod_136 rfl) rfl rfl (by decide) (by decide) rfl rfl (Nat.le_of_ble_eq_true rfl) (rcv0 sq_l_581_0 sq_p_581 (by decide)) (Nat.le_of_ble_eq_true rfl) ?_
      refine X.imp H6 ?_
      rintro _ m7 ⟨v9, rfl, H8⟩
      show X 136 102 [(1, 581), (1, a1), (1, a2), (0, a3), (0, a4), (0, a5), (0, a6), (0, a7), ua8] [(0, v9)] m7 _
      refine x_s (q := (.istore 8, 0, 0, 0)) (cod_136 rfl) rfl rfl rfl ?_
      refine x_s (q := (.iload 8, 0, 0, 0)) (cod_136 rfl) rfl rfl rfl ?_
      refine x_if (p := v9 < 0) (tgt := 145) (cod_136 rfl) (by decide) xj_lt (fun h => ?_) (fun h => ?_)
      · have H10 := H8.1 h
        refine x_s (q := (.iinc 7 1, 0, 0, 0)) (cod_136 rfl) rfl rfl rfl ?_
        refine x_go (tgt := 73) (cod_136 rfl) (by decide) ?_
        exact H10
      · have H11 := H8.2 h
        refine x_s (q := (.aload_n 0, 0, 0, 0)) (cod_136 rfl) rfl rfl rfl ?_
        refine x_gc (kk := 3) (c := 583) (t := 1) (cod_136 rfl) sq_p_581 sq_l_581_3 rfl rfl ?_
        refine x_s (q := (.iload 4, 0, 0, 0)) (cod_136 rfl) rfl rfl rfl ?_
        obtain ⟨c12, H13⟩ := H11
        refine x_aaldc (c := (584 + a4)) (cod_136 rfl) (by rw [(sq_ro_583 (j := a4) c12.1 c12.2).2]; decide) (sq_ro_583 (j := a4) c12.1 c12.2).1 ?_
        refine x_s (q := (.iload 8, 0, 0, 0)) (cod_136 rfl) rfl rfl rfl ?_
        obtain ⟨c14, H15⟩ := H13
        refine x_iald (cod_136 rfl) (sq_rw_583 (j := a4) c12.1 c12.2).s ((sq_rw_583 (j := a4) c12.1 c12.2).k c14.1 c14.2) ?_
        refine x_s (q := (.iconst 1, 0, 0, 0)) (cod_136 rfl) rfl rfl rfl ?_
        refine x_ic (p := ¬ (m7 (584 + a4) v9) = 1) (tgt := 145) (cod_136 rfl) (by decide) xj_ne (fun h => ?_) (fun h => ?_)
        · have H16 := H15.2 h
          refine x_s (q := (.iinc 7 1, 0, 0, 0)) (cod_136 rfl) rfl rfl rfl ?_
          refine x_go (tgt := 73) (cod_136 rfl) (by decide) ?_
          exact H16
        · have H17 := H15.1 (Classical.not_not.mp h)
          refine x_aldn (cod_136 rfl) rfl (pos_of ta1 (by decide)) ?_
          refine x_aldn (cod_136 rfl) rfl (pos_of ta2 (by decide)) ?_
          refine x_s (q := (.iload 6, 0, 0, 0)) (cod_136 rfl) rfl rfl rfl ?_
          refine x_s (q := (.iload 7, 0, 0, 0)) (cod_136 rfl) rfl rfl rfl ?_
          refine x_call (as := [(1, a1), (1, a2), (0, a6), (0, a7)]) (rest := []) (cod_136 rfl) rfl rfl (by decide) (by decide) rfl rfl (Nat.le_of_ble_eq_true rfl) rfl (Nat.le_of_ble_eq_true rfl) ?_
          refine X.imp H17 ?_
          rintro _ m18 ⟨v20, rfl, H19⟩
          show X 136 132 [(1, 581), (1, a1), (1, a2), (0, a3), (0, a4), (0, a5), (0, a6), (0, a7), (0, v9)] [(0, v20)] m18 _
          refine x_s (q := (.iload 5, 0, 0, 0)) (cod_136 rfl) rfl rfl rfl ?_
          refine x_ic (p := ¬ v20 = a5) (tgt := 145) (cod_136 rfl) (by decide) xj_ne (fun h => ?_) (fun h => ?_)
          · have H21 := H19.2 h
            refine x_s (q := (.iinc 7 1, 0, 0, 0)) (cod_136 rfl) rfl rfl rfl ?_
            refine x_go (tgt := 73) (cod_136 rfl) (by decide) ?_
            exact H21
          · have H22 := H19.1 (Classical.not_not.mp h)
            refine x_s (q := (.aload_n 0, 0, 0, 0)) (cod_136 rfl) rfl rfl rfl ?_
            refine x_gf (kk := 5) (t := 1) (cod_136 rfl) sq_p_581 sq_l_581_5 rfl rfl ?_
            refine x_s (q := (.iload 8, 0, 0, 0)) (cod_136 rfl) rfl rfl rfl ?_
            refine x_s (q := (.iconst 1, 0, 0, 0)) (cod_136 rfl) rfl rfl rfl ?_
            obtain ⟨c23, H24⟩ := H22
            refine x_bast (cod_136 rfl) c23.1 c23.2 (by decide) ?_
            have H26 := H24 _ rfl
            generalize umem m18 (m18 581 5) v9 1 = m25 at H26 ⊢
            refine x_s (q := (.iinc 7 1, 0, 0, 0)) (cod_136 rfl) rfl rfl rfl ?_
            refine x_go (tgt := 73) (cod_136 rfl) (by decide) ?_
            exact H26
set_option maxRecDepth 100000 in
theorem w137_0 {m : Mm} {K : Mm → Prop} (a0 : Int) 
  (H : X 137 2 [(1, a0), (0, 0)] [] m (qV K)) : X 137 0 [(1, a0), (9, 0)] [] m (qV K) := by
  refine x_s (q := (.iconst 0, 0, 0, 0)) (cod_137 rfl) rfl rfl rfl ?_
  refine x_s (q := (.istore_n 1, 0, 0, 0)) (cod_137 rfl) rfl rfl rfl ?_
  exact H
theorem e137 {m : Mm} {K : Mm → Prop} (a0 : Int) 
  (H : X 137 2 [(1, a0), (0, 0)] [] m (qV K)) : TrV 137 [(1, a0)] m K := by
  exact w137_0 a0 H
set_option maxRecDepth 100000 in
theorem w137_2 {m : Mm} {K : Mm → Prop} (a0 : Int) (a1 : Int) 
  (H : (a1 < 225 → 1 ≤ a0 ∧ (shp a0 = 2 ∧ slot a0 a1 = some none) ∧ ∀ m7, m7 = umem m a0 a1 0 → X 137 2 [(1, a0), (0, wr (a1 + 1))] [] m7 (qV K)) ∧ (¬ a1 < 225 → K m)) : X 137 2 [(1, a0), (0, a1)] [] m (qV K) := by
  refine x_s (q := (.iload_n 1, 0, 0, 0)) (cod_137 rfl) rfl rfl rfl ?_
  refine x_s (q := (.sipush 225, 0, 0, 0)) (cod_137 rfl) rfl rfl rfl ?_
  refine x_ic (p := ¬ a1 < 225) (tgt := 19) (cod_137 rfl) (by decide) xn_ge (fun h => ?_) (fun h => ?_)
  · have H1 := H.2 h
    refine x_retV (cod_137 rfl) rfl ?_
    exact H1
  · have H2 := H.1 (Classical.not_not.mp h)
    obtain ⟨c3, H4⟩ := H2
    refine x_aldn (cod_137 rfl) rfl c3 ?_
    refine x_s (q := (.iload_n 1, 0, 0, 0)) (cod_137 rfl) rfl rfl rfl ?_
    refine x_s (q := (.iconst 0, 0, 0, 0)) (cod_137 rfl) rfl rfl rfl ?_
    obtain ⟨c5, H6⟩ := H4
    refine x_bast (cod_137 rfl) c5.1 c5.2 (by decide) ?_
    have H8 := H6 _ rfl
    generalize umem m a0 a1 0 = m7 at H8 ⊢
    refine x_s (q := (.iinc 1 1, 0, 0, 0)) (cod_137 rfl) rfl rfl rfl ?_
    refine x_go (tgt := 2) (cod_137 rfl) (by decide) ?_
    exact H8
set_option maxRecDepth 100000 in
theorem w138_0 {m : Mm} {K : Int → Mm → Prop} (a1 : Int) (a2 : Int) (a3 : Int) (ta1 : shp a1 = 30) (ta2 : shp a2 = 21)
  (H : X 138 8 [(1, 581), (1, a1), (1, a2), (0, a3), (0, 255), (0, 0), (9, 0), (9, 0)] [] m (qI K)) : X 138 0 [(1, 581), (1, a1), (1, a2), (0, a3), (9, 0), (9, 0), (9, 0), (9, 0)] [] m (qI K) := by
  refine x_s (q := (.sipush 255, 0, 0, 0)) (cod_138 rfl) rfl rfl rfl ?_
  refine x_s (q := (.istore 4, 0, 0, 0)) (cod_138 rfl) rfl rfl rfl ?_
  refine x_s (q := (.iconst 0, 0, 0, 0)) (cod_138 rfl) rfl rfl rfl ?_
  refine x_s (q := (.istore 5, 0, 0, 0)) (cod_138 rfl) rfl rfl rfl ?_
  exact H
theorem e138 {m : Mm} {K : Int → Mm → Prop} (a1 : Int) (a2 : Int) (a3 : Int) (ta1 : shp a1 = 30) (ta2 : shp a2 = 21)
  (H : X 138 8 [(1, 581), (1, a1), (1, a2), (0, a3), (0, 255), (0, 0), (9, 0), (9, 0)] [] m (qI K)) : TrI 138 [(1, 581), (1, a1), (1, a2), (0, a3)] m K := by
  exact w138_0 a1 a2 a3 ta1 ta2 H
set_option maxRecDepth 100000 in
theorem w138_8 {m : Mm} {K : Int → Mm → Prop} (a1 : Int) (a2 : Int) (a3 : Int) (a4 : Int) (a5 : Int) (ua6 : aV) (ua7 : aV) (ta1 : shp a1 = 30) (ta2 : shp a2 = 21)
  (H : (a5 < 225 → X 138 19 [(1, 581), (1, a1), (1, a2), (0, a3), (0, a4), (0, a5), (0, 0), ua7] [] m (qI K)) ∧ (¬ a5 < 225 → K a4 m)) : X 138 8 [(1, 581), (1, a1), (1, a2), (0, a3), (0, a4), (0, a5), ua6, ua7] [] m (qI K) := by
  refine x_s (q := (.iload 5, 0, 0, 0)) (cod_138 rfl) rfl rfl rfl ?_
  refine x_s (q := (.sipush 225, 0, 0, 0)) (cod_138 rfl) rfl rfl rfl ?_
  refine x_ic (p := ¬ a5 < 225) (tgt := 96) (cod_138 rfl) (by decide) xn_ge (fun h => ?_) (fun h => ?_)
  · have H1 := H.2 h
    refine x_s (q := (.iload 4, 0, 0, 0)) (cod_138 rfl) rfl rfl rfl ?_
    refine x_retI (t := .int) (cod_138 rfl) rfl rfl rfl ?_
    exact H1
  · have H2 := H.1 (Classical.not_not.mp h)
    refine x_s (q := (.iconst 0, 0, 0, 0)) (cod_138 rfl) rfl rfl rfl ?_
    refine x_s (q := (.istore 6, 0, 0, 0)) (cod_138 rfl) rfl rfl rfl ?_
    exact H2
set_option maxRecDepth 100000 in
theorem w138_19 {m : Mm} {K : Int → Mm → Prop} (a1 : Int) (a2 : Int) (a3 : Int) (a4 : Int) (a5 : Int) (a6 : Int) (ua7 : aV) (ta1 : shp a1 = 30) (ta2 : shp a2 = 21)
  (H : (a6 > (m a1 5) → X 138 8 [(1, 581), (1, a1), (1, a2), (0, a3), (0, a4), (0, wr (a5 + 1)), (0, a6), ua7] [] m (qI K)) ∧ (¬ a6 > (m a1 5) → (shp (m 581 4) = 2 ∧ slot (m 581 4) a5 = some none) ∧ ((m (m 581 4) a5) = 0 → X 138 8 [(1, 581), (1, a1), (1, a2), (0, a3), (0, a4), (0, wr (a5 + 1)), (0, a6), ua7] [] m (qI K)) ∧ (¬ (m (m 581 4) a5) = 0 → TrI 135 [(1, 581), (1, a1), (1, a2), (0, a5), (0, a6)] m fun v9 m7 => (v9 < 0 → X 138 19 [(1, 581), (1, a1), (1, a2), (0, a3), (0, a4), (0, a5), (0, wr (a6 + 1)), (0, v9)] [] m7 (qI K)) ∧ (¬ v9 < 0 → (0 ≤ a3 ∧ a3 < 9) ∧ (0 ≤ v9 ∧ v9 < 225) ∧ ((m7 (584 + a3) v9) = 1 → TrI 139 [(1, a1), (1, a2), (0, a5), (0, a6)] m7 fun v20 m18 => X 138 19 [(1, 581), (1, a1), (1, a2), (0, a3), (0, min a4 v20), (0, a5), (0, wr (a6 + 1)), (0, v9)] [] m18 (qI K)) ∧ (¬ (m7 (584 + a3) v9) = 1 → X 138 19 [(1, 581), (1, a1), (1, a2), (0, a3), (0, a4), (0, a5), (0, wr (a6 + 1)), (0, v9)] [] m7 (qI K)))))) : X 138 19 [(1, 581), (1, a1), (1, a2), (0, a3), (0, a4), (0, a5), (0, a6), ua7] [] m (qI K) := by
  refine x_s (q := (.iload 6, 0, 0, 0)) (cod_138 rfl) rfl rfl rfl ?_
  refine x_aldn (cod_138 rfl) rfl (pos_of ta1 (by decide)) ?_
  refine x_gf (kk := 5) (t := 0) (cod_138 rfl) ta1 (sq_c_10_5 ta1) rfl rfl ?_
  refine x_ic (p := a6 > (m a1 5)) (tgt := 90) (cod_138 rfl) (by decide) xj_gt (fun h => ?_) (fun h => ?_)
  · have H1 := H.1 h
    refine x_s (q := (.iinc 5 1, 0, 0, 0)) (cod_138 rfl) rfl rfl rfl ?_
    refine x_go (tgt := 8) (cod_138 rfl) (by decide) ?_
    exact H1
  · have H2 := H.2 h
    refine x_s (q := (.aload_n 0, 0, 0, 0)) (cod_138 rfl) rfl rfl rfl ?_
    refine x_gf (kk := 4) (t := 1) (cod_138 rfl) sq_p_581 sq_l_581_4 rfl rfl ?_
    refine x_s (q := (.iload 5, 0, 0, 0)) (cod_138 rfl) rfl rfl rfl ?_
    obtain ⟨c3, H4⟩ := H2
    refine x_bald (cod_138 rfl) c3.1 c3.2 ?_
    refine x_if (p := (m (m 581 4) a5) = 0) (tgt := 90) (cod_138 rfl) (by decide) xj_eq (fun h => ?_) (fun h => ?_)
    · have H5 := H4.1 h
      refine x_s (q := (.iinc 5 1, 0, 0, 0)) (cod_138 rfl) rfl rfl rfl ?_
      refine x_go (tgt := 8) (cod_138 rfl) (by decide) ?_
      exact H5
    · have H6 := H4.2 h
      refine x_s (q := (.aload_n 0, 0, 0, 0)) (cod_138 rfl) rfl rfl rfl ?_
      refine x_aldn (cod_138 rfl) rfl (pos_of ta1 (by decide)) ?_
      refine x_aldn (cod_138 rfl) rfl (pos_of ta2 (by decide)) ?_
      refine x_s (q := (.iload 5, 0, 0, 0)) (cod_138 rfl) rfl rfl rfl ?_
      refine x_s (q := (.iload 6, 0, 0, 0)) (cod_138 rfl) rfl rfl rfl ?_
      refine x_call (as := [(1, 581), (1, a1), (1, a2), (0, a5), (0, a6)]) (rest := []) (cod_138 rfl) rfl rfl (by decide) (by decide) rfl rfl (Nat.le_of_ble_eq_true rfl) (rcv0 sq_l_581_0 sq_p_581 (by decide)) (Nat.le_of_ble_eq_true rfl) ?_
      refine X.imp H6 ?_
      rintro _ m7 ⟨v9, rfl, H8⟩
      show X 138 48 [(1, 581), (1, a1), (1, a2), (0, a3), (0, a4), (0, a5), (0, a6), ua7] [(0, v9)] m7 _
      refine x_s (q := (.istore 7, 0, 0, 0)) (cod_138 rfl) rfl rfl rfl ?_
      refine x_s (q := (.iload 7, 0, 0, 0)) (cod_138 rfl) rfl rfl rfl ?_
      refine x_if (p := v9 < 0) (tgt := 84) (cod_138 rfl) (by decide) xj_lt (fun h => ?_) (fun h => ?_)
      · have H10 := H8.1 h
        refine x_s (q := (.iinc 6 1, 0, 0, 0)) (cod_138 rfl) rfl rfl rfl ?_
        refine x_go (tgt := 19) (cod_138 rfl) (by decide) ?_
        exact H10
      · have H11 := H8.2 h
        refine x_s (q := (.aload_n 0, 0, 0, 0)) (cod_138 rfl) rfl rfl rfl ?_
        refine x_gc (kk := 3) (c := 583) (t := 1) (cod_138 rfl) sq_p_581 sq_l_581_3 rfl rfl ?_
        refine x_s (q := (.iload_n 3, 0, 0, 0)) (cod_138 rfl) rfl rfl rfl ?_
        obtain ⟨c12, H13⟩ := H11
        refine x_aaldc (c := (584 + a3)) (cod_138 rfl) (by rw [(sq_ro_583 (j := a3) c12.1 c12.2).2]; decide) (sq_ro_583 (j := a3) c12.1 c12.2).1 ?_
        refine x_s (q := (.iload 7, 0, 0, 0)) (cod_138 rfl) rfl rfl rfl ?_
        obtain ⟨c14, H15⟩ := H13
        refine x_iald (cod_138 rfl) (sq_rw_583 (j := a3) c12.1 c12.2).s ((sq_rw_583 (j := a3) c12.1 c12.2).k c14.1 c14.2) ?_
        refine x_s (q := (.iconst 1, 0, 0, 0)) (cod_138 rfl) rfl rfl rfl ?_
        refine x_ic (p := ¬ (m7 (584 + a3) v9) = 1) (tgt := 84) (cod_138 rfl) (by decide) xj_ne (fun h => ?_) (fun h => ?_)
        · have H16 := H15.2 h
          refine x_s (q := (.iinc 6 1, 0, 0, 0)) (cod_138 rfl) rfl rfl rfl ?_
          refine x_go (tgt := 19) (cod_138 rfl) (by decide) ?_
          exact H16
        · have H17 := H15.1 (Classical.not_not.mp h)
          refine x_s (q := (.iload 4, 0, 0, 0)) (cod_138 rfl) rfl rfl rfl ?_
          refine x_aldn (cod_138 rfl) rfl (pos_of ta1 (by decide)) ?_
          refine x_aldn (cod_138 rfl) rfl (pos_of ta2 (by decide)) ?_
          refine x_s (q := (.iload 5, 0, 0, 0)) (cod_138 rfl) rfl rfl rfl ?_
          refine x_s (q := (.iload 6, 0, 0, 0)) (cod_138 rfl) rfl rfl rfl ?_
          refine x_call (as := [(1, a1), (1, a2), (0, a5), (0, a6)]) (rest := [(0, a4)]) (cod_138 rfl) rfl rfl (by decide) (by decide) rfl rfl (Nat.le_of_ble_eq_true rfl) rfl (Nat.le_of_ble_eq_true rfl) ?_
          refine X.imp H17 ?_
          rintro _ m18 ⟨v20, rfl, H19⟩
          show X 138 79 [(1, 581), (1, a1), (1, a2), (0, a3), (0, a4), (0, a5), (0, a6), (0, v9)] [(0, v20), (0, a4)] m18 _
          refine x_m7 (cod_138 rfl) rfl rfl (Nat.le_of_ble_eq_true rfl) ?_
          refine x_s (q := (.istore 4, 0, 0, 0)) (cod_138 rfl) rfl rfl rfl ?_
          refine x_s (q := (.iinc 6 1, 0, 0, 0)) (cod_138 rfl) rfl rfl rfl ?_
          refine x_go (tgt := 19) (cod_138 rfl) (by decide) ?_
          exact H19
set_option maxRecDepth 100000 in
theorem w139_0 {m : Mm} {K : Int → Mm → Prop} (a0 : Int) (a1 : Int) (a2 : Int) (a3 : Int) (ta0 : shp a0 = 30) (ta1 : shp a1 = 21)
  (H : (a3 = 0 → v_E m a1 ∧ K (lAt m a1 1 (idiv a2 25)) m) ∧ (¬ a3 = 0 → (0 ≤ (wr (a3 - 1)) ∧ (wr (a3 - 1)) < 24) ∧ TrI 24 [(4, 0), (0, m (a0 + 6 + 2 * (wr (a3 - 1))) 1)] m fun v7 m5 => K v7 m5)) : X 139 0 [(1, a0), (1, a1), (0, a2), (0, a3)] [] m (qI K) := by
  refine x_s (q := (.iload_n 3, 0, 0, 0)) (cod_139 rfl) rfl rfl rfl ?_
  refine x_if (p := ¬ a3 = 0) (tgt := 15) (cod_139 rfl) (by decide) xj_ne (fun h => ?_) (fun h => ?_)
  · have H1 := H.2 h
    refine x_s (q := (.ldc 107, 0, 4, 0)) (cod_139 rfl) rfl rfl rfl ?_
    refine x_aldn (cod_139 rfl) rfl (pos_of ta0 (by decide)) ?_
    refine x_gc (kk := 0) (c := (a0 + 1)) (t := 1) (cod_139 rfl) ta0 (sq_c_10_0 ta0) rfl rfl ?_
    refine x_s (q := (.iload_n 3, 0, 0, 0)) (cod_139 rfl) rfl rfl rfl ?_
    refine x_s (q := (.iconst 1, 0, 0, 0)) (cod_139 rfl) rfl rfl rfl ?_
    refine x_s (q := (.isub, 0, 0, 0)) (cod_139 rfl) rfl rfl rfl ?_
    obtain ⟨c3, H4⟩ := H1
    refine x_aaldc (c := (a0 + 6 + 2 * (wr (a3 - 1)))) (cod_139 rfl) (by rw [(sq_oa_10_0 (j := wr (a3 - 1)) ta0 c3.1 c3.2).2.1]; decide) (sq_oa_10_0 (j := wr (a3 - 1)) ta0 c3.1 c3.2).1 ?_
    refine x_gf (kk := 1) (t := 0) (cod_139 rfl) (sq_oa_10_0 (j := wr (a3 - 1)) ta0 c3.1 c3.2).2.2 (sq_c_7_1 (sq_oa_10_0 (j := wr (a3 - 1)) ta0 c3.1 c3.2).2.2) rfl rfl ?_
    refine x_call (as := [(4, 0), (0, m (a0 + 6 + 2 * (wr (a3 - 1))) 1)]) (rest := []) (cod_139 rfl) rfl rfl (by decide) (by decide) rfl rfl (Nat.le_of_ble_eq_true rfl) rfl (Nat.le_of_ble_eq_true rfl) ?_
    refine X.imp H4 ?_
    rintro _ m5 ⟨v7, rfl, H6⟩
    show X 139 31 [(1, a0), (1, a1), (0, a2), (0, a3)] [(0, v7)] m5 _
    refine x_retI (t := .int) (cod_139 rfl) rfl rfl rfl ?_
    exact H6
  · have H2 := H.1 (Classical.not_not.mp h)
    refine x_aldn (cod_139 rfl) rfl (pos_of ta1 (by decide)) ?_
    refine x_s (q := (.iload_n 2, 0, 0, 0)) (cod_139 rfl) rfl rfl rfl ?_
    refine x_s (q := (.bipush 25, 0, 0, 0)) (cod_139 rfl) rfl rfl rfl ?_
    refine x_div (cod_139 rfl) (by decide) ?_
    obtain ⟨c8, H9⟩ := H2
    refine x_call (as := [(1, a1), (0, idiv a2 25)]) (rest := []) (cod_139 rfl) rfl rfl (by decide) (by decide) rfl rfl (Nat.le_of_ble_eq_true rfl) (rcv0 (sq_c_1_0 ta1) ta1 (by decide)) (Nat.le_of_ble_eq_true rfl) ?_
    refine x_pure (p72 c8) ?_
    show X 139 12 [(1, a0), (1, a1), (0, a2), (0, a3)] [(0, lAt m a1 1 (idiv a2 25))] m _
    refine x_go (tgt := 31) (cod_139 rfl) (by decide) ?_
    refine x_retI (t := .int) (cod_139 rfl) rfl rfl rfl ?_
    exact H9
theorem e139 {m : Mm} {K : Int → Mm → Prop} (a0 : Int) (a1 : Int) (a2 : Int) (a3 : Int) (ta0 : shp a0 = 30) (ta1 : shp a1 = 21)
  (H : (a3 = 0 → v_E m a1 ∧ K (lAt m a1 1 (idiv a2 25)) m) ∧ (¬ a3 = 0 → (0 ≤ (wr (a3 - 1)) ∧ (wr (a3 - 1)) < 24) ∧ TrI 24 [(4, 0), (0, m (a0 + 6 + 2 * (wr (a3 - 1))) 1)] m fun v7 m5 => K v7 m5)) : TrI 139 [(1, a0), (1, a1), (0, a2), (0, a3)] m K := by
  exact w139_0 a0 a1 a2 a3 ta0 ta1 H
set_option maxRecDepth 100000 in
theorem w140_0 {m : Mm} {K : Int → Mm → Prop} (a1 : Int) (a2 : Int) 
  (H : shp (m 1 3) = 30 ∧ ((0 ≤ a1 ∧ a1 < m (m 1 3) 6) → (a2 < 0 → K (-1) m) ∧ (¬ a2 < 0 → TrV 130 [(1, 581), (1, (m 1 3)), (0, a1)] m fun m7 => (a2 < (m7 581 1) → (0 ≤ a2 ∧ a2 < 8) ∧ K (m7 582 a2) m7) ∧ (¬ a2 < (m7 581 1) → K (-2) m7))) ∧ (¬ (0 ≤ a1 ∧ a1 < m (m 1 3) 6) → K (-1) m)) : X 140 0 [(1, 1), (0, a1), (0, a2)] [] m (qI K) := by
  refine x_s (q := (.aload_n 0, 0, 0, 0)) (cod_140 rfl) rfl rfl rfl ?_
  refine x_s (q := (.iload_n 1, 0, 0, 0)) (cod_140 rfl) rfl rfl rfl ?_
  obtain ⟨c1, H2⟩ := H
  refine x_call (as := [(1, 1), (0, a1)]) (rest := []) (cod_140 rfl) rfl rfl (by decide) (by decide) rfl rfl (Nat.le_of_ble_eq_true rfl) (rcv0 sq_l_1_0 sq_p_1 (by decide)) (Nat.le_of_ble_eq_true rfl) ?_
  refine x_pure (p68 c1) ?_
  show X 140 5 [(1, 1), (0, a1), (0, a2)] [(0, bi (0 ≤ a1 ∧ a1 < m (m 1 3) 6))] m _
  refine x_if (p := ¬ (0 ≤ a1 ∧ a1 < m (m 1 3) 6)) (tgt := 12) (cod_140 rfl) (by decide) xb_eq (fun h => ?_) (fun h => ?_)
  · have H3 := H2.2 h
    refine x_s (q := (.iconst (-1), 0, 0, 0)) (cod_140 rfl) rfl rfl rfl ?_
    refine x_retI (t := .int) (cod_140 rfl) rfl rfl rfl ?_
    exact H3
  · have H4 := H2.1 (Classical.not_not.mp h)
    refine x_s (q := (.iload_n 2, 0, 0, 0)) (cod_140 rfl) rfl rfl rfl ?_
    refine x_if (p := ¬ a2 < 0) (tgt := 14) (cod_140 rfl) (by decide) xn_ge (fun h => ?_) (fun h => ?_)
    · have H5 := H4.2 h
      refine x_s (q := (.aload_n 0, 0, 0, 0)) (cod_140 rfl) rfl rfl rfl ?_
      refine x_gc (kk := 14) (c := 581) (t := 1) (cod_140 rfl) sq_p_1 sq_l_1_14 rfl rfl ?_
      refine x_s (q := (.aload_n 0, 0, 0, 0)) (cod_140 rfl) rfl rfl rfl ?_
      refine x_gf (kk := 3) (t := 1) (cod_140 rfl) sq_p_1 sq_l_1_3 rfl rfl ?_
      refine x_s (q := (.iload_n 1, 0, 0, 0)) (cod_140 rfl) rfl rfl rfl ?_
      refine x_call (as := [(1, 581), (1, (m 1 3)), (0, a1)]) (rest := []) (cod_140 rfl) rfl rfl (by decide) (by decide) rfl rfl (Nat.le_of_ble_eq_true rfl) (rcv0 sq_l_581_0 sq_p_581 (by decide)) (Nat.le_of_ble_eq_true rfl) ?_
      refine X.imp H5 ?_
      rintro _ m7 ⟨rfl, H8⟩
      show X 140 26 [(1, 1), (0, a1), (0, a2)] [] m7 _
      refine x_s (q := (.iload_n 2, 0, 0, 0)) (cod_140 rfl) rfl rfl rfl ?_
      refine x_s (q := (.aload_n 0, 0, 0, 0)) (cod_140 rfl) rfl rfl rfl ?_
      refine x_gc (kk := 14) (c := 581) (t := 1) (cod_140 rfl) sq_p_1 sq_l_1_14 rfl rfl ?_
      refine x_gf (kk := 1) (t := 0) (cod_140 rfl) sq_p_581 sq_l_581_1 rfl rfl ?_
      refine x_ic (p := ¬ a2 < (m7 581 1)) (tgt := 49) (cod_140 rfl) (by decide) xn_ge (fun h => ?_) (fun h => ?_)
      · have H9 := H8.2 h
        refine x_s (q := (.bipush (-2), 0, 0, 0)) (cod_140 rfl) rfl rfl rfl ?_
        refine x_retI (t := .int) (cod_140 rfl) rfl rfl rfl ?_
        exact H9
      · have H10 := H8.1 (Classical.not_not.mp h)
        refine x_s (q := (.aload_n 0, 0, 0, 0)) (cod_140 rfl) rfl rfl rfl ?_
        refine x_gc (kk := 14) (c := 581) (t := 1) (cod_140 rfl) sq_p_1 sq_l_1_14 rfl rfl ?_
        refine x_gc (kk := 0) (c := 582) (t := 1) (cod_140 rfl) sq_p_581 sq_l_581_0 rfl rfl ?_
        refine x_s (q := (.iload_n 2, 0, 0, 0)) (cod_140 rfl) rfl rfl rfl ?_
        obtain ⟨c11, H12⟩ := H10
        refine x_iald (cod_140 rfl) sq_a_582.s (sq_a_582.k c11.1 c11.2) ?_
        refine x_go (tgt := 51) (cod_140 rfl) (by decide) ?_
        refine x_retI (t := .int) (cod_140 rfl) rfl rfl rfl ?_
        exact H12
    · have H6 := H4.1 (Classical.not_not.mp h)
      refine x_s (q := (.iconst (-1), 0, 0, 0)) (cod_140 rfl) rfl rfl rfl ?_
      refine x_retI (t := .int) (cod_140 rfl) rfl rfl rfl ?_
      exact H6
theorem e140 {m : Mm} {K : Int → Mm → Prop} (a1 : Int) (a2 : Int) 
  (H : shp (m 1 3) = 30 ∧ ((0 ≤ a1 ∧ a1 < m (m 1 3) 6) → (a2 < 0 → K (-1) m) ∧ (¬ a2 < 0 → TrV 130 [(1, 581), (1, (m 1 3)), (0, a1)] m fun m7 => (a2 < (m7 581 1) → (0 ≤ a2 ∧ a2 < 8) ∧ K (m7 582 a2) m7) ∧ (¬ a2 < (m7 581 1) → K (-2) m7))) ∧ (¬ (0 ≤ a1 ∧ a1 < m (m 1 3) 6) → K (-1) m)) : TrI 140 [(1, 1), (0, a1), (0, a2)] m K := by
  exact w140_0 a1 a2 H
set_option maxRecDepth 100000 in
theorem w141_0 {m : Mm} {K : Int → Mm → Prop} (a1 : Int) 
  (H : shp (m 1 5) = 24 ∧ ((0 ≤ a1 ∧ a1 < m (m 1 5) 4) → TrV 76 [(1, 1)] m fun m5 => (0 ≤ a1 ∧ a1 < 10) ∧ K (m5 437 a1) m5) ∧ (¬ (0 ≤ a1 ∧ a1 < m (m 1 5) 4) → K (-1) m)) : X 141 0 [(1, 1), (0, a1)] [] m (qI K) := by
  refine x_s (q := (.aload_n 0, 0, 0, 0)) (cod_141 rfl) rfl rfl rfl ?_
  refine x_s (q := (.iload_n 1, 0, 0, 0)) (cod_141 rfl) rfl rfl rfl ?_
  obtain ⟨c1, H2⟩ := H
  refine x_call (as := [(1, 1), (0, a1)]) (rest := []) (cod_141 rfl) rfl rfl (by decide) (by decide) rfl rfl (Nat.le_of_ble_eq_true rfl) (rcv0 sq_l_1_0 sq_p_1 (by decide)) (Nat.le_of_ble_eq_true rfl) ?_
  refine x_pure (p74 c1) ?_
  show X 141 5 [(1, 1), (0, a1)] [(0, bi (0 ≤ a1 ∧ a1 < m (m 1 5) 4))] m _
  refine x_if (p := 0 ≤ a1 ∧ a1 < m (m 1 5) 4) (tgt := 10) (cod_141 rfl) (by decide) xb_ne (fun h => ?_) (fun h => ?_)
  · have H3 := H2.1 h
    refine x_s (q := (.aload_n 0, 0, 0, 0)) (cod_141 rfl) rfl rfl rfl ?_
    refine x_call (as := [(1, 1)]) (rest := []) (cod_141 rfl) rfl rfl (by decide) (by decide) rfl rfl (Nat.le_of_ble_eq_true rfl) (rcv0 sq_l_1_0 sq_p_1 (by decide)) (Nat.le_of_ble_eq_true rfl) ?_
    refine X.imp H3 ?_
    rintro _ m5 ⟨rfl, H6⟩
    show X 141 14 [(1, 1), (0, a1)] [] m5 _
    refine x_s (q := (.aload_n 0, 0, 0, 0)) (cod_141 rfl) rfl rfl rfl ?_
    refine x_gc (kk := 10) (c := 411) (t := 1) (cod_141 rfl) sq_p_1 sq_l_1_10 rfl rfl ?_
    refine x_gc (kk := 5) (c := 437) (t := 1) (cod_141 rfl) sq_p_411 sq_l_411_5 rfl rfl ?_
    refine x_s (q := (.iload_n 1, 0, 0, 0)) (cod_141 rfl) rfl rfl rfl ?_
    obtain ⟨c7, H8⟩ := H6
    refine x_iald (cod_141 rfl) sq_a_437.s (sq_a_437.k c7.1 c7.2) ?_
    refine x_retI (t := .int) (cod_141 rfl) rfl rfl rfl ?_
    exact H8
  · have H4 := H2.2 h
    refine x_s (q := (.iconst (-1), 0, 0, 0)) (cod_141 rfl) rfl rfl rfl ?_
    refine x_retI (t := .int) (cod_141 rfl) rfl rfl rfl ?_
    exact H4
theorem e141 {m : Mm} {K : Int → Mm → Prop} (a1 : Int) 
  (H : shp (m 1 5) = 24 ∧ ((0 ≤ a1 ∧ a1 < m (m 1 5) 4) → TrV 76 [(1, 1)] m fun m5 => (0 ≤ a1 ∧ a1 < 10) ∧ K (m5 437 a1) m5) ∧ (¬ (0 ≤ a1 ∧ a1 < m (m 1 5) 4) → K (-1) m)) : TrI 141 [(1, 1), (0, a1)] m K := by
  exact w141_0 a1 H
set_option maxRecDepth 100000 in
theorem w142_0 {m : Mm} {K : Int → Mm → Prop}  
  (H : TrV 76 [(1, 1)] m fun m1 => ((m1 511 1) < 1000000 → TrI 120 [(1, 1)] m1 fun v7 m5 => TrV 143 [(1, 284), (1, 280)] m5 fun m8 => X 142 38 [(1, 1), (0, v7), (0, 0)] [] m8 (qI K)) ∧ (¬ (m1 511 1) < 1000000 → K (-2) m1)) : X 142 0 [(1, 1), (9, 0), (9, 0)] [] m (qI K) := by
  refine x_s (q := (.aload_n 0, 0, 0, 0)) (cod_142 rfl) rfl rfl rfl ?_
  refine x_call (as := [(1, 1)]) (rest := []) (cod_142 rfl) rfl rfl (by decide) (by decide) rfl rfl (Nat.le_of_ble_eq_true rfl) (rcv0 sq_l_1_0 sq_p_1 (by decide)) (Nat.le_of_ble_eq_true rfl) ?_
  refine X.imp H ?_
  rintro _ m1 ⟨rfl, H2⟩
  show X 142 4 [(1, 1), (9, 0), (9, 0)] [] m1 _
  refine x_s (q := (.aload_n 0, 0, 0, 0)) (cod_142 rfl) rfl rfl rfl ?_
  refine x_gc (kk := 12) (c := 511) (t := 1) (cod_142 rfl) sq_p_1 sq_l_1_12 rfl rfl ?_
  refine x_gf (kk := 1) (t := 0) (cod_142 rfl) sq_p_511 sq_l_511_1 rfl rfl ?_
  refine x_s (q := (.ldc_w 279, 1000000, 0, 0)) (cod_142 rfl) rfl rfl rfl ?_
  refine x_ic (p := (m1 511 1) < 1000000) (tgt := 20) (cod_142 rfl) (by decide) xj_lt (fun h => ?_) (fun h => ?_)
  · have H3 := H2.1 h
    refine x_s (q := (.aload_n 0, 0, 0, 0)) (cod_142 rfl) rfl rfl rfl ?_
    refine x_call (as := [(1, 1)]) (rest := []) (cod_142 rfl) rfl rfl (by decide) (by decide) rfl rfl (Nat.le_of_ble_eq_true rfl) (rcv0 sq_l_1_0 sq_p_1 (by decide)) (Nat.le_of_ble_eq_true rfl) ?_
    refine X.imp H3 ?_
    rintro _ m5 ⟨v7, rfl, H6⟩
    show X 142 24 [(1, 1), (9, 0), (9, 0)] [(0, v7)] m5 _
    refine x_s (q := (.istore_n 1, 0, 0, 0)) (cod_142 rfl) rfl rfl rfl ?_
    refine x_s (q := (.aload_n 0, 0, 0, 0)) (cod_142 rfl) rfl rfl rfl ?_
    refine x_gc (kk := 8) (c := 284) (t := 1) (cod_142 rfl) sq_p_1 sq_l_1_8 rfl rfl ?_
    refine x_s (q := (.aload_n 0, 0, 0, 0)) (cod_142 rfl) rfl rfl rfl ?_
    refine x_gc (kk := 7) (c := 280) (t := 1) (cod_142 rfl) sq_p_1 sq_l_1_7 rfl rfl ?_
    refine x_call (as := [(1, 284), (1, 280)]) (rest := []) (cod_142 rfl) rfl rfl (by decide) (by decide) rfl rfl (Nat.le_of_ble_eq_true rfl) (rcv0 sq_l_284_0 sq_p_284 (by decide)) (Nat.le_of_ble_eq_true rfl) ?_
    refine X.imp H6 ?_
    rintro _ m8 ⟨rfl, H9⟩
    show X 142 36 [(1, 1), (0, v7), (9, 0)] [] m8 _
    refine x_s (q := (.iconst 0, 0, 0, 0)) (cod_142 rfl) rfl rfl rfl ?_
    refine x_s (q := (.istore_n 2, 0, 0, 0)) (cod_142 rfl) rfl rfl rfl ?_
    exact H9
  · have H4 := H2.2 h
    refine x_s (q := (.bipush (-2), 0, 0, 0)) (cod_142 rfl) rfl rfl rfl ?_
    refine x_retI (t := .int) (cod_142 rfl) rfl rfl rfl ?_
    exact H4
theorem e142 {m : Mm} {K : Int → Mm → Prop}  
  (H : TrV 76 [(1, 1)] m fun m1 => ((m1 511 1) < 1000000 → TrI 120 [(1, 1)] m1 fun v7 m5 => TrV 143 [(1, 284), (1, 280)] m5 fun m8 => X 142 38 [(1, 1), (0, v7), (0, 0)] [] m8 (qI K)) ∧ (¬ (m1 511 1) < 1000000 → K (-2) m1)) : TrI 142 [(1, 1)] m K := by
  exact w142_0  H
set_option maxRecDepth 100000 in
theorem w142_38 {m : Mm} {K : Int → Mm → Prop} (a1 : Int) (a2 : Int) 
  (H : shp (m 1 3) = 30 ∧ (a2 < (m (m 1 3) 5) → (0 ≤ a2 ∧ a2 < 24) ∧ ∀ m9, m9 = umem m 282 a2 (min 999 (wr ((m 282 a2) + (m 596 a2)))) → X 142 38 [(1, 1), (0, a1), (0, wr (a2 + 1))] [] m9 (qI K)) ∧ (¬ a2 < (m (m 1 3) 5) → ∀ m5, m5 = umem m 1 17 1 → K a1 m5)) : X 142 38 [(1, 1), (0, a1), (0, a2)] [] m (qI K) := by
  refine x_s (q := (.iload_n 2, 0, 0, 0)) (cod_142 rfl) rfl rfl rfl ?_
  refine x_s (q := (.aload_n 0, 0, 0, 0)) (cod_142 rfl) rfl rfl rfl ?_
  refine x_gf (kk := 3) (t := 1) (cod_142 rfl) sq_p_1 sq_l_1_3 rfl rfl ?_
  obtain ⟨c1, H2⟩ := H
  refine x_gf (kk := 5) (t := 0) (cod_142 rfl) c1 (sq_c_10_5 c1) rfl rfl ?_
  refine x_ic (p := ¬ a2 < (m (m 1 3) 5)) (tgt := 86) (cod_142 rfl) (by decide) xn_ge (fun h => ?_) (fun h => ?_)
  · have H3 := H2.2 h
    refine x_s (q := (.aload_n 0, 0, 0, 0)) (cod_142 rfl) rfl rfl rfl ?_
    refine x_s (q := (.iconst 1, 0, 0, 0)) (cod_142 rfl) rfl rfl rfl ?_
    refine x_pf (kk := 17) (t := 0) (cod_142 rfl) sq_p_1 sq_l_1_17 rfl rfl rfl ?_
    have H6 := H3 _ rfl
    generalize umem m 1 17 1 = m5 at H6 ⊢
    refine x_s (q := (.iload_n 1, 0, 0, 0)) (cod_142 rfl) rfl rfl rfl ?_
    refine x_retI (t := .int) (cod_142 rfl) rfl rfl rfl ?_
    exact H6
  · have H4 := H2.1 (Classical.not_not.mp h)
    refine x_s (q := (.aload_n 0, 0, 0, 0)) (cod_142 rfl) rfl rfl rfl ?_
    refine x_gc (kk := 7) (c := 280) (t := 1) (cod_142 rfl) sq_p_1 sq_l_1_7 rfl rfl ?_
    refine x_gc (kk := 1) (c := 282) (t := 1) (cod_142 rfl) sq_p_280 sq_l_280_1 rfl rfl ?_
    refine x_s (q := (.iload_n 2, 0, 0, 0)) (cod_142 rfl) rfl rfl rfl ?_
    refine x_s (q := (.sipush 999, 0, 0, 0)) (cod_142 rfl) rfl rfl rfl ?_
    refine x_s (q := (.aload_n 0, 0, 0, 0)) (cod_142 rfl) rfl rfl rfl ?_
    refine x_gc (kk := 7) (c := 280) (t := 1) (cod_142 rfl) sq_p_1 sq_l_1_7 rfl rfl ?_
    refine x_gc (kk := 1) (c := 282) (t := 1) (cod_142 rfl) sq_p_280 sq_l_280_1 rfl rfl ?_
    refine x_s (q := (.iload_n 2, 0, 0, 0)) (cod_142 rfl) rfl rfl rfl ?_
    obtain ⟨c7, H8⟩ := H4
    refine x_iald (cod_142 rfl) sq_a_282.s (sq_a_282.k c7.1 c7.2) ?_
    refine x_s (q := (.aload_n 0, 0, 0, 0)) (cod_142 rfl) rfl rfl rfl ?_
    refine x_gc (kk := 16) (c := 596) (t := 1) (cod_142 rfl) sq_p_1 sq_l_1_16 rfl rfl ?_
    refine x_s (q := (.iload_n 2, 0, 0, 0)) (cod_142 rfl) rfl rfl rfl ?_
    refine x_iald (cod_142 rfl) sq_a_596.s (sq_a_596.k c7.1 c7.2) ?_
    refine x_s (q := (.iadd, 0, 0, 0)) (cod_142 rfl) rfl rfl rfl ?_
    refine x_m7 (cod_142 rfl) rfl rfl (Nat.le_of_ble_eq_true rfl) ?_
    refine x_iast (cod_142 rfl) sq_a_282.s (sq_a_282.k c7.1 c7.2) ?_
    have H10 := H8 _ rfl
    generalize umem m 282 a2 (min 999 (wr ((m 282 a2) + (m 596 a2)))) = m9 at H10 ⊢
    refine x_s (q := (.iinc 2 1, 0, 0, 0)) (cod_142 rfl) rfl rfl rfl ?_
    refine x_go (tgt := 38) (cod_142 rfl) (by decide) ?_
    exact H10
set_option maxRecDepth 100000 in
theorem w143_0 {m : Mm} {K : Mm → Prop} (a1 : Int) (ta1 : shp a1 = 22)
  (H : ((m 284 2) < 20 → X 143 58 [(1, 284), (1, a1), (9, 0), (9, 0)] [] m (qV K)) ∧ (¬ (m 284 2) < 20 → shp (m 285 0) = 22 ∧ X 143 18 [(1, 284), (1, a1), (1, (m 285 0)), (0, 1)] [] m (qV K))) : X 143 0 [(1, 284), (1, a1), (9, 0), (9, 0)] [] m (qV K) := by
  refine x_s (q := (.aload_n 0, 0, 0, 0)) (cod_143 rfl) rfl rfl rfl ?_
  refine x_gf (kk := 2) (t := 0) (cod_143 rfl) sq_p_284 sq_l_284_2 rfl rfl ?_
  refine x_s (q := (.bipush 20, 0, 0, 0)) (cod_143 rfl) rfl rfl rfl ?_
  refine x_ic (p := (m 284 2) < 20) (tgt := 58) (cod_143 rfl) (by decide) xj_lt (fun h => ?_) (fun h => ?_)
  · have H1 := H.1 h
    exact H1
  · have H2 := H.2 h
    refine x_s (q := (.aload_n 0, 0, 0, 0)) (cod_143 rfl) rfl rfl rfl ?_
    refine x_gc (kk := 0) (c := 285) (t := 1) (cod_143 rfl) sq_p_284 sq_l_284_0 rfl rfl ?_
    refine x_s (q := (.iconst 0, 0, 0, 0)) (cod_143 rfl) rfl rfl rfl ?_
    refine x_aald (cod_143 rfl) (by rw [sq_a_285.s]; decide) (sq_a_285.k (by decide) (by decide)) ?_
    obtain ⟨c3, H4⟩ := H2
    refine x_astn (ls' := [(1, 284), (1, a1), (1, (m 285 0)), (9, 0)]) (cod_143 rfl) (pos_of c3 (by decide)) rfl rfl ?_
    refine x_s (q := (.iconst 1, 0, 0, 0)) (cod_143 rfl) rfl rfl rfl ?_
    refine x_s (q := (.istore_n 3, 0, 0, 0)) (cod_143 rfl) rfl rfl rfl ?_
    exact H4
theorem e143 {m : Mm} {K : Mm → Prop} (a1 : Int) (ta1 : shp a1 = 22)
  (H : ((m 284 2) < 20 → X 143 58 [(1, 284), (1, a1), (9, 0), (9, 0)] [] m (qV K)) ∧ (¬ (m 284 2) < 20 → shp (m 285 0) = 22 ∧ X 143 18 [(1, 284), (1, a1), (1, (m 285 0)), (0, 1)] [] m (qV K))) : TrV 143 [(1, 284), (1, a1)] m K := by
  exact w143_0 a1 ta1 H
set_option maxRecDepth 100000 in
theorem w143_18 {m : Mm} {K : Mm → Prop} (a1 : Int) (a2 : Int) (a3 : Int) (ta1 : shp a1 = 22)
  (H : (a3 < 20 → (0 ≤ a3 ∧ a3 < 20) ∧ (0 ≤ (wr (a3 - 1)) ∧ (wr (a3 - 1)) < 20) ∧ shp (m 285 a3) = 22 ∧ ∀ m17, m17 = umem m 285 (wr (a3 - 1)) (m 285 a3) → X 143 18 [(1, 284), (1, a1), (1, a2), (0, wr (a3 + 1))] [] m17 (qV K)) ∧ (¬ a3 < 20 → 1 ≤ a2 ∧ shp a2 = 22 ∧ ∀ m7, m7 = umem m 285 19 a2 → ∀ m9, m9 = umem m7 284 2 19 → X 143 58 [(1, 284), (1, a1), (1, a2), (0, a3)] [] m9 (qV K))) : X 143 18 [(1, 284), (1, a1), (1, a2), (0, a3)] [] m (qV K) := by
  refine x_s (q := (.iload_n 3, 0, 0, 0)) (cod_143 rfl) rfl rfl rfl ?_
  refine x_s (q := (.bipush 20, 0, 0, 0)) (cod_143 rfl) rfl rfl rfl ?_
  refine x_ic (p := ¬ a3 < 20) (tgt := 44) (cod_143 rfl) (by decide) xn_ge (fun h => ?_) (fun h => ?_)
  · have H1 := H.2 h
    refine x_s (q := (.aload_n 0, 0, 0, 0)) (cod_143 rfl) rfl rfl rfl ?_
    refine x_gc (kk := 0) (c := 285) (t := 1) (cod_143 rfl) sq_p_284 sq_l_284_0 rfl rfl ?_
    refine x_s (q := (.bipush 19, 0, 0, 0)) (cod_143 rfl) rfl rfl rfl ?_
    obtain ⟨c3, H4⟩ := H1
    refine x_aldn (cod_143 rfl) rfl c3 ?_
    obtain ⟨c5, H6⟩ := H4
    refine x_aast (cod_143 rfl) (by rw [sq_a_285.s]; decide) (sq_a_285.k (by decide) (by decide)) (sq_c_2_0 c5) (by rw [sq_a_285.s]; exact c5) ?_
    have H8 := H6 _ rfl
    generalize umem m 285 19 a2 = m7 at H8 ⊢
    refine x_s (q := (.aload_n 0, 0, 0, 0)) (cod_143 rfl) rfl rfl rfl ?_
    refine x_s (q := (.bipush 19, 0, 0, 0)) (cod_143 rfl) rfl rfl rfl ?_
    refine x_pf (kk := 2) (t := 0) (cod_143 rfl) sq_p_284 sq_l_284_2 rfl rfl rfl ?_
    have H10 := H8 _ rfl
    generalize umem m7 284 2 19 = m9 at H10 ⊢
    exact H10
  · have H2 := H.1 (Classical.not_not.mp h)
    refine x_s (q := (.aload_n 0, 0, 0, 0)) (cod_143 rfl) rfl rfl rfl ?_
    refine x_gc (kk := 0) (c := 285) (t := 1) (cod_143 rfl) sq_p_284 sq_l_284_0 rfl rfl ?_
    refine x_s (q := (.iload_n 3, 0, 0, 0)) (cod_143 rfl) rfl rfl rfl ?_
    refine x_s (q := (.iconst 1, 0, 0, 0)) (cod_143 rfl) rfl rfl rfl ?_
    refine x_s (q := (.isub, 0, 0, 0)) (cod_143 rfl) rfl rfl rfl ?_
    refine x_s (q := (.aload_n 0, 0, 0, 0)) (cod_143 rfl) rfl rfl rfl ?_
    refine x_gc (kk := 0) (c := 285) (t := 1) (cod_143 rfl) sq_p_284 sq_l_284_0 rfl rfl ?_
    refine x_s (q := (.iload_n 3, 0, 0, 0)) (cod_143 rfl) rfl rfl rfl ?_
    obtain ⟨c11, H12⟩ := H2
    refine x_aald (cod_143 rfl) (by rw [sq_a_285.s]; decide) (sq_a_285.k c11.1 c11.2) ?_
    obtain ⟨c13, H14⟩ := H12
    obtain ⟨c15, H16⟩ := H14
    refine x_aast (cod_143 rfl) (by rw [sq_a_285.s]; decide) (sq_a_285.k c13.1 c13.2) (sq_c_2_0 c15) (by rw [sq_a_285.s]; exact c15) ?_
    have H18 := H16 _ rfl
    generalize umem m 285 (wr (a3 - 1)) (m 285 a3) = m17 at H18 ⊢
    refine x_s (q := (.iinc 3 1, 0, 0, 0)) (cod_143 rfl) rfl rfl rfl ?_
    refine x_go (tgt := 18) (cod_143 rfl) (by decide) ?_
    exact H18
set_option maxRecDepth 100000 in
theorem w143_58 {m : Mm} {K : Mm → Prop} (a1 : Int) (ua2 : aV) (ua3 : aV) (ta1 : shp a1 = 22)
  (H : (0 ≤ (m 284 2) ∧ (m 284 2) < 20) ∧ shp (m 285 (m 284 2)) = 22 ∧ TrV 144 [(1, (m 285 (m 284 2))), (1, a1)] m fun m5 => ∀ m7, m7 = umem m5 284 2 (wr ((m5 284 2) + 1)) → K m7) : X 143 58 [(1, 284), (1, a1), ua2, ua3] [] m (qV K) := by
  refine x_s (q := (.aload_n 0, 0, 0, 0)) (cod_143 rfl) rfl rfl rfl ?_
  refine x_gc (kk := 0) (c := 285) (t := 1) (cod_143 rfl) sq_p_284 sq_l_284_0 rfl rfl ?_
  refine x_s (q := (.aload_n 0, 0, 0, 0)) (cod_143 rfl) rfl rfl rfl ?_
  refine x_gf (kk := 2) (t := 0) (cod_143 rfl) sq_p_284 sq_l_284_2 rfl rfl ?_
  obtain ⟨c1, H2⟩ := H
  refine x_aald (cod_143 rfl) (by rw [sq_a_285.s]; decide) (sq_a_285.k c1.1 c1.2) ?_
  refine x_aldn (cod_143 rfl) rfl (pos_of ta1 (by decide)) ?_
  obtain ⟨c3, H4⟩ := H2
  refine x_call (as := [(1, (m 285 (m 284 2))), (1, a1)]) (rest := []) (cod_143 rfl) rfl rfl (by decide) (by decide) rfl rfl (Nat.le_of_ble_eq_true rfl) (rcv0 (sq_c_2_0 c3) c3 (by decide)) (Nat.le_of_ble_eq_true rfl) ?_
  refine X.imp H4 ?_
  rintro _ m5 ⟨rfl, H6⟩
  show X 143 71 [(1, 284), (1, a1), ua2, ua3] [] m5 _
  refine x_s (q := (.aload_n 0, 0, 0, 0)) (cod_143 rfl) rfl rfl rfl ?_
  refine x_s (q := (.dup, 0, 0, 0)) (cod_143 rfl) rfl rfl rfl ?_
  refine x_gf (kk := 2) (t := 0) (cod_143 rfl) sq_p_284 sq_l_284_2 rfl rfl ?_
  refine x_s (q := (.iconst 1, 0, 0, 0)) (cod_143 rfl) rfl rfl rfl ?_
  refine x_s (q := (.iadd, 0, 0, 0)) (cod_143 rfl) rfl rfl rfl ?_
  refine x_pf (kk := 2) (t := 0) (cod_143 rfl) sq_p_284 sq_l_284_2 rfl rfl rfl ?_
  have H8 := H6 _ rfl
  generalize umem m5 284 2 (wr ((m5 284 2) + 1)) = m7 at H8 ⊢
  refine x_retV (cod_143 rfl) rfl ?_
  exact H8
set_option maxRecDepth 100000 in
theorem w144_0 {m : Mm} {K : Mm → Prop} (a0 : Int) (a1 : Int) (ta0 : shp a0 = 22) (ta1 : shp a1 = 22)
  (H : X 144 2 [(1, a0), (1, a1), (0, 0)] [] m (qV K)) : X 144 0 [(1, a0), (1, a1), (9, 0)] [] m (qV K) := by
  refine x_s (q := (.iconst 0, 0, 0, 0)) (cod_144 rfl) rfl rfl rfl ?_
  refine x_s (q := (.istore_n 2, 0, 0, 0)) (cod_144 rfl) rfl rfl rfl ?_
  exact H
theorem e144 {m : Mm} {K : Mm → Prop} (a0 : Int) (a1 : Int) (ta0 : shp a0 = 22) (ta1 : shp a1 = 22)
  (H : X 144 2 [(1, a0), (1, a1), (0, 0)] [] m (qV K)) : TrV 144 [(1, a0), (1, a1)] m K := by
  exact w144_0 a0 a1 ta0 ta1 H
set_option maxRecDepth 100000 in
theorem w144_2 {m : Mm} {K : Mm → Prop} (a0 : Int) (a1 : Int) (a2 : Int) (ta0 : shp a0 = 22) (ta1 : shp a1 = 22)
  (H : (a2 < 24 → (0 ≤ a2 ∧ a2 < 24) ∧ ∀ m5, m5 = umem m (a0 + 1) a2 (m (a1 + 1) a2) → ∀ m7, m7 = umem m5 (a0 + 2) a2 (m5 (a1 + 2) a2) → X 144 2 [(1, a0), (1, a1), (0, wr (a2 + 1))] [] m7 (qV K)) ∧ (¬ a2 < 24 → X 144 40 [(1, a0), (1, a1), (0, 0)] [] m (qV K))) : X 144 2 [(1, a0), (1, a1), (0, a2)] [] m (qV K) := by
  refine x_s (q := (.iload_n 2, 0, 0, 0)) (cod_144 rfl) rfl rfl rfl ?_
  refine x_s (q := (.bipush 24, 0, 0, 0)) (cod_144 rfl) rfl rfl rfl ?_
  refine x_ic (p := ¬ a2 < 24) (tgt := 38) (cod_144 rfl) (by decide) xn_ge (fun h => ?_) (fun h => ?_)
  · have H1 := H.2 h
    refine x_s (q := (.iconst 0, 0, 0, 0)) (cod_144 rfl) rfl rfl rfl ?_
    refine x_s (q := (.istore_n 2, 0, 0, 0)) (cod_144 rfl) rfl rfl rfl ?_
    exact H1
  · have H2 := H.1 (Classical.not_not.mp h)
    refine x_aldn (cod_144 rfl) rfl (pos_of ta0 (by decide)) ?_
    refine x_gc (kk := 0) (c := (a0 + 1)) (t := 1) (cod_144 rfl) ta0 (sq_c_2_0 ta0) rfl rfl ?_
    refine x_s (q := (.iload_n 2, 0, 0, 0)) (cod_144 rfl) rfl rfl rfl ?_
    refine x_aldn (cod_144 rfl) rfl (pos_of ta1 (by decide)) ?_
    refine x_gc (kk := 0) (c := (a1 + 1)) (t := 1) (cod_144 rfl) ta1 (sq_c_2_0 ta1) rfl rfl ?_
    refine x_s (q := (.iload_n 2, 0, 0, 0)) (cod_144 rfl) rfl rfl rfl ?_
    obtain ⟨c3, H4⟩ := H2
    refine x_iald (cod_144 rfl) (sq_ac_2_0 ta1).s ((sq_ac_2_0 ta1).k c3.1 c3.2) ?_
    refine x_iast (cod_144 rfl) (sq_ac_2_0 ta0).s ((sq_ac_2_0 ta0).k c3.1 c3.2) ?_
    have H6 := H4 _ rfl
    generalize umem m (a0 + 1) a2 (m (a1 + 1) a2) = m5 at H6 ⊢
    refine x_aldn (cod_144 rfl) rfl (pos_of ta0 (by decide)) ?_
    refine x_gc (kk := 1) (c := (a0 + 2)) (t := 1) (cod_144 rfl) ta0 (sq_c_2_1 ta0) rfl rfl ?_
    refine x_s (q := (.iload_n 2, 0, 0, 0)) (cod_144 rfl) rfl rfl rfl ?_
    refine x_aldn (cod_144 rfl) rfl (pos_of ta1 (by decide)) ?_
    refine x_gc (kk := 1) (c := (a1 + 2)) (t := 1) (cod_144 rfl) ta1 (sq_c_2_1 ta1) rfl rfl ?_
    refine x_s (q := (.iload_n 2, 0, 0, 0)) (cod_144 rfl) rfl rfl rfl ?_
    refine x_iald (cod_144 rfl) (sq_ac_2_1 ta1).s ((sq_ac_2_1 ta1).k c3.1 c3.2) ?_
    refine x_iast (cod_144 rfl) (sq_ac_2_1 ta0).s ((sq_ac_2_1 ta0).k c3.1 c3.2) ?_
    have H8 := H6 _ rfl
    generalize umem m5 (a0 + 2) a2 (m5 (a1 + 2) a2) = m7 at H8 ⊢
    refine x_s (q := (.iinc 2 1, 0, 0, 0)) (cod_144 rfl) rfl rfl rfl ?_
    refine x_go (tgt := 2) (cod_144 rfl) (by decide) ?_
    exact H8
set_option maxRecDepth 100000 in
theorem w144_40 {m : Mm} {K : Mm → Prop} (a0 : Int) (a1 : Int) (a2 : Int) (ta0 : shp a0 = 22) (ta1 : shp a1 = 22)
  (H : (a2 < 10 → (0 ≤ a2 ∧ a2 < 10) ∧ ∀ m5, m5 = umem m (a0 + 3) a2 (m (a1 + 3) a2) → X 144 40 [(1, a0), (1, a1), (0, wr (a2 + 1))] [] m5 (qV K)) ∧ (¬ a2 < 10 → K m)) : X 144 40 [(1, a0), (1, a1), (0, a2)] [] m (qV K) := by
  refine x_s (q := (.iload_n 2, 0, 0, 0)) (cod_144 rfl) rfl rfl rfl ?_
  refine x_s (q := (.bipush 10, 0, 0, 0)) (cod_144 rfl) rfl rfl rfl ?_
  refine x_ic (p := ¬ a2 < 10) (tgt := 64) (cod_144 rfl) (by decide) xn_ge (fun h => ?_) (fun h => ?_)
  · have H1 := H.2 h
    refine x_retV (cod_144 rfl) rfl ?_
    exact H1
  · have H2 := H.1 (Classical.not_not.mp h)
    refine x_aldn (cod_144 rfl) rfl (pos_of ta0 (by decide)) ?_
    refine x_gc (kk := 2) (c := (a0 + 3)) (t := 1) (cod_144 rfl) ta0 (sq_c_2_2 ta0) rfl rfl ?_
    refine x_s (q := (.iload_n 2, 0, 0, 0)) (cod_144 rfl) rfl rfl rfl ?_
    refine x_aldn (cod_144 rfl) rfl (pos_of ta1 (by decide)) ?_
    refine x_gc (kk := 2) (c := (a1 + 3)) (t := 1) (cod_144 rfl) ta1 (sq_c_2_2 ta1) rfl rfl ?_
    refine x_s (q := (.iload_n 2, 0, 0, 0)) (cod_144 rfl) rfl rfl rfl ?_
    obtain ⟨c3, H4⟩ := H2
    refine x_iald (cod_144 rfl) (sq_ac_2_2 ta1).s ((sq_ac_2_2 ta1).k c3.1 c3.2) ?_
    refine x_iast (cod_144 rfl) (sq_ac_2_2 ta0).s ((sq_ac_2_2 ta0).k c3.1 c3.2) ?_
    have H6 := H4 _ rfl
    generalize umem m (a0 + 3) a2 (m (a1 + 3) a2) = m5 at H6 ⊢
    refine x_s (q := (.iinc 2 1, 0, 0, 0)) (cod_144 rfl) rfl rfl rfl ?_
    refine x_go (tgt := 40) (cod_144 rfl) (by decide) ?_
    exact H6
set_option maxRecDepth 100000 in
theorem w145_0 {m : Mm} {K : Int → Mm → Prop}  
  (H : TrI 146 [(1, 1)] m fun v3 m1 => TrV 143 [(1, 284), (1, 280)] m1 fun m4 => TrV 55 [(1, 280)] m4 fun m6 => ∀ m8, m8 = umem m6 1 17 1 → K v3 m8) : X 145 0 [(1, 1), (9, 0)] [] m (qI K) := by
  refine x_s (q := (.aload_n 0, 0, 0, 0)) (cod_145 rfl) rfl rfl rfl ?_
  refine x_call (as := [(1, 1)]) (rest := []) (cod_145 rfl) rfl rfl (by decide) (by decide) rfl rfl (Nat.le_of_ble_eq_true rfl) (rcv0 sq_l_1_0 sq_p_1 (by decide)) (Nat.le_of_ble_eq_true rfl) ?_
  refine X.imp H ?_
  rintro _ m1 ⟨v3, rfl, H2⟩
  show X 145 4 [(1, 1), (9, 0)] [(0, v3)] m1 _
  refine x_s (q := (.istore_n 1, 0, 0, 0)) (cod_145 rfl) rfl rfl rfl ?_
  refine x_s (q := (.aload_n 0, 0, 0, 0)) (cod_145 rfl) rfl rfl rfl ?_
  refine x_gc (kk := 8) (c := 284) (t := 1) (cod_145 rfl) sq_p_1 sq_l_1_8 rfl rfl ?_
  refine x_s (q := (.aload_n 0, 0, 0, 0)) (cod_145 rfl) rfl rfl rfl ?_
  refine x_gc (kk := 7) (c := 280) (t := 1) (cod_145 rfl) sq_p_1 sq_l_1_7 rfl rfl ?_
  refine x_call (as := [(1, 284), (1, 280)]) (rest := []) (cod_145 rfl) rfl rfl (by decide) (by decide) rfl rfl (Nat.le_of_ble_eq_true rfl) (rcv0 sq_l_284_0 sq_p_284 (by decide)) (Nat.le_of_ble_eq_true rfl) ?_
  refine X.imp H2 ?_
  rintro _ m4 ⟨rfl, H5⟩
  show X 145 16 [(1, 1), (0, v3)] [] m4 _
  refine x_s (q := (.aload_n 0, 0, 0, 0)) (cod_145 rfl) rfl rfl rfl ?_
  refine x_gc (kk := 7) (c := 280) (t := 1) (cod_145 rfl) sq_p_1 sq_l_1_7 rfl rfl ?_
  refine x_call (as := [(1, 280)]) (rest := []) (cod_145 rfl) rfl rfl (by decide) (by decide) rfl rfl (Nat.le_of_ble_eq_true rfl) (rcv0 sq_l_280_0 sq_p_280 (by decide)) (Nat.le_of_ble_eq_true rfl) ?_
  refine X.imp H5 ?_
  rintro _ m6 ⟨rfl, H7⟩
  show X 145 23 [(1, 1), (0, v3)] [] m6 _
  refine x_s (q := (.aload_n 0, 0, 0, 0)) (cod_145 rfl) rfl rfl rfl ?_
  refine x_s (q := (.iconst 1, 0, 0, 0)) (cod_145 rfl) rfl rfl rfl ?_
  refine x_pf (kk := 17) (t := 0) (cod_145 rfl) sq_p_1 sq_l_1_17 rfl rfl rfl ?_
  have H9 := H7 _ rfl
  generalize umem m6 1 17 1 = m8 at H9 ⊢
  refine x_s (q := (.iload_n 1, 0, 0, 0)) (cod_145 rfl) rfl rfl rfl ?_
  refine x_retI (t := .int) (cod_145 rfl) rfl rfl rfl ?_
  exact H9
theorem e145 {m : Mm} {K : Int → Mm → Prop}  
  (H : TrI 146 [(1, 1)] m fun v3 m1 => TrV 143 [(1, 284), (1, 280)] m1 fun m4 => TrV 55 [(1, 280)] m4 fun m6 => ∀ m8, m8 = umem m6 1 17 1 → K v3 m8) : TrI 145 [(1, 1)] m K := by
  exact w145_0  H
set_option maxRecDepth 100000 in
theorem w146_0 {m : Mm} {K : Int → Mm → Prop}  
  (H : X 146 4 [(1, 1), (0, 0), (0, 0)] [] m (qI K)) : X 146 0 [(1, 1), (9, 0), (9, 0)] [] m (qI K) := by
  refine x_s (q := (.iconst 0, 0, 0, 0)) (cod_146 rfl) rfl rfl rfl ?_
  refine x_s (q := (.istore_n 1, 0, 0, 0)) (cod_146 rfl) rfl rfl rfl ?_
  refine x_s (q := (.iconst 0, 0, 0, 0)) (cod_146 rfl) rfl rfl rfl ?_
  refine x_s (q := (.istore_n 2, 0, 0, 0)) (cod_146 rfl) rfl rfl rfl ?_
  exact H
theorem e146 {m : Mm} {K : Int → Mm → Prop}  
  (H : X 146 4 [(1, 1), (0, 0), (0, 0)] [] m (qI K)) : TrI 146 [(1, 1)] m K := by
  exact w146_0  H
set_option maxRecDepth 100000 in
theorem w146_4 {m : Mm} {K : Int → Mm → Prop} (a1 : Int) (a2 : Int) 
  (H : shp (m 1 3) = 30 ∧ (a2 < (m (m 1 3) 5) → (0 ≤ a2 ∧ a2 < 24) ∧ X 146 4 [(1, 1), (0, wr (a1 + (m 282 a2))), (0, wr (a2 + 1))] [] m (qI K)) ∧ (¬ a2 < (m (m 1 3) 5) → K a1 m)) : X 146 4 [(1, 1), (0, a1), (0, a2)] [] m (qI K) := by
  refine x_s (q := (.iload_n 2, 0, 0, 0)) (cod_146 rfl) rfl rfl rfl ?_
  refine x_s (q := (.aload_n 0, 0, 0, 0)) (cod_146 rfl) rfl rfl rfl ?_
  refine x_gf (kk := 3) (t := 1) (cod_146 rfl) sq_p_1 sq_l_1_3 rfl rfl ?_
  obtain ⟨c1, H2⟩ := H
  refine x_gf (kk := 5) (t := 0) (cod_146 rfl) c1 (sq_c_10_5 c1) rfl rfl ?_
  refine x_ic (p := ¬ a2 < (m (m 1 3) 5)) (tgt := 33) (cod_146 rfl) (by decide) xn_ge (fun h => ?_) (fun h => ?_)
  · have H3 := H2.2 h
    refine x_s (q := (.iload_n 1, 0, 0, 0)) (cod_146 rfl) rfl rfl rfl ?_
    refine x_retI (t := .int) (cod_146 rfl) rfl rfl rfl ?_
    exact H3
  · have H4 := H2.1 (Classical.not_not.mp h)
    refine x_s (q := (.iload_n 1, 0, 0, 0)) (cod_146 rfl) rfl rfl rfl ?_
    refine x_s (q := (.aload_n 0, 0, 0, 0)) (cod_146 rfl) rfl rfl rfl ?_
    refine x_gc (kk := 7) (c := 280) (t := 1) (cod_146 rfl) sq_p_1 sq_l_1_7 rfl rfl ?_
    refine x_gc (kk := 1) (c := 282) (t := 1) (cod_146 rfl) sq_p_280 sq_l_280_1 rfl rfl ?_
    refine x_s (q := (.iload_n 2, 0, 0, 0)) (cod_146 rfl) rfl rfl rfl ?_
    obtain ⟨c5, H6⟩ := H4
    refine x_iald (cod_146 rfl) sq_a_282.s (sq_a_282.k c5.1 c5.2) ?_
    refine x_s (q := (.iadd, 0, 0, 0)) (cod_146 rfl) rfl rfl rfl ?_
    refine x_s (q := (.istore_n 1, 0, 0, 0)) (cod_146 rfl) rfl rfl rfl ?_
    refine x_s (q := (.iinc 2 1, 0, 0, 0)) (cod_146 rfl) rfl rfl rfl ?_
    refine x_go (tgt := 4) (cod_146 rfl) (by decide) ?_
    exact H6
set_option maxRecDepth 100000 in
theorem w147_0 {m : Mm} {K : Int → Mm → Prop} (a1 : Int) (a2 : Int) 
  (H : shp (m 1 3) = 30 ∧ ((0 ≤ a1 ∧ a1 < m (m 1 3) 5) → (a2 < 0 → K (-1) m) ∧ (¬ a2 < 0 → (a2 > 999 → K (-1) m) ∧ (¬ a2 > 999 → (0 ≤ a1 ∧ a1 < 24) ∧ TrV 143 [(1, 284), (1, 280)] m fun m11 => ∀ m13, m13 = umem m11 281 a1 a2 → ∀ m15, m15 = umem m13 1 17 1 → K (m 281 a1) m15))) ∧ (¬ (0 ≤ a1 ∧ a1 < m (m 1 3) 5) → K (-1) m)) : X 147 0 [(1, 1), (0, a1), (0, a2), (9, 0)] [] m (qI K) := by
  refine x_s (q := (.aload_n 0, 0, 0, 0)) (cod_147 rfl) rfl rfl rfl ?_
  refine x_s (q := (.iload_n 1, 0, 0, 0)) (cod_147 rfl) rfl rfl rfl ?_
  obtain ⟨c1, H2⟩ := H
  refine x_call (as := [(1, 1), (0, a1)]) (rest := []) (cod_147 rfl) rfl rfl (by decide) (by decide) rfl rfl (Nat.le_of_ble_eq_true rfl) (rcv0 sq_l_1_0 sq_p_1 (by decide)) (Nat.le_of_ble_eq_true rfl) ?_
  refine x_pure (p70 c1) ?_
  show X 147 5 [(1, 1), (0, a1), (0, a2), (9, 0)] [(0, bi (0 ≤ a1 ∧ a1 < m (m 1 3) 5))] m _
  refine x_if (p := ¬ (0 ≤ a1 ∧ a1 < m (m 1 3) 5)) (tgt := 19) (cod_147 rfl) (by decide) xb_eq (fun h => ?_) (fun h => ?_)
  · have H3 := H2.2 h
    refine x_s (q := (.iconst (-1), 0, 0, 0)) (cod_147 rfl) rfl rfl rfl ?_
    refine x_retI (t := .int) (cod_147 rfl) rfl rfl rfl ?_
    exact H3
  · have H4 := H2.1 (Classical.not_not.mp h)
    refine x_s (q := (.iload_n 2, 0, 0, 0)) (cod_147 rfl) rfl rfl rfl ?_
    refine x_if (p := a2 < 0) (tgt := 19) (cod_147 rfl) (by decide) xj_lt (fun h => ?_) (fun h => ?_)
    · have H5 := H4.1 h
      refine x_s (q := (.iconst (-1), 0, 0, 0)) (cod_147 rfl) rfl rfl rfl ?_
      refine x_retI (t := .int) (cod_147 rfl) rfl rfl rfl ?_
      exact H5
    · have H6 := H4.2 h
      refine x_s (q := (.iload_n 2, 0, 0, 0)) (cod_147 rfl) rfl rfl rfl ?_
      refine x_s (q := (.sipush 999, 0, 0, 0)) (cod_147 rfl) rfl rfl rfl ?_
      refine x_ic (p := ¬ a2 > 999) (tgt := 21) (cod_147 rfl) (by decide) xn_le (fun h => ?_) (fun h => ?_)
      · have H7 := H6.2 h
        refine x_s (q := (.aload_n 0, 0, 0, 0)) (cod_147 rfl) rfl rfl rfl ?_
        refine x_gc (kk := 7) (c := 280) (t := 1) (cod_147 rfl) sq_p_1 sq_l_1_7 rfl rfl ?_
        refine x_gc (kk := 0) (c := 281) (t := 1) (cod_147 rfl) sq_p_280 sq_l_280_0 rfl rfl ?_
        refine x_s (q := (.iload_n 1, 0, 0, 0)) (cod_147 rfl) rfl rfl rfl ?_
        obtain ⟨c9, H10⟩ := H7
        refine x_iald (cod_147 rfl) sq_a_281.s (sq_a_281.k c9.1 c9.2) ?_
        refine x_s (q := (.istore_n 3, 0, 0, 0)) (cod_147 rfl) rfl rfl rfl ?_
        refine x_s (q := (.aload_n 0, 0, 0, 0)) (cod_147 rfl) rfl rfl rfl ?_
        refine x_gc (kk := 8) (c := 284) (t := 1) (cod_147 rfl) sq_p_1 sq_l_1_8 rfl rfl ?_
        refine x_s (q := (.aload_n 0, 0, 0, 0)) (cod_147 rfl) rfl rfl rfl ?_
        refine x_gc (kk := 7) (c := 280) (t := 1) (cod_147 rfl) sq_p_1 sq_l_1_7 rfl rfl ?_
        refine x_call (as := [(1, 284), (1, 280)]) (rest := []) (cod_147 rfl) rfl rfl (by decide) (by decide) rfl rfl (Nat.le_of_ble_eq_true rfl) (rcv0 sq_l_284_0 sq_p_284 (by decide)) (Nat.le_of_ble_eq_true rfl) ?_
        refine X.imp H10 ?_
        rintro _ m11 ⟨rfl, H12⟩
        show X 147 42 [(1, 1), (0, a1), (0, a2), (0, m 281 a1)] [] m11 _
        refine x_s (q := (.aload_n 0, 0, 0, 0)) (cod_147 rfl) rfl rfl rfl ?_
        refine x_gc (kk := 7) (c := 280) (t := 1) (cod_147 rfl) sq_p_1 sq_l_1_7 rfl rfl ?_
        refine x_gc (kk := 0) (c := 281) (t := 1) (cod_147 rfl) sq_p_280 sq_l_280_0 rfl rfl ?_
        refine x_s (q := (.iload_n 1, 0, 0, 0)) (cod_147 rfl) rfl rfl rfl ?_
        refine x_s (q := (.iload_n 2, 0, 0, 0)) (cod_147 rfl) rfl rfl rfl ?_
        refine x_iast (cod_147 rfl) sq_a_281.s (sq_a_281.k c9.1 c9.2) ?_
        have H14 := H12 _ rfl
        generalize umem m11 281 a1 a2 = m13 at H14 ⊢
        refine x_s (q := (.aload_n 0, 0, 0, 0)) (cod_147 rfl) rfl rfl rfl ?_
        refine x_s (q := (.iconst 1, 0, 0, 0)) (cod_147 rfl) rfl rfl rfl ?_
        refine x_pf (kk := 17) (t := 0) (cod_147 rfl) sq_p_1 sq_l_1_17 rfl rfl rfl ?_
        have H16 := H14 _ rfl
        generalize umem m13 1 17 1 = m15 at H16 ⊢
        refine x_s (q := (.iload_n 3, 0, 0, 0)) (cod_147 rfl) rfl rfl rfl ?_
        refine x_retI (t := .int) (cod_147 rfl) rfl rfl rfl ?_
        exact H16
      · have H8 := H6.1 (Classical.not_not.mp h)
        refine x_s (q := (.iconst (-1), 0, 0, 0)) (cod_147 rfl) rfl rfl rfl ?_
        refine x_retI (t := .int) (cod_147 rfl) rfl rfl rfl ?_
        exact H8
theorem e147 {m : Mm} {K : Int → Mm → Prop} (a1 : Int) (a2 : Int) 
  (H : shp (m 1 3) = 30 ∧ ((0 ≤ a1 ∧ a1 < m (m 1 3) 5) → (a2 < 0 → K (-1) m) ∧ (¬ a2 < 0 → (a2 > 999 → K (-1) m) ∧ (¬ a2 > 999 → (0 ≤ a1 ∧ a1 < 24) ∧ TrV 143 [(1, 284), (1, 280)] m fun m11 => ∀ m13, m13 = umem m11 281 a1 a2 → ∀ m15, m15 = umem m13 1 17 1 → K (m 281 a1) m15))) ∧ (¬ (0 ≤ a1 ∧ a1 < m (m 1 3) 5) → K (-1) m)) : TrI 147 [(1, 1), (0, a1), (0, a2)] m K := by
  exact w147_0 a1 a2 H
set_option maxRecDepth 100000 in
theorem w148_0 {m : Mm} {K : Int → Mm → Prop} (a1 : Int) (a2 : Int) 
  (H : TrV 76 [(1, 1)] m fun m1 => TrI 113 [(1, 1), (0, a1), (0, a2)] m1 fun v5 m3 => (v5 = 0 → K (-9) m3) ∧ (¬ v5 = 0 → (0 ≤ a1 ∧ a1 < 10) ∧ (0 ≤ a2 ∧ a2 < 24) ∧ TrV 143 [(1, 284), (1, 280)] m3 fun m12 => ∀ m14, m14 = umem m12 283 a1 (m3 (440 + a1) a2) → ∀ m16, m16 = umem m14 1 17 1 → K (m3 (440 + a1) a2) m16)) : X 148 0 [(1, 1), (0, a1), (0, a2), (9, 0)] [] m (qI K) := by
  refine x_s (q := (.aload_n 0, 0, 0, 0)) (cod_148 rfl) rfl rfl rfl ?_
  refine x_call (as := [(1, 1)]) (rest := []) (cod_148 rfl) rfl rfl (by decide) (by decide) rfl rfl (Nat.le_of_ble_eq_true rfl) (rcv0 sq_l_1_0 sq_p_1 (by decide)) (Nat.le_of_ble_eq_true rfl) ?_
  refine X.imp H ?_
  rintro _ m1 ⟨rfl, H2⟩
  show X 148 4 [(1, 1), (0, a1), (0, a2), (9, 0)] [] m1 _
  refine x_s (q := (.aload_n 0, 0, 0, 0)) (cod_148 rfl) rfl rfl rfl ?_
  refine x_s (q := (.iload_n 1, 0, 0, 0)) (cod_148 rfl) rfl rfl rfl ?_
  refine x_s (q := (.iload_n 2, 0, 0, 0)) (cod_148 rfl) rfl rfl rfl ?_
  refine x_call (as := [(1, 1), (0, a1), (0, a2)]) (rest := []) (cod_148 rfl) rfl rfl (by decide) (by decide) rfl rfl (Nat.le_of_ble_eq_true rfl) (rcv0 sq_l_1_0 sq_p_1 (by decide)) (Nat.le_of_ble_eq_true rfl) ?_
  refine X.imp H2 ?_
  rintro _ m3 ⟨v5, rfl, H4⟩
  show X 148 10 [(1, 1), (0, a1), (0, a2), (9, 0)] [(0, v5)] m3 _
  refine x_if (p := ¬ v5 = 0) (tgt := 16) (cod_148 rfl) (by decide) xj_ne (fun h => ?_) (fun h => ?_)
  · have H6 := H4.2 h
    refine x_s (q := (.aload_n 0, 0, 0, 0)) (cod_148 rfl) rfl rfl rfl ?_
    refine x_gc (kk := 10) (c := 411) (t := 1) (cod_148 rfl) sq_p_1 sq_l_1_10 rfl rfl ?_
    refine x_gc (kk := 7) (c := 439) (t := 1) (cod_148 rfl) sq_p_411 sq_l_411_7 rfl rfl ?_
    refine x_s (q := (.iload_n 1, 0, 0, 0)) (cod_148 rfl) rfl rfl rfl ?_
    obtain ⟨c8, H9⟩ := H6
    refine x_aaldc (c := (440 + a1)) (cod_148 rfl) (by rw [(sq_ro_439 (j := a1) c8.1 c8.2).2]; decide) (sq_ro_439 (j := a1) c8.1 c8.2).1 ?_
    refine x_s (q := (.iload_n 2, 0, 0, 0)) (cod_148 rfl) rfl rfl rfl ?_
    obtain ⟨c10, H11⟩ := H9
    refine x_iald (cod_148 rfl) (sq_rw_439 (j := a1) c8.1 c8.2).s ((sq_rw_439 (j := a1) c8.1 c8.2).k c10.1 c10.2) ?_
    refine x_s (q := (.istore_n 3, 0, 0, 0)) (cod_148 rfl) rfl rfl rfl ?_
    refine x_s (q := (.aload_n 0, 0, 0, 0)) (cod_148 rfl) rfl rfl rfl ?_
    refine x_gc (kk := 8) (c := 284) (t := 1) (cod_148 rfl) sq_p_1 sq_l_1_8 rfl rfl ?_
    refine x_s (q := (.aload_n 0, 0, 0, 0)) (cod_148 rfl) rfl rfl rfl ?_
    refine x_gc (kk := 7) (c := 280) (t := 1) (cod_148 rfl) sq_p_1 sq_l_1_7 rfl rfl ?_
    refine x_call (as := [(1, 284), (1, 280)]) (rest := []) (cod_148 rfl) rfl rfl (by decide) (by decide) rfl rfl (Nat.le_of_ble_eq_true rfl) (rcv0 sq_l_284_0 sq_p_284 (by decide)) (Nat.le_of_ble_eq_true rfl) ?_
    refine X.imp H11 ?_
    rintro _ m12 ⟨rfl, H13⟩
    show X 148 39 [(1, 1), (0, a1), (0, a2), (0, m3 (440 + a1) a2)] [] m12 _
    refine x_s (q := (.aload_n 0, 0, 0, 0)) (cod_148 rfl) rfl rfl rfl ?_
    refine x_gc (kk := 7) (c := 280) (t := 1) (cod_148 rfl) sq_p_1 sq_l_1_7 rfl rfl ?_
    refine x_gc (kk := 2) (c := 283) (t := 1) (cod_148 rfl) sq_p_280 sq_l_280_2 rfl rfl ?_
    refine x_s (q := (.iload_n 1, 0, 0, 0)) (cod_148 rfl) rfl rfl rfl ?_
    refine x_s (q := (.iload_n 3, 0, 0, 0)) (cod_148 rfl) rfl rfl rfl ?_
    refine x_iast (cod_148 rfl) sq_a_283.s (sq_a_283.k c8.1 c8.2) ?_
    have H15 := H13 _ rfl
    generalize umem m12 283 a1 (m3 (440 + a1) a2) = m14 at H15 ⊢
    refine x_s (q := (.aload_n 0, 0, 0, 0)) (cod_148 rfl) rfl rfl rfl ?_
    refine x_s (q := (.iconst 1, 0, 0, 0)) (cod_148 rfl) rfl rfl rfl ?_
    refine x_pf (kk := 17) (t := 0) (cod_148 rfl) sq_p_1 sq_l_1_17 rfl rfl rfl ?_
    have H17 := H15 _ rfl
    generalize umem m14 1 17 1 = m16 at H17 ⊢
    refine x_s (q := (.iload_n 3, 0, 0, 0)) (cod_148 rfl) rfl rfl rfl ?_
    refine x_retI (t := .int) (cod_148 rfl) rfl rfl rfl ?_
    exact H17
  · have H7 := H4.1 (Classical.not_not.mp h)
    refine x_s (q := (.bipush (-9), 0, 0, 0)) (cod_148 rfl) rfl rfl rfl ?_
    refine x_retI (t := .int) (cod_148 rfl) rfl rfl rfl ?_
    exact H7
theorem e148 {m : Mm} {K : Int → Mm → Prop} (a1 : Int) (a2 : Int) 
  (H : TrV 76 [(1, 1)] m fun m1 => TrI 113 [(1, 1), (0, a1), (0, a2)] m1 fun v5 m3 => (v5 = 0 → K (-9) m3) ∧ (¬ v5 = 0 → (0 ≤ a1 ∧ a1 < 10) ∧ (0 ≤ a2 ∧ a2 < 24) ∧ TrV 143 [(1, 284), (1, 280)] m3 fun m12 => ∀ m14, m14 = umem m12 283 a1 (m3 (440 + a1) a2) → ∀ m16, m16 = umem m14 1 17 1 → K (m3 (440 + a1) a2) m16)) : TrI 148 [(1, 1), (0, a1), (0, a2)] m K := by
  exact w148_0 a1 a2 H
set_option maxRecDepth 100000 in
theorem w149_0 {m : Mm} {K : Int → Mm → Prop} (a1 : Int) 
  (H : shp (m 1 5) = 24 ∧ ((0 ≤ a1 ∧ a1 < m (m 1 5) 4) → (0 ≤ a1 ∧ a1 < 10) ∧ ((m 283 a1) = (-9) → X 149 29 [(1, 1), (0, a1), (9, 0)] [(0, 0)] m (qI K)) ∧ (¬ (m 283 a1) = (-9) → X 149 29 [(1, 1), (0, a1), (9, 0)] [(0, 1)] m (qI K))) ∧ (¬ (0 ≤ a1 ∧ a1 < m (m 1 5) 4) → K (-1) m)) : X 149 0 [(1, 1), (0, a1), (9, 0)] [] m (qI K) := by
  refine x_s (q := (.aload_n 0, 0, 0, 0)) (cod_149 rfl) rfl rfl rfl ?_
  refine x_s (q := (.iload_n 1, 0, 0, 0)) (cod_149 rfl) rfl rfl rfl ?_
  obtain ⟨c1, H2⟩ := H
  refine x_call (as := [(1, 1), (0, a1)]) (rest := []) (cod_149 rfl) rfl rfl (by decide) (by decide) rfl rfl (Nat.le_of_ble_eq_true rfl) (rcv0 sq_l_1_0 sq_p_1 (by decide)) (Nat.le_of_ble_eq_true rfl) ?_
  refine x_pure (p74 c1) ?_
  show X 149 5 [(1, 1), (0, a1), (9, 0)] [(0, bi (0 ≤ a1 ∧ a1 < m (m 1 5) 4))] m _
  refine x_if (p := 0 ≤ a1 ∧ a1 < m (m 1 5) 4) (tgt := 10) (cod_149 rfl) (by decide) xb_ne (fun h => ?_) (fun h => ?_)
  · have H3 := H2.1 h
    refine x_s (q := (.aload_n 0, 0, 0, 0)) (cod_149 rfl) rfl rfl rfl ?_
    refine x_gc (kk := 7) (c := 280) (t := 1) (cod_149 rfl) sq_p_1 sq_l_1_7 rfl rfl ?_
    refine x_gc (kk := 2) (c := 283) (t := 1) (cod_149 rfl) sq_p_280 sq_l_280_2 rfl rfl ?_
    refine x_s (q := (.iload_n 1, 0, 0, 0)) (cod_149 rfl) rfl rfl rfl ?_
    obtain ⟨c5, H6⟩ := H3
    refine x_iald (cod_149 rfl) sq_a_283.s (sq_a_283.k c5.1 c5.2) ?_
    refine x_s (q := (.bipush (-9), 0, 0, 0)) (cod_149 rfl) rfl rfl rfl ?_
    refine x_ic (p := ¬ (m 283 a1) = (-9)) (tgt := 28) (cod_149 rfl) (by decide) xj_ne (fun h => ?_) (fun h => ?_)
    · have H7 := H6.2 h
      refine x_s (q := (.iconst 1, 0, 0, 0)) (cod_149 rfl) rfl rfl rfl ?_
      exact H7
    · have H8 := H6.1 (Classical.not_not.mp h)
      refine x_s (q := (.iconst 0, 0, 0, 0)) (cod_149 rfl) rfl rfl rfl ?_
      refine x_go (tgt := 29) (cod_149 rfl) (by decide) ?_
      exact H8
  · have H4 := H2.2 h
    refine x_s (q := (.iconst (-1), 0, 0, 0)) (cod_149 rfl) rfl rfl rfl ?_
    refine x_retI (t := .int) (cod_149 rfl) rfl rfl rfl ?_
    exact H4
theorem e149 {m : Mm} {K : Int → Mm → Prop} (a1 : Int) 
  (H : shp (m 1 5) = 24 ∧ ((0 ≤ a1 ∧ a1 < m (m 1 5) 4) → (0 ≤ a1 ∧ a1 < 10) ∧ ((m 283 a1) = (-9) → X 149 29 [(1, 1), (0, a1), (9, 0)] [(0, 0)] m (qI K)) ∧ (¬ (m 283 a1) = (-9) → X 149 29 [(1, 1), (0, a1), (9, 0)] [(0, 1)] m (qI K))) ∧ (¬ (0 ≤ a1 ∧ a1 < m (m 1 5) 4) → K (-1) m)) : TrI 149 [(1, 1), (0, a1)] m K := by
  exact w149_0 a1 H
set_option maxRecDepth 100000 in
theorem w149_29 {m : Mm} {K : Int → Mm → Prop} (a1 : Int) (ua2 : aV) (s0 : Int) 
  (H : TrV 143 [(1, 284), (1, 280)] m fun m1 => (0 ≤ a1 ∧ a1 < 10) ∧ ∀ m5, m5 = umem m1 283 a1 (-9) → ∀ m7, m7 = umem m5 1 17 1 → K s0 m7) : X 149 29 [(1, 1), (0, a1), ua2] [(0, s0)] m (qI K) := by
  refine x_s (q := (.istore_n 2, 0, 0, 0)) (cod_149 rfl) rfl rfl rfl ?_
  refine x_s (q := (.aload_n 0, 0, 0, 0)) (cod_149 rfl) rfl rfl rfl ?_
  refine x_gc (kk := 8) (c := 284) (t := 1) (cod_149 rfl) sq_p_1 sq_l_1_8 rfl rfl ?_
  refine x_s (q := (.aload_n 0, 0, 0, 0)) (cod_149 rfl) rfl rfl rfl ?_
  refine x_gc (kk := 7) (c := 280) (t := 1) (cod_149 rfl) sq_p_1 sq_l_1_7 rfl rfl ?_
  refine x_call (as := [(1, 284), (1, 280)]) (rest := []) (cod_149 rfl) rfl rfl (by decide) (by decide) rfl rfl (Nat.le_of_ble_eq_true rfl) (rcv0 sq_l_284_0 sq_p_284 (by decide)) (Nat.le_of_ble_eq_true rfl) ?_
  refine X.imp H ?_
  rintro _ m1 ⟨rfl, H2⟩
  show X 149 41 [(1, 1), (0, a1), (0, s0)] [] m1 _
  refine x_s (q := (.aload_n 0, 0, 0, 0)) (cod_149 rfl) rfl rfl rfl ?_
  refine x_gc (kk := 7) (c := 280) (t := 1) (cod_149 rfl) sq_p_1 sq_l_1_7 rfl rfl ?_
  refine x_gc (kk := 2) (c := 283) (t := 1) (cod_149 rfl) sq_p_280 sq_l_280_2 rfl rfl ?_
  refine x_s (q := (.iload_n 1, 0, 0, 0)) (cod_149 rfl) rfl rfl rfl ?_
  refine x_s (q := (.bipush (-9), 0, 0, 0)) (cod_149 rfl) rfl rfl rfl ?_
  obtain ⟨c3, H4⟩ := H2
  refine x_iast (cod_149 rfl) sq_a_283.s (sq_a_283.k c3.1 c3.2) ?_
  have H6 := H4 _ rfl
  generalize umem m1 283 a1 (-9) = m5 at H6 ⊢
  refine x_s (q := (.aload_n 0, 0, 0, 0)) (cod_149 rfl) rfl rfl rfl ?_
  refine x_s (q := (.iconst 1, 0, 0, 0)) (cod_149 rfl) rfl rfl rfl ?_
  refine x_pf (kk := 17) (t := 0) (cod_149 rfl) sq_p_1 sq_l_1_17 rfl rfl rfl ?_
  have H8 := H6 _ rfl
  generalize umem m5 1 17 1 = m7 at H8 ⊢
  refine x_s (q := (.iload_n 2, 0, 0, 0)) (cod_149 rfl) rfl rfl rfl ?_
  refine x_retI (t := .int) (cod_149 rfl) rfl rfl rfl ?_
  exact H8
set_option maxRecDepth 100000 in
theorem w150_0 {m : Mm} {K : Int → Mm → Prop}  
  (H : TrI 151 [(1, 280)] m fun v3 m1 => K v3 m1) : X 150 0 [(1, 1)] [] m (qI K) := by
  refine x_s (q := (.aload_n 0, 0, 0, 0)) (cod_150 rfl) rfl rfl rfl ?_
  refine x_gc (kk := 7) (c := 280) (t := 1) (cod_150 rfl) sq_p_1 sq_l_1_7 rfl rfl ?_
  refine x_call (as := [(1, 280)]) (rest := []) (cod_150 rfl) rfl rfl (by decide) (by decide) rfl rfl (Nat.le_of_ble_eq_true rfl) (rcv0 sq_l_280_0 sq_p_280 (by decide)) (Nat.le_of_ble_eq_true rfl) ?_
  refine X.imp H ?_
  rintro _ m1 ⟨v3, rfl, H2⟩
  show X 150 7 [(1, 1)] [(0, v3)] m1 _
  refine x_retI (t := .int) (cod_150 rfl) rfl rfl rfl ?_
  exact H2
theorem e150 {m : Mm} {K : Int → Mm → Prop}  
  (H : TrI 151 [(1, 280)] m fun v3 m1 => K v3 m1) : TrI 150 [(1, 1)] m K := by
  exact w150_0  H
set_option maxRecDepth 100000 in
theorem w151_0 {m : Mm} {K : Int → Mm → Prop} (a0 : Int) (ta0 : shp a0 = 22)
  (H : X 151 4 [(1, a0), (0, 0), (0, 0)] [] m (qI K)) : X 151 0 [(1, a0), (9, 0), (9, 0)] [] m (qI K) := by
  refine x_s (q := (.iconst 0, 0, 0, 0)) (cod_151 rfl) rfl rfl rfl ?_
  refine x_s (q := (.istore_n 1, 0, 0, 0)) (cod_151 rfl) rfl rfl rfl ?_
  refine x_s (q := (.iconst 0, 0, 0, 0)) (cod_151 rfl) rfl rfl rfl ?_
  refine x_s (q := (.istore_n 2, 0, 0, 0)) (cod_151 rfl) rfl rfl rfl ?_
  exact H
theorem e151 {m : Mm} {K : Int → Mm → Prop} (a0 : Int) (ta0 : shp a0 = 22)
  (H : X 151 4 [(1, a0), (0, 0), (0, 0)] [] m (qI K)) : TrI 151 [(1, a0)] m K := by
  exact w151_0 a0 ta0 H
set_option maxRecDepth 100000 in
theorem w151_4 {m : Mm} {K : Int → Mm → Prop} (a0 : Int) (a1 : Int) (a2 : Int) (ta0 : shp a0 = 22)
  (H : (a2 < 10 → (0 ≤ a2 ∧ a2 < 10) ∧ ((m (a0 + 3) a2) = (-9) → X 151 4 [(1, a0), (0, a1), (0, wr (a2 + 1))] [] m (qI K)) ∧ (¬ (m (a0 + 3) a2) = (-9) → X 151 4 [(1, a0), (0, ior a1 (ishl 1 a2)), (0, wr (a2 + 1))] [] m (qI K))) ∧ (¬ a2 < 10 → K a1 m)) : X 151 4 [(1, a0), (0, a1), (0, a2)] [] m (qI K) := by
  refine x_s (q := (.iload_n 2, 0, 0, 0)) (cod_151 rfl) rfl rfl rfl ?_
  refine x_s (q := (.bipush 10, 0, 0, 0)) (cod_151 rfl) rfl rfl rfl ?_
  refine x_ic (p := ¬ a2 < 10) (tgt := 33) (cod_151 rfl) (by decide) xn_ge (fun h => ?_) (fun h => ?_)
  · have H1 := H.2 h
    refine x_s (q := (.iload_n 1, 0, 0, 0)) (cod_151 rfl) rfl rfl rfl ?_
    refine x_retI (t := .int) (cod_151 rfl) rfl rfl rfl ?_
    exact H1
  · have H2 := H.1 (Classical.not_not.mp h)
    refine x_aldn (cod_151 rfl) rfl (pos_of ta0 (by decide)) ?_
    refine x_gc (kk := 2) (c := (a0 + 3)) (t := 1) (cod_151 rfl) ta0 (sq_c_2_2 ta0) rfl rfl ?_
    refine x_s (q := (.iload_n 2, 0, 0, 0)) (cod_151 rfl) rfl rfl rfl ?_
    obtain ⟨c3, H4⟩ := H2
    refine x_iald (cod_151 rfl) (sq_ac_2_2 ta0).s ((sq_ac_2_2 ta0).k c3.1 c3.2) ?_
    refine x_s (q := (.bipush (-9), 0, 0, 0)) (cod_151 rfl) rfl rfl rfl ?_
    refine x_ic (p := (m (a0 + 3) a2) = (-9)) (tgt := 27) (cod_151 rfl) (by decide) xj_eq (fun h => ?_) (fun h => ?_)
    · have H5 := H4.1 h
      refine x_s (q := (.iinc 2 1, 0, 0, 0)) (cod_151 rfl) rfl rfl rfl ?_
      refine x_go (tgt := 4) (cod_151 rfl) (by decide) ?_
      exact H5
    · have H6 := H4.2 h
      refine x_s (q := (.iload_n 1, 0, 0, 0)) (cod_151 rfl) rfl rfl rfl ?_
      refine x_s (q := (.iconst 1, 0, 0, 0)) (cod_151 rfl) rfl rfl rfl ?_
      refine x_s (q := (.iload_n 2, 0, 0, 0)) (cod_151 rfl) rfl rfl rfl ?_
      refine x_s (q := (.ishl, 0, 0, 0)) (cod_151 rfl) rfl rfl rfl ?_
      show X 151 25 [(1, a0), (0, a1), (0, a2)] [(0, ishl 1 a2), (0, a1)] m _
      refine x_s (q := (.ior, 0, 0, 0)) (cod_151 rfl) rfl rfl rfl ?_
      show X 151 26 [(1, a0), (0, a1), (0, a2)] [(0, ior a1 (ishl 1 a2))] m _
      refine x_s (q := (.istore_n 1, 0, 0, 0)) (cod_151 rfl) rfl rfl rfl ?_
      refine x_s (q := (.iinc 2 1, 0, 0, 0)) (cod_151 rfl) rfl rfl rfl ?_
      refine x_go (tgt := 4) (cod_151 rfl) (by decide) ?_
      exact H6
set_option maxRecDepth 100000 in
theorem w152_0 {m : Mm} {K : Int → Mm → Prop} (a1 : Int) (a2 : Int) (a3 : Int) 
  (H : (a1 < (-1) → K (-1) m) ∧ (¬ a1 < (-1) → (a2 < 1 → K (-1) m) ∧ (¬ a2 < 1 → (a2 > 100 → K (-1) m) ∧ (¬ a2 > 100 → (a3 < 0 → K (-1) m) ∧ (¬ a3 < 0 → (a3 > 1 → K (-1) m) ∧ (¬ a3 > 1 → TrV 76 [(1, 1)] m fun m11 => (a1 = (-1) → shp (m11 1 3) = 30 ∧ X 152 62 [(1, 1), (0, a1), (0, a2), (0, a3), (2, m11 (m11 1 3) 9), (9, 0), (0, 0), (0, 1000000), (0, 0), (9, 0), (9, 0), (9, 0), (9, 0), (9, 0)] [] m11 (qI K)) ∧ (¬ a1 = (-1) → X 152 62 [(1, 1), (0, a1), (0, a2), (0, a3), (2, a1), (9, 0), (0, 0), (0, 1000000), (0, 0), (9, 0), (9, 0), (9, 0), (9, 0), (9, 0)] [] m11 (qI K)))))))) : X 152 0 [(1, 1), (0, a1), (0, a2), (0, a3), (9, 0), (9, 0), (9, 0), (9, 0), (9, 0), (9, 0), (9, 0), (9, 0), (9, 0), (9, 0)] [] m (qI K) := by
  refine x_s (q := (.iload_n 1, 0, 0, 0)) (cod_152 rfl) rfl rfl rfl ?_
  refine x_s (q := (.iconst (-1), 0, 0, 0)) (cod_152 rfl) rfl rfl rfl ?_
  refine x_ic (p := a1 < (-1)) (tgt := 25) (cod_152 rfl) (by decide) xj_lt (fun h => ?_) (fun h => ?_)
  · have H1 := H.1 h
    refine x_s (q := (.iconst (-1), 0, 0, 0)) (cod_152 rfl) rfl rfl rfl ?_
    refine x_retI (t := .int) (cod_152 rfl) rfl rfl rfl ?_
    exact H1
  · have H2 := H.2 h
    refine x_s (q := (.iload_n 2, 0, 0, 0)) (cod_152 rfl) rfl rfl rfl ?_
    refine x_s (q := (.iconst 1, 0, 0, 0)) (cod_152 rfl) rfl rfl rfl ?_
    refine x_ic (p := a2 < 1) (tgt := 25) (cod_152 rfl) (by decide) xj_lt (fun h => ?_) (fun h => ?_)
    · have H3 := H2.1 h
      refine x_s (q := (.iconst (-1), 0, 0, 0)) (cod_152 rfl) rfl rfl rfl ?_
      refine x_retI (t := .int) (cod_152 rfl) rfl rfl rfl ?_
      exact H3
    · have H4 := H2.2 h
      refine x_s (q := (.iload_n 2, 0, 0, 0)) (cod_152 rfl) rfl rfl rfl ?_
      refine x_s (q := (.bipush 100, 0, 0, 0)) (cod_152 rfl) rfl rfl rfl ?_
      refine x_ic (p := a2 > 100) (tgt := 25) (cod_152 rfl) (by decide) xj_gt (fun h => ?_) (fun h => ?_)
      · have H5 := H4.1 h
        refine x_s (q := (.iconst (-1), 0, 0, 0)) (cod_152 rfl) rfl rfl rfl ?_
        refine x_retI (t := .int) (cod_152 rfl) rfl rfl rfl ?_
        exact H5
      · have H6 := H4.2 h
        refine x_s (q := (.iload_n 3, 0, 0, 0)) (cod_152 rfl) rfl rfl rfl ?_
        refine x_if (p := a3 < 0) (tgt := 25) (cod_152 rfl) (by decide) xj_lt (fun h => ?_) (fun h => ?_)
        · have H7 := H6.1 h
          refine x_s (q := (.iconst (-1), 0, 0, 0)) (cod_152 rfl) rfl rfl rfl ?_
          refine x_retI (t := .int) (cod_152 rfl) rfl rfl rfl ?_
          exact H7
        · have H8 := H6.2 h
          refine x_s (q := (.iload_n 3, 0, 0, 0)) (cod_152 rfl) rfl rfl rfl ?_
          refine x_s (q := (.iconst 1, 0, 0, 0)) (cod_152 rfl) rfl rfl rfl ?_
          refine x_ic (p := ¬ a3 > 1) (tgt := 27) (cod_152 rfl) (by decide) xn_le (fun h => ?_) (fun h => ?_)
          · have H9 := H8.2 h
            refine x_s (q := (.aload_n 0, 0, 0, 0)) (cod_152 rfl) rfl rfl rfl ?_
            refine x_call (as := [(1, 1)]) (rest := []) (cod_152 rfl) rfl rfl (by decide) (by decide) rfl rfl (Nat.le_of_ble_eq_true rfl) (rcv0 sq_l_1_0 sq_p_1 (by decide)) (Nat.le_of_ble_eq_true rfl) ?_
            refine X.imp H9 ?_
            rintro _ m11 ⟨rfl, H12⟩
            show X 152 31 [(1, 1), (0, a1), (0, a2), (0, a3), (9, 0), (9, 0), (9, 0), (9, 0), (9, 0), (9, 0), (9, 0), (9, 0), (9, 0), (9, 0)] [] m11 _
            refine x_s (q := (.iload_n 1, 0, 0, 0)) (cod_152 rfl) rfl rfl rfl ?_
            refine x_s (q := (.iconst (-1), 0, 0, 0)) (cod_152 rfl) rfl rfl rfl ?_
            refine x_ic (p := ¬ a1 = (-1)) (tgt := 47) (cod_152 rfl) (by decide) xj_ne (fun h => ?_) (fun h => ?_)
            · have H13 := H12.2 h
              refine x_s (q := (.iload_n 1, 0, 0, 0)) (cod_152 rfl) rfl rfl rfl ?_
              refine x_s (q := (.i2l, 0, 0, 0)) (cod_152 rfl) rfl rfl rfl ?_
              refine x_s (q := (.lstore 4, 0, 0, 0)) (cod_152 rfl) rfl rfl rfl ?_
              refine x_s (q := (.iconst 0, 0, 0, 0)) (cod_152 rfl) rfl rfl rfl ?_
              refine x_s (q := (.istore 6, 0, 0, 0)) (cod_152 rfl) rfl rfl rfl ?_
              refine x_s (q := (.ldc_w 279, 1000000, 0, 0)) (cod_152 rfl) rfl rfl rfl ?_
              refine x_s (q := (.istore 7, 0, 0, 0)) (cod_152 rfl) rfl rfl rfl ?_
              refine x_s (q := (.iconst 0, 0, 0, 0)) (cod_152 rfl) rfl rfl rfl ?_
              refine x_s (q := (.istore 8, 0, 0, 0)) (cod_152 rfl) rfl rfl rfl ?_
              exact H13
            · have H14 := H12.1 (Classical.not_not.mp h)
              refine x_s (q := (.aload_n 0, 0, 0, 0)) (cod_152 rfl) rfl rfl rfl ?_
              refine x_gf (kk := 3) (t := 1) (cod_152 rfl) sq_p_1 sq_l_1_3 rfl rfl ?_
              obtain ⟨c15, H16⟩ := H14
              refine x_gf (kk := 9) (t := 0) (cod_152 rfl) c15 (sq_c_10_9 c15) rfl rfl ?_
              refine x_s (q := (.i2l, 0, 0, 0)) (cod_152 rfl) rfl rfl rfl ?_
              refine x_go (tgt := 49) (cod_152 rfl) (by decide) ?_
              refine x_s (q := (.lstore 4, 0, 0, 0)) (cod_152 rfl) rfl rfl rfl ?_
              refine x_s (q := (.iconst 0, 0, 0, 0)) (cod_152 rfl) rfl rfl rfl ?_
              refine x_s (q := (.istore 6, 0, 0, 0)) (cod_152 rfl) rfl rfl rfl ?_
              refine x_s (q := (.ldc_w 279, 1000000, 0, 0)) (cod_152 rfl) rfl rfl rfl ?_
              refine x_s (q := (.istore 7, 0, 0, 0)) (cod_152 rfl) rfl rfl rfl ?_
              refine x_s (q := (.iconst 0, 0, 0, 0)) (cod_152 rfl) rfl rfl rfl ?_
              refine x_s (q := (.istore 8, 0, 0, 0)) (cod_152 rfl) rfl rfl rfl ?_
              exact H16
          · have H10 := H8.1 (Classical.not_not.mp h)
            refine x_s (q := (.iconst (-1), 0, 0, 0)) (cod_152 rfl) rfl rfl rfl ?_
            refine x_retI (t := .int) (cod_152 rfl) rfl rfl rfl ?_
            exact H10
theorem e152 {m : Mm} {K : Int → Mm → Prop} (a1 : Int) (a2 : Int) (a3 : Int) 
  (H : (a1 < (-1) → K (-1) m) ∧ (¬ a1 < (-1) → (a2 < 1 → K (-1) m) ∧ (¬ a2 < 1 → (a2 > 100 → K (-1) m) ∧ (¬ a2 > 100 → (a3 < 0 → K (-1) m) ∧ (¬ a3 < 0 → (a3 > 1 → K (-1) m) ∧ (¬ a3 > 1 → TrV 76 [(1, 1)] m fun m11 => (a1 = (-1) → shp (m11 1 3) = 30 ∧ X 152 62 [(1, 1), (0, a1), (0, a2), (0, a3), (2, m11 (m11 1 3) 9), (9, 0), (0, 0), (0, 1000000), (0, 0), (9, 0), (9, 0), (9, 0), (9, 0), (9, 0)] [] m11 (qI K)) ∧ (¬ a1 = (-1) → X 152 62 [(1, 1), (0, a1), (0, a2), (0, a3), (2, a1), (9, 0), (0, 0), (0, 1000000), (0, 0), (9, 0), (9, 0), (9, 0), (9, 0), (9, 0)] [] m11 (qI K)))))))) : TrI 152 [(1, 1), (0, a1), (0, a2), (0, a3)] m K := by
  exact w152_0 a1 a2 a3 H
set_option maxRecDepth 100000 in
theorem w152_62 {m : Mm} {K : Int → Mm → Prop} (ua1 : aV) (a2 : Int) (a3 : Int) (a4 : Int) (a6 : Int) (a7 : Int) (a8 : Int) (ua9 : aV) (ua10 : aV) (ua11 : aV) (ua12 : aV) (ua13 : aV) 
  (H : (a8 < a2 → X 152 78 [(1, 1), ua1, (0, a2), (0, a3), (2, a4), (9, 0), (0, a6), (0, a7), (0, a8), (0, 0), (0, (-2)), (0, 0), ua12, ua13] [] m (qI K)) ∧ (¬ a8 < a2 → (a3 = 0 → K a6 m) ∧ (¬ a3 = 0 → K (if a7 < 1000000 then a7 else -2) m))) : X 152 62 [(1, 1), ua1, (0, a2), (0, a3), (2, a4), (9, 0), (0, a6), (0, a7), (0, a8), ua9, ua10, ua11, ua12, ua13] [] m (qI K) := by
  refine x_s (q := (.iload 8, 0, 0, 0)) (cod_152 rfl) rfl rfl rfl ?_
  refine x_s (q := (.iload_n 2, 0, 0, 0)) (cod_152 rfl) rfl rfl rfl ?_
  refine x_ic (p := ¬ a8 < a2) (tgt := 200) (cod_152 rfl) (by decide) xn_ge (fun h => ?_) (fun h => ?_)
  · have H1 := H.2 h
    refine x_s (q := (.iload_n 3, 0, 0, 0)) (cod_152 rfl) rfl rfl rfl ?_
    refine x_if (p := ¬ a3 = 0) (tgt := 209) (cod_152 rfl) (by decide) xj_ne (fun h => ?_) (fun h => ?_)
    · have H3 := H1.2 h
      refine x_s (q := (.iload 7, 0, 0, 0)) (cod_152 rfl) rfl rfl rfl ?_
      refine x_call (as := [(0, a7)]) (rest := []) (cod_152 rfl) rfl rfl (by decide) (by decide) rfl rfl (Nat.le_of_ble_eq_true rfl) rfl (Nat.le_of_ble_eq_true rfl) ?_
      refine x_pure (p105) ?_
      show X 152 214 [(1, 1), ua1, (0, a2), (0, a3), (2, a4), (9, 0), (0, a6), (0, a7), (0, a8), ua9, ua10, ua11, ua12, ua13] [(0, if a7 < 1000000 then a7 else -2)] m _
      refine x_retI (t := .int) (cod_152 rfl) rfl rfl rfl ?_
      exact H3
    · have H4 := H1.1 (Classical.not_not.mp h)
      refine x_s (q := (.iload 6, 0, 0, 0)) (cod_152 rfl) rfl rfl rfl ?_
      refine x_go (tgt := 214) (cod_152 rfl) (by decide) ?_
      refine x_retI (t := .int) (cod_152 rfl) rfl rfl rfl ?_
      exact H4
  · have H2 := H.1 (Classical.not_not.mp h)
    refine x_s (q := (.iconst 0, 0, 0, 0)) (cod_152 rfl) rfl rfl rfl ?_
    refine x_s (q := (.istore 9, 0, 0, 0)) (cod_152 rfl) rfl rfl rfl ?_
    refine x_s (q := (.bipush (-2), 0, 0, 0)) (cod_152 rfl) rfl rfl rfl ?_
    refine x_s (q := (.istore 10, 0, 0, 0)) (cod_152 rfl) rfl rfl rfl ?_
    refine x_s (q := (.iconst 0, 0, 0, 0)) (cod_152 rfl) rfl rfl rfl ?_
    refine x_s (q := (.istore 11, 0, 0, 0)) (cod_152 rfl) rfl rfl rfl ?_
    exact H2
set_option maxRecDepth 100000 in
theorem w152_78 {m : Mm} {K : Int → Mm → Prop} (ua1 : aV) (a2 : Int) (a3 : Int) (a4 : Int) (a6 : Int) (a7 : Int) (a8 : Int) (a9 : Int) (a10 : Int) (a11 : Int) (ua12 : aV) (ua13 : aV) 
  (H : shp (m 1 5) = 24 ∧ (a11 < (m (m 1 5) 4) → TrI 153 [(1, 1), (0, a11), (2, lshr (land (wl ((wl (a4 * 1103515245)) + 12345)) 2147483647) 16)] m fun v9 m7 => (0 ≤ a11 ∧ a11 < 10) ∧ (0 ≤ v9 ∧ v9 < 24) ∧ shp (m7 1 3) = 30 ∧ v_T m7 (m7 1 3) ∧ X 152 78 [(1, 1), ua1, (0, a2), (0, a3), (2, land (wl ((wl (a4 * 1103515245)) + 12345)) 2147483647), (9, 0), (0, a6), (0, a7), (0, a8), (0, wr (a9 + (wr ((m7 (451 + a11) v9) + (jnC m7 (m7 1 3) a10 (m7 (440 + a11) v9)))))), (0, m7 (440 + a11) v9), (0, wr (a11 + 1)), (0, v9), (0, m7 (440 + a11) v9)] [] m7 (qI K)) ∧ (¬ a11 < (m (m 1 5) 4) → (a9 < 1000000 → X 152 62 [(1, 1), ua1, (0, a2), (0, a3), (2, a4), (9, 0), (0, wr (a6 + 1)), (0, min a7 a9), (0, wr (a8 + 1)), (0, a9), (0, a10), (0, a11), ua12, ua13] [] m (qI K)) ∧ (¬ a9 < 1000000 → X 152 62 [(1, 1), ua1, (0, a2), (0, a3), (2, a4), (9, 0), (0, a6), (0, a7), (0, wr (a8 + 1)), (0, a9), (0, a10), (0, a11), ua12, ua13] [] m (qI K)))) : X 152 78 [(1, 1), ua1, (0, a2), (0, a3), (2, a4), (9, 0), (0, a6), (0, a7), (0, a8), (0, a9), (0, a10), (0, a11), ua12, ua13] [] m (qI K) := by
  refine x_s (q := (.iload 11, 0, 0, 0)) (cod_152 rfl) rfl rfl rfl ?_
  refine x_s (q := (.aload_n 0, 0, 0, 0)) (cod_152 rfl) rfl rfl rfl ?_
  refine x_gf (kk := 5) (t := 1) (cod_152 rfl) sq_p_1 sq_l_1_5 rfl rfl ?_
  obtain ⟨c1, H2⟩ := H
  refine x_gf (kk := 4) (t := 0) (cod_152 rfl) c1 (sq_c_4_4 c1) rfl rfl ?_
  refine x_ic (p := ¬ a11 < (m (m 1 5) 4)) (tgt := 174) (cod_152 rfl) (by decide) xn_ge (fun h => ?_) (fun h => ?_)
  · have H3 := H2.2 h
    refine x_s (q := (.iload 9, 0, 0, 0)) (cod_152 rfl) rfl rfl rfl ?_
    refine x_s (q := (.ldc_w 279, 1000000, 0, 0)) (cod_152 rfl) rfl rfl rfl ?_
    refine x_ic (p := ¬ a9 < 1000000) (tgt := 194) (cod_152 rfl) (by decide) xn_ge (fun h => ?_) (fun h => ?_)
    · have H5 := H3.2 h
      refine x_s (q := (.iinc 8 1, 0, 0, 0)) (cod_152 rfl) rfl rfl rfl ?_
      refine x_go (tgt := 62) (cod_152 rfl) (by decide) ?_
      exact H5
    · have H6 := H3.1 (Classical.not_not.mp h)
      refine x_s (q := (.iinc 6 1, 0, 0, 0)) (cod_152 rfl) rfl rfl rfl ?_
      refine x_s (q := (.iload 7, 0, 0, 0)) (cod_152 rfl) rfl rfl rfl ?_
      refine x_s (q := (.iload 9, 0, 0, 0)) (cod_152 rfl) rfl rfl rfl ?_
      refine x_m7 (cod_152 rfl) rfl rfl (Nat.le_of_ble_eq_true rfl) ?_
      refine x_s (q := (.istore 7, 0, 0, 0)) (cod_152 rfl) rfl rfl rfl ?_
      refine x_s (q := (.iinc 8 1, 0, 0, 0)) (cod_152 rfl) rfl rfl rfl ?_
      refine x_go (tgt := 62) (cod_152 rfl) (by decide) ?_
      exact H6
  · have H4 := H2.1 (Classical.not_not.mp h)
    refine x_s (q := (.lload 4, 0, 0, 0)) (cod_152 rfl) rfl rfl rfl ?_
    refine x_s (q := (.ldc2_w 344, 1103515245, 0, 0)) (cod_152 rfl) rfl rfl rfl ?_
    show X 152 95 [(1, 1), ua1, (0, a2), (0, a3), (2, a4), (9, 0), (0, a6), (0, a7), (0, a8), (0, a9), (0, a10), (0, a11), ua12, ua13] [(2, 1103515245), (2, a4)] m _
    refine x_s (q := (.lmul, 0, 0, 0)) (cod_152 rfl) rfl rfl rfl ?_
    refine x_s (q := (.ldc2_w 346, 12345, 0, 0)) (cod_152 rfl) rfl rfl rfl ?_
    show X 152 99 [(1, 1), ua1, (0, a2), (0, a3), (2, a4), (9, 0), (0, a6), (0, a7), (0, a8), (0, a9), (0, a10), (0, a11), ua12, ua13] [(2, 12345), (2, wl (a4 * 1103515245))] m _
    refine x_s (q := (.ladd, 0, 0, 0)) (cod_152 rfl) rfl rfl rfl ?_
    refine x_s (q := (.ldc2_w 348, 2147483647, 0, 0)) (cod_152 rfl) rfl rfl rfl ?_
    show X 152 103 [(1, 1), ua1, (0, a2), (0, a3), (2, a4), (9, 0), (0, a6), (0, a7), (0, a8), (0, a9), (0, a10), (0, a11), ua12, ua13] [(2, 2147483647), (2, wl ((wl (a4 * 1103515245)) + 12345))] m _
    refine x_s (q := (.land, 0, 0, 0)) (cod_152 rfl) rfl rfl rfl ?_
    show X 152 104 [(1, 1), ua1, (0, a2), (0, a3), (2, a4), (9, 0), (0, a6), (0, a7), (0, a8), (0, a9), (0, a10), (0, a11), ua12, ua13] [(2, land (wl ((wl (a4 * 1103515245)) + 12345)) 2147483647)] m _
    refine x_s (q := (.lstore 4, 0, 0, 0)) (cod_152 rfl) rfl rfl rfl ?_
    refine x_s (q := (.aload_n 0, 0, 0, 0)) (cod_152 rfl) rfl rfl rfl ?_
    refine x_s (q := (.iload 11, 0, 0, 0)) (cod_152 rfl) rfl rfl rfl ?_
    refine x_s (q := (.lload 4, 0, 0, 0)) (cod_152 rfl) rfl rfl rfl ?_
    refine x_s (q := (.bipush 16, 0, 0, 0)) (cod_152 rfl) rfl rfl rfl ?_
    refine x_s (q := (.lshr, 0, 0, 0)) (cod_152 rfl) rfl rfl rfl ?_
    show X 152 114 [(1, 1), ua1, (0, a2), (0, a3), (2, land (wl ((wl (a4 * 1103515245)) + 12345)) 2147483647), (9, 0), (0, a6), (0, a7), (0, a8), (0, a9), (0, a10), (0, a11), ua12, ua13] [(2, lshr (land (wl ((wl (a4 * 1103515245)) + 12345)) 2147483647) 16), (0, a11), (1, 1)] m _
    refine x_call (as := [(1, 1), (0, a11), (2, lshr (land (wl ((wl (a4 * 1103515245)) + 12345)) 2147483647) 16)]) (rest := []) (cod_152 rfl) rfl rfl (by decide) (by decide) rfl rfl (Nat.le_of_ble_eq_true rfl) (rcv0 sq_l_1_0 sq_p_1 (by decide)) (Nat.le_of_ble_eq_true rfl) ?_
    refine X.imp H4 ?_
    rintro _ m7 ⟨v9, rfl, H8⟩
    show X 152 117 [(1, 1), ua1, (0, a2), (0, a3), (2, land (wl ((wl (a4 * 1103515245)) + 12345)) 2147483647), (9, 0), (0, a6), (0, a7), (0, a8), (0, a9), (0, a10), (0, a11), ua12, ua13] [(0, v9)] m7 _
    refine x_s (q := (.istore 12, 0, 0, 0)) (cod_152 rfl) rfl rfl rfl ?_
    refine x_s (q := (.aload_n 0, 0, 0, 0)) (cod_152 rfl) rfl rfl rfl ?_
    refine x_gc (kk := 10) (c := 411) (t := 1) (cod_152 rfl) sq_p_1 sq_l_1_10 rfl rfl ?_
    refine x_gc (kk := 7) (c := 439) (t := 1) (cod_152 rfl) sq_p_411 sq_l_411_7 rfl rfl ?_
    refine x_s (q := (.iload 11, 0, 0, 0)) (cod_152 rfl) rfl rfl rfl ?_
    obtain ⟨c10, H11⟩ := H8
    refine x_aaldc (c := (440 + a11)) (cod_152 rfl) (by rw [(sq_ro_439 (j := a11) c10.1 c10.2).2]; decide) (sq_ro_439 (j := a11) c10.1 c10.2).1 ?_
    refine x_s (q := (.iload 12, 0, 0, 0)) (cod_152 rfl) rfl rfl rfl ?_
    obtain ⟨c12, H13⟩ := H11
    refine x_iald (cod_152 rfl) (sq_rw_439 (j := a11) c10.1 c10.2).s ((sq_rw_439 (j := a11) c10.1 c10.2).k c12.1 c12.2) ?_
    refine x_s (q := (.istore 13, 0, 0, 0)) (cod_152 rfl) rfl rfl rfl ?_
    refine x_s (q := (.iload 9, 0, 0, 0)) (cod_152 rfl) rfl rfl rfl ?_
    refine x_s (q := (.aload_n 0, 0, 0, 0)) (cod_152 rfl) rfl rfl rfl ?_
    refine x_gc (kk := 10) (c := 411) (t := 1) (cod_152 rfl) sq_p_1 sq_l_1_10 rfl rfl ?_
    refine x_gc (kk := 8) (c := 450) (t := 1) (cod_152 rfl) sq_p_411 sq_l_411_8 rfl rfl ?_
    refine x_s (q := (.iload 11, 0, 0, 0)) (cod_152 rfl) rfl rfl rfl ?_
    refine x_aaldc (c := (451 + a11)) (cod_152 rfl) (by rw [(sq_ro_450 (j := a11) c10.1 c10.2).2]; decide) (sq_ro_450 (j := a11) c10.1 c10.2).1 ?_
    refine x_s (q := (.iload 12, 0, 0, 0)) (cod_152 rfl) rfl rfl rfl ?_
    refine x_iald (cod_152 rfl) (sq_rw_450 (j := a11) c10.1 c10.2).s ((sq_rw_450 (j := a11) c10.1 c10.2).k c12.1 c12.2) ?_
    refine x_s (q := (.aload_n 0, 0, 0, 0)) (cod_152 rfl) rfl rfl rfl ?_
    refine x_gf (kk := 3) (t := 1) (cod_152 rfl) sq_p_1 sq_l_1_3 rfl rfl ?_
    refine x_s (q := (.iload 10, 0, 0, 0)) (cod_152 rfl) rfl rfl rfl ?_
    refine x_s (q := (.iload 13, 0, 0, 0)) (cod_152 rfl) rfl rfl rfl ?_
    obtain ⟨c14, H15⟩ := H13
    obtain ⟨c16, H17⟩ := H15
    refine x_call (as := [(1, (m7 1 3)), (0, a10), (0, m7 (440 + a11) v9)]) (rest := [(0, m7 (451 + a11) v9), (0, a9)]) (cod_152 rfl) rfl rfl (by decide) (by decide) rfl rfl (Nat.le_of_ble_eq_true rfl) (rcv0 (sq_c_10_0 c14) c14 (by decide)) (Nat.le_of_ble_eq_true rfl) ?_
    refine x_pure (p99 c16) ?_
    show X 152 160 [(1, 1), ua1, (0, a2), (0, a3), (2, land (wl ((wl (a4 * 1103515245)) + 12345)) 2147483647), (9, 0), (0, a6), (0, a7), (0, a8), (0, a9), (0, a10), (0, a11), (0, v9), (0, m7 (440 + a11) v9)] [(0, jnC m7 (m7 1 3) a10 (m7 (440 + a11) v9)), (0, m7 (451 + a11) v9), (0, a9)] m7 _
    refine x_s (q := (.iadd, 0, 0, 0)) (cod_152 rfl) rfl rfl rfl ?_
    refine x_s (q := (.iadd, 0, 0, 0)) (cod_152 rfl) rfl rfl rfl ?_
    refine x_s (q := (.istore 9, 0, 0, 0)) (cod_152 rfl) rfl rfl rfl ?_
    refine x_s (q := (.iload 13, 0, 0, 0)) (cod_152 rfl) rfl rfl rfl ?_
    refine x_s (q := (.istore 10, 0, 0, 0)) (cod_152 rfl) rfl rfl rfl ?_
    refine x_s (q := (.iinc 11 1, 0, 0, 0)) (cod_152 rfl) rfl rfl rfl ?_
    refine x_go (tgt := 78) (cod_152 rfl) (by decide) ?_
    exact H17
