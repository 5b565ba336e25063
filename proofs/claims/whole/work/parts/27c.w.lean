/-! rules of the methods: printed by wip/whole/gen26.py -/
set_option maxRecDepth 100000 in
theorem w199_0 {m : Mm} {K : Int → Mm → Prop}  
  (H : ∀ m1, m1 = umem m 597 0 0 → ((m1 597 26) = 0 → K (-1) m1) ∧ (¬ (m1 597 26) = 0 → TrV 194 [(1, 597), (0, 1), (0, 0)] m1 fun m5 => ∀ m7, m7 = umem m5 597 25 0 → TrI 196 [(1, 597)] m7 fun v11 m9 => TrI 198 [(0, v11)] m9 fun v14 m12 => K v14 m12)) : X 199 0 [(1, 597)] [] m (qI K) := by
  refine x_s (q := (.aload_n 0, 0, 0, 0)) (cod_199 rfl) rfl rfl rfl ?_
  refine x_s (q := (.iconst 0, 0, 0, 0)) (cod_199 rfl) rfl rfl rfl ?_
  refine x_pf (kk := 0) (t := 0) (cod_199 rfl) sq_p_597 sq_l_597_0 rfl rfl rfl ?_
  have H2 := H _ rfl
  generalize umem m 597 0 0 = m1 at H2 ⊢
  refine x_s (q := (.aload_n 0, 0, 0, 0)) (cod_199 rfl) rfl rfl rfl ?_
  refine x_gf (kk := 26) (t := 0) (cod_199 rfl) sq_p_597 sq_l_597_26 rfl rfl ?_
  refine x_if (p := ¬ (m1 597 26) = 0) (tgt := 14) (cod_199 rfl) (by decide) xj_ne (fun h => ?_) (fun h => ?_)
  · have H3 := H2.2 h
    refine x_s (q := (.aload_n 0, 0, 0, 0)) (cod_199 rfl) rfl rfl rfl ?_
    refine x_s (q := (.iconst 1, 0, 0, 0)) (cod_199 rfl) rfl rfl rfl ?_
    refine x_s (q := (.iconst 0, 0, 0, 0)) (cod_199 rfl) rfl rfl rfl ?_
    refine x_call (as := [(1, 597), (0, 1), (0, 0)]) (rest := []) (cod_199 rfl) rfl rfl (by decide) (by decide) rfl rfl (Nat.le_of_ble_eq_true rfl) (rcv0 sq_l_597_0 sq_p_597 (by decide)) (Nat.le_of_ble_eq_true rfl) ?_
    refine X.imp H3 ?_
    rintro _ m5 ⟨rfl, H6⟩
    show X 199 20 [(1, 597)] [] m5 _
    refine x_s (q := (.aload_n 0, 0, 0, 0)) (cod_199 rfl) rfl rfl rfl ?_
    refine x_s (q := (.iconst 0, 0, 0, 0)) (cod_199 rfl) rfl rfl rfl ?_
    refine x_pf (kk := 25) (t := 0) (cod_199 rfl) sq_p_597 sq_l_597_25 rfl rfl rfl ?_
    have H8 := H6 _ rfl
    generalize umem m5 597 25 0 = m7 at H8 ⊢
    refine x_s (q := (.aload_n 0, 0, 0, 0)) (cod_199 rfl) rfl rfl rfl ?_
    refine x_call (as := [(1, 597)]) (rest := []) (cod_199 rfl) rfl rfl (by decide) (by decide) rfl rfl (Nat.le_of_ble_eq_true rfl) (rcv0 sq_l_597_0 sq_p_597 (by decide)) (Nat.le_of_ble_eq_true rfl) ?_
    refine X.imp H8 ?_
    rintro _ m9 ⟨v11, rfl, H10⟩
    show X 199 29 [(1, 597)] [(0, v11)] m9 _
    refine x_call (as := [(0, v11)]) (rest := []) (cod_199 rfl) rfl rfl (by decide) (by decide) rfl rfl (Nat.le_of_ble_eq_true rfl) rfl (Nat.le_of_ble_eq_true rfl) ?_
    refine X.imp H10 ?_
    rintro _ m12 ⟨v14, rfl, H13⟩
    show X 199 32 [(1, 597)] [(0, v14)] m12 _
    refine x_retI (t := .int) (cod_199 rfl) rfl rfl rfl ?_
    exact H13
  · have H4 := H2.1 (Classical.not_not.mp h)
    refine x_s (q := (.iconst (-1), 0, 0, 0)) (cod_199 rfl) rfl rfl rfl ?_
    refine x_retI (t := .int) (cod_199 rfl) rfl rfl rfl ?_
    exact H4
theorem e199 {m : Mm} {K : Int → Mm → Prop}  
  (H : ∀ m1, m1 = umem m 597 0 0 → ((m1 597 26) = 0 → K (-1) m1) ∧ (¬ (m1 597 26) = 0 → TrV 194 [(1, 597), (0, 1), (0, 0)] m1 fun m5 => ∀ m7, m7 = umem m5 597 25 0 → TrI 196 [(1, 597)] m7 fun v11 m9 => TrI 198 [(0, v11)] m9 fun v14 m12 => K v14 m12)) : TrI 199 [(1, 597)] m K := by
  exact w199_0  H
set_option maxRecDepth 100000 in
theorem w200_0 {m : Mm} {K : Int → Mm → Prop} (a1 : Int) (a2 : Int) 
  (H : ∀ m1, m1 = umem m 597 0 0 → m1 597 16 = 0 ∧ ((0 ≤ a1 ∧ a1 ≤ (wr ((m1 602 578) - 1))) → ((a2 < 0 ∨ 6 < a2) → ∀ m8, m8 = umem m1 597 0 2 → K 0 m8) ∧ (a2 = 0 → (m1 597 16 = 0 ∧ 0 ≤ (wr ((wr (11 * a1)) + a2)) ∧ (wr ((wr (11 * a1)) + a2)) < 1166) ∧ K (m1 602 (wr ((wr (11 * a1)) + a2))) m1) ∧ (a2 = 1 → (m1 597 16 = 0 ∧ 0 ≤ (wr ((wr (11 * a1)) + a2)) ∧ (wr ((wr (11 * a1)) + a2)) < 1166) ∧ K (m1 602 (wr ((wr (11 * a1)) + a2))) m1) ∧ (a2 = 2 → (m1 597 16 = 0 ∧ 0 ≤ (wr ((wr (11 * a1)) + a2)) ∧ (wr ((wr (11 * a1)) + a2)) < 1166) ∧ K (m1 602 (wr ((wr (11 * a1)) + a2))) m1) ∧ (a2 = 3 → (m1 597 16 = 0 ∧ 0 ≤ (wr ((wr (11 * a1)) + a2)) ∧ (wr ((wr (11 * a1)) + a2)) < 1166) ∧ K (m1 602 (wr ((wr (11 * a1)) + a2))) m1) ∧ (a2 = 4 → (0 ≤ (wr (0 + a1)) ∧ (wr (0 + a1)) < 1276) ∧ K (m1 607 (wr (0 + a1))) m1) ∧ (a2 = 5 → (0 ≤ (wr (24 + a1)) ∧ (wr (24 + a1)) < 1276) ∧ K (m1 607 (wr (24 + a1))) m1) ∧ (a2 = 6 → v_V m1 a1 ∧ K (wnow m1 a1) m1)) ∧ (¬ (0 ≤ a1 ∧ a1 ≤ (wr ((m1 602 578) - 1))) → ∀ m31, m31 = umem m1 597 0 1 → K 0 m31)) : X 200 0 [(1, 597), (0, a1), (0, a2)] [] m (qI K) := by
  refine x_s (q := (.aload_n 0, 0, 0, 0)) (cod_200 rfl) rfl rfl rfl ?_
  refine x_s (q := (.iconst 0, 0, 0, 0)) (cod_200 rfl) rfl rfl rfl ?_
  refine x_pf (kk := 0) (t := 0) (cod_200 rfl) sq_p_597 sq_l_597_0 rfl rfl rfl ?_
  have H2 := H _ rfl
  generalize umem m 597 0 0 = m1 at H2 ⊢
  refine x_s (q := (.aload_n 0, 0, 0, 0)) (cod_200 rfl) rfl rfl rfl ?_
  refine x_s (q := (.iload_n 1, 0, 0, 0)) (cod_200 rfl) rfl rfl rfl ?_
  refine x_call (as := [(1, 597), (0, a1)]) (rest := []) (cod_200 rfl) rfl rfl (by decide) (by decide) rfl rfl (Nat.le_of_ble_eq_true rfl) (rcv0 sq_l_597_0 sq_p_597 (by decide)) (Nat.le_of_ble_eq_true rfl) ?_
  show X 201 0 [(1, 597), (0, a1)] [] m1 _
  refine x_s (q := (.iload_n 1, 0, 0, 0)) (cod_201 rfl) rfl rfl rfl ?_
  refine x_s (q := (.iconst 0, 0, 0, 0)) (cod_201 rfl) rfl rfl rfl ?_
  refine x_s (q := (.aload_n 0, 0, 0, 0)) (cod_201 rfl) rfl rfl rfl ?_
  refine x_call (as := [(1, 597)]) (rest := [(0, 0), (0, a1)]) (cod_201 rfl) rfl rfl (by decide) (by decide) rfl rfl (Nat.le_of_ble_eq_true rfl) (rcv0 sq_l_597_0 sq_p_597 (by decide)) (Nat.le_of_ble_eq_true rfl) ?_
  show X 181 0 [(1, 597)] [] m1 _
  refine x_s (q := (.aload_n 0, 0, 0, 0)) (cod_181 rfl) rfl rfl rfl ?_
  refine x_s (q := (.sipush 578, 0, 0, 0)) (cod_181 rfl) rfl rfl rfl ?_
  obtain ⟨c3, H4⟩ := H2
  refine x_call (as := [(1, 597), (0, 578)]) (rest := []) (cod_181 rfl) rfl rfl (by decide) (by decide) rfl rfl (Nat.le_of_ble_eq_true rfl) (rcv0 sq_l_597_0 sq_p_597 (by decide)) (Nat.le_of_ble_eq_true rfl) ?_
  refine x_pure (p182a (by decide) c3) ?_
  show X 181 7 [(1, 597)] [(0, m1 602 578)] m1 _
  refine x_rI (t := .int) (cod_181 rfl) rfl rfl rfl ?_
  show X 201 6 [(1, 597), (0, a1)] [(0, m1 602 578), (0, 0), (0, a1)] m1 _
  refine x_s (q := (.iconst 1, 0, 0, 0)) (cod_201 rfl) rfl rfl rfl ?_
  refine x_s (q := (.isub, 0, 0, 0)) (cod_201 rfl) rfl rfl rfl ?_
  refine x_call (as := [(0, a1), (0, 0), (0, wr ((m1 602 578) - 1))]) (rest := []) (cod_201 rfl) rfl rfl (by decide) (by decide) rfl rfl (Nat.le_of_ble_eq_true rfl) rfl (Nat.le_of_ble_eq_true rfl) ?_
  refine x_pure (p172) ?_
  show X 201 11 [(1, 597), (0, a1)] [(0, bi (0 ≤ a1 ∧ a1 ≤ (wr ((m1 602 578) - 1))))] m1 _
  refine x_rI (t := .boolean) (cod_201 rfl) rfl rfl (bok_b (bi_01 _)) ?_
  show X 200 10 [(1, 597), (0, a1), (0, a2)] [(0, bi (0 ≤ a1 ∧ a1 ≤ (wr ((m1 602 578) - 1))))] m1 _
  refine x_if (p := 0 ≤ a1 ∧ a1 ≤ (wr ((m1 602 578) - 1))) (tgt := 19) (cod_200 rfl) (by decide) xb_ne (fun h => ?_) (fun h => ?_)
  · have H5 := H4.1 h
    refine x_s (q := (.iload_n 2, 0, 0, 0)) (cod_200 rfl) rfl rfl rfl ?_
    refine x_tsw (cod_200 rfl) (by decide) (by decide) (by decide) (fun h => ?_) (fun i o ho h => ?_)
    · have H7 := H5.1 h
      refine x_s (q := (.aload_n 0, 0, 0, 0)) (cod_200 rfl) rfl rfl rfl ?_
      refine x_s (q := (.iconst 2, 0, 0, 0)) (cod_200 rfl) rfl rfl rfl ?_
      refine x_call (as := [(1, 597), (0, 2)]) (rest := []) (cod_200 rfl) rfl rfl (by decide) (by decide) rfl rfl (Nat.le_of_ble_eq_true rfl) (rcv0 sq_l_597_0 sq_p_597 (by decide)) (Nat.le_of_ble_eq_true rfl) ?_
      show X 202 0 [(1, 597), (0, 2)] [] m1 _
      refine x_s (q := (.aload_n 0, 0, 0, 0)) (cod_202 rfl) rfl rfl rfl ?_
      refine x_s (q := (.iload_n 1, 0, 0, 0)) (cod_202 rfl) rfl rfl rfl ?_
      refine x_pf (kk := 0) (t := 0) (cod_202 rfl) sq_p_597 sq_l_597_0 rfl rfl rfl ?_
      have H9 := H7 _ rfl
      generalize umem m1 597 0 2 = m8 at H9 ⊢
      refine x_s (q := (.iconst 0, 0, 0, 0)) (cod_202 rfl) rfl rfl rfl ?_
      refine x_rI (t := .int) (cod_202 rfl) rfl rfl rfl ?_
      show X 200 103 [(1, 597), (0, a1), (0, a2)] [(0, 0)] m8 _
      refine x_retI (t := .int) (cod_200 rfl) rfl rfl rfl ?_
      exact H9
    · match i, ho with
      | 0, ho =>
        cases ho
        have H10 := H5.2.1 (by omega)
        refine x_s (q := (.aload_n 0, 0, 0, 0)) (cod_200 rfl) rfl rfl rfl ?_
        refine x_s (q := (.bipush 11, 0, 0, 0)) (cod_200 rfl) rfl rfl rfl ?_
        refine x_s (q := (.iload_n 1, 0, 0, 0)) (cod_200 rfl) rfl rfl rfl ?_
        refine x_s (q := (.imul, 0, 0, 0)) (cod_200 rfl) rfl rfl rfl ?_
        refine x_s (q := (.iload_n 2, 0, 0, 0)) (cod_200 rfl) rfl rfl rfl ?_
        refine x_s (q := (.iadd, 0, 0, 0)) (cod_200 rfl) rfl rfl rfl ?_
        obtain ⟨c11, H12⟩ := H10
        refine x_call (as := [(1, 597), (0, wr ((wr (11 * a1)) + a2))]) (rest := []) (cod_200 rfl) rfl rfl (by decide) (by decide) rfl rfl (Nat.le_of_ble_eq_true rfl) (rcv0 sq_l_597_0 sq_p_597 (by decide)) (Nat.le_of_ble_eq_true rfl) ?_
        refine x_pure (p182ax c11) ?_
        show X 200 74 [(1, 597), (0, a1), (0, a2)] [(0, m1 602 (wr ((wr (11 * a1)) + a2)))] m1 _
        refine x_retI (t := .int) (cod_200 rfl) rfl rfl rfl ?_
        exact H12
      | 1, ho =>
        cases ho
        have H13 := H5.2.2.1 (by omega)
        refine x_s (q := (.aload_n 0, 0, 0, 0)) (cod_200 rfl) rfl rfl rfl ?_
        refine x_s (q := (.bipush 11, 0, 0, 0)) (cod_200 rfl) rfl rfl rfl ?_
        refine x_s (q := (.iload_n 1, 0, 0, 0)) (cod_200 rfl) rfl rfl rfl ?_
        refine x_s (q := (.imul, 0, 0, 0)) (cod_200 rfl) rfl rfl rfl ?_
        refine x_s (q := (.iload_n 2, 0, 0, 0)) (cod_200 rfl) rfl rfl rfl ?_
        refine x_s (q := (.iadd, 0, 0, 0)) (cod_200 rfl) rfl rfl rfl ?_
        obtain ⟨c14, H15⟩ := H13
        refine x_call (as := [(1, 597), (0, wr ((wr (11 * a1)) + a2))]) (rest := []) (cod_200 rfl) rfl rfl (by decide) (by decide) rfl rfl (Nat.le_of_ble_eq_true rfl) (rcv0 sq_l_597_0 sq_p_597 (by decide)) (Nat.le_of_ble_eq_true rfl) ?_
        refine x_pure (p182ax c14) ?_
        show X 200 74 [(1, 597), (0, a1), (0, a2)] [(0, m1 602 (wr ((wr (11 * a1)) + a2)))] m1 _
        refine x_retI (t := .int) (cod_200 rfl) rfl rfl rfl ?_
        exact H15
      | 2, ho =>
        cases ho
        have H16 := H5.2.2.2.1 (by omega)
        refine x_s (q := (.aload_n 0, 0, 0, 0)) (cod_200 rfl) rfl rfl rfl ?_
        refine x_s (q := (.bipush 11, 0, 0, 0)) (cod_200 rfl) rfl rfl rfl ?_
        refine x_s (q := (.iload_n 1, 0, 0, 0)) (cod_200 rfl) rfl rfl rfl ?_
        refine x_s (q := (.imul, 0, 0, 0)) (cod_200 rfl) rfl rfl rfl ?_
        refine x_s (q := (.iload_n 2, 0, 0, 0)) (cod_200 rfl) rfl rfl rfl ?_
        refine x_s (q := (.iadd, 0, 0, 0)) (cod_200 rfl) rfl rfl rfl ?_
        obtain ⟨c17, H18⟩ := H16
        refine x_call (as := [(1, 597), (0, wr ((wr (11 * a1)) + a2))]) (rest := []) (cod_200 rfl) rfl rfl (by decide) (by decide) rfl rfl (Nat.le_of_ble_eq_true rfl) (rcv0 sq_l_597_0 sq_p_597 (by decide)) (Nat.le_of_ble_eq_true rfl) ?_
        refine x_pure (p182ax c17) ?_
        show X 200 74 [(1, 597), (0, a1), (0, a2)] [(0, m1 602 (wr ((wr (11 * a1)) + a2)))] m1 _
        refine x_retI (t := .int) (cod_200 rfl) rfl rfl rfl ?_
        exact H18
      | 3, ho =>
        cases ho
        have H19 := H5.2.2.2.2.1 (by omega)
        refine x_s (q := (.aload_n 0, 0, 0, 0)) (cod_200 rfl) rfl rfl rfl ?_
        refine x_s (q := (.bipush 11, 0, 0, 0)) (cod_200 rfl) rfl rfl rfl ?_
        refine x_s (q := (.iload_n 1, 0, 0, 0)) (cod_200 rfl) rfl rfl rfl ?_
        refine x_s (q := (.imul, 0, 0, 0)) (cod_200 rfl) rfl rfl rfl ?_
        refine x_s (q := (.iload_n 2, 0, 0, 0)) (cod_200 rfl) rfl rfl rfl ?_
        refine x_s (q := (.iadd, 0, 0, 0)) (cod_200 rfl) rfl rfl rfl ?_
        obtain ⟨c20, H21⟩ := H19
        refine x_call (as := [(1, 597), (0, wr ((wr (11 * a1)) + a2))]) (rest := []) (cod_200 rfl) rfl rfl (by decide) (by decide) rfl rfl (Nat.le_of_ble_eq_true rfl) (rcv0 sq_l_597_0 sq_p_597 (by decide)) (Nat.le_of_ble_eq_true rfl) ?_
        refine x_pure (p182ax c20) ?_
        show X 200 74 [(1, 597), (0, a1), (0, a2)] [(0, m1 602 (wr ((wr (11 * a1)) + a2)))] m1 _
        refine x_retI (t := .int) (cod_200 rfl) rfl rfl rfl ?_
        exact H21
      | 4, ho =>
        cases ho
        have H22 := H5.2.2.2.2.2.1 (by omega)
        refine x_s (q := (.aload_n 0, 0, 0, 0)) (cod_200 rfl) rfl rfl rfl ?_
        refine x_s (q := (.iconst 0, 0, 0, 0)) (cod_200 rfl) rfl rfl rfl ?_
        refine x_s (q := (.iload_n 1, 0, 0, 0)) (cod_200 rfl) rfl rfl rfl ?_
        refine x_s (q := (.iadd, 0, 0, 0)) (cod_200 rfl) rfl rfl rfl ?_
        refine x_call (as := [(1, 597), (0, wr (0 + a1))]) (rest := []) (cod_200 rfl) rfl rfl (by decide) (by decide) rfl rfl (Nat.le_of_ble_eq_true rfl) (rcv0 sq_l_597_0 sq_p_597 (by decide)) (Nat.le_of_ble_eq_true rfl) ?_
        show X 197 0 [(1, 597), (0, wr (0 + a1))] [] m1 _
        refine x_s (q := (.aload_n 0, 0, 0, 0)) (cod_197 rfl) rfl rfl rfl ?_
        refine x_gc (kk := 24) (c := 607) (t := 1) (cod_197 rfl) sq_p_597 sq_l_597_24 rfl rfl ?_
        refine x_s (q := (.iload_n 1, 0, 0, 0)) (cod_197 rfl) rfl rfl rfl ?_
        obtain ⟨c23, H24⟩ := H22
        refine x_iald (cod_197 rfl) sq_a_607.s (sq_a_607.k c23.1 c23.2) ?_
        refine x_rI (t := .int) (cod_197 rfl) rfl rfl rfl ?_
        show X 200 82 [(1, 597), (0, a1), (0, a2)] [(0, m1 607 (wr (0 + a1)))] m1 _
        refine x_retI (t := .int) (cod_200 rfl) rfl rfl rfl ?_
        exact H24
      | 5, ho =>
        cases ho
        have H25 := H5.2.2.2.2.2.2.1 (by omega)
        refine x_s (q := (.aload_n 0, 0, 0, 0)) (cod_200 rfl) rfl rfl rfl ?_
        refine x_s (q := (.bipush 24, 0, 0, 0)) (cod_200 rfl) rfl rfl rfl ?_
        refine x_s (q := (.iload_n 1, 0, 0, 0)) (cod_200 rfl) rfl rfl rfl ?_
        refine x_s (q := (.iadd, 0, 0, 0)) (cod_200 rfl) rfl rfl rfl ?_
        refine x_call (as := [(1, 597), (0, wr (24 + a1))]) (rest := []) (cod_200 rfl) rfl rfl (by decide) (by decide) rfl rfl (Nat.le_of_ble_eq_true rfl) (rcv0 sq_l_597_0 sq_p_597 (by decide)) (Nat.le_of_ble_eq_true rfl) ?_
        show X 197 0 [(1, 597), (0, wr (24 + a1))] [] m1 _
        refine x_s (q := (.aload_n 0, 0, 0, 0)) (cod_197 rfl) rfl rfl rfl ?_
        refine x_gc (kk := 24) (c := 607) (t := 1) (cod_197 rfl) sq_p_597 sq_l_597_24 rfl rfl ?_
        refine x_s (q := (.iload_n 1, 0, 0, 0)) (cod_197 rfl) rfl rfl rfl ?_
        obtain ⟨c26, H27⟩ := H25
        refine x_iald (cod_197 rfl) sq_a_607.s (sq_a_607.k c26.1 c26.2) ?_
        refine x_rI (t := .int) (cod_197 rfl) rfl rfl rfl ?_
        show X 200 91 [(1, 597), (0, a1), (0, a2)] [(0, m1 607 (wr (24 + a1)))] m1 _
        refine x_retI (t := .int) (cod_200 rfl) rfl rfl rfl ?_
        exact H27
      | 6, ho =>
        cases ho
        have H28 := H5.2.2.2.2.2.2.2 (by omega)
        refine x_s (q := (.aload_n 0, 0, 0, 0)) (cod_200 rfl) rfl rfl rfl ?_
        refine x_s (q := (.iload_n 1, 0, 0, 0)) (cod_200 rfl) rfl rfl rfl ?_
        obtain ⟨c29, H30⟩ := H28
        refine x_call (as := [(1, 597), (0, a1)]) (rest := []) (cod_200 rfl) rfl rfl (by decide) (by decide) rfl rfl (Nat.le_of_ble_eq_true rfl) (rcv0 sq_l_597_0 sq_p_597 (by decide)) (Nat.le_of_ble_eq_true rfl) ?_
        refine x_pure (p203 c29) ?_
        show X 200 97 [(1, 597), (0, a1), (0, a2)] [(0, wnow m1 a1)] m1 _
        refine x_retI (t := .int) (cod_200 rfl) rfl rfl rfl ?_
        exact H30
      | k + 7, ho => exact absurd ho (by simp)
  · have H6 := H4.2 h
    refine x_s (q := (.aload_n 0, 0, 0, 0)) (cod_200 rfl) rfl rfl rfl ?_
    refine x_s (q := (.iconst 1, 0, 0, 0)) (cod_200 rfl) rfl rfl rfl ?_
    refine x_call (as := [(1, 597), (0, 1)]) (rest := []) (cod_200 rfl) rfl rfl (by decide) (by decide) rfl rfl (Nat.le_of_ble_eq_true rfl) (rcv0 sq_l_597_0 sq_p_597 (by decide)) (Nat.le_of_ble_eq_true rfl) ?_
    show X 202 0 [(1, 597), (0, 1)] [] m1 _
    refine x_s (q := (.aload_n 0, 0, 0, 0)) (cod_202 rfl) rfl rfl rfl ?_
    refine x_s (q := (.iload_n 1, 0, 0, 0)) (cod_202 rfl) rfl rfl rfl ?_
    refine x_pf (kk := 0) (t := 0) (cod_202 rfl) sq_p_597 sq_l_597_0 rfl rfl rfl ?_
    have H32 := H6 _ rfl
    generalize umem m1 597 0 1 = m31 at H32 ⊢
    refine x_s (q := (.iconst 0, 0, 0, 0)) (cod_202 rfl) rfl rfl rfl ?_
    refine x_rI (t := .int) (cod_202 rfl) rfl rfl rfl ?_
    show X 200 18 [(1, 597), (0, a1), (0, a2)] [(0, 0)] m31 _
    refine x_retI (t := .int) (cod_200 rfl) rfl rfl rfl ?_
    exact H32
theorem e200 {m : Mm} {K : Int → Mm → Prop} (a1 : Int) (a2 : Int) 
  (H : ∀ m1, m1 = umem m 597 0 0 → m1 597 16 = 0 ∧ ((0 ≤ a1 ∧ a1 ≤ (wr ((m1 602 578) - 1))) → ((a2 < 0 ∨ 6 < a2) → ∀ m8, m8 = umem m1 597 0 2 → K 0 m8) ∧ (a2 = 0 → (m1 597 16 = 0 ∧ 0 ≤ (wr ((wr (11 * a1)) + a2)) ∧ (wr ((wr (11 * a1)) + a2)) < 1166) ∧ K (m1 602 (wr ((wr (11 * a1)) + a2))) m1) ∧ (a2 = 1 → (m1 597 16 = 0 ∧ 0 ≤ (wr ((wr (11 * a1)) + a2)) ∧ (wr ((wr (11 * a1)) + a2)) < 1166) ∧ K (m1 602 (wr ((wr (11 * a1)) + a2))) m1) ∧ (a2 = 2 → (m1 597 16 = 0 ∧ 0 ≤ (wr ((wr (11 * a1)) + a2)) ∧ (wr ((wr (11 * a1)) + a2)) < 1166) ∧ K (m1 602 (wr ((wr (11 * a1)) + a2))) m1) ∧ (a2 = 3 → (m1 597 16 = 0 ∧ 0 ≤ (wr ((wr (11 * a1)) + a2)) ∧ (wr ((wr (11 * a1)) + a2)) < 1166) ∧ K (m1 602 (wr ((wr (11 * a1)) + a2))) m1) ∧ (a2 = 4 → (0 ≤ (wr (0 + a1)) ∧ (wr (0 + a1)) < 1276) ∧ K (m1 607 (wr (0 + a1))) m1) ∧ (a2 = 5 → (0 ≤ (wr (24 + a1)) ∧ (wr (24 + a1)) < 1276) ∧ K (m1 607 (wr (24 + a1))) m1) ∧ (a2 = 6 → v_V m1 a1 ∧ K (wnow m1 a1) m1)) ∧ (¬ (0 ≤ a1 ∧ a1 ≤ (wr ((m1 602 578) - 1))) → ∀ m31, m31 = umem m1 597 0 1 → K 0 m31)) : TrI 200 [(1, 597), (0, a1), (0, a2)] m K := by
  exact w200_0 a1 a2 H
set_option maxRecDepth 100000 in
theorem w204_0 {m : Mm} {K : Int → Mm → Prop} (a1 : Int) (a2 : Int) 
  (H : ∀ m1, m1 = umem m 597 0 0 → m1 597 16 = 0 ∧ ((0 ≤ a1 ∧ a1 ≤ (wr ((m1 602 579) - 1))) → ((0 ≤ a2 ∧ a2 ≤ 2) → (m1 597 16 = 0 ∧ 0 ≤ (wr ((wr (264 + (wr (11 * a1)))) + a2)) ∧ (wr ((wr (264 + (wr (11 * a1)))) + a2)) < 1166) ∧ K (m1 602 (wr ((wr (264 + (wr (11 * a1)))) + a2))) m1) ∧ (¬ (0 ≤ a2 ∧ a2 ≤ 2) → K (-1) m1)) ∧ (¬ (0 ≤ a1 ∧ a1 ≤ (wr ((m1 602 579) - 1))) → K (-1) m1)) : X 204 0 [(1, 597), (0, a1), (0, a2)] [] m (qI K) := by
  refine x_s (q := (.aload_n 0, 0, 0, 0)) (cod_204 rfl) rfl rfl rfl ?_
  refine x_s (q := (.iconst 0, 0, 0, 0)) (cod_204 rfl) rfl rfl rfl ?_
  refine x_pf (kk := 0) (t := 0) (cod_204 rfl) sq_p_597 sq_l_597_0 rfl rfl rfl ?_
  have H2 := H _ rfl
  generalize umem m 597 0 0 = m1 at H2 ⊢
  refine x_s (q := (.aload_n 0, 0, 0, 0)) (cod_204 rfl) rfl rfl rfl ?_
  refine x_s (q := (.iload_n 1, 0, 0, 0)) (cod_204 rfl) rfl rfl rfl ?_
  refine x_call (as := [(1, 597), (0, a1)]) (rest := []) (cod_204 rfl) rfl rfl (by decide) (by decide) rfl rfl (Nat.le_of_ble_eq_true rfl) (rcv0 sq_l_597_0 sq_p_597 (by decide)) (Nat.le_of_ble_eq_true rfl) ?_
  show X 205 0 [(1, 597), (0, a1)] [] m1 _
  refine x_s (q := (.iload_n 1, 0, 0, 0)) (cod_205 rfl) rfl rfl rfl ?_
  refine x_s (q := (.iconst 0, 0, 0, 0)) (cod_205 rfl) rfl rfl rfl ?_
  refine x_s (q := (.aload_n 0, 0, 0, 0)) (cod_205 rfl) rfl rfl rfl ?_
  refine x_call (as := [(1, 597)]) (rest := [(0, 0), (0, a1)]) (cod_205 rfl) rfl rfl (by decide) (by decide) rfl rfl (Nat.le_of_ble_eq_true rfl) (rcv0 sq_l_597_0 sq_p_597 (by decide)) (Nat.le_of_ble_eq_true rfl) ?_
  show X 186 0 [(1, 597)] [] m1 _
  refine x_s (q := (.aload_n 0, 0, 0, 0)) (cod_186 rfl) rfl rfl rfl ?_
  refine x_s (q := (.sipush 579, 0, 0, 0)) (cod_186 rfl) rfl rfl rfl ?_
  obtain ⟨c3, H4⟩ := H2
  refine x_call (as := [(1, 597), (0, 579)]) (rest := []) (cod_186 rfl) rfl rfl (by decide) (by decide) rfl rfl (Nat.le_of_ble_eq_true rfl) (rcv0 sq_l_597_0 sq_p_597 (by decide)) (Nat.le_of_ble_eq_true rfl) ?_
  refine x_pure (p182a (by decide) c3) ?_
  show X 186 7 [(1, 597)] [(0, m1 602 579)] m1 _
  refine x_rI (t := .int) (cod_186 rfl) rfl rfl rfl ?_
  show X 205 6 [(1, 597), (0, a1)] [(0, m1 602 579), (0, 0), (0, a1)] m1 _
  refine x_s (q := (.iconst 1, 0, 0, 0)) (cod_205 rfl) rfl rfl rfl ?_
  refine x_s (q := (.isub, 0, 0, 0)) (cod_205 rfl) rfl rfl rfl ?_
  refine x_call (as := [(0, a1), (0, 0), (0, wr ((m1 602 579) - 1))]) (rest := []) (cod_205 rfl) rfl rfl (by decide) (by decide) rfl rfl (Nat.le_of_ble_eq_true rfl) rfl (Nat.le_of_ble_eq_true rfl) ?_
  refine x_pure (p172) ?_
  show X 205 11 [(1, 597), (0, a1)] [(0, bi (0 ≤ a1 ∧ a1 ≤ (wr ((m1 602 579) - 1))))] m1 _
  refine x_rI (t := .boolean) (cod_205 rfl) rfl rfl (bok_b (bi_01 _)) ?_
  show X 204 10 [(1, 597), (0, a1), (0, a2)] [(0, bi (0 ≤ a1 ∧ a1 ≤ (wr ((m1 602 579) - 1))))] m1 _
  refine x_if (p := ¬ (0 ≤ a1 ∧ a1 ≤ (wr ((m1 602 579) - 1)))) (tgt := 39) (cod_204 rfl) (by decide) xb_eq (fun h => ?_) (fun h => ?_)
  · have H5 := H4.2 h
    refine x_s (q := (.iconst (-1), 0, 0, 0)) (cod_204 rfl) rfl rfl rfl ?_
    refine x_retI (t := .int) (cod_204 rfl) rfl rfl rfl ?_
    exact H5
  · have H6 := H4.1 (Classical.not_not.mp h)
    refine x_s (q := (.iload_n 2, 0, 0, 0)) (cod_204 rfl) rfl rfl rfl ?_
    refine x_s (q := (.iconst 0, 0, 0, 0)) (cod_204 rfl) rfl rfl rfl ?_
    refine x_s (q := (.iconst 2, 0, 0, 0)) (cod_204 rfl) rfl rfl rfl ?_
    refine x_call (as := [(0, a2), (0, 0), (0, 2)]) (rest := []) (cod_204 rfl) rfl rfl (by decide) (by decide) rfl rfl (Nat.le_of_ble_eq_true rfl) rfl (Nat.le_of_ble_eq_true rfl) ?_
    refine x_pure (p172) ?_
    show X 204 19 [(1, 597), (0, a1), (0, a2)] [(0, bi (0 ≤ a2 ∧ a2 ≤ 2))] m1 _
    refine x_if (p := ¬ (0 ≤ a2 ∧ a2 ≤ 2)) (tgt := 39) (cod_204 rfl) (by decide) xb_eq (fun h => ?_) (fun h => ?_)
    · have H7 := H6.2 h
      refine x_s (q := (.iconst (-1), 0, 0, 0)) (cod_204 rfl) rfl rfl rfl ?_
      refine x_retI (t := .int) (cod_204 rfl) rfl rfl rfl ?_
      exact H7
    · have H8 := H6.1 (Classical.not_not.mp h)
      refine x_s (q := (.aload_n 0, 0, 0, 0)) (cod_204 rfl) rfl rfl rfl ?_
      refine x_s (q := (.sipush 264, 0, 0, 0)) (cod_204 rfl) rfl rfl rfl ?_
      refine x_s (q := (.bipush 11, 0, 0, 0)) (cod_204 rfl) rfl rfl rfl ?_
      refine x_s (q := (.iload_n 1, 0, 0, 0)) (cod_204 rfl) rfl rfl rfl ?_
      refine x_s (q := (.imul, 0, 0, 0)) (cod_204 rfl) rfl rfl rfl ?_
      refine x_s (q := (.iadd, 0, 0, 0)) (cod_204 rfl) rfl rfl rfl ?_
      refine x_s (q := (.iload_n 2, 0, 0, 0)) (cod_204 rfl) rfl rfl rfl ?_
      refine x_s (q := (.iadd, 0, 0, 0)) (cod_204 rfl) rfl rfl rfl ?_
      obtain ⟨c9, H10⟩ := H8
      refine x_call (as := [(1, 597), (0, wr ((wr (264 + (wr (11 * a1)))) + a2))]) (rest := []) (cod_204 rfl) rfl rfl (by decide) (by decide) rfl rfl (Nat.le_of_ble_eq_true rfl) (rcv0 sq_l_597_0 sq_p_597 (by decide)) (Nat.le_of_ble_eq_true rfl) ?_
      refine x_pure (p182ax c9) ?_
      show X 204 36 [(1, 597), (0, a1), (0, a2)] [(0, m1 602 (wr ((wr (264 + (wr (11 * a1)))) + a2)))] m1 _
      refine x_go (tgt := 40) (cod_204 rfl) (by decide) ?_
      refine x_retI (t := .int) (cod_204 rfl) rfl rfl rfl ?_
      exact H10
theorem e204 {m : Mm} {K : Int → Mm → Prop} (a1 : Int) (a2 : Int) 
  (H : ∀ m1, m1 = umem m 597 0 0 → m1 597 16 = 0 ∧ ((0 ≤ a1 ∧ a1 ≤ (wr ((m1 602 579) - 1))) → ((0 ≤ a2 ∧ a2 ≤ 2) → (m1 597 16 = 0 ∧ 0 ≤ (wr ((wr (264 + (wr (11 * a1)))) + a2)) ∧ (wr ((wr (264 + (wr (11 * a1)))) + a2)) < 1166) ∧ K (m1 602 (wr ((wr (264 + (wr (11 * a1)))) + a2))) m1) ∧ (¬ (0 ≤ a2 ∧ a2 ≤ 2) → K (-1) m1)) ∧ (¬ (0 ≤ a1 ∧ a1 ≤ (wr ((m1 602 579) - 1))) → K (-1) m1)) : TrI 204 [(1, 597), (0, a1), (0, a2)] m K := by
  exact w204_0 a1 a2 H
set_option maxRecDepth 100000 in
theorem w206_0 {m : Mm} {K : Int → Mm → Prop} (a1 : Int) (a2 : Int) (a3 : Int) 
  (H : ∀ m1, m1 = umem m 597 0 0 → (a3 < 0 → K (-1) m1) ∧ (¬ a3 < 0 → (a1 = 0 → m1 597 16 = 0 ∧ ((0 ≤ a2 ∧ a2 ≤ (wr ((m1 602 579) - 1))) → X 206 34 [(1, 597), (0, a1), (0, a2), (0, a3), (9, 0)] [] m1 (qI K)) ∧ (¬ (0 ≤ a2 ∧ a2 ≤ (wr ((m1 602 579) - 1))) → K (-1) m1)) ∧ (¬ a1 = 0 → m1 597 16 = 0 ∧ ((0 ≤ a2 ∧ a2 ≤ (wr ((m1 602 578) - 1))) → X 206 34 [(1, 597), (0, a1), (0, a2), (0, a3), (9, 0)] [] m1 (qI K)) ∧ (¬ (0 ≤ a2 ∧ a2 ≤ (wr ((m1 602 578) - 1))) → K (-1) m1)))) : X 206 0 [(1, 597), (0, a1), (0, a2), (0, a3), (9, 0)] [] m (qI K) := by
  refine x_s (q := (.aload_n 0, 0, 0, 0)) (cod_206 rfl) rfl rfl rfl ?_
  refine x_s (q := (.iconst 0, 0, 0, 0)) (cod_206 rfl) rfl rfl rfl ?_
  refine x_pf (kk := 0) (t := 0) (cod_206 rfl) sq_p_597 sq_l_597_0 rfl rfl rfl ?_
  have H2 := H _ rfl
  generalize umem m 597 0 0 = m1 at H2 ⊢
  refine x_s (q := (.iload_n 3, 0, 0, 0)) (cod_206 rfl) rfl rfl rfl ?_
  refine x_if (p := a3 < 0) (tgt := 32) (cod_206 rfl) (by decide) xj_lt (fun h => ?_) (fun h => ?_)
  · have H3 := H2.1 h
    refine x_s (q := (.iconst (-1), 0, 0, 0)) (cod_206 rfl) rfl rfl rfl ?_
    refine x_retI (t := .int) (cod_206 rfl) rfl rfl rfl ?_
    exact H3
  · have H4 := H2.2 h
    refine x_s (q := (.iload_n 1, 0, 0, 0)) (cod_206 rfl) rfl rfl rfl ?_
    refine x_if (p := a1 = 0) (tgt := 24) (cod_206 rfl) (by decide) xj_eq (fun h => ?_) (fun h => ?_)
    · have H5 := H4.1 h
      refine x_s (q := (.aload_n 0, 0, 0, 0)) (cod_206 rfl) rfl rfl rfl ?_
      refine x_s (q := (.iload_n 2, 0, 0, 0)) (cod_206 rfl) rfl rfl rfl ?_
      refine x_call (as := [(1, 597), (0, a2)]) (rest := []) (cod_206 rfl) rfl rfl (by decide) (by decide) rfl rfl (Nat.le_of_ble_eq_true rfl) (rcv0 sq_l_597_0 sq_p_597 (by decide)) (Nat.le_of_ble_eq_true rfl) ?_
      show X 205 0 [(1, 597), (0, a2)] [] m1 _
      refine x_s (q := (.iload_n 1, 0, 0, 0)) (cod_205 rfl) rfl rfl rfl ?_
      refine x_s (q := (.iconst 0, 0, 0, 0)) (cod_205 rfl) rfl rfl rfl ?_
      refine x_s (q := (.aload_n 0, 0, 0, 0)) (cod_205 rfl) rfl rfl rfl ?_
      refine x_call (as := [(1, 597)]) (rest := [(0, 0), (0, a2)]) (cod_205 rfl) rfl rfl (by decide) (by decide) rfl rfl (Nat.le_of_ble_eq_true rfl) (rcv0 sq_l_597_0 sq_p_597 (by decide)) (Nat.le_of_ble_eq_true rfl) ?_
      show X 186 0 [(1, 597)] [] m1 _
      refine x_s (q := (.aload_n 0, 0, 0, 0)) (cod_186 rfl) rfl rfl rfl ?_
      refine x_s (q := (.sipush 579, 0, 0, 0)) (cod_186 rfl) rfl rfl rfl ?_
      obtain ⟨c7, H8⟩ := H5
      refine x_call (as := [(1, 597), (0, 579)]) (rest := []) (cod_186 rfl) rfl rfl (by decide) (by decide) rfl rfl (Nat.le_of_ble_eq_true rfl) (rcv0 sq_l_597_0 sq_p_597 (by decide)) (Nat.le_of_ble_eq_true rfl) ?_
      refine x_pure (p182a (by decide) c7) ?_
      show X 186 7 [(1, 597)] [(0, m1 602 579)] m1 _
      refine x_rI (t := .int) (cod_186 rfl) rfl rfl rfl ?_
      show X 205 6 [(1, 597), (0, a2)] [(0, m1 602 579), (0, 0), (0, a2)] m1 _
      refine x_s (q := (.iconst 1, 0, 0, 0)) (cod_205 rfl) rfl rfl rfl ?_
      refine x_s (q := (.isub, 0, 0, 0)) (cod_205 rfl) rfl rfl rfl ?_
      refine x_call (as := [(0, a2), (0, 0), (0, wr ((m1 602 579) - 1))]) (rest := []) (cod_205 rfl) rfl rfl (by decide) (by decide) rfl rfl (Nat.le_of_ble_eq_true rfl) rfl (Nat.le_of_ble_eq_true rfl) ?_
      refine x_pure (p172) ?_
      show X 205 11 [(1, 597), (0, a2)] [(0, bi (0 ≤ a2 ∧ a2 ≤ (wr ((m1 602 579) - 1))))] m1 _
      refine x_rI (t := .boolean) (cod_205 rfl) rfl rfl (bok_b (bi_01 _)) ?_
      show X 206 29 [(1, 597), (0, a1), (0, a2), (0, a3), (9, 0)] [(0, bi (0 ≤ a2 ∧ a2 ≤ (wr ((m1 602 579) - 1))))] m1 _
      refine x_if (p := 0 ≤ a2 ∧ a2 ≤ (wr ((m1 602 579) - 1))) (tgt := 34) (cod_206 rfl) (by decide) xb_ne (fun h => ?_) (fun h => ?_)
      · have H9 := H8.1 h
        exact H9
      · have H10 := H8.2 h
        refine x_s (q := (.iconst (-1), 0, 0, 0)) (cod_206 rfl) rfl rfl rfl ?_
        refine x_retI (t := .int) (cod_206 rfl) rfl rfl rfl ?_
        exact H10
    · have H6 := H4.2 h
      refine x_s (q := (.aload_n 0, 0, 0, 0)) (cod_206 rfl) rfl rfl rfl ?_
      refine x_s (q := (.iload_n 2, 0, 0, 0)) (cod_206 rfl) rfl rfl rfl ?_
      refine x_call (as := [(1, 597), (0, a2)]) (rest := []) (cod_206 rfl) rfl rfl (by decide) (by decide) rfl rfl (Nat.le_of_ble_eq_true rfl) (rcv0 sq_l_597_0 sq_p_597 (by decide)) (Nat.le_of_ble_eq_true rfl) ?_
      show X 201 0 [(1, 597), (0, a2)] [] m1 _
      refine x_s (q := (.iload_n 1, 0, 0, 0)) (cod_201 rfl) rfl rfl rfl ?_
      refine x_s (q := (.iconst 0, 0, 0, 0)) (cod_201 rfl) rfl rfl rfl ?_
      refine x_s (q := (.aload_n 0, 0, 0, 0)) (cod_201 rfl) rfl rfl rfl ?_
      refine x_call (as := [(1, 597)]) (rest := [(0, 0), (0, a2)]) (cod_201 rfl) rfl rfl (by decide) (by decide) rfl rfl (Nat.le_of_ble_eq_true rfl) (rcv0 sq_l_597_0 sq_p_597 (by decide)) (Nat.le_of_ble_eq_true rfl) ?_
      show X 181 0 [(1, 597)] [] m1 _
      refine x_s (q := (.aload_n 0, 0, 0, 0)) (cod_181 rfl) rfl rfl rfl ?_
      refine x_s (q := (.sipush 578, 0, 0, 0)) (cod_181 rfl) rfl rfl rfl ?_
      obtain ⟨c11, H12⟩ := H6
      refine x_call (as := [(1, 597), (0, 578)]) (rest := []) (cod_181 rfl) rfl rfl (by decide) (by decide) rfl rfl (Nat.le_of_ble_eq_true rfl) (rcv0 sq_l_597_0 sq_p_597 (by decide)) (Nat.le_of_ble_eq_true rfl) ?_
      refine x_pure (p182a (by decide) c11) ?_
      show X 181 7 [(1, 597)] [(0, m1 602 578)] m1 _
      refine x_rI (t := .int) (cod_181 rfl) rfl rfl rfl ?_
      show X 201 6 [(1, 597), (0, a2)] [(0, m1 602 578), (0, 0), (0, a2)] m1 _
      refine x_s (q := (.iconst 1, 0, 0, 0)) (cod_201 rfl) rfl rfl rfl ?_
      refine x_s (q := (.isub, 0, 0, 0)) (cod_201 rfl) rfl rfl rfl ?_
      refine x_call (as := [(0, a2), (0, 0), (0, wr ((m1 602 578) - 1))]) (rest := []) (cod_201 rfl) rfl rfl (by decide) (by decide) rfl rfl (Nat.le_of_ble_eq_true rfl) rfl (Nat.le_of_ble_eq_true rfl) ?_
      refine x_pure (p172) ?_
      show X 201 11 [(1, 597), (0, a2)] [(0, bi (0 ≤ a2 ∧ a2 ≤ (wr ((m1 602 578) - 1))))] m1 _
      refine x_rI (t := .boolean) (cod_201 rfl) rfl rfl (bok_b (bi_01 _)) ?_
      show X 206 18 [(1, 597), (0, a1), (0, a2), (0, a3), (9, 0)] [(0, bi (0 ≤ a2 ∧ a2 ≤ (wr ((m1 602 578) - 1))))] m1 _
      refine x_if (p := ¬ (0 ≤ a2 ∧ a2 ≤ (wr ((m1 602 578) - 1)))) (tgt := 32) (cod_206 rfl) (by decide) xb_eq (fun h => ?_) (fun h => ?_)
      · have H13 := H12.2 h
        refine x_s (q := (.iconst (-1), 0, 0, 0)) (cod_206 rfl) rfl rfl rfl ?_
        refine x_retI (t := .int) (cod_206 rfl) rfl rfl rfl ?_
        exact H13
      · have H14 := H12.1 (Classical.not_not.mp h)
        refine x_go (tgt := 34) (cod_206 rfl) (by decide) ?_
        exact H14
theorem e206 {m : Mm} {K : Int → Mm → Prop} (a1 : Int) (a2 : Int) (a3 : Int) 
  (H : ∀ m1, m1 = umem m 597 0 0 → (a3 < 0 → K (-1) m1) ∧ (¬ a3 < 0 → (a1 = 0 → m1 597 16 = 0 ∧ ((0 ≤ a2 ∧ a2 ≤ (wr ((m1 602 579) - 1))) → X 206 34 [(1, 597), (0, a1), (0, a2), (0, a3), (9, 0)] [] m1 (qI K)) ∧ (¬ (0 ≤ a2 ∧ a2 ≤ (wr ((m1 602 579) - 1))) → K (-1) m1)) ∧ (¬ a1 = 0 → m1 597 16 = 0 ∧ ((0 ≤ a2 ∧ a2 ≤ (wr ((m1 602 578) - 1))) → X 206 34 [(1, 597), (0, a1), (0, a2), (0, a3), (9, 0)] [] m1 (qI K)) ∧ (¬ (0 ≤ a2 ∧ a2 ≤ (wr ((m1 602 578) - 1))) → K (-1) m1)))) : TrI 206 [(1, 597), (0, a1), (0, a2), (0, a3)] m K := by
  exact w206_0 a1 a2 a3 H
set_option maxRecDepth 100000 in
theorem w206_34 {m : Mm} {K : Int → Mm → Prop} (a1 : Int) (a2 : Int) (a3 : Int) (ua4 : aV) 
  (H : (a1 = 0 → (m 597 16 = 0 ∧ 0 ≤ (wr (264 + (wr (11 * a2)))) ∧ (wr (264 + (wr (11 * a2)))) < 1166) ∧ X 206 63 [(1, 597), (0, a1), (0, a2), (0, a3), ua4] [(0, m 602 (wr (264 + (wr (11 * a2)))))] m (qI K)) ∧ (¬ a1 = 0 → (m 597 16 = 0 ∧ 0 ≤ (wr ((wr (11 * a2)) + 1)) ∧ (wr ((wr (11 * a2)) + 1)) < 1166) ∧ X 206 63 [(1, 597), (0, a1), (0, a2), (0, a3), ua4] [(0, m 602 (wr ((wr (11 * a2)) + 1)))] m (qI K))) : X 206 34 [(1, 597), (0, a1), (0, a2), (0, a3), ua4] [] m (qI K) := by
  refine x_s (q := (.iload_n 1, 0, 0, 0)) (cod_206 rfl) rfl rfl rfl ?_
  refine x_if (p := a1 = 0) (tgt := 51) (cod_206 rfl) (by decide) xj_eq (fun h => ?_) (fun h => ?_)
  · have H1 := H.1 h
    refine x_s (q := (.aload_n 0, 0, 0, 0)) (cod_206 rfl) rfl rfl rfl ?_
    refine x_s (q := (.sipush 264, 0, 0, 0)) (cod_206 rfl) rfl rfl rfl ?_
    refine x_s (q := (.bipush 11, 0, 0, 0)) (cod_206 rfl) rfl rfl rfl ?_
    refine x_s (q := (.iload_n 2, 0, 0, 0)) (cod_206 rfl) rfl rfl rfl ?_
    refine x_s (q := (.imul, 0, 0, 0)) (cod_206 rfl) rfl rfl rfl ?_
    refine x_s (q := (.iadd, 0, 0, 0)) (cod_206 rfl) rfl rfl rfl ?_
    obtain ⟨c3, H4⟩ := H1
    refine x_call (as := [(1, 597), (0, wr (264 + (wr (11 * a2))))]) (rest := []) (cod_206 rfl) rfl rfl (by decide) (by decide) rfl rfl (Nat.le_of_ble_eq_true rfl) (rcv0 sq_l_597_0 sq_p_597 (by decide)) (Nat.le_of_ble_eq_true rfl) ?_
    refine x_pure (p182ax c3) ?_
    show X 206 63 [(1, 597), (0, a1), (0, a2), (0, a3), ua4] [(0, m 602 (wr (264 + (wr (11 * a2)))))] m _
    exact H4
  · have H2 := H.2 h
    refine x_s (q := (.aload_n 0, 0, 0, 0)) (cod_206 rfl) rfl rfl rfl ?_
    refine x_s (q := (.bipush 11, 0, 0, 0)) (cod_206 rfl) rfl rfl rfl ?_
    refine x_s (q := (.iload_n 2, 0, 0, 0)) (cod_206 rfl) rfl rfl rfl ?_
    refine x_s (q := (.imul, 0, 0, 0)) (cod_206 rfl) rfl rfl rfl ?_
    refine x_s (q := (.iconst 1, 0, 0, 0)) (cod_206 rfl) rfl rfl rfl ?_
    refine x_s (q := (.iadd, 0, 0, 0)) (cod_206 rfl) rfl rfl rfl ?_
    obtain ⟨c5, H6⟩ := H2
    refine x_call (as := [(1, 597), (0, wr ((wr (11 * a2)) + 1))]) (rest := []) (cod_206 rfl) rfl rfl (by decide) (by decide) rfl rfl (Nat.le_of_ble_eq_true rfl) (rcv0 sq_l_597_0 sq_p_597 (by decide)) (Nat.le_of_ble_eq_true rfl) ?_
    refine x_pure (p182ax c5) ?_
    show X 206 48 [(1, 597), (0, a1), (0, a2), (0, a3), ua4] [(0, m 602 (wr ((wr (11 * a2)) + 1)))] m _
    refine x_go (tgt := 63) (cod_206 rfl) (by decide) ?_
    exact H6
set_option maxRecDepth 100000 in
theorem w206_63 {m : Mm} {K : Int → Mm → Prop} (a1 : Int) (a2 : Int) (a3 : Int) (ua4 : aV) (s0 : Int) 
  (H : (a3 < s0 → (a1 = 0 → (m 597 16 = 0 ∧ 0 ≤ (wr ((wr ((wr (264 + (wr (11 * a2)))) + 3)) + a3)) ∧ (wr ((wr ((wr (264 + (wr (11 * a2)))) + 3)) + a3)) < 1166) ∧ K (wr (97 + (m 602 (wr ((wr ((wr (264 + (wr (11 * a2)))) + 3)) + a3))))) m) ∧ (¬ a1 = 0 → (m 597 16 = 0 ∧ 0 ≤ (wr ((wr ((wr (11 * a2)) + 5)) + a3)) ∧ (wr ((wr ((wr (11 * a2)) + 5)) + a3)) < 1166) ∧ K (wr (97 + (m 602 (wr ((wr ((wr (11 * a2)) + 5)) + a3))))) m)) ∧ (¬ a3 < s0 → K (-2) m)) : X 206 63 [(1, 597), (0, a1), (0, a2), (0, a3), ua4] [(0, s0)] m (qI K) := by
  refine x_s (q := (.istore 4, 0, 0, 0)) (cod_206 rfl) rfl rfl rfl ?_
  refine x_s (q := (.iload_n 3, 0, 0, 0)) (cod_206 rfl) rfl rfl rfl ?_
  refine x_s (q := (.iload 4, 0, 0, 0)) (cod_206 rfl) rfl rfl rfl ?_
  refine x_ic (p := a3 < s0) (tgt := 76) (cod_206 rfl) (by decide) xj_lt (fun h => ?_) (fun h => ?_)
  · have H1 := H.1 h
    refine x_s (q := (.bipush 97, 0, 0, 0)) (cod_206 rfl) rfl rfl rfl ?_
    refine x_s (q := (.iload_n 1, 0, 0, 0)) (cod_206 rfl) rfl rfl rfl ?_
    refine x_if (p := a1 = 0) (tgt := 91) (cod_206 rfl) (by decide) xj_eq (fun h => ?_) (fun h => ?_)
    · have H3 := H1.1 h
      refine x_s (q := (.aload_n 0, 0, 0, 0)) (cod_206 rfl) rfl rfl rfl ?_
      refine x_s (q := (.iload_n 2, 0, 0, 0)) (cod_206 rfl) rfl rfl rfl ?_
      refine x_s (q := (.iload_n 3, 0, 0, 0)) (cod_206 rfl) rfl rfl rfl ?_
      refine x_call (as := [(1, 597), (0, a2), (0, a3)]) (rest := [(0, 97)]) (cod_206 rfl) rfl rfl (by decide) (by decide) rfl rfl (Nat.le_of_ble_eq_true rfl) (rcv0 sq_l_597_0 sq_p_597 (by decide)) (Nat.le_of_ble_eq_true rfl) ?_
      show X 208 0 [(1, 597), (0, a2), (0, a3)] [] m _
      refine x_s (q := (.aload_n 0, 0, 0, 0)) (cod_208 rfl) rfl rfl rfl ?_
      refine x_s (q := (.sipush 264, 0, 0, 0)) (cod_208 rfl) rfl rfl rfl ?_
      refine x_s (q := (.bipush 11, 0, 0, 0)) (cod_208 rfl) rfl rfl rfl ?_
      refine x_s (q := (.iload_n 1, 0, 0, 0)) (cod_208 rfl) rfl rfl rfl ?_
      refine x_s (q := (.imul, 0, 0, 0)) (cod_208 rfl) rfl rfl rfl ?_
      refine x_s (q := (.iadd, 0, 0, 0)) (cod_208 rfl) rfl rfl rfl ?_
      refine x_s (q := (.iconst 3, 0, 0, 0)) (cod_208 rfl) rfl rfl rfl ?_
      refine x_s (q := (.iadd, 0, 0, 0)) (cod_208 rfl) rfl rfl rfl ?_
      refine x_s (q := (.iload_n 2, 0, 0, 0)) (cod_208 rfl) rfl rfl rfl ?_
      refine x_s (q := (.iadd, 0, 0, 0)) (cod_208 rfl) rfl rfl rfl ?_
      obtain ⟨c5, H6⟩ := H3
      refine x_call (as := [(1, 597), (0, wr ((wr ((wr (264 + (wr (11 * a2)))) + 3)) + a3))]) (rest := []) (cod_208 rfl) rfl rfl (by decide) (by decide) rfl rfl (Nat.le_of_ble_eq_true rfl) (rcv0 sq_l_597_0 sq_p_597 (by decide)) (Nat.le_of_ble_eq_true rfl) ?_
      refine x_pure (p182ax c5) ?_
      show X 208 16 [(1, 597), (0, a2), (0, a3)] [(0, m 602 (wr ((wr ((wr (264 + (wr (11 * a2)))) + 3)) + a3)))] m _
      refine x_rI (t := .int) (cod_208 rfl) rfl rfl rfl ?_
      show X 206 97 [(1, 597), (0, a1), (0, a2), (0, a3), (0, s0)] [(0, m 602 (wr ((wr ((wr (264 + (wr (11 * a2)))) + 3)) + a3))), (0, 97)] m _
      refine x_s (q := (.iadd, 0, 0, 0)) (cod_206 rfl) rfl rfl rfl ?_
      refine x_retI (t := .int) (cod_206 rfl) rfl rfl rfl ?_
      exact H6
    · have H4 := H1.2 h
      refine x_s (q := (.aload_n 0, 0, 0, 0)) (cod_206 rfl) rfl rfl rfl ?_
      refine x_s (q := (.iload_n 2, 0, 0, 0)) (cod_206 rfl) rfl rfl rfl ?_
      refine x_s (q := (.iload_n 3, 0, 0, 0)) (cod_206 rfl) rfl rfl rfl ?_
      refine x_call (as := [(1, 597), (0, a2), (0, a3)]) (rest := [(0, 97)]) (cod_206 rfl) rfl rfl (by decide) (by decide) rfl rfl (Nat.le_of_ble_eq_true rfl) (rcv0 sq_l_597_0 sq_p_597 (by decide)) (Nat.le_of_ble_eq_true rfl) ?_
      show X 207 0 [(1, 597), (0, a2), (0, a3)] [] m _
      refine x_s (q := (.aload_n 0, 0, 0, 0)) (cod_207 rfl) rfl rfl rfl ?_
      refine x_s (q := (.bipush 11, 0, 0, 0)) (cod_207 rfl) rfl rfl rfl ?_
      refine x_s (q := (.iload_n 1, 0, 0, 0)) (cod_207 rfl) rfl rfl rfl ?_
      refine x_s (q := (.imul, 0, 0, 0)) (cod_207 rfl) rfl rfl rfl ?_
      refine x_s (q := (.iconst 5, 0, 0, 0)) (cod_207 rfl) rfl rfl rfl ?_
      refine x_s (q := (.iadd, 0, 0, 0)) (cod_207 rfl) rfl rfl rfl ?_
      refine x_s (q := (.iload_n 2, 0, 0, 0)) (cod_207 rfl) rfl rfl rfl ?_
      refine x_s (q := (.iadd, 0, 0, 0)) (cod_207 rfl) rfl rfl rfl ?_
      obtain ⟨c7, H8⟩ := H4
      refine x_call (as := [(1, 597), (0, wr ((wr ((wr (11 * a2)) + 5)) + a3))]) (rest := []) (cod_207 rfl) rfl rfl (by decide) (by decide) rfl rfl (Nat.le_of_ble_eq_true rfl) (rcv0 sq_l_597_0 sq_p_597 (by decide)) (Nat.le_of_ble_eq_true rfl) ?_
      refine x_pure (p182ax c7) ?_
      show X 207 12 [(1, 597), (0, a2), (0, a3)] [(0, m 602 (wr ((wr ((wr (11 * a2)) + 5)) + a3)))] m _
      refine x_rI (t := .int) (cod_207 rfl) rfl rfl rfl ?_
      show X 206 88 [(1, 597), (0, a1), (0, a2), (0, a3), (0, s0)] [(0, m 602 (wr ((wr ((wr (11 * a2)) + 5)) + a3))), (0, 97)] m _
      refine x_go (tgt := 97) (cod_206 rfl) (by decide) ?_
      refine x_s (q := (.iadd, 0, 0, 0)) (cod_206 rfl) rfl rfl rfl ?_
      refine x_retI (t := .int) (cod_206 rfl) rfl rfl rfl ?_
      exact H8
  · have H2 := H.2 h
    refine x_s (q := (.bipush (-2), 0, 0, 0)) (cod_206 rfl) rfl rfl rfl ?_
    refine x_go (tgt := 98) (cod_206 rfl) (by decide) ?_
    refine x_retI (t := .int) (cod_206 rfl) rfl rfl rfl ?_
    exact H2
set_option maxRecDepth 100000 in
theorem w209_0 {m : Mm} {K : Int → Mm → Prop} (a1 : Int) (a2 : Int) 
  (H : ∀ m1, m1 = umem m 597 0 0 → ((0 ≤ a1 ∧ a1 ≤ (wr ((m1 597 23) - 1))) → (a2 < 0 → K (-1) m1) ∧ (¬ a2 < 0 → (0 ≤ a1 ∧ a1 < 10) ∧ (a2 < (m1 604 a1) → (0 ≤ (wr ((wr (10 * a1)) + a2)) ∧ (wr ((wr (10 * a1)) + a2)) < 100) ∧ TrI 211 [(1, 597), (0, m1 603 (wr ((wr (10 * a1)) + a2)))] m1 fun v15 m13 => K v15 m13) ∧ (¬ a2 < (m1 604 a1) → K (-2) m1))) ∧ (¬ (0 ≤ a1 ∧ a1 ≤ (wr ((m1 597 23) - 1))) → K (-1) m1)) : X 209 0 [(1, 597), (0, a1), (0, a2)] [] m (qI K) := by
  refine x_s (q := (.aload_n 0, 0, 0, 0)) (cod_209 rfl) rfl rfl rfl ?_
  refine x_s (q := (.iconst 0, 0, 0, 0)) (cod_209 rfl) rfl rfl rfl ?_
  refine x_pf (kk := 0) (t := 0) (cod_209 rfl) sq_p_597 sq_l_597_0 rfl rfl rfl ?_
  have H2 := H _ rfl
  generalize umem m 597 0 0 = m1 at H2 ⊢
  refine x_s (q := (.aload_n 0, 0, 0, 0)) (cod_209 rfl) rfl rfl rfl ?_
  refine x_s (q := (.iload_n 1, 0, 0, 0)) (cod_209 rfl) rfl rfl rfl ?_
  refine x_call (as := [(1, 597), (0, a1)]) (rest := []) (cod_209 rfl) rfl rfl (by decide) (by decide) rfl rfl (Nat.le_of_ble_eq_true rfl) (rcv0 sq_l_597_0 sq_p_597 (by decide)) (Nat.le_of_ble_eq_true rfl) ?_
  show X 210 0 [(1, 597), (0, a1)] [] m1 _
  refine x_s (q := (.iload_n 1, 0, 0, 0)) (cod_210 rfl) rfl rfl rfl ?_
  refine x_s (q := (.iconst 0, 0, 0, 0)) (cod_210 rfl) rfl rfl rfl ?_
  refine x_s (q := (.aload_n 0, 0, 0, 0)) (cod_210 rfl) rfl rfl rfl ?_
  refine x_gf (kk := 23) (t := 0) (cod_210 rfl) sq_p_597 sq_l_597_23 rfl rfl ?_
  refine x_s (q := (.iconst 1, 0, 0, 0)) (cod_210 rfl) rfl rfl rfl ?_
  refine x_s (q := (.isub, 0, 0, 0)) (cod_210 rfl) rfl rfl rfl ?_
  refine x_call (as := [(0, a1), (0, 0), (0, wr ((m1 597 23) - 1))]) (rest := []) (cod_210 rfl) rfl rfl (by decide) (by decide) rfl rfl (Nat.le_of_ble_eq_true rfl) rfl (Nat.le_of_ble_eq_true rfl) ?_
  refine x_pure (p172) ?_
  show X 210 11 [(1, 597), (0, a1)] [(0, bi (0 ≤ a1 ∧ a1 ≤ (wr ((m1 597 23) - 1))))] m1 _
  refine x_rI (t := .boolean) (cod_210 rfl) rfl rfl (bok_b (bi_01 _)) ?_
  show X 209 10 [(1, 597), (0, a1), (0, a2)] [(0, bi (0 ≤ a1 ∧ a1 ≤ (wr ((m1 597 23) - 1))))] m1 _
  refine x_if (p := ¬ (0 ≤ a1 ∧ a1 ≤ (wr ((m1 597 23) - 1)))) (tgt := 17) (cod_209 rfl) (by decide) xb_eq (fun h => ?_) (fun h => ?_)
  · have H3 := H2.2 h
    refine x_s (q := (.iconst (-1), 0, 0, 0)) (cod_209 rfl) rfl rfl rfl ?_
    refine x_retI (t := .int) (cod_209 rfl) rfl rfl rfl ?_
    exact H3
  · have H4 := H2.1 (Classical.not_not.mp h)
    refine x_s (q := (.iload_n 2, 0, 0, 0)) (cod_209 rfl) rfl rfl rfl ?_
    refine x_if (p := ¬ a2 < 0) (tgt := 19) (cod_209 rfl) (by decide) xn_ge (fun h => ?_) (fun h => ?_)
    · have H5 := H4.2 h
      refine x_s (q := (.iload_n 2, 0, 0, 0)) (cod_209 rfl) rfl rfl rfl ?_
      refine x_s (q := (.aload_n 0, 0, 0, 0)) (cod_209 rfl) rfl rfl rfl ?_
      refine x_gc (kk := 20) (c := 604) (t := 1) (cod_209 rfl) sq_p_597 sq_l_597_20 rfl rfl ?_
      refine x_s (q := (.iload_n 1, 0, 0, 0)) (cod_209 rfl) rfl rfl rfl ?_
      obtain ⟨c7, H8⟩ := H5
      refine x_iald (cod_209 rfl) sq_a_604.s (sq_a_604.k c7.1 c7.2) ?_
      refine x_ic (p := ¬ a2 < (m1 604 a1)) (tgt := 47) (cod_209 rfl) (by decide) xn_ge (fun h => ?_) (fun h => ?_)
      · have H9 := H8.2 h
        refine x_s (q := (.bipush (-2), 0, 0, 0)) (cod_209 rfl) rfl rfl rfl ?_
        refine x_retI (t := .int) (cod_209 rfl) rfl rfl rfl ?_
        exact H9
      · have H10 := H8.1 (Classical.not_not.mp h)
        refine x_s (q := (.aload_n 0, 0, 0, 0)) (cod_209 rfl) rfl rfl rfl ?_
        refine x_s (q := (.aload_n 0, 0, 0, 0)) (cod_209 rfl) rfl rfl rfl ?_
        refine x_gc (kk := 19) (c := 603) (t := 1) (cod_209 rfl) sq_p_597 sq_l_597_19 rfl rfl ?_
        refine x_s (q := (.bipush 10, 0, 0, 0)) (cod_209 rfl) rfl rfl rfl ?_
        refine x_s (q := (.iload_n 1, 0, 0, 0)) (cod_209 rfl) rfl rfl rfl ?_
        refine x_s (q := (.imul, 0, 0, 0)) (cod_209 rfl) rfl rfl rfl ?_
        refine x_s (q := (.iload_n 2, 0, 0, 0)) (cod_209 rfl) rfl rfl rfl ?_
        refine x_s (q := (.iadd, 0, 0, 0)) (cod_209 rfl) rfl rfl rfl ?_
        obtain ⟨c11, H12⟩ := H10
        refine x_iald (cod_209 rfl) sq_a_603.s (sq_a_603.k c11.1 c11.2) ?_
        refine x_call (as := [(1, 597), (0, m1 603 (wr ((wr (10 * a1)) + a2)))]) (rest := []) (cod_209 rfl) rfl rfl (by decide) (by decide) rfl rfl (Nat.le_of_ble_eq_true rfl) (rcv0 sq_l_597_0 sq_p_597 (by decide)) (Nat.le_of_ble_eq_true rfl) ?_
        refine X.imp H12 ?_
        rintro _ m13 ⟨v15, rfl, H14⟩
        show X 209 44 [(1, 597), (0, a1), (0, a2)] [(0, v15)] m13 _
        refine x_go (tgt := 49) (cod_209 rfl) (by decide) ?_
        refine x_retI (t := .int) (cod_209 rfl) rfl rfl rfl ?_
        exact H14
    · have H6 := H4.1 (Classical.not_not.mp h)
      refine x_s (q := (.iconst (-1), 0, 0, 0)) (cod_209 rfl) rfl rfl rfl ?_
      refine x_retI (t := .int) (cod_209 rfl) rfl rfl rfl ?_
      exact H6
theorem e209 {m : Mm} {K : Int → Mm → Prop} (a1 : Int) (a2 : Int) 
  (H : ∀ m1, m1 = umem m 597 0 0 → ((0 ≤ a1 ∧ a1 ≤ (wr ((m1 597 23) - 1))) → (a2 < 0 → K (-1) m1) ∧ (¬ a2 < 0 → (0 ≤ a1 ∧ a1 < 10) ∧ (a2 < (m1 604 a1) → (0 ≤ (wr ((wr (10 * a1)) + a2)) ∧ (wr ((wr (10 * a1)) + a2)) < 100) ∧ TrI 211 [(1, 597), (0, m1 603 (wr ((wr (10 * a1)) + a2)))] m1 fun v15 m13 => K v15 m13) ∧ (¬ a2 < (m1 604 a1) → K (-2) m1))) ∧ (¬ (0 ≤ a1 ∧ a1 ≤ (wr ((m1 597 23) - 1))) → K (-1) m1)) : TrI 209 [(1, 597), (0, a1), (0, a2)] m K := by
  exact w209_0 a1 a2 H
set_option maxRecDepth 100000 in
theorem w211_0 {m : Mm} {K : Int → Mm → Prop} (a1 : Int) 
  (H : (a1 < 32 → K (wr (97 + a1)) m) ∧ (¬ a1 < 32 → (0 ≤ (wr (a1 - 32)) ∧ (wr (a1 - 32)) < 10) ∧ K (cs 600 (wr (a1 - 32))) m)) : X 211 0 [(1, 597), (0, a1)] [] m (qI K) := by
  refine x_s (q := (.iload_n 1, 0, 0, 0)) (cod_211 rfl) rfl rfl rfl ?_
  refine x_s (q := (.bipush 32, 0, 0, 0)) (cod_211 rfl) rfl rfl rfl ?_
  refine x_ic (p := ¬ a1 < 32) (tgt := 13) (cod_211 rfl) (by decide) xn_ge (fun h => ?_) (fun h => ?_)
  · have H1 := H.2 h
    refine x_s (q := (.aload_n 0, 0, 0, 0)) (cod_211 rfl) rfl rfl rfl ?_
    refine x_gc (kk := 7) (c := 600) (t := 1) (cod_211 rfl) sq_p_597 sq_l_597_7 rfl rfl ?_
    refine x_s (q := (.iload_n 1, 0, 0, 0)) (cod_211 rfl) rfl rfl rfl ?_
    refine x_s (q := (.bipush 32, 0, 0, 0)) (cod_211 rfl) rfl rfl rfl ?_
    refine x_s (q := (.isub, 0, 0, 0)) (cod_211 rfl) rfl rfl rfl ?_
    obtain ⟨c3, H4⟩ := H1
    refine x_ialdc (cod_211 rfl) sq_p_600 (sq_k_600 (j := wr (a1 - 32)) c3.1 c3.2) ?_
    refine x_retI (t := .int) (cod_211 rfl) rfl rfl rfl ?_
    exact H4
  · have H2 := H.1 (Classical.not_not.mp h)
    refine x_s (q := (.bipush 97, 0, 0, 0)) (cod_211 rfl) rfl rfl rfl ?_
    refine x_s (q := (.iload_n 1, 0, 0, 0)) (cod_211 rfl) rfl rfl rfl ?_
    refine x_s (q := (.iadd, 0, 0, 0)) (cod_211 rfl) rfl rfl rfl ?_
    refine x_go (tgt := 22) (cod_211 rfl) (by decide) ?_
    refine x_retI (t := .int) (cod_211 rfl) rfl rfl rfl ?_
    exact H2
theorem e211 {m : Mm} {K : Int → Mm → Prop} (a1 : Int) 
  (H : (a1 < 32 → K (wr (97 + a1)) m) ∧ (¬ a1 < 32 → (0 ≤ (wr (a1 - 32)) ∧ (wr (a1 - 32)) < 10) ∧ K (cs 600 (wr (a1 - 32))) m)) : TrI 211 [(1, 597), (0, a1)] m K := by
  exact w211_0 a1 H
set_option maxRecDepth 100000 in
theorem w212_0 {m : Mm} {K : Int → Mm → Prop} (a1 : Int) 
  (H : ∀ m1, m1 = umem m 597 0 0 → ((0 ≤ a1 ∧ a1 ≤ (wr ((m1 597 23) - 1))) → TrV 213 [(1, 597), (0, a1)] m1 fun m5 => K (m5 608 0) m5) ∧ (¬ (0 ≤ a1 ∧ a1 ≤ (wr ((m1 597 23) - 1))) → K (-1) m1)) : X 212 0 [(1, 597), (0, a1)] [] m (qL K) := by
  refine x_s (q := (.aload_n 0, 0, 0, 0)) (cod_212 rfl) rfl rfl rfl ?_
  refine x_s (q := (.iconst 0, 0, 0, 0)) (cod_212 rfl) rfl rfl rfl ?_
  refine x_pf (kk := 0) (t := 0) (cod_212 rfl) sq_p_597 sq_l_597_0 rfl rfl rfl ?_
  have H2 := H _ rfl
  generalize umem m 597 0 0 = m1 at H2 ⊢
  refine x_s (q := (.aload_n 0, 0, 0, 0)) (cod_212 rfl) rfl rfl rfl ?_
  refine x_s (q := (.iload_n 1, 0, 0, 0)) (cod_212 rfl) rfl rfl rfl ?_
  refine x_call (as := [(1, 597), (0, a1)]) (rest := []) (cod_212 rfl) rfl rfl (by decide) (by decide) rfl rfl (Nat.le_of_ble_eq_true rfl) (rcv0 sq_l_597_0 sq_p_597 (by decide)) (Nat.le_of_ble_eq_true rfl) ?_
  show X 210 0 [(1, 597), (0, a1)] [] m1 _
  refine x_s (q := (.iload_n 1, 0, 0, 0)) (cod_210 rfl) rfl rfl rfl ?_
  refine x_s (q := (.iconst 0, 0, 0, 0)) (cod_210 rfl) rfl rfl rfl ?_
  refine x_s (q := (.aload_n 0, 0, 0, 0)) (cod_210 rfl) rfl rfl rfl ?_
  refine x_gf (kk := 23) (t := 0) (cod_210 rfl) sq_p_597 sq_l_597_23 rfl rfl ?_
  refine x_s (q := (.iconst 1, 0, 0, 0)) (cod_210 rfl) rfl rfl rfl ?_
  refine x_s (q := (.isub, 0, 0, 0)) (cod_210 rfl) rfl rfl rfl ?_
  refine x_call (as := [(0, a1), (0, 0), (0, wr ((m1 597 23) - 1))]) (rest := []) (cod_210 rfl) rfl rfl (by decide) (by decide) rfl rfl (Nat.le_of_ble_eq_true rfl) rfl (Nat.le_of_ble_eq_true rfl) ?_
  refine x_pure (p172) ?_
  show X 210 11 [(1, 597), (0, a1)] [(0, bi (0 ≤ a1 ∧ a1 ≤ (wr ((m1 597 23) - 1))))] m1 _
  refine x_rI (t := .boolean) (cod_210 rfl) rfl rfl (bok_b (bi_01 _)) ?_
  show X 212 10 [(1, 597), (0, a1)] [(0, bi (0 ≤ a1 ∧ a1 ≤ (wr ((m1 597 23) - 1))))] m1 _
  refine x_if (p := 0 ≤ a1 ∧ a1 ≤ (wr ((m1 597 23) - 1))) (tgt := 17) (cod_212 rfl) (by decide) xb_ne (fun h => ?_) (fun h => ?_)
  · have H3 := H2.1 h
    refine x_s (q := (.aload_n 0, 0, 0, 0)) (cod_212 rfl) rfl rfl rfl ?_
    refine x_s (q := (.iload_n 1, 0, 0, 0)) (cod_212 rfl) rfl rfl rfl ?_
    refine x_call (as := [(1, 597), (0, a1)]) (rest := []) (cod_212 rfl) rfl rfl (by decide) (by decide) rfl rfl (Nat.le_of_ble_eq_true rfl) (rcv0 sq_l_597_0 sq_p_597 (by decide)) (Nat.le_of_ble_eq_true rfl) ?_
    refine X.imp H3 ?_
    rintro _ m5 ⟨rfl, H6⟩
    show X 212 22 [(1, 597), (0, a1)] [] m5 _
    refine x_s (q := (.aload_n 0, 0, 0, 0)) (cod_212 rfl) rfl rfl rfl ?_
    refine x_gc (kk := 28) (c := 608) (t := 1) (cod_212 rfl) sq_p_597 sq_l_597_28 rfl rfl ?_
    refine x_s (q := (.iconst 0, 0, 0, 0)) (cod_212 rfl) rfl rfl rfl ?_
    refine x_laldm (cod_212 rfl) sq_a_608.s (sq_a_608.k (by decide) (by decide)) ?_
    refine x_retL (cod_212 rfl) rfl ?_
    exact H6
  · have H4 := H2.2 h
    refine x_s (q := (.ldc2_w 339, (-1), 0, 0)) (cod_212 rfl) rfl rfl rfl ?_
    show X 212 16 [(1, 597), (0, a1)] [(2, (-1))] m1 _
    refine x_retL (cod_212 rfl) rfl ?_
    exact H4
theorem e212 {m : Mm} {K : Int → Mm → Prop} (a1 : Int) 
  (H : ∀ m1, m1 = umem m 597 0 0 → ((0 ≤ a1 ∧ a1 ≤ (wr ((m1 597 23) - 1))) → TrV 213 [(1, 597), (0, a1)] m1 fun m5 => K (m5 608 0) m5) ∧ (¬ (0 ≤ a1 ∧ a1 ≤ (wr ((m1 597 23) - 1))) → K (-1) m1)) : TrL 212 [(1, 597), (0, a1)] m K := by
  exact w212_0 a1 H
set_option maxRecDepth 100000 in
theorem w213_0 {m : Mm} {K : Mm → Prop} (a1 : Int) 
  (H : (0 ≤ a1 ∧ a1 < 10) ∧ X 213 7 [(1, 597), (0, a1), (0, m 604 a1), (9, 0)] [] m (qV K)) : X 213 0 [(1, 597), (0, a1), (9, 0), (9, 0)] [] m (qV K) := by
  refine x_s (q := (.aload_n 0, 0, 0, 0)) (cod_213 rfl) rfl rfl rfl ?_
  refine x_gc (kk := 20) (c := 604) (t := 1) (cod_213 rfl) sq_p_597 sq_l_597_20 rfl rfl ?_
  refine x_s (q := (.iload_n 1, 0, 0, 0)) (cod_213 rfl) rfl rfl rfl ?_
  obtain ⟨c1, H2⟩ := H
  refine x_iald (cod_213 rfl) sq_a_604.s (sq_a_604.k c1.1 c1.2) ?_
  refine x_s (q := (.istore_n 2, 0, 0, 0)) (cod_213 rfl) rfl rfl rfl ?_
  exact H2
theorem e213 {m : Mm} {K : Mm → Prop} (a1 : Int) 
  (H : (0 ≤ a1 ∧ a1 < 10) ∧ X 213 7 [(1, 597), (0, a1), (0, m 604 a1), (9, 0)] [] m (qV K)) : TrV 213 [(1, 597), (0, a1)] m K := by
  exact w213_0 a1 H
set_option maxRecDepth 100000 in
theorem w213_7 {m : Mm} {K : Mm → Prop} (a1 : Int) (a2 : Int) (ua3 : aV) 
  (H : (a2 < 0 → K m) ∧ (¬ a2 < 0 → X 213 13 [(1, 597), (0, a1), (0, a2), (0, (-1))] [] m (qV K))) : X 213 7 [(1, 597), (0, a1), (0, a2), ua3] [] m (qV K) := by
  refine x_s (q := (.iload_n 2, 0, 0, 0)) (cod_213 rfl) rfl rfl rfl ?_
  refine x_if (p := a2 < 0) (tgt := 38) (cod_213 rfl) (by decide) xj_lt (fun h => ?_) (fun h => ?_)
  · have H1 := H.1 h
    refine x_retV (cod_213 rfl) rfl ?_
    exact H1
  · have H2 := H.2 h
    refine x_s (q := (.iconst (-1), 0, 0, 0)) (cod_213 rfl) rfl rfl rfl ?_
    refine x_s (q := (.istore_n 3, 0, 0, 0)) (cod_213 rfl) rfl rfl rfl ?_
    exact H2
set_option maxRecDepth 100000 in
theorem w213_13 {m : Mm} {K : Mm → Prop} (a1 : Int) (a2 : Int) (a3 : Int) 
  (H : (a3 < 26 → TrV 214 [(1, 597), (0, a1), (0, a2), (0, a3)] m fun m3 => X 213 13 [(1, 597), (0, a1), (0, a2), (0, wr (a3 + 1))] [] m3 (qV K)) ∧ (¬ a3 < 26 → X 213 7 [(1, 597), (0, a1), (0, wr (a2 + (-1))), (0, a3)] [] m (qV K))) : X 213 13 [(1, 597), (0, a1), (0, a2), (0, a3)] [] m (qV K) := by
  refine x_s (q := (.iload_n 3, 0, 0, 0)) (cod_213 rfl) rfl rfl rfl ?_
  refine x_s (q := (.bipush 26, 0, 0, 0)) (cod_213 rfl) rfl rfl rfl ?_
  refine x_ic (p := ¬ a3 < 26) (tgt := 32) (cod_213 rfl) (by decide) xn_ge (fun h => ?_) (fun h => ?_)
  · have H1 := H.2 h
    refine x_s (q := (.iinc 2 (-1), 0, 0, 0)) (cod_213 rfl) rfl rfl rfl ?_
    refine x_go (tgt := 7) (cod_213 rfl) (by decide) ?_
    exact H1
  · have H2 := H.1 (Classical.not_not.mp h)
    refine x_s (q := (.aload_n 0, 0, 0, 0)) (cod_213 rfl) rfl rfl rfl ?_
    refine x_s (q := (.iload_n 1, 0, 0, 0)) (cod_213 rfl) rfl rfl rfl ?_
    refine x_s (q := (.iload_n 2, 0, 0, 0)) (cod_213 rfl) rfl rfl rfl ?_
    refine x_s (q := (.iload_n 3, 0, 0, 0)) (cod_213 rfl) rfl rfl rfl ?_
    refine x_call (as := [(1, 597), (0, a1), (0, a2), (0, a3)]) (rest := []) (cod_213 rfl) rfl rfl (by decide) (by decide) rfl rfl (Nat.le_of_ble_eq_true rfl) (rcv0 sq_l_597_0 sq_p_597 (by decide)) (Nat.le_of_ble_eq_true rfl) ?_
    refine X.imp H2 ?_
    rintro _ m3 ⟨rfl, H4⟩
    show X 213 26 [(1, 597), (0, a1), (0, a2), (0, a3)] [] m3 _
    refine x_s (q := (.iinc 3 1, 0, 0, 0)) (cod_213 rfl) rfl rfl rfl ?_
    refine x_go (tgt := 13) (cod_213 rfl) (by decide) ?_
    exact H4
set_option maxRecDepth 100000 in
theorem w214_0 {m : Mm} {K : Mm → Prop} (a1 : Int) (a2 : Int) (a3 : Int) 
  (H : (0 ≤ a1 ∧ a1 < 10) ∧ (a2 = (m 604 a1) → X 214 31 [(1, 597), (0, a1), (0, a2), (0, a3), (0, wr ((wr ((wr (27 * a2)) + a3)) + 1)), (9, 0), (9, 0), (9, 0)] [(2, 1), (0, wr ((wr ((wr (27 * a2)) + a3)) + 1)), (1, 608)] m (qV K)) ∧ (¬ a2 = (m 604 a1) → X 214 31 [(1, 597), (0, a1), (0, a2), (0, a3), (0, wr ((wr ((wr (27 * a2)) + a3)) + 1)), (9, 0), (9, 0), (9, 0)] [(2, 0), (0, wr ((wr ((wr (27 * a2)) + a3)) + 1)), (1, 608)] m (qV K))) : X 214 0 [(1, 597), (0, a1), (0, a2), (0, a3), (9, 0), (9, 0), (9, 0), (9, 0)] [] m (qV K) := by
  refine x_s (q := (.bipush 27, 0, 0, 0)) (cod_214 rfl) rfl rfl rfl ?_
  refine x_s (q := (.iload_n 2, 0, 0, 0)) (cod_214 rfl) rfl rfl rfl ?_
  refine x_s (q := (.imul, 0, 0, 0)) (cod_214 rfl) rfl rfl rfl ?_
  refine x_s (q := (.iload_n 3, 0, 0, 0)) (cod_214 rfl) rfl rfl rfl ?_
  refine x_s (q := (.iadd, 0, 0, 0)) (cod_214 rfl) rfl rfl rfl ?_
  refine x_s (q := (.iconst 1, 0, 0, 0)) (cod_214 rfl) rfl rfl rfl ?_
  refine x_s (q := (.iadd, 0, 0, 0)) (cod_214 rfl) rfl rfl rfl ?_
  refine x_s (q := (.istore 4, 0, 0, 0)) (cod_214 rfl) rfl rfl rfl ?_
  refine x_s (q := (.aload_n 0, 0, 0, 0)) (cod_214 rfl) rfl rfl rfl ?_
  refine x_gc (kk := 28) (c := 608) (t := 1) (cod_214 rfl) sq_p_597 sq_l_597_28 rfl rfl ?_
  refine x_s (q := (.iload 4, 0, 0, 0)) (cod_214 rfl) rfl rfl rfl ?_
  refine x_s (q := (.iload_n 2, 0, 0, 0)) (cod_214 rfl) rfl rfl rfl ?_
  refine x_s (q := (.aload_n 0, 0, 0, 0)) (cod_214 rfl) rfl rfl rfl ?_
  refine x_gc (kk := 20) (c := 604) (t := 1) (cod_214 rfl) sq_p_597 sq_l_597_20 rfl rfl ?_
  refine x_s (q := (.iload_n 1, 0, 0, 0)) (cod_214 rfl) rfl rfl rfl ?_
  obtain ⟨c1, H2⟩ := H
  refine x_iald (cod_214 rfl) sq_a_604.s (sq_a_604.k c1.1 c1.2) ?_
  refine x_ic (p := ¬ a2 = (m 604 a1)) (tgt := 30) (cod_214 rfl) (by decide) xj_ne (fun h => ?_) (fun h => ?_)
  · have H3 := H2.2 h
    refine x_s (q := (.lconst 0, 0, 0, 0)) (cod_214 rfl) rfl rfl rfl ?_
    show X 214 31 [(1, 597), (0, a1), (0, a2), (0, a3), (0, wr ((wr ((wr (27 * a2)) + a3)) + 1)), (9, 0), (9, 0), (9, 0)] [(2, 0), (0, wr ((wr ((wr (27 * a2)) + a3)) + 1)), (1, 608)] m _
    exact H3
  · have H4 := H2.1 (Classical.not_not.mp h)
    refine x_s (q := (.lconst 1, 0, 0, 0)) (cod_214 rfl) rfl rfl rfl ?_
    show X 214 27 [(1, 597), (0, a1), (0, a2), (0, a3), (0, wr ((wr ((wr (27 * a2)) + a3)) + 1)), (9, 0), (9, 0), (9, 0)] [(2, 1), (0, wr ((wr ((wr (27 * a2)) + a3)) + 1)), (1, 608)] m _
    refine x_go (tgt := 31) (cod_214 rfl) (by decide) ?_
    exact H4
theorem e214 {m : Mm} {K : Mm → Prop} (a1 : Int) (a2 : Int) (a3 : Int) 
  (H : (0 ≤ a1 ∧ a1 < 10) ∧ (a2 = (m 604 a1) → X 214 31 [(1, 597), (0, a1), (0, a2), (0, a3), (0, wr ((wr ((wr (27 * a2)) + a3)) + 1)), (9, 0), (9, 0), (9, 0)] [(2, 1), (0, wr ((wr ((wr (27 * a2)) + a3)) + 1)), (1, 608)] m (qV K)) ∧ (¬ a2 = (m 604 a1) → X 214 31 [(1, 597), (0, a1), (0, a2), (0, a3), (0, wr ((wr ((wr (27 * a2)) + a3)) + 1)), (9, 0), (9, 0), (9, 0)] [(2, 0), (0, wr ((wr ((wr (27 * a2)) + a3)) + 1)), (1, 608)] m (qV K))) : TrV 214 [(1, 597), (0, a1), (0, a2), (0, a3)] m K := by
  exact w214_0 a1 a2 a3 H
set_option maxRecDepth 100000 in
theorem w214_31 {m : Mm} {K : Mm → Prop} (a1 : Int) (a2 : Int) (a3 : Int) (a4 : Int) (ua5 : aV) (ua6 : aV) (ua7 : aV) (s1 : Int) (s2 : Int) 
  (H : (0 ≤ s1 ∧ s1 < 297) ∧ ∀ m3, m3 = umem m 608 s1 s2 → (0 ≤ a1 ∧ a1 < 10) ∧ (a2 = (m3 604 a1) → X 214 54 [(1, 597), (0, a1), (0, a2), (0, a3), (0, a4), ua5, ua6, ua7] [(0, 0), (0, a4), (1, 609)] m3 (qV K)) ∧ (¬ a2 = (m3 604 a1) → X 214 54 [(1, 597), (0, a1), (0, a2), (0, a3), (0, a4), ua5, ua6, ua7] [(0, (-2)), (0, a4), (1, 609)] m3 (qV K))) : X 214 31 [(1, 597), (0, a1), (0, a2), (0, a3), (0, a4), ua5, ua6, ua7] [(2, s2), (0, s1), (1, 608)] m (qV K) := by
  obtain ⟨c1, H2⟩ := H
  refine x_last (cod_214 rfl) sq_a_608.s (sq_a_608.k c1.1 c1.2) ?_
  have H4 := H2 _ rfl
  generalize umem m 608 s1 s2 = m3 at H4 ⊢
  refine x_s (q := (.aload_n 0, 0, 0, 0)) (cod_214 rfl) rfl rfl rfl ?_
  refine x_gc (kk := 29) (c := 609) (t := 1) (cod_214 rfl) sq_p_597 sq_l_597_29 rfl rfl ?_
  refine x_s (q := (.iload 4, 0, 0, 0)) (cod_214 rfl) rfl rfl rfl ?_
  refine x_s (q := (.iload_n 2, 0, 0, 0)) (cod_214 rfl) rfl rfl rfl ?_
  refine x_s (q := (.aload_n 0, 0, 0, 0)) (cod_214 rfl) rfl rfl rfl ?_
  refine x_gc (kk := 20) (c := 604) (t := 1) (cod_214 rfl) sq_p_597 sq_l_597_20 rfl rfl ?_
  refine x_s (q := (.iload_n 1, 0, 0, 0)) (cod_214 rfl) rfl rfl rfl ?_
  obtain ⟨c5, H6⟩ := H4
  refine x_iald (cod_214 rfl) sq_a_604.s (sq_a_604.k c5.1 c5.2) ?_
  refine x_ic (p := ¬ a2 = (m3 604 a1)) (tgt := 52) (cod_214 rfl) (by decide) xj_ne (fun h => ?_) (fun h => ?_)
  · have H7 := H6.2 h
    refine x_s (q := (.bipush (-2), 0, 0, 0)) (cod_214 rfl) rfl rfl rfl ?_
    exact H7
  · have H8 := H6.1 (Classical.not_not.mp h)
    refine x_s (q := (.iconst 0, 0, 0, 0)) (cod_214 rfl) rfl rfl rfl ?_
    refine x_go (tgt := 54) (cod_214 rfl) (by decide) ?_
    exact H8
set_option maxRecDepth 100000 in
theorem w214_54 {m : Mm} {K : Mm → Prop} (a1 : Int) (a2 : Int) (a3 : Int) (a4 : Int) (ua5 : aV) (ua6 : aV) (ua7 : aV) (s1 : Int) (s2 : Int) 
  (H : (0 ≤ s1 ∧ s1 < 297) ∧ ∀ m3, m3 = umem m 609 s1 s2 → (0 ≤ a1 ∧ a1 < 10) ∧ (a2 = (m3 604 a1) → K m3) ∧ (¬ a2 = (m3 604 a1) → (0 ≤ (wr ((wr (10 * a1)) + a2)) ∧ (wr ((wr (10 * a1)) + a2)) < 100) ∧ ((m3 603 (wr ((wr (10 * a1)) + a2))) < 32 → (0 ≤ (wr ((wr ((wr (27 * (wr (a2 + 1)))) + (m3 603 (wr ((wr (10 * a1)) + a2))))) + 1)) ∧ (wr ((wr ((wr (27 * (wr (a2 + 1)))) + (m3 603 (wr ((wr (10 * a1)) + a2))))) + 1)) < 297) ∧ (0 ≤ a4 ∧ a4 < 297) ∧ ∀ m17, m17 = umem m3 608 a4 (m3 608 (wr ((wr ((wr (27 * (wr (a2 + 1)))) + (m3 603 (wr ((wr (10 * a1)) + a2))))) + 1))) → ∀ m19, m19 = umem m17 609 a4 (m17 609 (wr ((wr ((wr (27 * (wr (a2 + 1)))) + (m3 603 (wr ((wr (10 * a1)) + a2))))) + 1))) → K m19) ∧ (¬ (m3 603 (wr ((wr (10 * a1)) + a2))) < 32 → X 214 136 [(1, 597), (0, a1), (0, a2), (0, a3), (0, a4), (0, m3 603 (wr ((wr (10 * a1)) + a2))), (0, 0), ua7] [] m3 (qV K)))) : X 214 54 [(1, 597), (0, a1), (0, a2), (0, a3), (0, a4), ua5, ua6, ua7] [(0, s2), (0, s1), (1, 609)] m (qV K) := by
  obtain ⟨c1, H2⟩ := H
  refine x_iast (cod_214 rfl) sq_a_609.s (sq_a_609.k c1.1 c1.2) ?_
  have H4 := H2 _ rfl
  generalize umem m 609 s1 s2 = m3 at H4 ⊢
  refine x_s (q := (.iload_n 2, 0, 0, 0)) (cod_214 rfl) rfl rfl rfl ?_
  refine x_s (q := (.aload_n 0, 0, 0, 0)) (cod_214 rfl) rfl rfl rfl ?_
  refine x_gc (kk := 20) (c := 604) (t := 1) (cod_214 rfl) sq_p_597 sq_l_597_20 rfl rfl ?_
  refine x_s (q := (.iload_n 1, 0, 0, 0)) (cod_214 rfl) rfl rfl rfl ?_
  obtain ⟨c5, H6⟩ := H4
  refine x_iald (cod_214 rfl) sq_a_604.s (sq_a_604.k c5.1 c5.2) ?_
  refine x_ic (p := ¬ a2 = (m3 604 a1)) (tgt := 66) (cod_214 rfl) (by decide) xj_ne (fun h => ?_) (fun h => ?_)
  · have H7 := H6.2 h
    refine x_s (q := (.aload_n 0, 0, 0, 0)) (cod_214 rfl) rfl rfl rfl ?_
    refine x_gc (kk := 19) (c := 603) (t := 1) (cod_214 rfl) sq_p_597 sq_l_597_19 rfl rfl ?_
    refine x_s (q := (.bipush 10, 0, 0, 0)) (cod_214 rfl) rfl rfl rfl ?_
    refine x_s (q := (.iload_n 1, 0, 0, 0)) (cod_214 rfl) rfl rfl rfl ?_
    refine x_s (q := (.imul, 0, 0, 0)) (cod_214 rfl) rfl rfl rfl ?_
    refine x_s (q := (.iload_n 2, 0, 0, 0)) (cod_214 rfl) rfl rfl rfl ?_
    refine x_s (q := (.iadd, 0, 0, 0)) (cod_214 rfl) rfl rfl rfl ?_
    obtain ⟨c9, H10⟩ := H7
    refine x_iald (cod_214 rfl) sq_a_603.s (sq_a_603.k c9.1 c9.2) ?_
    refine x_s (q := (.istore 5, 0, 0, 0)) (cod_214 rfl) rfl rfl rfl ?_
    refine x_s (q := (.iload 5, 0, 0, 0)) (cod_214 rfl) rfl rfl rfl ?_
    refine x_s (q := (.bipush 32, 0, 0, 0)) (cod_214 rfl) rfl rfl rfl ?_
    refine x_ic (p := ¬ (m3 603 (wr ((wr (10 * a1)) + a2))) < 32) (tgt := 133) (cod_214 rfl) (by decide) xn_ge (fun h => ?_) (fun h => ?_)
    · have H11 := H10.2 h
      refine x_s (q := (.iconst 0, 0, 0, 0)) (cod_214 rfl) rfl rfl rfl ?_
      refine x_s (q := (.istore 6, 0, 0, 0)) (cod_214 rfl) rfl rfl rfl ?_
      exact H11
    · have H12 := H10.1 (Classical.not_not.mp h)
      refine x_s (q := (.aload_n 0, 0, 0, 0)) (cod_214 rfl) rfl rfl rfl ?_
      refine x_gc (kk := 28) (c := 608) (t := 1) (cod_214 rfl) sq_p_597 sq_l_597_28 rfl rfl ?_
      refine x_s (q := (.iload 4, 0, 0, 0)) (cod_214 rfl) rfl rfl rfl ?_
      refine x_s (q := (.aload_n 0, 0, 0, 0)) (cod_214 rfl) rfl rfl rfl ?_
      refine x_gc (kk := 28) (c := 608) (t := 1) (cod_214 rfl) sq_p_597 sq_l_597_28 rfl rfl ?_
      refine x_s (q := (.bipush 27, 0, 0, 0)) (cod_214 rfl) rfl rfl rfl ?_
      refine x_s (q := (.iload_n 2, 0, 0, 0)) (cod_214 rfl) rfl rfl rfl ?_
      refine x_s (q := (.iconst 1, 0, 0, 0)) (cod_214 rfl) rfl rfl rfl ?_
      refine x_s (q := (.iadd, 0, 0, 0)) (cod_214 rfl) rfl rfl rfl ?_
      refine x_s (q := (.imul, 0, 0, 0)) (cod_214 rfl) rfl rfl rfl ?_
      refine x_s (q := (.iload 5, 0, 0, 0)) (cod_214 rfl) rfl rfl rfl ?_
      refine x_s (q := (.iadd, 0, 0, 0)) (cod_214 rfl) rfl rfl rfl ?_
      refine x_s (q := (.iconst 1, 0, 0, 0)) (cod_214 rfl) rfl rfl rfl ?_
      refine x_s (q := (.iadd, 0, 0, 0)) (cod_214 rfl) rfl rfl rfl ?_
      obtain ⟨c13, H14⟩ := H12
      refine x_laldm (cod_214 rfl) sq_a_608.s (sq_a_608.k c13.1 c13.2) ?_
      obtain ⟨c15, H16⟩ := H14
      refine x_last (cod_214 rfl) sq_a_608.s (sq_a_608.k c15.1 c15.2) ?_
      have H18 := H16 _ rfl
      generalize umem m3 608 a4 (m3 608 (wr ((wr ((wr (27 * (wr (a2 + 1)))) + (m3 603 (wr ((wr (10 * a1)) + a2))))) + 1))) = m17 at H18 ⊢
      refine x_s (q := (.aload_n 0, 0, 0, 0)) (cod_214 rfl) rfl rfl rfl ?_
      refine x_gc (kk := 29) (c := 609) (t := 1) (cod_214 rfl) sq_p_597 sq_l_597_29 rfl rfl ?_
      refine x_s (q := (.iload 4, 0, 0, 0)) (cod_214 rfl) rfl rfl rfl ?_
      refine x_s (q := (.aload_n 0, 0, 0, 0)) (cod_214 rfl) rfl rfl rfl ?_
      refine x_gc (kk := 29) (c := 609) (t := 1) (cod_214 rfl) sq_p_597 sq_l_597_29 rfl rfl ?_
      refine x_s (q := (.bipush 27, 0, 0, 0)) (cod_214 rfl) rfl rfl rfl ?_
      refine x_s (q := (.iload_n 2, 0, 0, 0)) (cod_214 rfl) rfl rfl rfl ?_
      refine x_s (q := (.iconst 1, 0, 0, 0)) (cod_214 rfl) rfl rfl rfl ?_
      refine x_s (q := (.iadd, 0, 0, 0)) (cod_214 rfl) rfl rfl rfl ?_
      refine x_s (q := (.imul, 0, 0, 0)) (cod_214 rfl) rfl rfl rfl ?_
      refine x_s (q := (.iload 5, 0, 0, 0)) (cod_214 rfl) rfl rfl rfl ?_
      refine x_s (q := (.iadd, 0, 0, 0)) (cod_214 rfl) rfl rfl rfl ?_
      refine x_s (q := (.iconst 1, 0, 0, 0)) (cod_214 rfl) rfl rfl rfl ?_
      refine x_s (q := (.iadd, 0, 0, 0)) (cod_214 rfl) rfl rfl rfl ?_
      refine x_iald (cod_214 rfl) sq_a_609.s (sq_a_609.k c13.1 c13.2) ?_
      refine x_iast (cod_214 rfl) sq_a_609.s (sq_a_609.k c15.1 c15.2) ?_
      have H20 := H18 _ rfl
      generalize umem m17 609 a4 (m17 609 (wr ((wr ((wr (27 * (wr (a2 + 1)))) + (m3 603 (wr ((wr (10 * a1)) + a2))))) + 1))) = m19 at H20 ⊢
      refine x_retV (cod_214 rfl) rfl ?_
      exact H20
  · have H8 := H6.1 (Classical.not_not.mp h)
    refine x_retV (cod_214 rfl) rfl ?_
    exact H8
set_option maxRecDepth 100000 in
theorem w214_136 {m : Mm} {K : Mm → Prop} (a1 : Int) (a2 : Int) (a3 : Int) (a4 : Int) (ua5 : aV) (a6 : Int) (ua7 : aV) (hua5 : ua5.1 ≠ 2)
  (H : m 597 16 = 0 ∧ (a6 < (m 602 578) → v_F m a6 a1 a2 ∧ ((fitM m a6 a3 a1 a2 = true) → v_M m a6 ∧ (0 ≤ a4 ∧ a4 < 297) ∧ (0 ≤ (wr ((wr ((wr (27 * (wr (a2 + 1)))) + (lasB m a6 a3))) + 1)) ∧ (wr ((wr ((wr (27 * (wr (a2 + 1)))) + (lasB m a6 a3))) + 1)) < 297) ∧ ∀ m15, m15 = umem m 608 a4 (wl ((m 608 a4) + (m 608 (wr ((wr ((wr (27 * (wr (a2 + 1)))) + (lasB m a6 a3))) + 1))))) → ((lcmp (m15 608 a4) 1000000000000) > 0 → ∀ m19, m19 = umem m15 608 a4 1000000000000 → X 214 219 [(1, 597), (0, a1), (0, a2), (0, a3), (0, a4), ua5, (0, a6), (0, wr ((wr ((wr (27 * (wr (a2 + 1)))) + (lasB m a6 a3))) + 1))] [] m19 (qV K)) ∧ (¬ (lcmp (m15 608 a4) 1000000000000) > 0 → X 214 219 [(1, 597), (0, a1), (0, a2), (0, a3), (0, a4), ua5, (0, a6), (0, wr ((wr ((wr (27 * (wr (a2 + 1)))) + (lasB m a6 a3))) + 1))] [] m15 (qV K))) ∧ (¬ (fitM m a6 a3 a1 a2 = true) → X 214 136 [(1, 597), (0, a1), (0, a2), (0, a3), (0, a4), ua5, (0, wr (a6 + 1)), ua7] [] m (qV K))) ∧ (¬ a6 < (m 602 578) → K m)) : X 214 136 [(1, 597), (0, a1), (0, a2), (0, a3), (0, a4), ua5, (0, a6), ua7] [] m (qV K) := by
  refine x_s (q := (.iload 6, 0, 0, 0)) (cod_214 rfl) rfl rfl rfl ?_
  refine x_s (q := (.aload_n 0, 0, 0, 0)) (cod_214 rfl) rfl rfl rfl ?_
  refine x_call (as := [(1, 597)]) (rest := [(0, a6)]) (cod_214 rfl) rfl rfl (by decide) (by decide) rfl rfl (Nat.le_of_ble_eq_true rfl) (rcv0 sq_l_597_0 sq_p_597 (by decide)) (Nat.le_of_ble_eq_true rfl) ?_
  show X 181 0 [(1, 597)] [] m _
  refine x_s (q := (.aload_n 0, 0, 0, 0)) (cod_181 rfl) rfl rfl rfl ?_
  refine x_s (q := (.sipush 578, 0, 0, 0)) (cod_181 rfl) rfl rfl rfl ?_
  obtain ⟨c1, H2⟩ := H
  refine x_call (as := [(1, 597), (0, 578)]) (rest := []) (cod_181 rfl) rfl rfl (by decide) (by decide) rfl rfl (Nat.le_of_ble_eq_true rfl) (rcv0 sq_l_597_0 sq_p_597 (by decide)) (Nat.le_of_ble_eq_true rfl) ?_
  refine x_pure (p182a (by decide) c1) ?_
  show X 181 7 [(1, 597)] [(0, m 602 578)] m _
  refine x_rI (t := .int) (cod_181 rfl) rfl rfl rfl ?_
  show X 214 142 [(1, 597), (0, a1), (0, a2), (0, a3), (0, a4), ua5, (0, a6), ua7] [(0, m 602 578), (0, a6)] m _
  refine x_ic (p := ¬ a6 < (m 602 578)) (tgt := 290) (cod_214 rfl) (by decide) xn_ge (fun h => ?_) (fun h => ?_)
  · have H3 := H2.2 h
    refine x_retV (cod_214 rfl) rfl ?_
    exact H3
  · have H4 := H2.1 (Classical.not_not.mp h)
    refine x_s (q := (.aload_n 0, 0, 0, 0)) (cod_214 rfl) rfl rfl rfl ?_
    refine x_s (q := (.iload 6, 0, 0, 0)) (cod_214 rfl) rfl rfl rfl ?_
    refine x_s (q := (.iload_n 3, 0, 0, 0)) (cod_214 rfl) rfl rfl rfl ?_
    refine x_s (q := (.iload_n 1, 0, 0, 0)) (cod_214 rfl) rfl rfl rfl ?_
    refine x_s (q := (.iload_n 2, 0, 0, 0)) (cod_214 rfl) rfl rfl rfl ?_
    obtain ⟨c5, H6⟩ := H4
    refine x_call (as := [(1, 597), (0, a6), (0, a3), (0, a1), (0, a2)]) (rest := []) (cod_214 rfl) rfl rfl (by decide) (by decide) rfl rfl (Nat.le_of_ble_eq_true rfl) (rcv0 sq_l_597_0 sq_p_597 (by decide)) (Nat.le_of_ble_eq_true rfl) ?_
    refine x_pure (p215 c5) ?_
    show X 214 154 [(1, 597), (0, a1), (0, a2), (0, a3), (0, a4), ua5, (0, a6), ua7] [(0, bi (fitM m a6 a3 a1 a2 = true))] m _
    refine x_if (p := fitM m a6 a3 a1 a2 = true) (tgt := 160) (cod_214 rfl) (by decide) xb_ne (fun h => ?_) (fun h => ?_)
    · have H7 := H6.1 h
      refine x_s (q := (.bipush 27, 0, 0, 0)) (cod_214 rfl) rfl rfl rfl ?_
      refine x_s (q := (.iload_n 2, 0, 0, 0)) (cod_214 rfl) rfl rfl rfl ?_
      refine x_s (q := (.iconst 1, 0, 0, 0)) (cod_214 rfl) rfl rfl rfl ?_
      refine x_s (q := (.iadd, 0, 0, 0)) (cod_214 rfl) rfl rfl rfl ?_
      refine x_s (q := (.imul, 0, 0, 0)) (cod_214 rfl) rfl rfl rfl ?_
      refine x_s (q := (.aload_n 0, 0, 0, 0)) (cod_214 rfl) rfl rfl rfl ?_
      refine x_s (q := (.iload 6, 0, 0, 0)) (cod_214 rfl) rfl rfl rfl ?_
      refine x_s (q := (.iload_n 3, 0, 0, 0)) (cod_214 rfl) rfl rfl rfl ?_
      obtain ⟨c9, H10⟩ := H7
      refine x_call (as := [(1, 597), (0, a6), (0, a3)]) (rest := [(0, wr (27 * (wr (a2 + 1))))]) (cod_214 rfl) rfl rfl (by decide) (by decide) rfl rfl (Nat.le_of_ble_eq_true rfl) (rcv0 sq_l_597_0 sq_p_597 (by decide)) (Nat.le_of_ble_eq_true rfl) ?_
      refine x_pure (p220 c9) ?_
      show X 214 173 [(1, 597), (0, a1), (0, a2), (0, a3), (0, a4), ua5, (0, a6), ua7] [(0, lasB m a6 a3), (0, wr (27 * (wr (a2 + 1))))] m _
      refine x_s (q := (.iadd, 0, 0, 0)) (cod_214 rfl) rfl rfl rfl ?_
      refine x_s (q := (.iconst 1, 0, 0, 0)) (cod_214 rfl) rfl rfl rfl ?_
      refine x_s (q := (.iadd, 0, 0, 0)) (cod_214 rfl) rfl rfl rfl ?_
      refine x_s (q := (.istore 7, 0, 0, 0)) (cod_214 rfl) rfl rfl rfl ?_
      refine x_s (q := (.aload_n 0, 0, 0, 0)) (cod_214 rfl) rfl rfl rfl ?_
      refine x_gc (kk := 28) (c := 608) (t := 1) (cod_214 rfl) sq_p_597 sq_l_597_28 rfl rfl ?_
      refine x_s (q := (.iload 4, 0, 0, 0)) (cod_214 rfl) rfl rfl rfl ?_
      refine x_s (q := (.dup2, 0, 0, 0)) (cod_214 rfl) rfl rfl rfl ?_
      obtain ⟨c11, H12⟩ := H10
      refine x_laldm (cod_214 rfl) sq_a_608.s (sq_a_608.k c11.1 c11.2) ?_
      refine x_s (q := (.aload_n 0, 0, 0, 0)) (cod_214 rfl) rfl rfl rfl ?_
      refine x_gc (kk := 28) (c := 608) (t := 1) (cod_214 rfl) sq_p_597 sq_l_597_28 rfl rfl ?_
      refine x_s (q := (.iload 7, 0, 0, 0)) (cod_214 rfl) rfl rfl rfl ?_
      obtain ⟨c13, H14⟩ := H12
      refine x_laldm (cod_214 rfl) sq_a_608.s (sq_a_608.k c13.1 c13.2) ?_
      refine x_s (q := (.ladd, 0, 0, 0)) (cod_214 rfl) rfl rfl rfl ?_
      refine x_last (cod_214 rfl) sq_a_608.s (sq_a_608.k c11.1 c11.2) ?_
      have H16 := H14 _ rfl
      generalize umem m 608 a4 (wl ((m 608 a4) + (m 608 (wr ((wr ((wr (27 * (wr (a2 + 1)))) + (lasB m a6 a3))) + 1))))) = m15 at H16 ⊢
      refine x_s (q := (.aload_n 0, 0, 0, 0)) (cod_214 rfl) rfl rfl rfl ?_
      refine x_gc (kk := 28) (c := 608) (t := 1) (cod_214 rfl) sq_p_597 sq_l_597_28 rfl rfl ?_
      refine x_s (q := (.iload 4, 0, 0, 0)) (cod_214 rfl) rfl rfl rfl ?_
      refine x_laldm (cod_214 rfl) sq_a_608.s (sq_a_608.k c11.1 c11.2) ?_
      refine x_s (q := (.ldc2_w 333, 1000000000000, 0, 0)) (cod_214 rfl) rfl rfl rfl ?_
      show X 214 205 [(1, 597), (0, a1), (0, a2), (0, a3), (0, a4), ua5, (0, a6), (0, wr ((wr ((wr (27 * (wr (a2 + 1)))) + (lasB m a6 a3))) + 1))] [(2, 1000000000000), (2, m15 608 a4)] m15 _
      refine x_s (q := (.lcmp, 0, 0, 0)) (cod_214 rfl) rfl rfl rfl ?_
      show X 214 206 [(1, 597), (0, a1), (0, a2), (0, a3), (0, a4), ua5, (0, a6), (0, wr ((wr ((wr (27 * (wr (a2 + 1)))) + (lasB m a6 a3))) + 1))] [(0, lcmp (m15 608 a4) 1000000000000)] m15 _
      refine x_if (p := ¬ (lcmp (m15 608 a4) 1000000000000) > 0) (tgt := 219) (cod_214 rfl) (by decide) xn_le (fun h => ?_) (fun h => ?_)
      · have H17 := H16.2 h
        exact H17
      · have H18 := H16.1 (Classical.not_not.mp h)
        refine x_s (q := (.aload_n 0, 0, 0, 0)) (cod_214 rfl) rfl rfl rfl ?_
        refine x_gc (kk := 28) (c := 608) (t := 1) (cod_214 rfl) sq_p_597 sq_l_597_28 rfl rfl ?_
        refine x_s (q := (.iload 4, 0, 0, 0)) (cod_214 rfl) rfl rfl rfl ?_
        refine x_s (q := (.ldc2_w 333, 1000000000000, 0, 0)) (cod_214 rfl) rfl rfl rfl ?_
        show X 214 218 [(1, 597), (0, a1), (0, a2), (0, a3), (0, a4), ua5, (0, a6), (0, wr ((wr ((wr (27 * (wr (a2 + 1)))) + (lasB m a6 a3))) + 1))] [(2, 1000000000000), (0, a4), (1, 608)] m15 _
        refine x_last (cod_214 rfl) sq_a_608.s (sq_a_608.k c11.1 c11.2) ?_
        have H20 := H18 _ rfl
        generalize umem m15 608 a4 1000000000000 = m19 at H20 ⊢
        exact H20
    · have H8 := H6.2 h
      refine x_go (tgt := 284) (cod_214 rfl) (by decide) ?_
      show X 214 284 [(1, 597), (0, a1), (0, a2), (0, a3), (0, a4), ua5, (0, a6), ua7] [] m _
      refine x_s (q := (.iinc 6 1, 0, 0, 0)) (np := 287) (ls' := [(1, 597), (0, a1), (0, a2), (0, a3), (0, a4), ua5, (0, wr (a6 + 1)), ua7]) (st' := []) (cod_214 rfl) rfl rfl (by simp [stp1, stS, tok, lsok, oif, hua5]) ?_
      refine x_go (tgt := 136) (cod_214 rfl) (by decide) ?_
      exact H8
set_option maxRecDepth 100000 in
theorem w214_219 {m : Mm} {K : Mm → Prop} (a1 : Int) (a2 : Int) (a3 : Int) (a4 : Int) (ua5 : aV) (a6 : Int) (a7 : Int) (hua5 : ua5.1 ≠ 2)
  (H : (0 ≤ a7 ∧ a7 < 297) ∧ ((m 609 a7) < 0 → X 214 136 [(1, 597), (0, a1), (0, a2), (0, a3), (0, a4), ua5, (0, wr (a6 + 1)), (0, a7)] [] m (qV K)) ∧ (¬ (m 609 a7) < 0 → (0 ≤ a4 ∧ a4 < 297) ∧ ((m 609 a4) < 0 → X 214 263 [(1, 597), (0, a1), (0, a2), (0, a3), (0, a4), ua5, (0, a6), (0, a7)] [] m (qV K)) ∧ (¬ (m 609 a4) < 0 → v_V m a6 ∧ ((wr ((wnow m a6) + (m 609 a7))) < (m 609 a4) → X 214 263 [(1, 597), (0, a1), (0, a2), (0, a3), (0, a4), ua5, (0, a6), (0, a7)] [] m (qV K)) ∧ (¬ (wr ((wnow m a6) + (m 609 a7))) < (m 609 a4) → X 214 136 [(1, 597), (0, a1), (0, a2), (0, a3), (0, a4), ua5, (0, wr (a6 + 1)), (0, a7)] [] m (qV K))))) : X 214 219 [(1, 597), (0, a1), (0, a2), (0, a3), (0, a4), ua5, (0, a6), (0, a7)] [] m (qV K) := by
  refine x_s (q := (.aload_n 0, 0, 0, 0)) (cod_214 rfl) rfl rfl rfl ?_
  refine x_gc (kk := 29) (c := 609) (t := 1) (cod_214 rfl) sq_p_597 sq_l_597_29 rfl rfl ?_
  refine x_s (q := (.iload 7, 0, 0, 0)) (cod_214 rfl) rfl rfl rfl ?_
  obtain ⟨c1, H2⟩ := H
  refine x_iald (cod_214 rfl) sq_a_609.s (sq_a_609.k c1.1 c1.2) ?_
  refine x_if (p := (m 609 a7) < 0) (tgt := 284) (cod_214 rfl) (by decide) xj_lt (fun h => ?_) (fun h => ?_)
  · have H3 := H2.1 h
    show X 214 284 [(1, 597), (0, a1), (0, a2), (0, a3), (0, a4), ua5, (0, a6), (0, a7)] [] m _
    refine x_s (q := (.iinc 6 1, 0, 0, 0)) (np := 287) (ls' := [(1, 597), (0, a1), (0, a2), (0, a3), (0, a4), ua5, (0, wr (a6 + 1)), (0, a7)]) (st' := []) (cod_214 rfl) rfl rfl (by simp [stp1, stS, tok, lsok, oif, hua5]) ?_
    refine x_go (tgt := 136) (cod_214 rfl) (by decide) ?_
    exact H3
  · have H4 := H2.2 h
    refine x_s (q := (.aload_n 0, 0, 0, 0)) (cod_214 rfl) rfl rfl rfl ?_
    refine x_gc (kk := 29) (c := 609) (t := 1) (cod_214 rfl) sq_p_597 sq_l_597_29 rfl rfl ?_
    refine x_s (q := (.iload 4, 0, 0, 0)) (cod_214 rfl) rfl rfl rfl ?_
    obtain ⟨c5, H6⟩ := H4
    refine x_iald (cod_214 rfl) sq_a_609.s (sq_a_609.k c5.1 c5.2) ?_
    refine x_if (p := (m 609 a4) < 0) (tgt := 263) (cod_214 rfl) (by decide) xj_lt (fun h => ?_) (fun h => ?_)
    · have H7 := H6.1 h
      exact H7
    · have H8 := H6.2 h
      refine x_s (q := (.aload_n 0, 0, 0, 0)) (cod_214 rfl) rfl rfl rfl ?_
      refine x_s (q := (.iload 6, 0, 0, 0)) (cod_214 rfl) rfl rfl rfl ?_
      obtain ⟨c9, H10⟩ := H8
      refine x_call (as := [(1, 597), (0, a6)]) (rest := []) (cod_214 rfl) rfl rfl (by decide) (by decide) rfl rfl (Nat.le_of_ble_eq_true rfl) (rcv0 sq_l_597_0 sq_p_597 (by decide)) (Nat.le_of_ble_eq_true rfl) ?_
      refine x_pure (p203 c9) ?_
      show X 214 245 [(1, 597), (0, a1), (0, a2), (0, a3), (0, a4), ua5, (0, a6), (0, a7)] [(0, wnow m a6)] m _
      refine x_s (q := (.aload_n 0, 0, 0, 0)) (cod_214 rfl) rfl rfl rfl ?_
      refine x_gc (kk := 29) (c := 609) (t := 1) (cod_214 rfl) sq_p_597 sq_l_597_29 rfl rfl ?_
      refine x_s (q := (.iload 7, 0, 0, 0)) (cod_214 rfl) rfl rfl rfl ?_
      refine x_iald (cod_214 rfl) sq_a_609.s (sq_a_609.k c1.1 c1.2) ?_
      refine x_s (q := (.iadd, 0, 0, 0)) (cod_214 rfl) rfl rfl rfl ?_
      refine x_s (q := (.aload_n 0, 0, 0, 0)) (cod_214 rfl) rfl rfl rfl ?_
      refine x_gc (kk := 29) (c := 609) (t := 1) (cod_214 rfl) sq_p_597 sq_l_597_29 rfl rfl ?_
      refine x_s (q := (.iload 4, 0, 0, 0)) (cod_214 rfl) rfl rfl rfl ?_
      refine x_iald (cod_214 rfl) sq_a_609.s (sq_a_609.k c5.1 c5.2) ?_
      refine x_ic (p := ¬ (wr ((wnow m a6) + (m 609 a7))) < (m 609 a4)) (tgt := 284) (cod_214 rfl) (by decide) xn_ge (fun h => ?_) (fun h => ?_)
      · have H11 := H10.2 h
        show X 214 284 [(1, 597), (0, a1), (0, a2), (0, a3), (0, a4), ua5, (0, a6), (0, a7)] [] m _
        refine x_s (q := (.iinc 6 1, 0, 0, 0)) (np := 287) (ls' := [(1, 597), (0, a1), (0, a2), (0, a3), (0, a4), ua5, (0, wr (a6 + 1)), (0, a7)]) (st' := []) (cod_214 rfl) rfl rfl (by simp [stp1, stS, tok, lsok, oif, hua5]) ?_
        refine x_go (tgt := 136) (cod_214 rfl) (by decide) ?_
        exact H11
      · have H12 := H10.1 (Classical.not_not.mp h)
        exact H12
set_option maxRecDepth 100000 in
theorem w214_263 {m : Mm} {K : Mm → Prop} (a1 : Int) (a2 : Int) (a3 : Int) (a4 : Int) (ua5 : aV) (a6 : Int) (a7 : Int) (hua5 : ua5.1 ≠ 2)
  (H : v_V m a6 ∧ (0 ≤ a7 ∧ a7 < 297) ∧ (0 ≤ a4 ∧ a4 < 297) ∧ ∀ m7, m7 = umem m 609 a4 (wr ((wnow m a6) + (m 609 a7))) → X 214 136 [(1, 597), (0, a1), (0, a2), (0, a3), (0, a4), ua5, (0, wr (a6 + 1)), (0, a7)] [] m7 (qV K)) : X 214 263 [(1, 597), (0, a1), (0, a2), (0, a3), (0, a4), ua5, (0, a6), (0, a7)] [] m (qV K) := by
  refine x_s (q := (.aload_n 0, 0, 0, 0)) (cod_214 rfl) rfl rfl rfl ?_
  refine x_gc (kk := 29) (c := 609) (t := 1) (cod_214 rfl) sq_p_597 sq_l_597_29 rfl rfl ?_
  refine x_s (q := (.iload 4, 0, 0, 0)) (cod_214 rfl) rfl rfl rfl ?_
  refine x_s (q := (.aload_n 0, 0, 0, 0)) (cod_214 rfl) rfl rfl rfl ?_
  refine x_s (q := (.iload 6, 0, 0, 0)) (cod_214 rfl) rfl rfl rfl ?_
  obtain ⟨c1, H2⟩ := H
  refine x_call (as := [(1, 597), (0, a6)]) (rest := [(0, a4), (1, 609)]) (cod_214 rfl) rfl rfl (by decide) (by decide) rfl rfl (Nat.le_of_ble_eq_true rfl) (rcv0 sq_l_597_0 sq_p_597 (by decide)) (Nat.le_of_ble_eq_true rfl) ?_
  refine x_pure (p203 c1) ?_
  show X 214 275 [(1, 597), (0, a1), (0, a2), (0, a3), (0, a4), ua5, (0, a6), (0, a7)] [(0, wnow m a6), (0, a4), (1, 609)] m _
  refine x_s (q := (.aload_n 0, 0, 0, 0)) (cod_214 rfl) rfl rfl rfl ?_
  refine x_gc (kk := 29) (c := 609) (t := 1) (cod_214 rfl) sq_p_597 sq_l_597_29 rfl rfl ?_
  refine x_s (q := (.iload 7, 0, 0, 0)) (cod_214 rfl) rfl rfl rfl ?_
  obtain ⟨c3, H4⟩ := H2
  refine x_iald (cod_214 rfl) sq_a_609.s (sq_a_609.k c3.1 c3.2) ?_
  refine x_s (q := (.iadd, 0, 0, 0)) (cod_214 rfl) rfl rfl rfl ?_
  obtain ⟨c5, H6⟩ := H4
  refine x_iast (cod_214 rfl) sq_a_609.s (sq_a_609.k c5.1 c5.2) ?_
  have H8 := H6 _ rfl
  generalize umem m 609 a4 (wr ((wnow m a6) + (m 609 a7))) = m7 at H8 ⊢
  show X 214 284 [(1, 597), (0, a1), (0, a2), (0, a3), (0, a4), ua5, (0, a6), (0, a7)] [] m7 _
  refine x_s (q := (.iinc 6 1, 0, 0, 0)) (np := 287) (ls' := [(1, 597), (0, a1), (0, a2), (0, a3), (0, a4), ua5, (0, wr (a6 + 1)), (0, a7)]) (st' := []) (cod_214 rfl) rfl rfl (by simp [stp1, stS, tok, lsok, oif, hua5]) ?_
  refine x_go (tgt := 136) (cod_214 rfl) (by decide) ?_
  exact H8
set_option maxRecDepth 100000 in
theorem w221_0 {m : Mm} {K : Int → Mm → Prop} (a1 : Int) 
  (H : ∀ m1, m1 = umem m 597 0 0 → ((0 ≤ a1 ∧ a1 ≤ (wr ((m1 597 23) - 1))) → TrV 213 [(1, 597), (0, a1)] m1 fun m5 => K (m5 609 0) m5) ∧ (¬ (0 ≤ a1 ∧ a1 ≤ (wr ((m1 597 23) - 1))) → K (-1) m1)) : X 221 0 [(1, 597), (0, a1)] [] m (qI K) := by
  refine x_s (q := (.aload_n 0, 0, 0, 0)) (cod_221 rfl) rfl rfl rfl ?_
  refine x_s (q := (.iconst 0, 0, 0, 0)) (cod_221 rfl) rfl rfl rfl ?_
  refine x_pf (kk := 0) (t := 0) (cod_221 rfl) sq_p_597 sq_l_597_0 rfl rfl rfl ?_
  have H2 := H _ rfl
  generalize umem m 597 0 0 = m1 at H2 ⊢
  refine x_s (q := (.aload_n 0, 0, 0, 0)) (cod_221 rfl) rfl rfl rfl ?_
  refine x_s (q := (.iload_n 1, 0, 0, 0)) (cod_221 rfl) rfl rfl rfl ?_
  refine x_call (as := [(1, 597), (0, a1)]) (rest := []) (cod_221 rfl) rfl rfl (by decide) (by decide) rfl rfl (Nat.le_of_ble_eq_true rfl) (rcv0 sq_l_597_0 sq_p_597 (by decide)) (Nat.le_of_ble_eq_true rfl) ?_
  show X 210 0 [(1, 597), (0, a1)] [] m1 _
  refine x_s (q := (.iload_n 1, 0, 0, 0)) (cod_210 rfl) rfl rfl rfl ?_
  refine x_s (q := (.iconst 0, 0, 0, 0)) (cod_210 rfl) rfl rfl rfl ?_
  refine x_s (q := (.aload_n 0, 0, 0, 0)) (cod_210 rfl) rfl rfl rfl ?_
  refine x_gf (kk := 23) (t := 0) (cod_210 rfl) sq_p_597 sq_l_597_23 rfl rfl ?_
  refine x_s (q := (.iconst 1, 0, 0, 0)) (cod_210 rfl) rfl rfl rfl ?_
  refine x_s (q := (.isub, 0, 0, 0)) (cod_210 rfl) rfl rfl rfl ?_
  refine x_call (as := [(0, a1), (0, 0), (0, wr ((m1 597 23) - 1))]) (rest := []) (cod_210 rfl) rfl rfl (by decide) (by decide) rfl rfl (Nat.le_of_ble_eq_true rfl) rfl (Nat.le_of_ble_eq_true rfl) ?_
  refine x_pure (p172) ?_
  show X 210 11 [(1, 597), (0, a1)] [(0, bi (0 ≤ a1 ∧ a1 ≤ (wr ((m1 597 23) - 1))))] m1 _
  refine x_rI (t := .boolean) (cod_210 rfl) rfl rfl (bok_b (bi_01 _)) ?_
  show X 221 10 [(1, 597), (0, a1)] [(0, bi (0 ≤ a1 ∧ a1 ≤ (wr ((m1 597 23) - 1))))] m1 _
  refine x_if (p := 0 ≤ a1 ∧ a1 ≤ (wr ((m1 597 23) - 1))) (tgt := 15) (cod_221 rfl) (by decide) xb_ne (fun h => ?_) (fun h => ?_)
  · have H3 := H2.1 h
    refine x_s (q := (.aload_n 0, 0, 0, 0)) (cod_221 rfl) rfl rfl rfl ?_
    refine x_s (q := (.iload_n 1, 0, 0, 0)) (cod_221 rfl) rfl rfl rfl ?_
    refine x_call (as := [(1, 597), (0, a1)]) (rest := []) (cod_221 rfl) rfl rfl (by decide) (by decide) rfl rfl (Nat.le_of_ble_eq_true rfl) (rcv0 sq_l_597_0 sq_p_597 (by decide)) (Nat.le_of_ble_eq_true rfl) ?_
    refine X.imp H3 ?_
    rintro _ m5 ⟨rfl, H6⟩
    show X 221 20 [(1, 597), (0, a1)] [] m5 _
    refine x_s (q := (.aload_n 0, 0, 0, 0)) (cod_221 rfl) rfl rfl rfl ?_
    refine x_gc (kk := 29) (c := 609) (t := 1) (cod_221 rfl) sq_p_597 sq_l_597_29 rfl rfl ?_
    refine x_s (q := (.iconst 0, 0, 0, 0)) (cod_221 rfl) rfl rfl rfl ?_
    refine x_iald (cod_221 rfl) sq_a_609.s (sq_a_609.k (by decide) (by decide)) ?_
    refine x_retI (t := .int) (cod_221 rfl) rfl rfl rfl ?_
    exact H6
  · have H4 := H2.2 h
    refine x_s (q := (.iconst (-1), 0, 0, 0)) (cod_221 rfl) rfl rfl rfl ?_
    refine x_retI (t := .int) (cod_221 rfl) rfl rfl rfl ?_
    exact H4
theorem e221 {m : Mm} {K : Int → Mm → Prop} (a1 : Int) 
  (H : ∀ m1, m1 = umem m 597 0 0 → ((0 ≤ a1 ∧ a1 ≤ (wr ((m1 597 23) - 1))) → TrV 213 [(1, 597), (0, a1)] m1 fun m5 => K (m5 609 0) m5) ∧ (¬ (0 ≤ a1 ∧ a1 ≤ (wr ((m1 597 23) - 1))) → K (-1) m1)) : TrI 221 [(1, 597), (0, a1)] m K := by
  exact w221_0 a1 H
set_option maxRecDepth 100000 in
theorem w222_0 {m : Mm} {K : Int → Mm → Prop} (a1 : Int) (a2 : Int) 
  (H : ∀ m1, m1 = umem m 597 0 0 → ((0 ≤ a1 ∧ a1 ≤ (wr ((m1 597 23) - 1))) → (a2 < 0 → K (-1) m1) ∧ (¬ a2 < 0 → TrI 223 [(1, 597), (0, a1)] m1 fun v9 m7 => (v9 = 0 → K (-2) m7) ∧ (¬ v9 = 0 → (a2 < (m7 597 31) → (0 ≤ a2 ∧ a2 < 80) ∧ K (wr (97 + (m7 610 a2))) m7) ∧ (¬ a2 < (m7 597 31) → K (-2) m7)))) ∧ (¬ (0 ≤ a1 ∧ a1 ≤ (wr ((m1 597 23) - 1))) → K (-1) m1)) : X 222 0 [(1, 597), (0, a1), (0, a2)] [] m (qI K) := by
  refine x_s (q := (.aload_n 0, 0, 0, 0)) (cod_222 rfl) rfl rfl rfl ?_
  refine x_s (q := (.iconst 0, 0, 0, 0)) (cod_222 rfl) rfl rfl rfl ?_
  refine x_pf (kk := 0) (t := 0) (cod_222 rfl) sq_p_597 sq_l_597_0 rfl rfl rfl ?_
  have H2 := H _ rfl
  generalize umem m 597 0 0 = m1 at H2 ⊢
  refine x_s (q := (.aload_n 0, 0, 0, 0)) (cod_222 rfl) rfl rfl rfl ?_
  refine x_s (q := (.iload_n 1, 0, 0, 0)) (cod_222 rfl) rfl rfl rfl ?_
  refine x_call (as := [(1, 597), (0, a1)]) (rest := []) (cod_222 rfl) rfl rfl (by decide) (by decide) rfl rfl (Nat.le_of_ble_eq_true rfl) (rcv0 sq_l_597_0 sq_p_597 (by decide)) (Nat.le_of_ble_eq_true rfl) ?_
  show X 210 0 [(1, 597), (0, a1)] [] m1 _
  refine x_s (q := (.iload_n 1, 0, 0, 0)) (cod_210 rfl) rfl rfl rfl ?_
  refine x_s (q := (.iconst 0, 0, 0, 0)) (cod_210 rfl) rfl rfl rfl ?_
  refine x_s (q := (.aload_n 0, 0, 0, 0)) (cod_210 rfl) rfl rfl rfl ?_
  refine x_gf (kk := 23) (t := 0) (cod_210 rfl) sq_p_597 sq_l_597_23 rfl rfl ?_
  refine x_s (q := (.iconst 1, 0, 0, 0)) (cod_210 rfl) rfl rfl rfl ?_
  refine x_s (q := (.isub, 0, 0, 0)) (cod_210 rfl) rfl rfl rfl ?_
  refine x_call (as := [(0, a1), (0, 0), (0, wr ((m1 597 23) - 1))]) (rest := []) (cod_210 rfl) rfl rfl (by decide) (by decide) rfl rfl (Nat.le_of_ble_eq_true rfl) rfl (Nat.le_of_ble_eq_true rfl) ?_
  refine x_pure (p172) ?_
  show X 210 11 [(1, 597), (0, a1)] [(0, bi (0 ≤ a1 ∧ a1 ≤ (wr ((m1 597 23) - 1))))] m1 _
  refine x_rI (t := .boolean) (cod_210 rfl) rfl rfl (bok_b (bi_01 _)) ?_
  show X 222 10 [(1, 597), (0, a1), (0, a2)] [(0, bi (0 ≤ a1 ∧ a1 ≤ (wr ((m1 597 23) - 1))))] m1 _
  refine x_if (p := ¬ (0 ≤ a1 ∧ a1 ≤ (wr ((m1 597 23) - 1)))) (tgt := 17) (cod_222 rfl) (by decide) xb_eq (fun h => ?_) (fun h => ?_)
  · have H3 := H2.2 h
    refine x_s (q := (.iconst (-1), 0, 0, 0)) (cod_222 rfl) rfl rfl rfl ?_
    refine x_retI (t := .int) (cod_222 rfl) rfl rfl rfl ?_
    exact H3
  · have H4 := H2.1 (Classical.not_not.mp h)
    refine x_s (q := (.iload_n 2, 0, 0, 0)) (cod_222 rfl) rfl rfl rfl ?_
    refine x_if (p := ¬ a2 < 0) (tgt := 19) (cod_222 rfl) (by decide) xn_ge (fun h => ?_) (fun h => ?_)
    · have H5 := H4.2 h
      refine x_s (q := (.aload_n 0, 0, 0, 0)) (cod_222 rfl) rfl rfl rfl ?_
      refine x_s (q := (.iload_n 1, 0, 0, 0)) (cod_222 rfl) rfl rfl rfl ?_
      refine x_call (as := [(1, 597), (0, a1)]) (rest := []) (cod_222 rfl) rfl rfl (by decide) (by decide) rfl rfl (Nat.le_of_ble_eq_true rfl) (rcv0 sq_l_597_0 sq_p_597 (by decide)) (Nat.le_of_ble_eq_true rfl) ?_
      refine X.imp H5 ?_
      rintro _ m7 ⟨v9, rfl, H8⟩
      show X 222 24 [(1, 597), (0, a1), (0, a2)] [(0, v9)] m7 _
      refine x_if (p := v9 = 0) (tgt := 47) (cod_222 rfl) (by decide) xj_eq (fun h => ?_) (fun h => ?_)
      · have H10 := H8.1 h
        refine x_s (q := (.bipush (-2), 0, 0, 0)) (cod_222 rfl) rfl rfl rfl ?_
        refine x_retI (t := .int) (cod_222 rfl) rfl rfl rfl ?_
        exact H10
      · have H11 := H8.2 h
        refine x_s (q := (.iload_n 2, 0, 0, 0)) (cod_222 rfl) rfl rfl rfl ?_
        refine x_s (q := (.aload_n 0, 0, 0, 0)) (cod_222 rfl) rfl rfl rfl ?_
        refine x_gf (kk := 31) (t := 0) (cod_222 rfl) sq_p_597 sq_l_597_31 rfl rfl ?_
        refine x_ic (p := ¬ a2 < (m7 597 31)) (tgt := 47) (cod_222 rfl) (by decide) xn_ge (fun h => ?_) (fun h => ?_)
        · have H12 := H11.2 h
          refine x_s (q := (.bipush (-2), 0, 0, 0)) (cod_222 rfl) rfl rfl rfl ?_
          refine x_retI (t := .int) (cod_222 rfl) rfl rfl rfl ?_
          exact H12
        · have H13 := H11.1 (Classical.not_not.mp h)
          refine x_s (q := (.bipush 97, 0, 0, 0)) (cod_222 rfl) rfl rfl rfl ?_
          refine x_s (q := (.aload_n 0, 0, 0, 0)) (cod_222 rfl) rfl rfl rfl ?_
          refine x_gc (kk := 30) (c := 610) (t := 1) (cod_222 rfl) sq_p_597 sq_l_597_30 rfl rfl ?_
          refine x_s (q := (.iload_n 2, 0, 0, 0)) (cod_222 rfl) rfl rfl rfl ?_
          obtain ⟨c14, H15⟩ := H13
          refine x_iald (cod_222 rfl) sq_a_610.s (sq_a_610.k c14.1 c14.2) ?_
          refine x_s (q := (.iadd, 0, 0, 0)) (cod_222 rfl) rfl rfl rfl ?_
          refine x_go (tgt := 49) (cod_222 rfl) (by decide) ?_
          refine x_retI (t := .int) (cod_222 rfl) rfl rfl rfl ?_
          exact H15
    · have H6 := H4.1 (Classical.not_not.mp h)
      refine x_s (q := (.iconst (-1), 0, 0, 0)) (cod_222 rfl) rfl rfl rfl ?_
      refine x_retI (t := .int) (cod_222 rfl) rfl rfl rfl ?_
      exact H6
theorem e222 {m : Mm} {K : Int → Mm → Prop} (a1 : Int) (a2 : Int) 
  (H : ∀ m1, m1 = umem m 597 0 0 → ((0 ≤ a1 ∧ a1 ≤ (wr ((m1 597 23) - 1))) → (a2 < 0 → K (-1) m1) ∧ (¬ a2 < 0 → TrI 223 [(1, 597), (0, a1)] m1 fun v9 m7 => (v9 = 0 → K (-2) m7) ∧ (¬ v9 = 0 → (a2 < (m7 597 31) → (0 ≤ a2 ∧ a2 < 80) ∧ K (wr (97 + (m7 610 a2))) m7) ∧ (¬ a2 < (m7 597 31) → K (-2) m7)))) ∧ (¬ (0 ≤ a1 ∧ a1 ≤ (wr ((m1 597 23) - 1))) → K (-1) m1)) : TrI 222 [(1, 597), (0, a1), (0, a2)] m K := by
  exact w222_0 a1 a2 H
set_option maxRecDepth 100000 in
theorem w223_0 {m : Mm} {K : Int → Mm → Prop} (a1 : Int) 
  (H : TrV 213 [(1, 597), (0, a1)] m fun m1 => ∀ m3, m3 = umem m1 597 31 0 → ∀ m5, m5 = umem m3 597 33 0 → ((m5 609 0) < 0 → K 0 m5) ∧ (¬ (m5 609 0) < 0 → X 223 30 [(1, 597), (0, a1), (0, (-1)), (0, 0), (9, 0), (9, 0), (9, 0)] [] m5 (qI K))) : X 223 0 [(1, 597), (0, a1), (9, 0), (9, 0), (9, 0), (9, 0), (9, 0)] [] m (qI K) := by
  refine x_s (q := (.aload_n 0, 0, 0, 0)) (cod_223 rfl) rfl rfl rfl ?_
  refine x_s (q := (.iload_n 1, 0, 0, 0)) (cod_223 rfl) rfl rfl rfl ?_
  refine x_call (as := [(1, 597), (0, a1)]) (rest := []) (cod_223 rfl) rfl rfl (by decide) (by decide) rfl rfl (Nat.le_of_ble_eq_true rfl) (rcv0 sq_l_597_0 sq_p_597 (by decide)) (Nat.le_of_ble_eq_true rfl) ?_
  refine X.imp H ?_
  rintro _ m1 ⟨rfl, H2⟩
  show X 223 5 [(1, 597), (0, a1), (9, 0), (9, 0), (9, 0), (9, 0), (9, 0)] [] m1 _
  refine x_s (q := (.aload_n 0, 0, 0, 0)) (cod_223 rfl) rfl rfl rfl ?_
  refine x_s (q := (.iconst 0, 0, 0, 0)) (cod_223 rfl) rfl rfl rfl ?_
  refine x_pf (kk := 31) (t := 0) (cod_223 rfl) sq_p_597 sq_l_597_31 rfl rfl rfl ?_
  have H4 := H2 _ rfl
  generalize umem m1 597 31 0 = m3 at H4 ⊢
  refine x_s (q := (.aload_n 0, 0, 0, 0)) (cod_223 rfl) rfl rfl rfl ?_
  refine x_s (q := (.iconst 0, 0, 0, 0)) (cod_223 rfl) rfl rfl rfl ?_
  refine x_pf (kk := 33) (t := 0) (cod_223 rfl) sq_p_597 sq_l_597_33 rfl rfl rfl ?_
  have H6 := H4 _ rfl
  generalize umem m3 597 33 0 = m5 at H6 ⊢
  refine x_s (q := (.aload_n 0, 0, 0, 0)) (cod_223 rfl) rfl rfl rfl ?_
  refine x_gc (kk := 29) (c := 609) (t := 1) (cod_223 rfl) sq_p_597 sq_l_597_29 rfl rfl ?_
  refine x_s (q := (.iconst 0, 0, 0, 0)) (cod_223 rfl) rfl rfl rfl ?_
  refine x_iald (cod_223 rfl) sq_a_609.s (sq_a_609.k (by decide) (by decide)) ?_
  refine x_if (p := ¬ (m5 609 0) < 0) (tgt := 26) (cod_223 rfl) (by decide) xn_ge (fun h => ?_) (fun h => ?_)
  · have H7 := H6.2 h
    refine x_s (q := (.iconst (-1), 0, 0, 0)) (cod_223 rfl) rfl rfl rfl ?_
    refine x_s (q := (.istore_n 2, 0, 0, 0)) (cod_223 rfl) rfl rfl rfl ?_
    refine x_s (q := (.iconst 0, 0, 0, 0)) (cod_223 rfl) rfl rfl rfl ?_
    refine x_s (q := (.istore_n 3, 0, 0, 0)) (cod_223 rfl) rfl rfl rfl ?_
    exact H7
  · have H8 := H6.1 (Classical.not_not.mp h)
    refine x_s (q := (.iconst 0, 0, 0, 0)) (cod_223 rfl) rfl rfl rfl ?_
    refine x_retI (t := .boolean) (cod_223 rfl) rfl rfl rfl ?_
    exact H8
theorem e223 {m : Mm} {K : Int → Mm → Prop} (a1 : Int) 
  (H : TrV 213 [(1, 597), (0, a1)] m fun m1 => ∀ m3, m3 = umem m1 597 31 0 → ∀ m5, m5 = umem m3 597 33 0 → ((m5 609 0) < 0 → K 0 m5) ∧ (¬ (m5 609 0) < 0 → X 223 30 [(1, 597), (0, a1), (0, (-1)), (0, 0), (9, 0), (9, 0), (9, 0)] [] m5 (qI K))) : TrI 223 [(1, 597), (0, a1)] m K := by
  exact w223_0 a1 H
set_option maxRecDepth 100000 in
theorem w223_30 {m : Mm} {K : Int → Mm → Prop} (a1 : Int) (a2 : Int) (a3 : Int) (ua4 : aV) (ua5 : aV) (ua6 : aV) 
  (H : (0 ≤ a1 ∧ a1 < 10) ∧ (a3 < (m 604 a1) → (0 ≤ (wr ((wr (10 * a1)) + a3)) ∧ (wr ((wr (10 * a1)) + a3)) < 100) ∧ ((m 603 (wr ((wr (10 * a1)) + a3))) < 32 → (0 ≤ (m 597 31) ∧ (m 597 31) < 80) ∧ ∀ m14, m14 = umem m 610 (m 597 31) (m 603 (wr ((wr (10 * a1)) + a3))) → ∀ m16, m16 = umem m14 597 31 (wr ((m14 597 31) + 1)) → X 223 30 [(1, 597), (0, a1), (0, m 603 (wr ((wr (10 * a1)) + a3))), (0, wr (a3 + 1)), (0, m 603 (wr ((wr (10 * a1)) + a3))), ua5, ua6] [] m16 (qI K)) ∧ (¬ (m 603 (wr ((wr (10 * a1)) + a3))) < 32 → TrI 225 [(1, 597), (0, a1), (0, a3), (0, a2)] m fun v11 m9 => X 223 84 [(1, 597), (0, a1), (0, a2), (0, a3), (0, m 603 (wr ((wr (10 * a1)) + a3))), (0, v11), (0, 0)] [] m9 (qI K))) ∧ (¬ a3 < (m 604 a1) → K 1 m)) : X 223 30 [(1, 597), (0, a1), (0, a2), (0, a3), ua4, ua5, ua6] [] m (qI K) := by
  refine x_s (q := (.iload_n 3, 0, 0, 0)) (cod_223 rfl) rfl rfl rfl ?_
  refine x_s (q := (.aload_n 0, 0, 0, 0)) (cod_223 rfl) rfl rfl rfl ?_
  refine x_gc (kk := 20) (c := 604) (t := 1) (cod_223 rfl) sq_p_597 sq_l_597_20 rfl rfl ?_
  refine x_s (q := (.iload_n 1, 0, 0, 0)) (cod_223 rfl) rfl rfl rfl ?_
  obtain ⟨c1, H2⟩ := H
  refine x_iald (cod_223 rfl) sq_a_604.s (sq_a_604.k c1.1 c1.2) ?_
  refine x_ic (p := ¬ a3 < (m 604 a1)) (tgt := 153) (cod_223 rfl) (by decide) xn_ge (fun h => ?_) (fun h => ?_)
  · have H3 := H2.2 h
    refine x_s (q := (.iconst 1, 0, 0, 0)) (cod_223 rfl) rfl rfl rfl ?_
    refine x_retI (t := .boolean) (cod_223 rfl) rfl rfl rfl ?_
    exact H3
  · have H4 := H2.1 (Classical.not_not.mp h)
    refine x_s (q := (.aload_n 0, 0, 0, 0)) (cod_223 rfl) rfl rfl rfl ?_
    refine x_gc (kk := 19) (c := 603) (t := 1) (cod_223 rfl) sq_p_597 sq_l_597_19 rfl rfl ?_
    refine x_s (q := (.bipush 10, 0, 0, 0)) (cod_223 rfl) rfl rfl rfl ?_
    refine x_s (q := (.iload_n 1, 0, 0, 0)) (cod_223 rfl) rfl rfl rfl ?_
    refine x_s (q := (.imul, 0, 0, 0)) (cod_223 rfl) rfl rfl rfl ?_
    refine x_s (q := (.iload_n 3, 0, 0, 0)) (cod_223 rfl) rfl rfl rfl ?_
    refine x_s (q := (.iadd, 0, 0, 0)) (cod_223 rfl) rfl rfl rfl ?_
    obtain ⟨c5, H6⟩ := H4
    refine x_iald (cod_223 rfl) sq_a_603.s (sq_a_603.k c5.1 c5.2) ?_
    refine x_s (q := (.istore 4, 0, 0, 0)) (cod_223 rfl) rfl rfl rfl ?_
    refine x_s (q := (.iload 4, 0, 0, 0)) (cod_223 rfl) rfl rfl rfl ?_
    refine x_s (q := (.bipush 32, 0, 0, 0)) (cod_223 rfl) rfl rfl rfl ?_
    refine x_ic (p := ¬ (m 603 (wr ((wr (10 * a1)) + a3))) < 32) (tgt := 72) (cod_223 rfl) (by decide) xn_ge (fun h => ?_) (fun h => ?_)
    · have H7 := H6.2 h
      refine x_s (q := (.aload_n 0, 0, 0, 0)) (cod_223 rfl) rfl rfl rfl ?_
      refine x_s (q := (.iload_n 1, 0, 0, 0)) (cod_223 rfl) rfl rfl rfl ?_
      refine x_s (q := (.iload_n 3, 0, 0, 0)) (cod_223 rfl) rfl rfl rfl ?_
      refine x_s (q := (.iload_n 2, 0, 0, 0)) (cod_223 rfl) rfl rfl rfl ?_
      refine x_call (as := [(1, 597), (0, a1), (0, a3), (0, a2)]) (rest := []) (cod_223 rfl) rfl rfl (by decide) (by decide) rfl rfl (Nat.le_of_ble_eq_true rfl) (rcv0 sq_l_597_0 sq_p_597 (by decide)) (Nat.le_of_ble_eq_true rfl) ?_
      refine X.imp H7 ?_
      rintro _ m9 ⟨v11, rfl, H10⟩
      show X 223 79 [(1, 597), (0, a1), (0, a2), (0, a3), (0, m 603 (wr ((wr (10 * a1)) + a3))), ua5, ua6] [(0, v11)] m9 _
      refine x_s (q := (.istore 5, 0, 0, 0)) (cod_223 rfl) rfl rfl rfl ?_
      refine x_s (q := (.iconst 0, 0, 0, 0)) (cod_223 rfl) rfl rfl rfl ?_
      refine x_s (q := (.istore 6, 0, 0, 0)) (cod_223 rfl) rfl rfl rfl ?_
      exact H10
    · have H8 := H6.1 (Classical.not_not.mp h)
      refine x_s (q := (.aload_n 0, 0, 0, 0)) (cod_223 rfl) rfl rfl rfl ?_
      refine x_s (q := (.iload 4, 0, 0, 0)) (cod_223 rfl) rfl rfl rfl ?_
      refine x_call (as := [(1, 597), (0, m 603 (wr ((wr (10 * a1)) + a3)))]) (rest := []) (cod_223 rfl) rfl rfl (by decide) (by decide) rfl rfl (Nat.le_of_ble_eq_true rfl) (rcv0 sq_l_597_0 sq_p_597 (by decide)) (Nat.le_of_ble_eq_true rfl) ?_
      show X 224 0 [(1, 597), (0, m 603 (wr ((wr (10 * a1)) + a3)))] [] m _
      refine x_s (q := (.aload_n 0, 0, 0, 0)) (cod_224 rfl) rfl rfl rfl ?_
      refine x_gc (kk := 30) (c := 610) (t := 1) (cod_224 rfl) sq_p_597 sq_l_597_30 rfl rfl ?_
      refine x_s (q := (.aload_n 0, 0, 0, 0)) (cod_224 rfl) rfl rfl rfl ?_
      refine x_gf (kk := 31) (t := 0) (cod_224 rfl) sq_p_597 sq_l_597_31 rfl rfl ?_
      refine x_s (q := (.iload_n 1, 0, 0, 0)) (cod_224 rfl) rfl rfl rfl ?_
      obtain ⟨c12, H13⟩ := H8
      refine x_iast (cod_224 rfl) sq_a_610.s (sq_a_610.k c12.1 c12.2) ?_
      have H15 := H13 _ rfl
      generalize umem m 610 (m 597 31) (m 603 (wr ((wr (10 * a1)) + a3))) = m14 at H15 ⊢
      refine x_s (q := (.aload_n 0, 0, 0, 0)) (cod_224 rfl) rfl rfl rfl ?_
      refine x_s (q := (.dup, 0, 0, 0)) (cod_224 rfl) rfl rfl rfl ?_
      refine x_gf (kk := 31) (t := 0) (cod_224 rfl) sq_p_597 sq_l_597_31 rfl rfl ?_
      refine x_s (q := (.iconst 1, 0, 0, 0)) (cod_224 rfl) rfl rfl rfl ?_
      refine x_s (q := (.iadd, 0, 0, 0)) (cod_224 rfl) rfl rfl rfl ?_
      refine x_pf (kk := 31) (t := 0) (cod_224 rfl) sq_p_597 sq_l_597_31 rfl rfl rfl ?_
      have H17 := H15 _ rfl
      generalize umem m14 597 31 (wr ((m14 597 31) + 1)) = m16 at H17 ⊢
      refine x_rV (cod_224 rfl) rfl ?_
      show X 223 66 [(1, 597), (0, a1), (0, a2), (0, a3), (0, m 603 (wr ((wr (10 * a1)) + a3))), ua5, ua6] [] m16 _
      refine x_s (q := (.iload 4, 0, 0, 0)) (cod_223 rfl) rfl rfl rfl ?_
      refine x_s (q := (.istore_n 2, 0, 0, 0)) (cod_223 rfl) rfl rfl rfl ?_
      refine x_go (tgt := 147) (cod_223 rfl) (by decide) ?_
      refine x_s (q := (.iinc 3 1, 0, 0, 0)) (cod_223 rfl) rfl rfl rfl ?_
      refine x_go (tgt := 30) (cod_223 rfl) (by decide) ?_
      exact H17
set_option maxRecDepth 100000 in
theorem w223_84 {m : Mm} {K : Int → Mm → Prop} (a1 : Int) (a2 : Int) (a3 : Int) (ua4 : aV) (a5 : Int) (a6 : Int) 
  (H : (m 597 16 = 0 ∧ 0 ≤ (wr ((wr (11 * a5)) + 1)) ∧ (wr ((wr (11 * a5)) + 1)) < 1166) ∧ (a6 < (m 602 (wr ((wr (11 * a5)) + 1))) → (m 597 16 = 0 ∧ 0 ≤ (wr ((wr ((wr (11 * a5)) + 5)) + a6)) ∧ (wr ((wr ((wr (11 * a5)) + 5)) + a6)) < 1166) ∧ (0 ≤ (m 597 31) ∧ (m 597 31) < 80) ∧ ∀ m17, m17 = umem m 610 (m 597 31) (m 602 (wr ((wr ((wr (11 * a5)) + 5)) + a6))) → ∀ m19, m19 = umem m17 597 31 (wr ((m17 597 31) + 1)) → X 223 84 [(1, 597), (0, a1), (0, a2), (0, a3), ua4, (0, a5), (0, wr (a6 + 1))] [] m19 (qI K)) ∧ (¬ a6 < (m 602 (wr ((wr (11 * a5)) + 1))) → (0 ≤ (m 597 33) ∧ (m 597 33) < 10) ∧ ∀ m7, m7 = umem m 611 (m 597 33) a5 → ∀ m9, m9 = umem m7 597 33 (wr ((m7 597 33) + 1)) → v_M m9 a5 ∧ X 223 30 [(1, 597), (0, a1), (0, lasB m9 a5 a2), (0, wr (a3 + 1)), ua4, (0, a5), (0, a6)] [] m9 (qI K))) : X 223 84 [(1, 597), (0, a1), (0, a2), (0, a3), ua4, (0, a5), (0, a6)] [] m (qI K) := by
  refine x_s (q := (.iload 6, 0, 0, 0)) (cod_223 rfl) rfl rfl rfl ?_
  refine x_s (q := (.aload_n 0, 0, 0, 0)) (cod_223 rfl) rfl rfl rfl ?_
  refine x_s (q := (.bipush 11, 0, 0, 0)) (cod_223 rfl) rfl rfl rfl ?_
  refine x_s (q := (.iload 5, 0, 0, 0)) (cod_223 rfl) rfl rfl rfl ?_
  refine x_s (q := (.imul, 0, 0, 0)) (cod_223 rfl) rfl rfl rfl ?_
  refine x_s (q := (.iconst 1, 0, 0, 0)) (cod_223 rfl) rfl rfl rfl ?_
  refine x_s (q := (.iadd, 0, 0, 0)) (cod_223 rfl) rfl rfl rfl ?_
  obtain ⟨c1, H2⟩ := H
  refine x_call (as := [(1, 597), (0, wr ((wr (11 * a5)) + 1))]) (rest := [(0, a6)]) (cod_223 rfl) rfl rfl (by decide) (by decide) rfl rfl (Nat.le_of_ble_eq_true rfl) (rcv0 sq_l_597_0 sq_p_597 (by decide)) (Nat.le_of_ble_eq_true rfl) ?_
  refine x_pure (p182ax c1) ?_
  show X 223 97 [(1, 597), (0, a1), (0, a2), (0, a3), ua4, (0, a5), (0, a6)] [(0, m 602 (wr ((wr (11 * a5)) + 1))), (0, a6)] m _
  refine x_ic (p := ¬ a6 < (m 602 (wr ((wr (11 * a5)) + 1)))) (tgt := 118) (cod_223 rfl) (by decide) xn_ge (fun h => ?_) (fun h => ?_)
  · have H3 := H2.2 h
    refine x_s (q := (.aload_n 0, 0, 0, 0)) (cod_223 rfl) rfl rfl rfl ?_
    refine x_gc (kk := 32) (c := 611) (t := 1) (cod_223 rfl) sq_p_597 sq_l_597_32 rfl rfl ?_
    refine x_s (q := (.aload_n 0, 0, 0, 0)) (cod_223 rfl) rfl rfl rfl ?_
    refine x_gf (kk := 33) (t := 0) (cod_223 rfl) sq_p_597 sq_l_597_33 rfl rfl ?_
    refine x_s (q := (.iload 5, 0, 0, 0)) (cod_223 rfl) rfl rfl rfl ?_
    obtain ⟨c5, H6⟩ := H3
    refine x_iast (cod_223 rfl) sq_a_611.s (sq_a_611.k c5.1 c5.2) ?_
    have H8 := H6 _ rfl
    generalize umem m 611 (m 597 33) a5 = m7 at H8 ⊢
    refine x_s (q := (.aload_n 0, 0, 0, 0)) (cod_223 rfl) rfl rfl rfl ?_
    refine x_s (q := (.dup, 0, 0, 0)) (cod_223 rfl) rfl rfl rfl ?_
    refine x_gf (kk := 33) (t := 0) (cod_223 rfl) sq_p_597 sq_l_597_33 rfl rfl ?_
    refine x_s (q := (.iconst 1, 0, 0, 0)) (cod_223 rfl) rfl rfl rfl ?_
    refine x_s (q := (.iadd, 0, 0, 0)) (cod_223 rfl) rfl rfl rfl ?_
    refine x_pf (kk := 33) (t := 0) (cod_223 rfl) sq_p_597 sq_l_597_33 rfl rfl rfl ?_
    have H10 := H8 _ rfl
    generalize umem m7 597 33 (wr ((m7 597 33) + 1)) = m9 at H10 ⊢
    refine x_s (q := (.aload_n 0, 0, 0, 0)) (cod_223 rfl) rfl rfl rfl ?_
    refine x_s (q := (.iload 5, 0, 0, 0)) (cod_223 rfl) rfl rfl rfl ?_
    refine x_s (q := (.iload_n 2, 0, 0, 0)) (cod_223 rfl) rfl rfl rfl ?_
    obtain ⟨c11, H12⟩ := H10
    refine x_call (as := [(1, 597), (0, a5), (0, a2)]) (rest := []) (cod_223 rfl) rfl rfl (by decide) (by decide) rfl rfl (Nat.le_of_ble_eq_true rfl) (rcv0 sq_l_597_0 sq_p_597 (by decide)) (Nat.le_of_ble_eq_true rfl) ?_
    refine x_pure (p220 c11) ?_
    show X 223 146 [(1, 597), (0, a1), (0, a2), (0, a3), ua4, (0, a5), (0, a6)] [(0, lasB m9 a5 a2)] m9 _
    refine x_s (q := (.istore_n 2, 0, 0, 0)) (cod_223 rfl) rfl rfl rfl ?_
    refine x_s (q := (.iinc 3 1, 0, 0, 0)) (cod_223 rfl) rfl rfl rfl ?_
    refine x_go (tgt := 30) (cod_223 rfl) (by decide) ?_
    exact H12
  · have H4 := H2.1 (Classical.not_not.mp h)
    refine x_s (q := (.aload_n 0, 0, 0, 0)) (cod_223 rfl) rfl rfl rfl ?_
    refine x_s (q := (.aload_n 0, 0, 0, 0)) (cod_223 rfl) rfl rfl rfl ?_
    refine x_s (q := (.iload 5, 0, 0, 0)) (cod_223 rfl) rfl rfl rfl ?_
    refine x_s (q := (.iload 6, 0, 0, 0)) (cod_223 rfl) rfl rfl rfl ?_
    refine x_call (as := [(1, 597), (0, a5), (0, a6)]) (rest := [(1, 597)]) (cod_223 rfl) rfl rfl (by decide) (by decide) rfl rfl (Nat.le_of_ble_eq_true rfl) (rcv0 sq_l_597_0 sq_p_597 (by decide)) (Nat.le_of_ble_eq_true rfl) ?_
    show X 207 0 [(1, 597), (0, a5), (0, a6)] [] m _
    refine x_s (q := (.aload_n 0, 0, 0, 0)) (cod_207 rfl) rfl rfl rfl ?_
    refine x_s (q := (.bipush 11, 0, 0, 0)) (cod_207 rfl) rfl rfl rfl ?_
    refine x_s (q := (.iload_n 1, 0, 0, 0)) (cod_207 rfl) rfl rfl rfl ?_
    refine x_s (q := (.imul, 0, 0, 0)) (cod_207 rfl) rfl rfl rfl ?_
    refine x_s (q := (.iconst 5, 0, 0, 0)) (cod_207 rfl) rfl rfl rfl ?_
    refine x_s (q := (.iadd, 0, 0, 0)) (cod_207 rfl) rfl rfl rfl ?_
    refine x_s (q := (.iload_n 2, 0, 0, 0)) (cod_207 rfl) rfl rfl rfl ?_
    refine x_s (q := (.iadd, 0, 0, 0)) (cod_207 rfl) rfl rfl rfl ?_
    obtain ⟨c13, H14⟩ := H4
    refine x_call (as := [(1, 597), (0, wr ((wr ((wr (11 * a5)) + 5)) + a6))]) (rest := []) (cod_207 rfl) rfl rfl (by decide) (by decide) rfl rfl (Nat.le_of_ble_eq_true rfl) (rcv0 sq_l_597_0 sq_p_597 (by decide)) (Nat.le_of_ble_eq_true rfl) ?_
    refine x_pure (p182ax c13) ?_
    show X 207 12 [(1, 597), (0, a5), (0, a6)] [(0, m 602 (wr ((wr ((wr (11 * a5)) + 5)) + a6)))] m _
    refine x_rI (t := .int) (cod_207 rfl) rfl rfl rfl ?_
    show X 223 109 [(1, 597), (0, a1), (0, a2), (0, a3), ua4, (0, a5), (0, a6)] [(0, m 602 (wr ((wr ((wr (11 * a5)) + 5)) + a6))), (1, 597)] m _
    refine x_call (as := [(1, 597), (0, m 602 (wr ((wr ((wr (11 * a5)) + 5)) + a6)))]) (rest := []) (cod_223 rfl) rfl rfl (by decide) (by decide) rfl rfl (Nat.le_of_ble_eq_true rfl) (rcv0 sq_l_597_0 sq_p_597 (by decide)) (Nat.le_of_ble_eq_true rfl) ?_
    show X 224 0 [(1, 597), (0, m 602 (wr ((wr ((wr (11 * a5)) + 5)) + a6)))] [] m _
    refine x_s (q := (.aload_n 0, 0, 0, 0)) (cod_224 rfl) rfl rfl rfl ?_
    refine x_gc (kk := 30) (c := 610) (t := 1) (cod_224 rfl) sq_p_597 sq_l_597_30 rfl rfl ?_
    refine x_s (q := (.aload_n 0, 0, 0, 0)) (cod_224 rfl) rfl rfl rfl ?_
    refine x_gf (kk := 31) (t := 0) (cod_224 rfl) sq_p_597 sq_l_597_31 rfl rfl ?_
    refine x_s (q := (.iload_n 1, 0, 0, 0)) (cod_224 rfl) rfl rfl rfl ?_
    obtain ⟨c15, H16⟩ := H14
    refine x_iast (cod_224 rfl) sq_a_610.s (sq_a_610.k c15.1 c15.2) ?_
    have H18 := H16 _ rfl
    generalize umem m 610 (m 597 31) (m 602 (wr ((wr ((wr (11 * a5)) + 5)) + a6))) = m17 at H18 ⊢
    refine x_s (q := (.aload_n 0, 0, 0, 0)) (cod_224 rfl) rfl rfl rfl ?_
    refine x_s (q := (.dup, 0, 0, 0)) (cod_224 rfl) rfl rfl rfl ?_
    refine x_gf (kk := 31) (t := 0) (cod_224 rfl) sq_p_597 sq_l_597_31 rfl rfl ?_
    refine x_s (q := (.iconst 1, 0, 0, 0)) (cod_224 rfl) rfl rfl rfl ?_
    refine x_s (q := (.iadd, 0, 0, 0)) (cod_224 rfl) rfl rfl rfl ?_
    refine x_pf (kk := 31) (t := 0) (cod_224 rfl) sq_p_597 sq_l_597_31 rfl rfl rfl ?_
    have H20 := H18 _ rfl
    generalize umem m17 597 31 (wr ((m17 597 31) + 1)) = m19 at H20 ⊢
    refine x_rV (cod_224 rfl) rfl ?_
    show X 223 112 [(1, 597), (0, a1), (0, a2), (0, a3), ua4, (0, a5), (0, a6)] [] m19 _
    refine x_s (q := (.iinc 6 1, 0, 0, 0)) (cod_223 rfl) rfl rfl rfl ?_
    refine x_go (tgt := 84) (cod_223 rfl) (by decide) ?_
    exact H20
set_option maxRecDepth 100000 in
theorem w225_0 {m : Mm} {K : Int → Mm → Prop} (a1 : Int) (a2 : Int) (a3 : Int) 
  (H : X 225 3 [(1, 597), (0, a1), (0, a2), (0, a3), (0, 0)] [] m (qI K)) : X 225 0 [(1, 597), (0, a1), (0, a2), (0, a3), (9, 0)] [] m (qI K) := by
  refine x_s (q := (.iconst 0, 0, 0, 0)) (cod_225 rfl) rfl rfl rfl ?_
  refine x_s (q := (.istore 4, 0, 0, 0)) (cod_225 rfl) rfl rfl rfl ?_
  exact H
theorem e225 {m : Mm} {K : Int → Mm → Prop} (a1 : Int) (a2 : Int) (a3 : Int) 
  (H : X 225 3 [(1, 597), (0, a1), (0, a2), (0, a3), (0, 0)] [] m (qI K)) : TrI 225 [(1, 597), (0, a1), (0, a2), (0, a3)] m K := by
  exact w225_0 a1 a2 a3 H
set_option maxRecDepth 100000 in
theorem w225_3 {m : Mm} {K : Int → Mm → Prop} (a1 : Int) (a2 : Int) (a3 : Int) (a4 : Int) 
  (H : v_F m a4 a1 a2 ∧ ((fitM m a4 a3 a1 a2 = true) → v_M m a4 ∧ (0 ≤ (wr ((wr ((wr (27 * (wr (a2 + 1)))) + (lasB m a4 a3))) + 1)) ∧ (wr ((wr ((wr (27 * (wr (a2 + 1)))) + (lasB m a4 a3))) + 1)) < 297) ∧ ((m 609 (wr ((wr ((wr (27 * (wr (a2 + 1)))) + (lasB m a4 a3))) + 1))) < 0 → X 225 3 [(1, 597), (0, a1), (0, a2), (0, a3), (0, wr (a4 + 1))] [] m (qI K)) ∧ (¬ (m 609 (wr ((wr ((wr (27 * (wr (a2 + 1)))) + (lasB m a4 a3))) + 1))) < 0 → v_V m a4 ∧ v_M m a4 ∧ (0 ≤ (wr ((wr ((wr (27 * a2)) + a3)) + 1)) ∧ (wr ((wr ((wr (27 * a2)) + a3)) + 1)) < 297) ∧ ((wr ((wnow m a4) + (m 609 (wr ((wr ((wr (27 * (wr (a2 + 1)))) + (lasB m a4 a3))) + 1))))) = (m 609 (wr ((wr ((wr (27 * a2)) + a3)) + 1))) → K a4 m) ∧ (¬ (wr ((wnow m a4) + (m 609 (wr ((wr ((wr (27 * (wr (a2 + 1)))) + (lasB m a4 a3))) + 1))))) = (m 609 (wr ((wr ((wr (27 * a2)) + a3)) + 1))) → X 225 3 [(1, 597), (0, a1), (0, a2), (0, a3), (0, wr (a4 + 1))] [] m (qI K)))) ∧ (¬ (fitM m a4 a3 a1 a2 = true) → X 225 3 [(1, 597), (0, a1), (0, a2), (0, a3), (0, wr (a4 + 1))] [] m (qI K))) : X 225 3 [(1, 597), (0, a1), (0, a2), (0, a3), (0, a4)] [] m (qI K) := by
  refine x_s (q := (.aload_n 0, 0, 0, 0)) (cod_225 rfl) rfl rfl rfl ?_
  refine x_s (q := (.iload 4, 0, 0, 0)) (cod_225 rfl) rfl rfl rfl ?_
  refine x_s (q := (.iload_n 3, 0, 0, 0)) (cod_225 rfl) rfl rfl rfl ?_
  refine x_s (q := (.iload_n 1, 0, 0, 0)) (cod_225 rfl) rfl rfl rfl ?_
  refine x_s (q := (.iload_n 2, 0, 0, 0)) (cod_225 rfl) rfl rfl rfl ?_
  obtain ⟨c1, H2⟩ := H
  refine x_call (as := [(1, 597), (0, a4), (0, a3), (0, a1), (0, a2)]) (rest := []) (cod_225 rfl) rfl rfl (by decide) (by decide) rfl rfl (Nat.le_of_ble_eq_true rfl) (rcv0 sq_l_597_0 sq_p_597 (by decide)) (Nat.le_of_ble_eq_true rfl) ?_
  refine x_pure (p215 c1) ?_
  show X 225 12 [(1, 597), (0, a1), (0, a2), (0, a3), (0, a4)] [(0, bi (fitM m a4 a3 a1 a2 = true))] m _
  refine x_if (p := ¬ (fitM m a4 a3 a1 a2 = true)) (tgt := 83) (cod_225 rfl) (by decide) xb_eq (fun h => ?_) (fun h => ?_)
  · have H3 := H2.2 h
    refine x_s (q := (.iinc 4 1, 0, 0, 0)) (cod_225 rfl) rfl rfl rfl ?_
    refine x_go (tgt := 3) (cod_225 rfl) (by decide) ?_
    exact H3
  · have H4 := H2.1 (Classical.not_not.mp h)
    refine x_s (q := (.aload_n 0, 0, 0, 0)) (cod_225 rfl) rfl rfl rfl ?_
    refine x_gc (kk := 29) (c := 609) (t := 1) (cod_225 rfl) sq_p_597 sq_l_597_29 rfl rfl ?_
    refine x_s (q := (.bipush 27, 0, 0, 0)) (cod_225 rfl) rfl rfl rfl ?_
    refine x_s (q := (.iload_n 2, 0, 0, 0)) (cod_225 rfl) rfl rfl rfl ?_
    refine x_s (q := (.iconst 1, 0, 0, 0)) (cod_225 rfl) rfl rfl rfl ?_
    refine x_s (q := (.iadd, 0, 0, 0)) (cod_225 rfl) rfl rfl rfl ?_
    refine x_s (q := (.imul, 0, 0, 0)) (cod_225 rfl) rfl rfl rfl ?_
    refine x_s (q := (.aload_n 0, 0, 0, 0)) (cod_225 rfl) rfl rfl rfl ?_
    refine x_s (q := (.iload 4, 0, 0, 0)) (cod_225 rfl) rfl rfl rfl ?_
    refine x_s (q := (.iload_n 3, 0, 0, 0)) (cod_225 rfl) rfl rfl rfl ?_
    obtain ⟨c5, H6⟩ := H4
    refine x_call (as := [(1, 597), (0, a4), (0, a3)]) (rest := [(0, wr (27 * (wr (a2 + 1)))), (1, 609)]) (cod_225 rfl) rfl rfl (by decide) (by decide) rfl rfl (Nat.le_of_ble_eq_true rfl) (rcv0 sq_l_597_0 sq_p_597 (by decide)) (Nat.le_of_ble_eq_true rfl) ?_
    refine x_pure (p220 c5) ?_
    show X 225 32 [(1, 597), (0, a1), (0, a2), (0, a3), (0, a4)] [(0, lasB m a4 a3), (0, wr (27 * (wr (a2 + 1)))), (1, 609)] m _
    refine x_s (q := (.iadd, 0, 0, 0)) (cod_225 rfl) rfl rfl rfl ?_
    refine x_s (q := (.iconst 1, 0, 0, 0)) (cod_225 rfl) rfl rfl rfl ?_
    refine x_s (q := (.iadd, 0, 0, 0)) (cod_225 rfl) rfl rfl rfl ?_
    obtain ⟨c7, H8⟩ := H6
    refine x_iald (cod_225 rfl) sq_a_609.s (sq_a_609.k c7.1 c7.2) ?_
    refine x_if (p := (m 609 (wr ((wr ((wr (27 * (wr (a2 + 1)))) + (lasB m a4 a3))) + 1))) < 0) (tgt := 83) (cod_225 rfl) (by decide) xj_lt (fun h => ?_) (fun h => ?_)
    · have H9 := H8.1 h
      refine x_s (q := (.iinc 4 1, 0, 0, 0)) (cod_225 rfl) rfl rfl rfl ?_
      refine x_go (tgt := 3) (cod_225 rfl) (by decide) ?_
      exact H9
    · have H10 := H8.2 h
      refine x_s (q := (.aload_n 0, 0, 0, 0)) (cod_225 rfl) rfl rfl rfl ?_
      refine x_s (q := (.iload 4, 0, 0, 0)) (cod_225 rfl) rfl rfl rfl ?_
      obtain ⟨c11, H12⟩ := H10
      refine x_call (as := [(1, 597), (0, a4)]) (rest := []) (cod_225 rfl) rfl rfl (by decide) (by decide) rfl rfl (Nat.le_of_ble_eq_true rfl) (rcv0 sq_l_597_0 sq_p_597 (by decide)) (Nat.le_of_ble_eq_true rfl) ?_
      refine x_pure (p203 c11) ?_
      show X 225 45 [(1, 597), (0, a1), (0, a2), (0, a3), (0, a4)] [(0, wnow m a4)] m _
      refine x_s (q := (.aload_n 0, 0, 0, 0)) (cod_225 rfl) rfl rfl rfl ?_
      refine x_gc (kk := 29) (c := 609) (t := 1) (cod_225 rfl) sq_p_597 sq_l_597_29 rfl rfl ?_
      refine x_s (q := (.bipush 27, 0, 0, 0)) (cod_225 rfl) rfl rfl rfl ?_
      refine x_s (q := (.iload_n 2, 0, 0, 0)) (cod_225 rfl) rfl rfl rfl ?_
      refine x_s (q := (.iconst 1, 0, 0, 0)) (cod_225 rfl) rfl rfl rfl ?_
      refine x_s (q := (.iadd, 0, 0, 0)) (cod_225 rfl) rfl rfl rfl ?_
      refine x_s (q := (.imul, 0, 0, 0)) (cod_225 rfl) rfl rfl rfl ?_
      refine x_s (q := (.aload_n 0, 0, 0, 0)) (cod_225 rfl) rfl rfl rfl ?_
      refine x_s (q := (.iload 4, 0, 0, 0)) (cod_225 rfl) rfl rfl rfl ?_
      refine x_s (q := (.iload_n 3, 0, 0, 0)) (cod_225 rfl) rfl rfl rfl ?_
      obtain ⟨c13, H14⟩ := H12
      refine x_call (as := [(1, 597), (0, a4), (0, a3)]) (rest := [(0, wr (27 * (wr (a2 + 1)))), (1, 609), (0, wnow m a4)]) (cod_225 rfl) rfl rfl (by decide) (by decide) rfl rfl (Nat.le_of_ble_eq_true rfl) (rcv0 sq_l_597_0 sq_p_597 (by decide)) (Nat.le_of_ble_eq_true rfl) ?_
      refine x_pure (p220 c13) ?_
      show X 225 62 [(1, 597), (0, a1), (0, a2), (0, a3), (0, a4)] [(0, lasB m a4 a3), (0, wr (27 * (wr (a2 + 1)))), (1, 609), (0, wnow m a4)] m _
      refine x_s (q := (.iadd, 0, 0, 0)) (cod_225 rfl) rfl rfl rfl ?_
      refine x_s (q := (.iconst 1, 0, 0, 0)) (cod_225 rfl) rfl rfl rfl ?_
      refine x_s (q := (.iadd, 0, 0, 0)) (cod_225 rfl) rfl rfl rfl ?_
      refine x_iald (cod_225 rfl) sq_a_609.s (sq_a_609.k c7.1 c7.2) ?_
      refine x_s (q := (.iadd, 0, 0, 0)) (cod_225 rfl) rfl rfl rfl ?_
      refine x_s (q := (.aload_n 0, 0, 0, 0)) (cod_225 rfl) rfl rfl rfl ?_
      refine x_gc (kk := 29) (c := 609) (t := 1) (cod_225 rfl) sq_p_597 sq_l_597_29 rfl rfl ?_
      refine x_s (q := (.bipush 27, 0, 0, 0)) (cod_225 rfl) rfl rfl rfl ?_
      refine x_s (q := (.iload_n 2, 0, 0, 0)) (cod_225 rfl) rfl rfl rfl ?_
      refine x_s (q := (.imul, 0, 0, 0)) (cod_225 rfl) rfl rfl rfl ?_
      refine x_s (q := (.iload_n 3, 0, 0, 0)) (cod_225 rfl) rfl rfl rfl ?_
      refine x_s (q := (.iadd, 0, 0, 0)) (cod_225 rfl) rfl rfl rfl ?_
      refine x_s (q := (.iconst 1, 0, 0, 0)) (cod_225 rfl) rfl rfl rfl ?_
      refine x_s (q := (.iadd, 0, 0, 0)) (cod_225 rfl) rfl rfl rfl ?_
      obtain ⟨c15, H16⟩ := H14
      refine x_iald (cod_225 rfl) sq_a_609.s (sq_a_609.k c15.1 c15.2) ?_
      refine x_ic (p := (wr ((wnow m a4) + (m 609 (wr ((wr ((wr (27 * (wr (a2 + 1)))) + (lasB m a4 a3))) + 1))))) = (m 609 (wr ((wr ((wr (27 * a2)) + a3)) + 1)))) (tgt := 89) (cod_225 rfl) (by decide) xj_eq (fun h => ?_) (fun h => ?_)
      · have H17 := H16.1 h
        refine x_s (q := (.iload 4, 0, 0, 0)) (cod_225 rfl) rfl rfl rfl ?_
        refine x_retI (t := .int) (cod_225 rfl) rfl rfl rfl ?_
        exact H17
      · have H18 := H16.2 h
        refine x_s (q := (.iinc 4 1, 0, 0, 0)) (cod_225 rfl) rfl rfl rfl ?_
        refine x_go (tgt := 3) (cod_225 rfl) (by decide) ?_
        exact H18
set_option maxRecDepth 100000 in
theorem w226_0 {m : Mm} {K : Int → Mm → Prop} (a1 : Int) (a2 : Int) 
  (H : ∀ m1, m1 = umem m 597 0 0 → ((0 ≤ a1 ∧ a1 ≤ (wr ((m1 597 23) - 1))) → m1 597 16 = 0 ∧ ((0 ≤ a2 ∧ a2 ≤ (wr ((m1 602 579) - 1))) → TrI 227 [(1, 597), (0, a1), (0, a2)] m1 fun v11 m9 => K v11 m9) ∧ (¬ (0 ≤ a2 ∧ a2 ≤ (wr ((m1 602 579) - 1))) → K (-1) m1)) ∧ (¬ (0 ≤ a1 ∧ a1 ≤ (wr ((m1 597 23) - 1))) → K (-1) m1)) : X 226 0 [(1, 597), (0, a1), (0, a2)] [] m (qI K) := by
  refine x_s (q := (.aload_n 0, 0, 0, 0)) (cod_226 rfl) rfl rfl rfl ?_
  refine x_s (q := (.iconst 0, 0, 0, 0)) (cod_226 rfl) rfl rfl rfl ?_
  refine x_pf (kk := 0) (t := 0) (cod_226 rfl) sq_p_597 sq_l_597_0 rfl rfl rfl ?_
  have H2 := H _ rfl
  generalize umem m 597 0 0 = m1 at H2 ⊢
  refine x_s (q := (.aload_n 0, 0, 0, 0)) (cod_226 rfl) rfl rfl rfl ?_
  refine x_s (q := (.iload_n 1, 0, 0, 0)) (cod_226 rfl) rfl rfl rfl ?_
  refine x_call (as := [(1, 597), (0, a1)]) (rest := []) (cod_226 rfl) rfl rfl (by decide) (by decide) rfl rfl (Nat.le_of_ble_eq_true rfl) (rcv0 sq_l_597_0 sq_p_597 (by decide)) (Nat.le_of_ble_eq_true rfl) ?_
  show X 210 0 [(1, 597), (0, a1)] [] m1 _
  refine x_s (q := (.iload_n 1, 0, 0, 0)) (cod_210 rfl) rfl rfl rfl ?_
  refine x_s (q := (.iconst 0, 0, 0, 0)) (cod_210 rfl) rfl rfl rfl ?_
  refine x_s (q := (.aload_n 0, 0, 0, 0)) (cod_210 rfl) rfl rfl rfl ?_
  refine x_gf (kk := 23) (t := 0) (cod_210 rfl) sq_p_597 sq_l_597_23 rfl rfl ?_
  refine x_s (q := (.iconst 1, 0, 0, 0)) (cod_210 rfl) rfl rfl rfl ?_
  refine x_s (q := (.isub, 0, 0, 0)) (cod_210 rfl) rfl rfl rfl ?_
  refine x_call (as := [(0, a1), (0, 0), (0, wr ((m1 597 23) - 1))]) (rest := []) (cod_210 rfl) rfl rfl (by decide) (by decide) rfl rfl (Nat.le_of_ble_eq_true rfl) rfl (Nat.le_of_ble_eq_true rfl) ?_
  refine x_pure (p172) ?_
  show X 210 11 [(1, 597), (0, a1)] [(0, bi (0 ≤ a1 ∧ a1 ≤ (wr ((m1 597 23) - 1))))] m1 _
  refine x_rI (t := .boolean) (cod_210 rfl) rfl rfl (bok_b (bi_01 _)) ?_
  show X 226 10 [(1, 597), (0, a1), (0, a2)] [(0, bi (0 ≤ a1 ∧ a1 ≤ (wr ((m1 597 23) - 1))))] m1 _
  refine x_if (p := ¬ (0 ≤ a1 ∧ a1 ≤ (wr ((m1 597 23) - 1)))) (tgt := 30) (cod_226 rfl) (by decide) xb_eq (fun h => ?_) (fun h => ?_)
  · have H3 := H2.2 h
    refine x_s (q := (.iconst (-1), 0, 0, 0)) (cod_226 rfl) rfl rfl rfl ?_
    refine x_retI (t := .int) (cod_226 rfl) rfl rfl rfl ?_
    exact H3
  · have H4 := H2.1 (Classical.not_not.mp h)
    refine x_s (q := (.aload_n 0, 0, 0, 0)) (cod_226 rfl) rfl rfl rfl ?_
    refine x_s (q := (.iload_n 2, 0, 0, 0)) (cod_226 rfl) rfl rfl rfl ?_
    refine x_call (as := [(1, 597), (0, a2)]) (rest := []) (cod_226 rfl) rfl rfl (by decide) (by decide) rfl rfl (Nat.le_of_ble_eq_true rfl) (rcv0 sq_l_597_0 sq_p_597 (by decide)) (Nat.le_of_ble_eq_true rfl) ?_
    show X 205 0 [(1, 597), (0, a2)] [] m1 _
    refine x_s (q := (.iload_n 1, 0, 0, 0)) (cod_205 rfl) rfl rfl rfl ?_
    refine x_s (q := (.iconst 0, 0, 0, 0)) (cod_205 rfl) rfl rfl rfl ?_
    refine x_s (q := (.aload_n 0, 0, 0, 0)) (cod_205 rfl) rfl rfl rfl ?_
    refine x_call (as := [(1, 597)]) (rest := [(0, 0), (0, a2)]) (cod_205 rfl) rfl rfl (by decide) (by decide) rfl rfl (Nat.le_of_ble_eq_true rfl) (rcv0 sq_l_597_0 sq_p_597 (by decide)) (Nat.le_of_ble_eq_true rfl) ?_
    show X 186 0 [(1, 597)] [] m1 _
    refine x_s (q := (.aload_n 0, 0, 0, 0)) (cod_186 rfl) rfl rfl rfl ?_
    refine x_s (q := (.sipush 579, 0, 0, 0)) (cod_186 rfl) rfl rfl rfl ?_
    obtain ⟨c5, H6⟩ := H4
    refine x_call (as := [(1, 597), (0, 579)]) (rest := []) (cod_186 rfl) rfl rfl (by decide) (by decide) rfl rfl (Nat.le_of_ble_eq_true rfl) (rcv0 sq_l_597_0 sq_p_597 (by decide)) (Nat.le_of_ble_eq_true rfl) ?_
    refine x_pure (p182a (by decide) c5) ?_
    show X 186 7 [(1, 597)] [(0, m1 602 579)] m1 _
    refine x_rI (t := .int) (cod_186 rfl) rfl rfl rfl ?_
    show X 205 6 [(1, 597), (0, a2)] [(0, m1 602 579), (0, 0), (0, a2)] m1 _
    refine x_s (q := (.iconst 1, 0, 0, 0)) (cod_205 rfl) rfl rfl rfl ?_
    refine x_s (q := (.isub, 0, 0, 0)) (cod_205 rfl) rfl rfl rfl ?_
    refine x_call (as := [(0, a2), (0, 0), (0, wr ((m1 602 579) - 1))]) (rest := []) (cod_205 rfl) rfl rfl (by decide) (by decide) rfl rfl (Nat.le_of_ble_eq_true rfl) rfl (Nat.le_of_ble_eq_true rfl) ?_
    refine x_pure (p172) ?_
    show X 205 11 [(1, 597), (0, a2)] [(0, bi (0 ≤ a2 ∧ a2 ≤ (wr ((m1 602 579) - 1))))] m1 _
    refine x_rI (t := .boolean) (cod_205 rfl) rfl rfl (bok_b (bi_01 _)) ?_
    show X 226 18 [(1, 597), (0, a1), (0, a2)] [(0, bi (0 ≤ a2 ∧ a2 ≤ (wr ((m1 602 579) - 1))))] m1 _
    refine x_if (p := ¬ (0 ≤ a2 ∧ a2 ≤ (wr ((m1 602 579) - 1)))) (tgt := 30) (cod_226 rfl) (by decide) xb_eq (fun h => ?_) (fun h => ?_)
    · have H7 := H6.2 h
      refine x_s (q := (.iconst (-1), 0, 0, 0)) (cod_226 rfl) rfl rfl rfl ?_
      refine x_retI (t := .int) (cod_226 rfl) rfl rfl rfl ?_
      exact H7
    · have H8 := H6.1 (Classical.not_not.mp h)
      refine x_s (q := (.aload_n 0, 0, 0, 0)) (cod_226 rfl) rfl rfl rfl ?_
      refine x_s (q := (.iload_n 1, 0, 0, 0)) (cod_226 rfl) rfl rfl rfl ?_
      refine x_s (q := (.iload_n 2, 0, 0, 0)) (cod_226 rfl) rfl rfl rfl ?_
      refine x_call (as := [(1, 597), (0, a1), (0, a2)]) (rest := []) (cod_226 rfl) rfl rfl (by decide) (by decide) rfl rfl (Nat.le_of_ble_eq_true rfl) (rcv0 sq_l_597_0 sq_p_597 (by decide)) (Nat.le_of_ble_eq_true rfl) ?_
      refine X.imp H8 ?_
      rintro _ m9 ⟨v11, rfl, H10⟩
      show X 226 27 [(1, 597), (0, a1), (0, a2)] [(0, v11)] m9 _
      refine x_go (tgt := 31) (cod_226 rfl) (by decide) ?_
      refine x_retI (t := .int) (cod_226 rfl) rfl rfl rfl ?_
      exact H10
theorem e226 {m : Mm} {K : Int → Mm → Prop} (a1 : Int) (a2 : Int) 
  (H : ∀ m1, m1 = umem m 597 0 0 → ((0 ≤ a1 ∧ a1 ≤ (wr ((m1 597 23) - 1))) → m1 597 16 = 0 ∧ ((0 ≤ a2 ∧ a2 ≤ (wr ((m1 602 579) - 1))) → TrI 227 [(1, 597), (0, a1), (0, a2)] m1 fun v11 m9 => K v11 m9) ∧ (¬ (0 ≤ a2 ∧ a2 ≤ (wr ((m1 602 579) - 1))) → K (-1) m1)) ∧ (¬ (0 ≤ a1 ∧ a1 ≤ (wr ((m1 597 23) - 1))) → K (-1) m1)) : TrI 226 [(1, 597), (0, a1), (0, a2)] m K := by
  exact w226_0 a1 a2 H
set_option maxRecDepth 100000 in
theorem w227_0 {m : Mm} {K : Int → Mm → Prop} (a1 : Int) (a2 : Int) 
  (H : (0 ≤ a1 ∧ a1 < 10) ∧ X 227 7 [(1, 597), (0, a1), (0, a2), (0, m 604 a1), (9, 0)] [] m (qI K)) : X 227 0 [(1, 597), (0, a1), (0, a2), (9, 0), (9, 0)] [] m (qI K) := by
  refine x_s (q := (.aload_n 0, 0, 0, 0)) (cod_227 rfl) rfl rfl rfl ?_
  refine x_gc (kk := 20) (c := 604) (t := 1) (cod_227 rfl) sq_p_597 sq_l_597_20 rfl rfl ?_
  refine x_s (q := (.iload_n 1, 0, 0, 0)) (cod_227 rfl) rfl rfl rfl ?_
  obtain ⟨c1, H2⟩ := H
  refine x_iald (cod_227 rfl) sq_a_604.s (sq_a_604.k c1.1 c1.2) ?_
  refine x_s (q := (.istore_n 3, 0, 0, 0)) (cod_227 rfl) rfl rfl rfl ?_
  exact H2
theorem e227 {m : Mm} {K : Int → Mm → Prop} (a1 : Int) (a2 : Int) 
  (H : (0 ≤ a1 ∧ a1 < 10) ∧ X 227 7 [(1, 597), (0, a1), (0, a2), (0, m 604 a1), (9, 0)] [] m (qI K)) : TrI 227 [(1, 597), (0, a1), (0, a2)] m K := by
  exact w227_0 a1 a2 H
set_option maxRecDepth 100000 in
theorem w227_7 {m : Mm} {K : Int → Mm → Prop} (a1 : Int) (a2 : Int) (a3 : Int) (ua4 : aV) 
  (H : (a3 < 0 → K (m 612 0) m) ∧ (¬ a3 < 0 → (m 597 16 = 0 ∧ 0 ≤ (wr (264 + (wr (11 * a2)))) ∧ (wr (264 + (wr (11 * a2)))) < 1166) ∧ X 227 25 [(1, 597), (0, a1), (0, a2), (0, a3), (0, m 602 (wr (264 + (wr (11 * a2)))))] [] m (qI K))) : X 227 7 [(1, 597), (0, a1), (0, a2), (0, a3), ua4] [] m (qI K) := by
  refine x_s (q := (.iload_n 3, 0, 0, 0)) (cod_227 rfl) rfl rfl rfl ?_
  refine x_if (p := a3 < 0) (tgt := 51) (cod_227 rfl) (by decide) xj_lt (fun h => ?_) (fun h => ?_)
  · have H1 := H.1 h
    refine x_s (q := (.aload_n 0, 0, 0, 0)) (cod_227 rfl) rfl rfl rfl ?_
    refine x_gc (kk := 34) (c := 612) (t := 1) (cod_227 rfl) sq_p_597 sq_l_597_34 rfl rfl ?_
    refine x_s (q := (.iconst 0, 0, 0, 0)) (cod_227 rfl) rfl rfl rfl ?_
    refine x_iald (cod_227 rfl) sq_a_612.s (sq_a_612.k (by decide) (by decide)) ?_
    refine x_retI (t := .int) (cod_227 rfl) rfl rfl rfl ?_
    exact H1
  · have H2 := H.2 h
    refine x_s (q := (.aload_n 0, 0, 0, 0)) (cod_227 rfl) rfl rfl rfl ?_
    refine x_s (q := (.sipush 264, 0, 0, 0)) (cod_227 rfl) rfl rfl rfl ?_
    refine x_s (q := (.bipush 11, 0, 0, 0)) (cod_227 rfl) rfl rfl rfl ?_
    refine x_s (q := (.iload_n 2, 0, 0, 0)) (cod_227 rfl) rfl rfl rfl ?_
    refine x_s (q := (.imul, 0, 0, 0)) (cod_227 rfl) rfl rfl rfl ?_
    refine x_s (q := (.iadd, 0, 0, 0)) (cod_227 rfl) rfl rfl rfl ?_
    obtain ⟨c3, H4⟩ := H2
    refine x_call (as := [(1, 597), (0, wr (264 + (wr (11 * a2))))]) (rest := []) (cod_227 rfl) rfl rfl (by decide) (by decide) rfl rfl (Nat.le_of_ble_eq_true rfl) (rcv0 sq_l_597_0 sq_p_597 (by decide)) (Nat.le_of_ble_eq_true rfl) ?_
    refine x_pure (p182ax c3) ?_
    show X 227 23 [(1, 597), (0, a1), (0, a2), (0, a3), ua4] [(0, m 602 (wr (264 + (wr (11 * a2)))))] m _
    refine x_s (q := (.istore 4, 0, 0, 0)) (cod_227 rfl) rfl rfl rfl ?_
    exact H4
set_option maxRecDepth 100000 in
theorem w227_25 {m : Mm} {K : Int → Mm → Prop} (a1 : Int) (a2 : Int) (a3 : Int) (a4 : Int) 
  (H : (a4 < 0 → X 227 7 [(1, 597), (0, a1), (0, a2), (0, wr (a3 + (-1))), (0, a4)] [] m (qI K)) ∧ (¬ a4 < 0 → TrV 228 [(1, 597), (0, a1), (0, a2), (0, a3), (0, a4)] m fun m3 => X 227 25 [(1, 597), (0, a1), (0, a2), (0, a3), (0, wr (a4 + (-1)))] [] m3 (qI K))) : X 227 25 [(1, 597), (0, a1), (0, a2), (0, a3), (0, a4)] [] m (qI K) := by
  refine x_s (q := (.iload 4, 0, 0, 0)) (cod_227 rfl) rfl rfl rfl ?_
  refine x_if (p := a4 < 0) (tgt := 45) (cod_227 rfl) (by decide) xj_lt (fun h => ?_) (fun h => ?_)
  · have H1 := H.1 h
    refine x_s (q := (.iinc 3 (-1), 0, 0, 0)) (cod_227 rfl) rfl rfl rfl ?_
    refine x_go (tgt := 7) (cod_227 rfl) (by decide) ?_
    exact H1
  · have H2 := H.2 h
    refine x_s (q := (.aload_n 0, 0, 0, 0)) (cod_227 rfl) rfl rfl rfl ?_
    refine x_s (q := (.iload_n 1, 0, 0, 0)) (cod_227 rfl) rfl rfl rfl ?_
    refine x_s (q := (.iload_n 2, 0, 0, 0)) (cod_227 rfl) rfl rfl rfl ?_
    refine x_s (q := (.iload_n 3, 0, 0, 0)) (cod_227 rfl) rfl rfl rfl ?_
    refine x_s (q := (.iload 4, 0, 0, 0)) (cod_227 rfl) rfl rfl rfl ?_
    refine x_call (as := [(1, 597), (0, a1), (0, a2), (0, a3), (0, a4)]) (rest := []) (cod_227 rfl) rfl rfl (by decide) (by decide) rfl rfl (Nat.le_of_ble_eq_true rfl) (rcv0 sq_l_597_0 sq_p_597 (by decide)) (Nat.le_of_ble_eq_true rfl) ?_
    refine X.imp H2 ?_
    rintro _ m3 ⟨rfl, H4⟩
    show X 227 39 [(1, 597), (0, a1), (0, a2), (0, a3), (0, a4)] [] m3 _
    refine x_s (q := (.iinc 4 (-1), 0, 0, 0)) (cod_227 rfl) rfl rfl rfl ?_
    refine x_go (tgt := 25) (cod_227 rfl) (by decide) ?_
    exact H4
set_option maxRecDepth 100000 in
theorem w228_0 {m : Mm} {K : Mm → Prop} (a1 : Int) (a2 : Int) (a3 : Int) (a4 : Int) 
  (H : (0 ≤ (wr ((wr (9 * a3)) + a4)) ∧ (wr ((wr (9 * a3)) + a4)) < 99) ∧ ∀ m3, m3 = umem m 612 (wr ((wr (9 * a3)) + a4)) (-2) → (0 ≤ a1 ∧ a1 < 10) ∧ (a3 = (m3 604 a1) → (m3 597 16 = 0 ∧ 0 ≤ (wr (264 + (wr (11 * a2)))) ∧ (wr (264 + (wr (11 * a2)))) < 1166) ∧ (a4 = (m3 602 (wr (264 + (wr (11 * a2))))) → ∀ m31, m31 = umem m3 612 (wr ((wr (9 * a3)) + a4)) 0 → K m31) ∧ (¬ a4 = (m3 602 (wr (264 + (wr (11 * a2))))) → ∀ m29, m29 = umem m3 612 (wr ((wr (9 * a3)) + a4)) (-2) → K m29)) ∧ (¬ a3 = (m3 604 a1) → (0 ≤ (wr ((wr (10 * a1)) + a3)) ∧ (wr ((wr (10 * a1)) + a3)) < 100) ∧ ((m3 603 (wr ((wr (10 * a1)) + a3))) < 32 → (m3 597 16 = 0 ∧ 0 ≤ (wr (264 + (wr (11 * a2)))) ∧ (wr (264 + (wr (11 * a2)))) < 1166) ∧ (a4 < (m3 602 (wr (264 + (wr (11 * a2))))) → (m3 597 16 = 0 ∧ 0 ≤ (wr ((wr ((wr (264 + (wr (11 * a2)))) + 3)) + a4)) ∧ (wr ((wr ((wr (264 + (wr (11 * a2)))) + 3)) + a4)) < 1166) ∧ ((m3 602 (wr ((wr ((wr (264 + (wr (11 * a2)))) + 3)) + a4))) = (m3 603 (wr ((wr (10 * a1)) + a3))) → (0 ≤ (wr ((wr ((wr (9 * (wr (a3 + 1)))) + a4)) + 1)) ∧ (wr ((wr ((wr (9 * (wr (a3 + 1)))) + a4)) + 1)) < 99) ∧ ∀ m23, m23 = umem m3 612 (wr ((wr (9 * a3)) + a4)) (m3 612 (wr ((wr ((wr (9 * (wr (a3 + 1)))) + a4)) + 1))) → K m23) ∧ (¬ (m3 602 (wr ((wr ((wr (264 + (wr (11 * a2)))) + 3)) + a4))) = (m3 603 (wr ((wr (10 * a1)) + a3))) → K m3)) ∧ (¬ a4 < (m3 602 (wr (264 + (wr (11 * a2))))) → K m3)) ∧ (¬ (m3 603 (wr ((wr (10 * a1)) + a3))) < 32 → X 228 135 [(1, 597), (0, a1), (0, a2), (0, a3), (0, a4), (0, wr ((wr (9 * a3)) + a4)), (0, m3 603 (wr ((wr (10 * a1)) + a3))), (0, 0), (9, 0)] [] m3 (qV K)))) : X 228 0 [(1, 597), (0, a1), (0, a2), (0, a3), (0, a4), (9, 0), (9, 0), (9, 0), (9, 0)] [] m (qV K) := by
  refine x_s (q := (.bipush 9, 0, 0, 0)) (cod_228 rfl) rfl rfl rfl ?_
  refine x_s (q := (.iload_n 3, 0, 0, 0)) (cod_228 rfl) rfl rfl rfl ?_
  refine x_s (q := (.imul, 0, 0, 0)) (cod_228 rfl) rfl rfl rfl ?_
  refine x_s (q := (.iload 4, 0, 0, 0)) (cod_228 rfl) rfl rfl rfl ?_
  refine x_s (q := (.iadd, 0, 0, 0)) (cod_228 rfl) rfl rfl rfl ?_
  refine x_s (q := (.istore 5, 0, 0, 0)) (cod_228 rfl) rfl rfl rfl ?_
  refine x_s (q := (.aload_n 0, 0, 0, 0)) (cod_228 rfl) rfl rfl rfl ?_
  refine x_gc (kk := 34) (c := 612) (t := 1) (cod_228 rfl) sq_p_597 sq_l_597_34 rfl rfl ?_
  refine x_s (q := (.iload 5, 0, 0, 0)) (cod_228 rfl) rfl rfl rfl ?_
  refine x_s (q := (.bipush (-2), 0, 0, 0)) (cod_228 rfl) rfl rfl rfl ?_
  obtain ⟨c1, H2⟩ := H
  refine x_iast (cod_228 rfl) sq_a_612.s (sq_a_612.k c1.1 c1.2) ?_
  have H4 := H2 _ rfl
  generalize umem m 612 (wr ((wr (9 * a3)) + a4)) (-2) = m3 at H4 ⊢
  refine x_s (q := (.iload_n 3, 0, 0, 0)) (cod_228 rfl) rfl rfl rfl ?_
  refine x_s (q := (.aload_n 0, 0, 0, 0)) (cod_228 rfl) rfl rfl rfl ?_
  refine x_gc (kk := 20) (c := 604) (t := 1) (cod_228 rfl) sq_p_597 sq_l_597_20 rfl rfl ?_
  refine x_s (q := (.iload_n 1, 0, 0, 0)) (cod_228 rfl) rfl rfl rfl ?_
  obtain ⟨c5, H6⟩ := H4
  refine x_iald (cod_228 rfl) sq_a_604.s (sq_a_604.k c5.1 c5.2) ?_
  refine x_ic (p := ¬ a3 = (m3 604 a1)) (tgt := 59) (cod_228 rfl) (by decide) xj_ne (fun h => ?_) (fun h => ?_)
  · have H7 := H6.2 h
    refine x_s (q := (.aload_n 0, 0, 0, 0)) (cod_228 rfl) rfl rfl rfl ?_
    refine x_gc (kk := 19) (c := 603) (t := 1) (cod_228 rfl) sq_p_597 sq_l_597_19 rfl rfl ?_
    refine x_s (q := (.bipush 10, 0, 0, 0)) (cod_228 rfl) rfl rfl rfl ?_
    refine x_s (q := (.iload_n 1, 0, 0, 0)) (cod_228 rfl) rfl rfl rfl ?_
    refine x_s (q := (.imul, 0, 0, 0)) (cod_228 rfl) rfl rfl rfl ?_
    refine x_s (q := (.iload_n 3, 0, 0, 0)) (cod_228 rfl) rfl rfl rfl ?_
    refine x_s (q := (.iadd, 0, 0, 0)) (cod_228 rfl) rfl rfl rfl ?_
    obtain ⟨c9, H10⟩ := H7
    refine x_iald (cod_228 rfl) sq_a_603.s (sq_a_603.k c9.1 c9.2) ?_
    refine x_s (q := (.istore 6, 0, 0, 0)) (cod_228 rfl) rfl rfl rfl ?_
    refine x_s (q := (.iload 6, 0, 0, 0)) (cod_228 rfl) rfl rfl rfl ?_
    refine x_s (q := (.bipush 32, 0, 0, 0)) (cod_228 rfl) rfl rfl rfl ?_
    refine x_ic (p := ¬ (m3 603 (wr ((wr (10 * a1)) + a3))) < 32) (tgt := 132) (cod_228 rfl) (by decide) xn_ge (fun h => ?_) (fun h => ?_)
    · have H11 := H10.2 h
      refine x_s (q := (.iconst 0, 0, 0, 0)) (cod_228 rfl) rfl rfl rfl ?_
      refine x_s (q := (.istore 7, 0, 0, 0)) (cod_228 rfl) rfl rfl rfl ?_
      exact H11
    · have H12 := H10.1 (Classical.not_not.mp h)
      refine x_s (q := (.iload 4, 0, 0, 0)) (cod_228 rfl) rfl rfl rfl ?_
      refine x_s (q := (.aload_n 0, 0, 0, 0)) (cod_228 rfl) rfl rfl rfl ?_
      refine x_s (q := (.sipush 264, 0, 0, 0)) (cod_228 rfl) rfl rfl rfl ?_
      refine x_s (q := (.bipush 11, 0, 0, 0)) (cod_228 rfl) rfl rfl rfl ?_
      refine x_s (q := (.iload_n 2, 0, 0, 0)) (cod_228 rfl) rfl rfl rfl ?_
      refine x_s (q := (.imul, 0, 0, 0)) (cod_228 rfl) rfl rfl rfl ?_
      refine x_s (q := (.iadd, 0, 0, 0)) (cod_228 rfl) rfl rfl rfl ?_
      obtain ⟨c13, H14⟩ := H12
      refine x_call (as := [(1, 597), (0, wr (264 + (wr (11 * a2))))]) (rest := [(0, a4)]) (cod_228 rfl) rfl rfl (by decide) (by decide) rfl rfl (Nat.le_of_ble_eq_true rfl) (rcv0 sq_l_597_0 sq_p_597 (by decide)) (Nat.le_of_ble_eq_true rfl) ?_
      refine x_pure (p182ax c13) ?_
      show X 228 93 [(1, 597), (0, a1), (0, a2), (0, a3), (0, a4), (0, wr ((wr (9 * a3)) + a4)), (0, m3 603 (wr ((wr (10 * a1)) + a3))), (9, 0), (9, 0)] [(0, m3 602 (wr (264 + (wr (11 * a2))))), (0, a4)] m3 _
      refine x_ic (p := ¬ a4 < (m3 602 (wr (264 + (wr (11 * a2)))))) (tgt := 131) (cod_228 rfl) (by decide) xn_ge (fun h => ?_) (fun h => ?_)
      · have H15 := H14.2 h
        refine x_retV (cod_228 rfl) rfl ?_
        exact H15
      · have H16 := H14.1 (Classical.not_not.mp h)
        refine x_s (q := (.aload_n 0, 0, 0, 0)) (cod_228 rfl) rfl rfl rfl ?_
        refine x_s (q := (.iload_n 2, 0, 0, 0)) (cod_228 rfl) rfl rfl rfl ?_
        refine x_s (q := (.iload 4, 0, 0, 0)) (cod_228 rfl) rfl rfl rfl ?_
        refine x_call (as := [(1, 597), (0, a2), (0, a4)]) (rest := []) (cod_228 rfl) rfl rfl (by decide) (by decide) rfl rfl (Nat.le_of_ble_eq_true rfl) (rcv0 sq_l_597_0 sq_p_597 (by decide)) (Nat.le_of_ble_eq_true rfl) ?_
        show X 208 0 [(1, 597), (0, a2), (0, a4)] [] m3 _
        refine x_s (q := (.aload_n 0, 0, 0, 0)) (cod_208 rfl) rfl rfl rfl ?_
        refine x_s (q := (.sipush 264, 0, 0, 0)) (cod_208 rfl) rfl rfl rfl ?_
        refine x_s (q := (.bipush 11, 0, 0, 0)) (cod_208 rfl) rfl rfl rfl ?_
        refine x_s (q := (.iload_n 1, 0, 0, 0)) (cod_208 rfl) rfl rfl rfl ?_
        refine x_s (q := (.imul, 0, 0, 0)) (cod_208 rfl) rfl rfl rfl ?_
        refine x_s (q := (.iadd, 0, 0, 0)) (cod_208 rfl) rfl rfl rfl ?_
        refine x_s (q := (.iconst 3, 0, 0, 0)) (cod_208 rfl) rfl rfl rfl ?_
        refine x_s (q := (.iadd, 0, 0, 0)) (cod_208 rfl) rfl rfl rfl ?_
        refine x_s (q := (.iload_n 2, 0, 0, 0)) (cod_208 rfl) rfl rfl rfl ?_
        refine x_s (q := (.iadd, 0, 0, 0)) (cod_208 rfl) rfl rfl rfl ?_
        obtain ⟨c17, H18⟩ := H16
        refine x_call (as := [(1, 597), (0, wr ((wr ((wr (264 + (wr (11 * a2)))) + 3)) + a4))]) (rest := []) (cod_208 rfl) rfl rfl (by decide) (by decide) rfl rfl (Nat.le_of_ble_eq_true rfl) (rcv0 sq_l_597_0 sq_p_597 (by decide)) (Nat.le_of_ble_eq_true rfl) ?_
        refine x_pure (p182ax c17) ?_
        show X 208 16 [(1, 597), (0, a2), (0, a4)] [(0, m3 602 (wr ((wr ((wr (264 + (wr (11 * a2)))) + 3)) + a4)))] m3 _
        refine x_rI (t := .int) (cod_208 rfl) rfl rfl rfl ?_
        show X 228 103 [(1, 597), (0, a1), (0, a2), (0, a3), (0, a4), (0, wr ((wr (9 * a3)) + a4)), (0, m3 603 (wr ((wr (10 * a1)) + a3))), (9, 0), (9, 0)] [(0, m3 602 (wr ((wr ((wr (264 + (wr (11 * a2)))) + 3)) + a4)))] m3 _
        refine x_s (q := (.iload 6, 0, 0, 0)) (cod_228 rfl) rfl rfl rfl ?_
        refine x_ic (p := ¬ (m3 602 (wr ((wr ((wr (264 + (wr (11 * a2)))) + 3)) + a4))) = (m3 603 (wr ((wr (10 * a1)) + a3)))) (tgt := 131) (cod_228 rfl) (by decide) xj_ne (fun h => ?_) (fun h => ?_)
        · have H19 := H18.2 h
          refine x_retV (cod_228 rfl) rfl ?_
          exact H19
        · have H20 := H18.1 (Classical.not_not.mp h)
          refine x_s (q := (.aload_n 0, 0, 0, 0)) (cod_228 rfl) rfl rfl rfl ?_
          refine x_gc (kk := 34) (c := 612) (t := 1) (cod_228 rfl) sq_p_597 sq_l_597_34 rfl rfl ?_
          refine x_s (q := (.iload 5, 0, 0, 0)) (cod_228 rfl) rfl rfl rfl ?_
          refine x_s (q := (.aload_n 0, 0, 0, 0)) (cod_228 rfl) rfl rfl rfl ?_
          refine x_gc (kk := 34) (c := 612) (t := 1) (cod_228 rfl) sq_p_597 sq_l_597_34 rfl rfl ?_
          refine x_s (q := (.bipush 9, 0, 0, 0)) (cod_228 rfl) rfl rfl rfl ?_
          refine x_s (q := (.iload_n 3, 0, 0, 0)) (cod_228 rfl) rfl rfl rfl ?_
          refine x_s (q := (.iconst 1, 0, 0, 0)) (cod_228 rfl) rfl rfl rfl ?_
          refine x_s (q := (.iadd, 0, 0, 0)) (cod_228 rfl) rfl rfl rfl ?_
          refine x_s (q := (.imul, 0, 0, 0)) (cod_228 rfl) rfl rfl rfl ?_
          refine x_s (q := (.iload 4, 0, 0, 0)) (cod_228 rfl) rfl rfl rfl ?_
          refine x_s (q := (.iadd, 0, 0, 0)) (cod_228 rfl) rfl rfl rfl ?_
          refine x_s (q := (.iconst 1, 0, 0, 0)) (cod_228 rfl) rfl rfl rfl ?_
          refine x_s (q := (.iadd, 0, 0, 0)) (cod_228 rfl) rfl rfl rfl ?_
          obtain ⟨c21, H22⟩ := H20
          refine x_iald (cod_228 rfl) sq_a_612.s (sq_a_612.k c21.1 c21.2) ?_
          refine x_iast (cod_228 rfl) sq_a_612.s (sq_a_612.k c1.1 c1.2) ?_
          have H24 := H22 _ rfl
          generalize umem m3 612 (wr ((wr (9 * a3)) + a4)) (m3 612 (wr ((wr ((wr (9 * (wr (a3 + 1)))) + a4)) + 1))) = m23 at H24 ⊢
          refine x_retV (cod_228 rfl) rfl ?_
          exact H24
  · have H8 := H6.1 (Classical.not_not.mp h)
    refine x_s (q := (.aload_n 0, 0, 0, 0)) (cod_228 rfl) rfl rfl rfl ?_
    refine x_gc (kk := 34) (c := 612) (t := 1) (cod_228 rfl) sq_p_597 sq_l_597_34 rfl rfl ?_
    refine x_s (q := (.iload 5, 0, 0, 0)) (cod_228 rfl) rfl rfl rfl ?_
    refine x_s (q := (.iload 4, 0, 0, 0)) (cod_228 rfl) rfl rfl rfl ?_
    refine x_s (q := (.aload_n 0, 0, 0, 0)) (cod_228 rfl) rfl rfl rfl ?_
    refine x_s (q := (.sipush 264, 0, 0, 0)) (cod_228 rfl) rfl rfl rfl ?_
    refine x_s (q := (.bipush 11, 0, 0, 0)) (cod_228 rfl) rfl rfl rfl ?_
    refine x_s (q := (.iload_n 2, 0, 0, 0)) (cod_228 rfl) rfl rfl rfl ?_
    refine x_s (q := (.imul, 0, 0, 0)) (cod_228 rfl) rfl rfl rfl ?_
    refine x_s (q := (.iadd, 0, 0, 0)) (cod_228 rfl) rfl rfl rfl ?_
    obtain ⟨c25, H26⟩ := H8
    refine x_call (as := [(1, 597), (0, wr (264 + (wr (11 * a2))))]) (rest := [(0, a4), (0, wr ((wr (9 * a3)) + a4)), (1, 612)]) (cod_228 rfl) rfl rfl (by decide) (by decide) rfl rfl (Nat.le_of_ble_eq_true rfl) (rcv0 sq_l_597_0 sq_p_597 (by decide)) (Nat.le_of_ble_eq_true rfl) ?_
    refine x_pure (p182ax c25) ?_
    show X 228 48 [(1, 597), (0, a1), (0, a2), (0, a3), (0, a4), (0, wr ((wr (9 * a3)) + a4)), (9, 0), (9, 0), (9, 0)] [(0, m3 602 (wr (264 + (wr (11 * a2))))), (0, a4), (0, wr ((wr (9 * a3)) + a4)), (1, 612)] m3 _
    refine x_ic (p := ¬ a4 = (m3 602 (wr (264 + (wr (11 * a2)))))) (tgt := 55) (cod_228 rfl) (by decide) xj_ne (fun h => ?_) (fun h => ?_)
    · have H27 := H26.2 h
      refine x_s (q := (.bipush (-2), 0, 0, 0)) (cod_228 rfl) rfl rfl rfl ?_
      refine x_iast (cod_228 rfl) sq_a_612.s (sq_a_612.k c1.1 c1.2) ?_
      have H30 := H27 _ rfl
      generalize umem m3 612 (wr ((wr (9 * a3)) + a4)) (-2) = m29 at H30 ⊢
      refine x_retV (cod_228 rfl) rfl ?_
      exact H30
    · have H28 := H26.1 (Classical.not_not.mp h)
      refine x_s (q := (.iconst 0, 0, 0, 0)) (cod_228 rfl) rfl rfl rfl ?_
      refine x_go (tgt := 57) (cod_228 rfl) (by decide) ?_
      refine x_iast (cod_228 rfl) sq_a_612.s (sq_a_612.k c1.1 c1.2) ?_
      have H32 := H28 _ rfl
      generalize umem m3 612 (wr ((wr (9 * a3)) + a4)) 0 = m31 at H32 ⊢
      refine x_retV (cod_228 rfl) rfl ?_
      exact H32
theorem e228 {m : Mm} {K : Mm → Prop} (a1 : Int) (a2 : Int) (a3 : Int) (a4 : Int) 
  (H : (0 ≤ (wr ((wr (9 * a3)) + a4)) ∧ (wr ((wr (9 * a3)) + a4)) < 99) ∧ ∀ m3, m3 = umem m 612 (wr ((wr (9 * a3)) + a4)) (-2) → (0 ≤ a1 ∧ a1 < 10) ∧ (a3 = (m3 604 a1) → (m3 597 16 = 0 ∧ 0 ≤ (wr (264 + (wr (11 * a2)))) ∧ (wr (264 + (wr (11 * a2)))) < 1166) ∧ (a4 = (m3 602 (wr (264 + (wr (11 * a2))))) → ∀ m31, m31 = umem m3 612 (wr ((wr (9 * a3)) + a4)) 0 → K m31) ∧ (¬ a4 = (m3 602 (wr (264 + (wr (11 * a2))))) → ∀ m29, m29 = umem m3 612 (wr ((wr (9 * a3)) + a4)) (-2) → K m29)) ∧ (¬ a3 = (m3 604 a1) → (0 ≤ (wr ((wr (10 * a1)) + a3)) ∧ (wr ((wr (10 * a1)) + a3)) < 100) ∧ ((m3 603 (wr ((wr (10 * a1)) + a3))) < 32 → (m3 597 16 = 0 ∧ 0 ≤ (wr (264 + (wr (11 * a2)))) ∧ (wr (264 + (wr (11 * a2)))) < 1166) ∧ (a4 < (m3 602 (wr (264 + (wr (11 * a2))))) → (m3 597 16 = 0 ∧ 0 ≤ (wr ((wr ((wr (264 + (wr (11 * a2)))) + 3)) + a4)) ∧ (wr ((wr ((wr (264 + (wr (11 * a2)))) + 3)) + a4)) < 1166) ∧ ((m3 602 (wr ((wr ((wr (264 + (wr (11 * a2)))) + 3)) + a4))) = (m3 603 (wr ((wr (10 * a1)) + a3))) → (0 ≤ (wr ((wr ((wr (9 * (wr (a3 + 1)))) + a4)) + 1)) ∧ (wr ((wr ((wr (9 * (wr (a3 + 1)))) + a4)) + 1)) < 99) ∧ ∀ m23, m23 = umem m3 612 (wr ((wr (9 * a3)) + a4)) (m3 612 (wr ((wr ((wr (9 * (wr (a3 + 1)))) + a4)) + 1))) → K m23) ∧ (¬ (m3 602 (wr ((wr ((wr (264 + (wr (11 * a2)))) + 3)) + a4))) = (m3 603 (wr ((wr (10 * a1)) + a3))) → K m3)) ∧ (¬ a4 < (m3 602 (wr (264 + (wr (11 * a2))))) → K m3)) ∧ (¬ (m3 603 (wr ((wr (10 * a1)) + a3))) < 32 → X 228 135 [(1, 597), (0, a1), (0, a2), (0, a3), (0, a4), (0, wr ((wr (9 * a3)) + a4)), (0, m3 603 (wr ((wr (10 * a1)) + a3))), (0, 0), (9, 0)] [] m3 (qV K)))) : TrV 228 [(1, 597), (0, a1), (0, a2), (0, a3), (0, a4)] m K := by
  exact w228_0 a1 a2 a3 a4 H
set_option maxRecDepth 100000 in
theorem w228_135 {m : Mm} {K : Mm → Prop} (a1 : Int) (a2 : Int) (a3 : Int) (a4 : Int) (a5 : Int) (ua6 : aV) (a7 : Int) (ua8 : aV) (hua6 : ua6.1 ≠ 2)
  (H : m 597 16 = 0 ∧ (a7 < (m 602 578) → TrI 229 [(1, 597), (0, a1), (0, a2), (0, a3), (0, a4), (0, a7)] m fun v7 m5 => (v7 < 0 → X 228 135 [(1, 597), (0, a1), (0, a2), (0, a3), (0, a4), (0, a5), ua6, (0, wr (a7 + 1)), (0, v7)] [] m5 (qV K)) ∧ (¬ v7 < 0 → (0 ≤ a5 ∧ a5 < 99) ∧ ((m5 612 a5) < 0 → ∀ m14, m14 = umem m5 612 a5 v7 → X 228 135 [(1, 597), (0, a1), (0, a2), (0, a3), (0, a4), (0, a5), ua6, (0, wr (a7 + 1)), (0, v7)] [] m14 (qV K)) ∧ (¬ (m5 612 a5) < 0 → (v7 < (m5 612 a5) → ∀ m18, m18 = umem m5 612 a5 v7 → X 228 135 [(1, 597), (0, a1), (0, a2), (0, a3), (0, a4), (0, a5), ua6, (0, wr (a7 + 1)), (0, v7)] [] m18 (qV K)) ∧ (¬ v7 < (m5 612 a5) → X 228 135 [(1, 597), (0, a1), (0, a2), (0, a3), (0, a4), (0, a5), ua6, (0, wr (a7 + 1)), (0, v7)] [] m5 (qV K))))) ∧ (¬ a7 < (m 602 578) → K m)) : X 228 135 [(1, 597), (0, a1), (0, a2), (0, a3), (0, a4), (0, a5), ua6, (0, a7), ua8] [] m (qV K) := by
  refine x_s (q := (.iload 7, 0, 0, 0)) (cod_228 rfl) rfl rfl rfl ?_
  refine x_s (q := (.aload_n 0, 0, 0, 0)) (cod_228 rfl) rfl rfl rfl ?_
  refine x_call (as := [(1, 597)]) (rest := [(0, a7)]) (cod_228 rfl) rfl rfl (by decide) (by decide) rfl rfl (Nat.le_of_ble_eq_true rfl) (rcv0 sq_l_597_0 sq_p_597 (by decide)) (Nat.le_of_ble_eq_true rfl) ?_
  show X 181 0 [(1, 597)] [] m _
  refine x_s (q := (.aload_n 0, 0, 0, 0)) (cod_181 rfl) rfl rfl rfl ?_
  refine x_s (q := (.sipush 578, 0, 0, 0)) (cod_181 rfl) rfl rfl rfl ?_
  obtain ⟨c1, H2⟩ := H
  refine x_call (as := [(1, 597), (0, 578)]) (rest := []) (cod_181 rfl) rfl rfl (by decide) (by decide) rfl rfl (Nat.le_of_ble_eq_true rfl) (rcv0 sq_l_597_0 sq_p_597 (by decide)) (Nat.le_of_ble_eq_true rfl) ?_
  refine x_pure (p182a (by decide) c1) ?_
  show X 181 7 [(1, 597)] [(0, m 602 578)] m _
  refine x_rI (t := .int) (cod_181 rfl) rfl rfl rfl ?_
  show X 228 141 [(1, 597), (0, a1), (0, a2), (0, a3), (0, a4), (0, a5), ua6, (0, a7), ua8] [(0, m 602 578), (0, a7)] m _
  refine x_ic (p := ¬ a7 < (m 602 578)) (tgt := 199) (cod_228 rfl) (by decide) xn_ge (fun h => ?_) (fun h => ?_)
  · have H3 := H2.2 h
    refine x_retV (cod_228 rfl) rfl ?_
    exact H3
  · have H4 := H2.1 (Classical.not_not.mp h)
    refine x_s (q := (.aload_n 0, 0, 0, 0)) (cod_228 rfl) rfl rfl rfl ?_
    refine x_s (q := (.iload_n 1, 0, 0, 0)) (cod_228 rfl) rfl rfl rfl ?_
    refine x_s (q := (.iload_n 2, 0, 0, 0)) (cod_228 rfl) rfl rfl rfl ?_
    refine x_s (q := (.iload_n 3, 0, 0, 0)) (cod_228 rfl) rfl rfl rfl ?_
    refine x_s (q := (.iload 4, 0, 0, 0)) (cod_228 rfl) rfl rfl rfl ?_
    refine x_s (q := (.iload 7, 0, 0, 0)) (cod_228 rfl) rfl rfl rfl ?_
    refine x_call (as := [(1, 597), (0, a1), (0, a2), (0, a3), (0, a4), (0, a7)]) (rest := []) (cod_228 rfl) rfl rfl (by decide) (by decide) rfl rfl (Nat.le_of_ble_eq_true rfl) (rcv0 sq_l_597_0 sq_p_597 (by decide)) (Nat.le_of_ble_eq_true rfl) ?_
    refine X.imp H4 ?_
    rintro _ m5 ⟨v7, rfl, H6⟩
    show X 228 155 [(1, 597), (0, a1), (0, a2), (0, a3), (0, a4), (0, a5), ua6, (0, a7), ua8] [(0, v7)] m5 _
    refine x_s (q := (.istore 8, 0, 0, 0)) (cod_228 rfl) rfl rfl rfl ?_
    refine x_s (q := (.iload 8, 0, 0, 0)) (cod_228 rfl) rfl rfl rfl ?_
    refine x_if (p := v7 < 0) (tgt := 193) (cod_228 rfl) (by decide) xj_lt (fun h => ?_) (fun h => ?_)
    · have H8 := H6.1 h
      show X 228 193 [(1, 597), (0, a1), (0, a2), (0, a3), (0, a4), (0, a5), ua6, (0, a7), (0, v7)] [] m5 _
      refine x_s (q := (.iinc 7 1, 0, 0, 0)) (np := 196) (ls' := [(1, 597), (0, a1), (0, a2), (0, a3), (0, a4), (0, a5), ua6, (0, wr (a7 + 1)), (0, v7)]) (st' := []) (cod_228 rfl) rfl rfl (by simp [stp1, stS, tok, lsok, oif, hua6]) ?_
      refine x_go (tgt := 135) (cod_228 rfl) (by decide) ?_
      exact H8
    · have H9 := H6.2 h
      refine x_s (q := (.aload_n 0, 0, 0, 0)) (cod_228 rfl) rfl rfl rfl ?_
      refine x_gc (kk := 34) (c := 612) (t := 1) (cod_228 rfl) sq_p_597 sq_l_597_34 rfl rfl ?_
      refine x_s (q := (.iload 5, 0, 0, 0)) (cod_228 rfl) rfl rfl rfl ?_
      obtain ⟨c10, H11⟩ := H9
      refine x_iald (cod_228 rfl) sq_a_612.s (sq_a_612.k c10.1 c10.2) ?_
      refine x_if (p := (m5 612 a5) < 0) (tgt := 184) (cod_228 rfl) (by decide) xj_lt (fun h => ?_) (fun h => ?_)
      · have H12 := H11.1 h
        refine x_s (q := (.aload_n 0, 0, 0, 0)) (cod_228 rfl) rfl rfl rfl ?_
        refine x_gc (kk := 34) (c := 612) (t := 1) (cod_228 rfl) sq_p_597 sq_l_597_34 rfl rfl ?_
        refine x_s (q := (.iload 5, 0, 0, 0)) (cod_228 rfl) rfl rfl rfl ?_
        refine x_s (q := (.iload 8, 0, 0, 0)) (cod_228 rfl) rfl rfl rfl ?_
        refine x_iast (cod_228 rfl) sq_a_612.s (sq_a_612.k c10.1 c10.2) ?_
        have H15 := H12 _ rfl
        generalize umem m5 612 a5 v7 = m14 at H15 ⊢
        show X 228 193 [(1, 597), (0, a1), (0, a2), (0, a3), (0, a4), (0, a5), ua6, (0, a7), (0, v7)] [] m14 _
        refine x_s (q := (.iinc 7 1, 0, 0, 0)) (np := 196) (ls' := [(1, 597), (0, a1), (0, a2), (0, a3), (0, a4), (0, a5), ua6, (0, wr (a7 + 1)), (0, v7)]) (st' := []) (cod_228 rfl) rfl rfl (by simp [stp1, stS, tok, lsok, oif, hua6]) ?_
        refine x_go (tgt := 135) (cod_228 rfl) (by decide) ?_
        exact H15
      · have H13 := H11.2 h
        refine x_s (q := (.iload 8, 0, 0, 0)) (cod_228 rfl) rfl rfl rfl ?_
        refine x_s (q := (.aload_n 0, 0, 0, 0)) (cod_228 rfl) rfl rfl rfl ?_
        refine x_gc (kk := 34) (c := 612) (t := 1) (cod_228 rfl) sq_p_597 sq_l_597_34 rfl rfl ?_
        refine x_s (q := (.iload 5, 0, 0, 0)) (cod_228 rfl) rfl rfl rfl ?_
        refine x_iald (cod_228 rfl) sq_a_612.s (sq_a_612.k c10.1 c10.2) ?_
        refine x_ic (p := ¬ v7 < (m5 612 a5)) (tgt := 193) (cod_228 rfl) (by decide) xn_ge (fun h => ?_) (fun h => ?_)
        · have H16 := H13.2 h
          show X 228 193 [(1, 597), (0, a1), (0, a2), (0, a3), (0, a4), (0, a5), ua6, (0, a7), (0, v7)] [] m5 _
          refine x_s (q := (.iinc 7 1, 0, 0, 0)) (np := 196) (ls' := [(1, 597), (0, a1), (0, a2), (0, a3), (0, a4), (0, a5), ua6, (0, wr (a7 + 1)), (0, v7)]) (st' := []) (cod_228 rfl) rfl rfl (by simp [stp1, stS, tok, lsok, oif, hua6]) ?_
          refine x_go (tgt := 135) (cod_228 rfl) (by decide) ?_
          exact H16
        · have H17 := H13.1 (Classical.not_not.mp h)
          refine x_s (q := (.aload_n 0, 0, 0, 0)) (cod_228 rfl) rfl rfl rfl ?_
          refine x_gc (kk := 34) (c := 612) (t := 1) (cod_228 rfl) sq_p_597 sq_l_597_34 rfl rfl ?_
          refine x_s (q := (.iload 5, 0, 0, 0)) (cod_228 rfl) rfl rfl rfl ?_
          refine x_s (q := (.iload 8, 0, 0, 0)) (cod_228 rfl) rfl rfl rfl ?_
          refine x_iast (cod_228 rfl) sq_a_612.s (sq_a_612.k c10.1 c10.2) ?_
          have H19 := H17 _ rfl
          generalize umem m5 612 a5 v7 = m18 at H19 ⊢
          show X 228 193 [(1, 597), (0, a1), (0, a2), (0, a3), (0, a4), (0, a5), ua6, (0, a7), (0, v7)] [] m18 _
          refine x_s (q := (.iinc 7 1, 0, 0, 0)) (np := 196) (ls' := [(1, 597), (0, a1), (0, a2), (0, a3), (0, a4), (0, a5), ua6, (0, wr (a7 + 1)), (0, v7)]) (st' := []) (cod_228 rfl) rfl rfl (by simp [stp1, stS, tok, lsok, oif, hua6]) ?_
          refine x_go (tgt := 135) (cod_228 rfl) (by decide) ?_
          exact H19
set_option maxRecDepth 100000 in
theorem w229_0 {m : Mm} {K : Int → Mm → Prop} (a1 : Int) (a2 : Int) (a3 : Int) (a4 : Int) (a5 : Int) 
  (H : (m 597 16 = 0 ∧ (0 ≤ a2 ∧ a2 < 24) ∧ (0 ≤ a4 ∧ a4 ≤ 8)) ∧ v_F m a5 a1 a3 ∧ ((fitM m a5 (lasO m a2 a4) a1 a3 = true) → v_B m a5 a2 a4 ∧ X 229 31 [(1, 597), (0, a1), (0, a2), (0, a3), (0, a4), (0, a5), (9, 0)] [(0, bhd m a5 a2 a4)] m (qI K)) ∧ (¬ (fitM m a5 (lasO m a2 a4) a1 a3 = true) → X 229 31 [(1, 597), (0, a1), (0, a2), (0, a3), (0, a4), (0, a5), (9, 0)] [(0, (-1))] m (qI K))) : X 229 0 [(1, 597), (0, a1), (0, a2), (0, a3), (0, a4), (0, a5), (9, 0)] [] m (qI K) := by
  refine x_s (q := (.aload_n 0, 0, 0, 0)) (cod_229 rfl) rfl rfl rfl ?_
  refine x_s (q := (.iload 5, 0, 0, 0)) (cod_229 rfl) rfl rfl rfl ?_
  refine x_s (q := (.aload_n 0, 0, 0, 0)) (cod_229 rfl) rfl rfl rfl ?_
  refine x_s (q := (.iload_n 2, 0, 0, 0)) (cod_229 rfl) rfl rfl rfl ?_
  refine x_s (q := (.iload 4, 0, 0, 0)) (cod_229 rfl) rfl rfl rfl ?_
  obtain ⟨c1, H2⟩ := H
  refine x_call (as := [(1, 597), (0, a2), (0, a4)]) (rest := [(0, a5), (1, 597)]) (cod_229 rfl) rfl rfl (by decide) (by decide) rfl rfl (Nat.le_of_ble_eq_true rfl) (rcv0 sq_l_597_0 sq_p_597 (by decide)) (Nat.le_of_ble_eq_true rfl) ?_
  refine x_pure (p230 c1) ?_
  show X 229 10 [(1, 597), (0, a1), (0, a2), (0, a3), (0, a4), (0, a5), (9, 0)] [(0, lasO m a2 a4), (0, a5), (1, 597)] m _
  refine x_s (q := (.iload_n 1, 0, 0, 0)) (cod_229 rfl) rfl rfl rfl ?_
  refine x_s (q := (.iload_n 3, 0, 0, 0)) (cod_229 rfl) rfl rfl rfl ?_
  obtain ⟨c3, H4⟩ := H2
  refine x_call (as := [(1, 597), (0, a5), (0, lasO m a2 a4), (0, a1), (0, a3)]) (rest := []) (cod_229 rfl) rfl rfl (by decide) (by decide) rfl rfl (Nat.le_of_ble_eq_true rfl) (rcv0 sq_l_597_0 sq_p_597 (by decide)) (Nat.le_of_ble_eq_true rfl) ?_
  refine x_pure (p215 c3) ?_
  show X 229 15 [(1, 597), (0, a1), (0, a2), (0, a3), (0, a4), (0, a5), (9, 0)] [(0, bi (fitM m a5 (lasO m a2 a4) a1 a3 = true))] m _
  refine x_if (p := ¬ (fitM m a5 (lasO m a2 a4) a1 a3 = true)) (tgt := 30) (cod_229 rfl) (by decide) xb_eq (fun h => ?_) (fun h => ?_)
  · have H5 := H4.2 h
    refine x_s (q := (.iconst (-1), 0, 0, 0)) (cod_229 rfl) rfl rfl rfl ?_
    exact H5
  · have H6 := H4.1 (Classical.not_not.mp h)
    refine x_s (q := (.aload_n 0, 0, 0, 0)) (cod_229 rfl) rfl rfl rfl ?_
    refine x_s (q := (.iload 5, 0, 0, 0)) (cod_229 rfl) rfl rfl rfl ?_
    refine x_s (q := (.iload_n 2, 0, 0, 0)) (cod_229 rfl) rfl rfl rfl ?_
    refine x_s (q := (.iload 4, 0, 0, 0)) (cod_229 rfl) rfl rfl rfl ?_
    obtain ⟨c7, H8⟩ := H6
    refine x_call (as := [(1, 597), (0, a5), (0, a2), (0, a4)]) (rest := []) (cod_229 rfl) rfl rfl (by decide) (by decide) rfl rfl (Nat.le_of_ble_eq_true rfl) (rcv0 sq_l_597_0 sq_p_597 (by decide)) (Nat.le_of_ble_eq_true rfl) ?_
    refine x_pure (p231 c7) ?_
    show X 229 27 [(1, 597), (0, a1), (0, a2), (0, a3), (0, a4), (0, a5), (9, 0)] [(0, bhd m a5 a2 a4)] m _
    refine x_go (tgt := 31) (cod_229 rfl) (by decide) ?_
    exact H8
theorem e229 {m : Mm} {K : Int → Mm → Prop} (a1 : Int) (a2 : Int) (a3 : Int) (a4 : Int) (a5 : Int) 
  (H : (m 597 16 = 0 ∧ (0 ≤ a2 ∧ a2 < 24) ∧ (0 ≤ a4 ∧ a4 ≤ 8)) ∧ v_F m a5 a1 a3 ∧ ((fitM m a5 (lasO m a2 a4) a1 a3 = true) → v_B m a5 a2 a4 ∧ X 229 31 [(1, 597), (0, a1), (0, a2), (0, a3), (0, a4), (0, a5), (9, 0)] [(0, bhd m a5 a2 a4)] m (qI K)) ∧ (¬ (fitM m a5 (lasO m a2 a4) a1 a3 = true) → X 229 31 [(1, 597), (0, a1), (0, a2), (0, a3), (0, a4), (0, a5), (9, 0)] [(0, (-1))] m (qI K))) : TrI 229 [(1, 597), (0, a1), (0, a2), (0, a3), (0, a4), (0, a5)] m K := by
  exact w229_0 a1 a2 a3 a4 a5 H
set_option maxRecDepth 100000 in
theorem w229_31 {m : Mm} {K : Int → Mm → Prop} (ua1 : aV) (ua2 : aV) (a3 : Int) (ua4 : aV) (a5 : Int) (ua6 : aV) (s0 : Int) 
  (H : (s0 < 0 → K (-1) m) ∧ (¬ s0 < 0 → (0 ≤ (wr ((wr (9 * (wr (a3 + 1)))) + s0)) ∧ (wr ((wr (9 * (wr (a3 + 1)))) + s0)) < 99) ∧ ((m 612 (wr ((wr (9 * (wr (a3 + 1)))) + s0))) < 0 → K (-1) m) ∧ (¬ (m 612 (wr ((wr (9 * (wr (a3 + 1)))) + s0))) < 0 → v_V m a5 ∧ K (wr ((wnow m a5) + (m 612 (wr ((wr (9 * (wr (a3 + 1)))) + s0))))) m))) : X 229 31 [(1, 597), ua1, ua2, (0, a3), ua4, (0, a5), ua6] [(0, s0)] m (qI K) := by
  refine x_s (q := (.istore 6, 0, 0, 0)) (cod_229 rfl) rfl rfl rfl ?_
  refine x_s (q := (.iload 6, 0, 0, 0)) (cod_229 rfl) rfl rfl rfl ?_
  refine x_if (p := s0 < 0) (tgt := 55) (cod_229 rfl) (by decide) xj_lt (fun h => ?_) (fun h => ?_)
  · have H1 := H.1 h
    refine x_s (q := (.iconst (-1), 0, 0, 0)) (cod_229 rfl) rfl rfl rfl ?_
    refine x_retI (t := .int) (cod_229 rfl) rfl rfl rfl ?_
    exact H1
  · have H2 := H.2 h
    refine x_s (q := (.aload_n 0, 0, 0, 0)) (cod_229 rfl) rfl rfl rfl ?_
    refine x_gc (kk := 34) (c := 612) (t := 1) (cod_229 rfl) sq_p_597 sq_l_597_34 rfl rfl ?_
    refine x_s (q := (.bipush 9, 0, 0, 0)) (cod_229 rfl) rfl rfl rfl ?_
    refine x_s (q := (.iload_n 3, 0, 0, 0)) (cod_229 rfl) rfl rfl rfl ?_
    refine x_s (q := (.iconst 1, 0, 0, 0)) (cod_229 rfl) rfl rfl rfl ?_
    refine x_s (q := (.iadd, 0, 0, 0)) (cod_229 rfl) rfl rfl rfl ?_
    refine x_s (q := (.imul, 0, 0, 0)) (cod_229 rfl) rfl rfl rfl ?_
    refine x_s (q := (.iload 6, 0, 0, 0)) (cod_229 rfl) rfl rfl rfl ?_
    refine x_s (q := (.iadd, 0, 0, 0)) (cod_229 rfl) rfl rfl rfl ?_
    obtain ⟨c3, H4⟩ := H2
    refine x_iald (cod_229 rfl) sq_a_612.s (sq_a_612.k c3.1 c3.2) ?_
    refine x_if (p := ¬ (m 612 (wr ((wr (9 * (wr (a3 + 1)))) + s0))) < 0) (tgt := 57) (cod_229 rfl) (by decide) xn_ge (fun h => ?_) (fun h => ?_)
    · have H5 := H4.2 h
      refine x_s (q := (.aload_n 0, 0, 0, 0)) (cod_229 rfl) rfl rfl rfl ?_
      refine x_s (q := (.iload 5, 0, 0, 0)) (cod_229 rfl) rfl rfl rfl ?_
      obtain ⟨c7, H8⟩ := H5
      refine x_call (as := [(1, 597), (0, a5)]) (rest := []) (cod_229 rfl) rfl rfl (by decide) (by decide) rfl rfl (Nat.le_of_ble_eq_true rfl) (rcv0 sq_l_597_0 sq_p_597 (by decide)) (Nat.le_of_ble_eq_true rfl) ?_
      refine x_pure (p203 c7) ?_
      show X 229 63 [(1, 597), ua1, ua2, (0, a3), ua4, (0, a5), (0, s0)] [(0, wnow m a5)] m _
      refine x_s (q := (.aload_n 0, 0, 0, 0)) (cod_229 rfl) rfl rfl rfl ?_
      refine x_gc (kk := 34) (c := 612) (t := 1) (cod_229 rfl) sq_p_597 sq_l_597_34 rfl rfl ?_
      refine x_s (q := (.bipush 9, 0, 0, 0)) (cod_229 rfl) rfl rfl rfl ?_
      refine x_s (q := (.iload_n 3, 0, 0, 0)) (cod_229 rfl) rfl rfl rfl ?_
      refine x_s (q := (.iconst 1, 0, 0, 0)) (cod_229 rfl) rfl rfl rfl ?_
      refine x_s (q := (.iadd, 0, 0, 0)) (cod_229 rfl) rfl rfl rfl ?_
      refine x_s (q := (.imul, 0, 0, 0)) (cod_229 rfl) rfl rfl rfl ?_
      refine x_s (q := (.iload 6, 0, 0, 0)) (cod_229 rfl) rfl rfl rfl ?_
      refine x_s (q := (.iadd, 0, 0, 0)) (cod_229 rfl) rfl rfl rfl ?_
      refine x_iald (cod_229 rfl) sq_a_612.s (sq_a_612.k c3.1 c3.2) ?_
      refine x_s (q := (.iadd, 0, 0, 0)) (cod_229 rfl) rfl rfl rfl ?_
      refine x_retI (t := .int) (cod_229 rfl) rfl rfl rfl ?_
      exact H8
    · have H6 := H4.1 (Classical.not_not.mp h)
      refine x_s (q := (.iconst (-1), 0, 0, 0)) (cod_229 rfl) rfl rfl rfl ?_
      refine x_retI (t := .int) (cod_229 rfl) rfl rfl rfl ?_
      exact H6
set_option maxRecDepth 100000 in
theorem w232_0 {m : Mm} {K : Int → Mm → Prop} (a1 : Int) (a2 : Int) (a3 : Int) 
  (H : ∀ m1, m1 = umem m 597 0 0 → ((0 ≤ a1 ∧ a1 ≤ (wr ((m1 597 23) - 1))) → m1 597 16 = 0 ∧ ((0 ≤ a2 ∧ a2 ≤ (wr ((m1 602 579) - 1))) → (a3 < 0 → K (-1) m1) ∧ (¬ a3 < 0 → TrI 233 [(1, 597), (0, a1), (0, a2)] m1 fun v13 m11 => (v13 = 0 → K (-2) m11) ∧ (¬ v13 = 0 → (a3 < (m11 597 33) → (0 ≤ a3 ∧ a3 < 10) ∧ K (m11 611 a3) m11) ∧ (¬ a3 < (m11 597 33) → K (-2) m11)))) ∧ (¬ (0 ≤ a2 ∧ a2 ≤ (wr ((m1 602 579) - 1))) → K (-1) m1)) ∧ (¬ (0 ≤ a1 ∧ a1 ≤ (wr ((m1 597 23) - 1))) → K (-1) m1)) : X 232 0 [(1, 597), (0, a1), (0, a2), (0, a3)] [] m (qI K) := by
  refine x_s (q := (.aload_n 0, 0, 0, 0)) (cod_232 rfl) rfl rfl rfl ?_
  refine x_s (q := (.iconst 0, 0, 0, 0)) (cod_232 rfl) rfl rfl rfl ?_
  refine x_pf (kk := 0) (t := 0) (cod_232 rfl) sq_p_597 sq_l_597_0 rfl rfl rfl ?_
  have H2 := H _ rfl
  generalize umem m 597 0 0 = m1 at H2 ⊢
  refine x_s (q := (.aload_n 0, 0, 0, 0)) (cod_232 rfl) rfl rfl rfl ?_
  refine x_s (q := (.iload_n 1, 0, 0, 0)) (cod_232 rfl) rfl rfl rfl ?_
  refine x_call (as := [(1, 597), (0, a1)]) (rest := []) (cod_232 rfl) rfl rfl (by decide) (by decide) rfl rfl (Nat.le_of_ble_eq_true rfl) (rcv0 sq_l_597_0 sq_p_597 (by decide)) (Nat.le_of_ble_eq_true rfl) ?_
  show X 210 0 [(1, 597), (0, a1)] [] m1 _
  refine x_s (q := (.iload_n 1, 0, 0, 0)) (cod_210 rfl) rfl rfl rfl ?_
  refine x_s (q := (.iconst 0, 0, 0, 0)) (cod_210 rfl) rfl rfl rfl ?_
  refine x_s (q := (.aload_n 0, 0, 0, 0)) (cod_210 rfl) rfl rfl rfl ?_
  refine x_gf (kk := 23) (t := 0) (cod_210 rfl) sq_p_597 sq_l_597_23 rfl rfl ?_
  refine x_s (q := (.iconst 1, 0, 0, 0)) (cod_210 rfl) rfl rfl rfl ?_
  refine x_s (q := (.isub, 0, 0, 0)) (cod_210 rfl) rfl rfl rfl ?_
  refine x_call (as := [(0, a1), (0, 0), (0, wr ((m1 597 23) - 1))]) (rest := []) (cod_210 rfl) rfl rfl (by decide) (by decide) rfl rfl (Nat.le_of_ble_eq_true rfl) rfl (Nat.le_of_ble_eq_true rfl) ?_
  refine x_pure (p172) ?_
  show X 210 11 [(1, 597), (0, a1)] [(0, bi (0 ≤ a1 ∧ a1 ≤ (wr ((m1 597 23) - 1))))] m1 _
  refine x_rI (t := .boolean) (cod_210 rfl) rfl rfl (bok_b (bi_01 _)) ?_
  show X 232 10 [(1, 597), (0, a1), (0, a2), (0, a3)] [(0, bi (0 ≤ a1 ∧ a1 ≤ (wr ((m1 597 23) - 1))))] m1 _
  refine x_if (p := ¬ (0 ≤ a1 ∧ a1 ≤ (wr ((m1 597 23) - 1)))) (tgt := 25) (cod_232 rfl) (by decide) xb_eq (fun h => ?_) (fun h => ?_)
  · have H3 := H2.2 h
    refine x_s (q := (.iconst (-1), 0, 0, 0)) (cod_232 rfl) rfl rfl rfl ?_
    refine x_retI (t := .int) (cod_232 rfl) rfl rfl rfl ?_
    exact H3
  · have H4 := H2.1 (Classical.not_not.mp h)
    refine x_s (q := (.aload_n 0, 0, 0, 0)) (cod_232 rfl) rfl rfl rfl ?_
    refine x_s (q := (.iload_n 2, 0, 0, 0)) (cod_232 rfl) rfl rfl rfl ?_
    refine x_call (as := [(1, 597), (0, a2)]) (rest := []) (cod_232 rfl) rfl rfl (by decide) (by decide) rfl rfl (Nat.le_of_ble_eq_true rfl) (rcv0 sq_l_597_0 sq_p_597 (by decide)) (Nat.le_of_ble_eq_true rfl) ?_
    show X 205 0 [(1, 597), (0, a2)] [] m1 _
    refine x_s (q := (.iload_n 1, 0, 0, 0)) (cod_205 rfl) rfl rfl rfl ?_
    refine x_s (q := (.iconst 0, 0, 0, 0)) (cod_205 rfl) rfl rfl rfl ?_
    refine x_s (q := (.aload_n 0, 0, 0, 0)) (cod_205 rfl) rfl rfl rfl ?_
    refine x_call (as := [(1, 597)]) (rest := [(0, 0), (0, a2)]) (cod_205 rfl) rfl rfl (by decide) (by decide) rfl rfl (Nat.le_of_ble_eq_true rfl) (rcv0 sq_l_597_0 sq_p_597 (by decide)) (Nat.le_of_ble_eq_true rfl) ?_
    show X 186 0 [(1, 597)] [] m1 _
    refine x_s (q := (.aload_n 0, 0, 0, 0)) (cod_186 rfl) rfl rfl rfl ?_
    refine x_s (q := (.sipush 579, 0, 0, 0)) (cod_186 rfl) rfl rfl rfl ?_
    obtain ⟨c5, H6⟩ := H4
    refine x_call (as := [(1, 597), (0, 579)]) (rest := []) (cod_186 rfl) rfl rfl (by decide) (by decide) rfl rfl (Nat.le_of_ble_eq_true rfl) (rcv0 sq_l_597_0 sq_p_597 (by decide)) (Nat.le_of_ble_eq_true rfl) ?_
    refine x_pure (p182a (by decide) c5) ?_
    show X 186 7 [(1, 597)] [(0, m1 602 579)] m1 _
    refine x_rI (t := .int) (cod_186 rfl) rfl rfl rfl ?_
    show X 205 6 [(1, 597), (0, a2)] [(0, m1 602 579), (0, 0), (0, a2)] m1 _
    refine x_s (q := (.iconst 1, 0, 0, 0)) (cod_205 rfl) rfl rfl rfl ?_
    refine x_s (q := (.isub, 0, 0, 0)) (cod_205 rfl) rfl rfl rfl ?_
    refine x_call (as := [(0, a2), (0, 0), (0, wr ((m1 602 579) - 1))]) (rest := []) (cod_205 rfl) rfl rfl (by decide) (by decide) rfl rfl (Nat.le_of_ble_eq_true rfl) rfl (Nat.le_of_ble_eq_true rfl) ?_
    refine x_pure (p172) ?_
    show X 205 11 [(1, 597), (0, a2)] [(0, bi (0 ≤ a2 ∧ a2 ≤ (wr ((m1 602 579) - 1))))] m1 _
    refine x_rI (t := .boolean) (cod_205 rfl) rfl rfl (bok_b (bi_01 _)) ?_
    show X 232 18 [(1, 597), (0, a1), (0, a2), (0, a3)] [(0, bi (0 ≤ a2 ∧ a2 ≤ (wr ((m1 602 579) - 1))))] m1 _
    refine x_if (p := ¬ (0 ≤ a2 ∧ a2 ≤ (wr ((m1 602 579) - 1)))) (tgt := 25) (cod_232 rfl) (by decide) xb_eq (fun h => ?_) (fun h => ?_)
    · have H7 := H6.2 h
      refine x_s (q := (.iconst (-1), 0, 0, 0)) (cod_232 rfl) rfl rfl rfl ?_
      refine x_retI (t := .int) (cod_232 rfl) rfl rfl rfl ?_
      exact H7
    · have H8 := H6.1 (Classical.not_not.mp h)
      refine x_s (q := (.iload_n 3, 0, 0, 0)) (cod_232 rfl) rfl rfl rfl ?_
      refine x_if (p := ¬ a3 < 0) (tgt := 27) (cod_232 rfl) (by decide) xn_ge (fun h => ?_) (fun h => ?_)
      · have H9 := H8.2 h
        refine x_s (q := (.aload_n 0, 0, 0, 0)) (cod_232 rfl) rfl rfl rfl ?_
        refine x_s (q := (.iload_n 1, 0, 0, 0)) (cod_232 rfl) rfl rfl rfl ?_
        refine x_s (q := (.iload_n 2, 0, 0, 0)) (cod_232 rfl) rfl rfl rfl ?_
        refine x_call (as := [(1, 597), (0, a1), (0, a2)]) (rest := []) (cod_232 rfl) rfl rfl (by decide) (by decide) rfl rfl (Nat.le_of_ble_eq_true rfl) (rcv0 sq_l_597_0 sq_p_597 (by decide)) (Nat.le_of_ble_eq_true rfl) ?_
        refine X.imp H9 ?_
        rintro _ m11 ⟨v13, rfl, H12⟩
        show X 232 33 [(1, 597), (0, a1), (0, a2), (0, a3)] [(0, v13)] m11 _
        refine x_if (p := v13 = 0) (tgt := 53) (cod_232 rfl) (by decide) xj_eq (fun h => ?_) (fun h => ?_)
        · have H14 := H12.1 h
          refine x_s (q := (.bipush (-2), 0, 0, 0)) (cod_232 rfl) rfl rfl rfl ?_
          refine x_retI (t := .int) (cod_232 rfl) rfl rfl rfl ?_
          exact H14
        · have H15 := H12.2 h
          refine x_s (q := (.iload_n 3, 0, 0, 0)) (cod_232 rfl) rfl rfl rfl ?_
          refine x_s (q := (.aload_n 0, 0, 0, 0)) (cod_232 rfl) rfl rfl rfl ?_
          refine x_gf (kk := 33) (t := 0) (cod_232 rfl) sq_p_597 sq_l_597_33 rfl rfl ?_
          refine x_ic (p := ¬ a3 < (m11 597 33)) (tgt := 53) (cod_232 rfl) (by decide) xn_ge (fun h => ?_) (fun h => ?_)
          · have H16 := H15.2 h
            refine x_s (q := (.bipush (-2), 0, 0, 0)) (cod_232 rfl) rfl rfl rfl ?_
            refine x_retI (t := .int) (cod_232 rfl) rfl rfl rfl ?_
            exact H16
          · have H17 := H15.1 (Classical.not_not.mp h)
            refine x_s (q := (.aload_n 0, 0, 0, 0)) (cod_232 rfl) rfl rfl rfl ?_
            refine x_gc (kk := 32) (c := 611) (t := 1) (cod_232 rfl) sq_p_597 sq_l_597_32 rfl rfl ?_
            refine x_s (q := (.iload_n 3, 0, 0, 0)) (cod_232 rfl) rfl rfl rfl ?_
            obtain ⟨c18, H19⟩ := H17
            refine x_iald (cod_232 rfl) sq_a_611.s (sq_a_611.k c18.1 c18.2) ?_
            refine x_go (tgt := 55) (cod_232 rfl) (by decide) ?_
            refine x_retI (t := .int) (cod_232 rfl) rfl rfl rfl ?_
            exact H19
      · have H10 := H8.1 (Classical.not_not.mp h)
        refine x_s (q := (.iconst (-1), 0, 0, 0)) (cod_232 rfl) rfl rfl rfl ?_
        refine x_retI (t := .int) (cod_232 rfl) rfl rfl rfl ?_
        exact H10
theorem e232 {m : Mm} {K : Int → Mm → Prop} (a1 : Int) (a2 : Int) (a3 : Int) 
  (H : ∀ m1, m1 = umem m 597 0 0 → ((0 ≤ a1 ∧ a1 ≤ (wr ((m1 597 23) - 1))) → m1 597 16 = 0 ∧ ((0 ≤ a2 ∧ a2 ≤ (wr ((m1 602 579) - 1))) → (a3 < 0 → K (-1) m1) ∧ (¬ a3 < 0 → TrI 233 [(1, 597), (0, a1), (0, a2)] m1 fun v13 m11 => (v13 = 0 → K (-2) m11) ∧ (¬ v13 = 0 → (a3 < (m11 597 33) → (0 ≤ a3 ∧ a3 < 10) ∧ K (m11 611 a3) m11) ∧ (¬ a3 < (m11 597 33) → K (-2) m11)))) ∧ (¬ (0 ≤ a2 ∧ a2 ≤ (wr ((m1 602 579) - 1))) → K (-1) m1)) ∧ (¬ (0 ≤ a1 ∧ a1 ≤ (wr ((m1 597 23) - 1))) → K (-1) m1)) : TrI 232 [(1, 597), (0, a1), (0, a2), (0, a3)] m K := by
  exact w232_0 a1 a2 a3 H
