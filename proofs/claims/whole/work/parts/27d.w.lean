/-! rules of the methods: printed by wip/whole/gen26.py -/
set_option maxRecDepth 100000 in
theorem w233_0 {m : Mm} {K : Int → Mm → Prop} (a1 : Int) (a2 : Int) 
  (H : ∀ m1, m1 = umem m 597 33 0 → ∀ m3, m3 = umem m1 597 31 0 → TrI 227 [(1, 597), (0, a1), (0, a2)] m3 fun v7 m5 => (v7 < 0 → K 0 m5) ∧ (¬ v7 < 0 → X 233 26 [(1, 597), (0, a1), (0, a2), (0, 0), (0, 0), (9, 0)] [] m5 (qI K))) : X 233 0 [(1, 597), (0, a1), (0, a2), (9, 0), (9, 0), (9, 0)] [] m (qI K) := by
  refine x_s (q := (.aload_n 0, 0, 0, 0)) (cod_233 rfl) rfl rfl rfl ?_
  refine x_s (q := (.iconst 0, 0, 0, 0)) (cod_233 rfl) rfl rfl rfl ?_
  refine x_pf (kk := 33) (t := 0) (cod_233 rfl) sq_p_597 sq_l_597_33 rfl rfl rfl ?_
  have H2 := H _ rfl
  generalize umem m 597 33 0 = m1 at H2 ⊢
  refine x_s (q := (.aload_n 0, 0, 0, 0)) (cod_233 rfl) rfl rfl rfl ?_
  refine x_s (q := (.iconst 0, 0, 0, 0)) (cod_233 rfl) rfl rfl rfl ?_
  refine x_pf (kk := 31) (t := 0) (cod_233 rfl) sq_p_597 sq_l_597_31 rfl rfl rfl ?_
  have H4 := H2 _ rfl
  generalize umem m1 597 31 0 = m3 at H4 ⊢
  refine x_s (q := (.aload_n 0, 0, 0, 0)) (cod_233 rfl) rfl rfl rfl ?_
  refine x_s (q := (.iload_n 1, 0, 0, 0)) (cod_233 rfl) rfl rfl rfl ?_
  refine x_s (q := (.iload_n 2, 0, 0, 0)) (cod_233 rfl) rfl rfl rfl ?_
  refine x_call (as := [(1, 597), (0, a1), (0, a2)]) (rest := []) (cod_233 rfl) rfl rfl (by decide) (by decide) rfl rfl (Nat.le_of_ble_eq_true rfl) (rcv0 sq_l_597_0 sq_p_597 (by decide)) (Nat.le_of_ble_eq_true rfl) ?_
  refine X.imp H4 ?_
  rintro _ m5 ⟨v7, rfl, H6⟩
  show X 233 16 [(1, 597), (0, a1), (0, a2), (9, 0), (9, 0), (9, 0)] [(0, v7)] m5 _
  refine x_if (p := ¬ v7 < 0) (tgt := 21) (cod_233 rfl) (by decide) xn_ge (fun h => ?_) (fun h => ?_)
  · have H8 := H6.2 h
    refine x_s (q := (.iconst 0, 0, 0, 0)) (cod_233 rfl) rfl rfl rfl ?_
    refine x_s (q := (.istore_n 3, 0, 0, 0)) (cod_233 rfl) rfl rfl rfl ?_
    refine x_s (q := (.iconst 0, 0, 0, 0)) (cod_233 rfl) rfl rfl rfl ?_
    refine x_s (q := (.istore 4, 0, 0, 0)) (cod_233 rfl) rfl rfl rfl ?_
    exact H8
  · have H9 := H6.1 (Classical.not_not.mp h)
    refine x_s (q := (.iconst 0, 0, 0, 0)) (cod_233 rfl) rfl rfl rfl ?_
    refine x_retI (t := .boolean) (cod_233 rfl) rfl rfl rfl ?_
    exact H9
theorem e233 {m : Mm} {K : Int → Mm → Prop} (a1 : Int) (a2 : Int) 
  (H : ∀ m1, m1 = umem m 597 33 0 → ∀ m3, m3 = umem m1 597 31 0 → TrI 227 [(1, 597), (0, a1), (0, a2)] m3 fun v7 m5 => (v7 < 0 → K 0 m5) ∧ (¬ v7 < 0 → X 233 26 [(1, 597), (0, a1), (0, a2), (0, 0), (0, 0), (9, 0)] [] m5 (qI K))) : TrI 233 [(1, 597), (0, a1), (0, a2)] m K := by
  exact w233_0 a1 a2 H
set_option maxRecDepth 100000 in
theorem w233_26 {m : Mm} {K : Int → Mm → Prop} (a1 : Int) (a2 : Int) (a3 : Int) (a4 : Int) (ua5 : aV) 
  (H : (0 ≤ a1 ∧ a1 < 10) ∧ (a4 < (m 604 a1) → (0 ≤ (wr ((wr (10 * a1)) + a4)) ∧ (wr ((wr (10 * a1)) + a4)) < 100) ∧ ((m 603 (wr ((wr (10 * a1)) + a4))) < 32 → X 233 26 [(1, 597), (0, a1), (0, a2), (0, wr (a3 + 1)), (0, wr (a4 + 1)), ua5] [] m (qI K)) ∧ (¬ (m 603 (wr ((wr (10 * a1)) + a4))) < 32 → X 233 63 [(1, 597), (0, a1), (0, a2), (0, a3), (0, a4), (0, 0)] [] m (qI K))) ∧ (¬ a4 < (m 604 a1) → X 233 134 [(1, 597), (0, a1), (0, a2), (0, a3), (0, 0), ua5] [] m (qI K))) : X 233 26 [(1, 597), (0, a1), (0, a2), (0, a3), (0, a4), ua5] [] m (qI K) := by
  refine x_s (q := (.iload 4, 0, 0, 0)) (cod_233 rfl) rfl rfl rfl ?_
  refine x_s (q := (.aload_n 0, 0, 0, 0)) (cod_233 rfl) rfl rfl rfl ?_
  refine x_gc (kk := 20) (c := 604) (t := 1) (cod_233 rfl) sq_p_597 sq_l_597_20 rfl rfl ?_
  refine x_s (q := (.iload_n 1, 0, 0, 0)) (cod_233 rfl) rfl rfl rfl ?_
  obtain ⟨c1, H2⟩ := H
  refine x_iald (cod_233 rfl) sq_a_604.s (sq_a_604.k c1.1 c1.2) ?_
  refine x_ic (p := ¬ a4 < (m 604 a1)) (tgt := 131) (cod_233 rfl) (by decide) xn_ge (fun h => ?_) (fun h => ?_)
  · have H3 := H2.2 h
    refine x_s (q := (.iconst 0, 0, 0, 0)) (cod_233 rfl) rfl rfl rfl ?_
    refine x_s (q := (.istore 4, 0, 0, 0)) (cod_233 rfl) rfl rfl rfl ?_
    exact H3
  · have H4 := H2.1 (Classical.not_not.mp h)
    refine x_s (q := (.aload_n 0, 0, 0, 0)) (cod_233 rfl) rfl rfl rfl ?_
    refine x_gc (kk := 19) (c := 603) (t := 1) (cod_233 rfl) sq_p_597 sq_l_597_19 rfl rfl ?_
    refine x_s (q := (.bipush 10, 0, 0, 0)) (cod_233 rfl) rfl rfl rfl ?_
    refine x_s (q := (.iload_n 1, 0, 0, 0)) (cod_233 rfl) rfl rfl rfl ?_
    refine x_s (q := (.imul, 0, 0, 0)) (cod_233 rfl) rfl rfl rfl ?_
    refine x_s (q := (.iload 4, 0, 0, 0)) (cod_233 rfl) rfl rfl rfl ?_
    refine x_s (q := (.iadd, 0, 0, 0)) (cod_233 rfl) rfl rfl rfl ?_
    obtain ⟨c5, H6⟩ := H4
    refine x_iald (cod_233 rfl) sq_a_603.s (sq_a_603.k c5.1 c5.2) ?_
    refine x_s (q := (.bipush 32, 0, 0, 0)) (cod_233 rfl) rfl rfl rfl ?_
    refine x_ic (p := ¬ (m 603 (wr ((wr (10 * a1)) + a4))) < 32) (tgt := 60) (cod_233 rfl) (by decide) xn_ge (fun h => ?_) (fun h => ?_)
    · have H7 := H6.2 h
      refine x_s (q := (.iconst 0, 0, 0, 0)) (cod_233 rfl) rfl rfl rfl ?_
      refine x_s (q := (.istore 5, 0, 0, 0)) (cod_233 rfl) rfl rfl rfl ?_
      exact H7
    · have H8 := H6.1 (Classical.not_not.mp h)
      refine x_s (q := (.iinc 3 1, 0, 0, 0)) (cod_233 rfl) rfl rfl rfl ?_
      refine x_go (tgt := 125) (cod_233 rfl) (by decide) ?_
      refine x_s (q := (.iinc 4 1, 0, 0, 0)) (cod_233 rfl) rfl rfl rfl ?_
      refine x_go (tgt := 26) (cod_233 rfl) (by decide) ?_
      exact H8
set_option maxRecDepth 100000 in
theorem w233_63 {m : Mm} {K : Int → Mm → Prop} (a1 : Int) (a2 : Int) (a3 : Int) (a4 : Int) (a5 : Int) 
  (H : TrI 229 [(1, 597), (0, a1), (0, a2), (0, a4), (0, a3), (0, a5)] m fun v3 m1 => (0 ≤ (wr ((wr (9 * a4)) + a3)) ∧ (wr ((wr (9 * a4)) + a3)) < 99) ∧ (v3 = (m1 612 (wr ((wr (9 * a4)) + a3))) → (0 ≤ (m1 597 33) ∧ (m1 597 33) < 10) ∧ ∀ m10, m10 = umem m1 611 (m1 597 33) a5 → ∀ m12, m12 = umem m10 597 33 (wr ((m10 597 33) + 1)) → v_B m12 a5 a2 a3 ∧ X 233 26 [(1, 597), (0, a1), (0, a2), (0, bhd m12 a5 a2 a3), (0, wr (a4 + 1)), (0, a5)] [] m12 (qI K)) ∧ (¬ v3 = (m1 612 (wr ((wr (9 * a4)) + a3))) → X 233 63 [(1, 597), (0, a1), (0, a2), (0, a3), (0, a4), (0, wr (a5 + 1))] [] m1 (qI K))) : X 233 63 [(1, 597), (0, a1), (0, a2), (0, a3), (0, a4), (0, a5)] [] m (qI K) := by
  refine x_s (q := (.aload_n 0, 0, 0, 0)) (cod_233 rfl) rfl rfl rfl ?_
  refine x_s (q := (.iload_n 1, 0, 0, 0)) (cod_233 rfl) rfl rfl rfl ?_
  refine x_s (q := (.iload_n 2, 0, 0, 0)) (cod_233 rfl) rfl rfl rfl ?_
  refine x_s (q := (.iload 4, 0, 0, 0)) (cod_233 rfl) rfl rfl rfl ?_
  refine x_s (q := (.iload_n 3, 0, 0, 0)) (cod_233 rfl) rfl rfl rfl ?_
  refine x_s (q := (.iload 5, 0, 0, 0)) (cod_233 rfl) rfl rfl rfl ?_
  refine x_call (as := [(1, 597), (0, a1), (0, a2), (0, a4), (0, a3), (0, a5)]) (rest := []) (cod_233 rfl) rfl rfl (by decide) (by decide) rfl rfl (Nat.le_of_ble_eq_true rfl) (rcv0 sq_l_597_0 sq_p_597 (by decide)) (Nat.le_of_ble_eq_true rfl) ?_
  refine X.imp H ?_
  rintro _ m1 ⟨v3, rfl, H2⟩
  show X 233 74 [(1, 597), (0, a1), (0, a2), (0, a3), (0, a4), (0, a5)] [(0, v3)] m1 _
  refine x_s (q := (.aload_n 0, 0, 0, 0)) (cod_233 rfl) rfl rfl rfl ?_
  refine x_gc (kk := 34) (c := 612) (t := 1) (cod_233 rfl) sq_p_597 sq_l_597_34 rfl rfl ?_
  refine x_s (q := (.bipush 9, 0, 0, 0)) (cod_233 rfl) rfl rfl rfl ?_
  refine x_s (q := (.iload 4, 0, 0, 0)) (cod_233 rfl) rfl rfl rfl ?_
  refine x_s (q := (.imul, 0, 0, 0)) (cod_233 rfl) rfl rfl rfl ?_
  refine x_s (q := (.iload_n 3, 0, 0, 0)) (cod_233 rfl) rfl rfl rfl ?_
  refine x_s (q := (.iadd, 0, 0, 0)) (cod_233 rfl) rfl rfl rfl ?_
  obtain ⟨c4, H5⟩ := H2
  refine x_iald (cod_233 rfl) sq_a_612.s (sq_a_612.k c4.1 c4.2) ?_
  refine x_ic (p := v3 = (m1 612 (wr ((wr (9 * a4)) + a3)))) (tgt := 95) (cod_233 rfl) (by decide) xj_eq (fun h => ?_) (fun h => ?_)
  · have H6 := H5.1 h
    refine x_s (q := (.aload_n 0, 0, 0, 0)) (cod_233 rfl) rfl rfl rfl ?_
    refine x_gc (kk := 32) (c := 611) (t := 1) (cod_233 rfl) sq_p_597 sq_l_597_32 rfl rfl ?_
    refine x_s (q := (.aload_n 0, 0, 0, 0)) (cod_233 rfl) rfl rfl rfl ?_
    refine x_gf (kk := 33) (t := 0) (cod_233 rfl) sq_p_597 sq_l_597_33 rfl rfl ?_
    refine x_s (q := (.iload 5, 0, 0, 0)) (cod_233 rfl) rfl rfl rfl ?_
    obtain ⟨c8, H9⟩ := H6
    refine x_iast (cod_233 rfl) sq_a_611.s (sq_a_611.k c8.1 c8.2) ?_
    have H11 := H9 _ rfl
    generalize umem m1 611 (m1 597 33) a5 = m10 at H11 ⊢
    refine x_s (q := (.aload_n 0, 0, 0, 0)) (cod_233 rfl) rfl rfl rfl ?_
    refine x_s (q := (.dup, 0, 0, 0)) (cod_233 rfl) rfl rfl rfl ?_
    refine x_gf (kk := 33) (t := 0) (cod_233 rfl) sq_p_597 sq_l_597_33 rfl rfl ?_
    refine x_s (q := (.iconst 1, 0, 0, 0)) (cod_233 rfl) rfl rfl rfl ?_
    refine x_s (q := (.iadd, 0, 0, 0)) (cod_233 rfl) rfl rfl rfl ?_
    refine x_pf (kk := 33) (t := 0) (cod_233 rfl) sq_p_597 sq_l_597_33 rfl rfl rfl ?_
    have H13 := H11 _ rfl
    generalize umem m10 597 33 (wr ((m10 597 33) + 1)) = m12 at H13 ⊢
    refine x_s (q := (.aload_n 0, 0, 0, 0)) (cod_233 rfl) rfl rfl rfl ?_
    refine x_s (q := (.iload 5, 0, 0, 0)) (cod_233 rfl) rfl rfl rfl ?_
    refine x_s (q := (.iload_n 2, 0, 0, 0)) (cod_233 rfl) rfl rfl rfl ?_
    refine x_s (q := (.iload_n 3, 0, 0, 0)) (cod_233 rfl) rfl rfl rfl ?_
    obtain ⟨c14, H15⟩ := H13
    refine x_call (as := [(1, 597), (0, a5), (0, a2), (0, a3)]) (rest := []) (cod_233 rfl) rfl rfl (by decide) (by decide) rfl rfl (Nat.le_of_ble_eq_true rfl) (rcv0 sq_l_597_0 sq_p_597 (by decide)) (Nat.le_of_ble_eq_true rfl) ?_
    refine x_pure (p231 c14) ?_
    show X 233 124 [(1, 597), (0, a1), (0, a2), (0, a3), (0, a4), (0, a5)] [(0, bhd m12 a5 a2 a3)] m12 _
    refine x_s (q := (.istore_n 3, 0, 0, 0)) (cod_233 rfl) rfl rfl rfl ?_
    refine x_s (q := (.iinc 4 1, 0, 0, 0)) (cod_233 rfl) rfl rfl rfl ?_
    refine x_go (tgt := 26) (cod_233 rfl) (by decide) ?_
    exact H15
  · have H7 := H5.2 h
    refine x_s (q := (.iinc 5 1, 0, 0, 0)) (cod_233 rfl) rfl rfl rfl ?_
    refine x_go (tgt := 63) (cod_233 rfl) (by decide) ?_
    exact H7
set_option maxRecDepth 100000 in
theorem w233_134 {m : Mm} {K : Int → Mm → Prop} (ua1 : aV) (a2 : Int) (ua3 : aV) (a4 : Int) (ua5 : aV) (hua3 : ua3.1 ≠ 2)
  (H : (m 597 16 = 0 ∧ 0 ≤ (wr (264 + (wr (11 * a2)))) ∧ (wr (264 + (wr (11 * a2)))) < 1166) ∧ (a4 < (m 602 (wr (264 + (wr (11 * a2))))) → (m 597 16 = 0 ∧ 0 ≤ (wr ((wr ((wr (264 + (wr (11 * a2)))) + 3)) + a4)) ∧ (wr ((wr ((wr (264 + (wr (11 * a2)))) + 3)) + a4)) < 1166) ∧ (0 ≤ (m 597 31) ∧ (m 597 31) < 80) ∧ ∀ m9, m9 = umem m 610 (m 597 31) (m 602 (wr ((wr ((wr (264 + (wr (11 * a2)))) + 3)) + a4))) → ∀ m11, m11 = umem m9 597 31 (wr ((m9 597 31) + 1)) → X 233 134 [(1, 597), ua1, (0, a2), ua3, (0, wr (a4 + 1)), ua5] [] m11 (qI K)) ∧ (¬ a4 < (m 602 (wr (264 + (wr (11 * a2))))) → K 1 m)) : X 233 134 [(1, 597), ua1, (0, a2), ua3, (0, a4), ua5] [] m (qI K) := by
  refine x_s (q := (.iload 4, 0, 0, 0)) (cod_233 rfl) rfl rfl rfl ?_
  refine x_s (q := (.aload_n 0, 0, 0, 0)) (cod_233 rfl) rfl rfl rfl ?_
  refine x_s (q := (.sipush 264, 0, 0, 0)) (cod_233 rfl) rfl rfl rfl ?_
  refine x_s (q := (.bipush 11, 0, 0, 0)) (cod_233 rfl) rfl rfl rfl ?_
  refine x_s (q := (.iload_n 2, 0, 0, 0)) (cod_233 rfl) rfl rfl rfl ?_
  refine x_s (q := (.imul, 0, 0, 0)) (cod_233 rfl) rfl rfl rfl ?_
  refine x_s (q := (.iadd, 0, 0, 0)) (cod_233 rfl) rfl rfl rfl ?_
  obtain ⟨c1, H2⟩ := H
  refine x_call (as := [(1, 597), (0, wr (264 + (wr (11 * a2))))]) (rest := [(0, a4)]) (cod_233 rfl) rfl rfl (by decide) (by decide) rfl rfl (Nat.le_of_ble_eq_true rfl) (rcv0 sq_l_597_0 sq_p_597 (by decide)) (Nat.le_of_ble_eq_true rfl) ?_
  refine x_pure (p182ax c1) ?_
  show X 233 148 [(1, 597), ua1, (0, a2), ua3, (0, a4), ua5] [(0, m 602 (wr (264 + (wr (11 * a2))))), (0, a4)] m _
  refine x_ic (p := ¬ a4 < (m 602 (wr (264 + (wr (11 * a2)))))) (tgt := 168) (cod_233 rfl) (by decide) xn_ge (fun h => ?_) (fun h => ?_)
  · have H3 := H2.2 h
    refine x_s (q := (.iconst 1, 0, 0, 0)) (cod_233 rfl) rfl rfl rfl ?_
    refine x_retI (t := .boolean) (cod_233 rfl) rfl rfl rfl ?_
    exact H3
  · have H4 := H2.1 (Classical.not_not.mp h)
    refine x_s (q := (.aload_n 0, 0, 0, 0)) (cod_233 rfl) rfl rfl rfl ?_
    refine x_s (q := (.aload_n 0, 0, 0, 0)) (cod_233 rfl) rfl rfl rfl ?_
    refine x_s (q := (.iload_n 2, 0, 0, 0)) (cod_233 rfl) rfl rfl rfl ?_
    refine x_s (q := (.iload 4, 0, 0, 0)) (cod_233 rfl) rfl rfl rfl ?_
    refine x_call (as := [(1, 597), (0, a2), (0, a4)]) (rest := [(1, 597)]) (cod_233 rfl) rfl rfl (by decide) (by decide) rfl rfl (Nat.le_of_ble_eq_true rfl) (rcv0 sq_l_597_0 sq_p_597 (by decide)) (Nat.le_of_ble_eq_true rfl) ?_
    show X 208 0 [(1, 597), (0, a2), (0, a4)] [] m _
    refine x_s (q := (.aload_n 0, 0, 0, 0)) (cod_208 rfl) rfl rfl rfl ?_
    refine x_s (q := (.sipush 264, 0, 0, 0)) (cod_208 rfl) rfl rfl rfl ?_
    refine x_s (q := (.bipush 11, 0, 0, 0)) (cod_208 rfl) rfl rfl rfl ?_
    refine x_s (q := (.iload_n 1, 0, 0, 0)) (cod_208 rfl) rfl rfl rfl ?_
    refine x_s (q := (.imul, 0, 0, 0)) (cod_208 rfl) rfl rfl rfl ?_
    refine x_s (q := (.iadd, 0, 0, 0)) (cod_208 rfl) rfl rfl rfl ?_
    refine x_s (q := (.iconst 3, 0, 0, 0)) (cod_208 rfl) rfl rfl rfl ?_
    refine x_s (q := (.iadd, 0, 0, 0)) (cod_208 rfl) rfl rfl rfl ?_
    refine x_s (q := (.iload_n 2, 0, 0, 0)) (cod_208 rfl) rfl rfl rfl ?_
    refine x_s (q := (.iadd, 0, 0, 0)) (cod_208 rfl) rfl rfl rfl ?_
    obtain ⟨c5, H6⟩ := H4
    refine x_call (as := [(1, 597), (0, wr ((wr ((wr (264 + (wr (11 * a2)))) + 3)) + a4))]) (rest := []) (cod_208 rfl) rfl rfl (by decide) (by decide) rfl rfl (Nat.le_of_ble_eq_true rfl) (rcv0 sq_l_597_0 sq_p_597 (by decide)) (Nat.le_of_ble_eq_true rfl) ?_
    refine x_pure (p182ax c5) ?_
    show X 208 16 [(1, 597), (0, a2), (0, a4)] [(0, m 602 (wr ((wr ((wr (264 + (wr (11 * a2)))) + 3)) + a4)))] m _
    refine x_rI (t := .int) (cod_208 rfl) rfl rfl rfl ?_
    show X 233 159 [(1, 597), ua1, (0, a2), ua3, (0, a4), ua5] [(0, m 602 (wr ((wr ((wr (264 + (wr (11 * a2)))) + 3)) + a4))), (1, 597)] m _
    refine x_call (as := [(1, 597), (0, m 602 (wr ((wr ((wr (264 + (wr (11 * a2)))) + 3)) + a4)))]) (rest := []) (cod_233 rfl) rfl rfl (by decide) (by decide) rfl rfl (Nat.le_of_ble_eq_true rfl) (rcv0 sq_l_597_0 sq_p_597 (by decide)) (Nat.le_of_ble_eq_true rfl) ?_
    show X 224 0 [(1, 597), (0, m 602 (wr ((wr ((wr (264 + (wr (11 * a2)))) + 3)) + a4)))] [] m _
    refine x_s (q := (.aload_n 0, 0, 0, 0)) (cod_224 rfl) rfl rfl rfl ?_
    refine x_gc (kk := 30) (c := 610) (t := 1) (cod_224 rfl) sq_p_597 sq_l_597_30 rfl rfl ?_
    refine x_s (q := (.aload_n 0, 0, 0, 0)) (cod_224 rfl) rfl rfl rfl ?_
    refine x_gf (kk := 31) (t := 0) (cod_224 rfl) sq_p_597 sq_l_597_31 rfl rfl ?_
    refine x_s (q := (.iload_n 1, 0, 0, 0)) (cod_224 rfl) rfl rfl rfl ?_
    obtain ⟨c7, H8⟩ := H6
    refine x_iast (cod_224 rfl) sq_a_610.s (sq_a_610.k c7.1 c7.2) ?_
    have H10 := H8 _ rfl
    generalize umem m 610 (m 597 31) (m 602 (wr ((wr ((wr (264 + (wr (11 * a2)))) + 3)) + a4))) = m9 at H10 ⊢
    refine x_s (q := (.aload_n 0, 0, 0, 0)) (cod_224 rfl) rfl rfl rfl ?_
    refine x_s (q := (.dup, 0, 0, 0)) (cod_224 rfl) rfl rfl rfl ?_
    refine x_gf (kk := 31) (t := 0) (cod_224 rfl) sq_p_597 sq_l_597_31 rfl rfl ?_
    refine x_s (q := (.iconst 1, 0, 0, 0)) (cod_224 rfl) rfl rfl rfl ?_
    refine x_s (q := (.iadd, 0, 0, 0)) (cod_224 rfl) rfl rfl rfl ?_
    refine x_pf (kk := 31) (t := 0) (cod_224 rfl) sq_p_597 sq_l_597_31 rfl rfl rfl ?_
    have H12 := H10 _ rfl
    generalize umem m9 597 31 (wr ((m9 597 31) + 1)) = m11 at H12 ⊢
    refine x_rV (cod_224 rfl) rfl ?_
    show X 233 162 [(1, 597), ua1, (0, a2), ua3, (0, a4), ua5] [] m11 _
    show X 233 162 [(1, 597), ua1, (0, a2), ua3, (0, a4), ua5] [] m11 _
    refine x_s (q := (.iinc 4 1, 0, 0, 0)) (np := 165) (ls' := [(1, 597), ua1, (0, a2), ua3, (0, wr (a4 + 1)), ua5]) (st' := []) (cod_233 rfl) rfl rfl (by simp [stp1, stS, tok, lsok, oif, hua3]) ?_
    refine x_go (tgt := 134) (cod_233 rfl) (by decide) ?_
    exact H12
set_option maxRecDepth 100000 in
theorem w234_0 {m : Mm} {K : Int → Mm → Prop} (a1 : Int) 
  (H : ∀ m1, m1 = umem m 597 0 0 → ((0 ≤ a1 ∧ a1 ≤ (wr ((m1 597 23) - 1))) → X 234 19 [(1, 597), (0, a1), (0, 0), (0, 0)] [] m1 (qI K)) ∧ (¬ (0 ≤ a1 ∧ a1 ≤ (wr ((m1 597 23) - 1))) → K (-1) m1)) : X 234 0 [(1, 597), (0, a1), (9, 0), (9, 0)] [] m (qI K) := by
  refine x_s (q := (.aload_n 0, 0, 0, 0)) (cod_234 rfl) rfl rfl rfl ?_
  refine x_s (q := (.iconst 0, 0, 0, 0)) (cod_234 rfl) rfl rfl rfl ?_
  refine x_pf (kk := 0) (t := 0) (cod_234 rfl) sq_p_597 sq_l_597_0 rfl rfl rfl ?_
  have H2 := H _ rfl
  generalize umem m 597 0 0 = m1 at H2 ⊢
  refine x_s (q := (.aload_n 0, 0, 0, 0)) (cod_234 rfl) rfl rfl rfl ?_
  refine x_s (q := (.iload_n 1, 0, 0, 0)) (cod_234 rfl) rfl rfl rfl ?_
  refine x_call (as := [(1, 597), (0, a1)]) (rest := []) (cod_234 rfl) rfl rfl (by decide) (by decide) rfl rfl (Nat.le_of_ble_eq_true rfl) (rcv0 sq_l_597_0 sq_p_597 (by decide)) (Nat.le_of_ble_eq_true rfl) ?_
  show X 210 0 [(1, 597), (0, a1)] [] m1 _
  refine x_s (q := (.iload_n 1, 0, 0, 0)) (cod_210 rfl) rfl rfl rfl ?_
  refine x_s (q := (.iconst 0, 0, 0, 0)) (cod_210 rfl) rfl rfl rfl ?_
  refine x_s (q := (.aload_n 0, 0, 0, 0)) (cod_210 rfl) rfl rfl rfl ?_
  refine x_gf (kk := 23) (t := 0) (cod_210 rfl) sq_p_597 sq_l_597_23 rfl rfl ?_
  refine x_s (q := (.iconst 1, 0, 0, 0)) (cod_210 rfl) rfl rfl rfl ?_
  refine x_s (q := (.isub, 0, 0, 0)) (cod_210 rfl) rfl rfl rfl ?_
  refine x_call (as := [(0, a1), (0, 0), (0, wr ((m1 597 23) - 1))]) (rest := []) (cod_210 rfl) rfl rfl (by decide) (by decide) rfl rfl (Nat.le_of_ble_eq_true rfl) rfl (Nat.le_of_ble_eq_true rfl) ?_
  refine x_pure (p172) ?_
  show X 210 11 [(1, 597), (0, a1)] [(0, bi (0 ≤ a1 ∧ a1 ≤ (wr ((m1 597 23) - 1))))] m1 _
  refine x_rI (t := .boolean) (cod_210 rfl) rfl rfl (bok_b (bi_01 _)) ?_
  show X 234 10 [(1, 597), (0, a1), (9, 0), (9, 0)] [(0, bi (0 ≤ a1 ∧ a1 ≤ (wr ((m1 597 23) - 1))))] m1 _
  refine x_if (p := 0 ≤ a1 ∧ a1 ≤ (wr ((m1 597 23) - 1))) (tgt := 15) (cod_234 rfl) (by decide) xb_ne (fun h => ?_) (fun h => ?_)
  · have H3 := H2.1 h
    refine x_s (q := (.iconst 0, 0, 0, 0)) (cod_234 rfl) rfl rfl rfl ?_
    refine x_s (q := (.istore_n 2, 0, 0, 0)) (cod_234 rfl) rfl rfl rfl ?_
    refine x_s (q := (.iconst 0, 0, 0, 0)) (cod_234 rfl) rfl rfl rfl ?_
    refine x_s (q := (.istore_n 3, 0, 0, 0)) (cod_234 rfl) rfl rfl rfl ?_
    exact H3
  · have H4 := H2.2 h
    refine x_s (q := (.iconst (-1), 0, 0, 0)) (cod_234 rfl) rfl rfl rfl ?_
    refine x_retI (t := .int) (cod_234 rfl) rfl rfl rfl ?_
    exact H4
theorem e234 {m : Mm} {K : Int → Mm → Prop} (a1 : Int) 
  (H : ∀ m1, m1 = umem m 597 0 0 → ((0 ≤ a1 ∧ a1 ≤ (wr ((m1 597 23) - 1))) → X 234 19 [(1, 597), (0, a1), (0, 0), (0, 0)] [] m1 (qI K)) ∧ (¬ (0 ≤ a1 ∧ a1 ≤ (wr ((m1 597 23) - 1))) → K (-1) m1)) : TrI 234 [(1, 597), (0, a1)] m K := by
  exact w234_0 a1 H
set_option maxRecDepth 100000 in
theorem w234_19 {m : Mm} {K : Int → Mm → Prop} (a1 : Int) (a2 : Int) (a3 : Int) 
  (H : m 597 16 = 0 ∧ (a3 < (m 602 579) → TrI 227 [(1, 597), (0, a1), (0, a3)] m fun v7 m5 => (v7 < 0 → X 234 19 [(1, 597), (0, a1), (0, ior a2 0), (0, wr (a3 + 1))] [] m5 (qI K)) ∧ (¬ v7 < 0 → X 234 19 [(1, 597), (0, a1), (0, ior a2 (ishl 1 a3)), (0, wr (a3 + 1))] [] m5 (qI K))) ∧ (¬ a3 < (m 602 579) → K a2 m)) : X 234 19 [(1, 597), (0, a1), (0, a2), (0, a3)] [] m (qI K) := by
  refine x_s (q := (.iload_n 3, 0, 0, 0)) (cod_234 rfl) rfl rfl rfl ?_
  refine x_s (q := (.aload_n 0, 0, 0, 0)) (cod_234 rfl) rfl rfl rfl ?_
  refine x_call (as := [(1, 597)]) (rest := [(0, a3)]) (cod_234 rfl) rfl rfl (by decide) (by decide) rfl rfl (Nat.le_of_ble_eq_true rfl) (rcv0 sq_l_597_0 sq_p_597 (by decide)) (Nat.le_of_ble_eq_true rfl) ?_
  show X 186 0 [(1, 597)] [] m _
  refine x_s (q := (.aload_n 0, 0, 0, 0)) (cod_186 rfl) rfl rfl rfl ?_
  refine x_s (q := (.sipush 579, 0, 0, 0)) (cod_186 rfl) rfl rfl rfl ?_
  obtain ⟨c1, H2⟩ := H
  refine x_call (as := [(1, 597), (0, 579)]) (rest := []) (cod_186 rfl) rfl rfl (by decide) (by decide) rfl rfl (Nat.le_of_ble_eq_true rfl) (rcv0 sq_l_597_0 sq_p_597 (by decide)) (Nat.le_of_ble_eq_true rfl) ?_
  refine x_pure (p182a (by decide) c1) ?_
  show X 186 7 [(1, 597)] [(0, m 602 579)] m _
  refine x_rI (t := .int) (cod_186 rfl) rfl rfl rfl ?_
  show X 234 24 [(1, 597), (0, a1), (0, a2), (0, a3)] [(0, m 602 579), (0, a3)] m _
  refine x_ic (p := ¬ a3 < (m 602 579)) (tgt := 52) (cod_234 rfl) (by decide) xn_ge (fun h => ?_) (fun h => ?_)
  · have H3 := H2.2 h
    refine x_s (q := (.iload_n 2, 0, 0, 0)) (cod_234 rfl) rfl rfl rfl ?_
    refine x_retI (t := .int) (cod_234 rfl) rfl rfl rfl ?_
    exact H3
  · have H4 := H2.1 (Classical.not_not.mp h)
    refine x_s (q := (.iload_n 2, 0, 0, 0)) (cod_234 rfl) rfl rfl rfl ?_
    refine x_s (q := (.aload_n 0, 0, 0, 0)) (cod_234 rfl) rfl rfl rfl ?_
    refine x_s (q := (.iload_n 1, 0, 0, 0)) (cod_234 rfl) rfl rfl rfl ?_
    refine x_s (q := (.iload_n 3, 0, 0, 0)) (cod_234 rfl) rfl rfl rfl ?_
    refine x_call (as := [(1, 597), (0, a1), (0, a3)]) (rest := [(0, a2)]) (cod_234 rfl) rfl rfl (by decide) (by decide) rfl rfl (Nat.le_of_ble_eq_true rfl) (rcv0 sq_l_597_0 sq_p_597 (by decide)) (Nat.le_of_ble_eq_true rfl) ?_
    refine X.imp H4 ?_
    rintro _ m5 ⟨v7, rfl, H6⟩
    show X 234 34 [(1, 597), (0, a1), (0, a2), (0, a3)] [(0, v7), (0, a2)] m5 _
    refine x_if (p := v7 < 0) (tgt := 43) (cod_234 rfl) (by decide) xj_lt (fun h => ?_) (fun h => ?_)
    · have H8 := H6.1 h
      refine x_s (q := (.iconst 0, 0, 0, 0)) (cod_234 rfl) rfl rfl rfl ?_
      refine x_s (q := (.ior, 0, 0, 0)) (cod_234 rfl) rfl rfl rfl ?_
      show X 234 45 [(1, 597), (0, a1), (0, a2), (0, a3)] [(0, ior a2 0)] m5 _
      refine x_s (q := (.istore_n 2, 0, 0, 0)) (cod_234 rfl) rfl rfl rfl ?_
      refine x_s (q := (.iinc 3 1, 0, 0, 0)) (cod_234 rfl) rfl rfl rfl ?_
      refine x_go (tgt := 19) (cod_234 rfl) (by decide) ?_
      exact H8
    · have H9 := H6.2 h
      refine x_s (q := (.iconst 1, 0, 0, 0)) (cod_234 rfl) rfl rfl rfl ?_
      refine x_s (q := (.iload_n 3, 0, 0, 0)) (cod_234 rfl) rfl rfl rfl ?_
      refine x_s (q := (.ishl, 0, 0, 0)) (cod_234 rfl) rfl rfl rfl ?_
      show X 234 40 [(1, 597), (0, a1), (0, a2), (0, a3)] [(0, ishl 1 a3), (0, a2)] m5 _
      refine x_go (tgt := 44) (cod_234 rfl) (by decide) ?_
      refine x_s (q := (.ior, 0, 0, 0)) (cod_234 rfl) rfl rfl rfl ?_
      show X 234 45 [(1, 597), (0, a1), (0, a2), (0, a3)] [(0, ior a2 (ishl 1 a3))] m5 _
      refine x_s (q := (.istore_n 2, 0, 0, 0)) (cod_234 rfl) rfl rfl rfl ?_
      refine x_s (q := (.iinc 3 1, 0, 0, 0)) (cod_234 rfl) rfl rfl rfl ?_
      refine x_go (tgt := 19) (cod_234 rfl) (by decide) ?_
      exact H9
set_option maxRecDepth 100000 in
theorem w235_0 {m : Mm} {K : Int → Mm → Prop} (a1 : Int) 
  (H : ∀ m1, m1 = umem m 597 0 0 → ((0 ≤ a1 ∧ a1 ≤ (wr ((m1 597 23) - 1))) → TrV 236 [(1, 597), (0, a1)] m1 fun m5 => (0 ≤ a1 ∧ a1 < 10) ∧ K (m5 615 a1) m5) ∧ (¬ (0 ≤ a1 ∧ a1 ≤ (wr ((m1 597 23) - 1))) → K (-1) m1)) : X 235 0 [(1, 597), (0, a1)] [] m (qI K) := by
  refine x_s (q := (.aload_n 0, 0, 0, 0)) (cod_235 rfl) rfl rfl rfl ?_
  refine x_s (q := (.iconst 0, 0, 0, 0)) (cod_235 rfl) rfl rfl rfl ?_
  refine x_pf (kk := 0) (t := 0) (cod_235 rfl) sq_p_597 sq_l_597_0 rfl rfl rfl ?_
  have H2 := H _ rfl
  generalize umem m 597 0 0 = m1 at H2 ⊢
  refine x_s (q := (.aload_n 0, 0, 0, 0)) (cod_235 rfl) rfl rfl rfl ?_
  refine x_s (q := (.iload_n 1, 0, 0, 0)) (cod_235 rfl) rfl rfl rfl ?_
  refine x_call (as := [(1, 597), (0, a1)]) (rest := []) (cod_235 rfl) rfl rfl (by decide) (by decide) rfl rfl (Nat.le_of_ble_eq_true rfl) (rcv0 sq_l_597_0 sq_p_597 (by decide)) (Nat.le_of_ble_eq_true rfl) ?_
  show X 210 0 [(1, 597), (0, a1)] [] m1 _
  refine x_s (q := (.iload_n 1, 0, 0, 0)) (cod_210 rfl) rfl rfl rfl ?_
  refine x_s (q := (.iconst 0, 0, 0, 0)) (cod_210 rfl) rfl rfl rfl ?_
  refine x_s (q := (.aload_n 0, 0, 0, 0)) (cod_210 rfl) rfl rfl rfl ?_
  refine x_gf (kk := 23) (t := 0) (cod_210 rfl) sq_p_597 sq_l_597_23 rfl rfl ?_
  refine x_s (q := (.iconst 1, 0, 0, 0)) (cod_210 rfl) rfl rfl rfl ?_
  refine x_s (q := (.isub, 0, 0, 0)) (cod_210 rfl) rfl rfl rfl ?_
  refine x_call (as := [(0, a1), (0, 0), (0, wr ((m1 597 23) - 1))]) (rest := []) (cod_210 rfl) rfl rfl (by decide) (by decide) rfl rfl (Nat.le_of_ble_eq_true rfl) rfl (Nat.le_of_ble_eq_true rfl) ?_
  refine x_pure (p172) ?_
  show X 210 11 [(1, 597), (0, a1)] [(0, bi (0 ≤ a1 ∧ a1 ≤ (wr ((m1 597 23) - 1))))] m1 _
  refine x_rI (t := .boolean) (cod_210 rfl) rfl rfl (bok_b (bi_01 _)) ?_
  show X 235 10 [(1, 597), (0, a1)] [(0, bi (0 ≤ a1 ∧ a1 ≤ (wr ((m1 597 23) - 1))))] m1 _
  refine x_if (p := 0 ≤ a1 ∧ a1 ≤ (wr ((m1 597 23) - 1))) (tgt := 15) (cod_235 rfl) (by decide) xb_ne (fun h => ?_) (fun h => ?_)
  · have H3 := H2.1 h
    refine x_s (q := (.aload_n 0, 0, 0, 0)) (cod_235 rfl) rfl rfl rfl ?_
    refine x_s (q := (.iload_n 1, 0, 0, 0)) (cod_235 rfl) rfl rfl rfl ?_
    refine x_call (as := [(1, 597), (0, a1)]) (rest := []) (cod_235 rfl) rfl rfl (by decide) (by decide) rfl rfl (Nat.le_of_ble_eq_true rfl) (rcv0 sq_l_597_0 sq_p_597 (by decide)) (Nat.le_of_ble_eq_true rfl) ?_
    refine X.imp H3 ?_
    rintro _ m5 ⟨rfl, H6⟩
    show X 235 20 [(1, 597), (0, a1)] [] m5 _
    refine x_s (q := (.aload_n 0, 0, 0, 0)) (cod_235 rfl) rfl rfl rfl ?_
    refine x_gc (kk := 37) (c := 615) (t := 1) (cod_235 rfl) sq_p_597 sq_l_597_37 rfl rfl ?_
    refine x_s (q := (.iload_n 1, 0, 0, 0)) (cod_235 rfl) rfl rfl rfl ?_
    obtain ⟨c7, H8⟩ := H6
    refine x_iald (cod_235 rfl) sq_a_615.s (sq_a_615.k c7.1 c7.2) ?_
    refine x_retI (t := .int) (cod_235 rfl) rfl rfl rfl ?_
    exact H8
  · have H4 := H2.2 h
    refine x_s (q := (.iconst (-1), 0, 0, 0)) (cod_235 rfl) rfl rfl rfl ?_
    refine x_retI (t := .int) (cod_235 rfl) rfl rfl rfl ?_
    exact H4
theorem e235 {m : Mm} {K : Int → Mm → Prop} (a1 : Int) 
  (H : ∀ m1, m1 = umem m 597 0 0 → ((0 ≤ a1 ∧ a1 ≤ (wr ((m1 597 23) - 1))) → TrV 236 [(1, 597), (0, a1)] m1 fun m5 => (0 ≤ a1 ∧ a1 < 10) ∧ K (m5 615 a1) m5) ∧ (¬ (0 ≤ a1 ∧ a1 ≤ (wr ((m1 597 23) - 1))) → K (-1) m1)) : TrI 235 [(1, 597), (0, a1)] m K := by
  exact w235_0 a1 H
set_option maxRecDepth 100000 in
theorem w236_0 {m : Mm} {K : Mm → Prop} (a1 : Int) 
  (H : (0 ≤ a1 ∧ a1 < 10) ∧ ∀ m3, m3 = umem m 615 a1 0 → X 236 9 [(1, 597), (0, a1), (0, 0), (9, 0)] [] m3 (qV K)) : X 236 0 [(1, 597), (0, a1), (9, 0), (9, 0)] [] m (qV K) := by
  refine x_s (q := (.aload_n 0, 0, 0, 0)) (cod_236 rfl) rfl rfl rfl ?_
  refine x_gc (kk := 37) (c := 615) (t := 1) (cod_236 rfl) sq_p_597 sq_l_597_37 rfl rfl ?_
  refine x_s (q := (.iload_n 1, 0, 0, 0)) (cod_236 rfl) rfl rfl rfl ?_
  refine x_s (q := (.iconst 0, 0, 0, 0)) (cod_236 rfl) rfl rfl rfl ?_
  obtain ⟨c1, H2⟩ := H
  refine x_iast (cod_236 rfl) sq_a_615.s (sq_a_615.k c1.1 c1.2) ?_
  have H4 := H2 _ rfl
  generalize umem m 615 a1 0 = m3 at H4 ⊢
  refine x_s (q := (.iconst 0, 0, 0, 0)) (cod_236 rfl) rfl rfl rfl ?_
  refine x_s (q := (.istore_n 2, 0, 0, 0)) (cod_236 rfl) rfl rfl rfl ?_
  exact H4
theorem e236 {m : Mm} {K : Mm → Prop} (a1 : Int) 
  (H : (0 ≤ a1 ∧ a1 < 10) ∧ ∀ m3, m3 = umem m 615 a1 0 → X 236 9 [(1, 597), (0, a1), (0, 0), (9, 0)] [] m3 (qV K)) : TrV 236 [(1, 597), (0, a1)] m K := by
  exact w236_0 a1 H
set_option maxRecDepth 100000 in
theorem w236_9 {m : Mm} {K : Mm → Prop} (a1 : Int) (a2 : Int) (ua3 : aV) 
  (H : m 597 16 = 0 ∧ (a2 < (m 602 579) → TrI 227 [(1, 597), (0, a1), (0, a2)] m fun v21 m19 => (v21 < 0 → X 236 9 [(1, 597), (0, a1), (0, wr (a2 + 1)), (0, v21)] [] m19 (qV K)) ∧ (¬ v21 < 0 → TrV 237 [(1, 597), (0, a1), (0, a2), (0, v21)] m19 fun m24 => X 236 9 [(1, 597), (0, a1), (0, wr (a2 + 1)), (0, v21)] [] m24 (qV K))) ∧ (¬ a2 < (m 602 579) → (0 ≤ a1 ∧ a1 < 10) ∧ ((m 615 a1) > 0 → K m) ∧ (¬ (m 615 a1) > 0 → TrV 213 [(1, 597), (0, a1)] m fun m9 => m9 597 16 = 0 ∧ ((m9 609 0) < 0 → TrV 237 [(1, 597), (0, a1), (0, (-3)), (0, wr (2 * (m9 602 580)))] m9 fun m15 => K m15) ∧ (¬ (m9 609 0) < 0 → TrV 237 [(1, 597), (0, a1), (0, (-2)), (0, wr ((m9 609 0) + (m9 602 580)))] m9 fun m17 => K m17)))) : X 236 9 [(1, 597), (0, a1), (0, a2), ua3] [] m (qV K) := by
  refine x_s (q := (.iload_n 2, 0, 0, 0)) (cod_236 rfl) rfl rfl rfl ?_
  refine x_s (q := (.aload_n 0, 0, 0, 0)) (cod_236 rfl) rfl rfl rfl ?_
  refine x_call (as := [(1, 597)]) (rest := [(0, a2)]) (cod_236 rfl) rfl rfl (by decide) (by decide) rfl rfl (Nat.le_of_ble_eq_true rfl) (rcv0 sq_l_597_0 sq_p_597 (by decide)) (Nat.le_of_ble_eq_true rfl) ?_
  show X 186 0 [(1, 597)] [] m _
  refine x_s (q := (.aload_n 0, 0, 0, 0)) (cod_186 rfl) rfl rfl rfl ?_
  refine x_s (q := (.sipush 579, 0, 0, 0)) (cod_186 rfl) rfl rfl rfl ?_
  obtain ⟨c1, H2⟩ := H
  refine x_call (as := [(1, 597), (0, 579)]) (rest := []) (cod_186 rfl) rfl rfl (by decide) (by decide) rfl rfl (Nat.le_of_ble_eq_true rfl) (rcv0 sq_l_597_0 sq_p_597 (by decide)) (Nat.le_of_ble_eq_true rfl) ?_
  refine x_pure (p182a (by decide) c1) ?_
  show X 186 7 [(1, 597)] [(0, m 602 579)] m _
  refine x_rI (t := .int) (cod_186 rfl) rfl rfl rfl ?_
  show X 236 14 [(1, 597), (0, a1), (0, a2), ua3] [(0, m 602 579), (0, a2)] m _
  refine x_ic (p := ¬ a2 < (m 602 579)) (tgt := 41) (cod_236 rfl) (by decide) xn_ge (fun h => ?_) (fun h => ?_)
  · have H3 := H2.2 h
    refine x_s (q := (.aload_n 0, 0, 0, 0)) (cod_236 rfl) rfl rfl rfl ?_
    refine x_gc (kk := 37) (c := 615) (t := 1) (cod_236 rfl) sq_p_597 sq_l_597_37 rfl rfl ?_
    refine x_s (q := (.iload_n 1, 0, 0, 0)) (cod_236 rfl) rfl rfl rfl ?_
    obtain ⟨c5, H6⟩ := H3
    refine x_iald (cod_236 rfl) sq_a_615.s (sq_a_615.k c5.1 c5.2) ?_
    refine x_if (p := ¬ (m 615 a1) > 0) (tgt := 51) (cod_236 rfl) (by decide) xn_le (fun h => ?_) (fun h => ?_)
    · have H7 := H6.2 h
      refine x_s (q := (.aload_n 0, 0, 0, 0)) (cod_236 rfl) rfl rfl rfl ?_
      refine x_s (q := (.iload_n 1, 0, 0, 0)) (cod_236 rfl) rfl rfl rfl ?_
      refine x_call (as := [(1, 597), (0, a1)]) (rest := []) (cod_236 rfl) rfl rfl (by decide) (by decide) rfl rfl (Nat.le_of_ble_eq_true rfl) (rcv0 sq_l_597_0 sq_p_597 (by decide)) (Nat.le_of_ble_eq_true rfl) ?_
      refine X.imp H7 ?_
      rintro _ m9 ⟨rfl, H10⟩
      show X 236 56 [(1, 597), (0, a1), (0, a2), ua3] [] m9 _
      refine x_s (q := (.aload_n 0, 0, 0, 0)) (cod_236 rfl) rfl rfl rfl ?_
      refine x_s (q := (.sipush 580, 0, 0, 0)) (cod_236 rfl) rfl rfl rfl ?_
      obtain ⟨c11, H12⟩ := H10
      refine x_call (as := [(1, 597), (0, 580)]) (rest := []) (cod_236 rfl) rfl rfl (by decide) (by decide) rfl rfl (Nat.le_of_ble_eq_true rfl) (rcv0 sq_l_597_0 sq_p_597 (by decide)) (Nat.le_of_ble_eq_true rfl) ?_
      refine x_pure (p182a (by decide) c11) ?_
      show X 236 63 [(1, 597), (0, a1), (0, a2), ua3] [(0, m9 602 580)] m9 _
      refine x_s (q := (.istore_n 2, 0, 0, 0)) (cod_236 rfl) rfl rfl rfl ?_
      refine x_s (q := (.aload_n 0, 0, 0, 0)) (cod_236 rfl) rfl rfl rfl ?_
      refine x_gc (kk := 29) (c := 609) (t := 1) (cod_236 rfl) sq_p_597 sq_l_597_29 rfl rfl ?_
      refine x_s (q := (.iconst 0, 0, 0, 0)) (cod_236 rfl) rfl rfl rfl ?_
      refine x_iald (cod_236 rfl) sq_a_609.s (sq_a_609.k (by decide) (by decide)) ?_
      refine x_if (p := (m9 609 0) < 0) (tgt := 91) (cod_236 rfl) (by decide) xj_lt (fun h => ?_) (fun h => ?_)
      · have H13 := H12.1 h
        refine x_s (q := (.aload_n 0, 0, 0, 0)) (cod_236 rfl) rfl rfl rfl ?_
        refine x_s (q := (.iload_n 1, 0, 0, 0)) (cod_236 rfl) rfl rfl rfl ?_
        refine x_s (q := (.bipush (-3), 0, 0, 0)) (cod_236 rfl) rfl rfl rfl ?_
        refine x_s (q := (.iconst 2, 0, 0, 0)) (cod_236 rfl) rfl rfl rfl ?_
        refine x_s (q := (.iload_n 2, 0, 0, 0)) (cod_236 rfl) rfl rfl rfl ?_
        refine x_s (q := (.imul, 0, 0, 0)) (cod_236 rfl) rfl rfl rfl ?_
        refine x_call (as := [(1, 597), (0, a1), (0, (-3)), (0, wr (2 * (m9 602 580)))]) (rest := []) (cod_236 rfl) rfl rfl (by decide) (by decide) rfl rfl (Nat.le_of_ble_eq_true rfl) (rcv0 sq_l_597_0 sq_p_597 (by decide)) (Nat.le_of_ble_eq_true rfl) ?_
        refine X.imp H13 ?_
        rintro _ m15 ⟨rfl, H16⟩
        show X 236 101 [(1, 597), (0, a1), (0, m9 602 580), ua3] [] m15 _
        refine x_retV (cod_236 rfl) rfl ?_
        exact H16
      · have H14 := H12.2 h
        refine x_s (q := (.aload_n 0, 0, 0, 0)) (cod_236 rfl) rfl rfl rfl ?_
        refine x_s (q := (.iload_n 1, 0, 0, 0)) (cod_236 rfl) rfl rfl rfl ?_
        refine x_s (q := (.bipush (-2), 0, 0, 0)) (cod_236 rfl) rfl rfl rfl ?_
        refine x_s (q := (.aload_n 0, 0, 0, 0)) (cod_236 rfl) rfl rfl rfl ?_
        refine x_gc (kk := 29) (c := 609) (t := 1) (cod_236 rfl) sq_p_597 sq_l_597_29 rfl rfl ?_
        refine x_s (q := (.iconst 0, 0, 0, 0)) (cod_236 rfl) rfl rfl rfl ?_
        refine x_iald (cod_236 rfl) sq_a_609.s (sq_a_609.k (by decide) (by decide)) ?_
        refine x_s (q := (.iload_n 2, 0, 0, 0)) (cod_236 rfl) rfl rfl rfl ?_
        refine x_s (q := (.iadd, 0, 0, 0)) (cod_236 rfl) rfl rfl rfl ?_
        refine x_call (as := [(1, 597), (0, a1), (0, (-2)), (0, wr ((m9 609 0) + (m9 602 580)))]) (rest := []) (cod_236 rfl) rfl rfl (by decide) (by decide) rfl rfl (Nat.le_of_ble_eq_true rfl) (rcv0 sq_l_597_0 sq_p_597 (by decide)) (Nat.le_of_ble_eq_true rfl) ?_
        refine X.imp H14 ?_
        rintro _ m17 ⟨rfl, H18⟩
        show X 236 88 [(1, 597), (0, a1), (0, m9 602 580), ua3] [] m17 _
        refine x_go (tgt := 101) (cod_236 rfl) (by decide) ?_
        refine x_retV (cod_236 rfl) rfl ?_
        exact H18
    · have H8 := H6.1 (Classical.not_not.mp h)
      refine x_retV (cod_236 rfl) rfl ?_
      exact H8
  · have H4 := H2.1 (Classical.not_not.mp h)
    refine x_s (q := (.aload_n 0, 0, 0, 0)) (cod_236 rfl) rfl rfl rfl ?_
    refine x_s (q := (.iload_n 1, 0, 0, 0)) (cod_236 rfl) rfl rfl rfl ?_
    refine x_s (q := (.iload_n 2, 0, 0, 0)) (cod_236 rfl) rfl rfl rfl ?_
    refine x_call (as := [(1, 597), (0, a1), (0, a2)]) (rest := []) (cod_236 rfl) rfl rfl (by decide) (by decide) rfl rfl (Nat.le_of_ble_eq_true rfl) (rcv0 sq_l_597_0 sq_p_597 (by decide)) (Nat.le_of_ble_eq_true rfl) ?_
    refine X.imp H4 ?_
    rintro _ m19 ⟨v21, rfl, H20⟩
    show X 236 23 [(1, 597), (0, a1), (0, a2), ua3] [(0, v21)] m19 _
    refine x_s (q := (.istore_n 3, 0, 0, 0)) (cod_236 rfl) rfl rfl rfl ?_
    refine x_s (q := (.iload_n 3, 0, 0, 0)) (cod_236 rfl) rfl rfl rfl ?_
    refine x_if (p := v21 < 0) (tgt := 35) (cod_236 rfl) (by decide) xj_lt (fun h => ?_) (fun h => ?_)
    · have H22 := H20.1 h
      refine x_s (q := (.iinc 2 1, 0, 0, 0)) (cod_236 rfl) rfl rfl rfl ?_
      refine x_go (tgt := 9) (cod_236 rfl) (by decide) ?_
      exact H22
    · have H23 := H20.2 h
      refine x_s (q := (.aload_n 0, 0, 0, 0)) (cod_236 rfl) rfl rfl rfl ?_
      refine x_s (q := (.iload_n 1, 0, 0, 0)) (cod_236 rfl) rfl rfl rfl ?_
      refine x_s (q := (.iload_n 2, 0, 0, 0)) (cod_236 rfl) rfl rfl rfl ?_
      refine x_s (q := (.iload_n 3, 0, 0, 0)) (cod_236 rfl) rfl rfl rfl ?_
      refine x_call (as := [(1, 597), (0, a1), (0, a2), (0, v21)]) (rest := []) (cod_236 rfl) rfl rfl (by decide) (by decide) rfl rfl (Nat.le_of_ble_eq_true rfl) (rcv0 sq_l_597_0 sq_p_597 (by decide)) (Nat.le_of_ble_eq_true rfl) ?_
      refine X.imp H23 ?_
      rintro _ m24 ⟨rfl, H25⟩
      show X 236 35 [(1, 597), (0, a1), (0, a2), (0, v21)] [] m24 _
      refine x_s (q := (.iinc 2 1, 0, 0, 0)) (cod_236 rfl) rfl rfl rfl ?_
      refine x_go (tgt := 9) (cod_236 rfl) (by decide) ?_
      exact H25
set_option maxRecDepth 100000 in
theorem w237_0 {m : Mm} {K : Mm → Prop} (a1 : Int) (a2 : Int) (a3 : Int) 
  (H : (0 ≤ a1 ∧ a1 < 10) ∧ (0 ≤ (wr ((wr (24 * a1)) + (m 615 a1))) ∧ (wr ((wr (24 * a1)) + (m 615 a1))) < 240) ∧ ∀ m5, m5 = umem m 613 (wr ((wr (24 * a1)) + (m 615 a1))) a2 → (0 ≤ (wr ((wr (24 * a1)) + (m5 615 a1))) ∧ (wr ((wr (24 * a1)) + (m5 615 a1))) < 240) ∧ ∀ m9, m9 = umem m5 614 (wr ((wr (24 * a1)) + (m5 615 a1))) a3 → ∀ m11, m11 = umem m9 615 a1 (wr ((m9 615 a1) + 1)) → K m11) : X 237 0 [(1, 597), (0, a1), (0, a2), (0, a3)] [] m (qV K) := by
  refine x_s (q := (.aload_n 0, 0, 0, 0)) (cod_237 rfl) rfl rfl rfl ?_
  refine x_gc (kk := 35) (c := 613) (t := 1) (cod_237 rfl) sq_p_597 sq_l_597_35 rfl rfl ?_
  refine x_s (q := (.bipush 24, 0, 0, 0)) (cod_237 rfl) rfl rfl rfl ?_
  refine x_s (q := (.iload_n 1, 0, 0, 0)) (cod_237 rfl) rfl rfl rfl ?_
  refine x_s (q := (.imul, 0, 0, 0)) (cod_237 rfl) rfl rfl rfl ?_
  refine x_s (q := (.aload_n 0, 0, 0, 0)) (cod_237 rfl) rfl rfl rfl ?_
  refine x_gc (kk := 37) (c := 615) (t := 1) (cod_237 rfl) sq_p_597 sq_l_597_37 rfl rfl ?_
  refine x_s (q := (.iload_n 1, 0, 0, 0)) (cod_237 rfl) rfl rfl rfl ?_
  obtain ⟨c1, H2⟩ := H
  refine x_iald (cod_237 rfl) sq_a_615.s (sq_a_615.k c1.1 c1.2) ?_
  refine x_s (q := (.iadd, 0, 0, 0)) (cod_237 rfl) rfl rfl rfl ?_
  refine x_s (q := (.iload_n 2, 0, 0, 0)) (cod_237 rfl) rfl rfl rfl ?_
  obtain ⟨c3, H4⟩ := H2
  refine x_iast (cod_237 rfl) sq_a_613.s (sq_a_613.k c3.1 c3.2) ?_
  have H6 := H4 _ rfl
  generalize umem m 613 (wr ((wr (24 * a1)) + (m 615 a1))) a2 = m5 at H6 ⊢
  refine x_s (q := (.aload_n 0, 0, 0, 0)) (cod_237 rfl) rfl rfl rfl ?_
  refine x_gc (kk := 36) (c := 614) (t := 1) (cod_237 rfl) sq_p_597 sq_l_597_36 rfl rfl ?_
  refine x_s (q := (.bipush 24, 0, 0, 0)) (cod_237 rfl) rfl rfl rfl ?_
  refine x_s (q := (.iload_n 1, 0, 0, 0)) (cod_237 rfl) rfl rfl rfl ?_
  refine x_s (q := (.imul, 0, 0, 0)) (cod_237 rfl) rfl rfl rfl ?_
  refine x_s (q := (.aload_n 0, 0, 0, 0)) (cod_237 rfl) rfl rfl rfl ?_
  refine x_gc (kk := 37) (c := 615) (t := 1) (cod_237 rfl) sq_p_597 sq_l_597_37 rfl rfl ?_
  refine x_s (q := (.iload_n 1, 0, 0, 0)) (cod_237 rfl) rfl rfl rfl ?_
  refine x_iald (cod_237 rfl) sq_a_615.s (sq_a_615.k c1.1 c1.2) ?_
  refine x_s (q := (.iadd, 0, 0, 0)) (cod_237 rfl) rfl rfl rfl ?_
  refine x_s (q := (.iload_n 3, 0, 0, 0)) (cod_237 rfl) rfl rfl rfl ?_
  obtain ⟨c7, H8⟩ := H6
  refine x_iast (cod_237 rfl) sq_a_614.s (sq_a_614.k c7.1 c7.2) ?_
  have H10 := H8 _ rfl
  generalize umem m5 614 (wr ((wr (24 * a1)) + (m5 615 a1))) a3 = m9 at H10 ⊢
  refine x_s (q := (.aload_n 0, 0, 0, 0)) (cod_237 rfl) rfl rfl rfl ?_
  refine x_gc (kk := 37) (c := 615) (t := 1) (cod_237 rfl) sq_p_597 sq_l_597_37 rfl rfl ?_
  refine x_s (q := (.iload_n 1, 0, 0, 0)) (cod_237 rfl) rfl rfl rfl ?_
  refine x_s (q := (.dup2, 0, 0, 0)) (cod_237 rfl) rfl rfl rfl ?_
  refine x_iald (cod_237 rfl) sq_a_615.s (sq_a_615.k c1.1 c1.2) ?_
  refine x_s (q := (.iconst 1, 0, 0, 0)) (cod_237 rfl) rfl rfl rfl ?_
  refine x_s (q := (.iadd, 0, 0, 0)) (cod_237 rfl) rfl rfl rfl ?_
  refine x_iast (cod_237 rfl) sq_a_615.s (sq_a_615.k c1.1 c1.2) ?_
  have H12 := H10 _ rfl
  generalize umem m9 615 a1 (wr ((m9 615 a1) + 1)) = m11 at H12 ⊢
  refine x_retV (cod_237 rfl) rfl ?_
  exact H12
theorem e237 {m : Mm} {K : Mm → Prop} (a1 : Int) (a2 : Int) (a3 : Int) 
  (H : (0 ≤ a1 ∧ a1 < 10) ∧ (0 ≤ (wr ((wr (24 * a1)) + (m 615 a1))) ∧ (wr ((wr (24 * a1)) + (m 615 a1))) < 240) ∧ ∀ m5, m5 = umem m 613 (wr ((wr (24 * a1)) + (m 615 a1))) a2 → (0 ≤ (wr ((wr (24 * a1)) + (m5 615 a1))) ∧ (wr ((wr (24 * a1)) + (m5 615 a1))) < 240) ∧ ∀ m9, m9 = umem m5 614 (wr ((wr (24 * a1)) + (m5 615 a1))) a3 → ∀ m11, m11 = umem m9 615 a1 (wr ((m9 615 a1) + 1)) → K m11) : TrV 237 [(1, 597), (0, a1), (0, a2), (0, a3)] m K := by
  exact w237_0 a1 a2 a3 H
set_option maxRecDepth 100000 in
theorem w238_0 {m : Mm} {K : Int → Mm → Prop} (a1 : Int) (a2 : Int) (a3 : Int) 
  (H : ∀ m1, m1 = umem m 597 0 0 → ((0 ≤ a1 ∧ a1 ≤ (wr ((m1 597 23) - 1))) → ((0 ≤ a3 ∧ a3 ≤ 2) → TrV 236 [(1, 597), (0, a1)] m1 fun m7 => (0 ≤ a1 ∧ a1 < 10) ∧ ((0 ≤ a2 ∧ a2 ≤ (wr ((m7 615 a1) - 1))) → (a3 < 2 → (a3 = 0 → (0 ≤ (wr ((wr (24 * a1)) + a2)) ∧ (wr ((wr (24 * a1)) + a2)) < 240) ∧ K (m7 613 (wr ((wr (24 * a1)) + a2))) m7) ∧ (¬ a3 = 0 → (0 ≤ (wr ((wr (24 * a1)) + a2)) ∧ (wr ((wr (24 * a1)) + a2)) < 240) ∧ K (m7 614 (wr ((wr (24 * a1)) + a2))) m7)) ∧ (¬ a3 < 2 → (0 ≤ (wr ((wr (24 * a1)) + a2)) ∧ (wr ((wr (24 * a1)) + a2)) < 240) ∧ TrV 239 [(1, 597), (0, a1), (0, m7 613 (wr ((wr (24 * a1)) + a2)))] m7 fun m17 => K (m17 597 31) m17)) ∧ (¬ (0 ≤ a2 ∧ a2 ≤ (wr ((m7 615 a1) - 1))) → K (-9) m7)) ∧ (¬ (0 ≤ a3 ∧ a3 ≤ 2) → K (-9) m1)) ∧ (¬ (0 ≤ a1 ∧ a1 ≤ (wr ((m1 597 23) - 1))) → K (-9) m1)) : X 238 0 [(1, 597), (0, a1), (0, a2), (0, a3)] [] m (qI K) := by
  refine x_s (q := (.aload_n 0, 0, 0, 0)) (cod_238 rfl) rfl rfl rfl ?_
  refine x_s (q := (.iconst 0, 0, 0, 0)) (cod_238 rfl) rfl rfl rfl ?_
  refine x_pf (kk := 0) (t := 0) (cod_238 rfl) sq_p_597 sq_l_597_0 rfl rfl rfl ?_
  have H2 := H _ rfl
  generalize umem m 597 0 0 = m1 at H2 ⊢
  refine x_s (q := (.aload_n 0, 0, 0, 0)) (cod_238 rfl) rfl rfl rfl ?_
  refine x_s (q := (.iload_n 1, 0, 0, 0)) (cod_238 rfl) rfl rfl rfl ?_
  refine x_call (as := [(1, 597), (0, a1)]) (rest := []) (cod_238 rfl) rfl rfl (by decide) (by decide) rfl rfl (Nat.le_of_ble_eq_true rfl) (rcv0 sq_l_597_0 sq_p_597 (by decide)) (Nat.le_of_ble_eq_true rfl) ?_
  show X 210 0 [(1, 597), (0, a1)] [] m1 _
  refine x_s (q := (.iload_n 1, 0, 0, 0)) (cod_210 rfl) rfl rfl rfl ?_
  refine x_s (q := (.iconst 0, 0, 0, 0)) (cod_210 rfl) rfl rfl rfl ?_
  refine x_s (q := (.aload_n 0, 0, 0, 0)) (cod_210 rfl) rfl rfl rfl ?_
  refine x_gf (kk := 23) (t := 0) (cod_210 rfl) sq_p_597 sq_l_597_23 rfl rfl ?_
  refine x_s (q := (.iconst 1, 0, 0, 0)) (cod_210 rfl) rfl rfl rfl ?_
  refine x_s (q := (.isub, 0, 0, 0)) (cod_210 rfl) rfl rfl rfl ?_
  refine x_call (as := [(0, a1), (0, 0), (0, wr ((m1 597 23) - 1))]) (rest := []) (cod_210 rfl) rfl rfl (by decide) (by decide) rfl rfl (Nat.le_of_ble_eq_true rfl) rfl (Nat.le_of_ble_eq_true rfl) ?_
  refine x_pure (p172) ?_
  show X 210 11 [(1, 597), (0, a1)] [(0, bi (0 ≤ a1 ∧ a1 ≤ (wr ((m1 597 23) - 1))))] m1 _
  refine x_rI (t := .boolean) (cod_210 rfl) rfl rfl (bok_b (bi_01 _)) ?_
  show X 238 10 [(1, 597), (0, a1), (0, a2), (0, a3)] [(0, bi (0 ≤ a1 ∧ a1 ≤ (wr ((m1 597 23) - 1))))] m1 _
  refine x_if (p := ¬ (0 ≤ a1 ∧ a1 ≤ (wr ((m1 597 23) - 1)))) (tgt := 22) (cod_238 rfl) (by decide) xb_eq (fun h => ?_) (fun h => ?_)
  · have H3 := H2.2 h
    refine x_s (q := (.bipush (-9), 0, 0, 0)) (cod_238 rfl) rfl rfl rfl ?_
    refine x_retI (t := .int) (cod_238 rfl) rfl rfl rfl ?_
    exact H3
  · have H4 := H2.1 (Classical.not_not.mp h)
    refine x_s (q := (.iload_n 3, 0, 0, 0)) (cod_238 rfl) rfl rfl rfl ?_
    refine x_s (q := (.iconst 0, 0, 0, 0)) (cod_238 rfl) rfl rfl rfl ?_
    refine x_s (q := (.iconst 2, 0, 0, 0)) (cod_238 rfl) rfl rfl rfl ?_
    refine x_call (as := [(0, a3), (0, 0), (0, 2)]) (rest := []) (cod_238 rfl) rfl rfl (by decide) (by decide) rfl rfl (Nat.le_of_ble_eq_true rfl) rfl (Nat.le_of_ble_eq_true rfl) ?_
    refine x_pure (p172) ?_
    show X 238 19 [(1, 597), (0, a1), (0, a2), (0, a3)] [(0, bi (0 ≤ a3 ∧ a3 ≤ 2))] m1 _
    refine x_if (p := 0 ≤ a3 ∧ a3 ≤ 2) (tgt := 25) (cod_238 rfl) (by decide) xb_ne (fun h => ?_) (fun h => ?_)
    · have H5 := H4.1 h
      refine x_s (q := (.aload_n 0, 0, 0, 0)) (cod_238 rfl) rfl rfl rfl ?_
      refine x_s (q := (.iload_n 1, 0, 0, 0)) (cod_238 rfl) rfl rfl rfl ?_
      refine x_call (as := [(1, 597), (0, a1)]) (rest := []) (cod_238 rfl) rfl rfl (by decide) (by decide) rfl rfl (Nat.le_of_ble_eq_true rfl) (rcv0 sq_l_597_0 sq_p_597 (by decide)) (Nat.le_of_ble_eq_true rfl) ?_
      refine X.imp H5 ?_
      rintro _ m7 ⟨rfl, H8⟩
      show X 238 30 [(1, 597), (0, a1), (0, a2), (0, a3)] [] m7 _
      refine x_s (q := (.iload_n 2, 0, 0, 0)) (cod_238 rfl) rfl rfl rfl ?_
      refine x_s (q := (.iconst 0, 0, 0, 0)) (cod_238 rfl) rfl rfl rfl ?_
      refine x_s (q := (.aload_n 0, 0, 0, 0)) (cod_238 rfl) rfl rfl rfl ?_
      refine x_gc (kk := 37) (c := 615) (t := 1) (cod_238 rfl) sq_p_597 sq_l_597_37 rfl rfl ?_
      refine x_s (q := (.iload_n 1, 0, 0, 0)) (cod_238 rfl) rfl rfl rfl ?_
      obtain ⟨c9, H10⟩ := H8
      refine x_iald (cod_238 rfl) sq_a_615.s (sq_a_615.k c9.1 c9.2) ?_
      refine x_s (q := (.iconst 1, 0, 0, 0)) (cod_238 rfl) rfl rfl rfl ?_
      refine x_s (q := (.isub, 0, 0, 0)) (cod_238 rfl) rfl rfl rfl ?_
      refine x_call (as := [(0, a2), (0, 0), (0, wr ((m7 615 a1) - 1))]) (rest := []) (cod_238 rfl) rfl rfl (by decide) (by decide) rfl rfl (Nat.le_of_ble_eq_true rfl) rfl (Nat.le_of_ble_eq_true rfl) ?_
      refine x_pure (p172) ?_
      show X 238 43 [(1, 597), (0, a1), (0, a2), (0, a3)] [(0, bi (0 ≤ a2 ∧ a2 ≤ (wr ((m7 615 a1) - 1))))] m7 _
      refine x_if (p := 0 ≤ a2 ∧ a2 ≤ (wr ((m7 615 a1) - 1))) (tgt := 49) (cod_238 rfl) (by decide) xb_ne (fun h => ?_) (fun h => ?_)
      · have H11 := H10.1 h
        refine x_s (q := (.iload_n 3, 0, 0, 0)) (cod_238 rfl) rfl rfl rfl ?_
        refine x_s (q := (.iconst 2, 0, 0, 0)) (cod_238 rfl) rfl rfl rfl ?_
        refine x_ic (p := ¬ a3 < 2) (tgt := 84) (cod_238 rfl) (by decide) xn_ge (fun h => ?_) (fun h => ?_)
        · have H13 := H11.2 h
          refine x_s (q := (.aload_n 0, 0, 0, 0)) (cod_238 rfl) rfl rfl rfl ?_
          refine x_s (q := (.iload_n 1, 0, 0, 0)) (cod_238 rfl) rfl rfl rfl ?_
          refine x_s (q := (.aload_n 0, 0, 0, 0)) (cod_238 rfl) rfl rfl rfl ?_
          refine x_gc (kk := 35) (c := 613) (t := 1) (cod_238 rfl) sq_p_597 sq_l_597_35 rfl rfl ?_
          refine x_s (q := (.bipush 24, 0, 0, 0)) (cod_238 rfl) rfl rfl rfl ?_
          refine x_s (q := (.iload_n 1, 0, 0, 0)) (cod_238 rfl) rfl rfl rfl ?_
          refine x_s (q := (.imul, 0, 0, 0)) (cod_238 rfl) rfl rfl rfl ?_
          refine x_s (q := (.iload_n 2, 0, 0, 0)) (cod_238 rfl) rfl rfl rfl ?_
          refine x_s (q := (.iadd, 0, 0, 0)) (cod_238 rfl) rfl rfl rfl ?_
          obtain ⟨c15, H16⟩ := H13
          refine x_iald (cod_238 rfl) sq_a_613.s (sq_a_613.k c15.1 c15.2) ?_
          refine x_call (as := [(1, 597), (0, a1), (0, m7 613 (wr ((wr (24 * a1)) + a2)))]) (rest := []) (cod_238 rfl) rfl rfl (by decide) (by decide) rfl rfl (Nat.le_of_ble_eq_true rfl) (rcv0 sq_l_597_0 sq_p_597 (by decide)) (Nat.le_of_ble_eq_true rfl) ?_
          refine X.imp H16 ?_
          rintro _ m17 ⟨rfl, H18⟩
          show X 238 100 [(1, 597), (0, a1), (0, a2), (0, a3)] [] m17 _
          refine x_s (q := (.aload_n 0, 0, 0, 0)) (cod_238 rfl) rfl rfl rfl ?_
          refine x_gf (kk := 31) (t := 0) (cod_238 rfl) sq_p_597 sq_l_597_31 rfl rfl ?_
          refine x_retI (t := .int) (cod_238 rfl) rfl rfl rfl ?_
          exact H18
        · have H14 := H11.1 (Classical.not_not.mp h)
          refine x_s (q := (.iload_n 3, 0, 0, 0)) (cod_238 rfl) rfl rfl rfl ?_
          refine x_if (p := ¬ a3 = 0) (tgt := 72) (cod_238 rfl) (by decide) xj_ne (fun h => ?_) (fun h => ?_)
          · have H19 := H14.2 h
            refine x_s (q := (.aload_n 0, 0, 0, 0)) (cod_238 rfl) rfl rfl rfl ?_
            refine x_gc (kk := 36) (c := 614) (t := 1) (cod_238 rfl) sq_p_597 sq_l_597_36 rfl rfl ?_
            refine x_s (q := (.bipush 24, 0, 0, 0)) (cod_238 rfl) rfl rfl rfl ?_
            refine x_s (q := (.iload_n 1, 0, 0, 0)) (cod_238 rfl) rfl rfl rfl ?_
            refine x_s (q := (.imul, 0, 0, 0)) (cod_238 rfl) rfl rfl rfl ?_
            refine x_s (q := (.iload_n 2, 0, 0, 0)) (cod_238 rfl) rfl rfl rfl ?_
            refine x_s (q := (.iadd, 0, 0, 0)) (cod_238 rfl) rfl rfl rfl ?_
            obtain ⟨c21, H22⟩ := H19
            refine x_iald (cod_238 rfl) sq_a_614.s (sq_a_614.k c21.1 c21.2) ?_
            refine x_retI (t := .int) (cod_238 rfl) rfl rfl rfl ?_
            exact H22
          · have H20 := H14.1 (Classical.not_not.mp h)
            refine x_s (q := (.aload_n 0, 0, 0, 0)) (cod_238 rfl) rfl rfl rfl ?_
            refine x_gc (kk := 35) (c := 613) (t := 1) (cod_238 rfl) sq_p_597 sq_l_597_35 rfl rfl ?_
            refine x_s (q := (.bipush 24, 0, 0, 0)) (cod_238 rfl) rfl rfl rfl ?_
            refine x_s (q := (.iload_n 1, 0, 0, 0)) (cod_238 rfl) rfl rfl rfl ?_
            refine x_s (q := (.imul, 0, 0, 0)) (cod_238 rfl) rfl rfl rfl ?_
            refine x_s (q := (.iload_n 2, 0, 0, 0)) (cod_238 rfl) rfl rfl rfl ?_
            refine x_s (q := (.iadd, 0, 0, 0)) (cod_238 rfl) rfl rfl rfl ?_
            obtain ⟨c23, H24⟩ := H20
            refine x_iald (cod_238 rfl) sq_a_613.s (sq_a_613.k c23.1 c23.2) ?_
            refine x_go (tgt := 83) (cod_238 rfl) (by decide) ?_
            refine x_retI (t := .int) (cod_238 rfl) rfl rfl rfl ?_
            exact H24
      · have H12 := H10.2 h
        refine x_s (q := (.bipush (-9), 0, 0, 0)) (cod_238 rfl) rfl rfl rfl ?_
        refine x_retI (t := .int) (cod_238 rfl) rfl rfl rfl ?_
        exact H12
    · have H6 := H4.2 h
      refine x_s (q := (.bipush (-9), 0, 0, 0)) (cod_238 rfl) rfl rfl rfl ?_
      refine x_retI (t := .int) (cod_238 rfl) rfl rfl rfl ?_
      exact H6
theorem e238 {m : Mm} {K : Int → Mm → Prop} (a1 : Int) (a2 : Int) (a3 : Int) 
  (H : ∀ m1, m1 = umem m 597 0 0 → ((0 ≤ a1 ∧ a1 ≤ (wr ((m1 597 23) - 1))) → ((0 ≤ a3 ∧ a3 ≤ 2) → TrV 236 [(1, 597), (0, a1)] m1 fun m7 => (0 ≤ a1 ∧ a1 < 10) ∧ ((0 ≤ a2 ∧ a2 ≤ (wr ((m7 615 a1) - 1))) → (a3 < 2 → (a3 = 0 → (0 ≤ (wr ((wr (24 * a1)) + a2)) ∧ (wr ((wr (24 * a1)) + a2)) < 240) ∧ K (m7 613 (wr ((wr (24 * a1)) + a2))) m7) ∧ (¬ a3 = 0 → (0 ≤ (wr ((wr (24 * a1)) + a2)) ∧ (wr ((wr (24 * a1)) + a2)) < 240) ∧ K (m7 614 (wr ((wr (24 * a1)) + a2))) m7)) ∧ (¬ a3 < 2 → (0 ≤ (wr ((wr (24 * a1)) + a2)) ∧ (wr ((wr (24 * a1)) + a2)) < 240) ∧ TrV 239 [(1, 597), (0, a1), (0, m7 613 (wr ((wr (24 * a1)) + a2)))] m7 fun m17 => K (m17 597 31) m17)) ∧ (¬ (0 ≤ a2 ∧ a2 ≤ (wr ((m7 615 a1) - 1))) → K (-9) m7)) ∧ (¬ (0 ≤ a3 ∧ a3 ≤ 2) → K (-9) m1)) ∧ (¬ (0 ≤ a1 ∧ a1 ≤ (wr ((m1 597 23) - 1))) → K (-9) m1)) : TrI 238 [(1, 597), (0, a1), (0, a2), (0, a3)] m K := by
  exact w238_0 a1 a2 a3 H
set_option maxRecDepth 100000 in
theorem w239_0 {m : Mm} {K : Mm → Prop} (a1 : Int) (a2 : Int) 
  (H : ∀ m1, m1 = umem m 597 31 0 → ∀ m3, m3 = umem m1 597 33 0 → (a2 < 0 → (a2 = (-2) → TrI 223 [(1, 597), (0, a1)] m3 fun v11 m9 => K m9) ∧ (¬ a2 = (-2) → K m3)) ∧ (¬ a2 < 0 → TrI 233 [(1, 597), (0, a1), (0, a2)] m3 fun v14 m12 => K m12)) : X 239 0 [(1, 597), (0, a1), (0, a2)] [] m (qV K) := by
  refine x_s (q := (.aload_n 0, 0, 0, 0)) (cod_239 rfl) rfl rfl rfl ?_
  refine x_s (q := (.iconst 0, 0, 0, 0)) (cod_239 rfl) rfl rfl rfl ?_
  refine x_pf (kk := 31) (t := 0) (cod_239 rfl) sq_p_597 sq_l_597_31 rfl rfl rfl ?_
  have H2 := H _ rfl
  generalize umem m 597 31 0 = m1 at H2 ⊢
  refine x_s (q := (.aload_n 0, 0, 0, 0)) (cod_239 rfl) rfl rfl rfl ?_
  refine x_s (q := (.iconst 0, 0, 0, 0)) (cod_239 rfl) rfl rfl rfl ?_
  refine x_pf (kk := 33) (t := 0) (cod_239 rfl) sq_p_597 sq_l_597_33 rfl rfl rfl ?_
  have H4 := H2 _ rfl
  generalize umem m1 597 33 0 = m3 at H4 ⊢
  refine x_s (q := (.iload_n 2, 0, 0, 0)) (cod_239 rfl) rfl rfl rfl ?_
  refine x_if (p := a2 < 0) (tgt := 24) (cod_239 rfl) (by decide) xj_lt (fun h => ?_) (fun h => ?_)
  · have H5 := H4.1 h
    refine x_s (q := (.iload_n 2, 0, 0, 0)) (cod_239 rfl) rfl rfl rfl ?_
    refine x_s (q := (.bipush (-2), 0, 0, 0)) (cod_239 rfl) rfl rfl rfl ?_
    refine x_ic (p := ¬ a2 = (-2)) (tgt := 36) (cod_239 rfl) (by decide) xj_ne (fun h => ?_) (fun h => ?_)
    · have H7 := H5.2 h
      refine x_retV (cod_239 rfl) rfl ?_
      exact H7
    · have H8 := H5.1 (Classical.not_not.mp h)
      refine x_s (q := (.aload_n 0, 0, 0, 0)) (cod_239 rfl) rfl rfl rfl ?_
      refine x_s (q := (.iload_n 1, 0, 0, 0)) (cod_239 rfl) rfl rfl rfl ?_
      refine x_call (as := [(1, 597), (0, a1)]) (rest := []) (cod_239 rfl) rfl rfl (by decide) (by decide) rfl rfl (Nat.le_of_ble_eq_true rfl) (rcv0 sq_l_597_0 sq_p_597 (by decide)) (Nat.le_of_ble_eq_true rfl) ?_
      refine X.imp H8 ?_
      rintro _ m9 ⟨v11, rfl, H10⟩
      show X 239 35 [(1, 597), (0, a1), (0, a2)] [(0, v11)] m9 _
      refine x_s (q := (.pop, 0, 0, 0)) (cod_239 rfl) rfl rfl rfl ?_
      refine x_retV (cod_239 rfl) rfl ?_
      exact H10
  · have H6 := H4.2 h
    refine x_s (q := (.aload_n 0, 0, 0, 0)) (cod_239 rfl) rfl rfl rfl ?_
    refine x_s (q := (.iload_n 1, 0, 0, 0)) (cod_239 rfl) rfl rfl rfl ?_
    refine x_s (q := (.iload_n 2, 0, 0, 0)) (cod_239 rfl) rfl rfl rfl ?_
    refine x_call (as := [(1, 597), (0, a1), (0, a2)]) (rest := []) (cod_239 rfl) rfl rfl (by decide) (by decide) rfl rfl (Nat.le_of_ble_eq_true rfl) (rcv0 sq_l_597_0 sq_p_597 (by decide)) (Nat.le_of_ble_eq_true rfl) ?_
    refine X.imp H6 ?_
    rintro _ m12 ⟨v14, rfl, H13⟩
    show X 239 20 [(1, 597), (0, a1), (0, a2)] [(0, v14)] m12 _
    refine x_s (q := (.pop, 0, 0, 0)) (cod_239 rfl) rfl rfl rfl ?_
    refine x_go (tgt := 36) (cod_239 rfl) (by decide) ?_
    refine x_retV (cod_239 rfl) rfl ?_
    exact H13
theorem e239 {m : Mm} {K : Mm → Prop} (a1 : Int) (a2 : Int) 
  (H : ∀ m1, m1 = umem m 597 31 0 → ∀ m3, m3 = umem m1 597 33 0 → (a2 < 0 → (a2 = (-2) → TrI 223 [(1, 597), (0, a1)] m3 fun v11 m9 => K m9) ∧ (¬ a2 = (-2) → K m3)) ∧ (¬ a2 < 0 → TrI 233 [(1, 597), (0, a1), (0, a2)] m3 fun v14 m12 => K m12)) : TrV 239 [(1, 597), (0, a1), (0, a2)] m K := by
  exact w239_0 a1 a2 H
set_option maxRecDepth 100000 in
theorem w240_0 {m : Mm} {K : Int → Mm → Prop}  
  (H : ∀ m1, m1 = umem m 597 0 0 → TrV 241 [(1, 597)] m1 fun m3 => TrI 242 [(1, 597)] m3 fun v7 m5 => K v7 m5) : X 240 0 [(1, 597)] [] m (qI K) := by
  refine x_s (q := (.aload_n 0, 0, 0, 0)) (cod_240 rfl) rfl rfl rfl ?_
  refine x_s (q := (.iconst 0, 0, 0, 0)) (cod_240 rfl) rfl rfl rfl ?_
  refine x_pf (kk := 0) (t := 0) (cod_240 rfl) sq_p_597 sq_l_597_0 rfl rfl rfl ?_
  have H2 := H _ rfl
  generalize umem m 597 0 0 = m1 at H2 ⊢
  refine x_s (q := (.aload_n 0, 0, 0, 0)) (cod_240 rfl) rfl rfl rfl ?_
  refine x_call (as := [(1, 597)]) (rest := []) (cod_240 rfl) rfl rfl (by decide) (by decide) rfl rfl (Nat.le_of_ble_eq_true rfl) (rcv0 sq_l_597_0 sq_p_597 (by decide)) (Nat.le_of_ble_eq_true rfl) ?_
  refine X.imp H2 ?_
  rintro _ m3 ⟨rfl, H4⟩
  show X 240 9 [(1, 597)] [] m3 _
  refine x_s (q := (.aload_n 0, 0, 0, 0)) (cod_240 rfl) rfl rfl rfl ?_
  refine x_call (as := [(1, 597)]) (rest := []) (cod_240 rfl) rfl rfl (by decide) (by decide) rfl rfl (Nat.le_of_ble_eq_true rfl) (rcv0 sq_l_597_0 sq_p_597 (by decide)) (Nat.le_of_ble_eq_true rfl) ?_
  refine X.imp H4 ?_
  rintro _ m5 ⟨v7, rfl, H6⟩
  show X 240 13 [(1, 597)] [(0, v7)] m5 _
  refine x_retI (t := .int) (cod_240 rfl) rfl rfl rfl ?_
  exact H6
theorem e240 {m : Mm} {K : Int → Mm → Prop}  
  (H : ∀ m1, m1 = umem m 597 0 0 → TrV 241 [(1, 597)] m1 fun m3 => TrI 242 [(1, 597)] m3 fun v7 m5 => K v7 m5) : TrI 240 [(1, 597)] m K := by
  exact w240_0  H
set_option maxRecDepth 100000 in
theorem w241_0 {m : Mm} {K : Mm → Prop}  
  (H : X 241 2 [(1, 597), (0, 0)] [] m (qV K)) : X 241 0 [(1, 597), (9, 0)] [] m (qV K) := by
  refine x_s (q := (.iconst 0, 0, 0, 0)) (cod_241 rfl) rfl rfl rfl ?_
  refine x_s (q := (.istore_n 1, 0, 0, 0)) (cod_241 rfl) rfl rfl rfl ?_
  exact H
theorem e241 {m : Mm} {K : Mm → Prop}  
  (H : X 241 2 [(1, 597), (0, 0)] [] m (qV K)) : TrV 241 [(1, 597)] m K := by
  exact w241_0  H
set_option maxRecDepth 100000 in
theorem w241_2 {m : Mm} {K : Mm → Prop} (a1 : Int) 
  (H : (a1 < (m 597 23) → TrV 236 [(1, 597), (0, a1)] m fun m3 => X 241 2 [(1, 597), (0, wr (a1 + 1))] [] m3 (qV K)) ∧ (¬ a1 < (m 597 23) → K m)) : X 241 2 [(1, 597), (0, a1)] [] m (qV K) := by
  refine x_s (q := (.iload_n 1, 0, 0, 0)) (cod_241 rfl) rfl rfl rfl ?_
  refine x_s (q := (.aload_n 0, 0, 0, 0)) (cod_241 rfl) rfl rfl rfl ?_
  refine x_gf (kk := 23) (t := 0) (cod_241 rfl) sq_p_597 sq_l_597_23 rfl rfl ?_
  refine x_ic (p := ¬ a1 < (m 597 23)) (tgt := 21) (cod_241 rfl) (by decide) xn_ge (fun h => ?_) (fun h => ?_)
  · have H1 := H.2 h
    refine x_retV (cod_241 rfl) rfl ?_
    exact H1
  · have H2 := H.1 (Classical.not_not.mp h)
    refine x_s (q := (.aload_n 0, 0, 0, 0)) (cod_241 rfl) rfl rfl rfl ?_
    refine x_s (q := (.iload_n 1, 0, 0, 0)) (cod_241 rfl) rfl rfl rfl ?_
    refine x_call (as := [(1, 597), (0, a1)]) (rest := []) (cod_241 rfl) rfl rfl (by decide) (by decide) rfl rfl (Nat.le_of_ble_eq_true rfl) (rcv0 sq_l_597_0 sq_p_597 (by decide)) (Nat.le_of_ble_eq_true rfl) ?_
    refine X.imp H2 ?_
    rintro _ m3 ⟨rfl, H4⟩
    show X 241 15 [(1, 597), (0, a1)] [] m3 _
    refine x_s (q := (.iinc 1 1, 0, 0, 0)) (cod_241 rfl) rfl rfl rfl ?_
    refine x_go (tgt := 2) (cod_241 rfl) (by decide) ?_
    exact H4
set_option maxRecDepth 100000 in
theorem w242_0 {m : Mm} {K : Int → Mm → Prop}  
  (H : X 242 7 [(1, 597), (0, wr ((m 597 23) - 1)), (9, 0)] [] m (qI K)) : X 242 0 [(1, 597), (9, 0), (9, 0)] [] m (qI K) := by
  refine x_s (q := (.aload_n 0, 0, 0, 0)) (cod_242 rfl) rfl rfl rfl ?_
  refine x_gf (kk := 23) (t := 0) (cod_242 rfl) sq_p_597 sq_l_597_23 rfl rfl ?_
  refine x_s (q := (.iconst 1, 0, 0, 0)) (cod_242 rfl) rfl rfl rfl ?_
  refine x_s (q := (.isub, 0, 0, 0)) (cod_242 rfl) rfl rfl rfl ?_
  refine x_s (q := (.istore_n 1, 0, 0, 0)) (cod_242 rfl) rfl rfl rfl ?_
  exact H
theorem e242 {m : Mm} {K : Int → Mm → Prop}  
  (H : X 242 7 [(1, 597), (0, wr ((m 597 23) - 1)), (9, 0)] [] m (qI K)) : TrI 242 [(1, 597)] m K := by
  exact w242_0  H
set_option maxRecDepth 100000 in
theorem w242_7 {m : Mm} {K : Int → Mm → Prop} (a1 : Int) (ua2 : aV) 
  (H : (a1 < 0 → ((m 597 23) = 0 → K 0 m) ∧ (¬ (m 597 23) = 0 → TrI 247 [(1, 597), (0, 0)] m fun v7 m5 => K v7 m5)) ∧ (¬ a1 < 0 → X 242 13 [(1, 597), (0, a1), (0, 0)] [] m (qI K))) : X 242 7 [(1, 597), (0, a1), ua2] [] m (qI K) := by
  refine x_s (q := (.iload_n 1, 0, 0, 0)) (cod_242 rfl) rfl rfl rfl ?_
  refine x_if (p := a1 < 0) (tgt := 41) (cod_242 rfl) (by decide) xj_lt (fun h => ?_) (fun h => ?_)
  · have H1 := H.1 h
    refine x_s (q := (.aload_n 0, 0, 0, 0)) (cod_242 rfl) rfl rfl rfl ?_
    refine x_gf (kk := 23) (t := 0) (cod_242 rfl) sq_p_597 sq_l_597_23 rfl rfl ?_
    refine x_if (p := ¬ (m 597 23) = 0) (tgt := 52) (cod_242 rfl) (by decide) xj_ne (fun h => ?_) (fun h => ?_)
    · have H3 := H1.2 h
      refine x_s (q := (.aload_n 0, 0, 0, 0)) (cod_242 rfl) rfl rfl rfl ?_
      refine x_s (q := (.iconst 0, 0, 0, 0)) (cod_242 rfl) rfl rfl rfl ?_
      refine x_call (as := [(1, 597), (0, 0)]) (rest := []) (cod_242 rfl) rfl rfl (by decide) (by decide) rfl rfl (Nat.le_of_ble_eq_true rfl) (rcv0 sq_l_597_0 sq_p_597 (by decide)) (Nat.le_of_ble_eq_true rfl) ?_
      refine X.imp H3 ?_
      rintro _ m5 ⟨v7, rfl, H6⟩
      show X 242 57 [(1, 597), (0, a1), ua2] [(0, v7)] m5 _
      refine x_retI (t := .int) (cod_242 rfl) rfl rfl rfl ?_
      exact H6
    · have H4 := H1.1 (Classical.not_not.mp h)
      refine x_s (q := (.iconst 0, 0, 0, 0)) (cod_242 rfl) rfl rfl rfl ?_
      refine x_go (tgt := 57) (cod_242 rfl) (by decide) ?_
      refine x_retI (t := .int) (cod_242 rfl) rfl rfl rfl ?_
      exact H4
  · have H2 := H.2 h
    refine x_s (q := (.iconst 0, 0, 0, 0)) (cod_242 rfl) rfl rfl rfl ?_
    refine x_s (q := (.istore_n 2, 0, 0, 0)) (cod_242 rfl) rfl rfl rfl ?_
    exact H2
set_option maxRecDepth 100000 in
theorem w242_13 {m : Mm} {K : Int → Mm → Prop} (a1 : Int) (a2 : Int) 
  (H : (0 ≤ a1 ∧ a1 < 10) ∧ (a2 < (m 615 a1) → TrV 243 [(1, 597), (0, a1), (0, a2)] m fun m5 => X 242 13 [(1, 597), (0, a1), (0, wr (a2 + 1))] [] m5 (qI K)) ∧ (¬ a2 < (m 615 a1) → X 242 7 [(1, 597), (0, wr (a1 + (-1))), (0, a2)] [] m (qI K))) : X 242 13 [(1, 597), (0, a1), (0, a2)] [] m (qI K) := by
  refine x_s (q := (.iload_n 2, 0, 0, 0)) (cod_242 rfl) rfl rfl rfl ?_
  refine x_s (q := (.aload_n 0, 0, 0, 0)) (cod_242 rfl) rfl rfl rfl ?_
  refine x_gc (kk := 37) (c := 615) (t := 1) (cod_242 rfl) sq_p_597 sq_l_597_37 rfl rfl ?_
  refine x_s (q := (.iload_n 1, 0, 0, 0)) (cod_242 rfl) rfl rfl rfl ?_
  obtain ⟨c1, H2⟩ := H
  refine x_iald (cod_242 rfl) sq_a_615.s (sq_a_615.k c1.1 c1.2) ?_
  refine x_ic (p := ¬ a2 < (m 615 a1)) (tgt := 35) (cod_242 rfl) (by decide) xn_ge (fun h => ?_) (fun h => ?_)
  · have H3 := H2.2 h
    refine x_s (q := (.iinc 1 (-1), 0, 0, 0)) (cod_242 rfl) rfl rfl rfl ?_
    refine x_go (tgt := 7) (cod_242 rfl) (by decide) ?_
    exact H3
  · have H4 := H2.1 (Classical.not_not.mp h)
    refine x_s (q := (.aload_n 0, 0, 0, 0)) (cod_242 rfl) rfl rfl rfl ?_
    refine x_s (q := (.iload_n 1, 0, 0, 0)) (cod_242 rfl) rfl rfl rfl ?_
    refine x_s (q := (.iload_n 2, 0, 0, 0)) (cod_242 rfl) rfl rfl rfl ?_
    refine x_call (as := [(1, 597), (0, a1), (0, a2)]) (rest := []) (cod_242 rfl) rfl rfl (by decide) (by decide) rfl rfl (Nat.le_of_ble_eq_true rfl) (rcv0 sq_l_597_0 sq_p_597 (by decide)) (Nat.le_of_ble_eq_true rfl) ?_
    refine X.imp H4 ?_
    rintro _ m5 ⟨rfl, H6⟩
    show X 242 29 [(1, 597), (0, a1), (0, a2)] [] m5 _
    refine x_s (q := (.iinc 2 1, 0, 0, 0)) (cod_242 rfl) rfl rfl rfl ?_
    refine x_go (tgt := 13) (cod_242 rfl) (by decide) ?_
    exact H6
set_option maxRecDepth 100000 in
theorem w243_0 {m : Mm} {K : Mm → Prop} (a1 : Int) (a2 : Int) 
  (H : (0 ≤ (wr ((wr (24 * a1)) + a2)) ∧ (wr ((wr (24 * a1)) + a2)) < 240) ∧ ∀ m3, m3 = umem m 616 (wr ((wr (24 * a1)) + a2)) (-2) → ∀ m5, m5 = umem m3 617 (wr ((wr (24 * a1)) + a2)) 0 → TrI 244 [(1, 597), (0, a1), (0, a2)] m5 fun v9 m7 => (v9 = 0 → K m7) ∧ (¬ v9 = 0 → (a1 = (wr ((m7 597 23) - 1)) → ∀ m14, m14 = umem m7 616 (wr ((wr (24 * a1)) + a2)) (m7 614 (wr ((wr (24 * a1)) + a2))) → ∀ m16, m16 = umem m14 617 (wr ((wr (24 * a1)) + a2)) 1 → K m16) ∧ (¬ a1 = (wr ((m7 597 23) - 1)) → X 243 65 [(1, 597), (0, a1), (0, a2), (0, wr ((wr (24 * a1)) + a2)), (0, 0), (9, 0), (9, 0)] [] m7 (qV K)))) : X 243 0 [(1, 597), (0, a1), (0, a2), (9, 0), (9, 0), (9, 0), (9, 0)] [] m (qV K) := by
  refine x_s (q := (.bipush 24, 0, 0, 0)) (cod_243 rfl) rfl rfl rfl ?_
  refine x_s (q := (.iload_n 1, 0, 0, 0)) (cod_243 rfl) rfl rfl rfl ?_
  refine x_s (q := (.imul, 0, 0, 0)) (cod_243 rfl) rfl rfl rfl ?_
  refine x_s (q := (.iload_n 2, 0, 0, 0)) (cod_243 rfl) rfl rfl rfl ?_
  refine x_s (q := (.iadd, 0, 0, 0)) (cod_243 rfl) rfl rfl rfl ?_
  refine x_s (q := (.istore_n 3, 0, 0, 0)) (cod_243 rfl) rfl rfl rfl ?_
  refine x_s (q := (.aload_n 0, 0, 0, 0)) (cod_243 rfl) rfl rfl rfl ?_
  refine x_gc (kk := 41) (c := 616) (t := 1) (cod_243 rfl) sq_p_597 sq_l_597_41 rfl rfl ?_
  refine x_s (q := (.iload_n 3, 0, 0, 0)) (cod_243 rfl) rfl rfl rfl ?_
  refine x_s (q := (.bipush (-2), 0, 0, 0)) (cod_243 rfl) rfl rfl rfl ?_
  obtain ⟨c1, H2⟩ := H
  refine x_iast (cod_243 rfl) sq_a_616.s (sq_a_616.k c1.1 c1.2) ?_
  have H4 := H2 _ rfl
  generalize umem m 616 (wr ((wr (24 * a1)) + a2)) (-2) = m3 at H4 ⊢
  refine x_s (q := (.aload_n 0, 0, 0, 0)) (cod_243 rfl) rfl rfl rfl ?_
  refine x_gc (kk := 42) (c := 617) (t := 1) (cod_243 rfl) sq_p_597 sq_l_597_42 rfl rfl ?_
  refine x_s (q := (.iload_n 3, 0, 0, 0)) (cod_243 rfl) rfl rfl rfl ?_
  refine x_s (q := (.lconst 0, 0, 0, 0)) (cod_243 rfl) rfl rfl rfl ?_
  show X 243 21 [(1, 597), (0, a1), (0, a2), (0, wr ((wr (24 * a1)) + a2)), (9, 0), (9, 0), (9, 0)] [(2, 0), (0, wr ((wr (24 * a1)) + a2)), (1, 617)] m3 _
  refine x_last (cod_243 rfl) sq_a_617.s (sq_a_617.k c1.1 c1.2) ?_
  have H6 := H4 _ rfl
  generalize umem m3 617 (wr ((wr (24 * a1)) + a2)) 0 = m5 at H6 ⊢
  refine x_s (q := (.aload_n 0, 0, 0, 0)) (cod_243 rfl) rfl rfl rfl ?_
  refine x_s (q := (.iload_n 1, 0, 0, 0)) (cod_243 rfl) rfl rfl rfl ?_
  refine x_s (q := (.iload_n 2, 0, 0, 0)) (cod_243 rfl) rfl rfl rfl ?_
  refine x_call (as := [(1, 597), (0, a1), (0, a2)]) (rest := []) (cod_243 rfl) rfl rfl (by decide) (by decide) rfl rfl (Nat.le_of_ble_eq_true rfl) (rcv0 sq_l_597_0 sq_p_597 (by decide)) (Nat.le_of_ble_eq_true rfl) ?_
  refine X.imp H6 ?_
  rintro _ m7 ⟨v9, rfl, H8⟩
  show X 243 28 [(1, 597), (0, a1), (0, a2), (0, wr ((wr (24 * a1)) + a2)), (9, 0), (9, 0), (9, 0)] [(0, v9)] m7 _
  refine x_if (p := ¬ v9 = 0) (tgt := 32) (cod_243 rfl) (by decide) xj_ne (fun h => ?_) (fun h => ?_)
  · have H10 := H8.2 h
    refine x_s (q := (.iload_n 1, 0, 0, 0)) (cod_243 rfl) rfl rfl rfl ?_
    refine x_s (q := (.aload_n 0, 0, 0, 0)) (cod_243 rfl) rfl rfl rfl ?_
    refine x_gf (kk := 23) (t := 0) (cod_243 rfl) sq_p_597 sq_l_597_23 rfl rfl ?_
    refine x_s (q := (.iconst 1, 0, 0, 0)) (cod_243 rfl) rfl rfl rfl ?_
    refine x_s (q := (.isub, 0, 0, 0)) (cod_243 rfl) rfl rfl rfl ?_
    refine x_ic (p := ¬ a1 = (wr ((m7 597 23) - 1))) (tgt := 62) (cod_243 rfl) (by decide) xj_ne (fun h => ?_) (fun h => ?_)
    · have H12 := H10.2 h
      refine x_s (q := (.iconst 0, 0, 0, 0)) (cod_243 rfl) rfl rfl rfl ?_
      refine x_s (q := (.istore 4, 0, 0, 0)) (cod_243 rfl) rfl rfl rfl ?_
      exact H12
    · have H13 := H10.1 (Classical.not_not.mp h)
      refine x_s (q := (.aload_n 0, 0, 0, 0)) (cod_243 rfl) rfl rfl rfl ?_
      refine x_gc (kk := 41) (c := 616) (t := 1) (cod_243 rfl) sq_p_597 sq_l_597_41 rfl rfl ?_
      refine x_s (q := (.iload_n 3, 0, 0, 0)) (cod_243 rfl) rfl rfl rfl ?_
      refine x_s (q := (.aload_n 0, 0, 0, 0)) (cod_243 rfl) rfl rfl rfl ?_
      refine x_gc (kk := 36) (c := 614) (t := 1) (cod_243 rfl) sq_p_597 sq_l_597_36 rfl rfl ?_
      refine x_s (q := (.iload_n 3, 0, 0, 0)) (cod_243 rfl) rfl rfl rfl ?_
      refine x_iald (cod_243 rfl) sq_a_614.s (sq_a_614.k c1.1 c1.2) ?_
      refine x_iast (cod_243 rfl) sq_a_616.s (sq_a_616.k c1.1 c1.2) ?_
      have H15 := H13 _ rfl
      generalize umem m7 616 (wr ((wr (24 * a1)) + a2)) (m7 614 (wr ((wr (24 * a1)) + a2))) = m14 at H15 ⊢
      refine x_s (q := (.aload_n 0, 0, 0, 0)) (cod_243 rfl) rfl rfl rfl ?_
      refine x_gc (kk := 42) (c := 617) (t := 1) (cod_243 rfl) sq_p_597 sq_l_597_42 rfl rfl ?_
      refine x_s (q := (.iload_n 3, 0, 0, 0)) (cod_243 rfl) rfl rfl rfl ?_
      refine x_s (q := (.lconst 1, 0, 0, 0)) (cod_243 rfl) rfl rfl rfl ?_
      show X 243 60 [(1, 597), (0, a1), (0, a2), (0, wr ((wr (24 * a1)) + a2)), (9, 0), (9, 0), (9, 0)] [(2, 1), (0, wr ((wr (24 * a1)) + a2)), (1, 617)] m14 _
      refine x_last (cod_243 rfl) sq_a_617.s (sq_a_617.k c1.1 c1.2) ?_
      have H17 := H15 _ rfl
      generalize umem m14 617 (wr ((wr (24 * a1)) + a2)) 1 = m16 at H17 ⊢
      refine x_retV (cod_243 rfl) rfl ?_
      exact H17
  · have H11 := H8.1 (Classical.not_not.mp h)
    refine x_retV (cod_243 rfl) rfl ?_
    exact H11
theorem e243 {m : Mm} {K : Mm → Prop} (a1 : Int) (a2 : Int) 
  (H : (0 ≤ (wr ((wr (24 * a1)) + a2)) ∧ (wr ((wr (24 * a1)) + a2)) < 240) ∧ ∀ m3, m3 = umem m 616 (wr ((wr (24 * a1)) + a2)) (-2) → ∀ m5, m5 = umem m3 617 (wr ((wr (24 * a1)) + a2)) 0 → TrI 244 [(1, 597), (0, a1), (0, a2)] m5 fun v9 m7 => (v9 = 0 → K m7) ∧ (¬ v9 = 0 → (a1 = (wr ((m7 597 23) - 1)) → ∀ m14, m14 = umem m7 616 (wr ((wr (24 * a1)) + a2)) (m7 614 (wr ((wr (24 * a1)) + a2))) → ∀ m16, m16 = umem m14 617 (wr ((wr (24 * a1)) + a2)) 1 → K m16) ∧ (¬ a1 = (wr ((m7 597 23) - 1)) → X 243 65 [(1, 597), (0, a1), (0, a2), (0, wr ((wr (24 * a1)) + a2)), (0, 0), (9, 0), (9, 0)] [] m7 (qV K)))) : TrV 243 [(1, 597), (0, a1), (0, a2)] m K := by
  exact w243_0 a1 a2 H
set_option maxRecDepth 100000 in
theorem w243_65 {m : Mm} {K : Mm → Prop} (a1 : Int) (a2 : Int) (a3 : Int) (a4 : Int) (ua5 : aV) (ua6 : aV) 
  (H : (0 ≤ (wr (a1 + 1)) ∧ (wr (a1 + 1)) < 10) ∧ (a4 < (m 615 (wr (a1 + 1))) → TrI 246 [(1, 597), (0, a1), (0, a2), (0, a4)] m fun v7 m5 => (v7 < 0 → X 243 65 [(1, 597), (0, a1), (0, a2), (0, a3), (0, wr (a4 + 1)), (0, wr ((wr (24 * (wr (a1 + 1)))) + a4)), (0, v7)] [] m5 (qV K)) ∧ (¬ v7 < 0 → (0 ≤ (wr ((wr (24 * (wr (a1 + 1)))) + a4)) ∧ (wr ((wr (24 * (wr (a1 + 1)))) + a4)) < 240) ∧ ((m5 616 (wr ((wr (24 * (wr (a1 + 1)))) + a4))) < 0 → X 243 65 [(1, 597), (0, a1), (0, a2), (0, a3), (0, wr (a4 + 1)), (0, wr ((wr (24 * (wr (a1 + 1)))) + a4)), (0, v7)] [] m5 (qV K)) ∧ (¬ (m5 616 (wr ((wr (24 * (wr (a1 + 1)))) + a4))) < 0 → (0 ≤ a3 ∧ a3 < 240) ∧ ∀ m16, m16 = umem m5 617 a3 (wl ((m5 617 a3) + (m5 617 (wr ((wr (24 * (wr (a1 + 1)))) + a4))))) → ((m16 616 a3) < 0 → X 243 168 [(1, 597), (0, a1), (0, a2), (0, a3), (0, a4), (0, wr ((wr (24 * (wr (a1 + 1)))) + a4)), (0, v7)] [] m16 (qV K)) ∧ (¬ (m16 616 a3) < 0 → ((wr ((wr ((m16 614 a3) + v7)) + (m16 616 (wr ((wr (24 * (wr (a1 + 1)))) + a4))))) < (m16 616 a3) → X 243 168 [(1, 597), (0, a1), (0, a2), (0, a3), (0, a4), (0, wr ((wr (24 * (wr (a1 + 1)))) + a4)), (0, v7)] [] m16 (qV K)) ∧ (¬ (wr ((wr ((m16 614 a3) + v7)) + (m16 616 (wr ((wr (24 * (wr (a1 + 1)))) + a4))))) < (m16 616 a3) → X 243 65 [(1, 597), (0, a1), (0, a2), (0, a3), (0, wr (a4 + 1)), (0, wr ((wr (24 * (wr (a1 + 1)))) + a4)), (0, v7)] [] m16 (qV K)))))) ∧ (¬ a4 < (m 615 (wr (a1 + 1))) → K m)) : X 243 65 [(1, 597), (0, a1), (0, a2), (0, a3), (0, a4), ua5, ua6] [] m (qV K) := by
  refine x_s (q := (.iload 4, 0, 0, 0)) (cod_243 rfl) rfl rfl rfl ?_
  refine x_s (q := (.aload_n 0, 0, 0, 0)) (cod_243 rfl) rfl rfl rfl ?_
  refine x_gc (kk := 37) (c := 615) (t := 1) (cod_243 rfl) sq_p_597 sq_l_597_37 rfl rfl ?_
  refine x_s (q := (.iload_n 1, 0, 0, 0)) (cod_243 rfl) rfl rfl rfl ?_
  refine x_s (q := (.iconst 1, 0, 0, 0)) (cod_243 rfl) rfl rfl rfl ?_
  refine x_s (q := (.iadd, 0, 0, 0)) (cod_243 rfl) rfl rfl rfl ?_
  obtain ⟨c1, H2⟩ := H
  refine x_iald (cod_243 rfl) sq_a_615.s (sq_a_615.k c1.1 c1.2) ?_
  refine x_ic (p := ¬ a4 < (m 615 (wr (a1 + 1)))) (tgt := 197) (cod_243 rfl) (by decide) xn_ge (fun h => ?_) (fun h => ?_)
  · have H3 := H2.2 h
    refine x_retV (cod_243 rfl) rfl ?_
    exact H3
  · have H4 := H2.1 (Classical.not_not.mp h)
    refine x_s (q := (.bipush 24, 0, 0, 0)) (cod_243 rfl) rfl rfl rfl ?_
    refine x_s (q := (.iload_n 1, 0, 0, 0)) (cod_243 rfl) rfl rfl rfl ?_
    refine x_s (q := (.iconst 1, 0, 0, 0)) (cod_243 rfl) rfl rfl rfl ?_
    refine x_s (q := (.iadd, 0, 0, 0)) (cod_243 rfl) rfl rfl rfl ?_
    refine x_s (q := (.imul, 0, 0, 0)) (cod_243 rfl) rfl rfl rfl ?_
    refine x_s (q := (.iload 4, 0, 0, 0)) (cod_243 rfl) rfl rfl rfl ?_
    refine x_s (q := (.iadd, 0, 0, 0)) (cod_243 rfl) rfl rfl rfl ?_
    refine x_s (q := (.istore 5, 0, 0, 0)) (cod_243 rfl) rfl rfl rfl ?_
    refine x_s (q := (.aload_n 0, 0, 0, 0)) (cod_243 rfl) rfl rfl rfl ?_
    refine x_s (q := (.iload_n 1, 0, 0, 0)) (cod_243 rfl) rfl rfl rfl ?_
    refine x_s (q := (.iload_n 2, 0, 0, 0)) (cod_243 rfl) rfl rfl rfl ?_
    refine x_s (q := (.iload 4, 0, 0, 0)) (cod_243 rfl) rfl rfl rfl ?_
    refine x_call (as := [(1, 597), (0, a1), (0, a2), (0, a4)]) (rest := []) (cod_243 rfl) rfl rfl (by decide) (by decide) rfl rfl (Nat.le_of_ble_eq_true rfl) (rcv0 sq_l_597_0 sq_p_597 (by decide)) (Nat.le_of_ble_eq_true rfl) ?_
    refine X.imp H4 ?_
    rintro _ m5 ⟨v7, rfl, H6⟩
    show X 243 97 [(1, 597), (0, a1), (0, a2), (0, a3), (0, a4), (0, wr ((wr (24 * (wr (a1 + 1)))) + a4)), ua6] [(0, v7)] m5 _
    refine x_s (q := (.istore 6, 0, 0, 0)) (cod_243 rfl) rfl rfl rfl ?_
    refine x_s (q := (.iload 6, 0, 0, 0)) (cod_243 rfl) rfl rfl rfl ?_
    refine x_if (p := v7 < 0) (tgt := 191) (cod_243 rfl) (by decide) xj_lt (fun h => ?_) (fun h => ?_)
    · have H8 := H6.1 h
      refine x_s (q := (.iinc 4 1, 0, 0, 0)) (cod_243 rfl) rfl rfl rfl ?_
      refine x_go (tgt := 65) (cod_243 rfl) (by decide) ?_
      exact H8
    · have H9 := H6.2 h
      refine x_s (q := (.aload_n 0, 0, 0, 0)) (cod_243 rfl) rfl rfl rfl ?_
      refine x_gc (kk := 41) (c := 616) (t := 1) (cod_243 rfl) sq_p_597 sq_l_597_41 rfl rfl ?_
      refine x_s (q := (.iload 5, 0, 0, 0)) (cod_243 rfl) rfl rfl rfl ?_
      obtain ⟨c10, H11⟩ := H9
      refine x_iald (cod_243 rfl) sq_a_616.s (sq_a_616.k c10.1 c10.2) ?_
      refine x_if (p := ¬ (m5 616 (wr ((wr (24 * (wr (a1 + 1)))) + a4))) < 0) (tgt := 117) (cod_243 rfl) (by decide) xn_ge (fun h => ?_) (fun h => ?_)
      · have H12 := H11.2 h
        refine x_s (q := (.aload_n 0, 0, 0, 0)) (cod_243 rfl) rfl rfl rfl ?_
        refine x_gc (kk := 42) (c := 617) (t := 1) (cod_243 rfl) sq_p_597 sq_l_597_42 rfl rfl ?_
        refine x_s (q := (.iload_n 3, 0, 0, 0)) (cod_243 rfl) rfl rfl rfl ?_
        refine x_s (q := (.dup2, 0, 0, 0)) (cod_243 rfl) rfl rfl rfl ?_
        obtain ⟨c14, H15⟩ := H12
        refine x_laldm (cod_243 rfl) sq_a_617.s (sq_a_617.k c14.1 c14.2) ?_
        refine x_s (q := (.aload_n 0, 0, 0, 0)) (cod_243 rfl) rfl rfl rfl ?_
        refine x_gc (kk := 42) (c := 617) (t := 1) (cod_243 rfl) sq_p_597 sq_l_597_42 rfl rfl ?_
        refine x_s (q := (.iload 5, 0, 0, 0)) (cod_243 rfl) rfl rfl rfl ?_
        refine x_laldm (cod_243 rfl) sq_a_617.s (sq_a_617.k c10.1 c10.2) ?_
        refine x_s (q := (.ladd, 0, 0, 0)) (cod_243 rfl) rfl rfl rfl ?_
        refine x_last (cod_243 rfl) sq_a_617.s (sq_a_617.k c14.1 c14.2) ?_
        have H17 := H15 _ rfl
        generalize umem m5 617 a3 (wl ((m5 617 a3) + (m5 617 (wr ((wr (24 * (wr (a1 + 1)))) + a4))))) = m16 at H17 ⊢
        refine x_s (q := (.aload_n 0, 0, 0, 0)) (cod_243 rfl) rfl rfl rfl ?_
        refine x_gc (kk := 41) (c := 616) (t := 1) (cod_243 rfl) sq_p_597 sq_l_597_41 rfl rfl ?_
        refine x_s (q := (.iload_n 3, 0, 0, 0)) (cod_243 rfl) rfl rfl rfl ?_
        refine x_iald (cod_243 rfl) sq_a_616.s (sq_a_616.k c14.1 c14.2) ?_
        refine x_if (p := (m16 616 a3) < 0) (tgt := 168) (cod_243 rfl) (by decide) xj_lt (fun h => ?_) (fun h => ?_)
        · have H18 := H17.1 h
          exact H18
        · have H19 := H17.2 h
          refine x_s (q := (.aload_n 0, 0, 0, 0)) (cod_243 rfl) rfl rfl rfl ?_
          refine x_gc (kk := 36) (c := 614) (t := 1) (cod_243 rfl) sq_p_597 sq_l_597_36 rfl rfl ?_
          refine x_s (q := (.iload_n 3, 0, 0, 0)) (cod_243 rfl) rfl rfl rfl ?_
          refine x_iald (cod_243 rfl) sq_a_614.s (sq_a_614.k c14.1 c14.2) ?_
          refine x_s (q := (.iload 6, 0, 0, 0)) (cod_243 rfl) rfl rfl rfl ?_
          refine x_s (q := (.iadd, 0, 0, 0)) (cod_243 rfl) rfl rfl rfl ?_
          refine x_s (q := (.aload_n 0, 0, 0, 0)) (cod_243 rfl) rfl rfl rfl ?_
          refine x_gc (kk := 41) (c := 616) (t := 1) (cod_243 rfl) sq_p_597 sq_l_597_41 rfl rfl ?_
          refine x_s (q := (.iload 5, 0, 0, 0)) (cod_243 rfl) rfl rfl rfl ?_
          refine x_iald (cod_243 rfl) sq_a_616.s (sq_a_616.k c10.1 c10.2) ?_
          refine x_s (q := (.iadd, 0, 0, 0)) (cod_243 rfl) rfl rfl rfl ?_
          refine x_s (q := (.aload_n 0, 0, 0, 0)) (cod_243 rfl) rfl rfl rfl ?_
          refine x_gc (kk := 41) (c := 616) (t := 1) (cod_243 rfl) sq_p_597 sq_l_597_41 rfl rfl ?_
          refine x_s (q := (.iload_n 3, 0, 0, 0)) (cod_243 rfl) rfl rfl rfl ?_
          refine x_iald (cod_243 rfl) sq_a_616.s (sq_a_616.k c14.1 c14.2) ?_
          refine x_ic (p := ¬ (wr ((wr ((m16 614 a3) + v7)) + (m16 616 (wr ((wr (24 * (wr (a1 + 1)))) + a4))))) < (m16 616 a3)) (tgt := 191) (cod_243 rfl) (by decide) xn_ge (fun h => ?_) (fun h => ?_)
          · have H20 := H19.2 h
            refine x_s (q := (.iinc 4 1, 0, 0, 0)) (cod_243 rfl) rfl rfl rfl ?_
            refine x_go (tgt := 65) (cod_243 rfl) (by decide) ?_
            exact H20
          · have H21 := H19.1 (Classical.not_not.mp h)
            exact H21
      · have H13 := H11.1 (Classical.not_not.mp h)
        refine x_go (tgt := 191) (cod_243 rfl) (by decide) ?_
        refine x_s (q := (.iinc 4 1, 0, 0, 0)) (cod_243 rfl) rfl rfl rfl ?_
        refine x_go (tgt := 65) (cod_243 rfl) (by decide) ?_
        exact H13
set_option maxRecDepth 100000 in
theorem w243_168 {m : Mm} {K : Mm → Prop} (a1 : Int) (a2 : Int) (a3 : Int) (a4 : Int) (a5 : Int) (a6 : Int) 
  (H : (0 ≤ a3 ∧ a3 < 240) ∧ (0 ≤ a5 ∧ a5 < 240) ∧ ∀ m5, m5 = umem m 616 a3 (wr ((wr ((m 614 a3) + a6)) + (m 616 a5))) → X 243 65 [(1, 597), (0, a1), (0, a2), (0, a3), (0, wr (a4 + 1)), (0, a5), (0, a6)] [] m5 (qV K)) : X 243 168 [(1, 597), (0, a1), (0, a2), (0, a3), (0, a4), (0, a5), (0, a6)] [] m (qV K) := by
  refine x_s (q := (.aload_n 0, 0, 0, 0)) (cod_243 rfl) rfl rfl rfl ?_
  refine x_gc (kk := 41) (c := 616) (t := 1) (cod_243 rfl) sq_p_597 sq_l_597_41 rfl rfl ?_
  refine x_s (q := (.iload_n 3, 0, 0, 0)) (cod_243 rfl) rfl rfl rfl ?_
  refine x_s (q := (.aload_n 0, 0, 0, 0)) (cod_243 rfl) rfl rfl rfl ?_
  refine x_gc (kk := 36) (c := 614) (t := 1) (cod_243 rfl) sq_p_597 sq_l_597_36 rfl rfl ?_
  refine x_s (q := (.iload_n 3, 0, 0, 0)) (cod_243 rfl) rfl rfl rfl ?_
  obtain ⟨c1, H2⟩ := H
  refine x_iald (cod_243 rfl) sq_a_614.s (sq_a_614.k c1.1 c1.2) ?_
  refine x_s (q := (.iload 6, 0, 0, 0)) (cod_243 rfl) rfl rfl rfl ?_
  refine x_s (q := (.iadd, 0, 0, 0)) (cod_243 rfl) rfl rfl rfl ?_
  refine x_s (q := (.aload_n 0, 0, 0, 0)) (cod_243 rfl) rfl rfl rfl ?_
  refine x_gc (kk := 41) (c := 616) (t := 1) (cod_243 rfl) sq_p_597 sq_l_597_41 rfl rfl ?_
  refine x_s (q := (.iload 5, 0, 0, 0)) (cod_243 rfl) rfl rfl rfl ?_
  obtain ⟨c3, H4⟩ := H2
  refine x_iald (cod_243 rfl) sq_a_616.s (sq_a_616.k c3.1 c3.2) ?_
  refine x_s (q := (.iadd, 0, 0, 0)) (cod_243 rfl) rfl rfl rfl ?_
  refine x_iast (cod_243 rfl) sq_a_616.s (sq_a_616.k c1.1 c1.2) ?_
  have H6 := H4 _ rfl
  generalize umem m 616 a3 (wr ((wr ((m 614 a3) + a6)) + (m 616 a5))) = m5 at H6 ⊢
  refine x_s (q := (.iinc 4 1, 0, 0, 0)) (cod_243 rfl) rfl rfl rfl ?_
  refine x_go (tgt := 65) (cod_243 rfl) (by decide) ?_
  exact H6
set_option maxRecDepth 100000 in
theorem w244_0 {m : Mm} {K : Int → Mm → Prop} (a1 : Int) (a2 : Int) 
  (H : ((m 597 40) = 0 → X 244 46 [(1, 597), (0, a1), (0, a2)] [] m (qI K)) ∧ (¬ (m 597 40) = 0 → (a1 = (m 597 38) → (a2 = (m 597 39) → ((m 597 40) = 1 → X 244 46 [(1, 597), (0, a1), (0, a2)] [] m (qI K)) ∧ (¬ (m 597 40) = 1 → K 0 m)) ∧ (¬ a2 = (m 597 39) → ((m 597 40) = 1 → K 0 m) ∧ (¬ (m 597 40) = 1 → X 244 46 [(1, 597), (0, a1), (0, a2)] [] m (qI K)))) ∧ (¬ a1 = (m 597 38) → X 244 46 [(1, 597), (0, a1), (0, a2)] [] m (qI K)))) : X 244 0 [(1, 597), (0, a1), (0, a2)] [] m (qI K) := by
  refine x_s (q := (.aload_n 0, 0, 0, 0)) (cod_244 rfl) rfl rfl rfl ?_
  refine x_gf (kk := 40) (t := 0) (cod_244 rfl) sq_p_597 sq_l_597_40 rfl rfl ?_
  refine x_if (p := (m 597 40) = 0) (tgt := 46) (cod_244 rfl) (by decide) xj_eq (fun h => ?_) (fun h => ?_)
  · have H1 := H.1 h
    exact H1
  · have H2 := H.2 h
    refine x_s (q := (.iload_n 1, 0, 0, 0)) (cod_244 rfl) rfl rfl rfl ?_
    refine x_s (q := (.aload_n 0, 0, 0, 0)) (cod_244 rfl) rfl rfl rfl ?_
    refine x_gf (kk := 38) (t := 0) (cod_244 rfl) sq_p_597 sq_l_597_38 rfl rfl ?_
    refine x_ic (p := ¬ a1 = (m 597 38)) (tgt := 46) (cod_244 rfl) (by decide) xj_ne (fun h => ?_) (fun h => ?_)
    · have H3 := H2.2 h
      exact H3
    · have H4 := H2.1 (Classical.not_not.mp h)
      refine x_s (q := (.iload_n 2, 0, 0, 0)) (cod_244 rfl) rfl rfl rfl ?_
      refine x_s (q := (.aload_n 0, 0, 0, 0)) (cod_244 rfl) rfl rfl rfl ?_
      refine x_gf (kk := 39) (t := 0) (cod_244 rfl) sq_p_597 sq_l_597_39 rfl rfl ?_
      refine x_ic (p := ¬ a2 = (m 597 39)) (tgt := 27) (cod_244 rfl) (by decide) xj_ne (fun h => ?_) (fun h => ?_)
      · have H5 := H4.2 h
        refine x_s (q := (.iconst 0, 0, 0, 0)) (cod_244 rfl) rfl rfl rfl ?_
        refine x_s (q := (.aload_n 0, 0, 0, 0)) (cod_244 rfl) rfl rfl rfl ?_
        refine x_gf (kk := 40) (t := 0) (cod_244 rfl) sq_p_597 sq_l_597_40 rfl rfl ?_
        refine x_s (q := (.iconst 1, 0, 0, 0)) (cod_244 rfl) rfl rfl rfl ?_
        refine x_ic (p := ¬ (m 597 40) = 1) (tgt := 40) (cod_244 rfl) (by decide) xj_ne (fun h => ?_) (fun h => ?_)
        · have H7 := H5.2 h
          refine x_s (q := (.iconst 0, 0, 0, 0)) (cod_244 rfl) rfl rfl rfl ?_
          refine x_ict (tgt := 46) (cod_244 rfl) (by decide) (by decide) ?_
          exact H7
        · have H8 := H5.1 (Classical.not_not.mp h)
          refine x_s (q := (.iconst 1, 0, 0, 0)) (cod_244 rfl) rfl rfl rfl ?_
          refine x_go (tgt := 41) (cod_244 rfl) (by decide) ?_
          refine x_icf (cod_244 rfl) (by decide) (by decide) ?_
          refine x_s (q := (.iconst 0, 0, 0, 0)) (cod_244 rfl) rfl rfl rfl ?_
          refine x_retI (t := .boolean) (cod_244 rfl) rfl rfl rfl ?_
          exact H8
      · have H6 := H4.1 (Classical.not_not.mp h)
        refine x_s (q := (.iconst 1, 0, 0, 0)) (cod_244 rfl) rfl rfl rfl ?_
        refine x_go (tgt := 28) (cod_244 rfl) (by decide) ?_
        refine x_s (q := (.aload_n 0, 0, 0, 0)) (cod_244 rfl) rfl rfl rfl ?_
        refine x_gf (kk := 40) (t := 0) (cod_244 rfl) sq_p_597 sq_l_597_40 rfl rfl ?_
        refine x_s (q := (.iconst 1, 0, 0, 0)) (cod_244 rfl) rfl rfl rfl ?_
        refine x_ic (p := ¬ (m 597 40) = 1) (tgt := 40) (cod_244 rfl) (by decide) xj_ne (fun h => ?_) (fun h => ?_)
        · have H9 := H6.2 h
          refine x_s (q := (.iconst 0, 0, 0, 0)) (cod_244 rfl) rfl rfl rfl ?_
          refine x_icf (cod_244 rfl) (by decide) (by decide) ?_
          refine x_s (q := (.iconst 0, 0, 0, 0)) (cod_244 rfl) rfl rfl rfl ?_
          refine x_retI (t := .boolean) (cod_244 rfl) rfl rfl rfl ?_
          exact H9
        · have H10 := H6.1 (Classical.not_not.mp h)
          refine x_s (q := (.iconst 1, 0, 0, 0)) (cod_244 rfl) rfl rfl rfl ?_
          refine x_go (tgt := 41) (cod_244 rfl) (by decide) ?_
          refine x_ict (tgt := 46) (cod_244 rfl) (by decide) (by decide) ?_
          exact H10
theorem e244 {m : Mm} {K : Int → Mm → Prop} (a1 : Int) (a2 : Int) 
  (H : ((m 597 40) = 0 → X 244 46 [(1, 597), (0, a1), (0, a2)] [] m (qI K)) ∧ (¬ (m 597 40) = 0 → (a1 = (m 597 38) → (a2 = (m 597 39) → ((m 597 40) = 1 → X 244 46 [(1, 597), (0, a1), (0, a2)] [] m (qI K)) ∧ (¬ (m 597 40) = 1 → K 0 m)) ∧ (¬ a2 = (m 597 39) → ((m 597 40) = 1 → K 0 m) ∧ (¬ (m 597 40) = 1 → X 244 46 [(1, 597), (0, a1), (0, a2)] [] m (qI K)))) ∧ (¬ a1 = (m 597 38) → X 244 46 [(1, 597), (0, a1), (0, a2)] [] m (qI K)))) : TrI 244 [(1, 597), (0, a1), (0, a2)] m K := by
  exact w244_0 a1 a2 H
set_option maxRecDepth 100000 in
theorem w244_46 {m : Mm} {K : Int → Mm → Prop} (a1 : Int) (a2 : Int) 
  (H : (0 ≤ (wr (48 + a1)) ∧ (wr (48 + a1)) < 1276) ∧ ((m 607 (wr (48 + a1))) = (-9) → K 1 m) ∧ (¬ (m 607 (wr (48 + a1))) = (-9) → (0 ≤ (wr ((wr (24 * a1)) + a2)) ∧ (wr ((wr (24 * a1)) + a2)) < 240) ∧ ((m 613 (wr ((wr (24 * a1)) + a2))) = (m 607 (wr (48 + a1))) → K 1 m) ∧ (¬ (m 613 (wr ((wr (24 * a1)) + a2))) = (m 607 (wr (48 + a1))) → TrI 245 [(1, 597), (0, a1)] m fun v11 m9 => (v11 = 0 → K 1 m9) ∧ (¬ v11 = 0 → K 0 m9)))) : X 244 46 [(1, 597), (0, a1), (0, a2)] [] m (qI K) := by
  refine x_s (q := (.aload_n 0, 0, 0, 0)) (cod_244 rfl) rfl rfl rfl ?_
  refine x_s (q := (.bipush 48, 0, 0, 0)) (cod_244 rfl) rfl rfl rfl ?_
  refine x_s (q := (.iload_n 1, 0, 0, 0)) (cod_244 rfl) rfl rfl rfl ?_
  refine x_s (q := (.iadd, 0, 0, 0)) (cod_244 rfl) rfl rfl rfl ?_
  refine x_call (as := [(1, 597), (0, wr (48 + a1))]) (rest := []) (cod_244 rfl) rfl rfl (by decide) (by decide) rfl rfl (Nat.le_of_ble_eq_true rfl) (rcv0 sq_l_597_0 sq_p_597 (by decide)) (Nat.le_of_ble_eq_true rfl) ?_
  show X 197 0 [(1, 597), (0, wr (48 + a1))] [] m _
  refine x_s (q := (.aload_n 0, 0, 0, 0)) (cod_197 rfl) rfl rfl rfl ?_
  refine x_gc (kk := 24) (c := 607) (t := 1) (cod_197 rfl) sq_p_597 sq_l_597_24 rfl rfl ?_
  refine x_s (q := (.iload_n 1, 0, 0, 0)) (cod_197 rfl) rfl rfl rfl ?_
  obtain ⟨c1, H2⟩ := H
  refine x_iald (cod_197 rfl) sq_a_607.s (sq_a_607.k c1.1 c1.2) ?_
  refine x_rI (t := .int) (cod_197 rfl) rfl rfl rfl ?_
  show X 244 54 [(1, 597), (0, a1), (0, a2)] [(0, m 607 (wr (48 + a1)))] m _
  refine x_s (q := (.bipush (-9), 0, 0, 0)) (cod_244 rfl) rfl rfl rfl ?_
  refine x_ic (p := (m 607 (wr (48 + a1))) = (-9)) (tgt := 89) (cod_244 rfl) (by decide) xj_eq (fun h => ?_) (fun h => ?_)
  · have H3 := H2.1 h
    refine x_s (q := (.iconst 1, 0, 0, 0)) (cod_244 rfl) rfl rfl rfl ?_
    refine x_go (tgt := 94) (cod_244 rfl) (by decide) ?_
    refine x_retI (t := .boolean) (cod_244 rfl) rfl rfl rfl ?_
    exact H3
  · have H4 := H2.2 h
    refine x_s (q := (.aload_n 0, 0, 0, 0)) (cod_244 rfl) rfl rfl rfl ?_
    refine x_gc (kk := 35) (c := 613) (t := 1) (cod_244 rfl) sq_p_597 sq_l_597_35 rfl rfl ?_
    refine x_s (q := (.bipush 24, 0, 0, 0)) (cod_244 rfl) rfl rfl rfl ?_
    refine x_s (q := (.iload_n 1, 0, 0, 0)) (cod_244 rfl) rfl rfl rfl ?_
    refine x_s (q := (.imul, 0, 0, 0)) (cod_244 rfl) rfl rfl rfl ?_
    refine x_s (q := (.iload_n 2, 0, 0, 0)) (cod_244 rfl) rfl rfl rfl ?_
    refine x_s (q := (.iadd, 0, 0, 0)) (cod_244 rfl) rfl rfl rfl ?_
    obtain ⟨c5, H6⟩ := H4
    refine x_iald (cod_244 rfl) sq_a_613.s (sq_a_613.k c5.1 c5.2) ?_
    refine x_s (q := (.aload_n 0, 0, 0, 0)) (cod_244 rfl) rfl rfl rfl ?_
    refine x_s (q := (.bipush 48, 0, 0, 0)) (cod_244 rfl) rfl rfl rfl ?_
    refine x_s (q := (.iload_n 1, 0, 0, 0)) (cod_244 rfl) rfl rfl rfl ?_
    refine x_s (q := (.iadd, 0, 0, 0)) (cod_244 rfl) rfl rfl rfl ?_
    refine x_call (as := [(1, 597), (0, wr (48 + a1))]) (rest := [(0, m 613 (wr ((wr (24 * a1)) + a2)))]) (cod_244 rfl) rfl rfl (by decide) (by decide) rfl rfl (Nat.le_of_ble_eq_true rfl) (rcv0 sq_l_597_0 sq_p_597 (by decide)) (Nat.le_of_ble_eq_true rfl) ?_
    show X 197 0 [(1, 597), (0, wr (48 + a1))] [] m _
    refine x_s (q := (.aload_n 0, 0, 0, 0)) (cod_197 rfl) rfl rfl rfl ?_
    refine x_gc (kk := 24) (c := 607) (t := 1) (cod_197 rfl) sq_p_597 sq_l_597_24 rfl rfl ?_
    refine x_s (q := (.iload_n 1, 0, 0, 0)) (cod_197 rfl) rfl rfl rfl ?_
    refine x_iald (cod_197 rfl) sq_a_607.s (sq_a_607.k c1.1 c1.2) ?_
    refine x_rI (t := .int) (cod_197 rfl) rfl rfl rfl ?_
    show X 244 78 [(1, 597), (0, a1), (0, a2)] [(0, m 607 (wr (48 + a1))), (0, m 613 (wr ((wr (24 * a1)) + a2)))] m _
    refine x_ic (p := (m 613 (wr ((wr (24 * a1)) + a2))) = (m 607 (wr (48 + a1)))) (tgt := 89) (cod_244 rfl) (by decide) xj_eq (fun h => ?_) (fun h => ?_)
    · have H7 := H6.1 h
      refine x_s (q := (.iconst 1, 0, 0, 0)) (cod_244 rfl) rfl rfl rfl ?_
      refine x_go (tgt := 94) (cod_244 rfl) (by decide) ?_
      refine x_retI (t := .boolean) (cod_244 rfl) rfl rfl rfl ?_
      exact H7
    · have H8 := H6.2 h
      refine x_s (q := (.aload_n 0, 0, 0, 0)) (cod_244 rfl) rfl rfl rfl ?_
      refine x_s (q := (.iload_n 1, 0, 0, 0)) (cod_244 rfl) rfl rfl rfl ?_
      refine x_call (as := [(1, 597), (0, a1)]) (rest := []) (cod_244 rfl) rfl rfl (by decide) (by decide) rfl rfl (Nat.le_of_ble_eq_true rfl) (rcv0 sq_l_597_0 sq_p_597 (by decide)) (Nat.le_of_ble_eq_true rfl) ?_
      refine X.imp H8 ?_
      rintro _ m9 ⟨v11, rfl, H10⟩
      show X 244 86 [(1, 597), (0, a1), (0, a2)] [(0, v11)] m9 _
      refine x_if (p := ¬ v11 = 0) (tgt := 93) (cod_244 rfl) (by decide) xj_ne (fun h => ?_) (fun h => ?_)
      · have H12 := H10.2 h
        refine x_s (q := (.iconst 0, 0, 0, 0)) (cod_244 rfl) rfl rfl rfl ?_
        refine x_retI (t := .boolean) (cod_244 rfl) rfl rfl rfl ?_
        exact H12
      · have H13 := H10.1 (Classical.not_not.mp h)
        refine x_s (q := (.iconst 1, 0, 0, 0)) (cod_244 rfl) rfl rfl rfl ?_
        refine x_go (tgt := 94) (cod_244 rfl) (by decide) ?_
        refine x_retI (t := .boolean) (cod_244 rfl) rfl rfl rfl ?_
        exact H13
set_option maxRecDepth 100000 in
theorem w245_0 {m : Mm} {K : Int → Mm → Prop} (a1 : Int) 
  (H : X 245 2 [(1, 597), (0, a1), (0, 0)] [] m (qI K)) : X 245 0 [(1, 597), (0, a1), (9, 0)] [] m (qI K) := by
  refine x_s (q := (.iconst 0, 0, 0, 0)) (cod_245 rfl) rfl rfl rfl ?_
  refine x_s (q := (.istore_n 2, 0, 0, 0)) (cod_245 rfl) rfl rfl rfl ?_
  exact H
theorem e245 {m : Mm} {K : Int → Mm → Prop} (a1 : Int) 
  (H : X 245 2 [(1, 597), (0, a1), (0, 0)] [] m (qI K)) : TrI 245 [(1, 597), (0, a1)] m K := by
  exact w245_0 a1 H
set_option maxRecDepth 100000 in
theorem w245_2 {m : Mm} {K : Int → Mm → Prop} (a1 : Int) (a2 : Int) 
  (H : (0 ≤ a1 ∧ a1 < 10) ∧ (a2 < (m 615 a1) → (0 ≤ (wr ((wr (24 * a1)) + a2)) ∧ (wr ((wr (24 * a1)) + a2)) < 240) ∧ (0 ≤ (wr (48 + a1)) ∧ (wr (48 + a1)) < 1276) ∧ ((m 613 (wr ((wr (24 * a1)) + a2))) = (m 607 (wr (48 + a1))) → K 1 m) ∧ (¬ (m 613 (wr ((wr (24 * a1)) + a2))) = (m 607 (wr (48 + a1))) → X 245 2 [(1, 597), (0, a1), (0, wr (a2 + 1))] [] m (qI K))) ∧ (¬ a2 < (m 615 a1) → K 0 m)) : X 245 2 [(1, 597), (0, a1), (0, a2)] [] m (qI K) := by
  refine x_s (q := (.iload_n 2, 0, 0, 0)) (cod_245 rfl) rfl rfl rfl ?_
  refine x_s (q := (.aload_n 0, 0, 0, 0)) (cod_245 rfl) rfl rfl rfl ?_
  refine x_gc (kk := 37) (c := 615) (t := 1) (cod_245 rfl) sq_p_597 sq_l_597_37 rfl rfl ?_
  refine x_s (q := (.iload_n 1, 0, 0, 0)) (cod_245 rfl) rfl rfl rfl ?_
  obtain ⟨c1, H2⟩ := H
  refine x_iald (cod_245 rfl) sq_a_615.s (sq_a_615.k c1.1 c1.2) ?_
  refine x_ic (p := ¬ a2 < (m 615 a1)) (tgt := 42) (cod_245 rfl) (by decide) xn_ge (fun h => ?_) (fun h => ?_)
  · have H3 := H2.2 h
    refine x_s (q := (.iconst 0, 0, 0, 0)) (cod_245 rfl) rfl rfl rfl ?_
    refine x_retI (t := .boolean) (cod_245 rfl) rfl rfl rfl ?_
    exact H3
  · have H4 := H2.1 (Classical.not_not.mp h)
    refine x_s (q := (.aload_n 0, 0, 0, 0)) (cod_245 rfl) rfl rfl rfl ?_
    refine x_gc (kk := 35) (c := 613) (t := 1) (cod_245 rfl) sq_p_597 sq_l_597_35 rfl rfl ?_
    refine x_s (q := (.bipush 24, 0, 0, 0)) (cod_245 rfl) rfl rfl rfl ?_
    refine x_s (q := (.iload_n 1, 0, 0, 0)) (cod_245 rfl) rfl rfl rfl ?_
    refine x_s (q := (.imul, 0, 0, 0)) (cod_245 rfl) rfl rfl rfl ?_
    refine x_s (q := (.iload_n 2, 0, 0, 0)) (cod_245 rfl) rfl rfl rfl ?_
    refine x_s (q := (.iadd, 0, 0, 0)) (cod_245 rfl) rfl rfl rfl ?_
    obtain ⟨c5, H6⟩ := H4
    refine x_iald (cod_245 rfl) sq_a_613.s (sq_a_613.k c5.1 c5.2) ?_
    refine x_s (q := (.aload_n 0, 0, 0, 0)) (cod_245 rfl) rfl rfl rfl ?_
    refine x_s (q := (.bipush 48, 0, 0, 0)) (cod_245 rfl) rfl rfl rfl ?_
    refine x_s (q := (.iload_n 1, 0, 0, 0)) (cod_245 rfl) rfl rfl rfl ?_
    refine x_s (q := (.iadd, 0, 0, 0)) (cod_245 rfl) rfl rfl rfl ?_
    refine x_call (as := [(1, 597), (0, wr (48 + a1))]) (rest := [(0, m 613 (wr ((wr (24 * a1)) + a2)))]) (cod_245 rfl) rfl rfl (by decide) (by decide) rfl rfl (Nat.le_of_ble_eq_true rfl) (rcv0 sq_l_597_0 sq_p_597 (by decide)) (Nat.le_of_ble_eq_true rfl) ?_
    show X 197 0 [(1, 597), (0, wr (48 + a1))] [] m _
    refine x_s (q := (.aload_n 0, 0, 0, 0)) (cod_197 rfl) rfl rfl rfl ?_
    refine x_gc (kk := 24) (c := 607) (t := 1) (cod_197 rfl) sq_p_597 sq_l_597_24 rfl rfl ?_
    refine x_s (q := (.iload_n 1, 0, 0, 0)) (cod_197 rfl) rfl rfl rfl ?_
    obtain ⟨c7, H8⟩ := H6
    refine x_iald (cod_197 rfl) sq_a_607.s (sq_a_607.k c7.1 c7.2) ?_
    refine x_rI (t := .int) (cod_197 rfl) rfl rfl rfl ?_
    show X 245 31 [(1, 597), (0, a1), (0, a2)] [(0, m 607 (wr (48 + a1))), (0, m 613 (wr ((wr (24 * a1)) + a2)))] m _
    refine x_ic (p := ¬ (m 613 (wr ((wr (24 * a1)) + a2))) = (m 607 (wr (48 + a1)))) (tgt := 36) (cod_245 rfl) (by decide) xj_ne (fun h => ?_) (fun h => ?_)
    · have H9 := H8.2 h
      refine x_s (q := (.iinc 2 1, 0, 0, 0)) (cod_245 rfl) rfl rfl rfl ?_
      refine x_go (tgt := 2) (cod_245 rfl) (by decide) ?_
      exact H9
    · have H10 := H8.1 (Classical.not_not.mp h)
      refine x_s (q := (.iconst 1, 0, 0, 0)) (cod_245 rfl) rfl rfl rfl ?_
      refine x_retI (t := .boolean) (cod_245 rfl) rfl rfl rfl ?_
      exact H10
set_option maxRecDepth 100000 in
theorem w246_0 {m : Mm} {K : Int → Mm → Prop} (a1 : Int) (a2 : Int) (a3 : Int) 
  (H : (0 ≤ (wr ((wr (24 * a1)) + a2)) ∧ (wr ((wr (24 * a1)) + a2)) < 240) ∧ (0 ≤ (wr ((wr (24 * (wr (a1 + 1)))) + a3)) ∧ (wr ((wr (24 * (wr (a1 + 1)))) + a3)) < 240) ∧ ((m 613 (wr ((wr (24 * a1)) + a2))) < 0 → K 0 m) ∧ (¬ (m 613 (wr ((wr (24 * a1)) + a2))) < 0 → ((m 613 (wr ((wr (24 * (wr (a1 + 1)))) + a3))) < 0 → K 0 m) ∧ (¬ (m 613 (wr ((wr (24 * (wr (a1 + 1)))) + a3))) < 0 → (m 597 16 = 0 ∧ 0 ≤ (wr ((wr (264 + (wr (11 * (m 613 (wr ((wr (24 * a1)) + a2))))))) + 1)) ∧ (wr ((wr (264 + (wr (11 * (m 613 (wr ((wr (24 * a1)) + a2))))))) + 1)) < 1166) ∧ (m 597 16 = 0 ∧ 0 ≤ (wr ((wr (264 + (wr (11 * (m 613 (wr ((wr (24 * (wr (a1 + 1)))) + a3))))))) + 1)) ∧ (wr ((wr (264 + (wr (11 * (m 613 (wr ((wr (24 * (wr (a1 + 1)))) + a3))))))) + 1)) < 1166) ∧ (m 597 16 = 0 ∧ 0 ≤ (wr (528 + (wr ((wr (5 * (m 602 (wr ((wr (264 + (wr (11 * (m 613 (wr ((wr (24 * a1)) + a2))))))) + 1))))) + (m 602 (wr ((wr (264 + (wr (11 * (m 613 (wr ((wr (24 * (wr (a1 + 1)))) + a3))))))) + 1))))))) ∧ (wr (528 + (wr ((wr (5 * (m 602 (wr ((wr (264 + (wr (11 * (m 613 (wr ((wr (24 * a1)) + a2))))))) + 1))))) + (m 602 (wr ((wr (264 + (wr (11 * (m 613 (wr ((wr (24 * (wr (a1 + 1)))) + a3))))))) + 1))))))) < 1166) ∧ ((m 602 (wr (528 + (wr ((wr (5 * (m 602 (wr ((wr (264 + (wr (11 * (m 613 (wr ((wr (24 * a1)) + a2))))))) + 1))))) + (m 602 (wr ((wr (264 + (wr (11 * (m 613 (wr ((wr (24 * (wr (a1 + 1)))) + a3))))))) + 1)))))))) = 1 → (m 597 16 = 0 ∧ 0 ≤ (wr ((wr (264 + (wr (11 * (m 613 (wr ((wr (24 * a1)) + a2))))))) + 2)) ∧ (wr ((wr (264 + (wr (11 * (m 613 (wr ((wr (24 * a1)) + a2))))))) + 2)) < 1166) ∧ (m 597 16 = 0 ∧ 0 ≤ (wr ((wr (264 + (wr (11 * (m 613 (wr ((wr (24 * (wr (a1 + 1)))) + a3))))))) + 2)) ∧ (wr ((wr (264 + (wr (11 * (m 613 (wr ((wr (24 * (wr (a1 + 1)))) + a3))))))) + 2)) < 1166) ∧ ((m 602 (wr ((wr (264 + (wr (11 * (m 613 (wr ((wr (24 * a1)) + a2))))))) + 2))) = (m 602 (wr ((wr (264 + (wr (11 * (m 613 (wr ((wr (24 * (wr (a1 + 1)))) + a3))))))) + 2))) → (m 597 16 = 0 ∧ 0 ≤ (wr (553 + (wr ((wr (5 * (m 602 (wr ((wr (264 + (wr (11 * (m 613 (wr ((wr (24 * a1)) + a2))))))) + 1))))) + (m 602 (wr ((wr (264 + (wr (11 * (m 613 (wr ((wr (24 * (wr (a1 + 1)))) + a3))))))) + 1))))))) ∧ (wr (553 + (wr ((wr (5 * (m 602 (wr ((wr (264 + (wr (11 * (m 613 (wr ((wr (24 * a1)) + a2))))))) + 1))))) + (m 602 (wr ((wr (264 + (wr (11 * (m 613 (wr ((wr (24 * (wr (a1 + 1)))) + a3))))))) + 1))))))) < 1166) ∧ K (m 602 (wr (553 + (wr ((wr (5 * (m 602 (wr ((wr (264 + (wr (11 * (m 613 (wr ((wr (24 * a1)) + a2))))))) + 1))))) + (m 602 (wr ((wr (264 + (wr (11 * (m 613 (wr ((wr (24 * (wr (a1 + 1)))) + a3))))))) + 1)))))))) m) ∧ (¬ (m 602 (wr ((wr (264 + (wr (11 * (m 613 (wr ((wr (24 * a1)) + a2))))))) + 2))) = (m 602 (wr ((wr (264 + (wr (11 * (m 613 (wr ((wr (24 * (wr (a1 + 1)))) + a3))))))) + 2))) → K (-1) m)) ∧ (¬ (m 602 (wr (528 + (wr ((wr (5 * (m 602 (wr ((wr (264 + (wr (11 * (m 613 (wr ((wr (24 * a1)) + a2))))))) + 1))))) + (m 602 (wr ((wr (264 + (wr (11 * (m 613 (wr ((wr (24 * (wr (a1 + 1)))) + a3))))))) + 1)))))))) = 1 → (m 597 16 = 0 ∧ 0 ≤ (wr (553 + (wr ((wr (5 * (m 602 (wr ((wr (264 + (wr (11 * (m 613 (wr ((wr (24 * a1)) + a2))))))) + 1))))) + (m 602 (wr ((wr (264 + (wr (11 * (m 613 (wr ((wr (24 * (wr (a1 + 1)))) + a3))))))) + 1))))))) ∧ (wr (553 + (wr ((wr (5 * (m 602 (wr ((wr (264 + (wr (11 * (m 613 (wr ((wr (24 * a1)) + a2))))))) + 1))))) + (m 602 (wr ((wr (264 + (wr (11 * (m 613 (wr ((wr (24 * (wr (a1 + 1)))) + a3))))))) + 1))))))) < 1166) ∧ K (m 602 (wr (553 + (wr ((wr (5 * (m 602 (wr ((wr (264 + (wr (11 * (m 613 (wr ((wr (24 * a1)) + a2))))))) + 1))))) + (m 602 (wr ((wr (264 + (wr (11 * (m 613 (wr ((wr (24 * (wr (a1 + 1)))) + a3))))))) + 1)))))))) m)))) : X 246 0 [(1, 597), (0, a1), (0, a2), (0, a3), (9, 0), (9, 0), (9, 0)] [] m (qI K) := by
  refine x_s (q := (.aload_n 0, 0, 0, 0)) (cod_246 rfl) rfl rfl rfl ?_
  refine x_gc (kk := 35) (c := 613) (t := 1) (cod_246 rfl) sq_p_597 sq_l_597_35 rfl rfl ?_
  refine x_s (q := (.bipush 24, 0, 0, 0)) (cod_246 rfl) rfl rfl rfl ?_
  refine x_s (q := (.iload_n 1, 0, 0, 0)) (cod_246 rfl) rfl rfl rfl ?_
  refine x_s (q := (.imul, 0, 0, 0)) (cod_246 rfl) rfl rfl rfl ?_
  refine x_s (q := (.iload_n 2, 0, 0, 0)) (cod_246 rfl) rfl rfl rfl ?_
  refine x_s (q := (.iadd, 0, 0, 0)) (cod_246 rfl) rfl rfl rfl ?_
  obtain ⟨c1, H2⟩ := H
  refine x_iald (cod_246 rfl) sq_a_613.s (sq_a_613.k c1.1 c1.2) ?_
  refine x_s (q := (.istore 4, 0, 0, 0)) (cod_246 rfl) rfl rfl rfl ?_
  refine x_s (q := (.aload_n 0, 0, 0, 0)) (cod_246 rfl) rfl rfl rfl ?_
  refine x_gc (kk := 35) (c := 613) (t := 1) (cod_246 rfl) sq_p_597 sq_l_597_35 rfl rfl ?_
  refine x_s (q := (.bipush 24, 0, 0, 0)) (cod_246 rfl) rfl rfl rfl ?_
  refine x_s (q := (.iload_n 1, 0, 0, 0)) (cod_246 rfl) rfl rfl rfl ?_
  refine x_s (q := (.iconst 1, 0, 0, 0)) (cod_246 rfl) rfl rfl rfl ?_
  refine x_s (q := (.iadd, 0, 0, 0)) (cod_246 rfl) rfl rfl rfl ?_
  refine x_s (q := (.imul, 0, 0, 0)) (cod_246 rfl) rfl rfl rfl ?_
  refine x_s (q := (.iload_n 3, 0, 0, 0)) (cod_246 rfl) rfl rfl rfl ?_
  refine x_s (q := (.iadd, 0, 0, 0)) (cod_246 rfl) rfl rfl rfl ?_
  obtain ⟨c3, H4⟩ := H2
  refine x_iald (cod_246 rfl) sq_a_613.s (sq_a_613.k c3.1 c3.2) ?_
  refine x_s (q := (.istore 5, 0, 0, 0)) (cod_246 rfl) rfl rfl rfl ?_
  refine x_s (q := (.iload 4, 0, 0, 0)) (cod_246 rfl) rfl rfl rfl ?_
  refine x_if (p := (m 613 (wr ((wr (24 * a1)) + a2))) < 0) (tgt := 38) (cod_246 rfl) (by decide) xj_lt (fun h => ?_) (fun h => ?_)
  · have H5 := H4.1 h
    refine x_s (q := (.iconst 0, 0, 0, 0)) (cod_246 rfl) rfl rfl rfl ?_
    refine x_retI (t := .int) (cod_246 rfl) rfl rfl rfl ?_
    exact H5
  · have H6 := H4.2 h
    refine x_s (q := (.iload 5, 0, 0, 0)) (cod_246 rfl) rfl rfl rfl ?_
    refine x_if (p := ¬ (m 613 (wr ((wr (24 * (wr (a1 + 1)))) + a3))) < 0) (tgt := 40) (cod_246 rfl) (by decide) xn_ge (fun h => ?_) (fun h => ?_)
    · have H7 := H6.2 h
      refine x_s (q := (.iconst 5, 0, 0, 0)) (cod_246 rfl) rfl rfl rfl ?_
      refine x_s (q := (.aload_n 0, 0, 0, 0)) (cod_246 rfl) rfl rfl rfl ?_
      refine x_s (q := (.sipush 264, 0, 0, 0)) (cod_246 rfl) rfl rfl rfl ?_
      refine x_s (q := (.bipush 11, 0, 0, 0)) (cod_246 rfl) rfl rfl rfl ?_
      refine x_s (q := (.iload 4, 0, 0, 0)) (cod_246 rfl) rfl rfl rfl ?_
      refine x_s (q := (.imul, 0, 0, 0)) (cod_246 rfl) rfl rfl rfl ?_
      refine x_s (q := (.iadd, 0, 0, 0)) (cod_246 rfl) rfl rfl rfl ?_
      refine x_s (q := (.iconst 1, 0, 0, 0)) (cod_246 rfl) rfl rfl rfl ?_
      refine x_s (q := (.iadd, 0, 0, 0)) (cod_246 rfl) rfl rfl rfl ?_
      obtain ⟨c9, H10⟩ := H7
      refine x_call (as := [(1, 597), (0, wr ((wr (264 + (wr (11 * (m 613 (wr ((wr (24 * a1)) + a2))))))) + 1))]) (rest := [(0, 5)]) (cod_246 rfl) rfl rfl (by decide) (by decide) rfl rfl (Nat.le_of_ble_eq_true rfl) (rcv0 sq_l_597_0 sq_p_597 (by decide)) (Nat.le_of_ble_eq_true rfl) ?_
      refine x_pure (p182ax c9) ?_
      show X 246 56 [(1, 597), (0, a1), (0, a2), (0, a3), (0, m 613 (wr ((wr (24 * a1)) + a2))), (0, m 613 (wr ((wr (24 * (wr (a1 + 1)))) + a3))), (9, 0)] [(0, m 602 (wr ((wr (264 + (wr (11 * (m 613 (wr ((wr (24 * a1)) + a2))))))) + 1))), (0, 5)] m _
      refine x_s (q := (.imul, 0, 0, 0)) (cod_246 rfl) rfl rfl rfl ?_
      refine x_s (q := (.aload_n 0, 0, 0, 0)) (cod_246 rfl) rfl rfl rfl ?_
      refine x_s (q := (.sipush 264, 0, 0, 0)) (cod_246 rfl) rfl rfl rfl ?_
      refine x_s (q := (.bipush 11, 0, 0, 0)) (cod_246 rfl) rfl rfl rfl ?_
      refine x_s (q := (.iload 5, 0, 0, 0)) (cod_246 rfl) rfl rfl rfl ?_
      refine x_s (q := (.imul, 0, 0, 0)) (cod_246 rfl) rfl rfl rfl ?_
      refine x_s (q := (.iadd, 0, 0, 0)) (cod_246 rfl) rfl rfl rfl ?_
      refine x_s (q := (.iconst 1, 0, 0, 0)) (cod_246 rfl) rfl rfl rfl ?_
      refine x_s (q := (.iadd, 0, 0, 0)) (cod_246 rfl) rfl rfl rfl ?_
      obtain ⟨c11, H12⟩ := H10
      refine x_call (as := [(1, 597), (0, wr ((wr (264 + (wr (11 * (m 613 (wr ((wr (24 * (wr (a1 + 1)))) + a3))))))) + 1))]) (rest := [(0, wr (5 * (m 602 (wr ((wr (264 + (wr (11 * (m 613 (wr ((wr (24 * a1)) + a2))))))) + 1)))))]) (cod_246 rfl) rfl rfl (by decide) (by decide) rfl rfl (Nat.le_of_ble_eq_true rfl) (rcv0 sq_l_597_0 sq_p_597 (by decide)) (Nat.le_of_ble_eq_true rfl) ?_
      refine x_pure (p182ax c11) ?_
      show X 246 72 [(1, 597), (0, a1), (0, a2), (0, a3), (0, m 613 (wr ((wr (24 * a1)) + a2))), (0, m 613 (wr ((wr (24 * (wr (a1 + 1)))) + a3))), (9, 0)] [(0, m 602 (wr ((wr (264 + (wr (11 * (m 613 (wr ((wr (24 * (wr (a1 + 1)))) + a3))))))) + 1))), (0, wr (5 * (m 602 (wr ((wr (264 + (wr (11 * (m 613 (wr ((wr (24 * a1)) + a2))))))) + 1)))))] m _
      refine x_s (q := (.iadd, 0, 0, 0)) (cod_246 rfl) rfl rfl rfl ?_
      refine x_s (q := (.istore 6, 0, 0, 0)) (cod_246 rfl) rfl rfl rfl ?_
      refine x_s (q := (.aload_n 0, 0, 0, 0)) (cod_246 rfl) rfl rfl rfl ?_
      refine x_s (q := (.sipush 528, 0, 0, 0)) (cod_246 rfl) rfl rfl rfl ?_
      refine x_s (q := (.iload 6, 0, 0, 0)) (cod_246 rfl) rfl rfl rfl ?_
      refine x_s (q := (.iadd, 0, 0, 0)) (cod_246 rfl) rfl rfl rfl ?_
      obtain ⟨c13, H14⟩ := H12
      refine x_call (as := [(1, 597), (0, wr (528 + (wr ((wr (5 * (m 602 (wr ((wr (264 + (wr (11 * (m 613 (wr ((wr (24 * a1)) + a2))))))) + 1))))) + (m 602 (wr ((wr (264 + (wr (11 * (m 613 (wr ((wr (24 * (wr (a1 + 1)))) + a3))))))) + 1)))))))]) (rest := []) (cod_246 rfl) rfl rfl (by decide) (by decide) rfl rfl (Nat.le_of_ble_eq_true rfl) (rcv0 sq_l_597_0 sq_p_597 (by decide)) (Nat.le_of_ble_eq_true rfl) ?_
      refine x_pure (p182ax c13) ?_
      show X 246 85 [(1, 597), (0, a1), (0, a2), (0, a3), (0, m 613 (wr ((wr (24 * a1)) + a2))), (0, m 613 (wr ((wr (24 * (wr (a1 + 1)))) + a3))), (0, wr ((wr (5 * (m 602 (wr ((wr (264 + (wr (11 * (m 613 (wr ((wr (24 * a1)) + a2))))))) + 1))))) + (m 602 (wr ((wr (264 + (wr (11 * (m 613 (wr ((wr (24 * (wr (a1 + 1)))) + a3))))))) + 1)))))] [(0, m 602 (wr (528 + (wr ((wr (5 * (m 602 (wr ((wr (264 + (wr (11 * (m 613 (wr ((wr (24 * a1)) + a2))))))) + 1))))) + (m 602 (wr ((wr (264 + (wr (11 * (m 613 (wr ((wr (24 * (wr (a1 + 1)))) + a3))))))) + 1))))))))] m _
      refine x_s (q := (.iconst 1, 0, 0, 0)) (cod_246 rfl) rfl rfl rfl ?_
      refine x_ic (p := ¬ (m 602 (wr (528 + (wr ((wr (5 * (m 602 (wr ((wr (264 + (wr (11 * (m 613 (wr ((wr (24 * a1)) + a2))))))) + 1))))) + (m 602 (wr ((wr (264 + (wr (11 * (m 613 (wr ((wr (24 * (wr (a1 + 1)))) + a3))))))) + 1)))))))) = 1) (tgt := 124) (cod_246 rfl) (by decide) xj_ne (fun h => ?_) (fun h => ?_)
      · have H15 := H14.2 h
        refine x_s (q := (.aload_n 0, 0, 0, 0)) (cod_246 rfl) rfl rfl rfl ?_
        refine x_s (q := (.sipush 553, 0, 0, 0)) (cod_246 rfl) rfl rfl rfl ?_
        refine x_s (q := (.iload 6, 0, 0, 0)) (cod_246 rfl) rfl rfl rfl ?_
        refine x_s (q := (.iadd, 0, 0, 0)) (cod_246 rfl) rfl rfl rfl ?_
        obtain ⟨c17, H18⟩ := H15
        refine x_call (as := [(1, 597), (0, wr (553 + (wr ((wr (5 * (m 602 (wr ((wr (264 + (wr (11 * (m 613 (wr ((wr (24 * a1)) + a2))))))) + 1))))) + (m 602 (wr ((wr (264 + (wr (11 * (m 613 (wr ((wr (24 * (wr (a1 + 1)))) + a3))))))) + 1)))))))]) (rest := []) (cod_246 rfl) rfl rfl (by decide) (by decide) rfl rfl (Nat.le_of_ble_eq_true rfl) (rcv0 sq_l_597_0 sq_p_597 (by decide)) (Nat.le_of_ble_eq_true rfl) ?_
        refine x_pure (p182ax c17) ?_
        show X 246 134 [(1, 597), (0, a1), (0, a2), (0, a3), (0, m 613 (wr ((wr (24 * a1)) + a2))), (0, m 613 (wr ((wr (24 * (wr (a1 + 1)))) + a3))), (0, wr ((wr (5 * (m 602 (wr ((wr (264 + (wr (11 * (m 613 (wr ((wr (24 * a1)) + a2))))))) + 1))))) + (m 602 (wr ((wr (264 + (wr (11 * (m 613 (wr ((wr (24 * (wr (a1 + 1)))) + a3))))))) + 1)))))] [(0, m 602 (wr (553 + (wr ((wr (5 * (m 602 (wr ((wr (264 + (wr (11 * (m 613 (wr ((wr (24 * a1)) + a2))))))) + 1))))) + (m 602 (wr ((wr (264 + (wr (11 * (m 613 (wr ((wr (24 * (wr (a1 + 1)))) + a3))))))) + 1))))))))] m _
        refine x_retI (t := .int) (cod_246 rfl) rfl rfl rfl ?_
        exact H18
      · have H16 := H14.1 (Classical.not_not.mp h)
        refine x_s (q := (.aload_n 0, 0, 0, 0)) (cod_246 rfl) rfl rfl rfl ?_
        refine x_s (q := (.sipush 264, 0, 0, 0)) (cod_246 rfl) rfl rfl rfl ?_
        refine x_s (q := (.bipush 11, 0, 0, 0)) (cod_246 rfl) rfl rfl rfl ?_
        refine x_s (q := (.iload 4, 0, 0, 0)) (cod_246 rfl) rfl rfl rfl ?_
        refine x_s (q := (.imul, 0, 0, 0)) (cod_246 rfl) rfl rfl rfl ?_
        refine x_s (q := (.iadd, 0, 0, 0)) (cod_246 rfl) rfl rfl rfl ?_
        refine x_s (q := (.iconst 2, 0, 0, 0)) (cod_246 rfl) rfl rfl rfl ?_
        refine x_s (q := (.iadd, 0, 0, 0)) (cod_246 rfl) rfl rfl rfl ?_
        obtain ⟨c19, H20⟩ := H16
        refine x_call (as := [(1, 597), (0, wr ((wr (264 + (wr (11 * (m 613 (wr ((wr (24 * a1)) + a2))))))) + 2))]) (rest := []) (cod_246 rfl) rfl rfl (by decide) (by decide) rfl rfl (Nat.le_of_ble_eq_true rfl) (rcv0 sq_l_597_0 sq_p_597 (by decide)) (Nat.le_of_ble_eq_true rfl) ?_
        refine x_pure (p182ax c19) ?_
        show X 246 104 [(1, 597), (0, a1), (0, a2), (0, a3), (0, m 613 (wr ((wr (24 * a1)) + a2))), (0, m 613 (wr ((wr (24 * (wr (a1 + 1)))) + a3))), (0, wr ((wr (5 * (m 602 (wr ((wr (264 + (wr (11 * (m 613 (wr ((wr (24 * a1)) + a2))))))) + 1))))) + (m 602 (wr ((wr (264 + (wr (11 * (m 613 (wr ((wr (24 * (wr (a1 + 1)))) + a3))))))) + 1)))))] [(0, m 602 (wr ((wr (264 + (wr (11 * (m 613 (wr ((wr (24 * a1)) + a2))))))) + 2)))] m _
        refine x_s (q := (.aload_n 0, 0, 0, 0)) (cod_246 rfl) rfl rfl rfl ?_
        refine x_s (q := (.sipush 264, 0, 0, 0)) (cod_246 rfl) rfl rfl rfl ?_
        refine x_s (q := (.bipush 11, 0, 0, 0)) (cod_246 rfl) rfl rfl rfl ?_
        refine x_s (q := (.iload 5, 0, 0, 0)) (cod_246 rfl) rfl rfl rfl ?_
        refine x_s (q := (.imul, 0, 0, 0)) (cod_246 rfl) rfl rfl rfl ?_
        refine x_s (q := (.iadd, 0, 0, 0)) (cod_246 rfl) rfl rfl rfl ?_
        refine x_s (q := (.iconst 2, 0, 0, 0)) (cod_246 rfl) rfl rfl rfl ?_
        refine x_s (q := (.iadd, 0, 0, 0)) (cod_246 rfl) rfl rfl rfl ?_
        obtain ⟨c21, H22⟩ := H20
        refine x_call (as := [(1, 597), (0, wr ((wr (264 + (wr (11 * (m 613 (wr ((wr (24 * (wr (a1 + 1)))) + a3))))))) + 2))]) (rest := [(0, m 602 (wr ((wr (264 + (wr (11 * (m 613 (wr ((wr (24 * a1)) + a2))))))) + 2)))]) (cod_246 rfl) rfl rfl (by decide) (by decide) rfl rfl (Nat.le_of_ble_eq_true rfl) (rcv0 sq_l_597_0 sq_p_597 (by decide)) (Nat.le_of_ble_eq_true rfl) ?_
        refine x_pure (p182ax c21) ?_
        show X 246 119 [(1, 597), (0, a1), (0, a2), (0, a3), (0, m 613 (wr ((wr (24 * a1)) + a2))), (0, m 613 (wr ((wr (24 * (wr (a1 + 1)))) + a3))), (0, wr ((wr (5 * (m 602 (wr ((wr (264 + (wr (11 * (m 613 (wr ((wr (24 * a1)) + a2))))))) + 1))))) + (m 602 (wr ((wr (264 + (wr (11 * (m 613 (wr ((wr (24 * (wr (a1 + 1)))) + a3))))))) + 1)))))] [(0, m 602 (wr ((wr (264 + (wr (11 * (m 613 (wr ((wr (24 * (wr (a1 + 1)))) + a3))))))) + 2))), (0, m 602 (wr ((wr (264 + (wr (11 * (m 613 (wr ((wr (24 * a1)) + a2))))))) + 2)))] m _
        refine x_ic (p := (m 602 (wr ((wr (264 + (wr (11 * (m 613 (wr ((wr (24 * a1)) + a2))))))) + 2))) = (m 602 (wr ((wr (264 + (wr (11 * (m 613 (wr ((wr (24 * (wr (a1 + 1)))) + a3))))))) + 2)))) (tgt := 124) (cod_246 rfl) (by decide) xj_eq (fun h => ?_) (fun h => ?_)
        · have H23 := H22.1 h
          refine x_s (q := (.aload_n 0, 0, 0, 0)) (cod_246 rfl) rfl rfl rfl ?_
          refine x_s (q := (.sipush 553, 0, 0, 0)) (cod_246 rfl) rfl rfl rfl ?_
          refine x_s (q := (.iload 6, 0, 0, 0)) (cod_246 rfl) rfl rfl rfl ?_
          refine x_s (q := (.iadd, 0, 0, 0)) (cod_246 rfl) rfl rfl rfl ?_
          obtain ⟨c25, H26⟩ := H23
          refine x_call (as := [(1, 597), (0, wr (553 + (wr ((wr (5 * (m 602 (wr ((wr (264 + (wr (11 * (m 613 (wr ((wr (24 * a1)) + a2))))))) + 1))))) + (m 602 (wr ((wr (264 + (wr (11 * (m 613 (wr ((wr (24 * (wr (a1 + 1)))) + a3))))))) + 1)))))))]) (rest := []) (cod_246 rfl) rfl rfl (by decide) (by decide) rfl rfl (Nat.le_of_ble_eq_true rfl) (rcv0 sq_l_597_0 sq_p_597 (by decide)) (Nat.le_of_ble_eq_true rfl) ?_
          refine x_pure (p182ax c25) ?_
          show X 246 134 [(1, 597), (0, a1), (0, a2), (0, a3), (0, m 613 (wr ((wr (24 * a1)) + a2))), (0, m 613 (wr ((wr (24 * (wr (a1 + 1)))) + a3))), (0, wr ((wr (5 * (m 602 (wr ((wr (264 + (wr (11 * (m 613 (wr ((wr (24 * a1)) + a2))))))) + 1))))) + (m 602 (wr ((wr (264 + (wr (11 * (m 613 (wr ((wr (24 * (wr (a1 + 1)))) + a3))))))) + 1)))))] [(0, m 602 (wr (553 + (wr ((wr (5 * (m 602 (wr ((wr (264 + (wr (11 * (m 613 (wr ((wr (24 * a1)) + a2))))))) + 1))))) + (m 602 (wr ((wr (264 + (wr (11 * (m 613 (wr ((wr (24 * (wr (a1 + 1)))) + a3))))))) + 1))))))))] m _
          refine x_retI (t := .int) (cod_246 rfl) rfl rfl rfl ?_
          exact H26
        · have H24 := H22.2 h
          refine x_s (q := (.iconst (-1), 0, 0, 0)) (cod_246 rfl) rfl rfl rfl ?_
          refine x_retI (t := .int) (cod_246 rfl) rfl rfl rfl ?_
          exact H24
    · have H8 := H6.1 (Classical.not_not.mp h)
      refine x_s (q := (.iconst 0, 0, 0, 0)) (cod_246 rfl) rfl rfl rfl ?_
      refine x_retI (t := .int) (cod_246 rfl) rfl rfl rfl ?_
      exact H8
theorem e246 {m : Mm} {K : Int → Mm → Prop} (a1 : Int) (a2 : Int) (a3 : Int) 
  (H : (0 ≤ (wr ((wr (24 * a1)) + a2)) ∧ (wr ((wr (24 * a1)) + a2)) < 240) ∧ (0 ≤ (wr ((wr (24 * (wr (a1 + 1)))) + a3)) ∧ (wr ((wr (24 * (wr (a1 + 1)))) + a3)) < 240) ∧ ((m 613 (wr ((wr (24 * a1)) + a2))) < 0 → K 0 m) ∧ (¬ (m 613 (wr ((wr (24 * a1)) + a2))) < 0 → ((m 613 (wr ((wr (24 * (wr (a1 + 1)))) + a3))) < 0 → K 0 m) ∧ (¬ (m 613 (wr ((wr (24 * (wr (a1 + 1)))) + a3))) < 0 → (m 597 16 = 0 ∧ 0 ≤ (wr ((wr (264 + (wr (11 * (m 613 (wr ((wr (24 * a1)) + a2))))))) + 1)) ∧ (wr ((wr (264 + (wr (11 * (m 613 (wr ((wr (24 * a1)) + a2))))))) + 1)) < 1166) ∧ (m 597 16 = 0 ∧ 0 ≤ (wr ((wr (264 + (wr (11 * (m 613 (wr ((wr (24 * (wr (a1 + 1)))) + a3))))))) + 1)) ∧ (wr ((wr (264 + (wr (11 * (m 613 (wr ((wr (24 * (wr (a1 + 1)))) + a3))))))) + 1)) < 1166) ∧ (m 597 16 = 0 ∧ 0 ≤ (wr (528 + (wr ((wr (5 * (m 602 (wr ((wr (264 + (wr (11 * (m 613 (wr ((wr (24 * a1)) + a2))))))) + 1))))) + (m 602 (wr ((wr (264 + (wr (11 * (m 613 (wr ((wr (24 * (wr (a1 + 1)))) + a3))))))) + 1))))))) ∧ (wr (528 + (wr ((wr (5 * (m 602 (wr ((wr (264 + (wr (11 * (m 613 (wr ((wr (24 * a1)) + a2))))))) + 1))))) + (m 602 (wr ((wr (264 + (wr (11 * (m 613 (wr ((wr (24 * (wr (a1 + 1)))) + a3))))))) + 1))))))) < 1166) ∧ ((m 602 (wr (528 + (wr ((wr (5 * (m 602 (wr ((wr (264 + (wr (11 * (m 613 (wr ((wr (24 * a1)) + a2))))))) + 1))))) + (m 602 (wr ((wr (264 + (wr (11 * (m 613 (wr ((wr (24 * (wr (a1 + 1)))) + a3))))))) + 1)))))))) = 1 → (m 597 16 = 0 ∧ 0 ≤ (wr ((wr (264 + (wr (11 * (m 613 (wr ((wr (24 * a1)) + a2))))))) + 2)) ∧ (wr ((wr (264 + (wr (11 * (m 613 (wr ((wr (24 * a1)) + a2))))))) + 2)) < 1166) ∧ (m 597 16 = 0 ∧ 0 ≤ (wr ((wr (264 + (wr (11 * (m 613 (wr ((wr (24 * (wr (a1 + 1)))) + a3))))))) + 2)) ∧ (wr ((wr (264 + (wr (11 * (m 613 (wr ((wr (24 * (wr (a1 + 1)))) + a3))))))) + 2)) < 1166) ∧ ((m 602 (wr ((wr (264 + (wr (11 * (m 613 (wr ((wr (24 * a1)) + a2))))))) + 2))) = (m 602 (wr ((wr (264 + (wr (11 * (m 613 (wr ((wr (24 * (wr (a1 + 1)))) + a3))))))) + 2))) → (m 597 16 = 0 ∧ 0 ≤ (wr (553 + (wr ((wr (5 * (m 602 (wr ((wr (264 + (wr (11 * (m 613 (wr ((wr (24 * a1)) + a2))))))) + 1))))) + (m 602 (wr ((wr (264 + (wr (11 * (m 613 (wr ((wr (24 * (wr (a1 + 1)))) + a3))))))) + 1))))))) ∧ (wr (553 + (wr ((wr (5 * (m 602 (wr ((wr (264 + (wr (11 * (m 613 (wr ((wr (24 * a1)) + a2))))))) + 1))))) + (m 602 (wr ((wr (264 + (wr (11 * (m 613 (wr ((wr (24 * (wr (a1 + 1)))) + a3))))))) + 1))))))) < 1166) ∧ K (m 602 (wr (553 + (wr ((wr (5 * (m 602 (wr ((wr (264 + (wr (11 * (m 613 (wr ((wr (24 * a1)) + a2))))))) + 1))))) + (m 602 (wr ((wr (264 + (wr (11 * (m 613 (wr ((wr (24 * (wr (a1 + 1)))) + a3))))))) + 1)))))))) m) ∧ (¬ (m 602 (wr ((wr (264 + (wr (11 * (m 613 (wr ((wr (24 * a1)) + a2))))))) + 2))) = (m 602 (wr ((wr (264 + (wr (11 * (m 613 (wr ((wr (24 * (wr (a1 + 1)))) + a3))))))) + 2))) → K (-1) m)) ∧ (¬ (m 602 (wr (528 + (wr ((wr (5 * (m 602 (wr ((wr (264 + (wr (11 * (m 613 (wr ((wr (24 * a1)) + a2))))))) + 1))))) + (m 602 (wr ((wr (264 + (wr (11 * (m 613 (wr ((wr (24 * (wr (a1 + 1)))) + a3))))))) + 1)))))))) = 1 → (m 597 16 = 0 ∧ 0 ≤ (wr (553 + (wr ((wr (5 * (m 602 (wr ((wr (264 + (wr (11 * (m 613 (wr ((wr (24 * a1)) + a2))))))) + 1))))) + (m 602 (wr ((wr (264 + (wr (11 * (m 613 (wr ((wr (24 * (wr (a1 + 1)))) + a3))))))) + 1))))))) ∧ (wr (553 + (wr ((wr (5 * (m 602 (wr ((wr (264 + (wr (11 * (m 613 (wr ((wr (24 * a1)) + a2))))))) + 1))))) + (m 602 (wr ((wr (264 + (wr (11 * (m 613 (wr ((wr (24 * (wr (a1 + 1)))) + a3))))))) + 1))))))) < 1166) ∧ K (m 602 (wr (553 + (wr ((wr (5 * (m 602 (wr ((wr (264 + (wr (11 * (m 613 (wr ((wr (24 * a1)) + a2))))))) + 1))))) + (m 602 (wr ((wr (264 + (wr (11 * (m 613 (wr ((wr (24 * (wr (a1 + 1)))) + a3))))))) + 1)))))))) m)))) : TrI 246 [(1, 597), (0, a1), (0, a2), (0, a3)] m K := by
  exact w246_0 a1 a2 a3 H
set_option maxRecDepth 100000 in
theorem w247_0 {m : Mm} {K : Int → Mm → Prop} (a1 : Int) 
  (H : X 247 5 [(1, 597), (0, a1), (0, (-2)), (0, 0), (9, 0)] [] m (qI K)) : X 247 0 [(1, 597), (0, a1), (9, 0), (9, 0), (9, 0)] [] m (qI K) := by
  refine x_s (q := (.bipush (-2), 0, 0, 0)) (cod_247 rfl) rfl rfl rfl ?_
  refine x_s (q := (.istore_n 2, 0, 0, 0)) (cod_247 rfl) rfl rfl rfl ?_
  refine x_s (q := (.iconst 0, 0, 0, 0)) (cod_247 rfl) rfl rfl rfl ?_
  refine x_s (q := (.istore_n 3, 0, 0, 0)) (cod_247 rfl) rfl rfl rfl ?_
  exact H
theorem e247 {m : Mm} {K : Int → Mm → Prop} (a1 : Int) 
  (H : X 247 5 [(1, 597), (0, a1), (0, (-2)), (0, 0), (9, 0)] [] m (qI K)) : TrI 247 [(1, 597), (0, a1)] m K := by
  exact w247_0 a1 H
set_option maxRecDepth 100000 in
theorem w247_5 {m : Mm} {K : Int → Mm → Prop} (a1 : Int) (a2 : Int) (a3 : Int) (ua4 : aV) 
  (H : (0 ≤ a1 ∧ a1 < 10) ∧ (a3 < (m 615 a1) → (0 ≤ (wr ((wr (24 * a1)) + a3)) ∧ (wr ((wr (24 * a1)) + a3)) < 240) ∧ ((m 616 (wr ((wr (24 * a1)) + a3))) < 0 → X 247 5 [(1, 597), (0, a1), (0, a2), (0, wr (a3 + 1)), (0, m 616 (wr ((wr (24 * a1)) + a3)))] [] m (qI K)) ∧ (¬ (m 616 (wr ((wr (24 * a1)) + a3))) < 0 → (a2 < 0 → X 247 5 [(1, 597), (0, a1), (0, m 616 (wr ((wr (24 * a1)) + a3))), (0, wr (a3 + 1)), (0, m 616 (wr ((wr (24 * a1)) + a3)))] [] m (qI K)) ∧ (¬ a2 < 0 → ((m 616 (wr ((wr (24 * a1)) + a3))) < a2 → X 247 5 [(1, 597), (0, a1), (0, m 616 (wr ((wr (24 * a1)) + a3))), (0, wr (a3 + 1)), (0, m 616 (wr ((wr (24 * a1)) + a3)))] [] m (qI K)) ∧ (¬ (m 616 (wr ((wr (24 * a1)) + a3))) < a2 → X 247 5 [(1, 597), (0, a1), (0, a2), (0, wr (a3 + 1)), (0, m 616 (wr ((wr (24 * a1)) + a3)))] [] m (qI K))))) ∧ (¬ a3 < (m 615 a1) → K a2 m)) : X 247 5 [(1, 597), (0, a1), (0, a2), (0, a3), ua4] [] m (qI K) := by
  refine x_s (q := (.iload_n 3, 0, 0, 0)) (cod_247 rfl) rfl rfl rfl ?_
  refine x_s (q := (.aload_n 0, 0, 0, 0)) (cod_247 rfl) rfl rfl rfl ?_
  refine x_gc (kk := 37) (c := 615) (t := 1) (cod_247 rfl) sq_p_597 sq_l_597_37 rfl rfl ?_
  refine x_s (q := (.iload_n 1, 0, 0, 0)) (cod_247 rfl) rfl rfl rfl ?_
  obtain ⟨c1, H2⟩ := H
  refine x_iald (cod_247 rfl) sq_a_615.s (sq_a_615.k c1.1 c1.2) ?_
  refine x_ic (p := ¬ a3 < (m 615 a1)) (tgt := 52) (cod_247 rfl) (by decide) xn_ge (fun h => ?_) (fun h => ?_)
  · have H3 := H2.2 h
    refine x_s (q := (.iload_n 2, 0, 0, 0)) (cod_247 rfl) rfl rfl rfl ?_
    refine x_retI (t := .int) (cod_247 rfl) rfl rfl rfl ?_
    exact H3
  · have H4 := H2.1 (Classical.not_not.mp h)
    refine x_s (q := (.aload_n 0, 0, 0, 0)) (cod_247 rfl) rfl rfl rfl ?_
    refine x_gc (kk := 41) (c := 616) (t := 1) (cod_247 rfl) sq_p_597 sq_l_597_41 rfl rfl ?_
    refine x_s (q := (.bipush 24, 0, 0, 0)) (cod_247 rfl) rfl rfl rfl ?_
    refine x_s (q := (.iload_n 1, 0, 0, 0)) (cod_247 rfl) rfl rfl rfl ?_
    refine x_s (q := (.imul, 0, 0, 0)) (cod_247 rfl) rfl rfl rfl ?_
    refine x_s (q := (.iload_n 3, 0, 0, 0)) (cod_247 rfl) rfl rfl rfl ?_
    refine x_s (q := (.iadd, 0, 0, 0)) (cod_247 rfl) rfl rfl rfl ?_
    obtain ⟨c5, H6⟩ := H4
    refine x_iald (cod_247 rfl) sq_a_616.s (sq_a_616.k c5.1 c5.2) ?_
    refine x_s (q := (.istore 4, 0, 0, 0)) (cod_247 rfl) rfl rfl rfl ?_
    refine x_s (q := (.iload 4, 0, 0, 0)) (cod_247 rfl) rfl rfl rfl ?_
    refine x_if (p := (m 616 (wr ((wr (24 * a1)) + a3))) < 0) (tgt := 46) (cod_247 rfl) (by decide) xj_lt (fun h => ?_) (fun h => ?_)
    · have H7 := H6.1 h
      refine x_s (q := (.iinc 3 1, 0, 0, 0)) (cod_247 rfl) rfl rfl rfl ?_
      refine x_go (tgt := 5) (cod_247 rfl) (by decide) ?_
      exact H7
    · have H8 := H6.2 h
      refine x_s (q := (.iload_n 2, 0, 0, 0)) (cod_247 rfl) rfl rfl rfl ?_
      refine x_if (p := a2 < 0) (tgt := 43) (cod_247 rfl) (by decide) xj_lt (fun h => ?_) (fun h => ?_)
      · have H9 := H8.1 h
        refine x_s (q := (.iload 4, 0, 0, 0)) (cod_247 rfl) rfl rfl rfl ?_
        refine x_s (q := (.istore_n 2, 0, 0, 0)) (cod_247 rfl) rfl rfl rfl ?_
        refine x_s (q := (.iinc 3 1, 0, 0, 0)) (cod_247 rfl) rfl rfl rfl ?_
        refine x_go (tgt := 5) (cod_247 rfl) (by decide) ?_
        exact H9
      · have H10 := H8.2 h
        refine x_s (q := (.iload 4, 0, 0, 0)) (cod_247 rfl) rfl rfl rfl ?_
        refine x_s (q := (.iload_n 2, 0, 0, 0)) (cod_247 rfl) rfl rfl rfl ?_
        refine x_ic (p := ¬ (m 616 (wr ((wr (24 * a1)) + a3))) < a2) (tgt := 46) (cod_247 rfl) (by decide) xn_ge (fun h => ?_) (fun h => ?_)
        · have H11 := H10.2 h
          refine x_s (q := (.iinc 3 1, 0, 0, 0)) (cod_247 rfl) rfl rfl rfl ?_
          refine x_go (tgt := 5) (cod_247 rfl) (by decide) ?_
          exact H11
        · have H12 := H10.1 (Classical.not_not.mp h)
          refine x_s (q := (.iload 4, 0, 0, 0)) (cod_247 rfl) rfl rfl rfl ?_
          refine x_s (q := (.istore_n 2, 0, 0, 0)) (cod_247 rfl) rfl rfl rfl ?_
          refine x_s (q := (.iinc 3 1, 0, 0, 0)) (cod_247 rfl) rfl rfl rfl ?_
          refine x_go (tgt := 5) (cod_247 rfl) (by decide) ?_
          exact H12
set_option maxRecDepth 100000 in
theorem w248_0 {m : Mm} {K : Int → Mm → Prop} (a1 : Int) 
  (H : ∀ m1, m1 = umem m 597 0 0 → ((0 ≤ a1 ∧ a1 ≤ (wr ((m1 597 23) - 1))) → TrI 249 [(1, 597)] m1 fun v7 m5 => (v7 < 0 → K (-2) m5) ∧ (¬ v7 < 0 → (0 ≤ a1 ∧ a1 < 10) ∧ K (m5 618 a1) m5)) ∧ (¬ (0 ≤ a1 ∧ a1 ≤ (wr ((m1 597 23) - 1))) → K (-1) m1)) : X 248 0 [(1, 597), (0, a1)] [] m (qI K) := by
  refine x_s (q := (.aload_n 0, 0, 0, 0)) (cod_248 rfl) rfl rfl rfl ?_
  refine x_s (q := (.iconst 0, 0, 0, 0)) (cod_248 rfl) rfl rfl rfl ?_
  refine x_pf (kk := 0) (t := 0) (cod_248 rfl) sq_p_597 sq_l_597_0 rfl rfl rfl ?_
  have H2 := H _ rfl
  generalize umem m 597 0 0 = m1 at H2 ⊢
  refine x_s (q := (.aload_n 0, 0, 0, 0)) (cod_248 rfl) rfl rfl rfl ?_
  refine x_s (q := (.iload_n 1, 0, 0, 0)) (cod_248 rfl) rfl rfl rfl ?_
  refine x_call (as := [(1, 597), (0, a1)]) (rest := []) (cod_248 rfl) rfl rfl (by decide) (by decide) rfl rfl (Nat.le_of_ble_eq_true rfl) (rcv0 sq_l_597_0 sq_p_597 (by decide)) (Nat.le_of_ble_eq_true rfl) ?_
  show X 210 0 [(1, 597), (0, a1)] [] m1 _
  refine x_s (q := (.iload_n 1, 0, 0, 0)) (cod_210 rfl) rfl rfl rfl ?_
  refine x_s (q := (.iconst 0, 0, 0, 0)) (cod_210 rfl) rfl rfl rfl ?_
  refine x_s (q := (.aload_n 0, 0, 0, 0)) (cod_210 rfl) rfl rfl rfl ?_
  refine x_gf (kk := 23) (t := 0) (cod_210 rfl) sq_p_597 sq_l_597_23 rfl rfl ?_
  refine x_s (q := (.iconst 1, 0, 0, 0)) (cod_210 rfl) rfl rfl rfl ?_
  refine x_s (q := (.isub, 0, 0, 0)) (cod_210 rfl) rfl rfl rfl ?_
  refine x_call (as := [(0, a1), (0, 0), (0, wr ((m1 597 23) - 1))]) (rest := []) (cod_210 rfl) rfl rfl (by decide) (by decide) rfl rfl (Nat.le_of_ble_eq_true rfl) rfl (Nat.le_of_ble_eq_true rfl) ?_
  refine x_pure (p172) ?_
  show X 210 11 [(1, 597), (0, a1)] [(0, bi (0 ≤ a1 ∧ a1 ≤ (wr ((m1 597 23) - 1))))] m1 _
  refine x_rI (t := .boolean) (cod_210 rfl) rfl rfl (bok_b (bi_01 _)) ?_
  show X 248 10 [(1, 597), (0, a1)] [(0, bi (0 ≤ a1 ∧ a1 ≤ (wr ((m1 597 23) - 1))))] m1 _
  refine x_if (p := 0 ≤ a1 ∧ a1 ≤ (wr ((m1 597 23) - 1))) (tgt := 15) (cod_248 rfl) (by decide) xb_ne (fun h => ?_) (fun h => ?_)
  · have H3 := H2.1 h
    refine x_s (q := (.aload_n 0, 0, 0, 0)) (cod_248 rfl) rfl rfl rfl ?_
    refine x_call (as := [(1, 597)]) (rest := []) (cod_248 rfl) rfl rfl (by decide) (by decide) rfl rfl (Nat.le_of_ble_eq_true rfl) (rcv0 sq_l_597_0 sq_p_597 (by decide)) (Nat.le_of_ble_eq_true rfl) ?_
    refine X.imp H3 ?_
    rintro _ m5 ⟨v7, rfl, H6⟩
    show X 248 19 [(1, 597), (0, a1)] [(0, v7)] m5 _
    refine x_if (p := ¬ v7 < 0) (tgt := 27) (cod_248 rfl) (by decide) xn_ge (fun h => ?_) (fun h => ?_)
    · have H8 := H6.2 h
      refine x_s (q := (.aload_n 0, 0, 0, 0)) (cod_248 rfl) rfl rfl rfl ?_
      refine x_gc (kk := 43) (c := 618) (t := 1) (cod_248 rfl) sq_p_597 sq_l_597_43 rfl rfl ?_
      refine x_s (q := (.iload_n 1, 0, 0, 0)) (cod_248 rfl) rfl rfl rfl ?_
      obtain ⟨c10, H11⟩ := H8
      refine x_iald (cod_248 rfl) sq_a_618.s (sq_a_618.k c10.1 c10.2) ?_
      refine x_retI (t := .int) (cod_248 rfl) rfl rfl rfl ?_
      exact H11
    · have H9 := H6.1 (Classical.not_not.mp h)
      refine x_s (q := (.bipush (-2), 0, 0, 0)) (cod_248 rfl) rfl rfl rfl ?_
      refine x_go (tgt := 33) (cod_248 rfl) (by decide) ?_
      refine x_retI (t := .int) (cod_248 rfl) rfl rfl rfl ?_
      exact H9
  · have H4 := H2.2 h
    refine x_s (q := (.iconst (-1), 0, 0, 0)) (cod_248 rfl) rfl rfl rfl ?_
    refine x_retI (t := .int) (cod_248 rfl) rfl rfl rfl ?_
    exact H4
theorem e248 {m : Mm} {K : Int → Mm → Prop} (a1 : Int) 
  (H : ∀ m1, m1 = umem m 597 0 0 → ((0 ≤ a1 ∧ a1 ≤ (wr ((m1 597 23) - 1))) → TrI 249 [(1, 597)] m1 fun v7 m5 => (v7 < 0 → K (-2) m5) ∧ (¬ v7 < 0 → (0 ≤ a1 ∧ a1 < 10) ∧ K (m5 618 a1) m5)) ∧ (¬ (0 ≤ a1 ∧ a1 ≤ (wr ((m1 597 23) - 1))) → K (-1) m1)) : TrI 248 [(1, 597), (0, a1)] m K := by
  exact w248_0 a1 H
set_option maxRecDepth 100000 in
theorem w249_0 {m : Mm} {K : Int → Mm → Prop}  
  (H : TrV 241 [(1, 597)] m fun m1 => TrI 242 [(1, 597)] m1 fun v5 m3 => X 249 13 [(1, 597), (0, v5), (0, v5), (0, 0), (9, 0)] [] m3 (qI K)) : X 249 0 [(1, 597), (9, 0), (9, 0), (9, 0), (9, 0)] [] m (qI K) := by
  refine x_s (q := (.aload_n 0, 0, 0, 0)) (cod_249 rfl) rfl rfl rfl ?_
  refine x_call (as := [(1, 597)]) (rest := []) (cod_249 rfl) rfl rfl (by decide) (by decide) rfl rfl (Nat.le_of_ble_eq_true rfl) (rcv0 sq_l_597_0 sq_p_597 (by decide)) (Nat.le_of_ble_eq_true rfl) ?_
  refine X.imp H ?_
  rintro _ m1 ⟨rfl, H2⟩
  show X 249 4 [(1, 597), (9, 0), (9, 0), (9, 0), (9, 0)] [] m1 _
  refine x_s (q := (.aload_n 0, 0, 0, 0)) (cod_249 rfl) rfl rfl rfl ?_
  refine x_call (as := [(1, 597)]) (rest := []) (cod_249 rfl) rfl rfl (by decide) (by decide) rfl rfl (Nat.le_of_ble_eq_true rfl) (rcv0 sq_l_597_0 sq_p_597 (by decide)) (Nat.le_of_ble_eq_true rfl) ?_
  refine X.imp H2 ?_
  rintro _ m3 ⟨v5, rfl, H4⟩
  show X 249 8 [(1, 597), (9, 0), (9, 0), (9, 0), (9, 0)] [(0, v5)] m3 _
  refine x_s (q := (.istore_n 1, 0, 0, 0)) (cod_249 rfl) rfl rfl rfl ?_
  refine x_s (q := (.iload_n 1, 0, 0, 0)) (cod_249 rfl) rfl rfl rfl ?_
  refine x_s (q := (.istore_n 2, 0, 0, 0)) (cod_249 rfl) rfl rfl rfl ?_
  refine x_s (q := (.iconst 0, 0, 0, 0)) (cod_249 rfl) rfl rfl rfl ?_
  refine x_s (q := (.istore_n 3, 0, 0, 0)) (cod_249 rfl) rfl rfl rfl ?_
  exact H4
theorem e249 {m : Mm} {K : Int → Mm → Prop}  
  (H : TrV 241 [(1, 597)] m fun m1 => TrI 242 [(1, 597)] m1 fun v5 m3 => X 249 13 [(1, 597), (0, v5), (0, v5), (0, 0), (9, 0)] [] m3 (qI K)) : TrI 249 [(1, 597)] m K := by
  exact w249_0  H
set_option maxRecDepth 100000 in
theorem w249_13 {m : Mm} {K : Int → Mm → Prop} (a1 : Int) (a2 : Int) (a3 : Int) (ua4 : aV) 
  (H : (a3 < (m 597 23) → (a1 < 0 → K a1 m) ∧ (¬ a1 < 0 → X 249 28 [(1, 597), (0, a1), (0, a2), (0, a3), (0, 0)] [] m (qI K))) ∧ (¬ a3 < (m 597 23) → K a1 m)) : X 249 13 [(1, 597), (0, a1), (0, a2), (0, a3), ua4] [] m (qI K) := by
  refine x_s (q := (.iload_n 3, 0, 0, 0)) (cod_249 rfl) rfl rfl rfl ?_
  refine x_s (q := (.aload_n 0, 0, 0, 0)) (cod_249 rfl) rfl rfl rfl ?_
  refine x_gf (kk := 23) (t := 0) (cod_249 rfl) sq_p_597 sq_l_597_23 rfl rfl ?_
  refine x_ic (p := ¬ a3 < (m 597 23)) (tgt := 100) (cod_249 rfl) (by decide) xn_ge (fun h => ?_) (fun h => ?_)
  · have H1 := H.2 h
    refine x_s (q := (.iload_n 1, 0, 0, 0)) (cod_249 rfl) rfl rfl rfl ?_
    refine x_retI (t := .int) (cod_249 rfl) rfl rfl rfl ?_
    exact H1
  · have H2 := H.1 (Classical.not_not.mp h)
    refine x_s (q := (.iload_n 1, 0, 0, 0)) (cod_249 rfl) rfl rfl rfl ?_
    refine x_if (p := a1 < 0) (tgt := 100) (cod_249 rfl) (by decide) xj_lt (fun h => ?_) (fun h => ?_)
    · have H3 := H2.1 h
      refine x_s (q := (.iload_n 1, 0, 0, 0)) (cod_249 rfl) rfl rfl rfl ?_
      refine x_retI (t := .int) (cod_249 rfl) rfl rfl rfl ?_
      exact H3
    · have H4 := H2.2 h
      refine x_s (q := (.iconst 0, 0, 0, 0)) (cod_249 rfl) rfl rfl rfl ?_
      refine x_s (q := (.istore 4, 0, 0, 0)) (cod_249 rfl) rfl rfl rfl ?_
      exact H4
set_option maxRecDepth 100000 in
theorem w249_28 {m : Mm} {K : Int → Mm → Prop} (a1 : Int) (a2 : Int) (a3 : Int) (a4 : Int) 
  (H : TrI 250 [(1, 597), (0, a3), (0, a4), (0, a2)] m fun v3 m1 => (v3 = 0 → X 249 28 [(1, 597), (0, a1), (0, a2), (0, a3), (0, wr (a4 + 1))] [] m1 (qI K)) ∧ (¬ v3 = 0 → (0 ≤ a3 ∧ a3 < 10) ∧ ∀ m8, m8 = umem m1 618 a3 a4 → (0 ≤ (wr ((wr (24 * a3)) + a4)) ∧ (wr ((wr (24 * a3)) + a4)) < 240) ∧ (a3 > 0 → (0 ≤ (wr (a3 - 1)) ∧ (wr (a3 - 1)) < 10) ∧ TrI 246 [(1, 597), (0, wr (a3 - 1)), (0, m8 618 (wr (a3 - 1))), (0, a4)] m8 fun v18 m16 => X 249 13 [(1, 597), (0, a1), (0, wr (a2 - (wr ((m8 614 (wr ((wr (24 * a3)) + a4))) + v18)))), (0, wr (a3 + 1)), (0, a4)] [] m16 (qI K)) ∧ (¬ a3 > 0 → X 249 13 [(1, 597), (0, a1), (0, wr (a2 - (wr ((m8 614 (wr ((wr (24 * a3)) + a4))) + 0)))), (0, wr (a3 + 1)), (0, a4)] [] m8 (qI K)))) : X 249 28 [(1, 597), (0, a1), (0, a2), (0, a3), (0, a4)] [] m (qI K) := by
  refine x_s (q := (.aload_n 0, 0, 0, 0)) (cod_249 rfl) rfl rfl rfl ?_
  refine x_s (q := (.iload_n 3, 0, 0, 0)) (cod_249 rfl) rfl rfl rfl ?_
  refine x_s (q := (.iload 4, 0, 0, 0)) (cod_249 rfl) rfl rfl rfl ?_
  refine x_s (q := (.iload_n 2, 0, 0, 0)) (cod_249 rfl) rfl rfl rfl ?_
  refine x_call (as := [(1, 597), (0, a3), (0, a4), (0, a2)]) (rest := []) (cod_249 rfl) rfl rfl (by decide) (by decide) rfl rfl (Nat.le_of_ble_eq_true rfl) (rcv0 sq_l_597_0 sq_p_597 (by decide)) (Nat.le_of_ble_eq_true rfl) ?_
  refine X.imp H ?_
  rintro _ m1 ⟨v3, rfl, H2⟩
  show X 249 36 [(1, 597), (0, a1), (0, a2), (0, a3), (0, a4)] [(0, v3)] m1 _
  refine x_if (p := ¬ v3 = 0) (tgt := 45) (cod_249 rfl) (by decide) xj_ne (fun h => ?_) (fun h => ?_)
  · have H4 := H2.2 h
    refine x_s (q := (.aload_n 0, 0, 0, 0)) (cod_249 rfl) rfl rfl rfl ?_
    refine x_gc (kk := 43) (c := 618) (t := 1) (cod_249 rfl) sq_p_597 sq_l_597_43 rfl rfl ?_
    refine x_s (q := (.iload_n 3, 0, 0, 0)) (cod_249 rfl) rfl rfl rfl ?_
    refine x_s (q := (.iload 4, 0, 0, 0)) (cod_249 rfl) rfl rfl rfl ?_
    obtain ⟨c6, H7⟩ := H4
    refine x_iast (cod_249 rfl) sq_a_618.s (sq_a_618.k c6.1 c6.2) ?_
    have H9 := H7 _ rfl
    generalize umem m1 618 a3 a4 = m8 at H9 ⊢
    refine x_s (q := (.iload_n 2, 0, 0, 0)) (cod_249 rfl) rfl rfl rfl ?_
    refine x_s (q := (.aload_n 0, 0, 0, 0)) (cod_249 rfl) rfl rfl rfl ?_
    refine x_gc (kk := 36) (c := 614) (t := 1) (cod_249 rfl) sq_p_597 sq_l_597_36 rfl rfl ?_
    refine x_s (q := (.bipush 24, 0, 0, 0)) (cod_249 rfl) rfl rfl rfl ?_
    refine x_s (q := (.iload_n 3, 0, 0, 0)) (cod_249 rfl) rfl rfl rfl ?_
    refine x_s (q := (.imul, 0, 0, 0)) (cod_249 rfl) rfl rfl rfl ?_
    refine x_s (q := (.iload 4, 0, 0, 0)) (cod_249 rfl) rfl rfl rfl ?_
    refine x_s (q := (.iadd, 0, 0, 0)) (cod_249 rfl) rfl rfl rfl ?_
    obtain ⟨c10, H11⟩ := H9
    refine x_iald (cod_249 rfl) sq_a_614.s (sq_a_614.k c10.1 c10.2) ?_
    refine x_s (q := (.iload_n 3, 0, 0, 0)) (cod_249 rfl) rfl rfl rfl ?_
    refine x_if (p := ¬ a3 > 0) (tgt := 90) (cod_249 rfl) (by decide) xn_le (fun h => ?_) (fun h => ?_)
    · have H12 := H11.2 h
      refine x_s (q := (.iconst 0, 0, 0, 0)) (cod_249 rfl) rfl rfl rfl ?_
      refine x_s (q := (.iadd, 0, 0, 0)) (cod_249 rfl) rfl rfl rfl ?_
      refine x_s (q := (.isub, 0, 0, 0)) (cod_249 rfl) rfl rfl rfl ?_
      refine x_s (q := (.istore_n 2, 0, 0, 0)) (cod_249 rfl) rfl rfl rfl ?_
      refine x_s (q := (.iinc 3 1, 0, 0, 0)) (cod_249 rfl) rfl rfl rfl ?_
      refine x_go (tgt := 13) (cod_249 rfl) (by decide) ?_
      exact H12
    · have H13 := H11.1 (Classical.not_not.mp h)
      refine x_s (q := (.aload_n 0, 0, 0, 0)) (cod_249 rfl) rfl rfl rfl ?_
      refine x_s (q := (.iload_n 3, 0, 0, 0)) (cod_249 rfl) rfl rfl rfl ?_
      refine x_s (q := (.iconst 1, 0, 0, 0)) (cod_249 rfl) rfl rfl rfl ?_
      refine x_s (q := (.isub, 0, 0, 0)) (cod_249 rfl) rfl rfl rfl ?_
      refine x_s (q := (.aload_n 0, 0, 0, 0)) (cod_249 rfl) rfl rfl rfl ?_
      refine x_gc (kk := 43) (c := 618) (t := 1) (cod_249 rfl) sq_p_597 sq_l_597_43 rfl rfl ?_
      refine x_s (q := (.iload_n 3, 0, 0, 0)) (cod_249 rfl) rfl rfl rfl ?_
      refine x_s (q := (.iconst 1, 0, 0, 0)) (cod_249 rfl) rfl rfl rfl ?_
      refine x_s (q := (.isub, 0, 0, 0)) (cod_249 rfl) rfl rfl rfl ?_
      obtain ⟨c14, H15⟩ := H13
      refine x_iald (cod_249 rfl) sq_a_618.s (sq_a_618.k c14.1 c14.2) ?_
      refine x_s (q := (.iload 4, 0, 0, 0)) (cod_249 rfl) rfl rfl rfl ?_
      refine x_call (as := [(1, 597), (0, wr (a3 - 1)), (0, m8 618 (wr (a3 - 1))), (0, a4)]) (rest := [(0, m8 614 (wr ((wr (24 * a3)) + a4))), (0, a2)]) (cod_249 rfl) rfl rfl (by decide) (by decide) rfl rfl (Nat.le_of_ble_eq_true rfl) (rcv0 sq_l_597_0 sq_p_597 (by decide)) (Nat.le_of_ble_eq_true rfl) ?_
      refine X.imp H15 ?_
      rintro _ m16 ⟨v18, rfl, H17⟩
      show X 249 87 [(1, 597), (0, a1), (0, a2), (0, a3), (0, a4)] [(0, v18), (0, m8 614 (wr ((wr (24 * a3)) + a4))), (0, a2)] m16 _
      refine x_go (tgt := 91) (cod_249 rfl) (by decide) ?_
      refine x_s (q := (.iadd, 0, 0, 0)) (cod_249 rfl) rfl rfl rfl ?_
      refine x_s (q := (.isub, 0, 0, 0)) (cod_249 rfl) rfl rfl rfl ?_
      refine x_s (q := (.istore_n 2, 0, 0, 0)) (cod_249 rfl) rfl rfl rfl ?_
      refine x_s (q := (.iinc 3 1, 0, 0, 0)) (cod_249 rfl) rfl rfl rfl ?_
      refine x_go (tgt := 13) (cod_249 rfl) (by decide) ?_
      exact H17
  · have H5 := H2.1 (Classical.not_not.mp h)
    refine x_s (q := (.iinc 4 1, 0, 0, 0)) (cod_249 rfl) rfl rfl rfl ?_
    refine x_go (tgt := 28) (cod_249 rfl) (by decide) ?_
    exact H5
set_option maxRecDepth 100000 in
theorem w250_0 {m : Mm} {K : Int → Mm → Prop} (a1 : Int) (a2 : Int) (a3 : Int) 
  (H : (a1 > 0 → (0 ≤ (wr (a1 - 1)) ∧ (wr (a1 - 1)) < 10) ∧ TrI 246 [(1, 597), (0, wr (a1 - 1)), (0, m 618 (wr (a1 - 1))), (0, a2)] m fun v7 m5 => X 250 24 [(1, 597), (0, a1), (0, a2), (0, a3), (9, 0)] [(0, v7)] m5 (qI K)) ∧ (¬ a1 > 0 → X 250 24 [(1, 597), (0, a1), (0, a2), (0, a3), (9, 0)] [(0, 0)] m (qI K))) : X 250 0 [(1, 597), (0, a1), (0, a2), (0, a3), (9, 0)] [] m (qI K) := by
  refine x_s (q := (.iload_n 1, 0, 0, 0)) (cod_250 rfl) rfl rfl rfl ?_
  refine x_if (p := ¬ a1 > 0) (tgt := 23) (cod_250 rfl) (by decide) xn_le (fun h => ?_) (fun h => ?_)
  · have H1 := H.2 h
    refine x_s (q := (.iconst 0, 0, 0, 0)) (cod_250 rfl) rfl rfl rfl ?_
    exact H1
  · have H2 := H.1 (Classical.not_not.mp h)
    refine x_s (q := (.aload_n 0, 0, 0, 0)) (cod_250 rfl) rfl rfl rfl ?_
    refine x_s (q := (.iload_n 1, 0, 0, 0)) (cod_250 rfl) rfl rfl rfl ?_
    refine x_s (q := (.iconst 1, 0, 0, 0)) (cod_250 rfl) rfl rfl rfl ?_
    refine x_s (q := (.isub, 0, 0, 0)) (cod_250 rfl) rfl rfl rfl ?_
    refine x_s (q := (.aload_n 0, 0, 0, 0)) (cod_250 rfl) rfl rfl rfl ?_
    refine x_gc (kk := 43) (c := 618) (t := 1) (cod_250 rfl) sq_p_597 sq_l_597_43 rfl rfl ?_
    refine x_s (q := (.iload_n 1, 0, 0, 0)) (cod_250 rfl) rfl rfl rfl ?_
    refine x_s (q := (.iconst 1, 0, 0, 0)) (cod_250 rfl) rfl rfl rfl ?_
    refine x_s (q := (.isub, 0, 0, 0)) (cod_250 rfl) rfl rfl rfl ?_
    obtain ⟨c3, H4⟩ := H2
    refine x_iald (cod_250 rfl) sq_a_618.s (sq_a_618.k c3.1 c3.2) ?_
    refine x_s (q := (.iload_n 2, 0, 0, 0)) (cod_250 rfl) rfl rfl rfl ?_
    refine x_call (as := [(1, 597), (0, wr (a1 - 1)), (0, m 618 (wr (a1 - 1))), (0, a2)]) (rest := []) (cod_250 rfl) rfl rfl (by decide) (by decide) rfl rfl (Nat.le_of_ble_eq_true rfl) (rcv0 sq_l_597_0 sq_p_597 (by decide)) (Nat.le_of_ble_eq_true rfl) ?_
    refine X.imp H4 ?_
    rintro _ m5 ⟨v7, rfl, H6⟩
    show X 250 20 [(1, 597), (0, a1), (0, a2), (0, a3), (9, 0)] [(0, v7)] m5 _
    refine x_go (tgt := 24) (cod_250 rfl) (by decide) ?_
    exact H6
theorem e250 {m : Mm} {K : Int → Mm → Prop} (a1 : Int) (a2 : Int) (a3 : Int) 
  (H : (a1 > 0 → (0 ≤ (wr (a1 - 1)) ∧ (wr (a1 - 1)) < 10) ∧ TrI 246 [(1, 597), (0, wr (a1 - 1)), (0, m 618 (wr (a1 - 1))), (0, a2)] m fun v7 m5 => X 250 24 [(1, 597), (0, a1), (0, a2), (0, a3), (9, 0)] [(0, v7)] m5 (qI K)) ∧ (¬ a1 > 0 → X 250 24 [(1, 597), (0, a1), (0, a2), (0, a3), (9, 0)] [(0, 0)] m (qI K))) : TrI 250 [(1, 597), (0, a1), (0, a2), (0, a3)] m K := by
  exact w250_0 a1 a2 a3 H
set_option maxRecDepth 100000 in
theorem w250_24 {m : Mm} {K : Int → Mm → Prop} (a1 : Int) (a2 : Int) (a3 : Int) (ua4 : aV) (s0 : Int) 
  (H : (s0 < 0 → K 0 m) ∧ (¬ s0 < 0 → (0 ≤ (wr ((wr (24 * a1)) + a2)) ∧ (wr ((wr (24 * a1)) + a2)) < 240) ∧ ((m 616 (wr ((wr (24 * a1)) + a2))) < 0 → K 0 m) ∧ (¬ (m 616 (wr ((wr (24 * a1)) + a2))) < 0 → ((wr (s0 + (m 616 (wr ((wr (24 * a1)) + a2))))) = a3 → K 1 m) ∧ (¬ (wr (s0 + (m 616 (wr ((wr (24 * a1)) + a2))))) = a3 → K 0 m)))) : X 250 24 [(1, 597), (0, a1), (0, a2), (0, a3), ua4] [(0, s0)] m (qI K) := by
  refine x_s (q := (.istore 4, 0, 0, 0)) (cod_250 rfl) rfl rfl rfl ?_
  refine x_s (q := (.iload 4, 0, 0, 0)) (cod_250 rfl) rfl rfl rfl ?_
  refine x_if (p := s0 < 0) (tgt := 67) (cod_250 rfl) (by decide) xj_lt (fun h => ?_) (fun h => ?_)
  · have H1 := H.1 h
    refine x_s (q := (.iconst 0, 0, 0, 0)) (cod_250 rfl) rfl rfl rfl ?_
    refine x_retI (t := .boolean) (cod_250 rfl) rfl rfl rfl ?_
    exact H1
  · have H2 := H.2 h
    refine x_s (q := (.aload_n 0, 0, 0, 0)) (cod_250 rfl) rfl rfl rfl ?_
    refine x_gc (kk := 41) (c := 616) (t := 1) (cod_250 rfl) sq_p_597 sq_l_597_41 rfl rfl ?_
    refine x_s (q := (.bipush 24, 0, 0, 0)) (cod_250 rfl) rfl rfl rfl ?_
    refine x_s (q := (.iload_n 1, 0, 0, 0)) (cod_250 rfl) rfl rfl rfl ?_
    refine x_s (q := (.imul, 0, 0, 0)) (cod_250 rfl) rfl rfl rfl ?_
    refine x_s (q := (.iload_n 2, 0, 0, 0)) (cod_250 rfl) rfl rfl rfl ?_
    refine x_s (q := (.iadd, 0, 0, 0)) (cod_250 rfl) rfl rfl rfl ?_
    obtain ⟨c3, H4⟩ := H2
    refine x_iald (cod_250 rfl) sq_a_616.s (sq_a_616.k c3.1 c3.2) ?_
    refine x_if (p := (m 616 (wr ((wr (24 * a1)) + a2))) < 0) (tgt := 67) (cod_250 rfl) (by decide) xj_lt (fun h => ?_) (fun h => ?_)
    · have H5 := H4.1 h
      refine x_s (q := (.iconst 0, 0, 0, 0)) (cod_250 rfl) rfl rfl rfl ?_
      refine x_retI (t := .boolean) (cod_250 rfl) rfl rfl rfl ?_
      exact H5
    · have H6 := H4.2 h
      refine x_s (q := (.iload 4, 0, 0, 0)) (cod_250 rfl) rfl rfl rfl ?_
      refine x_s (q := (.aload_n 0, 0, 0, 0)) (cod_250 rfl) rfl rfl rfl ?_
      refine x_gc (kk := 41) (c := 616) (t := 1) (cod_250 rfl) sq_p_597 sq_l_597_41 rfl rfl ?_
      refine x_s (q := (.bipush 24, 0, 0, 0)) (cod_250 rfl) rfl rfl rfl ?_
      refine x_s (q := (.iload_n 1, 0, 0, 0)) (cod_250 rfl) rfl rfl rfl ?_
      refine x_s (q := (.imul, 0, 0, 0)) (cod_250 rfl) rfl rfl rfl ?_
      refine x_s (q := (.iload_n 2, 0, 0, 0)) (cod_250 rfl) rfl rfl rfl ?_
      refine x_s (q := (.iadd, 0, 0, 0)) (cod_250 rfl) rfl rfl rfl ?_
      refine x_iald (cod_250 rfl) sq_a_616.s (sq_a_616.k c3.1 c3.2) ?_
      refine x_s (q := (.iadd, 0, 0, 0)) (cod_250 rfl) rfl rfl rfl ?_
      refine x_s (q := (.iload_n 3, 0, 0, 0)) (cod_250 rfl) rfl rfl rfl ?_
      refine x_ic (p := ¬ (wr (s0 + (m 616 (wr ((wr (24 * a1)) + a2))))) = a3) (tgt := 67) (cod_250 rfl) (by decide) xj_ne (fun h => ?_) (fun h => ?_)
      · have H7 := H6.2 h
        refine x_s (q := (.iconst 0, 0, 0, 0)) (cod_250 rfl) rfl rfl rfl ?_
        refine x_retI (t := .boolean) (cod_250 rfl) rfl rfl rfl ?_
        exact H7
      · have H8 := H6.1 (Classical.not_not.mp h)
        refine x_s (q := (.iconst 1, 0, 0, 0)) (cod_250 rfl) rfl rfl rfl ?_
        refine x_go (tgt := 68) (cod_250 rfl) (by decide) ?_
        refine x_retI (t := .boolean) (cod_250 rfl) rfl rfl rfl ?_
        exact H8
set_option maxRecDepth 100000 in
theorem w251_0 {m : Mm} {K : Int → Mm → Prop} (a1 : Int) 
  (H : ∀ m1, m1 = umem m 597 0 0 → (a1 < 0 → K (-1) m1) ∧ (¬ a1 < 0 → TrI 249 [(1, 597)] m1 fun v7 m5 => (v7 < 0 → K (-2) m5) ∧ (¬ v7 < 0 → X 251 25 [(1, 597), (0, a1), (0, a1), (0, 0)] [] m5 (qI K)))) : X 251 0 [(1, 597), (0, a1), (9, 0), (9, 0)] [] m (qI K) := by
  refine x_s (q := (.aload_n 0, 0, 0, 0)) (cod_251 rfl) rfl rfl rfl ?_
  refine x_s (q := (.iconst 0, 0, 0, 0)) (cod_251 rfl) rfl rfl rfl ?_
  refine x_pf (kk := 0) (t := 0) (cod_251 rfl) sq_p_597 sq_l_597_0 rfl rfl rfl ?_
  have H2 := H _ rfl
  generalize umem m 597 0 0 = m1 at H2 ⊢
  refine x_s (q := (.iload_n 1, 0, 0, 0)) (cod_251 rfl) rfl rfl rfl ?_
  refine x_if (p := ¬ a1 < 0) (tgt := 11) (cod_251 rfl) (by decide) xn_ge (fun h => ?_) (fun h => ?_)
  · have H3 := H2.2 h
    refine x_s (q := (.aload_n 0, 0, 0, 0)) (cod_251 rfl) rfl rfl rfl ?_
    refine x_call (as := [(1, 597)]) (rest := []) (cod_251 rfl) rfl rfl (by decide) (by decide) rfl rfl (Nat.le_of_ble_eq_true rfl) (rcv0 sq_l_597_0 sq_p_597 (by decide)) (Nat.le_of_ble_eq_true rfl) ?_
    refine X.imp H3 ?_
    rintro _ m5 ⟨v7, rfl, H6⟩
    show X 251 15 [(1, 597), (0, a1), (9, 0), (9, 0)] [(0, v7)] m5 _
    refine x_if (p := ¬ v7 < 0) (tgt := 21) (cod_251 rfl) (by decide) xn_ge (fun h => ?_) (fun h => ?_)
    · have H8 := H6.2 h
      refine x_s (q := (.iload_n 1, 0, 0, 0)) (cod_251 rfl) rfl rfl rfl ?_
      refine x_s (q := (.istore_n 2, 0, 0, 0)) (cod_251 rfl) rfl rfl rfl ?_
      refine x_s (q := (.iconst 0, 0, 0, 0)) (cod_251 rfl) rfl rfl rfl ?_
      refine x_s (q := (.istore_n 3, 0, 0, 0)) (cod_251 rfl) rfl rfl rfl ?_
      exact H8
    · have H9 := H6.1 (Classical.not_not.mp h)
      refine x_s (q := (.bipush (-2), 0, 0, 0)) (cod_251 rfl) rfl rfl rfl ?_
      refine x_retI (t := .int) (cod_251 rfl) rfl rfl rfl ?_
      exact H9
  · have H4 := H2.1 (Classical.not_not.mp h)
    refine x_s (q := (.iconst (-1), 0, 0, 0)) (cod_251 rfl) rfl rfl rfl ?_
    refine x_retI (t := .int) (cod_251 rfl) rfl rfl rfl ?_
    exact H4
theorem e251 {m : Mm} {K : Int → Mm → Prop} (a1 : Int) 
  (H : ∀ m1, m1 = umem m 597 0 0 → (a1 < 0 → K (-1) m1) ∧ (¬ a1 < 0 → TrI 249 [(1, 597)] m1 fun v7 m5 => (v7 < 0 → K (-2) m5) ∧ (¬ v7 < 0 → X 251 25 [(1, 597), (0, a1), (0, a1), (0, 0)] [] m5 (qI K)))) : TrI 251 [(1, 597), (0, a1)] m K := by
  exact w251_0 a1 H
set_option maxRecDepth 100000 in
theorem w251_25 {m : Mm} {K : Int → Mm → Prop} (ua1 : aV) (a2 : Int) (a3 : Int) 
  (H : (a3 < (m 597 23) → (a3 > 0 → (a2 = 0 → K 32 m) ∧ (¬ a2 = 0 → (a3 > 0 → X 251 54 [(1, 597), ua1, (0, a2), (0, a3)] [(0, 1), (0, a2)] m (qI K)) ∧ (¬ a3 > 0 → X 251 54 [(1, 597), ua1, (0, a2), (0, a3)] [(0, 0), (0, a2)] m (qI K)))) ∧ (¬ a3 > 0 → (a3 > 0 → X 251 54 [(1, 597), ua1, (0, a2), (0, a3)] [(0, 1), (0, a2)] m (qI K)) ∧ (¬ a3 > 0 → X 251 54 [(1, 597), ua1, (0, a2), (0, a3)] [(0, 0), (0, a2)] m (qI K)))) ∧ (¬ a3 < (m 597 23) → K (-2) m)) : X 251 25 [(1, 597), ua1, (0, a2), (0, a3)] [] m (qI K) := by
  refine x_s (q := (.iload_n 3, 0, 0, 0)) (cod_251 rfl) rfl rfl rfl ?_
  refine x_s (q := (.aload_n 0, 0, 0, 0)) (cod_251 rfl) rfl rfl rfl ?_
  refine x_gf (kk := 23) (t := 0) (cod_251 rfl) sq_p_597 sq_l_597_23 rfl rfl ?_
  refine x_ic (p := ¬ a3 < (m 597 23)) (tgt := 97) (cod_251 rfl) (by decide) xn_ge (fun h => ?_) (fun h => ?_)
  · have H1 := H.2 h
    refine x_s (q := (.bipush (-2), 0, 0, 0)) (cod_251 rfl) rfl rfl rfl ?_
    refine x_retI (t := .int) (cod_251 rfl) rfl rfl rfl ?_
    exact H1
  · have H2 := H.1 (Classical.not_not.mp h)
    refine x_s (q := (.iload_n 3, 0, 0, 0)) (cod_251 rfl) rfl rfl rfl ?_
    refine x_if (p := ¬ a3 > 0) (tgt := 44) (cod_251 rfl) (by decide) xn_le (fun h => ?_) (fun h => ?_)
    · have H3 := H2.2 h
      refine x_s (q := (.iload_n 2, 0, 0, 0)) (cod_251 rfl) rfl rfl rfl ?_
      refine x_s (q := (.iload_n 3, 0, 0, 0)) (cod_251 rfl) rfl rfl rfl ?_
      refine x_if (p := ¬ a3 > 0) (tgt := 53) (cod_251 rfl) (by decide) xn_le (fun h => ?_) (fun h => ?_)
      · have H5 := H3.2 h
        refine x_s (q := (.iconst 0, 0, 0, 0)) (cod_251 rfl) rfl rfl rfl ?_
        exact H5
      · have H6 := H3.1 (Classical.not_not.mp h)
        refine x_s (q := (.iconst 1, 0, 0, 0)) (cod_251 rfl) rfl rfl rfl ?_
        refine x_go (tgt := 54) (cod_251 rfl) (by decide) ?_
        exact H6
    · have H4 := H2.1 (Classical.not_not.mp h)
      refine x_s (q := (.iload_n 2, 0, 0, 0)) (cod_251 rfl) rfl rfl rfl ?_
      refine x_if (p := ¬ a2 = 0) (tgt := 44) (cod_251 rfl) (by decide) xj_ne (fun h => ?_) (fun h => ?_)
      · have H7 := H4.2 h
        refine x_s (q := (.iload_n 2, 0, 0, 0)) (cod_251 rfl) rfl rfl rfl ?_
        refine x_s (q := (.iload_n 3, 0, 0, 0)) (cod_251 rfl) rfl rfl rfl ?_
        refine x_if (p := ¬ a3 > 0) (tgt := 53) (cod_251 rfl) (by decide) xn_le (fun h => ?_) (fun h => ?_)
        · have H9 := H7.2 h
          refine x_s (q := (.iconst 0, 0, 0, 0)) (cod_251 rfl) rfl rfl rfl ?_
          exact H9
        · have H10 := H7.1 (Classical.not_not.mp h)
          refine x_s (q := (.iconst 1, 0, 0, 0)) (cod_251 rfl) rfl rfl rfl ?_
          refine x_go (tgt := 54) (cod_251 rfl) (by decide) ?_
          exact H10
      · have H8 := H4.1 (Classical.not_not.mp h)
        refine x_s (q := (.bipush 32, 0, 0, 0)) (cod_251 rfl) rfl rfl rfl ?_
        refine x_retI (t := .int) (cod_251 rfl) rfl rfl rfl ?_
        exact H8
set_option maxRecDepth 100000 in
theorem w251_54 {m : Mm} {K : Int → Mm → Prop} (ua1 : aV) (ua2 : aV) (a3 : Int) (s0 : Int) (s1 : Int) (hua1 : ua1.1 ≠ 2)
  (H : (0 ≤ a3 ∧ a3 < 10) ∧ (0 ≤ (wr ((wr (24 * a3)) + (m 618 a3))) ∧ (wr ((wr (24 * a3)) + (m 618 a3))) < 240) ∧ TrV 239 [(1, 597), (0, a3), (0, m 613 (wr ((wr (24 * a3)) + (m 618 a3))))] m fun m5 => ((wr (s0 - s1)) < (m5 597 31) → (0 ≤ (wr (s0 - s1)) ∧ (wr (s0 - s1)) < 80) ∧ K (wr (97 + (m5 610 (wr (s0 - s1))))) m5) ∧ (¬ (wr (s0 - s1)) < (m5 597 31) → X 251 25 [(1, 597), ua1, (0, wr ((wr (s0 - s1)) - (m5 597 31))), (0, wr (a3 + 1))] [] m5 (qI K))) : X 251 54 [(1, 597), ua1, ua2, (0, a3)] [(0, s1), (0, s0)] m (qI K) := by
  refine x_s (q := (.isub, 0, 0, 0)) (cod_251 rfl) rfl rfl rfl ?_
  show X 251 55 [(1, 597), ua1, ua2, (0, a3)] [(0, wr (s0 - s1))] m _
  refine x_s (q := (.istore_n 2, 0, 0, 0)) (np := 56) (ls' := [(1, 597), ua1, (0, wr (s0 - s1)), (0, a3)]) (st' := []) (cod_251 rfl) rfl rfl (by simp [stp1, stS, tok, lsok, oif, hua1]) ?_
  refine x_s (q := (.aload_n 0, 0, 0, 0)) (cod_251 rfl) rfl rfl rfl ?_
  refine x_s (q := (.iload_n 3, 0, 0, 0)) (cod_251 rfl) rfl rfl rfl ?_
  refine x_s (q := (.aload_n 0, 0, 0, 0)) (cod_251 rfl) rfl rfl rfl ?_
  refine x_s (q := (.iload_n 3, 0, 0, 0)) (cod_251 rfl) rfl rfl rfl ?_
  refine x_call (as := [(1, 597), (0, a3)]) (rest := [(0, a3), (1, 597)]) (cod_251 rfl) rfl rfl (by decide) (by decide) rfl rfl (Nat.le_of_ble_eq_true rfl) (rcv0 sq_l_597_0 sq_p_597 (by decide)) (Nat.le_of_ble_eq_true rfl) ?_
  show X 252 0 [(1, 597), (0, a3)] [] m _
  refine x_s (q := (.aload_n 0, 0, 0, 0)) (cod_252 rfl) rfl rfl rfl ?_
  refine x_gc (kk := 35) (c := 613) (t := 1) (cod_252 rfl) sq_p_597 sq_l_597_35 rfl rfl ?_
  refine x_s (q := (.bipush 24, 0, 0, 0)) (cod_252 rfl) rfl rfl rfl ?_
  refine x_s (q := (.iload_n 1, 0, 0, 0)) (cod_252 rfl) rfl rfl rfl ?_
  refine x_s (q := (.imul, 0, 0, 0)) (cod_252 rfl) rfl rfl rfl ?_
  refine x_s (q := (.aload_n 0, 0, 0, 0)) (cod_252 rfl) rfl rfl rfl ?_
  refine x_gc (kk := 43) (c := 618) (t := 1) (cod_252 rfl) sq_p_597 sq_l_597_43 rfl rfl ?_
  refine x_s (q := (.iload_n 1, 0, 0, 0)) (cod_252 rfl) rfl rfl rfl ?_
  obtain ⟨c1, H2⟩ := H
  refine x_iald (cod_252 rfl) sq_a_618.s (sq_a_618.k c1.1 c1.2) ?_
  refine x_s (q := (.iadd, 0, 0, 0)) (cod_252 rfl) rfl rfl rfl ?_
  obtain ⟨c3, H4⟩ := H2
  refine x_iald (cod_252 rfl) sq_a_613.s (sq_a_613.k c3.1 c3.2) ?_
  refine x_rI (t := .int) (cod_252 rfl) rfl rfl rfl ?_
  show X 251 63 [(1, 597), ua1, (0, wr (s0 - s1)), (0, a3)] [(0, m 613 (wr ((wr (24 * a3)) + (m 618 a3)))), (0, a3), (1, 597)] m _
  refine x_call (as := [(1, 597), (0, a3), (0, m 613 (wr ((wr (24 * a3)) + (m 618 a3))))]) (rest := []) (cod_251 rfl) rfl rfl (by decide) (by decide) rfl rfl (Nat.le_of_ble_eq_true rfl) (rcv0 sq_l_597_0 sq_p_597 (by decide)) (Nat.le_of_ble_eq_true rfl) ?_
  refine X.imp H4 ?_
  rintro _ m5 ⟨rfl, H6⟩
  show X 251 66 [(1, 597), ua1, (0, wr (s0 - s1)), (0, a3)] [] m5 _
  refine x_s (q := (.iload_n 2, 0, 0, 0)) (cod_251 rfl) rfl rfl rfl ?_
  refine x_s (q := (.aload_n 0, 0, 0, 0)) (cod_251 rfl) rfl rfl rfl ?_
  refine x_gf (kk := 31) (t := 0) (cod_251 rfl) sq_p_597 sq_l_597_31 rfl rfl ?_
  refine x_ic (p := ¬ (wr (s0 - s1)) < (m5 597 31)) (tgt := 84) (cod_251 rfl) (by decide) xn_ge (fun h => ?_) (fun h => ?_)
  · have H7 := H6.2 h
    refine x_s (q := (.iload_n 2, 0, 0, 0)) (cod_251 rfl) rfl rfl rfl ?_
    refine x_s (q := (.aload_n 0, 0, 0, 0)) (cod_251 rfl) rfl rfl rfl ?_
    refine x_gf (kk := 31) (t := 0) (cod_251 rfl) sq_p_597 sq_l_597_31 rfl rfl ?_
    refine x_s (q := (.isub, 0, 0, 0)) (cod_251 rfl) rfl rfl rfl ?_
    show X 251 90 [(1, 597), ua1, (0, wr (s0 - s1)), (0, a3)] [(0, wr ((wr (s0 - s1)) - (m5 597 31)))] m5 _
    refine x_s (q := (.istore_n 2, 0, 0, 0)) (np := 91) (ls' := [(1, 597), ua1, (0, wr ((wr (s0 - s1)) - (m5 597 31))), (0, a3)]) (st' := []) (cod_251 rfl) rfl rfl (by simp [stp1, stS, tok, lsok, oif, hua1]) ?_
    refine x_s (q := (.iinc 3 1, 0, 0, 0)) (cod_251 rfl) rfl rfl rfl ?_
    refine x_go (tgt := 25) (cod_251 rfl) (by decide) ?_
    exact H7
  · have H8 := H6.1 (Classical.not_not.mp h)
    refine x_s (q := (.bipush 97, 0, 0, 0)) (cod_251 rfl) rfl rfl rfl ?_
    refine x_s (q := (.aload_n 0, 0, 0, 0)) (cod_251 rfl) rfl rfl rfl ?_
    refine x_gc (kk := 30) (c := 610) (t := 1) (cod_251 rfl) sq_p_597 sq_l_597_30 rfl rfl ?_
    refine x_s (q := (.iload_n 2, 0, 0, 0)) (cod_251 rfl) rfl rfl rfl ?_
    obtain ⟨c9, H10⟩ := H8
    refine x_iald (cod_251 rfl) sq_a_610.s (sq_a_610.k c9.1 c9.2) ?_
    refine x_s (q := (.iadd, 0, 0, 0)) (cod_251 rfl) rfl rfl rfl ?_
    refine x_retI (t := .int) (cod_251 rfl) rfl rfl rfl ?_
    exact H10
set_option maxRecDepth 100000 in
theorem w253_0 {m : Mm} {K : Int → Mm → Prop} (a1 : Int) 
  (H : ∀ m1, m1 = umem m 597 0 0 → m1 597 16 = 0 ∧ ((0 ≤ a1 ∧ a1 ≤ (wr ((m1 602 578) - 1))) → TrI 254 [(1, 597)] m1 fun v9 m7 => (v9 < 0 → K (-2) m7) ∧ (¬ v9 < 0 → (0 ≤ a1 ∧ a1 < 24) ∧ K (m7 619 a1) m7)) ∧ (¬ (0 ≤ a1 ∧ a1 ≤ (wr ((m1 602 578) - 1))) → K (-1) m1)) : X 253 0 [(1, 597), (0, a1)] [] m (qI K) := by
  refine x_s (q := (.aload_n 0, 0, 0, 0)) (cod_253 rfl) rfl rfl rfl ?_
  refine x_s (q := (.iconst 0, 0, 0, 0)) (cod_253 rfl) rfl rfl rfl ?_
  refine x_pf (kk := 0) (t := 0) (cod_253 rfl) sq_p_597 sq_l_597_0 rfl rfl rfl ?_
  have H2 := H _ rfl
  generalize umem m 597 0 0 = m1 at H2 ⊢
  refine x_s (q := (.aload_n 0, 0, 0, 0)) (cod_253 rfl) rfl rfl rfl ?_
  refine x_s (q := (.iload_n 1, 0, 0, 0)) (cod_253 rfl) rfl rfl rfl ?_
  refine x_call (as := [(1, 597), (0, a1)]) (rest := []) (cod_253 rfl) rfl rfl (by decide) (by decide) rfl rfl (Nat.le_of_ble_eq_true rfl) (rcv0 sq_l_597_0 sq_p_597 (by decide)) (Nat.le_of_ble_eq_true rfl) ?_
  show X 201 0 [(1, 597), (0, a1)] [] m1 _
  refine x_s (q := (.iload_n 1, 0, 0, 0)) (cod_201 rfl) rfl rfl rfl ?_
  refine x_s (q := (.iconst 0, 0, 0, 0)) (cod_201 rfl) rfl rfl rfl ?_
  refine x_s (q := (.aload_n 0, 0, 0, 0)) (cod_201 rfl) rfl rfl rfl ?_
  refine x_call (as := [(1, 597)]) (rest := [(0, 0), (0, a1)]) (cod_201 rfl) rfl rfl (by decide) (by decide) rfl rfl (Nat.le_of_ble_eq_true rfl) (rcv0 sq_l_597_0 sq_p_597 (by decide)) (Nat.le_of_ble_eq_true rfl) ?_
  show X 181 0 [(1, 597)] [] m1 _
  refine x_s (q := (.aload_n 0, 0, 0, 0)) (cod_181 rfl) rfl rfl rfl ?_
  refine x_s (q := (.sipush 578, 0, 0, 0)) (cod_181 rfl) rfl rfl rfl ?_
  obtain ⟨c3, H4⟩ := H2
  refine x_call (as := [(1, 597), (0, 578)]) (rest := []) (cod_181 rfl) rfl rfl (by decide) (by decide) rfl rfl (Nat.le_of_ble_eq_true rfl) (rcv0 sq_l_597_0 sq_p_597 (by decide)) (Nat.le_of_ble_eq_true rfl) ?_
  refine x_pure (p182a (by decide) c3) ?_
  show X 181 7 [(1, 597)] [(0, m1 602 578)] m1 _
  refine x_rI (t := .int) (cod_181 rfl) rfl rfl rfl ?_
  show X 201 6 [(1, 597), (0, a1)] [(0, m1 602 578), (0, 0), (0, a1)] m1 _
  refine x_s (q := (.iconst 1, 0, 0, 0)) (cod_201 rfl) rfl rfl rfl ?_
  refine x_s (q := (.isub, 0, 0, 0)) (cod_201 rfl) rfl rfl rfl ?_
  refine x_call (as := [(0, a1), (0, 0), (0, wr ((m1 602 578) - 1))]) (rest := []) (cod_201 rfl) rfl rfl (by decide) (by decide) rfl rfl (Nat.le_of_ble_eq_true rfl) rfl (Nat.le_of_ble_eq_true rfl) ?_
  refine x_pure (p172) ?_
  show X 201 11 [(1, 597), (0, a1)] [(0, bi (0 ≤ a1 ∧ a1 ≤ (wr ((m1 602 578) - 1))))] m1 _
  refine x_rI (t := .boolean) (cod_201 rfl) rfl rfl (bok_b (bi_01 _)) ?_
  show X 253 10 [(1, 597), (0, a1)] [(0, bi (0 ≤ a1 ∧ a1 ≤ (wr ((m1 602 578) - 1))))] m1 _
  refine x_if (p := 0 ≤ a1 ∧ a1 ≤ (wr ((m1 602 578) - 1))) (tgt := 15) (cod_253 rfl) (by decide) xb_ne (fun h => ?_) (fun h => ?_)
  · have H5 := H4.1 h
    refine x_s (q := (.aload_n 0, 0, 0, 0)) (cod_253 rfl) rfl rfl rfl ?_
    refine x_call (as := [(1, 597)]) (rest := []) (cod_253 rfl) rfl rfl (by decide) (by decide) rfl rfl (Nat.le_of_ble_eq_true rfl) (rcv0 sq_l_597_0 sq_p_597 (by decide)) (Nat.le_of_ble_eq_true rfl) ?_
    refine X.imp H5 ?_
    rintro _ m7 ⟨v9, rfl, H8⟩
    show X 253 19 [(1, 597), (0, a1)] [(0, v9)] m7 _
    refine x_if (p := ¬ v9 < 0) (tgt := 27) (cod_253 rfl) (by decide) xn_ge (fun h => ?_) (fun h => ?_)
    · have H10 := H8.2 h
      refine x_s (q := (.aload_n 0, 0, 0, 0)) (cod_253 rfl) rfl rfl rfl ?_
      refine x_gc (kk := 44) (c := 619) (t := 1) (cod_253 rfl) sq_p_597 sq_l_597_44 rfl rfl ?_
      refine x_s (q := (.iload_n 1, 0, 0, 0)) (cod_253 rfl) rfl rfl rfl ?_
      obtain ⟨c12, H13⟩ := H10
      refine x_iald (cod_253 rfl) sq_a_619.s (sq_a_619.k c12.1 c12.2) ?_
      refine x_retI (t := .int) (cod_253 rfl) rfl rfl rfl ?_
      exact H13
    · have H11 := H8.1 (Classical.not_not.mp h)
      refine x_s (q := (.bipush (-2), 0, 0, 0)) (cod_253 rfl) rfl rfl rfl ?_
      refine x_go (tgt := 33) (cod_253 rfl) (by decide) ?_
      refine x_retI (t := .int) (cod_253 rfl) rfl rfl rfl ?_
      exact H11
  · have H6 := H4.2 h
    refine x_s (q := (.iconst (-1), 0, 0, 0)) (cod_253 rfl) rfl rfl rfl ?_
    refine x_retI (t := .int) (cod_253 rfl) rfl rfl rfl ?_
    exact H6
theorem e253 {m : Mm} {K : Int → Mm → Prop} (a1 : Int) 
  (H : ∀ m1, m1 = umem m 597 0 0 → m1 597 16 = 0 ∧ ((0 ≤ a1 ∧ a1 ≤ (wr ((m1 602 578) - 1))) → TrI 254 [(1, 597)] m1 fun v9 m7 => (v9 < 0 → K (-2) m7) ∧ (¬ v9 < 0 → (0 ≤ a1 ∧ a1 < 24) ∧ K (m7 619 a1) m7)) ∧ (¬ (0 ≤ a1 ∧ a1 ≤ (wr ((m1 602 578) - 1))) → K (-1) m1)) : TrI 253 [(1, 597), (0, a1)] m K := by
  exact w253_0 a1 H
set_option maxRecDepth 100000 in
theorem w254_0 {m : Mm} {K : Int → Mm → Prop}  
  (H : X 254 2 [(1, 597), (0, 0), (9, 0), (9, 0)] [] m (qI K)) : X 254 0 [(1, 597), (9, 0), (9, 0), (9, 0)] [] m (qI K) := by
  refine x_s (q := (.iconst 0, 0, 0, 0)) (cod_254 rfl) rfl rfl rfl ?_
  refine x_s (q := (.istore_n 1, 0, 0, 0)) (cod_254 rfl) rfl rfl rfl ?_
  exact H
theorem e254 {m : Mm} {K : Int → Mm → Prop}  
  (H : X 254 2 [(1, 597), (0, 0), (9, 0), (9, 0)] [] m (qI K)) : TrI 254 [(1, 597)] m K := by
  exact w254_0  H
set_option maxRecDepth 100000 in
theorem w254_2 {m : Mm} {K : Int → Mm → Prop} (a1 : Int) (ua2 : aV) (ua3 : aV) 
  (H : (a1 < 24 → (0 ≤ a1 ∧ a1 < 24) ∧ ∀ m10, m10 = umem m 619 a1 0 → X 254 2 [(1, 597), (0, wr (a1 + 1)), ua2, ua3] [] m10 (qI K)) ∧ (¬ a1 < 24 → TrI 249 [(1, 597)] m fun v5 m3 => (v5 < 0 → K (-2) m3) ∧ (¬ v5 < 0 → X 254 35 [(1, 597), (0, 0), (0, 0), ua3] [] m3 (qI K)))) : X 254 2 [(1, 597), (0, a1), ua2, ua3] [] m (qI K) := by
  refine x_s (q := (.iload_n 1, 0, 0, 0)) (cod_254 rfl) rfl rfl rfl ?_
  refine x_s (q := (.bipush 24, 0, 0, 0)) (cod_254 rfl) rfl rfl rfl ?_
  refine x_ic (p := ¬ a1 < 24) (tgt := 21) (cod_254 rfl) (by decide) xn_ge (fun h => ?_) (fun h => ?_)
  · have H1 := H.2 h
    refine x_s (q := (.aload_n 0, 0, 0, 0)) (cod_254 rfl) rfl rfl rfl ?_
    refine x_call (as := [(1, 597)]) (rest := []) (cod_254 rfl) rfl rfl (by decide) (by decide) rfl rfl (Nat.le_of_ble_eq_true rfl) (rcv0 sq_l_597_0 sq_p_597 (by decide)) (Nat.le_of_ble_eq_true rfl) ?_
    refine X.imp H1 ?_
    rintro _ m3 ⟨v5, rfl, H4⟩
    show X 254 25 [(1, 597), (0, a1), ua2, ua3] [(0, v5)] m3 _
    refine x_if (p := ¬ v5 < 0) (tgt := 31) (cod_254 rfl) (by decide) xn_ge (fun h => ?_) (fun h => ?_)
    · have H6 := H4.2 h
      refine x_s (q := (.iconst 0, 0, 0, 0)) (cod_254 rfl) rfl rfl rfl ?_
      refine x_s (q := (.istore_n 1, 0, 0, 0)) (cod_254 rfl) rfl rfl rfl ?_
      refine x_s (q := (.iconst 0, 0, 0, 0)) (cod_254 rfl) rfl rfl rfl ?_
      refine x_s (q := (.istore_n 2, 0, 0, 0)) (cod_254 rfl) rfl rfl rfl ?_
      exact H6
    · have H7 := H4.1 (Classical.not_not.mp h)
      refine x_s (q := (.bipush (-2), 0, 0, 0)) (cod_254 rfl) rfl rfl rfl ?_
      refine x_retI (t := .int) (cod_254 rfl) rfl rfl rfl ?_
      exact H7
  · have H2 := H.1 (Classical.not_not.mp h)
    refine x_s (q := (.aload_n 0, 0, 0, 0)) (cod_254 rfl) rfl rfl rfl ?_
    refine x_gc (kk := 44) (c := 619) (t := 1) (cod_254 rfl) sq_p_597 sq_l_597_44 rfl rfl ?_
    refine x_s (q := (.iload_n 1, 0, 0, 0)) (cod_254 rfl) rfl rfl rfl ?_
    refine x_s (q := (.iconst 0, 0, 0, 0)) (cod_254 rfl) rfl rfl rfl ?_
    obtain ⟨c8, H9⟩ := H2
    refine x_iast (cod_254 rfl) sq_a_619.s (sq_a_619.k c8.1 c8.2) ?_
    have H11 := H9 _ rfl
    generalize umem m 619 a1 0 = m10 at H11 ⊢
    refine x_s (q := (.iinc 1 1, 0, 0, 0)) (cod_254 rfl) rfl rfl rfl ?_
    refine x_go (tgt := 2) (cod_254 rfl) (by decide) ?_
    exact H11
set_option maxRecDepth 100000 in
theorem w254_35 {m : Mm} {K : Int → Mm → Prop} (a1 : Int) (a2 : Int) (ua3 : aV) 
  (H : (a2 < (m 597 23) → (0 ≤ a2 ∧ a2 < 10) ∧ (0 ≤ (wr ((wr (24 * a2)) + (m 618 a2))) ∧ (wr ((wr (24 * a2)) + (m 618 a2))) < 240) ∧ TrV 239 [(1, 597), (0, a2), (0, m 613 (wr ((wr (24 * a2)) + (m 618 a2))))] m fun m7 => X 254 55 [(1, 597), (0, a1), (0, a2), (0, 0)] [] m7 (qI K)) ∧ (¬ a2 < (m 597 23) → K a1 m)) : X 254 35 [(1, 597), (0, a1), (0, a2), ua3] [] m (qI K) := by
  refine x_s (q := (.iload_n 2, 0, 0, 0)) (cod_254 rfl) rfl rfl rfl ?_
  refine x_s (q := (.aload_n 0, 0, 0, 0)) (cod_254 rfl) rfl rfl rfl ?_
  refine x_gf (kk := 23) (t := 0) (cod_254 rfl) sq_p_597 sq_l_597_23 rfl rfl ?_
  refine x_ic (p := ¬ a2 < (m 597 23)) (tgt := 97) (cod_254 rfl) (by decide) xn_ge (fun h => ?_) (fun h => ?_)
  · have H1 := H.2 h
    refine x_s (q := (.iload_n 1, 0, 0, 0)) (cod_254 rfl) rfl rfl rfl ?_
    refine x_retI (t := .int) (cod_254 rfl) rfl rfl rfl ?_
    exact H1
  · have H2 := H.1 (Classical.not_not.mp h)
    refine x_s (q := (.aload_n 0, 0, 0, 0)) (cod_254 rfl) rfl rfl rfl ?_
    refine x_s (q := (.iload_n 2, 0, 0, 0)) (cod_254 rfl) rfl rfl rfl ?_
    refine x_s (q := (.aload_n 0, 0, 0, 0)) (cod_254 rfl) rfl rfl rfl ?_
    refine x_s (q := (.iload_n 2, 0, 0, 0)) (cod_254 rfl) rfl rfl rfl ?_
    refine x_call (as := [(1, 597), (0, a2)]) (rest := [(0, a2), (1, 597)]) (cod_254 rfl) rfl rfl (by decide) (by decide) rfl rfl (Nat.le_of_ble_eq_true rfl) (rcv0 sq_l_597_0 sq_p_597 (by decide)) (Nat.le_of_ble_eq_true rfl) ?_
    show X 252 0 [(1, 597), (0, a2)] [] m _
    refine x_s (q := (.aload_n 0, 0, 0, 0)) (cod_252 rfl) rfl rfl rfl ?_
    refine x_gc (kk := 35) (c := 613) (t := 1) (cod_252 rfl) sq_p_597 sq_l_597_35 rfl rfl ?_
    refine x_s (q := (.bipush 24, 0, 0, 0)) (cod_252 rfl) rfl rfl rfl ?_
    refine x_s (q := (.iload_n 1, 0, 0, 0)) (cod_252 rfl) rfl rfl rfl ?_
    refine x_s (q := (.imul, 0, 0, 0)) (cod_252 rfl) rfl rfl rfl ?_
    refine x_s (q := (.aload_n 0, 0, 0, 0)) (cod_252 rfl) rfl rfl rfl ?_
    refine x_gc (kk := 43) (c := 618) (t := 1) (cod_252 rfl) sq_p_597 sq_l_597_43 rfl rfl ?_
    refine x_s (q := (.iload_n 1, 0, 0, 0)) (cod_252 rfl) rfl rfl rfl ?_
    obtain ⟨c3, H4⟩ := H2
    refine x_iald (cod_252 rfl) sq_a_618.s (sq_a_618.k c3.1 c3.2) ?_
    refine x_s (q := (.iadd, 0, 0, 0)) (cod_252 rfl) rfl rfl rfl ?_
    obtain ⟨c5, H6⟩ := H4
    refine x_iald (cod_252 rfl) sq_a_613.s (sq_a_613.k c5.1 c5.2) ?_
    refine x_rI (t := .int) (cod_252 rfl) rfl rfl rfl ?_
    show X 254 50 [(1, 597), (0, a1), (0, a2), ua3] [(0, m 613 (wr ((wr (24 * a2)) + (m 618 a2)))), (0, a2), (1, 597)] m _
    refine x_call (as := [(1, 597), (0, a2), (0, m 613 (wr ((wr (24 * a2)) + (m 618 a2))))]) (rest := []) (cod_254 rfl) rfl rfl (by decide) (by decide) rfl rfl (Nat.le_of_ble_eq_true rfl) (rcv0 sq_l_597_0 sq_p_597 (by decide)) (Nat.le_of_ble_eq_true rfl) ?_
    refine X.imp H6 ?_
    rintro _ m7 ⟨rfl, H8⟩
    show X 254 53 [(1, 597), (0, a1), (0, a2), ua3] [] m7 _
    refine x_s (q := (.iconst 0, 0, 0, 0)) (cod_254 rfl) rfl rfl rfl ?_
    refine x_s (q := (.istore_n 3, 0, 0, 0)) (cod_254 rfl) rfl rfl rfl ?_
    exact H8
set_option maxRecDepth 100000 in
theorem w254_55 {m : Mm} {K : Int → Mm → Prop} (a1 : Int) (a2 : Int) (a3 : Int) 
  (H : (a3 < (m 597 33) → (0 ≤ a3 ∧ a3 < 10) ∧ (0 ≤ (m 611 a3) ∧ (m 611 a3) < 24) ∧ ∀ m7, m7 = umem m 619 (m 611 a3) (wr ((m 619 (m 611 a3)) + 1)) → X 254 55 [(1, 597), (0, a1), (0, a2), (0, wr (a3 + 1))] [] m7 (qI K)) ∧ (¬ a3 < (m 597 33) → X 254 35 [(1, 597), (0, wr (a1 + (m 597 33))), (0, wr (a2 + 1)), (0, a3)] [] m (qI K))) : X 254 55 [(1, 597), (0, a1), (0, a2), (0, a3)] [] m (qI K) := by
  refine x_s (q := (.iload_n 3, 0, 0, 0)) (cod_254 rfl) rfl rfl rfl ?_
  refine x_s (q := (.aload_n 0, 0, 0, 0)) (cod_254 rfl) rfl rfl rfl ?_
  refine x_gf (kk := 33) (t := 0) (cod_254 rfl) sq_p_597 sq_l_597_33 rfl rfl ?_
  refine x_ic (p := ¬ a3 < (m 597 33)) (tgt := 84) (cod_254 rfl) (by decide) xn_ge (fun h => ?_) (fun h => ?_)
  · have H1 := H.2 h
    refine x_s (q := (.iload_n 1, 0, 0, 0)) (cod_254 rfl) rfl rfl rfl ?_
    refine x_s (q := (.aload_n 0, 0, 0, 0)) (cod_254 rfl) rfl rfl rfl ?_
    refine x_gf (kk := 33) (t := 0) (cod_254 rfl) sq_p_597 sq_l_597_33 rfl rfl ?_
    refine x_s (q := (.iadd, 0, 0, 0)) (cod_254 rfl) rfl rfl rfl ?_
    refine x_s (q := (.istore_n 1, 0, 0, 0)) (cod_254 rfl) rfl rfl rfl ?_
    refine x_s (q := (.iinc 2 1, 0, 0, 0)) (cod_254 rfl) rfl rfl rfl ?_
    refine x_go (tgt := 35) (cod_254 rfl) (by decide) ?_
    exact H1
  · have H2 := H.1 (Classical.not_not.mp h)
    refine x_s (q := (.aload_n 0, 0, 0, 0)) (cod_254 rfl) rfl rfl rfl ?_
    refine x_gc (kk := 44) (c := 619) (t := 1) (cod_254 rfl) sq_p_597 sq_l_597_44 rfl rfl ?_
    refine x_s (q := (.aload_n 0, 0, 0, 0)) (cod_254 rfl) rfl rfl rfl ?_
    refine x_gc (kk := 32) (c := 611) (t := 1) (cod_254 rfl) sq_p_597 sq_l_597_32 rfl rfl ?_
    refine x_s (q := (.iload_n 3, 0, 0, 0)) (cod_254 rfl) rfl rfl rfl ?_
    obtain ⟨c3, H4⟩ := H2
    refine x_iald (cod_254 rfl) sq_a_611.s (sq_a_611.k c3.1 c3.2) ?_
    refine x_s (q := (.dup2, 0, 0, 0)) (cod_254 rfl) rfl rfl rfl ?_
    obtain ⟨c5, H6⟩ := H4
    refine x_iald (cod_254 rfl) sq_a_619.s (sq_a_619.k c5.1 c5.2) ?_
    refine x_s (q := (.iconst 1, 0, 0, 0)) (cod_254 rfl) rfl rfl rfl ?_
    refine x_s (q := (.iadd, 0, 0, 0)) (cod_254 rfl) rfl rfl rfl ?_
    refine x_iast (cod_254 rfl) sq_a_619.s (sq_a_619.k c5.1 c5.2) ?_
    have H8 := H6 _ rfl
    generalize umem m 619 (m 611 a3) (wr ((m 619 (m 611 a3)) + 1)) = m7 at H8 ⊢
    refine x_s (q := (.iinc 3 1, 0, 0, 0)) (cod_254 rfl) rfl rfl rfl ?_
    refine x_go (tgt := 55) (cod_254 rfl) (by decide) ?_
    exact H8
