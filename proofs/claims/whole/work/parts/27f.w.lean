/-! rules of the methods: printed by wip/whole/gen26.py -/
set_option maxRecDepth 100000 in
theorem w277_0 {m : Mm} {K : Int → Mm → Prop} (a1 : Int) (a2 : Int) 
  (H : ∀ m1, m1 = umem m 597 0 0 → ((0 ≤ a1 ∧ a1 ≤ (wr ((m1 597 23) - 1))) → TrV 236 [(1, 597), (0, a1)] m1 fun m5 => (0 ≤ a1 ∧ a1 < 10) ∧ ((0 ≤ a2 ∧ a2 ≤ (wr ((m5 615 a1) - 1))) → TrV 273 [(1, 597)] m5 fun m11 => (0 ≤ (wr ((wr (24 * a1)) + a2)) ∧ (wr ((wr (24 * a1)) + a2)) < 240) ∧ (0 ≤ (wr (48 + a1)) ∧ (wr (48 + a1)) < 1276) ∧ ∀ m17, m17 = umem m11 607 (wr (48 + a1)) (m11 613 (wr ((wr (24 * a1)) + a2))) → K (m17 607 (wr (48 + a1))) m17) ∧ (¬ (0 ≤ a2 ∧ a2 ≤ (wr ((m5 615 a1) - 1))) → K (-9) m5)) ∧ (¬ (0 ≤ a1 ∧ a1 ≤ (wr ((m1 597 23) - 1))) → K (-9) m1)) : X 277 0 [(1, 597), (0, a1), (0, a2)] [] m (qI K) := by
  refine x_s (q := (.aload_n 0, 0, 0, 0)) (cod_277 rfl) rfl rfl rfl ?_
  refine x_s (q := (.iconst 0, 0, 0, 0)) (cod_277 rfl) rfl rfl rfl ?_
  refine x_pf (kk := 0) (t := 0) (cod_277 rfl) sq_p_597 sq_l_597_0 rfl rfl rfl ?_
  have H2 := H _ rfl
  generalize umem m 597 0 0 = m1 at H2 ⊢
  refine x_s (q := (.aload_n 0, 0, 0, 0)) (cod_277 rfl) rfl rfl rfl ?_
  refine x_s (q := (.iload_n 1, 0, 0, 0)) (cod_277 rfl) rfl rfl rfl ?_
  refine x_call (as := [(1, 597), (0, a1)]) (rest := []) (cod_277 rfl) rfl rfl (by decide) (by decide) rfl rfl (Nat.le_of_ble_eq_true rfl) (rcv0 sq_l_597_0 sq_p_597 (by decide)) (Nat.le_of_ble_eq_true rfl) ?_
  show X 210 0 [(1, 597), (0, a1)] [] m1 _
  refine x_s (q := (.iload_n 1, 0, 0, 0)) (cod_210 rfl) rfl rfl rfl ?_
  refine x_s (q := (.iconst 0, 0, 0, 0)) (cod_210 rfl) rfl rfl rfl ?_
  refine x_s (q := (.aload_n 0, 0, 0, 0)) (cod_210 rfl) rfl rfl rfl ?_
  refine x_gf (kk := 23) (t := 0) (cod_210 rfl) sq_p_597 sq_l_597_23 rfl rfl ?_
  refine x_s (q := (.iconst 1, 0, 0, 0)) (cod_210 rfl) rfl rfl rfl ?_
  refine x_s (q := (.isub, 0, 0, 0)) (cod_210 rfl) rfl rfl rfl ?_
  refine x_call (as := [(0, a1), (0, 0), (0, wr ((m1 597 23) - 1))]) (rest := []) (cod_210 rfl) rfl rfl (by decide) (by decide) rfl rfl (Nat.le_of_ble_eq_true rfl) rfl (Nat.le_of_ble_eq_true rfl) ?_
  refine x_pure (p172) ?_
  show X 210 11 [(1, 597), (0, a1)] [(0, bi (0 ≤ a1 ∧ a1 ≤ (wr ((m1 597 23) - 1))))] m1 _
  refine x_rI (t := .boolean) (cod_210 rfl) rfl rfl (bok_b (bi_01 _)) ?_
  show X 277 10 [(1, 597), (0, a1), (0, a2)] [(0, bi (0 ≤ a1 ∧ a1 ≤ (wr ((m1 597 23) - 1))))] m1 _
  refine x_if (p := 0 ≤ a1 ∧ a1 ≤ (wr ((m1 597 23) - 1))) (tgt := 16) (cod_277 rfl) (by decide) xb_ne (fun h => ?_) (fun h => ?_)
  · have H3 := H2.1 h
    refine x_s (q := (.aload_n 0, 0, 0, 0)) (cod_277 rfl) rfl rfl rfl ?_
    refine x_s (q := (.iload_n 1, 0, 0, 0)) (cod_277 rfl) rfl rfl rfl ?_
    refine x_call (as := [(1, 597), (0, a1)]) (rest := []) (cod_277 rfl) rfl rfl (by decide) (by decide) rfl rfl (Nat.le_of_ble_eq_true rfl) (rcv0 sq_l_597_0 sq_p_597 (by decide)) (Nat.le_of_ble_eq_true rfl) ?_
    refine X.imp H3 ?_
    rintro _ m5 ⟨rfl, H6⟩
    show X 277 21 [(1, 597), (0, a1), (0, a2)] [] m5 _
    refine x_s (q := (.iload_n 2, 0, 0, 0)) (cod_277 rfl) rfl rfl rfl ?_
    refine x_s (q := (.iconst 0, 0, 0, 0)) (cod_277 rfl) rfl rfl rfl ?_
    refine x_s (q := (.aload_n 0, 0, 0, 0)) (cod_277 rfl) rfl rfl rfl ?_
    refine x_gc (kk := 37) (c := 615) (t := 1) (cod_277 rfl) sq_p_597 sq_l_597_37 rfl rfl ?_
    refine x_s (q := (.iload_n 1, 0, 0, 0)) (cod_277 rfl) rfl rfl rfl ?_
    obtain ⟨c7, H8⟩ := H6
    refine x_iald (cod_277 rfl) sq_a_615.s (sq_a_615.k c7.1 c7.2) ?_
    refine x_s (q := (.iconst 1, 0, 0, 0)) (cod_277 rfl) rfl rfl rfl ?_
    refine x_s (q := (.isub, 0, 0, 0)) (cod_277 rfl) rfl rfl rfl ?_
    refine x_call (as := [(0, a2), (0, 0), (0, wr ((m5 615 a1) - 1))]) (rest := []) (cod_277 rfl) rfl rfl (by decide) (by decide) rfl rfl (Nat.le_of_ble_eq_true rfl) rfl (Nat.le_of_ble_eq_true rfl) ?_
    refine x_pure (p172) ?_
    show X 277 34 [(1, 597), (0, a1), (0, a2)] [(0, bi (0 ≤ a2 ∧ a2 ≤ (wr ((m5 615 a1) - 1))))] m5 _
    refine x_if (p := 0 ≤ a2 ∧ a2 ≤ (wr ((m5 615 a1) - 1))) (tgt := 40) (cod_277 rfl) (by decide) xb_ne (fun h => ?_) (fun h => ?_)
    · have H9 := H8.1 h
      refine x_s (q := (.aload_n 0, 0, 0, 0)) (cod_277 rfl) rfl rfl rfl ?_
      refine x_call (as := [(1, 597)]) (rest := []) (cod_277 rfl) rfl rfl (by decide) (by decide) rfl rfl (Nat.le_of_ble_eq_true rfl) (rcv0 sq_l_597_0 sq_p_597 (by decide)) (Nat.le_of_ble_eq_true rfl) ?_
      refine X.imp H9 ?_
      rintro _ m11 ⟨rfl, H12⟩
      show X 277 44 [(1, 597), (0, a1), (0, a2)] [] m11 _
      refine x_s (q := (.aload_n 0, 0, 0, 0)) (cod_277 rfl) rfl rfl rfl ?_
      refine x_s (q := (.bipush 48, 0, 0, 0)) (cod_277 rfl) rfl rfl rfl ?_
      refine x_s (q := (.iload_n 1, 0, 0, 0)) (cod_277 rfl) rfl rfl rfl ?_
      refine x_s (q := (.iadd, 0, 0, 0)) (cod_277 rfl) rfl rfl rfl ?_
      refine x_s (q := (.aload_n 0, 0, 0, 0)) (cod_277 rfl) rfl rfl rfl ?_
      refine x_gc (kk := 35) (c := 613) (t := 1) (cod_277 rfl) sq_p_597 sq_l_597_35 rfl rfl ?_
      refine x_s (q := (.bipush 24, 0, 0, 0)) (cod_277 rfl) rfl rfl rfl ?_
      refine x_s (q := (.iload_n 1, 0, 0, 0)) (cod_277 rfl) rfl rfl rfl ?_
      refine x_s (q := (.imul, 0, 0, 0)) (cod_277 rfl) rfl rfl rfl ?_
      refine x_s (q := (.iload_n 2, 0, 0, 0)) (cod_277 rfl) rfl rfl rfl ?_
      refine x_s (q := (.iadd, 0, 0, 0)) (cod_277 rfl) rfl rfl rfl ?_
      obtain ⟨c13, H14⟩ := H12
      refine x_iald (cod_277 rfl) sq_a_613.s (sq_a_613.k c13.1 c13.2) ?_
      refine x_call (as := [(1, 597), (0, wr (48 + a1)), (0, m11 613 (wr ((wr (24 * a1)) + a2)))]) (rest := []) (cod_277 rfl) rfl rfl (by decide) (by decide) rfl rfl (Nat.le_of_ble_eq_true rfl) (rcv0 sq_l_597_0 sq_p_597 (by decide)) (Nat.le_of_ble_eq_true rfl) ?_
      show X 191 0 [(1, 597), (0, wr (48 + a1)), (0, m11 613 (wr ((wr (24 * a1)) + a2)))] [] m11 _
      refine x_s (q := (.aload_n 0, 0, 0, 0)) (cod_191 rfl) rfl rfl rfl ?_
      refine x_gc (kk := 24) (c := 607) (t := 1) (cod_191 rfl) sq_p_597 sq_l_597_24 rfl rfl ?_
      refine x_s (q := (.iload_n 1, 0, 0, 0)) (cod_191 rfl) rfl rfl rfl ?_
      refine x_s (q := (.iload_n 2, 0, 0, 0)) (cod_191 rfl) rfl rfl rfl ?_
      obtain ⟨c15, H16⟩ := H14
      refine x_iast (cod_191 rfl) sq_a_607.s (sq_a_607.k c15.1 c15.2) ?_
      have H18 := H16 _ rfl
      generalize umem m11 607 (wr (48 + a1)) (m11 613 (wr ((wr (24 * a1)) + a2))) = m17 at H18 ⊢
      refine x_rV (cod_191 rfl) rfl ?_
      show X 277 63 [(1, 597), (0, a1), (0, a2)] [] m17 _
      refine x_s (q := (.aload_n 0, 0, 0, 0)) (cod_277 rfl) rfl rfl rfl ?_
      refine x_s (q := (.bipush 48, 0, 0, 0)) (cod_277 rfl) rfl rfl rfl ?_
      refine x_s (q := (.iload_n 1, 0, 0, 0)) (cod_277 rfl) rfl rfl rfl ?_
      refine x_s (q := (.iadd, 0, 0, 0)) (cod_277 rfl) rfl rfl rfl ?_
      refine x_call (as := [(1, 597), (0, wr (48 + a1))]) (rest := []) (cod_277 rfl) rfl rfl (by decide) (by decide) rfl rfl (Nat.le_of_ble_eq_true rfl) (rcv0 sq_l_597_0 sq_p_597 (by decide)) (Nat.le_of_ble_eq_true rfl) ?_
      show X 197 0 [(1, 597), (0, wr (48 + a1))] [] m17 _
      refine x_s (q := (.aload_n 0, 0, 0, 0)) (cod_197 rfl) rfl rfl rfl ?_
      refine x_gc (kk := 24) (c := 607) (t := 1) (cod_197 rfl) sq_p_597 sq_l_597_24 rfl rfl ?_
      refine x_s (q := (.iload_n 1, 0, 0, 0)) (cod_197 rfl) rfl rfl rfl ?_
      refine x_iald (cod_197 rfl) sq_a_607.s (sq_a_607.k c15.1 c15.2) ?_
      refine x_rI (t := .int) (cod_197 rfl) rfl rfl rfl ?_
      show X 277 71 [(1, 597), (0, a1), (0, a2)] [(0, m17 607 (wr (48 + a1)))] m17 _
      refine x_retI (t := .int) (cod_277 rfl) rfl rfl rfl ?_
      exact H18
    · have H10 := H8.2 h
      refine x_s (q := (.bipush (-9), 0, 0, 0)) (cod_277 rfl) rfl rfl rfl ?_
      refine x_retI (t := .int) (cod_277 rfl) rfl rfl rfl ?_
      exact H10
  · have H4 := H2.2 h
    refine x_s (q := (.bipush (-9), 0, 0, 0)) (cod_277 rfl) rfl rfl rfl ?_
    refine x_retI (t := .int) (cod_277 rfl) rfl rfl rfl ?_
    exact H4
theorem e277 {m : Mm} {K : Int → Mm → Prop} (a1 : Int) (a2 : Int) 
  (H : ∀ m1, m1 = umem m 597 0 0 → ((0 ≤ a1 ∧ a1 ≤ (wr ((m1 597 23) - 1))) → TrV 236 [(1, 597), (0, a1)] m1 fun m5 => (0 ≤ a1 ∧ a1 < 10) ∧ ((0 ≤ a2 ∧ a2 ≤ (wr ((m5 615 a1) - 1))) → TrV 273 [(1, 597)] m5 fun m11 => (0 ≤ (wr ((wr (24 * a1)) + a2)) ∧ (wr ((wr (24 * a1)) + a2)) < 240) ∧ (0 ≤ (wr (48 + a1)) ∧ (wr (48 + a1)) < 1276) ∧ ∀ m17, m17 = umem m11 607 (wr (48 + a1)) (m11 613 (wr ((wr (24 * a1)) + a2))) → K (m17 607 (wr (48 + a1))) m17) ∧ (¬ (0 ≤ a2 ∧ a2 ≤ (wr ((m5 615 a1) - 1))) → K (-9) m5)) ∧ (¬ (0 ≤ a1 ∧ a1 ≤ (wr ((m1 597 23) - 1))) → K (-9) m1)) : TrI 277 [(1, 597), (0, a1), (0, a2)] m K := by
  exact w277_0 a1 a2 H
set_option maxRecDepth 100000 in
theorem w278_0 {m : Mm} {K : Int → Mm → Prop} (a1 : Int) 
  (H : ∀ m1, m1 = umem m 597 0 0 → ((0 ≤ a1 ∧ a1 ≤ (wr ((m1 597 23) - 1))) → TrV 273 [(1, 597)] m1 fun m5 => (0 ≤ (wr (48 + a1)) ∧ (wr (48 + a1)) < 1276) ∧ ((m5 607 (wr (48 + a1))) = (-9) → ∀ m13, m13 = umem m5 607 (wr (48 + a1)) (-9) → K 0 m13) ∧ (¬ (m5 607 (wr (48 + a1))) = (-9) → ∀ m11, m11 = umem m5 607 (wr (48 + a1)) (-9) → K 1 m11)) ∧ (¬ (0 ≤ a1 ∧ a1 ≤ (wr ((m1 597 23) - 1))) → K (-1) m1)) : X 278 0 [(1, 597), (0, a1), (9, 0)] [] m (qI K) := by
  refine x_s (q := (.aload_n 0, 0, 0, 0)) (cod_278 rfl) rfl rfl rfl ?_
  refine x_s (q := (.iconst 0, 0, 0, 0)) (cod_278 rfl) rfl rfl rfl ?_
  refine x_pf (kk := 0) (t := 0) (cod_278 rfl) sq_p_597 sq_l_597_0 rfl rfl rfl ?_
  have H2 := H _ rfl
  generalize umem m 597 0 0 = m1 at H2 ⊢
  refine x_s (q := (.aload_n 0, 0, 0, 0)) (cod_278 rfl) rfl rfl rfl ?_
  refine x_s (q := (.iload_n 1, 0, 0, 0)) (cod_278 rfl) rfl rfl rfl ?_
  refine x_call (as := [(1, 597), (0, a1)]) (rest := []) (cod_278 rfl) rfl rfl (by decide) (by decide) rfl rfl (Nat.le_of_ble_eq_true rfl) (rcv0 sq_l_597_0 sq_p_597 (by decide)) (Nat.le_of_ble_eq_true rfl) ?_
  show X 210 0 [(1, 597), (0, a1)] [] m1 _
  refine x_s (q := (.iload_n 1, 0, 0, 0)) (cod_210 rfl) rfl rfl rfl ?_
  refine x_s (q := (.iconst 0, 0, 0, 0)) (cod_210 rfl) rfl rfl rfl ?_
  refine x_s (q := (.aload_n 0, 0, 0, 0)) (cod_210 rfl) rfl rfl rfl ?_
  refine x_gf (kk := 23) (t := 0) (cod_210 rfl) sq_p_597 sq_l_597_23 rfl rfl ?_
  refine x_s (q := (.iconst 1, 0, 0, 0)) (cod_210 rfl) rfl rfl rfl ?_
  refine x_s (q := (.isub, 0, 0, 0)) (cod_210 rfl) rfl rfl rfl ?_
  refine x_call (as := [(0, a1), (0, 0), (0, wr ((m1 597 23) - 1))]) (rest := []) (cod_210 rfl) rfl rfl (by decide) (by decide) rfl rfl (Nat.le_of_ble_eq_true rfl) rfl (Nat.le_of_ble_eq_true rfl) ?_
  refine x_pure (p172) ?_
  show X 210 11 [(1, 597), (0, a1)] [(0, bi (0 ≤ a1 ∧ a1 ≤ (wr ((m1 597 23) - 1))))] m1 _
  refine x_rI (t := .boolean) (cod_210 rfl) rfl rfl (bok_b (bi_01 _)) ?_
  show X 278 10 [(1, 597), (0, a1), (9, 0)] [(0, bi (0 ≤ a1 ∧ a1 ≤ (wr ((m1 597 23) - 1))))] m1 _
  refine x_if (p := 0 ≤ a1 ∧ a1 ≤ (wr ((m1 597 23) - 1))) (tgt := 15) (cod_278 rfl) (by decide) xb_ne (fun h => ?_) (fun h => ?_)
  · have H3 := H2.1 h
    refine x_s (q := (.aload_n 0, 0, 0, 0)) (cod_278 rfl) rfl rfl rfl ?_
    refine x_call (as := [(1, 597)]) (rest := []) (cod_278 rfl) rfl rfl (by decide) (by decide) rfl rfl (Nat.le_of_ble_eq_true rfl) (rcv0 sq_l_597_0 sq_p_597 (by decide)) (Nat.le_of_ble_eq_true rfl) ?_
    refine X.imp H3 ?_
    rintro _ m5 ⟨rfl, H6⟩
    show X 278 19 [(1, 597), (0, a1), (9, 0)] [] m5 _
    refine x_s (q := (.aload_n 0, 0, 0, 0)) (cod_278 rfl) rfl rfl rfl ?_
    refine x_s (q := (.bipush 48, 0, 0, 0)) (cod_278 rfl) rfl rfl rfl ?_
    refine x_s (q := (.iload_n 1, 0, 0, 0)) (cod_278 rfl) rfl rfl rfl ?_
    refine x_s (q := (.iadd, 0, 0, 0)) (cod_278 rfl) rfl rfl rfl ?_
    refine x_call (as := [(1, 597), (0, wr (48 + a1))]) (rest := []) (cod_278 rfl) rfl rfl (by decide) (by decide) rfl rfl (Nat.le_of_ble_eq_true rfl) (rcv0 sq_l_597_0 sq_p_597 (by decide)) (Nat.le_of_ble_eq_true rfl) ?_
    show X 197 0 [(1, 597), (0, wr (48 + a1))] [] m5 _
    refine x_s (q := (.aload_n 0, 0, 0, 0)) (cod_197 rfl) rfl rfl rfl ?_
    refine x_gc (kk := 24) (c := 607) (t := 1) (cod_197 rfl) sq_p_597 sq_l_597_24 rfl rfl ?_
    refine x_s (q := (.iload_n 1, 0, 0, 0)) (cod_197 rfl) rfl rfl rfl ?_
    obtain ⟨c7, H8⟩ := H6
    refine x_iald (cod_197 rfl) sq_a_607.s (sq_a_607.k c7.1 c7.2) ?_
    refine x_rI (t := .int) (cod_197 rfl) rfl rfl rfl ?_
    show X 278 27 [(1, 597), (0, a1), (9, 0)] [(0, m5 607 (wr (48 + a1)))] m5 _
    refine x_s (q := (.bipush (-9), 0, 0, 0)) (cod_278 rfl) rfl rfl rfl ?_
    refine x_ic (p := ¬ (m5 607 (wr (48 + a1))) = (-9)) (tgt := 36) (cod_278 rfl) (by decide) xj_ne (fun h => ?_) (fun h => ?_)
    · have H9 := H8.2 h
      refine x_s (q := (.iconst 1, 0, 0, 0)) (cod_278 rfl) rfl rfl rfl ?_
      refine x_s (q := (.istore_n 2, 0, 0, 0)) (cod_278 rfl) rfl rfl rfl ?_
      refine x_s (q := (.aload_n 0, 0, 0, 0)) (cod_278 rfl) rfl rfl rfl ?_
      refine x_s (q := (.bipush 48, 0, 0, 0)) (cod_278 rfl) rfl rfl rfl ?_
      refine x_s (q := (.iload_n 1, 0, 0, 0)) (cod_278 rfl) rfl rfl rfl ?_
      refine x_s (q := (.iadd, 0, 0, 0)) (cod_278 rfl) rfl rfl rfl ?_
      refine x_s (q := (.bipush (-9), 0, 0, 0)) (cod_278 rfl) rfl rfl rfl ?_
      refine x_call (as := [(1, 597), (0, wr (48 + a1)), (0, (-9))]) (rest := []) (cod_278 rfl) rfl rfl (by decide) (by decide) rfl rfl (Nat.le_of_ble_eq_true rfl) (rcv0 sq_l_597_0 sq_p_597 (by decide)) (Nat.le_of_ble_eq_true rfl) ?_
      show X 191 0 [(1, 597), (0, wr (48 + a1)), (0, (-9))] [] m5 _
      refine x_s (q := (.aload_n 0, 0, 0, 0)) (cod_191 rfl) rfl rfl rfl ?_
      refine x_gc (kk := 24) (c := 607) (t := 1) (cod_191 rfl) sq_p_597 sq_l_597_24 rfl rfl ?_
      refine x_s (q := (.iload_n 1, 0, 0, 0)) (cod_191 rfl) rfl rfl rfl ?_
      refine x_s (q := (.iload_n 2, 0, 0, 0)) (cod_191 rfl) rfl rfl rfl ?_
      refine x_iast (cod_191 rfl) sq_a_607.s (sq_a_607.k c7.1 c7.2) ?_
      have H12 := H9 _ rfl
      generalize umem m5 607 (wr (48 + a1)) (-9) = m11 at H12 ⊢
      refine x_rV (cod_191 rfl) rfl ?_
      show X 278 48 [(1, 597), (0, a1), (0, 1)] [] m11 _
      refine x_s (q := (.iload_n 2, 0, 0, 0)) (cod_278 rfl) rfl rfl rfl ?_
      refine x_retI (t := .int) (cod_278 rfl) rfl rfl rfl ?_
      exact H12
    · have H10 := H8.1 (Classical.not_not.mp h)
      refine x_s (q := (.iconst 0, 0, 0, 0)) (cod_278 rfl) rfl rfl rfl ?_
      refine x_go (tgt := 37) (cod_278 rfl) (by decide) ?_
      refine x_s (q := (.istore_n 2, 0, 0, 0)) (cod_278 rfl) rfl rfl rfl ?_
      refine x_s (q := (.aload_n 0, 0, 0, 0)) (cod_278 rfl) rfl rfl rfl ?_
      refine x_s (q := (.bipush 48, 0, 0, 0)) (cod_278 rfl) rfl rfl rfl ?_
      refine x_s (q := (.iload_n 1, 0, 0, 0)) (cod_278 rfl) rfl rfl rfl ?_
      refine x_s (q := (.iadd, 0, 0, 0)) (cod_278 rfl) rfl rfl rfl ?_
      refine x_s (q := (.bipush (-9), 0, 0, 0)) (cod_278 rfl) rfl rfl rfl ?_
      refine x_call (as := [(1, 597), (0, wr (48 + a1)), (0, (-9))]) (rest := []) (cod_278 rfl) rfl rfl (by decide) (by decide) rfl rfl (Nat.le_of_ble_eq_true rfl) (rcv0 sq_l_597_0 sq_p_597 (by decide)) (Nat.le_of_ble_eq_true rfl) ?_
      show X 191 0 [(1, 597), (0, wr (48 + a1)), (0, (-9))] [] m5 _
      refine x_s (q := (.aload_n 0, 0, 0, 0)) (cod_191 rfl) rfl rfl rfl ?_
      refine x_gc (kk := 24) (c := 607) (t := 1) (cod_191 rfl) sq_p_597 sq_l_597_24 rfl rfl ?_
      refine x_s (q := (.iload_n 1, 0, 0, 0)) (cod_191 rfl) rfl rfl rfl ?_
      refine x_s (q := (.iload_n 2, 0, 0, 0)) (cod_191 rfl) rfl rfl rfl ?_
      refine x_iast (cod_191 rfl) sq_a_607.s (sq_a_607.k c7.1 c7.2) ?_
      have H14 := H10 _ rfl
      generalize umem m5 607 (wr (48 + a1)) (-9) = m13 at H14 ⊢
      refine x_rV (cod_191 rfl) rfl ?_
      show X 278 48 [(1, 597), (0, a1), (0, 0)] [] m13 _
      refine x_s (q := (.iload_n 2, 0, 0, 0)) (cod_278 rfl) rfl rfl rfl ?_
      refine x_retI (t := .int) (cod_278 rfl) rfl rfl rfl ?_
      exact H14
  · have H4 := H2.2 h
    refine x_s (q := (.iconst (-1), 0, 0, 0)) (cod_278 rfl) rfl rfl rfl ?_
    refine x_retI (t := .int) (cod_278 rfl) rfl rfl rfl ?_
    exact H4
theorem e278 {m : Mm} {K : Int → Mm → Prop} (a1 : Int) 
  (H : ∀ m1, m1 = umem m 597 0 0 → ((0 ≤ a1 ∧ a1 ≤ (wr ((m1 597 23) - 1))) → TrV 273 [(1, 597)] m1 fun m5 => (0 ≤ (wr (48 + a1)) ∧ (wr (48 + a1)) < 1276) ∧ ((m5 607 (wr (48 + a1))) = (-9) → ∀ m13, m13 = umem m5 607 (wr (48 + a1)) (-9) → K 0 m13) ∧ (¬ (m5 607 (wr (48 + a1))) = (-9) → ∀ m11, m11 = umem m5 607 (wr (48 + a1)) (-9) → K 1 m11)) ∧ (¬ (0 ≤ a1 ∧ a1 ≤ (wr ((m1 597 23) - 1))) → K (-1) m1)) : TrI 278 [(1, 597), (0, a1)] m K := by
  exact w278_0 a1 H
set_option maxRecDepth 100000 in
theorem w279_0 {m : Mm} {K : Int → Mm → Prop}  
  (H : ∀ m1, m1 = umem m 597 0 0 → TrI 196 [(1, 597)] m1 fun v5 m3 => K v5 m3) : X 279 0 [(1, 597)] [] m (qI K) := by
  refine x_s (q := (.aload_n 0, 0, 0, 0)) (cod_279 rfl) rfl rfl rfl ?_
  refine x_s (q := (.iconst 0, 0, 0, 0)) (cod_279 rfl) rfl rfl rfl ?_
  refine x_pf (kk := 0) (t := 0) (cod_279 rfl) sq_p_597 sq_l_597_0 rfl rfl rfl ?_
  have H2 := H _ rfl
  generalize umem m 597 0 0 = m1 at H2 ⊢
  refine x_s (q := (.aload_n 0, 0, 0, 0)) (cod_279 rfl) rfl rfl rfl ?_
  refine x_call (as := [(1, 597)]) (rest := []) (cod_279 rfl) rfl rfl (by decide) (by decide) rfl rfl (Nat.le_of_ble_eq_true rfl) (rcv0 sq_l_597_0 sq_p_597 (by decide)) (Nat.le_of_ble_eq_true rfl) ?_
  refine X.imp H2 ?_
  rintro _ m3 ⟨v5, rfl, H4⟩
  show X 279 9 [(1, 597)] [(0, v5)] m3 _
  refine x_retI (t := .int) (cod_279 rfl) rfl rfl rfl ?_
  exact H4
theorem e279 {m : Mm} {K : Int → Mm → Prop}  
  (H : ∀ m1, m1 = umem m 597 0 0 → TrI 196 [(1, 597)] m1 fun v5 m3 => K v5 m3) : TrI 279 [(1, 597)] m K := by
  exact w279_0  H
set_option maxRecDepth 100000 in
theorem w280_0 {m : Mm} {K : Int → Mm → Prop} (a1 : Int) (a2 : Int) (a3 : Int) 
  (H : ∀ m1, m1 = umem m 597 0 0 → (a1 < (-1) → K (-1) m1) ∧ (¬ a1 < (-1) → ((1 ≤ a2 ∧ a2 ≤ 100) → ((0 ≤ a3 ∧ a3 ≤ 1) → (a1 < 0 → m1 597 16 = 0 ∧ ∀ m19, m19 = umem m1 597 50 (m1 602 582) → TrV 241 [(1, 597)] m19 fun m21 => ∀ m23, m23 = umem m21 597 40 0 → X 280 71 [(1, 597), (0, a1), (0, a2), (0, a3), (0, 0), (0, (-2)), (0, 0), (9, 0)] [] m23 (qI K)) ∧ (¬ a1 < 0 → ∀ m11, m11 = umem m1 597 50 a1 → TrV 241 [(1, 597)] m11 fun m13 => ∀ m15, m15 = umem m13 597 40 0 → X 280 71 [(1, 597), (0, a1), (0, a2), (0, a3), (0, 0), (0, (-2)), (0, 0), (9, 0)] [] m15 (qI K))) ∧ (¬ (0 ≤ a3 ∧ a3 ≤ 1) → K (-1) m1)) ∧ (¬ (1 ≤ a2 ∧ a2 ≤ 100) → K (-1) m1))) : X 280 0 [(1, 597), (0, a1), (0, a2), (0, a3), (9, 0), (9, 0), (9, 0), (9, 0)] [] m (qI K) := by
  refine x_s (q := (.aload_n 0, 0, 0, 0)) (cod_280 rfl) rfl rfl rfl ?_
  refine x_s (q := (.iconst 0, 0, 0, 0)) (cod_280 rfl) rfl rfl rfl ?_
  refine x_pf (kk := 0) (t := 0) (cod_280 rfl) sq_p_597 sq_l_597_0 rfl rfl rfl ?_
  have H2 := H _ rfl
  generalize umem m 597 0 0 = m1 at H2 ⊢
  refine x_s (q := (.iload_n 1, 0, 0, 0)) (cod_280 rfl) rfl rfl rfl ?_
  refine x_s (q := (.iconst (-1), 0, 0, 0)) (cod_280 rfl) rfl rfl rfl ?_
  refine x_ic (p := a1 < (-1)) (tgt := 29) (cod_280 rfl) (by decide) xj_lt (fun h => ?_) (fun h => ?_)
  · have H3 := H2.1 h
    refine x_s (q := (.iconst (-1), 0, 0, 0)) (cod_280 rfl) rfl rfl rfl ?_
    refine x_retI (t := .int) (cod_280 rfl) rfl rfl rfl ?_
    exact H3
  · have H4 := H2.2 h
    refine x_s (q := (.iload_n 2, 0, 0, 0)) (cod_280 rfl) rfl rfl rfl ?_
    refine x_s (q := (.iconst 1, 0, 0, 0)) (cod_280 rfl) rfl rfl rfl ?_
    refine x_s (q := (.bipush 100, 0, 0, 0)) (cod_280 rfl) rfl rfl rfl ?_
    refine x_call (as := [(0, a2), (0, 1), (0, 100)]) (rest := []) (cod_280 rfl) rfl rfl (by decide) (by decide) rfl rfl (Nat.le_of_ble_eq_true rfl) rfl (Nat.le_of_ble_eq_true rfl) ?_
    refine x_pure (p172) ?_
    show X 280 17 [(1, 597), (0, a1), (0, a2), (0, a3), (9, 0), (9, 0), (9, 0), (9, 0)] [(0, bi (1 ≤ a2 ∧ a2 ≤ 100))] m1 _
    refine x_if (p := ¬ (1 ≤ a2 ∧ a2 ≤ 100)) (tgt := 29) (cod_280 rfl) (by decide) xb_eq (fun h => ?_) (fun h => ?_)
    · have H5 := H4.2 h
      refine x_s (q := (.iconst (-1), 0, 0, 0)) (cod_280 rfl) rfl rfl rfl ?_
      refine x_retI (t := .int) (cod_280 rfl) rfl rfl rfl ?_
      exact H5
    · have H6 := H4.1 (Classical.not_not.mp h)
      refine x_s (q := (.iload_n 3, 0, 0, 0)) (cod_280 rfl) rfl rfl rfl ?_
      refine x_s (q := (.iconst 0, 0, 0, 0)) (cod_280 rfl) rfl rfl rfl ?_
      refine x_s (q := (.iconst 1, 0, 0, 0)) (cod_280 rfl) rfl rfl rfl ?_
      refine x_call (as := [(0, a3), (0, 0), (0, 1)]) (rest := []) (cod_280 rfl) rfl rfl (by decide) (by decide) rfl rfl (Nat.le_of_ble_eq_true rfl) rfl (Nat.le_of_ble_eq_true rfl) ?_
      refine x_pure (p172) ?_
      show X 280 26 [(1, 597), (0, a1), (0, a2), (0, a3), (9, 0), (9, 0), (9, 0), (9, 0)] [(0, bi (0 ≤ a3 ∧ a3 ≤ 1))] m1 _
      refine x_if (p := 0 ≤ a3 ∧ a3 ≤ 1) (tgt := 31) (cod_280 rfl) (by decide) xb_ne (fun h => ?_) (fun h => ?_)
      · have H7 := H6.1 h
        refine x_s (q := (.aload_n 0, 0, 0, 0)) (cod_280 rfl) rfl rfl rfl ?_
        refine x_s (q := (.iload_n 1, 0, 0, 0)) (cod_280 rfl) rfl rfl rfl ?_
        refine x_if (p := ¬ a1 < 0) (tgt := 47) (cod_280 rfl) (by decide) xn_ge (fun h => ?_) (fun h => ?_)
        · have H9 := H7.2 h
          refine x_s (q := (.iload_n 1, 0, 0, 0)) (cod_280 rfl) rfl rfl rfl ?_
          refine x_s (q := (.i2l, 0, 0, 0)) (cod_280 rfl) rfl rfl rfl ?_
          refine x_pf (kk := 50) (t := 2) (cod_280 rfl) sq_p_597 sq_l_597_50 rfl rfl rfl ?_
          have H12 := H9 _ rfl
          generalize umem m1 597 50 a1 = m11 at H12 ⊢
          refine x_s (q := (.aload_n 0, 0, 0, 0)) (cod_280 rfl) rfl rfl rfl ?_
          refine x_call (as := [(1, 597)]) (rest := []) (cod_280 rfl) rfl rfl (by decide) (by decide) rfl rfl (Nat.le_of_ble_eq_true rfl) (rcv0 sq_l_597_0 sq_p_597 (by decide)) (Nat.le_of_ble_eq_true rfl) ?_
          refine X.imp H12 ?_
          rintro _ m13 ⟨rfl, H14⟩
          show X 280 56 [(1, 597), (0, a1), (0, a2), (0, a3), (9, 0), (9, 0), (9, 0), (9, 0)] [] m13 _
          refine x_s (q := (.aload_n 0, 0, 0, 0)) (cod_280 rfl) rfl rfl rfl ?_
          refine x_s (q := (.iconst 0, 0, 0, 0)) (cod_280 rfl) rfl rfl rfl ?_
          refine x_pf (kk := 40) (t := 0) (cod_280 rfl) sq_p_597 sq_l_597_40 rfl rfl rfl ?_
          have H16 := H14 _ rfl
          generalize umem m13 597 40 0 = m15 at H16 ⊢
          refine x_s (q := (.iconst 0, 0, 0, 0)) (cod_280 rfl) rfl rfl rfl ?_
          refine x_s (q := (.istore 4, 0, 0, 0)) (cod_280 rfl) rfl rfl rfl ?_
          refine x_s (q := (.bipush (-2), 0, 0, 0)) (cod_280 rfl) rfl rfl rfl ?_
          refine x_s (q := (.istore 5, 0, 0, 0)) (cod_280 rfl) rfl rfl rfl ?_
          refine x_s (q := (.iconst 0, 0, 0, 0)) (cod_280 rfl) rfl rfl rfl ?_
          refine x_s (q := (.istore 6, 0, 0, 0)) (cod_280 rfl) rfl rfl rfl ?_
          exact H16
        · have H10 := H7.1 (Classical.not_not.mp h)
          refine x_s (q := (.aload_n 0, 0, 0, 0)) (cod_280 rfl) rfl rfl rfl ?_
          refine x_s (q := (.sipush 582, 0, 0, 0)) (cod_280 rfl) rfl rfl rfl ?_
          obtain ⟨c17, H18⟩ := H10
          refine x_call (as := [(1, 597), (0, 582)]) (rest := [(1, 597)]) (cod_280 rfl) rfl rfl (by decide) (by decide) rfl rfl (Nat.le_of_ble_eq_true rfl) (rcv0 sq_l_597_0 sq_p_597 (by decide)) (Nat.le_of_ble_eq_true rfl) ?_
          refine x_pure (p182a (by decide) c17) ?_
          show X 280 43 [(1, 597), (0, a1), (0, a2), (0, a3), (9, 0), (9, 0), (9, 0), (9, 0)] [(0, m1 602 582), (1, 597)] m1 _
          refine x_s (q := (.i2l, 0, 0, 0)) (cod_280 rfl) rfl rfl rfl ?_
          refine x_go (tgt := 49) (cod_280 rfl) (by decide) ?_
          refine x_pf (kk := 50) (t := 2) (cod_280 rfl) sq_p_597 sq_l_597_50 rfl rfl rfl ?_
          have H20 := H18 _ rfl
          generalize umem m1 597 50 (m1 602 582) = m19 at H20 ⊢
          refine x_s (q := (.aload_n 0, 0, 0, 0)) (cod_280 rfl) rfl rfl rfl ?_
          refine x_call (as := [(1, 597)]) (rest := []) (cod_280 rfl) rfl rfl (by decide) (by decide) rfl rfl (Nat.le_of_ble_eq_true rfl) (rcv0 sq_l_597_0 sq_p_597 (by decide)) (Nat.le_of_ble_eq_true rfl) ?_
          refine X.imp H20 ?_
          rintro _ m21 ⟨rfl, H22⟩
          show X 280 56 [(1, 597), (0, a1), (0, a2), (0, a3), (9, 0), (9, 0), (9, 0), (9, 0)] [] m21 _
          refine x_s (q := (.aload_n 0, 0, 0, 0)) (cod_280 rfl) rfl rfl rfl ?_
          refine x_s (q := (.iconst 0, 0, 0, 0)) (cod_280 rfl) rfl rfl rfl ?_
          refine x_pf (kk := 40) (t := 0) (cod_280 rfl) sq_p_597 sq_l_597_40 rfl rfl rfl ?_
          have H24 := H22 _ rfl
          generalize umem m21 597 40 0 = m23 at H24 ⊢
          refine x_s (q := (.iconst 0, 0, 0, 0)) (cod_280 rfl) rfl rfl rfl ?_
          refine x_s (q := (.istore 4, 0, 0, 0)) (cod_280 rfl) rfl rfl rfl ?_
          refine x_s (q := (.bipush (-2), 0, 0, 0)) (cod_280 rfl) rfl rfl rfl ?_
          refine x_s (q := (.istore 5, 0, 0, 0)) (cod_280 rfl) rfl rfl rfl ?_
          refine x_s (q := (.iconst 0, 0, 0, 0)) (cod_280 rfl) rfl rfl rfl ?_
          refine x_s (q := (.istore 6, 0, 0, 0)) (cod_280 rfl) rfl rfl rfl ?_
          exact H24
      · have H8 := H6.2 h
        refine x_s (q := (.iconst (-1), 0, 0, 0)) (cod_280 rfl) rfl rfl rfl ?_
        refine x_retI (t := .int) (cod_280 rfl) rfl rfl rfl ?_
        exact H8
theorem e280 {m : Mm} {K : Int → Mm → Prop} (a1 : Int) (a2 : Int) (a3 : Int) 
  (H : ∀ m1, m1 = umem m 597 0 0 → (a1 < (-1) → K (-1) m1) ∧ (¬ a1 < (-1) → ((1 ≤ a2 ∧ a2 ≤ 100) → ((0 ≤ a3 ∧ a3 ≤ 1) → (a1 < 0 → m1 597 16 = 0 ∧ ∀ m19, m19 = umem m1 597 50 (m1 602 582) → TrV 241 [(1, 597)] m19 fun m21 => ∀ m23, m23 = umem m21 597 40 0 → X 280 71 [(1, 597), (0, a1), (0, a2), (0, a3), (0, 0), (0, (-2)), (0, 0), (9, 0)] [] m23 (qI K)) ∧ (¬ a1 < 0 → ∀ m11, m11 = umem m1 597 50 a1 → TrV 241 [(1, 597)] m11 fun m13 => ∀ m15, m15 = umem m13 597 40 0 → X 280 71 [(1, 597), (0, a1), (0, a2), (0, a3), (0, 0), (0, (-2)), (0, 0), (9, 0)] [] m15 (qI K))) ∧ (¬ (0 ≤ a3 ∧ a3 ≤ 1) → K (-1) m1)) ∧ (¬ (1 ≤ a2 ∧ a2 ≤ 100) → K (-1) m1))) : TrI 280 [(1, 597), (0, a1), (0, a2), (0, a3)] m K := by
  exact w280_0 a1 a2 a3 H
set_option maxRecDepth 100000 in
theorem w280_71 {m : Mm} {K : Int → Mm → Prop} (ua1 : aV) (a2 : Int) (a3 : Int) (a4 : Int) (a5 : Int) (a6 : Int) (ua7 : aV) 
  (H : (a6 < a2 → TrI 281 [(1, 597)] m fun v7 m5 => (v7 < 0 → X 280 71 [(1, 597), ua1, (0, a2), (0, a3), (0, a4), (0, a5), (0, wr (a6 + 1)), (0, v7)] [] m5 (qI K)) ∧ (¬ v7 < 0 → (a5 < 0 → X 280 71 [(1, 597), ua1, (0, a2), (0, a3), (0, wr (a4 + 1)), (0, v7), (0, wr (a6 + 1)), (0, v7)] [] m5 (qI K)) ∧ (¬ a5 < 0 → (v7 < a5 → X 280 71 [(1, 597), ua1, (0, a2), (0, a3), (0, wr (a4 + 1)), (0, v7), (0, wr (a6 + 1)), (0, v7)] [] m5 (qI K)) ∧ (¬ v7 < a5 → X 280 71 [(1, 597), ua1, (0, a2), (0, a3), (0, wr (a4 + 1)), (0, a5), (0, wr (a6 + 1)), (0, v7)] [] m5 (qI K))))) ∧ (¬ a6 < a2 → (a3 = 0 → K a4 m) ∧ (¬ a3 = 0 → K a5 m))) : X 280 71 [(1, 597), ua1, (0, a2), (0, a3), (0, a4), (0, a5), (0, a6), ua7] [] m (qI K) := by
  refine x_s (q := (.iload 6, 0, 0, 0)) (cod_280 rfl) rfl rfl rfl ?_
  refine x_s (q := (.iload_n 2, 0, 0, 0)) (cod_280 rfl) rfl rfl rfl ?_
  refine x_ic (p := ¬ a6 < a2) (tgt := 121) (cod_280 rfl) (by decide) xn_ge (fun h => ?_) (fun h => ?_)
  · have H1 := H.2 h
    refine x_s (q := (.iload_n 3, 0, 0, 0)) (cod_280 rfl) rfl rfl rfl ?_
    refine x_if (p := ¬ a3 = 0) (tgt := 130) (cod_280 rfl) (by decide) xj_ne (fun h => ?_) (fun h => ?_)
    · have H3 := H1.2 h
      refine x_s (q := (.iload 5, 0, 0, 0)) (cod_280 rfl) rfl rfl rfl ?_
      refine x_retI (t := .int) (cod_280 rfl) rfl rfl rfl ?_
      exact H3
    · have H4 := H1.1 (Classical.not_not.mp h)
      refine x_s (q := (.iload 4, 0, 0, 0)) (cod_280 rfl) rfl rfl rfl ?_
      refine x_go (tgt := 132) (cod_280 rfl) (by decide) ?_
      refine x_retI (t := .int) (cod_280 rfl) rfl rfl rfl ?_
      exact H4
  · have H2 := H.1 (Classical.not_not.mp h)
    refine x_s (q := (.aload_n 0, 0, 0, 0)) (cod_280 rfl) rfl rfl rfl ?_
    refine x_call (as := [(1, 597)]) (rest := []) (cod_280 rfl) rfl rfl (by decide) (by decide) rfl rfl (Nat.le_of_ble_eq_true rfl) (rcv0 sq_l_597_0 sq_p_597 (by decide)) (Nat.le_of_ble_eq_true rfl) ?_
    refine X.imp H2 ?_
    rintro _ m5 ⟨v7, rfl, H6⟩
    show X 280 81 [(1, 597), ua1, (0, a2), (0, a3), (0, a4), (0, a5), (0, a6), ua7] [(0, v7)] m5 _
    refine x_s (q := (.istore 7, 0, 0, 0)) (cod_280 rfl) rfl rfl rfl ?_
    refine x_s (q := (.iload 7, 0, 0, 0)) (cod_280 rfl) rfl rfl rfl ?_
    refine x_if (p := ¬ v7 < 0) (tgt := 91) (cod_280 rfl) (by decide) xn_ge (fun h => ?_) (fun h => ?_)
    · have H8 := H6.2 h
      refine x_s (q := (.iinc 4 1, 0, 0, 0)) (cod_280 rfl) rfl rfl rfl ?_
      refine x_s (q := (.iload 5, 0, 0, 0)) (cod_280 rfl) rfl rfl rfl ?_
      refine x_if (p := a5 < 0) (tgt := 106) (cod_280 rfl) (by decide) xj_lt (fun h => ?_) (fun h => ?_)
      · have H10 := H8.1 h
        refine x_s (q := (.iload 7, 0, 0, 0)) (cod_280 rfl) rfl rfl rfl ?_
        refine x_go (tgt := 113) (cod_280 rfl) (by decide) ?_
        refine x_s (q := (.istore 5, 0, 0, 0)) (cod_280 rfl) rfl rfl rfl ?_
        refine x_s (q := (.iinc 6 1, 0, 0, 0)) (cod_280 rfl) rfl rfl rfl ?_
        refine x_go (tgt := 71) (cod_280 rfl) (by decide) ?_
        exact H10
      · have H11 := H8.2 h
        refine x_s (q := (.iload 7, 0, 0, 0)) (cod_280 rfl) rfl rfl rfl ?_
        refine x_s (q := (.iload 5, 0, 0, 0)) (cod_280 rfl) rfl rfl rfl ?_
        refine x_ic (p := ¬ v7 < a5) (tgt := 111) (cod_280 rfl) (by decide) xn_ge (fun h => ?_) (fun h => ?_)
        · have H12 := H11.2 h
          refine x_s (q := (.iload 5, 0, 0, 0)) (cod_280 rfl) rfl rfl rfl ?_
          refine x_s (q := (.istore 5, 0, 0, 0)) (cod_280 rfl) rfl rfl rfl ?_
          refine x_s (q := (.iinc 6 1, 0, 0, 0)) (cod_280 rfl) rfl rfl rfl ?_
          refine x_go (tgt := 71) (cod_280 rfl) (by decide) ?_
          exact H12
        · have H13 := H11.1 (Classical.not_not.mp h)
          refine x_s (q := (.iload 7, 0, 0, 0)) (cod_280 rfl) rfl rfl rfl ?_
          refine x_go (tgt := 113) (cod_280 rfl) (by decide) ?_
          refine x_s (q := (.istore 5, 0, 0, 0)) (cod_280 rfl) rfl rfl rfl ?_
          refine x_s (q := (.iinc 6 1, 0, 0, 0)) (cod_280 rfl) rfl rfl rfl ?_
          refine x_go (tgt := 71) (cod_280 rfl) (by decide) ?_
          exact H13
    · have H9 := H6.1 (Classical.not_not.mp h)
      refine x_go (tgt := 115) (cod_280 rfl) (by decide) ?_
      refine x_s (q := (.iinc 6 1, 0, 0, 0)) (cod_280 rfl) rfl rfl rfl ?_
      refine x_go (tgt := 71) (cod_280 rfl) (by decide) ?_
      exact H9
set_option maxRecDepth 100000 in
theorem w281_0 {m : Mm} {K : Int → Mm → Prop}  
  (H : X 281 4 [(1, 597), (0, 0), (0, 0), (9, 0), (9, 0)] [] m (qI K)) : X 281 0 [(1, 597), (9, 0), (9, 0), (9, 0), (9, 0)] [] m (qI K) := by
  refine x_s (q := (.iconst 0, 0, 0, 0)) (cod_281 rfl) rfl rfl rfl ?_
  refine x_s (q := (.istore_n 1, 0, 0, 0)) (cod_281 rfl) rfl rfl rfl ?_
  refine x_s (q := (.iconst 0, 0, 0, 0)) (cod_281 rfl) rfl rfl rfl ?_
  refine x_s (q := (.istore_n 2, 0, 0, 0)) (cod_281 rfl) rfl rfl rfl ?_
  exact H
theorem e281 {m : Mm} {K : Int → Mm → Prop}  
  (H : X 281 4 [(1, 597), (0, 0), (0, 0), (9, 0), (9, 0)] [] m (qI K)) : TrI 281 [(1, 597)] m K := by
  exact w281_0  H
set_option maxRecDepth 100000 in
theorem w281_4 {m : Mm} {K : Int → Mm → Prop} (a1 : Int) (a2 : Int) (ua3 : aV) (ua4 : aV) 
  (H : (a2 < (m 597 23) → (0 ≤ a2 ∧ a2 < 10) ∧ TrI 282 [(1, 597), (0, m 615 a2)] m fun v7 m5 => X 281 23 [(1, 597), (0, a1), (0, a2), (0, v7), ua4] [] m5 (qI K)) ∧ (¬ a2 < (m 597 23) → K a1 m)) : X 281 4 [(1, 597), (0, a1), (0, a2), ua3, ua4] [] m (qI K) := by
  refine x_s (q := (.iload_n 2, 0, 0, 0)) (cod_281 rfl) rfl rfl rfl ?_
  refine x_s (q := (.aload_n 0, 0, 0, 0)) (cod_281 rfl) rfl rfl rfl ?_
  refine x_gf (kk := 23) (t := 0) (cod_281 rfl) sq_p_597 sq_l_597_23 rfl rfl ?_
  refine x_ic (p := ¬ a2 < (m 597 23)) (tgt := 116) (cod_281 rfl) (by decide) xn_ge (fun h => ?_) (fun h => ?_)
  · have H1 := H.2 h
    refine x_s (q := (.iload_n 1, 0, 0, 0)) (cod_281 rfl) rfl rfl rfl ?_
    refine x_retI (t := .int) (cod_281 rfl) rfl rfl rfl ?_
    exact H1
  · have H2 := H.1 (Classical.not_not.mp h)
    refine x_s (q := (.aload_n 0, 0, 0, 0)) (cod_281 rfl) rfl rfl rfl ?_
    refine x_s (q := (.aload_n 0, 0, 0, 0)) (cod_281 rfl) rfl rfl rfl ?_
    refine x_gc (kk := 37) (c := 615) (t := 1) (cod_281 rfl) sq_p_597 sq_l_597_37 rfl rfl ?_
    refine x_s (q := (.iload_n 2, 0, 0, 0)) (cod_281 rfl) rfl rfl rfl ?_
    obtain ⟨c3, H4⟩ := H2
    refine x_iald (cod_281 rfl) sq_a_615.s (sq_a_615.k c3.1 c3.2) ?_
    refine x_call (as := [(1, 597), (0, m 615 a2)]) (rest := []) (cod_281 rfl) rfl rfl (by decide) (by decide) rfl rfl (Nat.le_of_ble_eq_true rfl) (rcv0 sq_l_597_0 sq_p_597 (by decide)) (Nat.le_of_ble_eq_true rfl) ?_
    refine X.imp H4 ?_
    rintro _ m5 ⟨v7, rfl, H6⟩
    show X 281 22 [(1, 597), (0, a1), (0, a2), ua3, ua4] [(0, v7)] m5 _
    refine x_s (q := (.istore_n 3, 0, 0, 0)) (cod_281 rfl) rfl rfl rfl ?_
    exact H6
set_option maxRecDepth 100000 in
theorem w281_23 {m : Mm} {K : Int → Mm → Prop} (a1 : Int) (a2 : Int) (a3 : Int) (ua4 : aV) 
  (H : TrI 244 [(1, 597), (0, a2), (0, a3)] m fun v3 m1 => (v3 = 0 → (0 ≤ a2 ∧ a2 < 10) ∧ ¬ (m1 615 a2) = 0 ∧ X 281 23 [(1, 597), (0, a1), (0, a2), (0, irem (wr (a3 + 1)) (m1 615 a2)), ua4] [] m1 (qI K)) ∧ (¬ v3 = 0 → (0 ≤ a2 ∧ a2 < 10) ∧ ∀ m8, m8 = umem m1 625 a2 a3 → (a2 > 0 → (0 ≤ (wr (a2 - 1)) ∧ (wr (a2 - 1)) < 10) ∧ TrI 246 [(1, 597), (0, wr (a2 - 1)), (0, m8 625 (wr (a2 - 1))), (0, a3)] m8 fun v16 m14 => X 281 77 [(1, 597), (0, a1), (0, a2), (0, a3), ua4] [(0, v16)] m14 (qI K)) ∧ (¬ a2 > 0 → X 281 77 [(1, 597), (0, a1), (0, a2), (0, a3), ua4] [(0, 0)] m8 (qI K)))) : X 281 23 [(1, 597), (0, a1), (0, a2), (0, a3), ua4] [] m (qI K) := by
  refine x_s (q := (.aload_n 0, 0, 0, 0)) (cod_281 rfl) rfl rfl rfl ?_
  refine x_s (q := (.iload_n 2, 0, 0, 0)) (cod_281 rfl) rfl rfl rfl ?_
  refine x_s (q := (.iload_n 3, 0, 0, 0)) (cod_281 rfl) rfl rfl rfl ?_
  refine x_call (as := [(1, 597), (0, a2), (0, a3)]) (rest := []) (cod_281 rfl) rfl rfl (by decide) (by decide) rfl rfl (Nat.le_of_ble_eq_true rfl) (rcv0 sq_l_597_0 sq_p_597 (by decide)) (Nat.le_of_ble_eq_true rfl) ?_
  refine X.imp H ?_
  rintro _ m1 ⟨v3, rfl, H2⟩
  show X 281 29 [(1, 597), (0, a1), (0, a2), (0, a3), ua4] [(0, v3)] m1 _
  refine x_if (p := ¬ v3 = 0) (tgt := 46) (cod_281 rfl) (by decide) xj_ne (fun h => ?_) (fun h => ?_)
  · have H4 := H2.2 h
    refine x_s (q := (.aload_n 0, 0, 0, 0)) (cod_281 rfl) rfl rfl rfl ?_
    refine x_gc (kk := 51) (c := 625) (t := 1) (cod_281 rfl) sq_p_597 sq_l_597_51 rfl rfl ?_
    refine x_s (q := (.iload_n 2, 0, 0, 0)) (cod_281 rfl) rfl rfl rfl ?_
    refine x_s (q := (.iload_n 3, 0, 0, 0)) (cod_281 rfl) rfl rfl rfl ?_
    obtain ⟨c6, H7⟩ := H4
    refine x_iast (cod_281 rfl) sq_a_625.s (sq_a_625.k c6.1 c6.2) ?_
    have H9 := H7 _ rfl
    generalize umem m1 625 a2 a3 = m8 at H9 ⊢
    refine x_s (q := (.iload_n 2, 0, 0, 0)) (cod_281 rfl) rfl rfl rfl ?_
    refine x_if (p := ¬ a2 > 0) (tgt := 76) (cod_281 rfl) (by decide) xn_le (fun h => ?_) (fun h => ?_)
    · have H10 := H9.2 h
      refine x_s (q := (.iconst 0, 0, 0, 0)) (cod_281 rfl) rfl rfl rfl ?_
      exact H10
    · have H11 := H9.1 (Classical.not_not.mp h)
      refine x_s (q := (.aload_n 0, 0, 0, 0)) (cod_281 rfl) rfl rfl rfl ?_
      refine x_s (q := (.iload_n 2, 0, 0, 0)) (cod_281 rfl) rfl rfl rfl ?_
      refine x_s (q := (.iconst 1, 0, 0, 0)) (cod_281 rfl) rfl rfl rfl ?_
      refine x_s (q := (.isub, 0, 0, 0)) (cod_281 rfl) rfl rfl rfl ?_
      refine x_s (q := (.aload_n 0, 0, 0, 0)) (cod_281 rfl) rfl rfl rfl ?_
      refine x_gc (kk := 51) (c := 625) (t := 1) (cod_281 rfl) sq_p_597 sq_l_597_51 rfl rfl ?_
      refine x_s (q := (.iload_n 2, 0, 0, 0)) (cod_281 rfl) rfl rfl rfl ?_
      refine x_s (q := (.iconst 1, 0, 0, 0)) (cod_281 rfl) rfl rfl rfl ?_
      refine x_s (q := (.isub, 0, 0, 0)) (cod_281 rfl) rfl rfl rfl ?_
      obtain ⟨c12, H13⟩ := H11
      refine x_iald (cod_281 rfl) sq_a_625.s (sq_a_625.k c12.1 c12.2) ?_
      refine x_s (q := (.iload_n 3, 0, 0, 0)) (cod_281 rfl) rfl rfl rfl ?_
      refine x_call (as := [(1, 597), (0, wr (a2 - 1)), (0, m8 625 (wr (a2 - 1))), (0, a3)]) (rest := []) (cod_281 rfl) rfl rfl (by decide) (by decide) rfl rfl (Nat.le_of_ble_eq_true rfl) (rcv0 sq_l_597_0 sq_p_597 (by decide)) (Nat.le_of_ble_eq_true rfl) ?_
      refine X.imp H13 ?_
      rintro _ m14 ⟨v16, rfl, H15⟩
      show X 281 73 [(1, 597), (0, a1), (0, a2), (0, a3), ua4] [(0, v16)] m14 _
      refine x_go (tgt := 77) (cod_281 rfl) (by decide) ?_
      exact H15
  · have H5 := H2.1 (Classical.not_not.mp h)
    refine x_s (q := (.iload_n 3, 0, 0, 0)) (cod_281 rfl) rfl rfl rfl ?_
    refine x_s (q := (.iconst 1, 0, 0, 0)) (cod_281 rfl) rfl rfl rfl ?_
    refine x_s (q := (.iadd, 0, 0, 0)) (cod_281 rfl) rfl rfl rfl ?_
    refine x_s (q := (.aload_n 0, 0, 0, 0)) (cod_281 rfl) rfl rfl rfl ?_
    refine x_gc (kk := 37) (c := 615) (t := 1) (cod_281 rfl) sq_p_597 sq_l_597_37 rfl rfl ?_
    refine x_s (q := (.iload_n 2, 0, 0, 0)) (cod_281 rfl) rfl rfl rfl ?_
    obtain ⟨c17, H18⟩ := H5
    refine x_iald (cod_281 rfl) sq_a_615.s (sq_a_615.k c17.1 c17.2) ?_
    obtain ⟨c19, H20⟩ := H18
    refine x_rem (cod_281 rfl) c19 ?_
    refine x_s (q := (.istore_n 3, 0, 0, 0)) (cod_281 rfl) rfl rfl rfl ?_
    refine x_go (tgt := 23) (cod_281 rfl) (by decide) ?_
    exact H20
set_option maxRecDepth 100000 in
theorem w281_77 {m : Mm} {K : Int → Mm → Prop} (a1 : Int) (a2 : Int) (a3 : Int) (ua4 : aV) (s0 : Int) 
  (H : (s0 < 0 → X 281 4 [(1, 597), (0, (-2)), (0, wr (a2 + 1)), (0, a3), (0, s0)] [] m (qI K)) ∧ (¬ s0 < 0 → (a1 < 0 → X 281 4 [(1, 597), (0, (-2)), (0, wr (a2 + 1)), (0, a3), (0, s0)] [] m (qI K)) ∧ (¬ a1 < 0 → (0 ≤ (wr ((wr (24 * a2)) + a3)) ∧ (wr ((wr (24 * a2)) + a3)) < 240) ∧ X 281 4 [(1, 597), (0, wr ((wr (a1 + s0)) + (m 614 (wr ((wr (24 * a2)) + a3))))), (0, wr (a2 + 1)), (0, a3), (0, s0)] [] m (qI K)))) : X 281 77 [(1, 597), (0, a1), (0, a2), (0, a3), ua4] [(0, s0)] m (qI K) := by
  refine x_s (q := (.istore 4, 0, 0, 0)) (cod_281 rfl) rfl rfl rfl ?_
  refine x_s (q := (.iload 4, 0, 0, 0)) (cod_281 rfl) rfl rfl rfl ?_
  refine x_if (p := s0 < 0) (tgt := 88) (cod_281 rfl) (by decide) xj_lt (fun h => ?_) (fun h => ?_)
  · have H1 := H.1 h
    refine x_s (q := (.bipush (-2), 0, 0, 0)) (cod_281 rfl) rfl rfl rfl ?_
    refine x_go (tgt := 109) (cod_281 rfl) (by decide) ?_
    refine x_s (q := (.istore_n 1, 0, 0, 0)) (cod_281 rfl) rfl rfl rfl ?_
    refine x_s (q := (.iinc 2 1, 0, 0, 0)) (cod_281 rfl) rfl rfl rfl ?_
    refine x_go (tgt := 4) (cod_281 rfl) (by decide) ?_
    exact H1
  · have H2 := H.2 h
    refine x_s (q := (.iload_n 1, 0, 0, 0)) (cod_281 rfl) rfl rfl rfl ?_
    refine x_if (p := ¬ a1 < 0) (tgt := 93) (cod_281 rfl) (by decide) xn_ge (fun h => ?_) (fun h => ?_)
    · have H3 := H2.2 h
      refine x_s (q := (.iload_n 1, 0, 0, 0)) (cod_281 rfl) rfl rfl rfl ?_
      refine x_s (q := (.iload 4, 0, 0, 0)) (cod_281 rfl) rfl rfl rfl ?_
      refine x_s (q := (.iadd, 0, 0, 0)) (cod_281 rfl) rfl rfl rfl ?_
      refine x_s (q := (.aload_n 0, 0, 0, 0)) (cod_281 rfl) rfl rfl rfl ?_
      refine x_gc (kk := 36) (c := 614) (t := 1) (cod_281 rfl) sq_p_597 sq_l_597_36 rfl rfl ?_
      refine x_s (q := (.bipush 24, 0, 0, 0)) (cod_281 rfl) rfl rfl rfl ?_
      refine x_s (q := (.iload_n 2, 0, 0, 0)) (cod_281 rfl) rfl rfl rfl ?_
      refine x_s (q := (.imul, 0, 0, 0)) (cod_281 rfl) rfl rfl rfl ?_
      refine x_s (q := (.iload_n 3, 0, 0, 0)) (cod_281 rfl) rfl rfl rfl ?_
      refine x_s (q := (.iadd, 0, 0, 0)) (cod_281 rfl) rfl rfl rfl ?_
      obtain ⟨c5, H6⟩ := H3
      refine x_iald (cod_281 rfl) sq_a_614.s (sq_a_614.k c5.1 c5.2) ?_
      refine x_s (q := (.iadd, 0, 0, 0)) (cod_281 rfl) rfl rfl rfl ?_
      refine x_s (q := (.istore_n 1, 0, 0, 0)) (cod_281 rfl) rfl rfl rfl ?_
      refine x_s (q := (.iinc 2 1, 0, 0, 0)) (cod_281 rfl) rfl rfl rfl ?_
      refine x_go (tgt := 4) (cod_281 rfl) (by decide) ?_
      exact H6
    · have H4 := H2.1 (Classical.not_not.mp h)
      refine x_s (q := (.bipush (-2), 0, 0, 0)) (cod_281 rfl) rfl rfl rfl ?_
      refine x_go (tgt := 109) (cod_281 rfl) (by decide) ?_
      refine x_s (q := (.istore_n 1, 0, 0, 0)) (cod_281 rfl) rfl rfl rfl ?_
      refine x_s (q := (.iinc 2 1, 0, 0, 0)) (cod_281 rfl) rfl rfl rfl ?_
      refine x_go (tgt := 4) (cod_281 rfl) (by decide) ?_
      exact H4
set_option maxRecDepth 100000 in
theorem w282_0 {m : Mm} {K : Int → Mm → Prop} (a1 : Int) 
  (H : ∀ m1, m1 = umem m 597 50 (land (wl ((wl ((m 597 50) * 1103515245)) + 12345)) 2147483647) → ¬ a1 = 0 ∧ K (wr (lrem (ldiv (m1 597 50) 65536) a1)) m1) : X 282 0 [(1, 597), (0, a1)] [] m (qI K) := by
  refine x_s (q := (.aload_n 0, 0, 0, 0)) (cod_282 rfl) rfl rfl rfl ?_
  refine x_s (q := (.aload_n 0, 0, 0, 0)) (cod_282 rfl) rfl rfl rfl ?_
  refine x_gf (kk := 50) (t := 2) (cod_282 rfl) sq_p_597 sq_l_597_50 rfl rfl ?_
  refine x_s (q := (.ldc2_w 468, 1103515245, 0, 0)) (cod_282 rfl) rfl rfl rfl ?_
  show X 282 8 [(1, 597), (0, a1)] [(2, 1103515245), (2, m 597 50), (1, 597)] m _
  refine x_s (q := (.lmul, 0, 0, 0)) (cod_282 rfl) rfl rfl rfl ?_
  refine x_s (q := (.ldc2_w 470, 12345, 0, 0)) (cod_282 rfl) rfl rfl rfl ?_
  show X 282 12 [(1, 597), (0, a1)] [(2, 12345), (2, wl ((m 597 50) * 1103515245)), (1, 597)] m _
  refine x_s (q := (.ladd, 0, 0, 0)) (cod_282 rfl) rfl rfl rfl ?_
  refine x_s (q := (.ldc2_w 472, 2147483647, 0, 0)) (cod_282 rfl) rfl rfl rfl ?_
  show X 282 16 [(1, 597), (0, a1)] [(2, 2147483647), (2, wl ((wl ((m 597 50) * 1103515245)) + 12345)), (1, 597)] m _
  refine x_s (q := (.land, 0, 0, 0)) (cod_282 rfl) rfl rfl rfl ?_
  show X 282 17 [(1, 597), (0, a1)] [(2, land (wl ((wl ((m 597 50) * 1103515245)) + 12345)) 2147483647), (1, 597)] m _
  refine x_pf (kk := 50) (t := 2) (cod_282 rfl) sq_p_597 sq_l_597_50 rfl rfl rfl ?_
  have H2 := H _ rfl
  generalize umem m 597 50 (land (wl ((wl ((m 597 50) * 1103515245)) + 12345)) 2147483647) = m1 at H2 ⊢
  refine x_s (q := (.aload_n 0, 0, 0, 0)) (cod_282 rfl) rfl rfl rfl ?_
  refine x_gf (kk := 50) (t := 2) (cod_282 rfl) sq_p_597 sq_l_597_50 rfl rfl ?_
  refine x_s (q := (.ldc2_w 474, 65536, 0, 0)) (cod_282 rfl) rfl rfl rfl ?_
  show X 282 27 [(1, 597), (0, a1)] [(2, 65536), (2, m1 597 50)] m1 _
  refine x_ldiv (cod_282 rfl) (by decide) ?_
  refine x_s (q := (.iload_n 1, 0, 0, 0)) (cod_282 rfl) rfl rfl rfl ?_
  refine x_s (q := (.i2l, 0, 0, 0)) (cod_282 rfl) rfl rfl rfl ?_
  obtain ⟨c3, H4⟩ := H2
  refine x_lrem (cod_282 rfl) c3 ?_
  refine x_s (q := (.l2i, 0, 0, 0)) (cod_282 rfl) rfl rfl rfl ?_
  refine x_retI (t := .int) (cod_282 rfl) rfl rfl rfl ?_
  exact H4
theorem e282 {m : Mm} {K : Int → Mm → Prop} (a1 : Int) 
  (H : ∀ m1, m1 = umem m 597 50 (land (wl ((wl ((m 597 50) * 1103515245)) + 12345)) 2147483647) → ¬ a1 = 0 ∧ K (wr (lrem (ldiv (m1 597 50) 65536) a1)) m1) : TrI 282 [(1, 597), (0, a1)] m K := by
  exact w282_0 a1 H
set_option maxRecDepth 100000 in
theorem w283_0 {m : Mm} {K : Int → Mm → Prop} (a1 : Int) 
  (H : ∀ m1, m1 = umem m 597 0 0 → ((a1 < 0 ∨ 9 < a1) → K (-1) m1) ∧ (a1 = 0 → m1 597 16 = 0 ∧ K (m1 602 578) m1) ∧ (a1 = 1 → m1 597 16 = 0 ∧ K (m1 602 579) m1) ∧ (a1 = 2 → K (m1 597 23) m1) ∧ (a1 = 3 → m1 597 16 = 0 ∧ K (m1 602 580) m1) ∧ (a1 = 4 → m1 597 16 = 0 ∧ K (m1 602 581) m1) ∧ (a1 = 5 → TrI 275 [(1, 597)] m1 fun v20 m18 => K v20 m18) ∧ (a1 = 6 → K (m1 597 25) m1) ∧ (a1 = 7 → K (m1 597 2) m1) ∧ (a1 = 8 → TrI 284 [(1, 597), (0, (-3))] m1 fun v26 m24 => K v26 m24) ∧ (a1 = 9 → TrI 284 [(1, 597), (0, (-2))] m1 fun v30 m28 => K v30 m28)) : X 283 0 [(1, 597), (0, a1)] [] m (qI K) := by
  refine x_s (q := (.aload_n 0, 0, 0, 0)) (cod_283 rfl) rfl rfl rfl ?_
  refine x_s (q := (.iconst 0, 0, 0, 0)) (cod_283 rfl) rfl rfl rfl ?_
  refine x_pf (kk := 0) (t := 0) (cod_283 rfl) sq_p_597 sq_l_597_0 rfl rfl rfl ?_
  have H2 := H _ rfl
  generalize umem m 597 0 0 = m1 at H2 ⊢
  refine x_s (q := (.iload_n 1, 0, 0, 0)) (cod_283 rfl) rfl rfl rfl ?_
  refine x_tsw (cod_283 rfl) (by decide) (by decide) (by decide) (fun h => ?_) (fun i o ho h => ?_)
  · have H3 := H2.1 h
    refine x_s (q := (.iconst (-1), 0, 0, 0)) (cod_283 rfl) rfl rfl rfl ?_
    refine x_retI (t := .int) (cod_283 rfl) rfl rfl rfl ?_
    exact H3
  · match i, ho with
    | 0, ho =>
      cases ho
      have H4 := H2.2.1 (by omega)
      refine x_s (q := (.aload_n 0, 0, 0, 0)) (cod_283 rfl) rfl rfl rfl ?_
      refine x_call (as := [(1, 597)]) (rest := []) (cod_283 rfl) rfl rfl (by decide) (by decide) rfl rfl (Nat.le_of_ble_eq_true rfl) (rcv0 sq_l_597_0 sq_p_597 (by decide)) (Nat.le_of_ble_eq_true rfl) ?_
      show X 181 0 [(1, 597)] [] m1 _
      refine x_s (q := (.aload_n 0, 0, 0, 0)) (cod_181 rfl) rfl rfl rfl ?_
      refine x_s (q := (.sipush 578, 0, 0, 0)) (cod_181 rfl) rfl rfl rfl ?_
      obtain ⟨c5, H6⟩ := H4
      refine x_call (as := [(1, 597), (0, 578)]) (rest := []) (cod_181 rfl) rfl rfl (by decide) (by decide) rfl rfl (Nat.le_of_ble_eq_true rfl) (rcv0 sq_l_597_0 sq_p_597 (by decide)) (Nat.le_of_ble_eq_true rfl) ?_
      refine x_pure (p182a (by decide) c5) ?_
      show X 181 7 [(1, 597)] [(0, m1 602 578)] m1 _
      refine x_rI (t := .int) (cod_181 rfl) rfl rfl rfl ?_
      show X 283 64 [(1, 597), (0, a1)] [(0, m1 602 578)] m1 _
      refine x_retI (t := .int) (cod_283 rfl) rfl rfl rfl ?_
      exact H6
    | 1, ho =>
      cases ho
      have H7 := H2.2.2.1 (by omega)
      refine x_s (q := (.aload_n 0, 0, 0, 0)) (cod_283 rfl) rfl rfl rfl ?_
      refine x_call (as := [(1, 597)]) (rest := []) (cod_283 rfl) rfl rfl (by decide) (by decide) rfl rfl (Nat.le_of_ble_eq_true rfl) (rcv0 sq_l_597_0 sq_p_597 (by decide)) (Nat.le_of_ble_eq_true rfl) ?_
      show X 186 0 [(1, 597)] [] m1 _
      refine x_s (q := (.aload_n 0, 0, 0, 0)) (cod_186 rfl) rfl rfl rfl ?_
      refine x_s (q := (.sipush 579, 0, 0, 0)) (cod_186 rfl) rfl rfl rfl ?_
      obtain ⟨c8, H9⟩ := H7
      refine x_call (as := [(1, 597), (0, 579)]) (rest := []) (cod_186 rfl) rfl rfl (by decide) (by decide) rfl rfl (Nat.le_of_ble_eq_true rfl) (rcv0 sq_l_597_0 sq_p_597 (by decide)) (Nat.le_of_ble_eq_true rfl) ?_
      refine x_pure (p182a (by decide) c8) ?_
      show X 186 7 [(1, 597)] [(0, m1 602 579)] m1 _
      refine x_rI (t := .int) (cod_186 rfl) rfl rfl rfl ?_
      show X 283 69 [(1, 597), (0, a1)] [(0, m1 602 579)] m1 _
      refine x_retI (t := .int) (cod_283 rfl) rfl rfl rfl ?_
      exact H9
    | 2, ho =>
      cases ho
      have H10 := H2.2.2.2.1 (by omega)
      refine x_s (q := (.aload_n 0, 0, 0, 0)) (cod_283 rfl) rfl rfl rfl ?_
      refine x_gf (kk := 23) (t := 0) (cod_283 rfl) sq_p_597 sq_l_597_23 rfl rfl ?_
      refine x_retI (t := .int) (cod_283 rfl) rfl rfl rfl ?_
      exact H10
    | 3, ho =>
      cases ho
      have H11 := H2.2.2.2.2.1 (by omega)
      refine x_s (q := (.aload_n 0, 0, 0, 0)) (cod_283 rfl) rfl rfl rfl ?_
      refine x_s (q := (.sipush 580, 0, 0, 0)) (cod_283 rfl) rfl rfl rfl ?_
      obtain ⟨c12, H13⟩ := H11
      refine x_call (as := [(1, 597), (0, 580)]) (rest := []) (cod_283 rfl) rfl rfl (by decide) (by decide) rfl rfl (Nat.le_of_ble_eq_true rfl) (rcv0 sq_l_597_0 sq_p_597 (by decide)) (Nat.le_of_ble_eq_true rfl) ?_
      refine x_pure (p182a (by decide) c12) ?_
      show X 283 82 [(1, 597), (0, a1)] [(0, m1 602 580)] m1 _
      refine x_retI (t := .int) (cod_283 rfl) rfl rfl rfl ?_
      exact H13
    | 4, ho =>
      cases ho
      have H14 := H2.2.2.2.2.2.1 (by omega)
      refine x_s (q := (.aload_n 0, 0, 0, 0)) (cod_283 rfl) rfl rfl rfl ?_
      refine x_s (q := (.sipush 581, 0, 0, 0)) (cod_283 rfl) rfl rfl rfl ?_
      obtain ⟨c15, H16⟩ := H14
      refine x_call (as := [(1, 597), (0, 581)]) (rest := []) (cod_283 rfl) rfl rfl (by decide) (by decide) rfl rfl (Nat.le_of_ble_eq_true rfl) (rcv0 sq_l_597_0 sq_p_597 (by decide)) (Nat.le_of_ble_eq_true rfl) ?_
      refine x_pure (p182a (by decide) c15) ?_
      show X 283 90 [(1, 597), (0, a1)] [(0, m1 602 581)] m1 _
      refine x_retI (t := .int) (cod_283 rfl) rfl rfl rfl ?_
      exact H16
    | 5, ho =>
      cases ho
      have H17 := H2.2.2.2.2.2.2.1 (by omega)
      refine x_s (q := (.aload_n 0, 0, 0, 0)) (cod_283 rfl) rfl rfl rfl ?_
      refine x_call (as := [(1, 597)]) (rest := []) (cod_283 rfl) rfl rfl (by decide) (by decide) rfl rfl (Nat.le_of_ble_eq_true rfl) (rcv0 sq_l_597_0 sq_p_597 (by decide)) (Nat.le_of_ble_eq_true rfl) ?_
      refine X.imp H17 ?_
      rintro _ m18 ⟨v20, rfl, H19⟩
      show X 283 95 [(1, 597), (0, a1)] [(0, v20)] m18 _
      refine x_retI (t := .int) (cod_283 rfl) rfl rfl rfl ?_
      exact H19
    | 6, ho =>
      cases ho
      have H21 := H2.2.2.2.2.2.2.2.1 (by omega)
      refine x_s (q := (.aload_n 0, 0, 0, 0)) (cod_283 rfl) rfl rfl rfl ?_
      refine x_gf (kk := 25) (t := 0) (cod_283 rfl) sq_p_597 sq_l_597_25 rfl rfl ?_
      refine x_retI (t := .int) (cod_283 rfl) rfl rfl rfl ?_
      exact H21
    | 7, ho =>
      cases ho
      have H22 := H2.2.2.2.2.2.2.2.2.1 (by omega)
      refine x_s (q := (.aload_n 0, 0, 0, 0)) (cod_283 rfl) rfl rfl rfl ?_
      refine x_gf (kk := 2) (t := 0) (cod_283 rfl) sq_p_597 sq_l_597_2 rfl rfl ?_
      refine x_retI (t := .int) (cod_283 rfl) rfl rfl rfl ?_
      exact H22
    | 8, ho =>
      cases ho
      have H23 := H2.2.2.2.2.2.2.2.2.2.1 (by omega)
      refine x_s (q := (.aload_n 0, 0, 0, 0)) (cod_283 rfl) rfl rfl rfl ?_
      refine x_s (q := (.bipush (-3), 0, 0, 0)) (cod_283 rfl) rfl rfl rfl ?_
      refine x_call (as := [(1, 597), (0, (-3))]) (rest := []) (cod_283 rfl) rfl rfl (by decide) (by decide) rfl rfl (Nat.le_of_ble_eq_true rfl) (rcv0 sq_l_597_0 sq_p_597 (by decide)) (Nat.le_of_ble_eq_true rfl) ?_
      refine X.imp H23 ?_
      rintro _ m24 ⟨v26, rfl, H25⟩
      show X 283 112 [(1, 597), (0, a1)] [(0, v26)] m24 _
      refine x_retI (t := .int) (cod_283 rfl) rfl rfl rfl ?_
      exact H25
    | 9, ho =>
      cases ho
      have H27 := H2.2.2.2.2.2.2.2.2.2.2 (by omega)
      refine x_s (q := (.aload_n 0, 0, 0, 0)) (cod_283 rfl) rfl rfl rfl ?_
      refine x_s (q := (.bipush (-2), 0, 0, 0)) (cod_283 rfl) rfl rfl rfl ?_
      refine x_call (as := [(1, 597), (0, (-2))]) (rest := []) (cod_283 rfl) rfl rfl (by decide) (by decide) rfl rfl (Nat.le_of_ble_eq_true rfl) (rcv0 sq_l_597_0 sq_p_597 (by decide)) (Nat.le_of_ble_eq_true rfl) ?_
      refine X.imp H27 ?_
      rintro _ m28 ⟨v30, rfl, H29⟩
      show X 283 119 [(1, 597), (0, a1)] [(0, v30)] m28 _
      refine x_retI (t := .int) (cod_283 rfl) rfl rfl rfl ?_
      exact H29
    | k + 10, ho => exact absurd ho (by simp)
theorem e283 {m : Mm} {K : Int → Mm → Prop} (a1 : Int) 
  (H : ∀ m1, m1 = umem m 597 0 0 → ((a1 < 0 ∨ 9 < a1) → K (-1) m1) ∧ (a1 = 0 → m1 597 16 = 0 ∧ K (m1 602 578) m1) ∧ (a1 = 1 → m1 597 16 = 0 ∧ K (m1 602 579) m1) ∧ (a1 = 2 → K (m1 597 23) m1) ∧ (a1 = 3 → m1 597 16 = 0 ∧ K (m1 602 580) m1) ∧ (a1 = 4 → m1 597 16 = 0 ∧ K (m1 602 581) m1) ∧ (a1 = 5 → TrI 275 [(1, 597)] m1 fun v20 m18 => K v20 m18) ∧ (a1 = 6 → K (m1 597 25) m1) ∧ (a1 = 7 → K (m1 597 2) m1) ∧ (a1 = 8 → TrI 284 [(1, 597), (0, (-3))] m1 fun v26 m24 => K v26 m24) ∧ (a1 = 9 → TrI 284 [(1, 597), (0, (-2))] m1 fun v30 m28 => K v30 m28)) : TrI 283 [(1, 597), (0, a1)] m K := by
  exact w283_0 a1 H
set_option maxRecDepth 100000 in
theorem w284_0 {m : Mm} {K : Int → Mm → Prop} (a1 : Int) 
  (H : X 284 4 [(1, 597), (0, a1), (0, 0), (0, 0)] [] m (qI K)) : X 284 0 [(1, 597), (0, a1), (9, 0), (9, 0)] [] m (qI K) := by
  refine x_s (q := (.iconst 0, 0, 0, 0)) (cod_284 rfl) rfl rfl rfl ?_
  refine x_s (q := (.istore_n 2, 0, 0, 0)) (cod_284 rfl) rfl rfl rfl ?_
  refine x_s (q := (.iconst 0, 0, 0, 0)) (cod_284 rfl) rfl rfl rfl ?_
  refine x_s (q := (.istore_n 3, 0, 0, 0)) (cod_284 rfl) rfl rfl rfl ?_
  exact H
theorem e284 {m : Mm} {K : Int → Mm → Prop} (a1 : Int) 
  (H : X 284 4 [(1, 597), (0, a1), (0, 0), (0, 0)] [] m (qI K)) : TrI 284 [(1, 597), (0, a1)] m K := by
  exact w284_0 a1 H
set_option maxRecDepth 100000 in
theorem w284_4 {m : Mm} {K : Int → Mm → Prop} (a1 : Int) (a2 : Int) (a3 : Int) 
  (H : (a3 < (m 597 23) → TrV 236 [(1, 597), (0, a3)] m fun m3 => (0 ≤ (wr (24 * a3)) ∧ (wr (24 * a3)) < 240) ∧ ((m3 613 (wr (24 * a3))) = a1 → X 284 4 [(1, 597), (0, a1), (0, wr (a2 + 1)), (0, wr (a3 + 1))] [] m3 (qI K)) ∧ (¬ (m3 613 (wr (24 * a3))) = a1 → X 284 4 [(1, 597), (0, a1), (0, wr (a2 + 0)), (0, wr (a3 + 1))] [] m3 (qI K))) ∧ (¬ a3 < (m 597 23) → K a2 m)) : X 284 4 [(1, 597), (0, a1), (0, a2), (0, a3)] [] m (qI K) := by
  refine x_s (q := (.iload_n 3, 0, 0, 0)) (cod_284 rfl) rfl rfl rfl ?_
  refine x_s (q := (.aload_n 0, 0, 0, 0)) (cod_284 rfl) rfl rfl rfl ?_
  refine x_gf (kk := 23) (t := 0) (cod_284 rfl) sq_p_597 sq_l_597_23 rfl rfl ?_
  refine x_ic (p := ¬ a3 < (m 597 23)) (tgt := 44) (cod_284 rfl) (by decide) xn_ge (fun h => ?_) (fun h => ?_)
  · have H1 := H.2 h
    refine x_s (q := (.iload_n 2, 0, 0, 0)) (cod_284 rfl) rfl rfl rfl ?_
    refine x_retI (t := .int) (cod_284 rfl) rfl rfl rfl ?_
    exact H1
  · have H2 := H.1 (Classical.not_not.mp h)
    refine x_s (q := (.aload_n 0, 0, 0, 0)) (cod_284 rfl) rfl rfl rfl ?_
    refine x_s (q := (.iload_n 3, 0, 0, 0)) (cod_284 rfl) rfl rfl rfl ?_
    refine x_call (as := [(1, 597), (0, a3)]) (rest := []) (cod_284 rfl) rfl rfl (by decide) (by decide) rfl rfl (Nat.le_of_ble_eq_true rfl) (rcv0 sq_l_597_0 sq_p_597 (by decide)) (Nat.le_of_ble_eq_true rfl) ?_
    refine X.imp H2 ?_
    rintro _ m3 ⟨rfl, H4⟩
    show X 284 17 [(1, 597), (0, a1), (0, a2), (0, a3)] [] m3 _
    refine x_s (q := (.iload_n 2, 0, 0, 0)) (cod_284 rfl) rfl rfl rfl ?_
    refine x_s (q := (.aload_n 0, 0, 0, 0)) (cod_284 rfl) rfl rfl rfl ?_
    refine x_gc (kk := 35) (c := 613) (t := 1) (cod_284 rfl) sq_p_597 sq_l_597_35 rfl rfl ?_
    refine x_s (q := (.bipush 24, 0, 0, 0)) (cod_284 rfl) rfl rfl rfl ?_
    refine x_s (q := (.iload_n 3, 0, 0, 0)) (cod_284 rfl) rfl rfl rfl ?_
    refine x_s (q := (.imul, 0, 0, 0)) (cod_284 rfl) rfl rfl rfl ?_
    obtain ⟨c5, H6⟩ := H4
    refine x_iald (cod_284 rfl) sq_a_613.s (sq_a_613.k c5.1 c5.2) ?_
    refine x_s (q := (.iload_n 1, 0, 0, 0)) (cod_284 rfl) rfl rfl rfl ?_
    refine x_ic (p := ¬ (m3 613 (wr (24 * a3))) = a1) (tgt := 35) (cod_284 rfl) (by decide) xj_ne (fun h => ?_) (fun h => ?_)
    · have H7 := H6.2 h
      refine x_s (q := (.iconst 0, 0, 0, 0)) (cod_284 rfl) rfl rfl rfl ?_
      refine x_s (q := (.iadd, 0, 0, 0)) (cod_284 rfl) rfl rfl rfl ?_
      refine x_s (q := (.istore_n 2, 0, 0, 0)) (cod_284 rfl) rfl rfl rfl ?_
      refine x_s (q := (.iinc 3 1, 0, 0, 0)) (cod_284 rfl) rfl rfl rfl ?_
      refine x_go (tgt := 4) (cod_284 rfl) (by decide) ?_
      exact H7
    · have H8 := H6.1 (Classical.not_not.mp h)
      refine x_s (q := (.iconst 1, 0, 0, 0)) (cod_284 rfl) rfl rfl rfl ?_
      refine x_go (tgt := 36) (cod_284 rfl) (by decide) ?_
      refine x_s (q := (.iadd, 0, 0, 0)) (cod_284 rfl) rfl rfl rfl ?_
      refine x_s (q := (.istore_n 2, 0, 0, 0)) (cod_284 rfl) rfl rfl rfl ?_
      refine x_s (q := (.iinc 3 1, 0, 0, 0)) (cod_284 rfl) rfl rfl rfl ?_
      refine x_go (tgt := 4) (cod_284 rfl) (by decide) ?_
      exact H8
