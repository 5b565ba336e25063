/-! rules of the methods: printed by wip/whole/gen26.py -/
set_option maxRecDepth 100000 in
theorem w255_0 {m : Mm} {K : Int → Mm → Prop}  
  (H : ∀ m1, m1 = umem m 597 0 0 → TrV 241 [(1, 597)] m1 fun m3 => TrI 242 [(1, 597)] m3 fun v7 m5 => ((m5 597 23) = 0 → K 1 m5) ∧ (¬ (m5 597 23) = 0 → X 255 27 [(1, 597), (2, 0), (9, 0), (0, 0)] [] m5 (qL K))) : X 255 0 [(1, 597), (9, 0), (9, 0), (9, 0)] [] m (qL K) := by
  refine x_s (q := (.aload_n 0, 0, 0, 0)) (cod_255 rfl) rfl rfl rfl ?_
  refine x_s (q := (.iconst 0, 0, 0, 0)) (cod_255 rfl) rfl rfl rfl ?_
  refine x_pf (kk := 0) (t := 0) (cod_255 rfl) sq_p_597 sq_l_597_0 rfl rfl rfl ?_
  have H2 := H _ rfl
  generalize umem m 597 0 0 = m1 at H2 ⊢
  refine x_s (q := (.aload_n 0, 0, 0, 0)) (cod_255 rfl) rfl rfl rfl ?_
  refine x_call (as := [(1, 597)]) (rest := []) (cod_255 rfl) rfl rfl (by decide) (by decide) rfl rfl (Nat.le_of_ble_eq_true rfl) (rcv0 sq_l_597_0 sq_p_597 (by decide)) (Nat.le_of_ble_eq_true rfl) ?_
  refine X.imp H2 ?_
  rintro _ m3 ⟨rfl, H4⟩
  show X 255 9 [(1, 597), (9, 0), (9, 0), (9, 0)] [] m3 _
  refine x_s (q := (.aload_n 0, 0, 0, 0)) (cod_255 rfl) rfl rfl rfl ?_
  refine x_call (as := [(1, 597)]) (rest := []) (cod_255 rfl) rfl rfl (by decide) (by decide) rfl rfl (Nat.le_of_ble_eq_true rfl) (rcv0 sq_l_597_0 sq_p_597 (by decide)) (Nat.le_of_ble_eq_true rfl) ?_
  refine X.imp H4 ?_
  rintro _ m5 ⟨v7, rfl, H6⟩
  show X 255 13 [(1, 597), (9, 0), (9, 0), (9, 0)] [(0, v7)] m5 _
  refine x_s (q := (.pop, 0, 0, 0)) (cod_255 rfl) rfl rfl rfl ?_
  refine x_s (q := (.aload_n 0, 0, 0, 0)) (cod_255 rfl) rfl rfl rfl ?_
  refine x_gf (kk := 23) (t := 0) (cod_255 rfl) sq_p_597 sq_l_597_23 rfl rfl ?_
  refine x_if (p := ¬ (m5 597 23) = 0) (tgt := 23) (cod_255 rfl) (by decide) xj_ne (fun h => ?_) (fun h => ?_)
  · have H8 := H6.2 h
    refine x_s (q := (.lconst 0, 0, 0, 0)) (cod_255 rfl) rfl rfl rfl ?_
    show X 255 24 [(1, 597), (9, 0), (9, 0), (9, 0)] [(2, 0)] m5 _
    refine x_s (q := (.lstore_n 1, 0, 0, 0)) (cod_255 rfl) rfl rfl rfl ?_
    refine x_s (q := (.iconst 0, 0, 0, 0)) (cod_255 rfl) rfl rfl rfl ?_
    refine x_s (q := (.istore_n 3, 0, 0, 0)) (cod_255 rfl) rfl rfl rfl ?_
    exact H8
  · have H9 := H6.1 (Classical.not_not.mp h)
    refine x_s (q := (.lconst 1, 0, 0, 0)) (cod_255 rfl) rfl rfl rfl ?_
    show X 255 22 [(1, 597), (9, 0), (9, 0), (9, 0)] [(2, 1)] m5 _
    refine x_retL (cod_255 rfl) rfl ?_
    exact H9
theorem e255 {m : Mm} {K : Int → Mm → Prop}  
  (H : ∀ m1, m1 = umem m 597 0 0 → TrV 241 [(1, 597)] m1 fun m3 => TrI 242 [(1, 597)] m3 fun v7 m5 => ((m5 597 23) = 0 → K 1 m5) ∧ (¬ (m5 597 23) = 0 → X 255 27 [(1, 597), (2, 0), (9, 0), (0, 0)] [] m5 (qL K))) : TrL 255 [(1, 597)] m K := by
  exact w255_0  H
set_option maxRecDepth 100000 in
theorem w255_27 {m : Mm} {K : Int → Mm → Prop} (a1 : Int) (a3 : Int) 
  (H : (a3 < (m 615 0) → (0 ≤ a3 ∧ a3 < 240) ∧ X 255 27 [(1, 597), (2, wl (a1 + (m 617 a3))), (9, 0), (0, wr (a3 + 1))] [] m (qL K)) ∧ (¬ a3 < (m 615 0) → K a1 m)) : X 255 27 [(1, 597), (2, a1), (9, 0), (0, a3)] [] m (qL K) := by
  refine x_s (q := (.iload_n 3, 0, 0, 0)) (cod_255 rfl) rfl rfl rfl ?_
  refine x_s (q := (.aload_n 0, 0, 0, 0)) (cod_255 rfl) rfl rfl rfl ?_
  refine x_gc (kk := 37) (c := 615) (t := 1) (cod_255 rfl) sq_p_597 sq_l_597_37 rfl rfl ?_
  refine x_s (q := (.iconst 0, 0, 0, 0)) (cod_255 rfl) rfl rfl rfl ?_
  refine x_iald (cod_255 rfl) sq_a_615.s (sq_a_615.k (by decide) (by decide)) ?_
  refine x_ic (p := ¬ a3 < (m 615 0)) (tgt := 52) (cod_255 rfl) (by decide) xn_ge (fun h => ?_) (fun h => ?_)
  · have H1 := H.2 h
    refine x_s (q := (.lload_n 1, 0, 0, 0)) (cod_255 rfl) rfl rfl rfl ?_
    refine x_retL (cod_255 rfl) rfl ?_
    exact H1
  · have H2 := H.1 (Classical.not_not.mp h)
    refine x_s (q := (.lload_n 1, 0, 0, 0)) (cod_255 rfl) rfl rfl rfl ?_
    refine x_s (q := (.aload_n 0, 0, 0, 0)) (cod_255 rfl) rfl rfl rfl ?_
    refine x_gc (kk := 42) (c := 617) (t := 1) (cod_255 rfl) sq_p_597 sq_l_597_42 rfl rfl ?_
    refine x_s (q := (.iload_n 3, 0, 0, 0)) (cod_255 rfl) rfl rfl rfl ?_
    obtain ⟨c3, H4⟩ := H2
    refine x_laldm (cod_255 rfl) sq_a_617.s (sq_a_617.k c3.1 c3.2) ?_
    refine x_s (q := (.ladd, 0, 0, 0)) (cod_255 rfl) rfl rfl rfl ?_
    refine x_s (q := (.lstore_n 1, 0, 0, 0)) (cod_255 rfl) rfl rfl rfl ?_
    refine x_s (q := (.iinc 3 1, 0, 0, 0)) (cod_255 rfl) rfl rfl rfl ?_
    refine x_go (tgt := 27) (cod_255 rfl) (by decide) ?_
    exact H4
set_option maxRecDepth 100000 in
theorem w256_0 {m : Mm} {K : Int → Mm → Prop} (a1 : Int) (a2 : Int) 
  (H : ∀ m1, m1 = umem m 597 0 0 → ((0 ≤ a1 ∧ a1 ≤ (wr ((m1 597 23) - 1))) → TrV 241 [(1, 597)] m1 fun m5 => (0 ≤ a1 ∧ a1 < 10) ∧ ((0 ≤ a2 ∧ a2 ≤ (wr ((m5 615 a1) - 1))) → TrI 257 [(1, 597), (0, a1), (0, a2), (0, 1)] m5 fun v13 m11 => K v13 m11) ∧ (¬ (0 ≤ a2 ∧ a2 ≤ (wr ((m5 615 a1) - 1))) → K (-1) m5)) ∧ (¬ (0 ≤ a1 ∧ a1 ≤ (wr ((m1 597 23) - 1))) → K (-1) m1)) : X 256 0 [(1, 597), (0, a1), (0, a2)] [] m (qI K) := by
  refine x_s (q := (.aload_n 0, 0, 0, 0)) (cod_256 rfl) rfl rfl rfl ?_
  refine x_s (q := (.iconst 0, 0, 0, 0)) (cod_256 rfl) rfl rfl rfl ?_
  refine x_pf (kk := 0) (t := 0) (cod_256 rfl) sq_p_597 sq_l_597_0 rfl rfl rfl ?_
  have H2 := H _ rfl
  generalize umem m 597 0 0 = m1 at H2 ⊢
  refine x_s (q := (.aload_n 0, 0, 0, 0)) (cod_256 rfl) rfl rfl rfl ?_
  refine x_s (q := (.iload_n 1, 0, 0, 0)) (cod_256 rfl) rfl rfl rfl ?_
  refine x_call (as := [(1, 597), (0, a1)]) (rest := []) (cod_256 rfl) rfl rfl (by decide) (by decide) rfl rfl (Nat.le_of_ble_eq_true rfl) (rcv0 sq_l_597_0 sq_p_597 (by decide)) (Nat.le_of_ble_eq_true rfl) ?_
  show X 210 0 [(1, 597), (0, a1)] [] m1 _
  refine x_s (q := (.iload_n 1, 0, 0, 0)) (cod_210 rfl) rfl rfl rfl ?_
  refine x_s (q := (.iconst 0, 0, 0, 0)) (cod_210 rfl) rfl rfl rfl ?_
  refine x_s (q := (.aload_n 0, 0, 0, 0)) (cod_210 rfl) rfl rfl rfl ?_
  refine x_gf (kk := 23) (t := 0) (cod_210 rfl) sq_p_597 sq_l_597_23 rfl rfl ?_
  refine x_s (q := (.iconst 1, 0, 0, 0)) (cod_210 rfl) rfl rfl rfl ?_
  refine x_s (q := (.isub, 0, 0, 0)) (cod_210 rfl) rfl rfl rfl ?_
  refine x_call (as := [(0, a1), (0, 0), (0, wr ((m1 597 23) - 1))]) (rest := []) (cod_210 rfl) rfl rfl (by decide) (by decide) rfl rfl (Nat.le_of_ble_eq_true rfl) rfl (Nat.le_of_ble_eq_true rfl) ?_
  refine x_pure (p172) ?_
  show X 210 11 [(1, 597), (0, a1)] [(0, bi (0 ≤ a1 ∧ a1 ≤ (wr ((m1 597 23) - 1))))] m1 _
  refine x_rI (t := .boolean) (cod_210 rfl) rfl rfl (bok_b (bi_01 _)) ?_
  show X 256 10 [(1, 597), (0, a1), (0, a2)] [(0, bi (0 ≤ a1 ∧ a1 ≤ (wr ((m1 597 23) - 1))))] m1 _
  refine x_if (p := 0 ≤ a1 ∧ a1 ≤ (wr ((m1 597 23) - 1))) (tgt := 15) (cod_256 rfl) (by decide) xb_ne (fun h => ?_) (fun h => ?_)
  · have H3 := H2.1 h
    refine x_s (q := (.aload_n 0, 0, 0, 0)) (cod_256 rfl) rfl rfl rfl ?_
    refine x_call (as := [(1, 597)]) (rest := []) (cod_256 rfl) rfl rfl (by decide) (by decide) rfl rfl (Nat.le_of_ble_eq_true rfl) (rcv0 sq_l_597_0 sq_p_597 (by decide)) (Nat.le_of_ble_eq_true rfl) ?_
    refine X.imp H3 ?_
    rintro _ m5 ⟨rfl, H6⟩
    show X 256 19 [(1, 597), (0, a1), (0, a2)] [] m5 _
    refine x_s (q := (.iload_n 2, 0, 0, 0)) (cod_256 rfl) rfl rfl rfl ?_
    refine x_s (q := (.iconst 0, 0, 0, 0)) (cod_256 rfl) rfl rfl rfl ?_
    refine x_s (q := (.aload_n 0, 0, 0, 0)) (cod_256 rfl) rfl rfl rfl ?_
    refine x_gc (kk := 37) (c := 615) (t := 1) (cod_256 rfl) sq_p_597 sq_l_597_37 rfl rfl ?_
    refine x_s (q := (.iload_n 1, 0, 0, 0)) (cod_256 rfl) rfl rfl rfl ?_
    obtain ⟨c7, H8⟩ := H6
    refine x_iald (cod_256 rfl) sq_a_615.s (sq_a_615.k c7.1 c7.2) ?_
    refine x_s (q := (.iconst 1, 0, 0, 0)) (cod_256 rfl) rfl rfl rfl ?_
    refine x_s (q := (.isub, 0, 0, 0)) (cod_256 rfl) rfl rfl rfl ?_
    refine x_call (as := [(0, a2), (0, 0), (0, wr ((m5 615 a1) - 1))]) (rest := []) (cod_256 rfl) rfl rfl (by decide) (by decide) rfl rfl (Nat.le_of_ble_eq_true rfl) rfl (Nat.le_of_ble_eq_true rfl) ?_
    refine x_pure (p172) ?_
    show X 256 32 [(1, 597), (0, a1), (0, a2)] [(0, bi (0 ≤ a2 ∧ a2 ≤ (wr ((m5 615 a1) - 1))))] m5 _
    refine x_if (p := ¬ (0 ≤ a2 ∧ a2 ≤ (wr ((m5 615 a1) - 1)))) (tgt := 45) (cod_256 rfl) (by decide) xb_eq (fun h => ?_) (fun h => ?_)
    · have H9 := H8.2 h
      refine x_s (q := (.iconst (-1), 0, 0, 0)) (cod_256 rfl) rfl rfl rfl ?_
      refine x_retI (t := .int) (cod_256 rfl) rfl rfl rfl ?_
      exact H9
    · have H10 := H8.1 (Classical.not_not.mp h)
      refine x_s (q := (.aload_n 0, 0, 0, 0)) (cod_256 rfl) rfl rfl rfl ?_
      refine x_s (q := (.iload_n 1, 0, 0, 0)) (cod_256 rfl) rfl rfl rfl ?_
      refine x_s (q := (.iload_n 2, 0, 0, 0)) (cod_256 rfl) rfl rfl rfl ?_
      refine x_s (q := (.iconst 1, 0, 0, 0)) (cod_256 rfl) rfl rfl rfl ?_
      refine x_call (as := [(1, 597), (0, a1), (0, a2), (0, 1)]) (rest := []) (cod_256 rfl) rfl rfl (by decide) (by decide) rfl rfl (Nat.le_of_ble_eq_true rfl) (rcv0 sq_l_597_0 sq_p_597 (by decide)) (Nat.le_of_ble_eq_true rfl) ?_
      refine X.imp H10 ?_
      rintro _ m11 ⟨v13, rfl, H12⟩
      show X 256 42 [(1, 597), (0, a1), (0, a2)] [(0, v13)] m11 _
      refine x_go (tgt := 46) (cod_256 rfl) (by decide) ?_
      refine x_retI (t := .int) (cod_256 rfl) rfl rfl rfl ?_
      exact H12
  · have H4 := H2.2 h
    refine x_s (q := (.iconst (-1), 0, 0, 0)) (cod_256 rfl) rfl rfl rfl ?_
    refine x_retI (t := .int) (cod_256 rfl) rfl rfl rfl ?_
    exact H4
theorem e256 {m : Mm} {K : Int → Mm → Prop} (a1 : Int) (a2 : Int) 
  (H : ∀ m1, m1 = umem m 597 0 0 → ((0 ≤ a1 ∧ a1 ≤ (wr ((m1 597 23) - 1))) → TrV 241 [(1, 597)] m1 fun m5 => (0 ≤ a1 ∧ a1 < 10) ∧ ((0 ≤ a2 ∧ a2 ≤ (wr ((m5 615 a1) - 1))) → TrI 257 [(1, 597), (0, a1), (0, a2), (0, 1)] m5 fun v13 m11 => K v13 m11) ∧ (¬ (0 ≤ a2 ∧ a2 ≤ (wr ((m5 615 a1) - 1))) → K (-1) m5)) ∧ (¬ (0 ≤ a1 ∧ a1 ≤ (wr ((m1 597 23) - 1))) → K (-1) m1)) : TrI 256 [(1, 597), (0, a1), (0, a2)] m K := by
  exact w256_0 a1 a2 H
set_option maxRecDepth 100000 in
theorem w257_0 {m : Mm} {K : Int → Mm → Prop} (a1 : Int) (a2 : Int) (a3 : Int) 
  (H : ∀ m1, m1 = umem m 597 38 a1 → ∀ m3, m3 = umem m1 597 39 a2 → ∀ m5, m5 = umem m3 597 40 a3 → TrI 242 [(1, 597)] m5 fun v9 m7 => ∀ m10, m10 = umem m7 597 40 0 → K v9 m10) : X 257 0 [(1, 597), (0, a1), (0, a2), (0, a3), (9, 0)] [] m (qI K) := by
  refine x_s (q := (.aload_n 0, 0, 0, 0)) (cod_257 rfl) rfl rfl rfl ?_
  refine x_s (q := (.iload_n 1, 0, 0, 0)) (cod_257 rfl) rfl rfl rfl ?_
  refine x_pf (kk := 38) (t := 0) (cod_257 rfl) sq_p_597 sq_l_597_38 rfl rfl rfl ?_
  have H2 := H _ rfl
  generalize umem m 597 38 a1 = m1 at H2 ⊢
  refine x_s (q := (.aload_n 0, 0, 0, 0)) (cod_257 rfl) rfl rfl rfl ?_
  refine x_s (q := (.iload_n 2, 0, 0, 0)) (cod_257 rfl) rfl rfl rfl ?_
  refine x_pf (kk := 39) (t := 0) (cod_257 rfl) sq_p_597 sq_l_597_39 rfl rfl rfl ?_
  have H4 := H2 _ rfl
  generalize umem m1 597 39 a2 = m3 at H4 ⊢
  refine x_s (q := (.aload_n 0, 0, 0, 0)) (cod_257 rfl) rfl rfl rfl ?_
  refine x_s (q := (.iload_n 3, 0, 0, 0)) (cod_257 rfl) rfl rfl rfl ?_
  refine x_pf (kk := 40) (t := 0) (cod_257 rfl) sq_p_597 sq_l_597_40 rfl rfl rfl ?_
  have H6 := H4 _ rfl
  generalize umem m3 597 40 a3 = m5 at H6 ⊢
  refine x_s (q := (.aload_n 0, 0, 0, 0)) (cod_257 rfl) rfl rfl rfl ?_
  refine x_call (as := [(1, 597)]) (rest := []) (cod_257 rfl) rfl rfl (by decide) (by decide) rfl rfl (Nat.le_of_ble_eq_true rfl) (rcv0 sq_l_597_0 sq_p_597 (by decide)) (Nat.le_of_ble_eq_true rfl) ?_
  refine X.imp H6 ?_
  rintro _ m7 ⟨v9, rfl, H8⟩
  show X 257 19 [(1, 597), (0, a1), (0, a2), (0, a3), (9, 0)] [(0, v9)] m7 _
  refine x_s (q := (.istore 4, 0, 0, 0)) (cod_257 rfl) rfl rfl rfl ?_
  refine x_s (q := (.aload_n 0, 0, 0, 0)) (cod_257 rfl) rfl rfl rfl ?_
  refine x_s (q := (.iconst 0, 0, 0, 0)) (cod_257 rfl) rfl rfl rfl ?_
  refine x_pf (kk := 40) (t := 0) (cod_257 rfl) sq_p_597 sq_l_597_40 rfl rfl rfl ?_
  have H11 := H8 _ rfl
  generalize umem m7 597 40 0 = m10 at H11 ⊢
  refine x_s (q := (.iload 4, 0, 0, 0)) (cod_257 rfl) rfl rfl rfl ?_
  refine x_retI (t := .int) (cod_257 rfl) rfl rfl rfl ?_
  exact H11
theorem e257 {m : Mm} {K : Int → Mm → Prop} (a1 : Int) (a2 : Int) (a3 : Int) 
  (H : ∀ m1, m1 = umem m 597 38 a1 → ∀ m3, m3 = umem m1 597 39 a2 → ∀ m5, m5 = umem m3 597 40 a3 → TrI 242 [(1, 597)] m5 fun v9 m7 => ∀ m10, m10 = umem m7 597 40 0 → K v9 m10) : TrI 257 [(1, 597), (0, a1), (0, a2), (0, a3)] m K := by
  exact w257_0 a1 a2 a3 H
set_option maxRecDepth 100000 in
theorem w258_0 {m : Mm} {K : Int → Mm → Prop} (a1 : Int) 
  (H : ∀ m1, m1 = umem m 597 0 0 → ((0 ≤ a1 ∧ a1 ≤ (wr ((m1 597 23) - 1))) → TrI 249 [(1, 597)] m1 fun v7 m5 => (v7 < 0 → K (-2) m5) ∧ (¬ v7 < 0 → TrI 259 [(1, 597), (0, a1)] m5 fun v12 m10 => (v12 < 0 → K (-2) m10) ∧ (¬ v12 < 0 → K (wr (v12 - v7)) m10))) ∧ (¬ (0 ≤ a1 ∧ a1 ≤ (wr ((m1 597 23) - 1))) → K (-1) m1)) : X 258 0 [(1, 597), (0, a1), (9, 0), (9, 0)] [] m (qI K) := by
  refine x_s (q := (.aload_n 0, 0, 0, 0)) (cod_258 rfl) rfl rfl rfl ?_
  refine x_s (q := (.iconst 0, 0, 0, 0)) (cod_258 rfl) rfl rfl rfl ?_
  refine x_pf (kk := 0) (t := 0) (cod_258 rfl) sq_p_597 sq_l_597_0 rfl rfl rfl ?_
  have H2 := H _ rfl
  generalize umem m 597 0 0 = m1 at H2 ⊢
  refine x_s (q := (.aload_n 0, 0, 0, 0)) (cod_258 rfl) rfl rfl rfl ?_
  refine x_s (q := (.iload_n 1, 0, 0, 0)) (cod_258 rfl) rfl rfl rfl ?_
  refine x_call (as := [(1, 597), (0, a1)]) (rest := []) (cod_258 rfl) rfl rfl (by decide) (by decide) rfl rfl (Nat.le_of_ble_eq_true rfl) (rcv0 sq_l_597_0 sq_p_597 (by decide)) (Nat.le_of_ble_eq_true rfl) ?_
  show X 210 0 [(1, 597), (0, a1)] [] m1 _
  refine x_s (q := (.iload_n 1, 0, 0, 0)) (cod_210 rfl) rfl rfl rfl ?_
  refine x_s (q := (.iconst 0, 0, 0, 0)) (cod_210 rfl) rfl rfl rfl ?_
  refine x_s (q := (.aload_n 0, 0, 0, 0)) (cod_210 rfl) rfl rfl rfl ?_
  refine x_gf (kk := 23) (t := 0) (cod_210 rfl) sq_p_597 sq_l_597_23 rfl rfl ?_
  refine x_s (q := (.iconst 1, 0, 0, 0)) (cod_210 rfl) rfl rfl rfl ?_
  refine x_s (q := (.isub, 0, 0, 0)) (cod_210 rfl) rfl rfl rfl ?_
  refine x_call (as := [(0, a1), (0, 0), (0, wr ((m1 597 23) - 1))]) (rest := []) (cod_210 rfl) rfl rfl (by decide) (by decide) rfl rfl (Nat.le_of_ble_eq_true rfl) rfl (Nat.le_of_ble_eq_true rfl) ?_
  refine x_pure (p172) ?_
  show X 210 11 [(1, 597), (0, a1)] [(0, bi (0 ≤ a1 ∧ a1 ≤ (wr ((m1 597 23) - 1))))] m1 _
  refine x_rI (t := .boolean) (cod_210 rfl) rfl rfl (bok_b (bi_01 _)) ?_
  show X 258 10 [(1, 597), (0, a1), (9, 0), (9, 0)] [(0, bi (0 ≤ a1 ∧ a1 ≤ (wr ((m1 597 23) - 1))))] m1 _
  refine x_if (p := 0 ≤ a1 ∧ a1 ≤ (wr ((m1 597 23) - 1))) (tgt := 15) (cod_258 rfl) (by decide) xb_ne (fun h => ?_) (fun h => ?_)
  · have H3 := H2.1 h
    refine x_s (q := (.aload_n 0, 0, 0, 0)) (cod_258 rfl) rfl rfl rfl ?_
    refine x_call (as := [(1, 597)]) (rest := []) (cod_258 rfl) rfl rfl (by decide) (by decide) rfl rfl (Nat.le_of_ble_eq_true rfl) (rcv0 sq_l_597_0 sq_p_597 (by decide)) (Nat.le_of_ble_eq_true rfl) ?_
    refine X.imp H3 ?_
    rintro _ m5 ⟨v7, rfl, H6⟩
    show X 258 19 [(1, 597), (0, a1), (9, 0), (9, 0)] [(0, v7)] m5 _
    refine x_s (q := (.istore_n 2, 0, 0, 0)) (cod_258 rfl) rfl rfl rfl ?_
    refine x_s (q := (.iload_n 2, 0, 0, 0)) (cod_258 rfl) rfl rfl rfl ?_
    refine x_if (p := ¬ v7 < 0) (tgt := 29) (cod_258 rfl) (by decide) xn_ge (fun h => ?_) (fun h => ?_)
    · have H8 := H6.2 h
      refine x_s (q := (.aload_n 0, 0, 0, 0)) (cod_258 rfl) rfl rfl rfl ?_
      refine x_s (q := (.iload_n 1, 0, 0, 0)) (cod_258 rfl) rfl rfl rfl ?_
      refine x_call (as := [(1, 597), (0, a1)]) (rest := []) (cod_258 rfl) rfl rfl (by decide) (by decide) rfl rfl (Nat.le_of_ble_eq_true rfl) (rcv0 sq_l_597_0 sq_p_597 (by decide)) (Nat.le_of_ble_eq_true rfl) ?_
      refine X.imp H8 ?_
      rintro _ m10 ⟨v12, rfl, H11⟩
      show X 258 34 [(1, 597), (0, a1), (0, v7), (9, 0)] [(0, v12)] m10 _
      refine x_s (q := (.istore_n 3, 0, 0, 0)) (cod_258 rfl) rfl rfl rfl ?_
      refine x_s (q := (.iload_n 3, 0, 0, 0)) (cod_258 rfl) rfl rfl rfl ?_
      refine x_if (p := ¬ v12 < 0) (tgt := 44) (cod_258 rfl) (by decide) xn_ge (fun h => ?_) (fun h => ?_)
      · have H13 := H11.2 h
        refine x_s (q := (.iload_n 3, 0, 0, 0)) (cod_258 rfl) rfl rfl rfl ?_
        refine x_s (q := (.iload_n 2, 0, 0, 0)) (cod_258 rfl) rfl rfl rfl ?_
        refine x_s (q := (.isub, 0, 0, 0)) (cod_258 rfl) rfl rfl rfl ?_
        refine x_retI (t := .int) (cod_258 rfl) rfl rfl rfl ?_
        exact H13
      · have H14 := H11.1 (Classical.not_not.mp h)
        refine x_s (q := (.bipush (-2), 0, 0, 0)) (cod_258 rfl) rfl rfl rfl ?_
        refine x_go (tgt := 47) (cod_258 rfl) (by decide) ?_
        refine x_retI (t := .int) (cod_258 rfl) rfl rfl rfl ?_
        exact H14
    · have H9 := H6.1 (Classical.not_not.mp h)
      refine x_s (q := (.bipush (-2), 0, 0, 0)) (cod_258 rfl) rfl rfl rfl ?_
      refine x_go (tgt := 34) (cod_258 rfl) (by decide) ?_
      refine x_s (q := (.istore_n 3, 0, 0, 0)) (cod_258 rfl) rfl rfl rfl ?_
      refine x_s (q := (.iload_n 3, 0, 0, 0)) (cod_258 rfl) rfl rfl rfl ?_
      refine x_iff (cod_258 rfl) (by decide) (by decide) ?_
      refine x_s (q := (.bipush (-2), 0, 0, 0)) (cod_258 rfl) rfl rfl rfl ?_
      refine x_go (tgt := 47) (cod_258 rfl) (by decide) ?_
      refine x_retI (t := .int) (cod_258 rfl) rfl rfl rfl ?_
      exact H9
  · have H4 := H2.2 h
    refine x_s (q := (.iconst (-1), 0, 0, 0)) (cod_258 rfl) rfl rfl rfl ?_
    refine x_retI (t := .int) (cod_258 rfl) rfl rfl rfl ?_
    exact H4
theorem e258 {m : Mm} {K : Int → Mm → Prop} (a1 : Int) 
  (H : ∀ m1, m1 = umem m 597 0 0 → ((0 ≤ a1 ∧ a1 ≤ (wr ((m1 597 23) - 1))) → TrI 249 [(1, 597)] m1 fun v7 m5 => (v7 < 0 → K (-2) m5) ∧ (¬ v7 < 0 → TrI 259 [(1, 597), (0, a1)] m5 fun v12 m10 => (v12 < 0 → K (-2) m10) ∧ (¬ v12 < 0 → K (wr (v12 - v7)) m10))) ∧ (¬ (0 ≤ a1 ∧ a1 ≤ (wr ((m1 597 23) - 1))) → K (-1) m1)) : TrI 258 [(1, 597), (0, a1)] m K := by
  exact w258_0 a1 H
set_option maxRecDepth 100000 in
theorem w259_0 {m : Mm} {K : Int → Mm → Prop} (a1 : Int) 
  (H : (0 ≤ a1 ∧ a1 < 10) ∧ TrI 257 [(1, 597), (0, a1), (0, m 618 a1), (0, 2)] m fun v5 m3 => K v5 m3) : X 259 0 [(1, 597), (0, a1)] [] m (qI K) := by
  refine x_s (q := (.aload_n 0, 0, 0, 0)) (cod_259 rfl) rfl rfl rfl ?_
  refine x_s (q := (.iload_n 1, 0, 0, 0)) (cod_259 rfl) rfl rfl rfl ?_
  refine x_s (q := (.aload_n 0, 0, 0, 0)) (cod_259 rfl) rfl rfl rfl ?_
  refine x_gc (kk := 43) (c := 618) (t := 1) (cod_259 rfl) sq_p_597 sq_l_597_43 rfl rfl ?_
  refine x_s (q := (.iload_n 1, 0, 0, 0)) (cod_259 rfl) rfl rfl rfl ?_
  obtain ⟨c1, H2⟩ := H
  refine x_iald (cod_259 rfl) sq_a_618.s (sq_a_618.k c1.1 c1.2) ?_
  refine x_s (q := (.iconst 2, 0, 0, 0)) (cod_259 rfl) rfl rfl rfl ?_
  refine x_call (as := [(1, 597), (0, a1), (0, m 618 a1), (0, 2)]) (rest := []) (cod_259 rfl) rfl rfl (by decide) (by decide) rfl rfl (Nat.le_of_ble_eq_true rfl) (rcv0 sq_l_597_0 sq_p_597 (by decide)) (Nat.le_of_ble_eq_true rfl) ?_
  refine X.imp H2 ?_
  rintro _ m3 ⟨v5, rfl, H4⟩
  show X 259 12 [(1, 597), (0, a1)] [(0, v5)] m3 _
  refine x_retI (t := .int) (cod_259 rfl) rfl rfl rfl ?_
  exact H4
theorem e259 {m : Mm} {K : Int → Mm → Prop} (a1 : Int) 
  (H : (0 ≤ a1 ∧ a1 < 10) ∧ TrI 257 [(1, 597), (0, a1), (0, m 618 a1), (0, 2)] m fun v5 m3 => K v5 m3) : TrI 259 [(1, 597), (0, a1)] m K := by
  exact w259_0 a1 H
set_option maxRecDepth 100000 in
theorem w260_0 {m : Mm} {K : Int → Mm → Prop}  
  (H : ∀ m1, m1 = umem m 597 0 0 → TrI 249 [(1, 597)] m1 fun v5 m3 => (v5 < 0 → K (-2) m3) ∧ (¬ v5 < 0 → X 260 20 [(1, 597), (0, (-2)), (0, 0), (9, 0)] [] m3 (qI K))) : X 260 0 [(1, 597), (9, 0), (9, 0), (9, 0)] [] m (qI K) := by
  refine x_s (q := (.aload_n 0, 0, 0, 0)) (cod_260 rfl) rfl rfl rfl ?_
  refine x_s (q := (.iconst 0, 0, 0, 0)) (cod_260 rfl) rfl rfl rfl ?_
  refine x_pf (kk := 0) (t := 0) (cod_260 rfl) sq_p_597 sq_l_597_0 rfl rfl rfl ?_
  have H2 := H _ rfl
  generalize umem m 597 0 0 = m1 at H2 ⊢
  refine x_s (q := (.bipush (-2), 0, 0, 0)) (cod_260 rfl) rfl rfl rfl ?_
  refine x_s (q := (.istore_n 1, 0, 0, 0)) (cod_260 rfl) rfl rfl rfl ?_
  refine x_s (q := (.aload_n 0, 0, 0, 0)) (cod_260 rfl) rfl rfl rfl ?_
  refine x_call (as := [(1, 597)]) (rest := []) (cod_260 rfl) rfl rfl (by decide) (by decide) rfl rfl (Nat.le_of_ble_eq_true rfl) (rcv0 sq_l_597_0 sq_p_597 (by decide)) (Nat.le_of_ble_eq_true rfl) ?_
  refine X.imp H2 ?_
  rintro _ m3 ⟨v5, rfl, H4⟩
  show X 260 12 [(1, 597), (0, (-2)), (9, 0), (9, 0)] [(0, v5)] m3 _
  refine x_if (p := ¬ v5 < 0) (tgt := 18) (cod_260 rfl) (by decide) xn_ge (fun h => ?_) (fun h => ?_)
  · have H6 := H4.2 h
    refine x_s (q := (.iconst 0, 0, 0, 0)) (cod_260 rfl) rfl rfl rfl ?_
    refine x_s (q := (.istore_n 2, 0, 0, 0)) (cod_260 rfl) rfl rfl rfl ?_
    exact H6
  · have H7 := H4.1 (Classical.not_not.mp h)
    refine x_s (q := (.bipush (-2), 0, 0, 0)) (cod_260 rfl) rfl rfl rfl ?_
    refine x_retI (t := .int) (cod_260 rfl) rfl rfl rfl ?_
    exact H7
theorem e260 {m : Mm} {K : Int → Mm → Prop}  
  (H : ∀ m1, m1 = umem m 597 0 0 → TrI 249 [(1, 597)] m1 fun v5 m3 => (v5 < 0 → K (-2) m3) ∧ (¬ v5 < 0 → X 260 20 [(1, 597), (0, (-2)), (0, 0), (9, 0)] [] m3 (qI K))) : TrI 260 [(1, 597)] m K := by
  exact w260_0  H
set_option maxRecDepth 100000 in
theorem w260_20 {m : Mm} {K : Int → Mm → Prop} (a1 : Int) (a2 : Int) (ua3 : aV) 
  (H : (a2 < (m 597 23) → TrI 259 [(1, 597), (0, a2)] m fun v5 m3 => (v5 < 0 → X 260 20 [(1, 597), (0, a1), (0, wr (a2 + 1)), (0, v5)] [] m3 (qI K)) ∧ (¬ v5 < 0 → (a1 < 0 → X 260 20 [(1, 597), (0, v5), (0, wr (a2 + 1)), (0, v5)] [] m3 (qI K)) ∧ (¬ a1 < 0 → (v5 < a1 → X 260 20 [(1, 597), (0, v5), (0, wr (a2 + 1)), (0, v5)] [] m3 (qI K)) ∧ (¬ v5 < a1 → X 260 20 [(1, 597), (0, a1), (0, wr (a2 + 1)), (0, v5)] [] m3 (qI K))))) ∧ (¬ a2 < (m 597 23) → K a1 m)) : X 260 20 [(1, 597), (0, a1), (0, a2), ua3] [] m (qI K) := by
  refine x_s (q := (.iload_n 2, 0, 0, 0)) (cod_260 rfl) rfl rfl rfl ?_
  refine x_s (q := (.aload_n 0, 0, 0, 0)) (cod_260 rfl) rfl rfl rfl ?_
  refine x_gf (kk := 23) (t := 0) (cod_260 rfl) sq_p_597 sq_l_597_23 rfl rfl ?_
  refine x_ic (p := ¬ a2 < (m 597 23)) (tgt := 55) (cod_260 rfl) (by decide) xn_ge (fun h => ?_) (fun h => ?_)
  · have H1 := H.2 h
    refine x_s (q := (.iload_n 1, 0, 0, 0)) (cod_260 rfl) rfl rfl rfl ?_
    refine x_retI (t := .int) (cod_260 rfl) rfl rfl rfl ?_
    exact H1
  · have H2 := H.1 (Classical.not_not.mp h)
    refine x_s (q := (.aload_n 0, 0, 0, 0)) (cod_260 rfl) rfl rfl rfl ?_
    refine x_s (q := (.iload_n 2, 0, 0, 0)) (cod_260 rfl) rfl rfl rfl ?_
    refine x_call (as := [(1, 597), (0, a2)]) (rest := []) (cod_260 rfl) rfl rfl (by decide) (by decide) rfl rfl (Nat.le_of_ble_eq_true rfl) (rcv0 sq_l_597_0 sq_p_597 (by decide)) (Nat.le_of_ble_eq_true rfl) ?_
    refine X.imp H2 ?_
    rintro _ m3 ⟨v5, rfl, H4⟩
    show X 260 33 [(1, 597), (0, a1), (0, a2), ua3] [(0, v5)] m3 _
    refine x_s (q := (.istore_n 3, 0, 0, 0)) (cod_260 rfl) rfl rfl rfl ?_
    refine x_s (q := (.iload_n 3, 0, 0, 0)) (cod_260 rfl) rfl rfl rfl ?_
    refine x_if (p := v5 < 0) (tgt := 49) (cod_260 rfl) (by decide) xj_lt (fun h => ?_) (fun h => ?_)
    · have H6 := H4.1 h
      refine x_s (q := (.iinc 2 1, 0, 0, 0)) (cod_260 rfl) rfl rfl rfl ?_
      refine x_go (tgt := 20) (cod_260 rfl) (by decide) ?_
      exact H6
    · have H7 := H4.2 h
      refine x_s (q := (.iload_n 1, 0, 0, 0)) (cod_260 rfl) rfl rfl rfl ?_
      refine x_if (p := a1 < 0) (tgt := 47) (cod_260 rfl) (by decide) xj_lt (fun h => ?_) (fun h => ?_)
      · have H8 := H7.1 h
        refine x_s (q := (.iload_n 3, 0, 0, 0)) (cod_260 rfl) rfl rfl rfl ?_
        refine x_s (q := (.istore_n 1, 0, 0, 0)) (cod_260 rfl) rfl rfl rfl ?_
        refine x_s (q := (.iinc 2 1, 0, 0, 0)) (cod_260 rfl) rfl rfl rfl ?_
        refine x_go (tgt := 20) (cod_260 rfl) (by decide) ?_
        exact H8
      · have H9 := H7.2 h
        refine x_s (q := (.iload_n 3, 0, 0, 0)) (cod_260 rfl) rfl rfl rfl ?_
        refine x_s (q := (.iload_n 1, 0, 0, 0)) (cod_260 rfl) rfl rfl rfl ?_
        refine x_ic (p := ¬ v5 < a1) (tgt := 49) (cod_260 rfl) (by decide) xn_ge (fun h => ?_) (fun h => ?_)
        · have H10 := H9.2 h
          refine x_s (q := (.iinc 2 1, 0, 0, 0)) (cod_260 rfl) rfl rfl rfl ?_
          refine x_go (tgt := 20) (cod_260 rfl) (by decide) ?_
          exact H10
        · have H11 := H9.1 (Classical.not_not.mp h)
          refine x_s (q := (.iload_n 3, 0, 0, 0)) (cod_260 rfl) rfl rfl rfl ?_
          refine x_s (q := (.istore_n 1, 0, 0, 0)) (cod_260 rfl) rfl rfl rfl ?_
          refine x_s (q := (.iinc 2 1, 0, 0, 0)) (cod_260 rfl) rfl rfl rfl ?_
          refine x_go (tgt := 20) (cod_260 rfl) (by decide) ?_
          exact H11
set_option maxRecDepth 100000 in
theorem w261_0 {m : Mm} {K : Int → Mm → Prop}  
  (H : ∀ m1, m1 = umem m 597 0 0 → TrI 249 [(1, 597)] m1 fun v5 m3 => (v5 < 0 → K (-2) m3) ∧ (¬ v5 < 0 → X 261 21 [(1, 597), (0, v5), (0, 0), (0, 0)] [] m3 (qI K))) : X 261 0 [(1, 597), (9, 0), (9, 0), (9, 0)] [] m (qI K) := by
  refine x_s (q := (.aload_n 0, 0, 0, 0)) (cod_261 rfl) rfl rfl rfl ?_
  refine x_s (q := (.iconst 0, 0, 0, 0)) (cod_261 rfl) rfl rfl rfl ?_
  refine x_pf (kk := 0) (t := 0) (cod_261 rfl) sq_p_597 sq_l_597_0 rfl rfl rfl ?_
  have H2 := H _ rfl
  generalize umem m 597 0 0 = m1 at H2 ⊢
  refine x_s (q := (.aload_n 0, 0, 0, 0)) (cod_261 rfl) rfl rfl rfl ?_
  refine x_call (as := [(1, 597)]) (rest := []) (cod_261 rfl) rfl rfl (by decide) (by decide) rfl rfl (Nat.le_of_ble_eq_true rfl) (rcv0 sq_l_597_0 sq_p_597 (by decide)) (Nat.le_of_ble_eq_true rfl) ?_
  refine X.imp H2 ?_
  rintro _ m3 ⟨v5, rfl, H4⟩
  show X 261 9 [(1, 597), (9, 0), (9, 0), (9, 0)] [(0, v5)] m3 _
  refine x_s (q := (.istore_n 1, 0, 0, 0)) (cod_261 rfl) rfl rfl rfl ?_
  refine x_s (q := (.iload_n 1, 0, 0, 0)) (cod_261 rfl) rfl rfl rfl ?_
  refine x_if (p := ¬ v5 < 0) (tgt := 17) (cod_261 rfl) (by decide) xn_ge (fun h => ?_) (fun h => ?_)
  · have H6 := H4.2 h
    refine x_s (q := (.iconst 0, 0, 0, 0)) (cod_261 rfl) rfl rfl rfl ?_
    refine x_s (q := (.istore_n 2, 0, 0, 0)) (cod_261 rfl) rfl rfl rfl ?_
    refine x_s (q := (.iconst 0, 0, 0, 0)) (cod_261 rfl) rfl rfl rfl ?_
    refine x_s (q := (.istore_n 3, 0, 0, 0)) (cod_261 rfl) rfl rfl rfl ?_
    exact H6
  · have H7 := H4.1 (Classical.not_not.mp h)
    refine x_s (q := (.bipush (-2), 0, 0, 0)) (cod_261 rfl) rfl rfl rfl ?_
    refine x_retI (t := .int) (cod_261 rfl) rfl rfl rfl ?_
    exact H7
theorem e261 {m : Mm} {K : Int → Mm → Prop}  
  (H : ∀ m1, m1 = umem m 597 0 0 → TrI 249 [(1, 597)] m1 fun v5 m3 => (v5 < 0 → K (-2) m3) ∧ (¬ v5 < 0 → X 261 21 [(1, 597), (0, v5), (0, 0), (0, 0)] [] m3 (qI K))) : TrI 261 [(1, 597)] m K := by
  exact w261_0  H
set_option maxRecDepth 100000 in
theorem w261_21 {m : Mm} {K : Int → Mm → Prop} (a1 : Int) (a2 : Int) (a3 : Int) 
  (H : (a3 < (m 597 23) → TrI 259 [(1, 597), (0, a3)] m fun v5 m3 => (v5 = a1 → X 261 21 [(1, 597), (0, a1), (0, ior a2 0), (0, wr (a3 + 1))] [] m3 (qI K)) ∧ (¬ v5 = a1 → X 261 21 [(1, 597), (0, a1), (0, ior a2 (ishl 1 a3)), (0, wr (a3 + 1))] [] m3 (qI K))) ∧ (¬ a3 < (m 597 23) → K a2 m)) : X 261 21 [(1, 597), (0, a1), (0, a2), (0, a3)] [] m (qI K) := by
  refine x_s (q := (.iload_n 3, 0, 0, 0)) (cod_261 rfl) rfl rfl rfl ?_
  refine x_s (q := (.aload_n 0, 0, 0, 0)) (cod_261 rfl) rfl rfl rfl ?_
  refine x_gf (kk := 23) (t := 0) (cod_261 rfl) sq_p_597 sq_l_597_23 rfl rfl ?_
  refine x_ic (p := ¬ a3 < (m 597 23)) (tgt := 54) (cod_261 rfl) (by decide) xn_ge (fun h => ?_) (fun h => ?_)
  · have H1 := H.2 h
    refine x_s (q := (.iload_n 2, 0, 0, 0)) (cod_261 rfl) rfl rfl rfl ?_
    refine x_retI (t := .int) (cod_261 rfl) rfl rfl rfl ?_
    exact H1
  · have H2 := H.1 (Classical.not_not.mp h)
    refine x_s (q := (.iload_n 2, 0, 0, 0)) (cod_261 rfl) rfl rfl rfl ?_
    refine x_s (q := (.aload_n 0, 0, 0, 0)) (cod_261 rfl) rfl rfl rfl ?_
    refine x_s (q := (.iload_n 3, 0, 0, 0)) (cod_261 rfl) rfl rfl rfl ?_
    refine x_call (as := [(1, 597), (0, a3)]) (rest := [(0, a2)]) (cod_261 rfl) rfl rfl (by decide) (by decide) rfl rfl (Nat.le_of_ble_eq_true rfl) (rcv0 sq_l_597_0 sq_p_597 (by decide)) (Nat.le_of_ble_eq_true rfl) ?_
    refine X.imp H2 ?_
    rintro _ m3 ⟨v5, rfl, H4⟩
    show X 261 35 [(1, 597), (0, a1), (0, a2), (0, a3)] [(0, v5), (0, a2)] m3 _
    refine x_s (q := (.iload_n 1, 0, 0, 0)) (cod_261 rfl) rfl rfl rfl ?_
    refine x_ic (p := ¬ v5 = a1) (tgt := 43) (cod_261 rfl) (by decide) xj_ne (fun h => ?_) (fun h => ?_)
    · have H6 := H4.2 h
      refine x_s (q := (.iconst 1, 0, 0, 0)) (cod_261 rfl) rfl rfl rfl ?_
      refine x_s (q := (.iload_n 3, 0, 0, 0)) (cod_261 rfl) rfl rfl rfl ?_
      refine x_s (q := (.ishl, 0, 0, 0)) (cod_261 rfl) rfl rfl rfl ?_
      show X 261 46 [(1, 597), (0, a1), (0, a2), (0, a3)] [(0, ishl 1 a3), (0, a2)] m3 _
      refine x_s (q := (.ior, 0, 0, 0)) (cod_261 rfl) rfl rfl rfl ?_
      show X 261 47 [(1, 597), (0, a1), (0, a2), (0, a3)] [(0, ior a2 (ishl 1 a3))] m3 _
      refine x_s (q := (.istore_n 2, 0, 0, 0)) (cod_261 rfl) rfl rfl rfl ?_
      refine x_s (q := (.iinc 3 1, 0, 0, 0)) (cod_261 rfl) rfl rfl rfl ?_
      refine x_go (tgt := 21) (cod_261 rfl) (by decide) ?_
      exact H6
    · have H7 := H4.1 (Classical.not_not.mp h)
      refine x_s (q := (.iconst 0, 0, 0, 0)) (cod_261 rfl) rfl rfl rfl ?_
      refine x_go (tgt := 46) (cod_261 rfl) (by decide) ?_
      refine x_s (q := (.ior, 0, 0, 0)) (cod_261 rfl) rfl rfl rfl ?_
      show X 261 47 [(1, 597), (0, a1), (0, a2), (0, a3)] [(0, ior a2 0)] m3 _
      refine x_s (q := (.istore_n 2, 0, 0, 0)) (cod_261 rfl) rfl rfl rfl ?_
      refine x_s (q := (.iinc 3 1, 0, 0, 0)) (cod_261 rfl) rfl rfl rfl ?_
      refine x_go (tgt := 21) (cod_261 rfl) (by decide) ?_
      exact H7
set_option maxRecDepth 100000 in
theorem w262_0 {m : Mm} {K : Int → Mm → Prop} (a1 : Int) 
  (H : ∀ m1, m1 = umem m 597 0 0 → m1 597 16 = 0 ∧ ((0 ≤ a1 ∧ a1 ≤ (wr ((m1 602 578) - 1))) → ∀ m7, m7 = umem m1 597 27 a1 → TrV 241 [(1, 597)] m7 fun m9 => TrI 242 [(1, 597)] m9 fun v13 m11 => ∀ m14, m14 = umem m11 597 27 (-1) → K v13 m14) ∧ (¬ (0 ≤ a1 ∧ a1 ≤ (wr ((m1 602 578) - 1))) → K (-1) m1)) : X 262 0 [(1, 597), (0, a1), (9, 0)] [] m (qI K) := by
  refine x_s (q := (.aload_n 0, 0, 0, 0)) (cod_262 rfl) rfl rfl rfl ?_
  refine x_s (q := (.iconst 0, 0, 0, 0)) (cod_262 rfl) rfl rfl rfl ?_
  refine x_pf (kk := 0) (t := 0) (cod_262 rfl) sq_p_597 sq_l_597_0 rfl rfl rfl ?_
  have H2 := H _ rfl
  generalize umem m 597 0 0 = m1 at H2 ⊢
  refine x_s (q := (.aload_n 0, 0, 0, 0)) (cod_262 rfl) rfl rfl rfl ?_
  refine x_s (q := (.iload_n 1, 0, 0, 0)) (cod_262 rfl) rfl rfl rfl ?_
  refine x_call (as := [(1, 597), (0, a1)]) (rest := []) (cod_262 rfl) rfl rfl (by decide) (by decide) rfl rfl (Nat.le_of_ble_eq_true rfl) (rcv0 sq_l_597_0 sq_p_597 (by decide)) (Nat.le_of_ble_eq_true rfl) ?_
  show X 201 0 [(1, 597), (0, a1)] [] m1 _
  refine x_s (q := (.iload_n 1, 0, 0, 0)) (cod_201 rfl) rfl rfl rfl ?_
  refine x_s (q := (.iconst 0, 0, 0, 0)) (cod_201 rfl) rfl rfl rfl ?_
  refine x_s (q := (.aload_n 0, 0, 0, 0)) (cod_201 rfl) rfl rfl rfl ?_
  refine x_call (as := [(1, 597)]) (rest := [(0, 0), (0, a1)]) (cod_201 rfl) rfl rfl (by decide) (by decide) rfl rfl (Nat.le_of_ble_eq_true rfl) (rcv0 sq_l_597_0 sq_p_597 (by decide)) (Nat.le_of_ble_eq_true rfl) ?_
  show X 181 0 [(1, 597)] [] m1 _
  refine x_s (q := (.aload_n 0, 0, 0, 0)) (cod_181 rfl) rfl rfl rfl ?_
  refine x_s (q := (.sipush 578, 0, 0, 0)) (cod_181 rfl) rfl rfl rfl ?_
  obtain ⟨c3, H4⟩ := H2
  refine x_call (as := [(1, 597), (0, 578)]) (rest := []) (cod_181 rfl) rfl rfl (by decide) (by decide) rfl rfl (Nat.le_of_ble_eq_true rfl) (rcv0 sq_l_597_0 sq_p_597 (by decide)) (Nat.le_of_ble_eq_true rfl) ?_
  refine x_pure (p182a (by decide) c3) ?_
  show X 181 7 [(1, 597)] [(0, m1 602 578)] m1 _
  refine x_rI (t := .int) (cod_181 rfl) rfl rfl rfl ?_
  show X 201 6 [(1, 597), (0, a1)] [(0, m1 602 578), (0, 0), (0, a1)] m1 _
  refine x_s (q := (.iconst 1, 0, 0, 0)) (cod_201 rfl) rfl rfl rfl ?_
  refine x_s (q := (.isub, 0, 0, 0)) (cod_201 rfl) rfl rfl rfl ?_
  refine x_call (as := [(0, a1), (0, 0), (0, wr ((m1 602 578) - 1))]) (rest := []) (cod_201 rfl) rfl rfl (by decide) (by decide) rfl rfl (Nat.le_of_ble_eq_true rfl) rfl (Nat.le_of_ble_eq_true rfl) ?_
  refine x_pure (p172) ?_
  show X 201 11 [(1, 597), (0, a1)] [(0, bi (0 ≤ a1 ∧ a1 ≤ (wr ((m1 602 578) - 1))))] m1 _
  refine x_rI (t := .boolean) (cod_201 rfl) rfl rfl (bok_b (bi_01 _)) ?_
  show X 262 10 [(1, 597), (0, a1), (9, 0)] [(0, bi (0 ≤ a1 ∧ a1 ≤ (wr ((m1 602 578) - 1))))] m1 _
  refine x_if (p := 0 ≤ a1 ∧ a1 ≤ (wr ((m1 602 578) - 1))) (tgt := 15) (cod_262 rfl) (by decide) xb_ne (fun h => ?_) (fun h => ?_)
  · have H5 := H4.1 h
    refine x_s (q := (.aload_n 0, 0, 0, 0)) (cod_262 rfl) rfl rfl rfl ?_
    refine x_s (q := (.iload_n 1, 0, 0, 0)) (cod_262 rfl) rfl rfl rfl ?_
    refine x_pf (kk := 27) (t := 0) (cod_262 rfl) sq_p_597 sq_l_597_27 rfl rfl rfl ?_
    have H8 := H5 _ rfl
    generalize umem m1 597 27 a1 = m7 at H8 ⊢
    refine x_s (q := (.aload_n 0, 0, 0, 0)) (cod_262 rfl) rfl rfl rfl ?_
    refine x_call (as := [(1, 597)]) (rest := []) (cod_262 rfl) rfl rfl (by decide) (by decide) rfl rfl (Nat.le_of_ble_eq_true rfl) (rcv0 sq_l_597_0 sq_p_597 (by decide)) (Nat.le_of_ble_eq_true rfl) ?_
    refine X.imp H8 ?_
    rintro _ m9 ⟨rfl, H10⟩
    show X 262 24 [(1, 597), (0, a1), (9, 0)] [] m9 _
    refine x_s (q := (.aload_n 0, 0, 0, 0)) (cod_262 rfl) rfl rfl rfl ?_
    refine x_call (as := [(1, 597)]) (rest := []) (cod_262 rfl) rfl rfl (by decide) (by decide) rfl rfl (Nat.le_of_ble_eq_true rfl) (rcv0 sq_l_597_0 sq_p_597 (by decide)) (Nat.le_of_ble_eq_true rfl) ?_
    refine X.imp H10 ?_
    rintro _ m11 ⟨v13, rfl, H12⟩
    show X 262 28 [(1, 597), (0, a1), (9, 0)] [(0, v13)] m11 _
    refine x_s (q := (.istore_n 2, 0, 0, 0)) (cod_262 rfl) rfl rfl rfl ?_
    refine x_s (q := (.aload_n 0, 0, 0, 0)) (cod_262 rfl) rfl rfl rfl ?_
    refine x_s (q := (.iconst (-1), 0, 0, 0)) (cod_262 rfl) rfl rfl rfl ?_
    refine x_pf (kk := 27) (t := 0) (cod_262 rfl) sq_p_597 sq_l_597_27 rfl rfl rfl ?_
    have H15 := H12 _ rfl
    generalize umem m11 597 27 (-1) = m14 at H15 ⊢
    refine x_s (q := (.iload_n 2, 0, 0, 0)) (cod_262 rfl) rfl rfl rfl ?_
    refine x_retI (t := .int) (cod_262 rfl) rfl rfl rfl ?_
    exact H15
  · have H6 := H4.2 h
    refine x_s (q := (.iconst (-1), 0, 0, 0)) (cod_262 rfl) rfl rfl rfl ?_
    refine x_retI (t := .int) (cod_262 rfl) rfl rfl rfl ?_
    exact H6
theorem e262 {m : Mm} {K : Int → Mm → Prop} (a1 : Int) 
  (H : ∀ m1, m1 = umem m 597 0 0 → m1 597 16 = 0 ∧ ((0 ≤ a1 ∧ a1 ≤ (wr ((m1 602 578) - 1))) → ∀ m7, m7 = umem m1 597 27 a1 → TrV 241 [(1, 597)] m7 fun m9 => TrI 242 [(1, 597)] m9 fun v13 m11 => ∀ m14, m14 = umem m11 597 27 (-1) → K v13 m14) ∧ (¬ (0 ≤ a1 ∧ a1 ≤ (wr ((m1 602 578) - 1))) → K (-1) m1)) : TrI 262 [(1, 597), (0, a1)] m K := by
  exact w262_0 a1 H
set_option maxRecDepth 100000 in
theorem w263_0 {m : Mm} {K : Int → Mm → Prop} (a1 : Int) 
  (H : ∀ m1, m1 = umem m 597 0 0 → m1 597 16 = 0 ∧ ((0 ≤ a1 ∧ a1 ≤ (wr ((m1 602 579) - 1))) → TrI 264 [(1, 597), (0, a1)] m1 fun v9 m7 => K v9 m7) ∧ (¬ (0 ≤ a1 ∧ a1 ≤ (wr ((m1 602 579) - 1))) → K (-1) m1)) : X 263 0 [(1, 597), (0, a1)] [] m (qI K) := by
  refine x_s (q := (.aload_n 0, 0, 0, 0)) (cod_263 rfl) rfl rfl rfl ?_
  refine x_s (q := (.iconst 0, 0, 0, 0)) (cod_263 rfl) rfl rfl rfl ?_
  refine x_pf (kk := 0) (t := 0) (cod_263 rfl) sq_p_597 sq_l_597_0 rfl rfl rfl ?_
  have H2 := H _ rfl
  generalize umem m 597 0 0 = m1 at H2 ⊢
  refine x_s (q := (.aload_n 0, 0, 0, 0)) (cod_263 rfl) rfl rfl rfl ?_
  refine x_s (q := (.iload_n 1, 0, 0, 0)) (cod_263 rfl) rfl rfl rfl ?_
  refine x_call (as := [(1, 597), (0, a1)]) (rest := []) (cod_263 rfl) rfl rfl (by decide) (by decide) rfl rfl (Nat.le_of_ble_eq_true rfl) (rcv0 sq_l_597_0 sq_p_597 (by decide)) (Nat.le_of_ble_eq_true rfl) ?_
  show X 205 0 [(1, 597), (0, a1)] [] m1 _
  refine x_s (q := (.iload_n 1, 0, 0, 0)) (cod_205 rfl) rfl rfl rfl ?_
  refine x_s (q := (.iconst 0, 0, 0, 0)) (cod_205 rfl) rfl rfl rfl ?_
  refine x_s (q := (.aload_n 0, 0, 0, 0)) (cod_205 rfl) rfl rfl rfl ?_
  refine x_call (as := [(1, 597)]) (rest := [(0, 0), (0, a1)]) (cod_205 rfl) rfl rfl (by decide) (by decide) rfl rfl (Nat.le_of_ble_eq_true rfl) (rcv0 sq_l_597_0 sq_p_597 (by decide)) (Nat.le_of_ble_eq_true rfl) ?_
  show X 186 0 [(1, 597)] [] m1 _
  refine x_s (q := (.aload_n 0, 0, 0, 0)) (cod_186 rfl) rfl rfl rfl ?_
  refine x_s (q := (.sipush 579, 0, 0, 0)) (cod_186 rfl) rfl rfl rfl ?_
  obtain ⟨c3, H4⟩ := H2
  refine x_call (as := [(1, 597), (0, 579)]) (rest := []) (cod_186 rfl) rfl rfl (by decide) (by decide) rfl rfl (Nat.le_of_ble_eq_true rfl) (rcv0 sq_l_597_0 sq_p_597 (by decide)) (Nat.le_of_ble_eq_true rfl) ?_
  refine x_pure (p182a (by decide) c3) ?_
  show X 186 7 [(1, 597)] [(0, m1 602 579)] m1 _
  refine x_rI (t := .int) (cod_186 rfl) rfl rfl rfl ?_
  show X 205 6 [(1, 597), (0, a1)] [(0, m1 602 579), (0, 0), (0, a1)] m1 _
  refine x_s (q := (.iconst 1, 0, 0, 0)) (cod_205 rfl) rfl rfl rfl ?_
  refine x_s (q := (.isub, 0, 0, 0)) (cod_205 rfl) rfl rfl rfl ?_
  refine x_call (as := [(0, a1), (0, 0), (0, wr ((m1 602 579) - 1))]) (rest := []) (cod_205 rfl) rfl rfl (by decide) (by decide) rfl rfl (Nat.le_of_ble_eq_true rfl) rfl (Nat.le_of_ble_eq_true rfl) ?_
  refine x_pure (p172) ?_
  show X 205 11 [(1, 597), (0, a1)] [(0, bi (0 ≤ a1 ∧ a1 ≤ (wr ((m1 602 579) - 1))))] m1 _
  refine x_rI (t := .boolean) (cod_205 rfl) rfl rfl (bok_b (bi_01 _)) ?_
  show X 263 10 [(1, 597), (0, a1)] [(0, bi (0 ≤ a1 ∧ a1 ≤ (wr ((m1 602 579) - 1))))] m1 _
  refine x_if (p := ¬ (0 ≤ a1 ∧ a1 ≤ (wr ((m1 602 579) - 1)))) (tgt := 21) (cod_263 rfl) (by decide) xb_eq (fun h => ?_) (fun h => ?_)
  · have H5 := H4.2 h
    refine x_s (q := (.iconst (-1), 0, 0, 0)) (cod_263 rfl) rfl rfl rfl ?_
    refine x_retI (t := .int) (cod_263 rfl) rfl rfl rfl ?_
    exact H5
  · have H6 := H4.1 (Classical.not_not.mp h)
    refine x_s (q := (.aload_n 0, 0, 0, 0)) (cod_263 rfl) rfl rfl rfl ?_
    refine x_s (q := (.iload_n 1, 0, 0, 0)) (cod_263 rfl) rfl rfl rfl ?_
    refine x_call (as := [(1, 597), (0, a1)]) (rest := []) (cod_263 rfl) rfl rfl (by decide) (by decide) rfl rfl (Nat.le_of_ble_eq_true rfl) (rcv0 sq_l_597_0 sq_p_597 (by decide)) (Nat.le_of_ble_eq_true rfl) ?_
    refine X.imp H6 ?_
    rintro _ m7 ⟨v9, rfl, H8⟩
    show X 263 18 [(1, 597), (0, a1)] [(0, v9)] m7 _
    refine x_go (tgt := 22) (cod_263 rfl) (by decide) ?_
    refine x_retI (t := .int) (cod_263 rfl) rfl rfl rfl ?_
    exact H8
theorem e263 {m : Mm} {K : Int → Mm → Prop} (a1 : Int) 
  (H : ∀ m1, m1 = umem m 597 0 0 → m1 597 16 = 0 ∧ ((0 ≤ a1 ∧ a1 ≤ (wr ((m1 602 579) - 1))) → TrI 264 [(1, 597), (0, a1)] m1 fun v9 m7 => K v9 m7) ∧ (¬ (0 ≤ a1 ∧ a1 ≤ (wr ((m1 602 579) - 1))) → K (-1) m1)) : TrI 263 [(1, 597), (0, a1)] m K := by
  exact w263_0 a1 H
set_option maxRecDepth 100000 in
theorem w264_0 {m : Mm} {K : Int → Mm → Prop} (a1 : Int) 
  (H : TrV 265 [(1, 597), (0, a1)] m fun m1 => X 264 7 [(1, 597), (0, a1), (0, 1), (9, 0), (9, 0)] [] m1 (qI K)) : X 264 0 [(1, 597), (0, a1), (9, 0), (9, 0), (9, 0)] [] m (qI K) := by
  refine x_s (q := (.aload_n 0, 0, 0, 0)) (cod_264 rfl) rfl rfl rfl ?_
  refine x_s (q := (.iload_n 1, 0, 0, 0)) (cod_264 rfl) rfl rfl rfl ?_
  refine x_call (as := [(1, 597), (0, a1)]) (rest := []) (cod_264 rfl) rfl rfl (by decide) (by decide) rfl rfl (Nat.le_of_ble_eq_true rfl) (rcv0 sq_l_597_0 sq_p_597 (by decide)) (Nat.le_of_ble_eq_true rfl) ?_
  refine X.imp H ?_
  rintro _ m1 ⟨rfl, H2⟩
  show X 264 5 [(1, 597), (0, a1), (9, 0), (9, 0), (9, 0)] [] m1 _
  refine x_s (q := (.iconst 1, 0, 0, 0)) (cod_264 rfl) rfl rfl rfl ?_
  refine x_s (q := (.istore_n 2, 0, 0, 0)) (cod_264 rfl) rfl rfl rfl ?_
  exact H2
theorem e264 {m : Mm} {K : Int → Mm → Prop} (a1 : Int) 
  (H : TrV 265 [(1, 597), (0, a1)] m fun m1 => X 264 7 [(1, 597), (0, a1), (0, 1), (9, 0), (9, 0)] [] m1 (qI K)) : TrI 264 [(1, 597), (0, a1)] m K := by
  exact w264_0 a1 H
set_option maxRecDepth 100000 in
theorem w264_7 {m : Mm} {K : Int → Mm → Prop} (a1 : Int) (a2 : Int) (ua3 : aV) (ua4 : aV) 
  (H : (0 ≤ (wr ((wr ((wr (279 * a2)) + (wr (31 * 0)))) + 0)) ∧ (wr ((wr ((wr (279 * a2)) + (wr (31 * 0)))) + 0)) < 2511) ∧ ((m 620 (wr ((wr ((wr (279 * a2)) + (wr (31 * 0)))) + 0))) = 0 → X 264 7 [(1, 597), (0, a1), (0, wr (a2 + 1)), ua3, ua4] [] m (qI K)) ∧ (¬ (m 620 (wr ((wr ((wr (279 * a2)) + (wr (31 * 0)))) + 0))) = 0 → X 264 29 [(1, 597), (0, a1), (0, a2), (0, 0), ua4] [] m (qI K))) : X 264 7 [(1, 597), (0, a1), (0, a2), ua3, ua4] [] m (qI K) := by
  refine x_s (q := (.aload_n 0, 0, 0, 0)) (cod_264 rfl) rfl rfl rfl ?_
  refine x_gc (kk := 45) (c := 620) (t := 1) (cod_264 rfl) sq_p_597 sq_l_597_45 rfl rfl ?_
  refine x_s (q := (.iload_n 2, 0, 0, 0)) (cod_264 rfl) rfl rfl rfl ?_
  refine x_s (q := (.iconst 0, 0, 0, 0)) (cod_264 rfl) rfl rfl rfl ?_
  refine x_s (q := (.iconst 0, 0, 0, 0)) (cod_264 rfl) rfl rfl rfl ?_
  refine x_call (as := [(0, a2), (0, 0), (0, 0)]) (rest := [(1, 620)]) (cod_264 rfl) rfl rfl (by decide) (by decide) rfl rfl (Nat.le_of_ble_eq_true rfl) rfl (Nat.le_of_ble_eq_true rfl) ?_
  show X 266 0 [(0, a2), (0, 0), (0, 0)] [] m _
  refine x_s (q := (.sipush 279, 0, 0, 0)) (cod_266 rfl) rfl rfl rfl ?_
  refine x_s (q := (.iload_n 0, 0, 0, 0)) (cod_266 rfl) rfl rfl rfl ?_
  refine x_s (q := (.imul, 0, 0, 0)) (cod_266 rfl) rfl rfl rfl ?_
  refine x_s (q := (.bipush 31, 0, 0, 0)) (cod_266 rfl) rfl rfl rfl ?_
  refine x_s (q := (.iload_n 1, 0, 0, 0)) (cod_266 rfl) rfl rfl rfl ?_
  refine x_s (q := (.imul, 0, 0, 0)) (cod_266 rfl) rfl rfl rfl ?_
  refine x_s (q := (.iadd, 0, 0, 0)) (cod_266 rfl) rfl rfl rfl ?_
  refine x_s (q := (.iload_n 2, 0, 0, 0)) (cod_266 rfl) rfl rfl rfl ?_
  refine x_s (q := (.iadd, 0, 0, 0)) (cod_266 rfl) rfl rfl rfl ?_
  refine x_rI (t := .int) (cod_266 rfl) rfl rfl rfl ?_
  show X 264 17 [(1, 597), (0, a1), (0, a2), ua3, ua4] [(0, wr ((wr ((wr (279 * a2)) + (wr (31 * 0)))) + 0)), (1, 620)] m _
  obtain ⟨c1, H2⟩ := H
  refine x_bald (cod_264 rfl) sq_a_620.s (sq_a_620.k c1.1 c1.2) ?_
  refine x_if (p := ¬ (m 620 (wr ((wr ((wr (279 * a2)) + (wr (31 * 0)))) + 0))) = 0) (tgt := 27) (cod_264 rfl) (by decide) xj_ne (fun h => ?_) (fun h => ?_)
  · have H3 := H2.2 h
    refine x_s (q := (.iconst 0, 0, 0, 0)) (cod_264 rfl) rfl rfl rfl ?_
    refine x_s (q := (.istore_n 3, 0, 0, 0)) (cod_264 rfl) rfl rfl rfl ?_
    exact H3
  · have H4 := H2.1 (Classical.not_not.mp h)
    refine x_s (q := (.iinc 2 1, 0, 0, 0)) (cod_264 rfl) rfl rfl rfl ?_
    refine x_go (tgt := 7) (cod_264 rfl) (by decide) ?_
    exact H4
set_option maxRecDepth 100000 in
theorem w264_29 {m : Mm} {K : Int → Mm → Prop} (a1 : Int) (a2 : Int) (a3 : Int) (ua4 : aV) 
  (H : (a3 < 279 → (a3 = 0 → (0 ≤ a3 ∧ a3 < 279) ∧ ∀ m11, m11 = umem m 623 a3 1 → X 264 29 [(1, 597), (0, a1), (0, a2), (0, wr (a3 + 1)), ua4] [] m11 (qI K)) ∧ (¬ a3 = 0 → (0 ≤ a3 ∧ a3 < 279) ∧ ∀ m7, m7 = umem m 623 a3 0 → X 264 29 [(1, 597), (0, a1), (0, a2), (0, wr (a3 + 1)), ua4] [] m7 (qI K))) ∧ (¬ a3 < 279 → X 264 59 [(1, 597), (0, a1), (0, a2), (0, 0), ua4] [] m (qI K))) : X 264 29 [(1, 597), (0, a1), (0, a2), (0, a3), ua4] [] m (qI K) := by
  refine x_s (q := (.iload_n 3, 0, 0, 0)) (cod_264 rfl) rfl rfl rfl ?_
  refine x_s (q := (.sipush 279, 0, 0, 0)) (cod_264 rfl) rfl rfl rfl ?_
  refine x_ic (p := ¬ a3 < 279) (tgt := 57) (cod_264 rfl) (by decide) xn_ge (fun h => ?_) (fun h => ?_)
  · have H1 := H.2 h
    refine x_s (q := (.iconst 0, 0, 0, 0)) (cod_264 rfl) rfl rfl rfl ?_
    refine x_s (q := (.istore_n 3, 0, 0, 0)) (cod_264 rfl) rfl rfl rfl ?_
    exact H1
  · have H2 := H.1 (Classical.not_not.mp h)
    refine x_s (q := (.aload_n 0, 0, 0, 0)) (cod_264 rfl) rfl rfl rfl ?_
    refine x_gc (kk := 48) (c := 623) (t := 1) (cod_264 rfl) sq_p_597 sq_l_597_48 rfl rfl ?_
    refine x_s (q := (.iload_n 3, 0, 0, 0)) (cod_264 rfl) rfl rfl rfl ?_
    refine x_s (q := (.iload_n 3, 0, 0, 0)) (cod_264 rfl) rfl rfl rfl ?_
    refine x_if (p := ¬ a3 = 0) (tgt := 49) (cod_264 rfl) (by decide) xj_ne (fun h => ?_) (fun h => ?_)
    · have H3 := H2.2 h
      refine x_s (q := (.iconst 0, 0, 0, 0)) (cod_264 rfl) rfl rfl rfl ?_
      obtain ⟨c5, H6⟩ := H3
      refine x_bast (cod_264 rfl) sq_a_623.s (sq_a_623.k c5.1 c5.2) (by decide) ?_
      have H8 := H6 _ rfl
      generalize umem m 623 a3 0 = m7 at H8 ⊢
      refine x_s (q := (.iinc 3 1, 0, 0, 0)) (cod_264 rfl) rfl rfl rfl ?_
      refine x_go (tgt := 29) (cod_264 rfl) (by decide) ?_
      exact H8
    · have H4 := H2.1 (Classical.not_not.mp h)
      refine x_s (q := (.iconst 1, 0, 0, 0)) (cod_264 rfl) rfl rfl rfl ?_
      refine x_go (tgt := 50) (cod_264 rfl) (by decide) ?_
      obtain ⟨c9, H10⟩ := H4
      refine x_bast (cod_264 rfl) sq_a_623.s (sq_a_623.k c9.1 c9.2) (by decide) ?_
      have H12 := H10 _ rfl
      generalize umem m 623 a3 1 = m11 at H12 ⊢
      refine x_s (q := (.iinc 3 1, 0, 0, 0)) (cod_264 rfl) rfl rfl rfl ?_
      refine x_go (tgt := 29) (cod_264 rfl) (by decide) ?_
      exact H12
set_option maxRecDepth 100000 in
theorem w264_59 {m : Mm} {K : Int → Mm → Prop} (a1 : Int) (a2 : Int) (a3 : Int) (ua4 : aV) 
  (H : (a3 < a2 → TrI 269 [(1, 597), (0, a1), (0, wr ((wr (a2 - 1)) - a3))] m fun v5 m3 => (0 ≤ a3 ∧ a3 < 8) ∧ ∀ m8, m8 = umem m3 622 a3 v5 → X 264 83 [(1, 597), (0, a1), (0, a2), (0, a3), (0, 0)] [] m8 (qI K)) ∧ (¬ a3 < a2 → K a2 m)) : X 264 59 [(1, 597), (0, a1), (0, a2), (0, a3), ua4] [] m (qI K) := by
  refine x_s (q := (.iload_n 3, 0, 0, 0)) (cod_264 rfl) rfl rfl rfl ?_
  refine x_s (q := (.iload_n 2, 0, 0, 0)) (cod_264 rfl) rfl rfl rfl ?_
  refine x_ic (p := ¬ a3 < a2) (tgt := 117) (cod_264 rfl) (by decide) xn_ge (fun h => ?_) (fun h => ?_)
  · have H1 := H.2 h
    refine x_s (q := (.iload_n 2, 0, 0, 0)) (cod_264 rfl) rfl rfl rfl ?_
    refine x_retI (t := .int) (cod_264 rfl) rfl rfl rfl ?_
    exact H1
  · have H2 := H.1 (Classical.not_not.mp h)
    refine x_s (q := (.aload_n 0, 0, 0, 0)) (cod_264 rfl) rfl rfl rfl ?_
    refine x_gc (kk := 47) (c := 622) (t := 1) (cod_264 rfl) sq_p_597 sq_l_597_47 rfl rfl ?_
    refine x_s (q := (.iload_n 3, 0, 0, 0)) (cod_264 rfl) rfl rfl rfl ?_
    refine x_s (q := (.aload_n 0, 0, 0, 0)) (cod_264 rfl) rfl rfl rfl ?_
    refine x_s (q := (.iload_n 1, 0, 0, 0)) (cod_264 rfl) rfl rfl rfl ?_
    refine x_s (q := (.iload_n 2, 0, 0, 0)) (cod_264 rfl) rfl rfl rfl ?_
    refine x_s (q := (.iconst 1, 0, 0, 0)) (cod_264 rfl) rfl rfl rfl ?_
    refine x_s (q := (.isub, 0, 0, 0)) (cod_264 rfl) rfl rfl rfl ?_
    refine x_s (q := (.iload_n 3, 0, 0, 0)) (cod_264 rfl) rfl rfl rfl ?_
    refine x_s (q := (.isub, 0, 0, 0)) (cod_264 rfl) rfl rfl rfl ?_
    refine x_call (as := [(1, 597), (0, a1), (0, wr ((wr (a2 - 1)) - a3))]) (rest := [(0, a3), (1, 622)]) (cod_264 rfl) rfl rfl (by decide) (by decide) rfl rfl (Nat.le_of_ble_eq_true rfl) (rcv0 sq_l_597_0 sq_p_597 (by decide)) (Nat.le_of_ble_eq_true rfl) ?_
    refine X.imp H2 ?_
    rintro _ m3 ⟨v5, rfl, H4⟩
    show X 264 79 [(1, 597), (0, a1), (0, a2), (0, a3), ua4] [(0, v5), (0, a3), (1, 622)] m3 _
    obtain ⟨c6, H7⟩ := H4
    refine x_iast (cod_264 rfl) sq_a_622.s (sq_a_622.k c6.1 c6.2) ?_
    have H9 := H7 _ rfl
    generalize umem m3 622 a3 v5 = m8 at H9 ⊢
    refine x_s (q := (.iconst 0, 0, 0, 0)) (cod_264 rfl) rfl rfl rfl ?_
    refine x_s (q := (.istore 4, 0, 0, 0)) (cod_264 rfl) rfl rfl rfl ?_
    exact H9
set_option maxRecDepth 100000 in
theorem w264_83 {m : Mm} {K : Int → Mm → Prop} (a1 : Int) (a2 : Int) (a3 : Int) (a4 : Int) 
  (H : (a4 < 279 → (0 ≤ a4 ∧ a4 < 279) ∧ (m 624 a4 = 0 ∨ m 624 a4 = 1) ∧ ∀ m7, m7 = umem m 623 a4 (m 624 a4) → X 264 83 [(1, 597), (0, a1), (0, a2), (0, a3), (0, wr (a4 + 1))] [] m7 (qI K)) ∧ (¬ a4 < 279 → X 264 59 [(1, 597), (0, a1), (0, a2), (0, wr (a3 + 1)), (0, a4)] [] m (qI K))) : X 264 83 [(1, 597), (0, a1), (0, a2), (0, a3), (0, a4)] [] m (qI K) := by
  refine x_s (q := (.iload 4, 0, 0, 0)) (cod_264 rfl) rfl rfl rfl ?_
  refine x_s (q := (.sipush 279, 0, 0, 0)) (cod_264 rfl) rfl rfl rfl ?_
  refine x_ic (p := ¬ a4 < 279) (tgt := 111) (cod_264 rfl) (by decide) xn_ge (fun h => ?_) (fun h => ?_)
  · have H1 := H.2 h
    refine x_s (q := (.iinc 3 1, 0, 0, 0)) (cod_264 rfl) rfl rfl rfl ?_
    refine x_go (tgt := 59) (cod_264 rfl) (by decide) ?_
    exact H1
  · have H2 := H.1 (Classical.not_not.mp h)
    refine x_s (q := (.aload_n 0, 0, 0, 0)) (cod_264 rfl) rfl rfl rfl ?_
    refine x_gc (kk := 48) (c := 623) (t := 1) (cod_264 rfl) sq_p_597 sq_l_597_48 rfl rfl ?_
    refine x_s (q := (.iload 4, 0, 0, 0)) (cod_264 rfl) rfl rfl rfl ?_
    refine x_s (q := (.aload_n 0, 0, 0, 0)) (cod_264 rfl) rfl rfl rfl ?_
    refine x_gc (kk := 49) (c := 624) (t := 1) (cod_264 rfl) sq_p_597 sq_l_597_49 rfl rfl ?_
    refine x_s (q := (.iload 4, 0, 0, 0)) (cod_264 rfl) rfl rfl rfl ?_
    obtain ⟨c3, H4⟩ := H2
    refine x_bald (cod_264 rfl) sq_a_624.s (sq_a_624.k c3.1 c3.2) ?_
    obtain ⟨c5, H6⟩ := H4
    refine x_bast (cod_264 rfl) sq_a_623.s (sq_a_623.k c3.1 c3.2) c5 ?_
    have H8 := H6 _ rfl
    generalize umem m 623 a4 (m 624 a4) = m7 at H8 ⊢
    refine x_s (q := (.iinc 4 1, 0, 0, 0)) (cod_264 rfl) rfl rfl rfl ?_
    refine x_go (tgt := 83) (cod_264 rfl) (by decide) ?_
    exact H8
set_option maxRecDepth 100000 in
theorem w265_0 {m : Mm} {K : Mm → Prop} (a1 : Int) 
  (H : X 265 2 [(1, 597), (0, a1), (0, 0), (9, 0), (9, 0)] [] m (qV K)) : X 265 0 [(1, 597), (0, a1), (9, 0), (9, 0), (9, 0)] [] m (qV K) := by
  refine x_s (q := (.iconst 0, 0, 0, 0)) (cod_265 rfl) rfl rfl rfl ?_
  refine x_s (q := (.istore_n 2, 0, 0, 0)) (cod_265 rfl) rfl rfl rfl ?_
  exact H
theorem e265 {m : Mm} {K : Mm → Prop} (a1 : Int) 
  (H : X 265 2 [(1, 597), (0, a1), (0, 0), (9, 0), (9, 0)] [] m (qV K)) : TrV 265 [(1, 597), (0, a1)] m K := by
  exact w265_0 a1 H
set_option maxRecDepth 100000 in
theorem w265_2 {m : Mm} {K : Mm → Prop} (a1 : Int) (a2 : Int) (ua3 : aV) (ua4 : aV) 
  (H : (a2 < 9 → X 265 10 [(1, 597), (0, a1), (0, a2), (0, 0), ua4] [] m (qV K)) ∧ (¬ a2 < 9 → K m)) : X 265 2 [(1, 597), (0, a1), (0, a2), ua3, ua4] [] m (qV K) := by
  refine x_s (q := (.iload_n 2, 0, 0, 0)) (cod_265 rfl) rfl rfl rfl ?_
  refine x_s (q := (.bipush 9, 0, 0, 0)) (cod_265 rfl) rfl rfl rfl ?_
  refine x_ic (p := ¬ a2 < 9) (tgt := 75) (cod_265 rfl) (by decide) xn_ge (fun h => ?_) (fun h => ?_)
  · have H1 := H.2 h
    refine x_retV (cod_265 rfl) rfl ?_
    exact H1
  · have H2 := H.1 (Classical.not_not.mp h)
    refine x_s (q := (.iconst 0, 0, 0, 0)) (cod_265 rfl) rfl rfl rfl ?_
    refine x_s (q := (.istore_n 3, 0, 0, 0)) (cod_265 rfl) rfl rfl rfl ?_
    exact H2
set_option maxRecDepth 100000 in
theorem w265_10 {m : Mm} {K : Mm → Prop} (a1 : Int) (a2 : Int) (a3 : Int) (ua4 : aV) 
  (H : (m 597 16 = 0 ∧ 0 ≤ (wr (264 + (wr (11 * a1)))) ∧ (wr (264 + (wr (11 * a1)))) < 1166) ∧ (a3 > (m 602 (wr (264 + (wr (11 * a1))))) → X 265 2 [(1, 597), (0, a1), (0, wr (a2 + 1)), (0, a3), ua4] [] m (qV K)) ∧ (¬ a3 > (m 602 (wr (264 + (wr (11 * a1))))) → X 265 29 [(1, 597), (0, a1), (0, a2), (0, a3), (0, 0)] [] m (qV K))) : X 265 10 [(1, 597), (0, a1), (0, a2), (0, a3), ua4] [] m (qV K) := by
  refine x_s (q := (.iload_n 3, 0, 0, 0)) (cod_265 rfl) rfl rfl rfl ?_
  refine x_s (q := (.aload_n 0, 0, 0, 0)) (cod_265 rfl) rfl rfl rfl ?_
  refine x_s (q := (.sipush 264, 0, 0, 0)) (cod_265 rfl) rfl rfl rfl ?_
  refine x_s (q := (.bipush 11, 0, 0, 0)) (cod_265 rfl) rfl rfl rfl ?_
  refine x_s (q := (.iload_n 1, 0, 0, 0)) (cod_265 rfl) rfl rfl rfl ?_
  refine x_s (q := (.imul, 0, 0, 0)) (cod_265 rfl) rfl rfl rfl ?_
  refine x_s (q := (.iadd, 0, 0, 0)) (cod_265 rfl) rfl rfl rfl ?_
  obtain ⟨c1, H2⟩ := H
  refine x_call (as := [(1, 597), (0, wr (264 + (wr (11 * a1))))]) (rest := [(0, a3)]) (cod_265 rfl) rfl rfl (by decide) (by decide) rfl rfl (Nat.le_of_ble_eq_true rfl) (rcv0 sq_l_597_0 sq_p_597 (by decide)) (Nat.le_of_ble_eq_true rfl) ?_
  refine x_pure (p182ax c1) ?_
  show X 265 23 [(1, 597), (0, a1), (0, a2), (0, a3), ua4] [(0, m 602 (wr (264 + (wr (11 * a1))))), (0, a3)] m _
  refine x_ic (p := a3 > (m 602 (wr (264 + (wr (11 * a1)))))) (tgt := 69) (cod_265 rfl) (by decide) xj_gt (fun h => ?_) (fun h => ?_)
  · have H3 := H2.1 h
    refine x_s (q := (.iinc 2 1, 0, 0, 0)) (cod_265 rfl) rfl rfl rfl ?_
    refine x_go (tgt := 2) (cod_265 rfl) (by decide) ?_
    exact H3
  · have H4 := H2.2 h
    refine x_s (q := (.iconst 0, 0, 0, 0)) (cod_265 rfl) rfl rfl rfl ?_
    refine x_s (q := (.istore 4, 0, 0, 0)) (cod_265 rfl) rfl rfl rfl ?_
    exact H4
set_option maxRecDepth 100000 in
theorem w265_29 {m : Mm} {K : Mm → Prop} (a1 : Int) (a2 : Int) (a3 : Int) (a4 : Int) 
  (H : (a4 < 31 → TrI 267 [(1, 597), (0, a1), (0, a2), (0, a3), (0, a4)] m fun v5 m3 => (0 ≤ (wr ((wr ((wr (279 * a2)) + (wr (31 * a3)))) + a4)) ∧ (wr ((wr ((wr (279 * a2)) + (wr (31 * a3)))) + a4)) < 2511) ∧ (v5 = 0 ∨ v5 = 1) ∧ ∀ m10, m10 = umem m3 620 (wr ((wr ((wr (279 * a2)) + (wr (31 * a3)))) + a4)) v5 → X 265 29 [(1, 597), (0, a1), (0, a2), (0, a3), (0, wr (a4 + 1))] [] m10 (qV K)) ∧ (¬ a4 < 31 → X 265 10 [(1, 597), (0, a1), (0, a2), (0, wr (a3 + 1)), (0, a4)] [] m (qV K))) : X 265 29 [(1, 597), (0, a1), (0, a2), (0, a3), (0, a4)] [] m (qV K) := by
  refine x_s (q := (.iload 4, 0, 0, 0)) (cod_265 rfl) rfl rfl rfl ?_
  refine x_s (q := (.bipush 31, 0, 0, 0)) (cod_265 rfl) rfl rfl rfl ?_
  refine x_ic (p := ¬ a4 < 31) (tgt := 63) (cod_265 rfl) (by decide) xn_ge (fun h => ?_) (fun h => ?_)
  · have H1 := H.2 h
    refine x_s (q := (.iinc 3 1, 0, 0, 0)) (cod_265 rfl) rfl rfl rfl ?_
    refine x_go (tgt := 10) (cod_265 rfl) (by decide) ?_
    exact H1
  · have H2 := H.1 (Classical.not_not.mp h)
    refine x_s (q := (.aload_n 0, 0, 0, 0)) (cod_265 rfl) rfl rfl rfl ?_
    refine x_gc (kk := 45) (c := 620) (t := 1) (cod_265 rfl) sq_p_597 sq_l_597_45 rfl rfl ?_
    refine x_s (q := (.iload_n 2, 0, 0, 0)) (cod_265 rfl) rfl rfl rfl ?_
    refine x_s (q := (.iload_n 3, 0, 0, 0)) (cod_265 rfl) rfl rfl rfl ?_
    refine x_s (q := (.iload 4, 0, 0, 0)) (cod_265 rfl) rfl rfl rfl ?_
    refine x_call (as := [(0, a2), (0, a3), (0, a4)]) (rest := [(1, 620)]) (cod_265 rfl) rfl rfl (by decide) (by decide) rfl rfl (Nat.le_of_ble_eq_true rfl) rfl (Nat.le_of_ble_eq_true rfl) ?_
    show X 266 0 [(0, a2), (0, a3), (0, a4)] [] m _
    refine x_s (q := (.sipush 279, 0, 0, 0)) (cod_266 rfl) rfl rfl rfl ?_
    refine x_s (q := (.iload_n 0, 0, 0, 0)) (cod_266 rfl) rfl rfl rfl ?_
    refine x_s (q := (.imul, 0, 0, 0)) (cod_266 rfl) rfl rfl rfl ?_
    refine x_s (q := (.bipush 31, 0, 0, 0)) (cod_266 rfl) rfl rfl rfl ?_
    refine x_s (q := (.iload_n 1, 0, 0, 0)) (cod_266 rfl) rfl rfl rfl ?_
    refine x_s (q := (.imul, 0, 0, 0)) (cod_266 rfl) rfl rfl rfl ?_
    refine x_s (q := (.iadd, 0, 0, 0)) (cod_266 rfl) rfl rfl rfl ?_
    refine x_s (q := (.iload_n 2, 0, 0, 0)) (cod_266 rfl) rfl rfl rfl ?_
    refine x_s (q := (.iadd, 0, 0, 0)) (cod_266 rfl) rfl rfl rfl ?_
    refine x_rI (t := .int) (cod_266 rfl) rfl rfl rfl ?_
    show X 265 47 [(1, 597), (0, a1), (0, a2), (0, a3), (0, a4)] [(0, wr ((wr ((wr (279 * a2)) + (wr (31 * a3)))) + a4)), (1, 620)] m _
    refine x_s (q := (.aload_n 0, 0, 0, 0)) (cod_265 rfl) rfl rfl rfl ?_
    refine x_s (q := (.iload_n 1, 0, 0, 0)) (cod_265 rfl) rfl rfl rfl ?_
    refine x_s (q := (.iload_n 2, 0, 0, 0)) (cod_265 rfl) rfl rfl rfl ?_
    refine x_s (q := (.iload_n 3, 0, 0, 0)) (cod_265 rfl) rfl rfl rfl ?_
    refine x_s (q := (.iload 4, 0, 0, 0)) (cod_265 rfl) rfl rfl rfl ?_
    refine x_call (as := [(1, 597), (0, a1), (0, a2), (0, a3), (0, a4)]) (rest := [(0, wr ((wr ((wr (279 * a2)) + (wr (31 * a3)))) + a4)), (1, 620)]) (cod_265 rfl) rfl rfl (by decide) (by decide) rfl rfl (Nat.le_of_ble_eq_true rfl) (rcv0 sq_l_597_0 sq_p_597 (by decide)) (Nat.le_of_ble_eq_true rfl) ?_
    refine X.imp H2 ?_
    rintro _ m3 ⟨v5, rfl, H4⟩
    show X 265 56 [(1, 597), (0, a1), (0, a2), (0, a3), (0, a4)] [(0, v5), (0, wr ((wr ((wr (279 * a2)) + (wr (31 * a3)))) + a4)), (1, 620)] m3 _
    obtain ⟨c6, H7⟩ := H4
    obtain ⟨c8, H9⟩ := H7
    refine x_bast (cod_265 rfl) sq_a_620.s (sq_a_620.k c6.1 c6.2) c8 ?_
    have H11 := H9 _ rfl
    generalize umem m3 620 (wr ((wr ((wr (279 * a2)) + (wr (31 * a3)))) + a4)) v5 = m10 at H11 ⊢
    refine x_s (q := (.iinc 4 1, 0, 0, 0)) (cod_265 rfl) rfl rfl rfl ?_
    refine x_go (tgt := 29) (cod_265 rfl) (by decide) ?_
    exact H11
set_option maxRecDepth 100000 in
theorem w267_0 {m : Mm} {K : Int → Mm → Prop} (a1 : Int) (a2 : Int) (a3 : Int) (a4 : Int) 
  (H : (m 597 16 = 0 ∧ 0 ≤ (wr (264 + (wr (11 * a1)))) ∧ (wr (264 + (wr (11 * a1)))) < 1166) ∧ (a2 = 0 → (a3 = (m 602 (wr (264 + (wr (11 * a1))))) → (-1000 < a4 ∧ a4 < 1000) ∧ ((letB a4 (-1) = true) → K 1 m) ∧ (¬ (letB a4 (-1) = true) → K 0 m)) ∧ (¬ a3 = (m 602 (wr (264 + (wr (11 * a1))))) → K 0 m)) ∧ (¬ a2 = 0 → (a3 < (m 602 (wr (264 + (wr (11 * a1))))) → (m 597 16 = 0 ∧ 0 ≤ (wr ((wr ((wr (264 + (wr (11 * a1)))) + 3)) + a3)) ∧ (wr ((wr ((wr (264 + (wr (11 * a1)))) + 3)) + a3)) < 1166) ∧ (-1000 < a4 ∧ a4 < 1000) ∧ ((letB a4 (m 602 (wr ((wr ((wr (264 + (wr (11 * a1)))) + 3)) + a3))) = true) → (0 ≤ (wr ((wr ((wr (279 * (wr (a2 - 1)))) + (wr (31 * (wr (a3 + 1)))))) + 0)) ∧ (wr ((wr ((wr (279 * (wr (a2 - 1)))) + (wr (31 * (wr (a3 + 1)))))) + 0)) < 2511) ∧ ((m 620 (wr ((wr ((wr (279 * (wr (a2 - 1)))) + (wr (31 * (wr (a3 + 1)))))) + 0))) = 0 → (-1000 < a4 ∧ a4 < 1000) ∧ ((letB a4 32 = true) → X 267 94 [(1, 597), (0, a1), (0, a2), (0, a3), (0, a4), (0, m 602 (wr (264 + (wr (11 * a1))))), (0, 0)] [] m (qI K)) ∧ (¬ (letB a4 32 = true) → K 0 m)) ∧ (¬ (m 620 (wr ((wr ((wr (279 * (wr (a2 - 1)))) + (wr (31 * (wr (a3 + 1)))))) + 0))) = 0 → K 1 m)) ∧ (¬ (letB a4 (m 602 (wr ((wr ((wr (264 + (wr (11 * a1)))) + 3)) + a3))) = true) → (-1000 < a4 ∧ a4 < 1000) ∧ ((letB a4 32 = true) → X 267 94 [(1, 597), (0, a1), (0, a2), (0, a3), (0, a4), (0, m 602 (wr (264 + (wr (11 * a1))))), (0, 0)] [] m (qI K)) ∧ (¬ (letB a4 32 = true) → K 0 m))) ∧ (¬ a3 < (m 602 (wr (264 + (wr (11 * a1))))) → (-1000 < a4 ∧ a4 < 1000) ∧ ((letB a4 32 = true) → X 267 94 [(1, 597), (0, a1), (0, a2), (0, a3), (0, a4), (0, m 602 (wr (264 + (wr (11 * a1))))), (0, 0)] [] m (qI K)) ∧ (¬ (letB a4 32 = true) → K 0 m)))) : X 267 0 [(1, 597), (0, a1), (0, a2), (0, a3), (0, a4), (9, 0), (9, 0)] [] m (qI K) := by
  refine x_s (q := (.aload_n 0, 0, 0, 0)) (cod_267 rfl) rfl rfl rfl ?_
  refine x_s (q := (.sipush 264, 0, 0, 0)) (cod_267 rfl) rfl rfl rfl ?_
  refine x_s (q := (.bipush 11, 0, 0, 0)) (cod_267 rfl) rfl rfl rfl ?_
  refine x_s (q := (.iload_n 1, 0, 0, 0)) (cod_267 rfl) rfl rfl rfl ?_
  refine x_s (q := (.imul, 0, 0, 0)) (cod_267 rfl) rfl rfl rfl ?_
  refine x_s (q := (.iadd, 0, 0, 0)) (cod_267 rfl) rfl rfl rfl ?_
  obtain ⟨c1, H2⟩ := H
  refine x_call (as := [(1, 597), (0, wr (264 + (wr (11 * a1))))]) (rest := []) (cod_267 rfl) rfl rfl (by decide) (by decide) rfl rfl (Nat.le_of_ble_eq_true rfl) (rcv0 sq_l_597_0 sq_p_597 (by decide)) (Nat.le_of_ble_eq_true rfl) ?_
  refine x_pure (p182ax c1) ?_
  show X 267 12 [(1, 597), (0, a1), (0, a2), (0, a3), (0, a4), (9, 0), (9, 0)] [(0, m 602 (wr (264 + (wr (11 * a1)))))] m _
  refine x_s (q := (.istore 5, 0, 0, 0)) (cod_267 rfl) rfl rfl rfl ?_
  refine x_s (q := (.iload_n 2, 0, 0, 0)) (cod_267 rfl) rfl rfl rfl ?_
  refine x_if (p := ¬ a2 = 0) (tgt := 39) (cod_267 rfl) (by decide) xj_ne (fun h => ?_) (fun h => ?_)
  · have H3 := H2.2 h
    refine x_s (q := (.iload_n 3, 0, 0, 0)) (cod_267 rfl) rfl rfl rfl ?_
    refine x_s (q := (.iload 5, 0, 0, 0)) (cod_267 rfl) rfl rfl rfl ?_
    refine x_ic (p := ¬ a3 < (m 602 (wr (264 + (wr (11 * a1)))))) (tgt := 79) (cod_267 rfl) (by decide) xn_ge (fun h => ?_) (fun h => ?_)
    · have H5 := H3.2 h
      refine x_s (q := (.iload 4, 0, 0, 0)) (cod_267 rfl) rfl rfl rfl ?_
      refine x_s (q := (.bipush 32, 0, 0, 0)) (cod_267 rfl) rfl rfl rfl ?_
      obtain ⟨c7, H8⟩ := H5
      refine x_call (as := [(0, a4), (0, 32)]) (rest := []) (cod_267 rfl) rfl rfl (by decide) (by decide) rfl rfl (Nat.le_of_ble_eq_true rfl) rfl (Nat.le_of_ble_eq_true rfl) ?_
      refine x_pure (p219 c7) ?_
      show X 267 86 [(1, 597), (0, a1), (0, a2), (0, a3), (0, a4), (0, m 602 (wr (264 + (wr (11 * a1))))), (9, 0)] [(0, bi (letB a4 32 = true))] m _
      refine x_if (p := letB a4 32 = true) (tgt := 91) (cod_267 rfl) (by decide) xb_ne (fun h => ?_) (fun h => ?_)
      · have H9 := H8.1 h
        refine x_s (q := (.iconst 0, 0, 0, 0)) (cod_267 rfl) rfl rfl rfl ?_
        refine x_s (q := (.istore 6, 0, 0, 0)) (cod_267 rfl) rfl rfl rfl ?_
        exact H9
      · have H10 := H8.2 h
        refine x_s (q := (.iconst 0, 0, 0, 0)) (cod_267 rfl) rfl rfl rfl ?_
        refine x_retI (t := .boolean) (cod_267 rfl) rfl rfl rfl ?_
        exact H10
    · have H6 := H3.1 (Classical.not_not.mp h)
      refine x_s (q := (.iload 4, 0, 0, 0)) (cod_267 rfl) rfl rfl rfl ?_
      refine x_s (q := (.aload_n 0, 0, 0, 0)) (cod_267 rfl) rfl rfl rfl ?_
      refine x_s (q := (.iload_n 1, 0, 0, 0)) (cod_267 rfl) rfl rfl rfl ?_
      refine x_s (q := (.iload_n 3, 0, 0, 0)) (cod_267 rfl) rfl rfl rfl ?_
      refine x_call (as := [(1, 597), (0, a1), (0, a3)]) (rest := [(0, a4)]) (cod_267 rfl) rfl rfl (by decide) (by decide) rfl rfl (Nat.le_of_ble_eq_true rfl) (rcv0 sq_l_597_0 sq_p_597 (by decide)) (Nat.le_of_ble_eq_true rfl) ?_
      show X 208 0 [(1, 597), (0, a1), (0, a3)] [] m _
      refine x_s (q := (.aload_n 0, 0, 0, 0)) (cod_208 rfl) rfl rfl rfl ?_
      refine x_s (q := (.sipush 264, 0, 0, 0)) (cod_208 rfl) rfl rfl rfl ?_
      refine x_s (q := (.bipush 11, 0, 0, 0)) (cod_208 rfl) rfl rfl rfl ?_
      refine x_s (q := (.iload_n 1, 0, 0, 0)) (cod_208 rfl) rfl rfl rfl ?_
      refine x_s (q := (.imul, 0, 0, 0)) (cod_208 rfl) rfl rfl rfl ?_
      refine x_s (q := (.iadd, 0, 0, 0)) (cod_208 rfl) rfl rfl rfl ?_
      refine x_s (q := (.iconst 3, 0, 0, 0)) (cod_208 rfl) rfl rfl rfl ?_
      refine x_s (q := (.iadd, 0, 0, 0)) (cod_208 rfl) rfl rfl rfl ?_
      refine x_s (q := (.iload_n 2, 0, 0, 0)) (cod_208 rfl) rfl rfl rfl ?_
      refine x_s (q := (.iadd, 0, 0, 0)) (cod_208 rfl) rfl rfl rfl ?_
      obtain ⟨c11, H12⟩ := H6
      refine x_call (as := [(1, 597), (0, wr ((wr ((wr (264 + (wr (11 * a1)))) + 3)) + a3))]) (rest := []) (cod_208 rfl) rfl rfl (by decide) (by decide) rfl rfl (Nat.le_of_ble_eq_true rfl) (rcv0 sq_l_597_0 sq_p_597 (by decide)) (Nat.le_of_ble_eq_true rfl) ?_
      refine x_pure (p182ax c11) ?_
      show X 208 16 [(1, 597), (0, a1), (0, a3)] [(0, m 602 (wr ((wr ((wr (264 + (wr (11 * a1)))) + 3)) + a3)))] m _
      refine x_rI (t := .int) (cod_208 rfl) rfl rfl rfl ?_
      show X 267 53 [(1, 597), (0, a1), (0, a2), (0, a3), (0, a4), (0, m 602 (wr (264 + (wr (11 * a1))))), (9, 0)] [(0, m 602 (wr ((wr ((wr (264 + (wr (11 * a1)))) + 3)) + a3))), (0, a4)] m _
      obtain ⟨c13, H14⟩ := H12
      refine x_call (as := [(0, a4), (0, m 602 (wr ((wr ((wr (264 + (wr (11 * a1)))) + 3)) + a3)))]) (rest := []) (cod_267 rfl) rfl rfl (by decide) (by decide) rfl rfl (Nat.le_of_ble_eq_true rfl) rfl (Nat.le_of_ble_eq_true rfl) ?_
      refine x_pure (p219 c13) ?_
      show X 267 56 [(1, 597), (0, a1), (0, a2), (0, a3), (0, a4), (0, m 602 (wr (264 + (wr (11 * a1))))), (9, 0)] [(0, bi (letB a4 (m 602 (wr ((wr ((wr (264 + (wr (11 * a1)))) + 3)) + a3))) = true))] m _
      refine x_if (p := ¬ (letB a4 (m 602 (wr ((wr ((wr (264 + (wr (11 * a1)))) + 3)) + a3))) = true)) (tgt := 79) (cod_267 rfl) (by decide) xb_eq (fun h => ?_) (fun h => ?_)
      · have H15 := H14.2 h
        refine x_s (q := (.iload 4, 0, 0, 0)) (cod_267 rfl) rfl rfl rfl ?_
        refine x_s (q := (.bipush 32, 0, 0, 0)) (cod_267 rfl) rfl rfl rfl ?_
        obtain ⟨c17, H18⟩ := H15
        refine x_call (as := [(0, a4), (0, 32)]) (rest := []) (cod_267 rfl) rfl rfl (by decide) (by decide) rfl rfl (Nat.le_of_ble_eq_true rfl) rfl (Nat.le_of_ble_eq_true rfl) ?_
        refine x_pure (p219 c17) ?_
        show X 267 86 [(1, 597), (0, a1), (0, a2), (0, a3), (0, a4), (0, m 602 (wr (264 + (wr (11 * a1))))), (9, 0)] [(0, bi (letB a4 32 = true))] m _
        refine x_if (p := letB a4 32 = true) (tgt := 91) (cod_267 rfl) (by decide) xb_ne (fun h => ?_) (fun h => ?_)
        · have H19 := H18.1 h
          refine x_s (q := (.iconst 0, 0, 0, 0)) (cod_267 rfl) rfl rfl rfl ?_
          refine x_s (q := (.istore 6, 0, 0, 0)) (cod_267 rfl) rfl rfl rfl ?_
          exact H19
        · have H20 := H18.2 h
          refine x_s (q := (.iconst 0, 0, 0, 0)) (cod_267 rfl) rfl rfl rfl ?_
          refine x_retI (t := .boolean) (cod_267 rfl) rfl rfl rfl ?_
          exact H20
      · have H16 := H14.1 (Classical.not_not.mp h)
        refine x_s (q := (.aload_n 0, 0, 0, 0)) (cod_267 rfl) rfl rfl rfl ?_
        refine x_gc (kk := 45) (c := 620) (t := 1) (cod_267 rfl) sq_p_597 sq_l_597_45 rfl rfl ?_
        refine x_s (q := (.iload_n 2, 0, 0, 0)) (cod_267 rfl) rfl rfl rfl ?_
        refine x_s (q := (.iconst 1, 0, 0, 0)) (cod_267 rfl) rfl rfl rfl ?_
        refine x_s (q := (.isub, 0, 0, 0)) (cod_267 rfl) rfl rfl rfl ?_
        refine x_s (q := (.iload_n 3, 0, 0, 0)) (cod_267 rfl) rfl rfl rfl ?_
        refine x_s (q := (.iconst 1, 0, 0, 0)) (cod_267 rfl) rfl rfl rfl ?_
        refine x_s (q := (.iadd, 0, 0, 0)) (cod_267 rfl) rfl rfl rfl ?_
        refine x_s (q := (.iconst 0, 0, 0, 0)) (cod_267 rfl) rfl rfl rfl ?_
        refine x_call (as := [(0, wr (a2 - 1)), (0, wr (a3 + 1)), (0, 0)]) (rest := [(1, 620)]) (cod_267 rfl) rfl rfl (by decide) (by decide) rfl rfl (Nat.le_of_ble_eq_true rfl) rfl (Nat.le_of_ble_eq_true rfl) ?_
        show X 266 0 [(0, wr (a2 - 1)), (0, wr (a3 + 1)), (0, 0)] [] m _
        refine x_s (q := (.sipush 279, 0, 0, 0)) (cod_266 rfl) rfl rfl rfl ?_
        refine x_s (q := (.iload_n 0, 0, 0, 0)) (cod_266 rfl) rfl rfl rfl ?_
        refine x_s (q := (.imul, 0, 0, 0)) (cod_266 rfl) rfl rfl rfl ?_
        refine x_s (q := (.bipush 31, 0, 0, 0)) (cod_266 rfl) rfl rfl rfl ?_
        refine x_s (q := (.iload_n 1, 0, 0, 0)) (cod_266 rfl) rfl rfl rfl ?_
        refine x_s (q := (.imul, 0, 0, 0)) (cod_266 rfl) rfl rfl rfl ?_
        refine x_s (q := (.iadd, 0, 0, 0)) (cod_266 rfl) rfl rfl rfl ?_
        refine x_s (q := (.iload_n 2, 0, 0, 0)) (cod_266 rfl) rfl rfl rfl ?_
        refine x_s (q := (.iadd, 0, 0, 0)) (cod_266 rfl) rfl rfl rfl ?_
        refine x_rI (t := .int) (cod_266 rfl) rfl rfl rfl ?_
        show X 267 73 [(1, 597), (0, a1), (0, a2), (0, a3), (0, a4), (0, m 602 (wr (264 + (wr (11 * a1))))), (9, 0)] [(0, wr ((wr ((wr (279 * (wr (a2 - 1)))) + (wr (31 * (wr (a3 + 1)))))) + 0)), (1, 620)] m _
        obtain ⟨c21, H22⟩ := H16
        refine x_bald (cod_267 rfl) sq_a_620.s (sq_a_620.k c21.1 c21.2) ?_
        refine x_if (p := (m 620 (wr ((wr ((wr (279 * (wr (a2 - 1)))) + (wr (31 * (wr (a3 + 1)))))) + 0))) = 0) (tgt := 79) (cod_267 rfl) (by decide) xj_eq (fun h => ?_) (fun h => ?_)
        · have H23 := H22.1 h
          refine x_s (q := (.iload 4, 0, 0, 0)) (cod_267 rfl) rfl rfl rfl ?_
          refine x_s (q := (.bipush 32, 0, 0, 0)) (cod_267 rfl) rfl rfl rfl ?_
          obtain ⟨c25, H26⟩ := H23
          refine x_call (as := [(0, a4), (0, 32)]) (rest := []) (cod_267 rfl) rfl rfl (by decide) (by decide) rfl rfl (Nat.le_of_ble_eq_true rfl) rfl (Nat.le_of_ble_eq_true rfl) ?_
          refine x_pure (p219 c25) ?_
          show X 267 86 [(1, 597), (0, a1), (0, a2), (0, a3), (0, a4), (0, m 602 (wr (264 + (wr (11 * a1))))), (9, 0)] [(0, bi (letB a4 32 = true))] m _
          refine x_if (p := letB a4 32 = true) (tgt := 91) (cod_267 rfl) (by decide) xb_ne (fun h => ?_) (fun h => ?_)
          · have H27 := H26.1 h
            refine x_s (q := (.iconst 0, 0, 0, 0)) (cod_267 rfl) rfl rfl rfl ?_
            refine x_s (q := (.istore 6, 0, 0, 0)) (cod_267 rfl) rfl rfl rfl ?_
            exact H27
          · have H28 := H26.2 h
            refine x_s (q := (.iconst 0, 0, 0, 0)) (cod_267 rfl) rfl rfl rfl ?_
            refine x_retI (t := .boolean) (cod_267 rfl) rfl rfl rfl ?_
            exact H28
        · have H24 := H22.2 h
          refine x_s (q := (.iconst 1, 0, 0, 0)) (cod_267 rfl) rfl rfl rfl ?_
          refine x_retI (t := .boolean) (cod_267 rfl) rfl rfl rfl ?_
          exact H24
  · have H4 := H2.1 (Classical.not_not.mp h)
    refine x_s (q := (.iload_n 3, 0, 0, 0)) (cod_267 rfl) rfl rfl rfl ?_
    refine x_s (q := (.iload 5, 0, 0, 0)) (cod_267 rfl) rfl rfl rfl ?_
    refine x_ic (p := ¬ a3 = (m 602 (wr (264 + (wr (11 * a1)))))) (tgt := 37) (cod_267 rfl) (by decide) xj_ne (fun h => ?_) (fun h => ?_)
    · have H29 := H4.2 h
      refine x_s (q := (.iconst 0, 0, 0, 0)) (cod_267 rfl) rfl rfl rfl ?_
      refine x_retI (t := .boolean) (cod_267 rfl) rfl rfl rfl ?_
      exact H29
    · have H30 := H4.1 (Classical.not_not.mp h)
      refine x_s (q := (.iload 4, 0, 0, 0)) (cod_267 rfl) rfl rfl rfl ?_
      refine x_s (q := (.iconst (-1), 0, 0, 0)) (cod_267 rfl) rfl rfl rfl ?_
      obtain ⟨c31, H32⟩ := H30
      refine x_call (as := [(0, a4), (0, (-1))]) (rest := []) (cod_267 rfl) rfl rfl (by decide) (by decide) rfl rfl (Nat.le_of_ble_eq_true rfl) rfl (Nat.le_of_ble_eq_true rfl) ?_
      refine x_pure (p219 c31) ?_
      show X 267 30 [(1, 597), (0, a1), (0, a2), (0, a3), (0, a4), (0, m 602 (wr (264 + (wr (11 * a1))))), (9, 0)] [(0, bi (letB a4 (-1) = true))] m _
      refine x_if (p := ¬ (letB a4 (-1) = true)) (tgt := 37) (cod_267 rfl) (by decide) xb_eq (fun h => ?_) (fun h => ?_)
      · have H33 := H32.2 h
        refine x_s (q := (.iconst 0, 0, 0, 0)) (cod_267 rfl) rfl rfl rfl ?_
        refine x_retI (t := .boolean) (cod_267 rfl) rfl rfl rfl ?_
        exact H33
      · have H34 := H32.1 (Classical.not_not.mp h)
        refine x_s (q := (.iconst 1, 0, 0, 0)) (cod_267 rfl) rfl rfl rfl ?_
        refine x_go (tgt := 38) (cod_267 rfl) (by decide) ?_
        refine x_retI (t := .boolean) (cod_267 rfl) rfl rfl rfl ?_
        exact H34
theorem e267 {m : Mm} {K : Int → Mm → Prop} (a1 : Int) (a2 : Int) (a3 : Int) (a4 : Int) 
  (H : (m 597 16 = 0 ∧ 0 ≤ (wr (264 + (wr (11 * a1)))) ∧ (wr (264 + (wr (11 * a1)))) < 1166) ∧ (a2 = 0 → (a3 = (m 602 (wr (264 + (wr (11 * a1))))) → (-1000 < a4 ∧ a4 < 1000) ∧ ((letB a4 (-1) = true) → K 1 m) ∧ (¬ (letB a4 (-1) = true) → K 0 m)) ∧ (¬ a3 = (m 602 (wr (264 + (wr (11 * a1))))) → K 0 m)) ∧ (¬ a2 = 0 → (a3 < (m 602 (wr (264 + (wr (11 * a1))))) → (m 597 16 = 0 ∧ 0 ≤ (wr ((wr ((wr (264 + (wr (11 * a1)))) + 3)) + a3)) ∧ (wr ((wr ((wr (264 + (wr (11 * a1)))) + 3)) + a3)) < 1166) ∧ (-1000 < a4 ∧ a4 < 1000) ∧ ((letB a4 (m 602 (wr ((wr ((wr (264 + (wr (11 * a1)))) + 3)) + a3))) = true) → (0 ≤ (wr ((wr ((wr (279 * (wr (a2 - 1)))) + (wr (31 * (wr (a3 + 1)))))) + 0)) ∧ (wr ((wr ((wr (279 * (wr (a2 - 1)))) + (wr (31 * (wr (a3 + 1)))))) + 0)) < 2511) ∧ ((m 620 (wr ((wr ((wr (279 * (wr (a2 - 1)))) + (wr (31 * (wr (a3 + 1)))))) + 0))) = 0 → (-1000 < a4 ∧ a4 < 1000) ∧ ((letB a4 32 = true) → X 267 94 [(1, 597), (0, a1), (0, a2), (0, a3), (0, a4), (0, m 602 (wr (264 + (wr (11 * a1))))), (0, 0)] [] m (qI K)) ∧ (¬ (letB a4 32 = true) → K 0 m)) ∧ (¬ (m 620 (wr ((wr ((wr (279 * (wr (a2 - 1)))) + (wr (31 * (wr (a3 + 1)))))) + 0))) = 0 → K 1 m)) ∧ (¬ (letB a4 (m 602 (wr ((wr ((wr (264 + (wr (11 * a1)))) + 3)) + a3))) = true) → (-1000 < a4 ∧ a4 < 1000) ∧ ((letB a4 32 = true) → X 267 94 [(1, 597), (0, a1), (0, a2), (0, a3), (0, a4), (0, m 602 (wr (264 + (wr (11 * a1))))), (0, 0)] [] m (qI K)) ∧ (¬ (letB a4 32 = true) → K 0 m))) ∧ (¬ a3 < (m 602 (wr (264 + (wr (11 * a1))))) → (-1000 < a4 ∧ a4 < 1000) ∧ ((letB a4 32 = true) → X 267 94 [(1, 597), (0, a1), (0, a2), (0, a3), (0, a4), (0, m 602 (wr (264 + (wr (11 * a1))))), (0, 0)] [] m (qI K)) ∧ (¬ (letB a4 32 = true) → K 0 m)))) : TrI 267 [(1, 597), (0, a1), (0, a2), (0, a3), (0, a4)] m K := by
  exact w267_0 a1 a2 a3 a4 H
set_option maxRecDepth 100000 in
theorem w267_94 {m : Mm} {K : Int → Mm → Prop} (a1 : Int) (a2 : Int) (a3 : Int) (ua4 : aV) (ua5 : aV) (a6 : Int) (hua5 : ua5.1 ≠ 2)
  (H : m 597 16 = 0 ∧ (a6 < (m 602 578) → TrI 268 [(1, 597), (0, a6), (0, a1), (0, a3)] m fun v7 m5 => (v7 = 0 → X 267 94 [(1, 597), (0, a1), (0, a2), (0, a3), ua4, ua5, (0, wr (a6 + 1))] [] m5 (qI K)) ∧ (¬ v7 = 0 → v_B m5 a6 a1 a3 ∧ (m5 597 16 = 0 ∧ 0 ≤ (wr ((wr (11 * a6)) + 3)) ∧ (wr ((wr (11 * a6)) + 3)) < 1166) ∧ (0 ≤ (wr ((wr ((wr (279 * (wr (a2 - 1)))) + (wr (31 * (bhd m5 a6 a1 a3))))) + (m5 602 (wr ((wr (11 * a6)) + 3))))) ∧ (wr ((wr ((wr (279 * (wr (a2 - 1)))) + (wr (31 * (bhd m5 a6 a1 a3))))) + (m5 602 (wr ((wr (11 * a6)) + 3))))) < 2511) ∧ ((m5 620 (wr ((wr ((wr (279 * (wr (a2 - 1)))) + (wr (31 * (bhd m5 a6 a1 a3))))) + (m5 602 (wr ((wr (11 * a6)) + 3)))))) = 0 → X 267 94 [(1, 597), (0, a1), (0, a2), (0, a3), ua4, ua5, (0, wr (a6 + 1))] [] m5 (qI K)) ∧ (¬ (m5 620 (wr ((wr ((wr (279 * (wr (a2 - 1)))) + (wr (31 * (bhd m5 a6 a1 a3))))) + (m5 602 (wr ((wr (11 * a6)) + 3)))))) = 0 → K 1 m5))) ∧ (¬ a6 < (m 602 578) → K 0 m)) : X 267 94 [(1, 597), (0, a1), (0, a2), (0, a3), ua4, ua5, (0, a6)] [] m (qI K) := by
  refine x_s (q := (.iload 6, 0, 0, 0)) (cod_267 rfl) rfl rfl rfl ?_
  refine x_s (q := (.aload_n 0, 0, 0, 0)) (cod_267 rfl) rfl rfl rfl ?_
  refine x_call (as := [(1, 597)]) (rest := [(0, a6)]) (cod_267 rfl) rfl rfl (by decide) (by decide) rfl rfl (Nat.le_of_ble_eq_true rfl) (rcv0 sq_l_597_0 sq_p_597 (by decide)) (Nat.le_of_ble_eq_true rfl) ?_
  show X 181 0 [(1, 597)] [] m _
  refine x_s (q := (.aload_n 0, 0, 0, 0)) (cod_181 rfl) rfl rfl rfl ?_
  refine x_s (q := (.sipush 578, 0, 0, 0)) (cod_181 rfl) rfl rfl rfl ?_
  obtain ⟨c1, H2⟩ := H
  refine x_call (as := [(1, 597), (0, 578)]) (rest := []) (cod_181 rfl) rfl rfl (by decide) (by decide) rfl rfl (Nat.le_of_ble_eq_true rfl) (rcv0 sq_l_597_0 sq_p_597 (by decide)) (Nat.le_of_ble_eq_true rfl) ?_
  refine x_pure (p182a (by decide) c1) ?_
  show X 181 7 [(1, 597)] [(0, m 602 578)] m _
  refine x_rI (t := .int) (cod_181 rfl) rfl rfl rfl ?_
  show X 267 100 [(1, 597), (0, a1), (0, a2), (0, a3), ua4, ua5, (0, a6)] [(0, m 602 578), (0, a6)] m _
  refine x_ic (p := ¬ a6 < (m 602 578)) (tgt := 155) (cod_267 rfl) (by decide) xn_ge (fun h => ?_) (fun h => ?_)
  · have H3 := H2.2 h
    refine x_s (q := (.iconst 0, 0, 0, 0)) (cod_267 rfl) rfl rfl rfl ?_
    refine x_retI (t := .boolean) (cod_267 rfl) rfl rfl rfl ?_
    exact H3
  · have H4 := H2.1 (Classical.not_not.mp h)
    refine x_s (q := (.aload_n 0, 0, 0, 0)) (cod_267 rfl) rfl rfl rfl ?_
    refine x_s (q := (.iload 6, 0, 0, 0)) (cod_267 rfl) rfl rfl rfl ?_
    refine x_s (q := (.iload_n 1, 0, 0, 0)) (cod_267 rfl) rfl rfl rfl ?_
    refine x_s (q := (.iload_n 3, 0, 0, 0)) (cod_267 rfl) rfl rfl rfl ?_
    refine x_call (as := [(1, 597), (0, a6), (0, a1), (0, a3)]) (rest := []) (cod_267 rfl) rfl rfl (by decide) (by decide) rfl rfl (Nat.le_of_ble_eq_true rfl) (rcv0 sq_l_597_0 sq_p_597 (by decide)) (Nat.le_of_ble_eq_true rfl) ?_
    refine X.imp H4 ?_
    rintro _ m5 ⟨v7, rfl, H6⟩
    show X 267 111 [(1, 597), (0, a1), (0, a2), (0, a3), ua4, ua5, (0, a6)] [(0, v7)] m5 _
    refine x_if (p := v7 = 0) (tgt := 149) (cod_267 rfl) (by decide) xj_eq (fun h => ?_) (fun h => ?_)
    · have H8 := H6.1 h
      show X 267 149 [(1, 597), (0, a1), (0, a2), (0, a3), ua4, ua5, (0, a6)] [] m5 _
      refine x_s (q := (.iinc 6 1, 0, 0, 0)) (np := 152) (ls' := [(1, 597), (0, a1), (0, a2), (0, a3), ua4, ua5, (0, wr (a6 + 1))]) (st' := []) (cod_267 rfl) rfl rfl (by simp [stp1, stS, tok, lsok, oif, hua5]) ?_
      refine x_go (tgt := 94) (cod_267 rfl) (by decide) ?_
      exact H8
    · have H9 := H6.2 h
      refine x_s (q := (.aload_n 0, 0, 0, 0)) (cod_267 rfl) rfl rfl rfl ?_
      refine x_gc (kk := 45) (c := 620) (t := 1) (cod_267 rfl) sq_p_597 sq_l_597_45 rfl rfl ?_
      refine x_s (q := (.iload_n 2, 0, 0, 0)) (cod_267 rfl) rfl rfl rfl ?_
      refine x_s (q := (.iconst 1, 0, 0, 0)) (cod_267 rfl) rfl rfl rfl ?_
      refine x_s (q := (.isub, 0, 0, 0)) (cod_267 rfl) rfl rfl rfl ?_
      refine x_s (q := (.aload_n 0, 0, 0, 0)) (cod_267 rfl) rfl rfl rfl ?_
      refine x_s (q := (.iload 6, 0, 0, 0)) (cod_267 rfl) rfl rfl rfl ?_
      refine x_s (q := (.iload_n 1, 0, 0, 0)) (cod_267 rfl) rfl rfl rfl ?_
      refine x_s (q := (.iload_n 3, 0, 0, 0)) (cod_267 rfl) rfl rfl rfl ?_
      obtain ⟨c10, H11⟩ := H9
      refine x_call (as := [(1, 597), (0, a6), (0, a1), (0, a3)]) (rest := [(0, wr (a2 - 1)), (1, 620)]) (cod_267 rfl) rfl rfl (by decide) (by decide) rfl rfl (Nat.le_of_ble_eq_true rfl) (rcv0 sq_l_597_0 sq_p_597 (by decide)) (Nat.le_of_ble_eq_true rfl) ?_
      refine x_pure (p231 c10) ?_
      show X 267 129 [(1, 597), (0, a1), (0, a2), (0, a3), ua4, ua5, (0, a6)] [(0, bhd m5 a6 a1 a3), (0, wr (a2 - 1)), (1, 620)] m5 _
      refine x_s (q := (.aload_n 0, 0, 0, 0)) (cod_267 rfl) rfl rfl rfl ?_
      refine x_s (q := (.bipush 11, 0, 0, 0)) (cod_267 rfl) rfl rfl rfl ?_
      refine x_s (q := (.iload 6, 0, 0, 0)) (cod_267 rfl) rfl rfl rfl ?_
      refine x_s (q := (.imul, 0, 0, 0)) (cod_267 rfl) rfl rfl rfl ?_
      refine x_s (q := (.iconst 3, 0, 0, 0)) (cod_267 rfl) rfl rfl rfl ?_
      refine x_s (q := (.iadd, 0, 0, 0)) (cod_267 rfl) rfl rfl rfl ?_
      obtain ⟨c12, H13⟩ := H11
      refine x_call (as := [(1, 597), (0, wr ((wr (11 * a6)) + 3))]) (rest := [(0, bhd m5 a6 a1 a3), (0, wr (a2 - 1)), (1, 620)]) (cod_267 rfl) rfl rfl (by decide) (by decide) rfl rfl (Nat.le_of_ble_eq_true rfl) (rcv0 sq_l_597_0 sq_p_597 (by decide)) (Nat.le_of_ble_eq_true rfl) ?_
      refine x_pure (p182ax c12) ?_
      show X 267 140 [(1, 597), (0, a1), (0, a2), (0, a3), ua4, ua5, (0, a6)] [(0, m5 602 (wr ((wr (11 * a6)) + 3))), (0, bhd m5 a6 a1 a3), (0, wr (a2 - 1)), (1, 620)] m5 _
      refine x_call (as := [(0, wr (a2 - 1)), (0, bhd m5 a6 a1 a3), (0, m5 602 (wr ((wr (11 * a6)) + 3)))]) (rest := [(1, 620)]) (cod_267 rfl) rfl rfl (by decide) (by decide) rfl rfl (Nat.le_of_ble_eq_true rfl) rfl (Nat.le_of_ble_eq_true rfl) ?_
      show X 266 0 [(0, wr (a2 - 1)), (0, bhd m5 a6 a1 a3), (0, m5 602 (wr ((wr (11 * a6)) + 3)))] [] m5 _
      refine x_s (q := (.sipush 279, 0, 0, 0)) (cod_266 rfl) rfl rfl rfl ?_
      refine x_s (q := (.iload_n 0, 0, 0, 0)) (cod_266 rfl) rfl rfl rfl ?_
      refine x_s (q := (.imul, 0, 0, 0)) (cod_266 rfl) rfl rfl rfl ?_
      refine x_s (q := (.bipush 31, 0, 0, 0)) (cod_266 rfl) rfl rfl rfl ?_
      refine x_s (q := (.iload_n 1, 0, 0, 0)) (cod_266 rfl) rfl rfl rfl ?_
      refine x_s (q := (.imul, 0, 0, 0)) (cod_266 rfl) rfl rfl rfl ?_
      refine x_s (q := (.iadd, 0, 0, 0)) (cod_266 rfl) rfl rfl rfl ?_
      refine x_s (q := (.iload_n 2, 0, 0, 0)) (cod_266 rfl) rfl rfl rfl ?_
      refine x_s (q := (.iadd, 0, 0, 0)) (cod_266 rfl) rfl rfl rfl ?_
      refine x_rI (t := .int) (cod_266 rfl) rfl rfl rfl ?_
      show X 267 143 [(1, 597), (0, a1), (0, a2), (0, a3), ua4, ua5, (0, a6)] [(0, wr ((wr ((wr (279 * (wr (a2 - 1)))) + (wr (31 * (bhd m5 a6 a1 a3))))) + (m5 602 (wr ((wr (11 * a6)) + 3))))), (1, 620)] m5 _
      obtain ⟨c14, H15⟩ := H13
      refine x_bald (cod_267 rfl) sq_a_620.s (sq_a_620.k c14.1 c14.2) ?_
      refine x_if (p := (m5 620 (wr ((wr ((wr (279 * (wr (a2 - 1)))) + (wr (31 * (bhd m5 a6 a1 a3))))) + (m5 602 (wr ((wr (11 * a6)) + 3)))))) = 0) (tgt := 149) (cod_267 rfl) (by decide) xj_eq (fun h => ?_) (fun h => ?_)
      · have H16 := H15.1 h
        show X 267 149 [(1, 597), (0, a1), (0, a2), (0, a3), ua4, ua5, (0, a6)] [] m5 _
        refine x_s (q := (.iinc 6 1, 0, 0, 0)) (np := 152) (ls' := [(1, 597), (0, a1), (0, a2), (0, a3), ua4, ua5, (0, wr (a6 + 1))]) (st' := []) (cod_267 rfl) rfl rfl (by simp [stp1, stS, tok, lsok, oif, hua5]) ?_
        refine x_go (tgt := 94) (cod_267 rfl) (by decide) ?_
        exact H16
      · have H17 := H15.2 h
        refine x_s (q := (.iconst 1, 0, 0, 0)) (cod_267 rfl) rfl rfl rfl ?_
        refine x_retI (t := .boolean) (cod_267 rfl) rfl rfl rfl ?_
        exact H17
set_option maxRecDepth 100000 in
theorem w268_0 {m : Mm} {K : Int → Mm → Prop} (a1 : Int) (a2 : Int) (a3 : Int) 
  (H : (m 597 16 = 0 ∧ (0 ≤ a2 ∧ a2 < 24) ∧ (0 ≤ a3 ∧ a3 ≤ 8)) ∧ v_M m a1 ∧ ((fbB (m 602 (11 * a1 + 2)) (lasO m a2 a3) = true) → v_B m a1 a2 a3 ∧ ((bhd m a1 a2 a3) < 0 → K 0 m) ∧ (¬ (bhd m a1 a2 a3) < 0 → K 1 m)) ∧ (¬ (fbB (m 602 (11 * a1 + 2)) (lasO m a2 a3) = true) → K 0 m)) : X 268 0 [(1, 597), (0, a1), (0, a2), (0, a3)] [] m (qI K) := by
  refine x_s (q := (.aload_n 0, 0, 0, 0)) (cod_268 rfl) rfl rfl rfl ?_
  refine x_s (q := (.iload_n 1, 0, 0, 0)) (cod_268 rfl) rfl rfl rfl ?_
  refine x_s (q := (.aload_n 0, 0, 0, 0)) (cod_268 rfl) rfl rfl rfl ?_
  refine x_s (q := (.iload_n 2, 0, 0, 0)) (cod_268 rfl) rfl rfl rfl ?_
  refine x_s (q := (.iload_n 3, 0, 0, 0)) (cod_268 rfl) rfl rfl rfl ?_
  obtain ⟨c1, H2⟩ := H
  refine x_call (as := [(1, 597), (0, a2), (0, a3)]) (rest := [(0, a1), (1, 597)]) (cod_268 rfl) rfl rfl (by decide) (by decide) rfl rfl (Nat.le_of_ble_eq_true rfl) (rcv0 sq_l_597_0 sq_p_597 (by decide)) (Nat.le_of_ble_eq_true rfl) ?_
  refine x_pure (p230 c1) ?_
  show X 268 8 [(1, 597), (0, a1), (0, a2), (0, a3)] [(0, lasO m a2 a3), (0, a1), (1, 597)] m _
  obtain ⟨c3, H4⟩ := H2
  refine x_call (as := [(1, 597), (0, a1), (0, lasO m a2 a3)]) (rest := []) (cod_268 rfl) rfl rfl (by decide) (by decide) rfl rfl (Nat.le_of_ble_eq_true rfl) (rcv0 sq_l_597_0 sq_p_597 (by decide)) (Nat.le_of_ble_eq_true rfl) ?_
  refine x_pure (p216 c3) ?_
  show X 268 11 [(1, 597), (0, a1), (0, a2), (0, a3)] [(0, bi (fbB (m 602 (11 * a1 + 2)) (lasO m a2 a3) = true))] m _
  refine x_if (p := ¬ (fbB (m 602 (11 * a1 + 2)) (lasO m a2 a3) = true)) (tgt := 28) (cod_268 rfl) (by decide) xb_eq (fun h => ?_) (fun h => ?_)
  · have H5 := H4.2 h
    refine x_s (q := (.iconst 0, 0, 0, 0)) (cod_268 rfl) rfl rfl rfl ?_
    refine x_retI (t := .boolean) (cod_268 rfl) rfl rfl rfl ?_
    exact H5
  · have H6 := H4.1 (Classical.not_not.mp h)
    refine x_s (q := (.aload_n 0, 0, 0, 0)) (cod_268 rfl) rfl rfl rfl ?_
    refine x_s (q := (.iload_n 1, 0, 0, 0)) (cod_268 rfl) rfl rfl rfl ?_
    refine x_s (q := (.iload_n 2, 0, 0, 0)) (cod_268 rfl) rfl rfl rfl ?_
    refine x_s (q := (.iload_n 3, 0, 0, 0)) (cod_268 rfl) rfl rfl rfl ?_
    obtain ⟨c7, H8⟩ := H6
    refine x_call (as := [(1, 597), (0, a1), (0, a2), (0, a3)]) (rest := []) (cod_268 rfl) rfl rfl (by decide) (by decide) rfl rfl (Nat.le_of_ble_eq_true rfl) (rcv0 sq_l_597_0 sq_p_597 (by decide)) (Nat.le_of_ble_eq_true rfl) ?_
    refine x_pure (p231 c7) ?_
    show X 268 21 [(1, 597), (0, a1), (0, a2), (0, a3)] [(0, bhd m a1 a2 a3)] m _
    refine x_if (p := (bhd m a1 a2 a3) < 0) (tgt := 28) (cod_268 rfl) (by decide) xj_lt (fun h => ?_) (fun h => ?_)
    · have H9 := H8.1 h
      refine x_s (q := (.iconst 0, 0, 0, 0)) (cod_268 rfl) rfl rfl rfl ?_
      refine x_retI (t := .boolean) (cod_268 rfl) rfl rfl rfl ?_
      exact H9
    · have H10 := H8.2 h
      refine x_s (q := (.iconst 1, 0, 0, 0)) (cod_268 rfl) rfl rfl rfl ?_
      refine x_go (tgt := 29) (cod_268 rfl) (by decide) ?_
      refine x_retI (t := .boolean) (cod_268 rfl) rfl rfl rfl ?_
      exact H10
theorem e268 {m : Mm} {K : Int → Mm → Prop} (a1 : Int) (a2 : Int) (a3 : Int) 
  (H : (m 597 16 = 0 ∧ (0 ≤ a2 ∧ a2 < 24) ∧ (0 ≤ a3 ∧ a3 ≤ 8)) ∧ v_M m a1 ∧ ((fbB (m 602 (11 * a1 + 2)) (lasO m a2 a3) = true) → v_B m a1 a2 a3 ∧ ((bhd m a1 a2 a3) < 0 → K 0 m) ∧ (¬ (bhd m a1 a2 a3) < 0 → K 1 m)) ∧ (¬ (fbB (m 602 (11 * a1 + 2)) (lasO m a2 a3) = true) → K 0 m)) : TrI 268 [(1, 597), (0, a1), (0, a2), (0, a3)] m K := by
  exact w268_0 a1 a2 a3 H
set_option maxRecDepth 100000 in
theorem w269_0 {m : Mm} {K : Int → Mm → Prop} (a1 : Int) (a2 : Int) 
  (H : X 269 2 [(1, 597), (0, a1), (0, a2), (0, 0), (9, 0)] [] m (qI K)) : X 269 0 [(1, 597), (0, a1), (0, a2), (9, 0), (9, 0)] [] m (qI K) := by
  refine x_s (q := (.iconst 0, 0, 0, 0)) (cod_269 rfl) rfl rfl rfl ?_
  refine x_s (q := (.istore_n 3, 0, 0, 0)) (cod_269 rfl) rfl rfl rfl ?_
  exact H
theorem e269 {m : Mm} {K : Int → Mm → Prop} (a1 : Int) (a2 : Int) 
  (H : X 269 2 [(1, 597), (0, a1), (0, a2), (0, 0), (9, 0)] [] m (qI K)) : TrI 269 [(1, 597), (0, a1), (0, a2)] m K := by
  exact w269_0 a1 a2 H
set_option maxRecDepth 100000 in
theorem w269_2 {m : Mm} {K : Int → Mm → Prop} (a1 : Int) (a2 : Int) (a3 : Int) (ua4 : aV) 
  (H : (a3 < 9 → (0 ≤ a3 ∧ a3 < 9) ∧ TrI 176 [(1, 597), (0, cs 621 a3)] m fun v7 m5 => TrI 270 [(1, 597), (0, a1), (0, wr (32 + v7)), (0, a2)] m5 fun v10 m8 => (v10 = 0 → X 269 2 [(1, 597), (0, a1), (0, a2), (0, wr (a3 + 1)), (0, wr (32 + v7))] [] m8 (qI K)) ∧ (¬ v10 = 0 → K (wr (32 + v7)) m8)) ∧ (¬ a3 < 9 → X 269 45 [(1, 597), (0, a1), (0, a2), (0, 0), ua4] [] m (qI K))) : X 269 2 [(1, 597), (0, a1), (0, a2), (0, a3), ua4] [] m (qI K) := by
  refine x_s (q := (.iload_n 3, 0, 0, 0)) (cod_269 rfl) rfl rfl rfl ?_
  refine x_s (q := (.bipush 9, 0, 0, 0)) (cod_269 rfl) rfl rfl rfl ?_
  refine x_ic (p := ¬ a3 < 9) (tgt := 43) (cod_269 rfl) (by decide) xn_ge (fun h => ?_) (fun h => ?_)
  · have H1 := H.2 h
    refine x_s (q := (.iconst 0, 0, 0, 0)) (cod_269 rfl) rfl rfl rfl ?_
    refine x_s (q := (.istore_n 3, 0, 0, 0)) (cod_269 rfl) rfl rfl rfl ?_
    exact H1
  · have H2 := H.1 (Classical.not_not.mp h)
    refine x_s (q := (.bipush 32, 0, 0, 0)) (cod_269 rfl) rfl rfl rfl ?_
    refine x_s (q := (.aload_n 0, 0, 0, 0)) (cod_269 rfl) rfl rfl rfl ?_
    refine x_s (q := (.aload_n 0, 0, 0, 0)) (cod_269 rfl) rfl rfl rfl ?_
    refine x_gc (kk := 46) (c := 621) (t := 1) (cod_269 rfl) sq_p_597 sq_l_597_46 rfl rfl ?_
    refine x_s (q := (.iload_n 3, 0, 0, 0)) (cod_269 rfl) rfl rfl rfl ?_
    obtain ⟨c3, H4⟩ := H2
    refine x_ialdc (cod_269 rfl) sq_p_621 (sq_k_621 (j := a3) c3.1 c3.2) ?_
    refine x_call (as := [(1, 597), (0, cs 621 a3)]) (rest := [(0, 32)]) (cod_269 rfl) rfl rfl (by decide) (by decide) rfl rfl (Nat.le_of_ble_eq_true rfl) (rcv0 sq_l_597_0 sq_p_597 (by decide)) (Nat.le_of_ble_eq_true rfl) ?_
    refine X.imp H4 ?_
    rintro _ m5 ⟨v7, rfl, H6⟩
    show X 269 20 [(1, 597), (0, a1), (0, a2), (0, a3), ua4] [(0, v7), (0, 32)] m5 _
    refine x_s (q := (.iadd, 0, 0, 0)) (cod_269 rfl) rfl rfl rfl ?_
    refine x_s (q := (.istore 4, 0, 0, 0)) (cod_269 rfl) rfl rfl rfl ?_
    refine x_s (q := (.aload_n 0, 0, 0, 0)) (cod_269 rfl) rfl rfl rfl ?_
    refine x_s (q := (.iload_n 1, 0, 0, 0)) (cod_269 rfl) rfl rfl rfl ?_
    refine x_s (q := (.iload 4, 0, 0, 0)) (cod_269 rfl) rfl rfl rfl ?_
    refine x_s (q := (.iload_n 2, 0, 0, 0)) (cod_269 rfl) rfl rfl rfl ?_
    refine x_call (as := [(1, 597), (0, a1), (0, wr (32 + v7)), (0, a2)]) (rest := []) (cod_269 rfl) rfl rfl (by decide) (by decide) rfl rfl (Nat.le_of_ble_eq_true rfl) (rcv0 sq_l_597_0 sq_p_597 (by decide)) (Nat.le_of_ble_eq_true rfl) ?_
    refine X.imp H6 ?_
    rintro _ m8 ⟨v10, rfl, H9⟩
    show X 269 31 [(1, 597), (0, a1), (0, a2), (0, a3), (0, wr (32 + v7))] [(0, v10)] m8 _
    refine x_if (p := v10 = 0) (tgt := 37) (cod_269 rfl) (by decide) xj_eq (fun h => ?_) (fun h => ?_)
    · have H11 := H9.1 h
      refine x_s (q := (.iinc 3 1, 0, 0, 0)) (cod_269 rfl) rfl rfl rfl ?_
      refine x_go (tgt := 2) (cod_269 rfl) (by decide) ?_
      exact H11
    · have H12 := H9.2 h
      refine x_s (q := (.iload 4, 0, 0, 0)) (cod_269 rfl) rfl rfl rfl ?_
      refine x_retI (t := .int) (cod_269 rfl) rfl rfl rfl ?_
      exact H12
set_option maxRecDepth 100000 in
theorem w269_45 {m : Mm} {K : Int → Mm → Prop} (a1 : Int) (a2 : Int) (a3 : Int) (ua4 : aV) 
  (H : (a3 < 26 → TrI 270 [(1, 597), (0, a1), (0, a3), (0, a2)] m fun v10 m8 => (v10 = 0 → X 269 45 [(1, 597), (0, a1), (0, a2), (0, wr (a3 + 1)), ua4] [] m8 (qI K)) ∧ (¬ v10 = 0 → K a3 m8)) ∧ (¬ a3 < 26 → TrI 270 [(1, 597), (0, a1), (0, 32), (0, a2)] m fun v5 m3 => (v5 = 0 → K (-1) m3) ∧ (¬ v5 = 0 → K 32 m3))) : X 269 45 [(1, 597), (0, a1), (0, a2), (0, a3), ua4] [] m (qI K) := by
  refine x_s (q := (.iload_n 3, 0, 0, 0)) (cod_269 rfl) rfl rfl rfl ?_
  refine x_s (q := (.bipush 26, 0, 0, 0)) (cod_269 rfl) rfl rfl rfl ?_
  refine x_ic (p := ¬ a3 < 26) (tgt := 69) (cod_269 rfl) (by decide) xn_ge (fun h => ?_) (fun h => ?_)
  · have H1 := H.2 h
    refine x_s (q := (.aload_n 0, 0, 0, 0)) (cod_269 rfl) rfl rfl rfl ?_
    refine x_s (q := (.iload_n 1, 0, 0, 0)) (cod_269 rfl) rfl rfl rfl ?_
    refine x_s (q := (.bipush 32, 0, 0, 0)) (cod_269 rfl) rfl rfl rfl ?_
    refine x_s (q := (.iload_n 2, 0, 0, 0)) (cod_269 rfl) rfl rfl rfl ?_
    refine x_call (as := [(1, 597), (0, a1), (0, 32), (0, a2)]) (rest := []) (cod_269 rfl) rfl rfl (by decide) (by decide) rfl rfl (Nat.le_of_ble_eq_true rfl) (rcv0 sq_l_597_0 sq_p_597 (by decide)) (Nat.le_of_ble_eq_true rfl) ?_
    refine X.imp H1 ?_
    rintro _ m3 ⟨v5, rfl, H4⟩
    show X 269 77 [(1, 597), (0, a1), (0, a2), (0, a3), ua4] [(0, v5)] m3 _
    refine x_if (p := v5 = 0) (tgt := 85) (cod_269 rfl) (by decide) xj_eq (fun h => ?_) (fun h => ?_)
    · have H6 := H4.1 h
      refine x_s (q := (.iconst (-1), 0, 0, 0)) (cod_269 rfl) rfl rfl rfl ?_
      refine x_retI (t := .int) (cod_269 rfl) rfl rfl rfl ?_
      exact H6
    · have H7 := H4.2 h
      refine x_s (q := (.bipush 32, 0, 0, 0)) (cod_269 rfl) rfl rfl rfl ?_
      refine x_go (tgt := 86) (cod_269 rfl) (by decide) ?_
      refine x_retI (t := .int) (cod_269 rfl) rfl rfl rfl ?_
      exact H7
  · have H2 := H.1 (Classical.not_not.mp h)
    refine x_s (q := (.aload_n 0, 0, 0, 0)) (cod_269 rfl) rfl rfl rfl ?_
    refine x_s (q := (.iload_n 1, 0, 0, 0)) (cod_269 rfl) rfl rfl rfl ?_
    refine x_s (q := (.iload_n 3, 0, 0, 0)) (cod_269 rfl) rfl rfl rfl ?_
    refine x_s (q := (.iload_n 2, 0, 0, 0)) (cod_269 rfl) rfl rfl rfl ?_
    refine x_call (as := [(1, 597), (0, a1), (0, a3), (0, a2)]) (rest := []) (cod_269 rfl) rfl rfl (by decide) (by decide) rfl rfl (Nat.le_of_ble_eq_true rfl) (rcv0 sq_l_597_0 sq_p_597 (by decide)) (Nat.le_of_ble_eq_true rfl) ?_
    refine X.imp H2 ?_
    rintro _ m8 ⟨v10, rfl, H9⟩
    show X 269 58 [(1, 597), (0, a1), (0, a2), (0, a3), ua4] [(0, v10)] m8 _
    refine x_if (p := v10 = 0) (tgt := 63) (cod_269 rfl) (by decide) xj_eq (fun h => ?_) (fun h => ?_)
    · have H11 := H9.1 h
      refine x_s (q := (.iinc 3 1, 0, 0, 0)) (cod_269 rfl) rfl rfl rfl ?_
      refine x_go (tgt := 45) (cod_269 rfl) (by decide) ?_
      exact H11
    · have H12 := H9.2 h
      refine x_s (q := (.iload_n 3, 0, 0, 0)) (cod_269 rfl) rfl rfl rfl ?_
      refine x_retI (t := .int) (cod_269 rfl) rfl rfl rfl ?_
      exact H12
set_option maxRecDepth 100000 in
theorem w270_0 {m : Mm} {K : Int → Mm → Prop} (a1 : Int) (a2 : Int) (a3 : Int) 
  (H : X 270 3 [(1, 597), (0, a1), (0, a2), (0, a3), (0, 0), (9, 0), (9, 0), (9, 0), (9, 0)] [] m (qI K)) : X 270 0 [(1, 597), (0, a1), (0, a2), (0, a3), (9, 0), (9, 0), (9, 0), (9, 0), (9, 0)] [] m (qI K) := by
  refine x_s (q := (.iconst 0, 0, 0, 0)) (cod_270 rfl) rfl rfl rfl ?_
  refine x_s (q := (.istore 4, 0, 0, 0)) (cod_270 rfl) rfl rfl rfl ?_
  exact H
theorem e270 {m : Mm} {K : Int → Mm → Prop} (a1 : Int) (a2 : Int) (a3 : Int) 
  (H : X 270 3 [(1, 597), (0, a1), (0, a2), (0, a3), (0, 0), (9, 0), (9, 0), (9, 0), (9, 0)] [] m (qI K)) : TrI 270 [(1, 597), (0, a1), (0, a2), (0, a3)] m K := by
  exact w270_0 a1 a2 a3 H
set_option maxRecDepth 100000 in
theorem w270_3 {m : Mm} {K : Int → Mm → Prop} (a1 : Int) (a2 : Int) (a3 : Int) (a4 : Int) (ua5 : aV) (ua6 : aV) (ua7 : aV) (ua8 : aV) 
  (H : (a4 < 279 → (0 ≤ a4 ∧ a4 < 279) ∧ ∀ m5, m5 = umem m 624 a4 0 → X 270 3 [(1, 597), (0, a1), (0, a2), (0, a3), (0, wr (a4 + 1)), ua5, ua6, ua7, ua8] [] m5 (qI K)) ∧ (¬ a4 < 279 → X 270 31 [(1, 597), (0, a1), (0, a2), (0, a3), (0, 0), (0, 0), ua6, ua7, ua8] [] m (qI K))) : X 270 3 [(1, 597), (0, a1), (0, a2), (0, a3), (0, a4), ua5, ua6, ua7, ua8] [] m (qI K) := by
  refine x_s (q := (.iload 4, 0, 0, 0)) (cod_270 rfl) rfl rfl rfl ?_
  refine x_s (q := (.sipush 279, 0, 0, 0)) (cod_270 rfl) rfl rfl rfl ?_
  refine x_ic (p := ¬ a4 < 279) (tgt := 25) (cod_270 rfl) (by decide) xn_ge (fun h => ?_) (fun h => ?_)
  · have H1 := H.2 h
    refine x_s (q := (.iconst 0, 0, 0, 0)) (cod_270 rfl) rfl rfl rfl ?_
    refine x_s (q := (.istore 4, 0, 0, 0)) (cod_270 rfl) rfl rfl rfl ?_
    refine x_s (q := (.iconst 0, 0, 0, 0)) (cod_270 rfl) rfl rfl rfl ?_
    refine x_s (q := (.istore 5, 0, 0, 0)) (cod_270 rfl) rfl rfl rfl ?_
    exact H1
  · have H2 := H.1 (Classical.not_not.mp h)
    refine x_s (q := (.aload_n 0, 0, 0, 0)) (cod_270 rfl) rfl rfl rfl ?_
    refine x_gc (kk := 49) (c := 624) (t := 1) (cod_270 rfl) sq_p_597 sq_l_597_49 rfl rfl ?_
    refine x_s (q := (.iload 4, 0, 0, 0)) (cod_270 rfl) rfl rfl rfl ?_
    refine x_s (q := (.iconst 0, 0, 0, 0)) (cod_270 rfl) rfl rfl rfl ?_
    obtain ⟨c3, H4⟩ := H2
    refine x_bast (cod_270 rfl) sq_a_624.s (sq_a_624.k c3.1 c3.2) (by decide) ?_
    have H6 := H4 _ rfl
    generalize umem m 624 a4 0 = m5 at H6 ⊢
    refine x_s (q := (.iinc 4 1, 0, 0, 0)) (cod_270 rfl) rfl rfl rfl ?_
    refine x_go (tgt := 3) (cod_270 rfl) (by decide) ?_
    exact H6
set_option maxRecDepth 100000 in
theorem w270_31 {m : Mm} {K : Int → Mm → Prop} (a1 : Int) (a2 : Int) (a3 : Int) (a4 : Int) (a5 : Int) (ua6 : aV) (ua7 : aV) (ua8 : aV) 
  (H : (a5 < 279 → (0 ≤ a5 ∧ a5 < 279) ∧ ((m 623 a5) = 0 → X 270 31 [(1, 597), (0, a1), (0, a2), (0, a3), (0, a4), (0, wr (a5 + 1)), (0, idiv a5 31), ua7, ua8] [] m (qI K)) ∧ (¬ (m 623 a5) = 0 → (-1000 < (irem a5 31) ∧ (irem a5 31) < 1000) ∧ ((letB (irem a5 31) a2 = true) → (a2 < 32 → (m 597 16 = 0 ∧ 0 ≤ (wr (264 + (wr (11 * a1)))) ∧ (wr (264 + (wr (11 * a1)))) < 1166) ∧ ((idiv a5 31) < (m 602 (wr (264 + (wr (11 * a1))))) → (m 597 16 = 0 ∧ 0 ≤ (wr ((wr ((wr (264 + (wr (11 * a1)))) + 3)) + (idiv a5 31))) ∧ (wr ((wr ((wr (264 + (wr (11 * a1)))) + 3)) + (idiv a5 31))) < 1166) ∧ ((m 602 (wr ((wr ((wr (264 + (wr (11 * a1)))) + 3)) + (idiv a5 31)))) = a2 → (0 ≤ (wr ((wr ((wr (279 * a3)) + (wr (31 * (wr ((idiv a5 31) + 1)))))) + 0)) ∧ (wr ((wr ((wr (279 * a3)) + (wr (31 * (wr ((idiv a5 31) + 1)))))) + 0)) < 2511) ∧ ((m 620 (wr ((wr ((wr (279 * a3)) + (wr (31 * (wr ((idiv a5 31) + 1)))))) + 0))) = 0 → X 270 127 [(1, 597), (0, a1), (0, a2), (0, a3), (0, a4), (0, a5), (0, idiv a5 31), ua7, ua8] [(0, 0)] m (qI K)) ∧ (¬ (m 620 (wr ((wr ((wr (279 * a3)) + (wr (31 * (wr ((idiv a5 31) + 1)))))) + 0))) = 0 → X 270 127 [(1, 597), (0, a1), (0, a2), (0, a3), (0, a4), (0, a5), (0, idiv a5 31), ua7, ua8] [(0, 1)] m (qI K))) ∧ (¬ (m 602 (wr ((wr ((wr (264 + (wr (11 * a1)))) + 3)) + (idiv a5 31)))) = a2 → X 270 127 [(1, 597), (0, a1), (0, a2), (0, a3), (0, a4), (0, a5), (0, idiv a5 31), ua7, ua8] [(0, 0)] m (qI K))) ∧ (¬ (idiv a5 31) < (m 602 (wr (264 + (wr (11 * a1))))) → X 270 127 [(1, 597), (0, a1), (0, a2), (0, a3), (0, a4), (0, a5), (0, idiv a5 31), ua7, ua8] [(0, 0)] m (qI K))) ∧ (¬ a2 < 32 → X 270 170 [(1, 597), (0, a1), (0, a2), (0, a3), (0, a4), (0, a5), (0, idiv a5 31), (0, 0), ua8] [] m (qI K))) ∧ (¬ (letB (irem a5 31) a2 = true) → X 270 31 [(1, 597), (0, a1), (0, a2), (0, a3), (0, a4), (0, wr (a5 + 1)), (0, idiv a5 31), ua7, ua8] [] m (qI K)))) ∧ (¬ a5 < 279 → (a4 = 0 ∨ a4 = 1) ∧ K a4 m)) : X 270 31 [(1, 597), (0, a1), (0, a2), (0, a3), (0, a4), (0, a5), ua6, ua7, ua8] [] m (qI K) := by
  refine x_s (q := (.iload 5, 0, 0, 0)) (cod_270 rfl) rfl rfl rfl ?_
  refine x_s (q := (.sipush 279, 0, 0, 0)) (cod_270 rfl) rfl rfl rfl ?_
  refine x_ic (p := ¬ a5 < 279) (tgt := 278) (cod_270 rfl) (by decide) xn_ge (fun h => ?_) (fun h => ?_)
  · have H1 := H.2 h
    refine x_s (q := (.iload 4, 0, 0, 0)) (cod_270 rfl) rfl rfl rfl ?_
    obtain ⟨c3, H4⟩ := H1
    refine x_retI (t := .boolean) (cod_270 rfl) rfl rfl (bok_b c3) ?_
    exact H4
  · have H2 := H.1 (Classical.not_not.mp h)
    refine x_s (q := (.iload 5, 0, 0, 0)) (cod_270 rfl) rfl rfl rfl ?_
    refine x_s (q := (.bipush 31, 0, 0, 0)) (cod_270 rfl) rfl rfl rfl ?_
    refine x_div (cod_270 rfl) (by decide) ?_
    refine x_s (q := (.istore 6, 0, 0, 0)) (cod_270 rfl) rfl rfl rfl ?_
    refine x_s (q := (.aload_n 0, 0, 0, 0)) (cod_270 rfl) rfl rfl rfl ?_
    refine x_gc (kk := 48) (c := 623) (t := 1) (cod_270 rfl) sq_p_597 sq_l_597_48 rfl rfl ?_
    refine x_s (q := (.iload 5, 0, 0, 0)) (cod_270 rfl) rfl rfl rfl ?_
    obtain ⟨c5, H6⟩ := H2
    refine x_bald (cod_270 rfl) sq_a_623.s (sq_a_623.k c5.1 c5.2) ?_
    refine x_if (p := (m 623 a5) = 0) (tgt := 272) (cod_270 rfl) (by decide) xj_eq (fun h => ?_) (fun h => ?_)
    · have H7 := H6.1 h
      refine x_s (q := (.iinc 5 1, 0, 0, 0)) (cod_270 rfl) rfl rfl rfl ?_
      refine x_go (tgt := 31) (cod_270 rfl) (by decide) ?_
      exact H7
    · have H8 := H6.2 h
      refine x_s (q := (.iload 5, 0, 0, 0)) (cod_270 rfl) rfl rfl rfl ?_
      refine x_s (q := (.bipush 31, 0, 0, 0)) (cod_270 rfl) rfl rfl rfl ?_
      refine x_rem (cod_270 rfl) (by decide) ?_
      refine x_s (q := (.iload_n 2, 0, 0, 0)) (cod_270 rfl) rfl rfl rfl ?_
      obtain ⟨c9, H10⟩ := H8
      refine x_call (as := [(0, irem a5 31), (0, a2)]) (rest := []) (cod_270 rfl) rfl rfl (by decide) (by decide) rfl rfl (Nat.le_of_ble_eq_true rfl) rfl (Nat.le_of_ble_eq_true rfl) ?_
      refine x_pure (p219 c9) ?_
      show X 270 65 [(1, 597), (0, a1), (0, a2), (0, a3), (0, a4), (0, a5), (0, idiv a5 31), ua7, ua8] [(0, bi (letB (irem a5 31) a2 = true))] m _
      refine x_if (p := letB (irem a5 31) a2 = true) (tgt := 71) (cod_270 rfl) (by decide) xb_ne (fun h => ?_) (fun h => ?_)
      · have H11 := H10.1 h
        refine x_s (q := (.iload_n 2, 0, 0, 0)) (cod_270 rfl) rfl rfl rfl ?_
        refine x_s (q := (.bipush 32, 0, 0, 0)) (cod_270 rfl) rfl rfl rfl ?_
        refine x_ic (p := ¬ a2 < 32) (tgt := 167) (cod_270 rfl) (by decide) xn_ge (fun h => ?_) (fun h => ?_)
        · have H13 := H11.2 h
          refine x_s (q := (.iconst 0, 0, 0, 0)) (cod_270 rfl) rfl rfl rfl ?_
          refine x_s (q := (.istore 7, 0, 0, 0)) (cod_270 rfl) rfl rfl rfl ?_
          exact H13
        · have H14 := H11.1 (Classical.not_not.mp h)
          refine x_s (q := (.iload 6, 0, 0, 0)) (cod_270 rfl) rfl rfl rfl ?_
          refine x_s (q := (.aload_n 0, 0, 0, 0)) (cod_270 rfl) rfl rfl rfl ?_
          refine x_s (q := (.sipush 264, 0, 0, 0)) (cod_270 rfl) rfl rfl rfl ?_
          refine x_s (q := (.bipush 11, 0, 0, 0)) (cod_270 rfl) rfl rfl rfl ?_
          refine x_s (q := (.iload_n 1, 0, 0, 0)) (cod_270 rfl) rfl rfl rfl ?_
          refine x_s (q := (.imul, 0, 0, 0)) (cod_270 rfl) rfl rfl rfl ?_
          refine x_s (q := (.iadd, 0, 0, 0)) (cod_270 rfl) rfl rfl rfl ?_
          obtain ⟨c15, H16⟩ := H14
          refine x_call (as := [(1, 597), (0, wr (264 + (wr (11 * a1))))]) (rest := [(0, idiv a5 31)]) (cod_270 rfl) rfl rfl (by decide) (by decide) rfl rfl (Nat.le_of_ble_eq_true rfl) (rcv0 sq_l_597_0 sq_p_597 (by decide)) (Nat.le_of_ble_eq_true rfl) ?_
          refine x_pure (p182ax c15) ?_
          show X 270 91 [(1, 597), (0, a1), (0, a2), (0, a3), (0, a4), (0, a5), (0, idiv a5 31), ua7, ua8] [(0, m 602 (wr (264 + (wr (11 * a1))))), (0, idiv a5 31)] m _
          refine x_ic (p := ¬ (idiv a5 31) < (m 602 (wr (264 + (wr (11 * a1)))))) (tgt := 126) (cod_270 rfl) (by decide) xn_ge (fun h => ?_) (fun h => ?_)
          · have H17 := H16.2 h
            refine x_s (q := (.iconst 0, 0, 0, 0)) (cod_270 rfl) rfl rfl rfl ?_
            exact H17
          · have H18 := H16.1 (Classical.not_not.mp h)
            refine x_s (q := (.aload_n 0, 0, 0, 0)) (cod_270 rfl) rfl rfl rfl ?_
            refine x_s (q := (.iload_n 1, 0, 0, 0)) (cod_270 rfl) rfl rfl rfl ?_
            refine x_s (q := (.iload 6, 0, 0, 0)) (cod_270 rfl) rfl rfl rfl ?_
            refine x_call (as := [(1, 597), (0, a1), (0, idiv a5 31)]) (rest := []) (cod_270 rfl) rfl rfl (by decide) (by decide) rfl rfl (Nat.le_of_ble_eq_true rfl) (rcv0 sq_l_597_0 sq_p_597 (by decide)) (Nat.le_of_ble_eq_true rfl) ?_
            show X 208 0 [(1, 597), (0, a1), (0, idiv a5 31)] [] m _
            refine x_s (q := (.aload_n 0, 0, 0, 0)) (cod_208 rfl) rfl rfl rfl ?_
            refine x_s (q := (.sipush 264, 0, 0, 0)) (cod_208 rfl) rfl rfl rfl ?_
            refine x_s (q := (.bipush 11, 0, 0, 0)) (cod_208 rfl) rfl rfl rfl ?_
            refine x_s (q := (.iload_n 1, 0, 0, 0)) (cod_208 rfl) rfl rfl rfl ?_
            refine x_s (q := (.imul, 0, 0, 0)) (cod_208 rfl) rfl rfl rfl ?_
            refine x_s (q := (.iadd, 0, 0, 0)) (cod_208 rfl) rfl rfl rfl ?_
            refine x_s (q := (.iconst 3, 0, 0, 0)) (cod_208 rfl) rfl rfl rfl ?_
            refine x_s (q := (.iadd, 0, 0, 0)) (cod_208 rfl) rfl rfl rfl ?_
            refine x_s (q := (.iload_n 2, 0, 0, 0)) (cod_208 rfl) rfl rfl rfl ?_
            refine x_s (q := (.iadd, 0, 0, 0)) (cod_208 rfl) rfl rfl rfl ?_
            obtain ⟨c19, H20⟩ := H18
            refine x_call (as := [(1, 597), (0, wr ((wr ((wr (264 + (wr (11 * a1)))) + 3)) + (idiv a5 31)))]) (rest := []) (cod_208 rfl) rfl rfl (by decide) (by decide) rfl rfl (Nat.le_of_ble_eq_true rfl) (rcv0 sq_l_597_0 sq_p_597 (by decide)) (Nat.le_of_ble_eq_true rfl) ?_
            refine x_pure (p182ax c19) ?_
            show X 208 16 [(1, 597), (0, a1), (0, idiv a5 31)] [(0, m 602 (wr ((wr ((wr (264 + (wr (11 * a1)))) + 3)) + (idiv a5 31))))] m _
            refine x_rI (t := .int) (cod_208 rfl) rfl rfl rfl ?_
            show X 270 101 [(1, 597), (0, a1), (0, a2), (0, a3), (0, a4), (0, a5), (0, idiv a5 31), ua7, ua8] [(0, m 602 (wr ((wr ((wr (264 + (wr (11 * a1)))) + 3)) + (idiv a5 31))))] m _
            refine x_s (q := (.iload_n 2, 0, 0, 0)) (cod_270 rfl) rfl rfl rfl ?_
            refine x_ic (p := ¬ (m 602 (wr ((wr ((wr (264 + (wr (11 * a1)))) + 3)) + (idiv a5 31)))) = a2) (tgt := 126) (cod_270 rfl) (by decide) xj_ne (fun h => ?_) (fun h => ?_)
            · have H21 := H20.2 h
              refine x_s (q := (.iconst 0, 0, 0, 0)) (cod_270 rfl) rfl rfl rfl ?_
              exact H21
            · have H22 := H20.1 (Classical.not_not.mp h)
              refine x_s (q := (.aload_n 0, 0, 0, 0)) (cod_270 rfl) rfl rfl rfl ?_
              refine x_gc (kk := 45) (c := 620) (t := 1) (cod_270 rfl) sq_p_597 sq_l_597_45 rfl rfl ?_
              refine x_s (q := (.iload_n 3, 0, 0, 0)) (cod_270 rfl) rfl rfl rfl ?_
              refine x_s (q := (.iload 6, 0, 0, 0)) (cod_270 rfl) rfl rfl rfl ?_
              refine x_s (q := (.iconst 1, 0, 0, 0)) (cod_270 rfl) rfl rfl rfl ?_
              refine x_s (q := (.iadd, 0, 0, 0)) (cod_270 rfl) rfl rfl rfl ?_
              refine x_s (q := (.iconst 0, 0, 0, 0)) (cod_270 rfl) rfl rfl rfl ?_
              refine x_call (as := [(0, a3), (0, wr ((idiv a5 31) + 1)), (0, 0)]) (rest := [(1, 620)]) (cod_270 rfl) rfl rfl (by decide) (by decide) rfl rfl (Nat.le_of_ble_eq_true rfl) rfl (Nat.le_of_ble_eq_true rfl) ?_
              show X 266 0 [(0, a3), (0, wr ((idiv a5 31) + 1)), (0, 0)] [] m _
              refine x_s (q := (.sipush 279, 0, 0, 0)) (cod_266 rfl) rfl rfl rfl ?_
              refine x_s (q := (.iload_n 0, 0, 0, 0)) (cod_266 rfl) rfl rfl rfl ?_
              refine x_s (q := (.imul, 0, 0, 0)) (cod_266 rfl) rfl rfl rfl ?_
              refine x_s (q := (.bipush 31, 0, 0, 0)) (cod_266 rfl) rfl rfl rfl ?_
              refine x_s (q := (.iload_n 1, 0, 0, 0)) (cod_266 rfl) rfl rfl rfl ?_
              refine x_s (q := (.imul, 0, 0, 0)) (cod_266 rfl) rfl rfl rfl ?_
              refine x_s (q := (.iadd, 0, 0, 0)) (cod_266 rfl) rfl rfl rfl ?_
              refine x_s (q := (.iload_n 2, 0, 0, 0)) (cod_266 rfl) rfl rfl rfl ?_
              refine x_s (q := (.iadd, 0, 0, 0)) (cod_266 rfl) rfl rfl rfl ?_
              refine x_rI (t := .int) (cod_266 rfl) rfl rfl rfl ?_
              show X 270 118 [(1, 597), (0, a1), (0, a2), (0, a3), (0, a4), (0, a5), (0, idiv a5 31), ua7, ua8] [(0, wr ((wr ((wr (279 * a3)) + (wr (31 * (wr ((idiv a5 31) + 1)))))) + 0)), (1, 620)] m _
              obtain ⟨c23, H24⟩ := H22
              refine x_bald (cod_270 rfl) sq_a_620.s (sq_a_620.k c23.1 c23.2) ?_
              refine x_if (p := (m 620 (wr ((wr ((wr (279 * a3)) + (wr (31 * (wr ((idiv a5 31) + 1)))))) + 0))) = 0) (tgt := 126) (cod_270 rfl) (by decide) xj_eq (fun h => ?_) (fun h => ?_)
              · have H25 := H24.1 h
                refine x_s (q := (.iconst 0, 0, 0, 0)) (cod_270 rfl) rfl rfl rfl ?_
                exact H25
              · have H26 := H24.2 h
                refine x_s (q := (.iconst 1, 0, 0, 0)) (cod_270 rfl) rfl rfl rfl ?_
                refine x_go (tgt := 127) (cod_270 rfl) (by decide) ?_
                exact H26
      · have H12 := H10.2 h
        refine x_go (tgt := 272) (cod_270 rfl) (by decide) ?_
        refine x_s (q := (.iinc 5 1, 0, 0, 0)) (cod_270 rfl) rfl rfl rfl ?_
        refine x_go (tgt := 31) (cod_270 rfl) (by decide) ?_
        exact H12
set_option maxRecDepth 100000 in
theorem w270_127 {m : Mm} {K : Int → Mm → Prop} (a1 : Int) (a2 : Int) (a3 : Int) (a4 : Int) (a5 : Int) (a6 : Int) (ua7 : aV) (ua8 : aV) (s0 : Int) 
  (H : (s0 = 0 → (a4 = 0 → (s0 = 0 → X 270 31 [(1, 597), (0, a1), (0, a2), (0, a3), (0, 0), (0, wr (a5 + 1)), (0, a6), (0, s0), ua8] [] m (qI K)) ∧ (¬ s0 = 0 → X 270 31 [(1, 597), (0, a1), (0, a2), (0, a3), (0, 1), (0, wr (a5 + 1)), (0, a6), (0, s0), ua8] [] m (qI K))) ∧ (¬ a4 = 0 → X 270 31 [(1, 597), (0, a1), (0, a2), (0, a3), (0, 1), (0, wr (a5 + 1)), (0, a6), (0, s0), ua8] [] m (qI K))) ∧ (¬ s0 = 0 → (0 ≤ (wr (31 * (wr (a6 + 1)))) ∧ (wr (31 * (wr (a6 + 1)))) < 279) ∧ ∀ m9, m9 = umem m 624 (wr (31 * (wr (a6 + 1)))) 1 → (a4 = 0 → (s0 = 0 → X 270 31 [(1, 597), (0, a1), (0, a2), (0, a3), (0, 0), (0, wr (a5 + 1)), (0, a6), (0, s0), ua8] [] m9 (qI K)) ∧ (¬ s0 = 0 → X 270 31 [(1, 597), (0, a1), (0, a2), (0, a3), (0, 1), (0, wr (a5 + 1)), (0, a6), (0, s0), ua8] [] m9 (qI K))) ∧ (¬ a4 = 0 → X 270 31 [(1, 597), (0, a1), (0, a2), (0, a3), (0, 1), (0, wr (a5 + 1)), (0, a6), (0, s0), ua8] [] m9 (qI K)))) : X 270 127 [(1, 597), (0, a1), (0, a2), (0, a3), (0, a4), (0, a5), (0, a6), ua7, ua8] [(0, s0)] m (qI K) := by
  refine x_s (q := (.istore 7, 0, 0, 0)) (cod_270 rfl) rfl rfl rfl ?_
  refine x_s (q := (.iload 7, 0, 0, 0)) (cod_270 rfl) rfl rfl rfl ?_
  refine x_if (p := s0 = 0) (tgt := 147) (cod_270 rfl) (by decide) xj_eq (fun h => ?_) (fun h => ?_)
  · have H1 := H.1 h
    refine x_s (q := (.iload 4, 0, 0, 0)) (cod_270 rfl) rfl rfl rfl ?_
    refine x_if (p := ¬ a4 = 0) (tgt := 157) (cod_270 rfl) (by decide) xj_ne (fun h => ?_) (fun h => ?_)
    · have H3 := H1.2 h
      refine x_s (q := (.iconst 1, 0, 0, 0)) (cod_270 rfl) rfl rfl rfl ?_
      refine x_go (tgt := 162) (cod_270 rfl) (by decide) ?_
      refine x_s (q := (.istore 4, 0, 0, 0)) (cod_270 rfl) rfl rfl rfl ?_
      refine x_go (tgt := 272) (cod_270 rfl) (by decide) ?_
      refine x_s (q := (.iinc 5 1, 0, 0, 0)) (cod_270 rfl) rfl rfl rfl ?_
      refine x_go (tgt := 31) (cod_270 rfl) (by decide) ?_
      exact H3
    · have H4 := H1.1 (Classical.not_not.mp h)
      refine x_s (q := (.iload 7, 0, 0, 0)) (cod_270 rfl) rfl rfl rfl ?_
      refine x_if (p := s0 = 0) (tgt := 161) (cod_270 rfl) (by decide) xj_eq (fun h => ?_) (fun h => ?_)
      · have H5 := H4.1 h
        refine x_s (q := (.iconst 0, 0, 0, 0)) (cod_270 rfl) rfl rfl rfl ?_
        refine x_s (q := (.istore 4, 0, 0, 0)) (cod_270 rfl) rfl rfl rfl ?_
        refine x_go (tgt := 272) (cod_270 rfl) (by decide) ?_
        refine x_s (q := (.iinc 5 1, 0, 0, 0)) (cod_270 rfl) rfl rfl rfl ?_
        refine x_go (tgt := 31) (cod_270 rfl) (by decide) ?_
        exact H5
      · have H6 := H4.2 h
        refine x_s (q := (.iconst 1, 0, 0, 0)) (cod_270 rfl) rfl rfl rfl ?_
        refine x_go (tgt := 162) (cod_270 rfl) (by decide) ?_
        refine x_s (q := (.istore 4, 0, 0, 0)) (cod_270 rfl) rfl rfl rfl ?_
        refine x_go (tgt := 272) (cod_270 rfl) (by decide) ?_
        refine x_s (q := (.iinc 5 1, 0, 0, 0)) (cod_270 rfl) rfl rfl rfl ?_
        refine x_go (tgt := 31) (cod_270 rfl) (by decide) ?_
        exact H6
  · have H2 := H.2 h
    refine x_s (q := (.aload_n 0, 0, 0, 0)) (cod_270 rfl) rfl rfl rfl ?_
    refine x_gc (kk := 49) (c := 624) (t := 1) (cod_270 rfl) sq_p_597 sq_l_597_49 rfl rfl ?_
    refine x_s (q := (.bipush 31, 0, 0, 0)) (cod_270 rfl) rfl rfl rfl ?_
    refine x_s (q := (.iload 6, 0, 0, 0)) (cod_270 rfl) rfl rfl rfl ?_
    refine x_s (q := (.iconst 1, 0, 0, 0)) (cod_270 rfl) rfl rfl rfl ?_
    refine x_s (q := (.iadd, 0, 0, 0)) (cod_270 rfl) rfl rfl rfl ?_
    refine x_s (q := (.imul, 0, 0, 0)) (cod_270 rfl) rfl rfl rfl ?_
    refine x_s (q := (.iconst 1, 0, 0, 0)) (cod_270 rfl) rfl rfl rfl ?_
    obtain ⟨c7, H8⟩ := H2
    refine x_bast (cod_270 rfl) sq_a_624.s (sq_a_624.k c7.1 c7.2) (by decide) ?_
    have H10 := H8 _ rfl
    generalize umem m 624 (wr (31 * (wr (a6 + 1)))) 1 = m9 at H10 ⊢
    refine x_s (q := (.iload 4, 0, 0, 0)) (cod_270 rfl) rfl rfl rfl ?_
    refine x_if (p := ¬ a4 = 0) (tgt := 157) (cod_270 rfl) (by decide) xj_ne (fun h => ?_) (fun h => ?_)
    · have H11 := H10.2 h
      refine x_s (q := (.iconst 1, 0, 0, 0)) (cod_270 rfl) rfl rfl rfl ?_
      refine x_go (tgt := 162) (cod_270 rfl) (by decide) ?_
      refine x_s (q := (.istore 4, 0, 0, 0)) (cod_270 rfl) rfl rfl rfl ?_
      refine x_go (tgt := 272) (cod_270 rfl) (by decide) ?_
      refine x_s (q := (.iinc 5 1, 0, 0, 0)) (cod_270 rfl) rfl rfl rfl ?_
      refine x_go (tgt := 31) (cod_270 rfl) (by decide) ?_
      exact H11
    · have H12 := H10.1 (Classical.not_not.mp h)
      refine x_s (q := (.iload 7, 0, 0, 0)) (cod_270 rfl) rfl rfl rfl ?_
      refine x_if (p := s0 = 0) (tgt := 161) (cod_270 rfl) (by decide) xj_eq (fun h => ?_) (fun h => ?_)
      · have H13 := H12.1 h
        refine x_s (q := (.iconst 0, 0, 0, 0)) (cod_270 rfl) rfl rfl rfl ?_
        refine x_s (q := (.istore 4, 0, 0, 0)) (cod_270 rfl) rfl rfl rfl ?_
        refine x_go (tgt := 272) (cod_270 rfl) (by decide) ?_
        refine x_s (q := (.iinc 5 1, 0, 0, 0)) (cod_270 rfl) rfl rfl rfl ?_
        refine x_go (tgt := 31) (cod_270 rfl) (by decide) ?_
        exact H13
      · have H14 := H12.2 h
        refine x_s (q := (.iconst 1, 0, 0, 0)) (cod_270 rfl) rfl rfl rfl ?_
        refine x_go (tgt := 162) (cod_270 rfl) (by decide) ?_
        refine x_s (q := (.istore 4, 0, 0, 0)) (cod_270 rfl) rfl rfl rfl ?_
        refine x_go (tgt := 272) (cod_270 rfl) (by decide) ?_
        refine x_s (q := (.iinc 5 1, 0, 0, 0)) (cod_270 rfl) rfl rfl rfl ?_
        refine x_go (tgt := 31) (cod_270 rfl) (by decide) ?_
        exact H14
set_option maxRecDepth 100000 in
theorem w270_170 {m : Mm} {K : Int → Mm → Prop} (a1 : Int) (a2 : Int) (a3 : Int) (a4 : Int) (a5 : Int) (a6 : Int) (a7 : Int) (ua8 : aV) 
  (H : m 597 16 = 0 ∧ (a7 < (m 602 578) → (m 597 16 = 0 ∧ 0 ≤ (wr (11 * a7)) ∧ (wr (11 * a7)) < 1166) ∧ ((m 602 (wr (11 * a7))) = (wr (a2 - 32)) → TrI 268 [(1, 597), (0, a7), (0, a1), (0, a6)] m fun v11 m9 => (v11 = 0 → X 270 170 [(1, 597), (0, a1), (0, a2), (0, a3), (0, a4), (0, a5), (0, a6), (0, wr (a7 + 1)), ua8] [] m9 (qI K)) ∧ (¬ v11 = 0 → v_B m9 a7 a1 a6 ∧ (m9 597 16 = 0 ∧ 0 ≤ (wr ((wr (11 * a7)) + 3)) ∧ (wr ((wr (11 * a7)) + 3)) < 1166) ∧ (0 ≤ (wr ((wr (279 * a3)) + (wr ((wr (31 * (bhd m9 a7 a1 a6))) + (m9 602 (wr ((wr (11 * a7)) + 3))))))) ∧ (wr ((wr (279 * a3)) + (wr ((wr (31 * (bhd m9 a7 a1 a6))) + (m9 602 (wr ((wr (11 * a7)) + 3))))))) < 2511) ∧ ((m9 620 (wr ((wr (279 * a3)) + (wr ((wr (31 * (bhd m9 a7 a1 a6))) + (m9 602 (wr ((wr (11 * a7)) + 3)))))))) = 0 → X 270 170 [(1, 597), (0, a1), (0, a2), (0, a3), (0, a4), (0, a5), (0, a6), (0, wr (a7 + 1)), (0, wr ((wr (31 * (bhd m9 a7 a1 a6))) + (m9 602 (wr ((wr (11 * a7)) + 3)))))] [] m9 (qI K)) ∧ (¬ (m9 620 (wr ((wr (279 * a3)) + (wr ((wr (31 * (bhd m9 a7 a1 a6))) + (m9 602 (wr ((wr (11 * a7)) + 3)))))))) = 0 → (0 ≤ (wr ((wr (31 * (bhd m9 a7 a1 a6))) + (m9 602 (wr ((wr (11 * a7)) + 3))))) ∧ (wr ((wr (31 * (bhd m9 a7 a1 a6))) + (m9 602 (wr ((wr (11 * a7)) + 3))))) < 279) ∧ ∀ m24, m24 = umem m9 624 (wr ((wr (31 * (bhd m9 a7 a1 a6))) + (m9 602 (wr ((wr (11 * a7)) + 3))))) 1 → X 270 170 [(1, 597), (0, a1), (0, a2), (0, a3), (0, 1), (0, a5), (0, a6), (0, wr (a7 + 1)), (0, wr ((wr (31 * (bhd m9 a7 a1 a6))) + (m9 602 (wr ((wr (11 * a7)) + 3)))))] [] m24 (qI K)))) ∧ (¬ (m 602 (wr (11 * a7))) = (wr (a2 - 32)) → X 270 170 [(1, 597), (0, a1), (0, a2), (0, a3), (0, a4), (0, a5), (0, a6), (0, wr (a7 + 1)), ua8] [] m (qI K))) ∧ (¬ a7 < (m 602 578) → X 270 31 [(1, 597), (0, a1), (0, a2), (0, a3), (0, a4), (0, wr (a5 + 1)), (0, a6), (0, a7), ua8] [] m (qI K))) : X 270 170 [(1, 597), (0, a1), (0, a2), (0, a3), (0, a4), (0, a5), (0, a6), (0, a7), ua8] [] m (qI K) := by
  refine x_s (q := (.iload 7, 0, 0, 0)) (cod_270 rfl) rfl rfl rfl ?_
  refine x_s (q := (.aload_n 0, 0, 0, 0)) (cod_270 rfl) rfl rfl rfl ?_
  refine x_call (as := [(1, 597)]) (rest := [(0, a7)]) (cod_270 rfl) rfl rfl (by decide) (by decide) rfl rfl (Nat.le_of_ble_eq_true rfl) (rcv0 sq_l_597_0 sq_p_597 (by decide)) (Nat.le_of_ble_eq_true rfl) ?_
  show X 181 0 [(1, 597)] [] m _
  refine x_s (q := (.aload_n 0, 0, 0, 0)) (cod_181 rfl) rfl rfl rfl ?_
  refine x_s (q := (.sipush 578, 0, 0, 0)) (cod_181 rfl) rfl rfl rfl ?_
  obtain ⟨c1, H2⟩ := H
  refine x_call (as := [(1, 597), (0, 578)]) (rest := []) (cod_181 rfl) rfl rfl (by decide) (by decide) rfl rfl (Nat.le_of_ble_eq_true rfl) (rcv0 sq_l_597_0 sq_p_597 (by decide)) (Nat.le_of_ble_eq_true rfl) ?_
  refine x_pure (p182a (by decide) c1) ?_
  show X 181 7 [(1, 597)] [(0, m 602 578)] m _
  refine x_rI (t := .int) (cod_181 rfl) rfl rfl rfl ?_
  show X 270 176 [(1, 597), (0, a1), (0, a2), (0, a3), (0, a4), (0, a5), (0, a6), (0, a7), ua8] [(0, m 602 578), (0, a7)] m _
  refine x_ic (p := ¬ a7 < (m 602 578)) (tgt := 272) (cod_270 rfl) (by decide) xn_ge (fun h => ?_) (fun h => ?_)
  · have H3 := H2.2 h
    refine x_s (q := (.iinc 5 1, 0, 0, 0)) (cod_270 rfl) rfl rfl rfl ?_
    refine x_go (tgt := 31) (cod_270 rfl) (by decide) ?_
    exact H3
  · have H4 := H2.1 (Classical.not_not.mp h)
    refine x_s (q := (.aload_n 0, 0, 0, 0)) (cod_270 rfl) rfl rfl rfl ?_
    refine x_s (q := (.bipush 11, 0, 0, 0)) (cod_270 rfl) rfl rfl rfl ?_
    refine x_s (q := (.iload 7, 0, 0, 0)) (cod_270 rfl) rfl rfl rfl ?_
    refine x_s (q := (.imul, 0, 0, 0)) (cod_270 rfl) rfl rfl rfl ?_
    obtain ⟨c5, H6⟩ := H4
    refine x_call (as := [(1, 597), (0, wr (11 * a7))]) (rest := []) (cod_270 rfl) rfl rfl (by decide) (by decide) rfl rfl (Nat.le_of_ble_eq_true rfl) (rcv0 sq_l_597_0 sq_p_597 (by decide)) (Nat.le_of_ble_eq_true rfl) ?_
    refine x_pure (p182ax c5) ?_
    show X 270 188 [(1, 597), (0, a1), (0, a2), (0, a3), (0, a4), (0, a5), (0, a6), (0, a7), ua8] [(0, m 602 (wr (11 * a7)))] m _
    refine x_s (q := (.iload_n 2, 0, 0, 0)) (cod_270 rfl) rfl rfl rfl ?_
    refine x_s (q := (.bipush 32, 0, 0, 0)) (cod_270 rfl) rfl rfl rfl ?_
    refine x_s (q := (.isub, 0, 0, 0)) (cod_270 rfl) rfl rfl rfl ?_
    refine x_ic (p := ¬ (m 602 (wr (11 * a7))) = (wr (a2 - 32))) (tgt := 266) (cod_270 rfl) (by decide) xj_ne (fun h => ?_) (fun h => ?_)
    · have H7 := H6.2 h
      refine x_s (q := (.iinc 7 1, 0, 0, 0)) (cod_270 rfl) rfl rfl rfl ?_
      refine x_go (tgt := 170) (cod_270 rfl) (by decide) ?_
      exact H7
    · have H8 := H6.1 (Classical.not_not.mp h)
      refine x_s (q := (.aload_n 0, 0, 0, 0)) (cod_270 rfl) rfl rfl rfl ?_
      refine x_s (q := (.iload 7, 0, 0, 0)) (cod_270 rfl) rfl rfl rfl ?_
      refine x_s (q := (.iload_n 1, 0, 0, 0)) (cod_270 rfl) rfl rfl rfl ?_
      refine x_s (q := (.iload 6, 0, 0, 0)) (cod_270 rfl) rfl rfl rfl ?_
      refine x_call (as := [(1, 597), (0, a7), (0, a1), (0, a6)]) (rest := []) (cod_270 rfl) rfl rfl (by decide) (by decide) rfl rfl (Nat.le_of_ble_eq_true rfl) (rcv0 sq_l_597_0 sq_p_597 (by decide)) (Nat.le_of_ble_eq_true rfl) ?_
      refine X.imp H8 ?_
      rintro _ m9 ⟨v11, rfl, H10⟩
      show X 270 204 [(1, 597), (0, a1), (0, a2), (0, a3), (0, a4), (0, a5), (0, a6), (0, a7), ua8] [(0, v11)] m9 _
      refine x_if (p := ¬ v11 = 0) (tgt := 210) (cod_270 rfl) (by decide) xj_ne (fun h => ?_) (fun h => ?_)
      · have H12 := H10.2 h
        refine x_s (q := (.bipush 31, 0, 0, 0)) (cod_270 rfl) rfl rfl rfl ?_
        refine x_s (q := (.aload_n 0, 0, 0, 0)) (cod_270 rfl) rfl rfl rfl ?_
        refine x_s (q := (.iload 7, 0, 0, 0)) (cod_270 rfl) rfl rfl rfl ?_
        refine x_s (q := (.iload_n 1, 0, 0, 0)) (cod_270 rfl) rfl rfl rfl ?_
        refine x_s (q := (.iload 6, 0, 0, 0)) (cod_270 rfl) rfl rfl rfl ?_
        obtain ⟨c14, H15⟩ := H12
        refine x_call (as := [(1, 597), (0, a7), (0, a1), (0, a6)]) (rest := [(0, 31)]) (cod_270 rfl) rfl rfl (by decide) (by decide) rfl rfl (Nat.le_of_ble_eq_true rfl) (rcv0 sq_l_597_0 sq_p_597 (by decide)) (Nat.le_of_ble_eq_true rfl) ?_
        refine x_pure (p231 c14) ?_
        show X 270 221 [(1, 597), (0, a1), (0, a2), (0, a3), (0, a4), (0, a5), (0, a6), (0, a7), ua8] [(0, bhd m9 a7 a1 a6), (0, 31)] m9 _
        refine x_s (q := (.imul, 0, 0, 0)) (cod_270 rfl) rfl rfl rfl ?_
        refine x_s (q := (.aload_n 0, 0, 0, 0)) (cod_270 rfl) rfl rfl rfl ?_
        refine x_s (q := (.bipush 11, 0, 0, 0)) (cod_270 rfl) rfl rfl rfl ?_
        refine x_s (q := (.iload 7, 0, 0, 0)) (cod_270 rfl) rfl rfl rfl ?_
        refine x_s (q := (.imul, 0, 0, 0)) (cod_270 rfl) rfl rfl rfl ?_
        refine x_s (q := (.iconst 3, 0, 0, 0)) (cod_270 rfl) rfl rfl rfl ?_
        refine x_s (q := (.iadd, 0, 0, 0)) (cod_270 rfl) rfl rfl rfl ?_
        obtain ⟨c16, H17⟩ := H15
        refine x_call (as := [(1, 597), (0, wr ((wr (11 * a7)) + 3))]) (rest := [(0, wr (31 * (bhd m9 a7 a1 a6)))]) (cod_270 rfl) rfl rfl (by decide) (by decide) rfl rfl (Nat.le_of_ble_eq_true rfl) (rcv0 sq_l_597_0 sq_p_597 (by decide)) (Nat.le_of_ble_eq_true rfl) ?_
        refine x_pure (p182ax c16) ?_
        show X 270 233 [(1, 597), (0, a1), (0, a2), (0, a3), (0, a4), (0, a5), (0, a6), (0, a7), ua8] [(0, m9 602 (wr ((wr (11 * a7)) + 3))), (0, wr (31 * (bhd m9 a7 a1 a6)))] m9 _
        refine x_s (q := (.iadd, 0, 0, 0)) (cod_270 rfl) rfl rfl rfl ?_
        refine x_s (q := (.istore 8, 0, 0, 0)) (cod_270 rfl) rfl rfl rfl ?_
        refine x_s (q := (.aload_n 0, 0, 0, 0)) (cod_270 rfl) rfl rfl rfl ?_
        refine x_gc (kk := 45) (c := 620) (t := 1) (cod_270 rfl) sq_p_597 sq_l_597_45 rfl rfl ?_
        refine x_s (q := (.sipush 279, 0, 0, 0)) (cod_270 rfl) rfl rfl rfl ?_
        refine x_s (q := (.iload_n 3, 0, 0, 0)) (cod_270 rfl) rfl rfl rfl ?_
        refine x_s (q := (.imul, 0, 0, 0)) (cod_270 rfl) rfl rfl rfl ?_
        refine x_s (q := (.iload 8, 0, 0, 0)) (cod_270 rfl) rfl rfl rfl ?_
        refine x_s (q := (.iadd, 0, 0, 0)) (cod_270 rfl) rfl rfl rfl ?_
        obtain ⟨c18, H19⟩ := H17
        refine x_bald (cod_270 rfl) sq_a_620.s (sq_a_620.k c18.1 c18.2) ?_
        refine x_if (p := ¬ (m9 620 (wr ((wr (279 * a3)) + (wr ((wr (31 * (bhd m9 a7 a1 a6))) + (m9 602 (wr ((wr (11 * a7)) + 3)))))))) = 0) (tgt := 255) (cod_270 rfl) (by decide) xj_ne (fun h => ?_) (fun h => ?_)
        · have H20 := H19.2 h
          refine x_s (q := (.aload_n 0, 0, 0, 0)) (cod_270 rfl) rfl rfl rfl ?_
          refine x_gc (kk := 49) (c := 624) (t := 1) (cod_270 rfl) sq_p_597 sq_l_597_49 rfl rfl ?_
          refine x_s (q := (.iload 8, 0, 0, 0)) (cod_270 rfl) rfl rfl rfl ?_
          refine x_s (q := (.iconst 1, 0, 0, 0)) (cod_270 rfl) rfl rfl rfl ?_
          obtain ⟨c22, H23⟩ := H20
          refine x_bast (cod_270 rfl) sq_a_624.s (sq_a_624.k c22.1 c22.2) (by decide) ?_
          have H25 := H23 _ rfl
          generalize umem m9 624 (wr ((wr (31 * (bhd m9 a7 a1 a6))) + (m9 602 (wr ((wr (11 * a7)) + 3))))) 1 = m24 at H25 ⊢
          refine x_s (q := (.iconst 1, 0, 0, 0)) (cod_270 rfl) rfl rfl rfl ?_
          refine x_s (q := (.istore 4, 0, 0, 0)) (cod_270 rfl) rfl rfl rfl ?_
          refine x_s (q := (.iinc 7 1, 0, 0, 0)) (cod_270 rfl) rfl rfl rfl ?_
          refine x_go (tgt := 170) (cod_270 rfl) (by decide) ?_
          exact H25
        · have H21 := H19.1 (Classical.not_not.mp h)
          refine x_go (tgt := 266) (cod_270 rfl) (by decide) ?_
          refine x_s (q := (.iinc 7 1, 0, 0, 0)) (cod_270 rfl) rfl rfl rfl ?_
          refine x_go (tgt := 170) (cod_270 rfl) (by decide) ?_
          exact H21
      · have H13 := H10.1 (Classical.not_not.mp h)
        refine x_go (tgt := 266) (cod_270 rfl) (by decide) ?_
        refine x_s (q := (.iinc 7 1, 0, 0, 0)) (cod_270 rfl) rfl rfl rfl ?_
        refine x_go (tgt := 170) (cod_270 rfl) (by decide) ?_
        exact H13
set_option maxRecDepth 100000 in
theorem w271_0 {m : Mm} {K : Int → Mm → Prop} (a1 : Int) (a2 : Int) 
  (H : ∀ m1, m1 = umem m 597 0 0 → m1 597 16 = 0 ∧ ((0 ≤ a1 ∧ a1 ≤ (wr ((m1 602 579) - 1))) → (a2 < 0 → K (-1) m1) ∧ (¬ a2 < 0 → TrI 264 [(1, 597), (0, a1)] m1 fun v11 m9 => (a2 < v11 → (0 ≤ a2 ∧ a2 < 8) ∧ TrI 211 [(1, 597), (0, m9 622 a2)] m9 fun v18 m16 => K v18 m16) ∧ (¬ a2 < v11 → K (-2) m9))) ∧ (¬ (0 ≤ a1 ∧ a1 ≤ (wr ((m1 602 579) - 1))) → K (-1) m1)) : X 271 0 [(1, 597), (0, a1), (0, a2)] [] m (qI K) := by
  refine x_s (q := (.aload_n 0, 0, 0, 0)) (cod_271 rfl) rfl rfl rfl ?_
  refine x_s (q := (.iconst 0, 0, 0, 0)) (cod_271 rfl) rfl rfl rfl ?_
  refine x_pf (kk := 0) (t := 0) (cod_271 rfl) sq_p_597 sq_l_597_0 rfl rfl rfl ?_
  have H2 := H _ rfl
  generalize umem m 597 0 0 = m1 at H2 ⊢
  refine x_s (q := (.aload_n 0, 0, 0, 0)) (cod_271 rfl) rfl rfl rfl ?_
  refine x_s (q := (.iload_n 1, 0, 0, 0)) (cod_271 rfl) rfl rfl rfl ?_
  refine x_call (as := [(1, 597), (0, a1)]) (rest := []) (cod_271 rfl) rfl rfl (by decide) (by decide) rfl rfl (Nat.le_of_ble_eq_true rfl) (rcv0 sq_l_597_0 sq_p_597 (by decide)) (Nat.le_of_ble_eq_true rfl) ?_
  show X 205 0 [(1, 597), (0, a1)] [] m1 _
  refine x_s (q := (.iload_n 1, 0, 0, 0)) (cod_205 rfl) rfl rfl rfl ?_
  refine x_s (q := (.iconst 0, 0, 0, 0)) (cod_205 rfl) rfl rfl rfl ?_
  refine x_s (q := (.aload_n 0, 0, 0, 0)) (cod_205 rfl) rfl rfl rfl ?_
  refine x_call (as := [(1, 597)]) (rest := [(0, 0), (0, a1)]) (cod_205 rfl) rfl rfl (by decide) (by decide) rfl rfl (Nat.le_of_ble_eq_true rfl) (rcv0 sq_l_597_0 sq_p_597 (by decide)) (Nat.le_of_ble_eq_true rfl) ?_
  show X 186 0 [(1, 597)] [] m1 _
  refine x_s (q := (.aload_n 0, 0, 0, 0)) (cod_186 rfl) rfl rfl rfl ?_
  refine x_s (q := (.sipush 579, 0, 0, 0)) (cod_186 rfl) rfl rfl rfl ?_
  obtain ⟨c3, H4⟩ := H2
  refine x_call (as := [(1, 597), (0, 579)]) (rest := []) (cod_186 rfl) rfl rfl (by decide) (by decide) rfl rfl (Nat.le_of_ble_eq_true rfl) (rcv0 sq_l_597_0 sq_p_597 (by decide)) (Nat.le_of_ble_eq_true rfl) ?_
  refine x_pure (p182a (by decide) c3) ?_
  show X 186 7 [(1, 597)] [(0, m1 602 579)] m1 _
  refine x_rI (t := .int) (cod_186 rfl) rfl rfl rfl ?_
  show X 205 6 [(1, 597), (0, a1)] [(0, m1 602 579), (0, 0), (0, a1)] m1 _
  refine x_s (q := (.iconst 1, 0, 0, 0)) (cod_205 rfl) rfl rfl rfl ?_
  refine x_s (q := (.isub, 0, 0, 0)) (cod_205 rfl) rfl rfl rfl ?_
  refine x_call (as := [(0, a1), (0, 0), (0, wr ((m1 602 579) - 1))]) (rest := []) (cod_205 rfl) rfl rfl (by decide) (by decide) rfl rfl (Nat.le_of_ble_eq_true rfl) rfl (Nat.le_of_ble_eq_true rfl) ?_
  refine x_pure (p172) ?_
  show X 205 11 [(1, 597), (0, a1)] [(0, bi (0 ≤ a1 ∧ a1 ≤ (wr ((m1 602 579) - 1))))] m1 _
  refine x_rI (t := .boolean) (cod_205 rfl) rfl rfl (bok_b (bi_01 _)) ?_
  show X 271 10 [(1, 597), (0, a1), (0, a2)] [(0, bi (0 ≤ a1 ∧ a1 ≤ (wr ((m1 602 579) - 1))))] m1 _
  refine x_if (p := ¬ (0 ≤ a1 ∧ a1 ≤ (wr ((m1 602 579) - 1)))) (tgt := 17) (cod_271 rfl) (by decide) xb_eq (fun h => ?_) (fun h => ?_)
  · have H5 := H4.2 h
    refine x_s (q := (.iconst (-1), 0, 0, 0)) (cod_271 rfl) rfl rfl rfl ?_
    refine x_retI (t := .int) (cod_271 rfl) rfl rfl rfl ?_
    exact H5
  · have H6 := H4.1 (Classical.not_not.mp h)
    refine x_s (q := (.iload_n 2, 0, 0, 0)) (cod_271 rfl) rfl rfl rfl ?_
    refine x_if (p := ¬ a2 < 0) (tgt := 19) (cod_271 rfl) (by decide) xn_ge (fun h => ?_) (fun h => ?_)
    · have H7 := H6.2 h
      refine x_s (q := (.iload_n 2, 0, 0, 0)) (cod_271 rfl) rfl rfl rfl ?_
      refine x_s (q := (.aload_n 0, 0, 0, 0)) (cod_271 rfl) rfl rfl rfl ?_
      refine x_s (q := (.iload_n 1, 0, 0, 0)) (cod_271 rfl) rfl rfl rfl ?_
      refine x_call (as := [(1, 597), (0, a1)]) (rest := [(0, a2)]) (cod_271 rfl) rfl rfl (by decide) (by decide) rfl rfl (Nat.le_of_ble_eq_true rfl) (rcv0 sq_l_597_0 sq_p_597 (by decide)) (Nat.le_of_ble_eq_true rfl) ?_
      refine X.imp H7 ?_
      rintro _ m9 ⟨v11, rfl, H10⟩
      show X 271 25 [(1, 597), (0, a1), (0, a2)] [(0, v11), (0, a2)] m9 _
      refine x_ic (p := ¬ a2 < v11) (tgt := 41) (cod_271 rfl) (by decide) xn_ge (fun h => ?_) (fun h => ?_)
      · have H12 := H10.2 h
        refine x_s (q := (.bipush (-2), 0, 0, 0)) (cod_271 rfl) rfl rfl rfl ?_
        refine x_retI (t := .int) (cod_271 rfl) rfl rfl rfl ?_
        exact H12
      · have H13 := H10.1 (Classical.not_not.mp h)
        refine x_s (q := (.aload_n 0, 0, 0, 0)) (cod_271 rfl) rfl rfl rfl ?_
        refine x_s (q := (.aload_n 0, 0, 0, 0)) (cod_271 rfl) rfl rfl rfl ?_
        refine x_gc (kk := 47) (c := 622) (t := 1) (cod_271 rfl) sq_p_597 sq_l_597_47 rfl rfl ?_
        refine x_s (q := (.iload_n 2, 0, 0, 0)) (cod_271 rfl) rfl rfl rfl ?_
        obtain ⟨c14, H15⟩ := H13
        refine x_iald (cod_271 rfl) sq_a_622.s (sq_a_622.k c14.1 c14.2) ?_
        refine x_call (as := [(1, 597), (0, m9 622 a2)]) (rest := []) (cod_271 rfl) rfl rfl (by decide) (by decide) rfl rfl (Nat.le_of_ble_eq_true rfl) (rcv0 sq_l_597_0 sq_p_597 (by decide)) (Nat.le_of_ble_eq_true rfl) ?_
        refine X.imp H15 ?_
        rintro _ m16 ⟨v18, rfl, H17⟩
        show X 271 38 [(1, 597), (0, a1), (0, a2)] [(0, v18)] m16 _
        refine x_go (tgt := 43) (cod_271 rfl) (by decide) ?_
        refine x_retI (t := .int) (cod_271 rfl) rfl rfl rfl ?_
        exact H17
    · have H8 := H6.1 (Classical.not_not.mp h)
      refine x_s (q := (.iconst (-1), 0, 0, 0)) (cod_271 rfl) rfl rfl rfl ?_
      refine x_retI (t := .int) (cod_271 rfl) rfl rfl rfl ?_
      exact H8
theorem e271 {m : Mm} {K : Int → Mm → Prop} (a1 : Int) (a2 : Int) 
  (H : ∀ m1, m1 = umem m 597 0 0 → m1 597 16 = 0 ∧ ((0 ≤ a1 ∧ a1 ≤ (wr ((m1 602 579) - 1))) → (a2 < 0 → K (-1) m1) ∧ (¬ a2 < 0 → TrI 264 [(1, 597), (0, a1)] m1 fun v11 m9 => (a2 < v11 → (0 ≤ a2 ∧ a2 < 8) ∧ TrI 211 [(1, 597), (0, m9 622 a2)] m9 fun v18 m16 => K v18 m16) ∧ (¬ a2 < v11 → K (-2) m9))) ∧ (¬ (0 ≤ a1 ∧ a1 ≤ (wr ((m1 602 579) - 1))) → K (-1) m1)) : TrI 271 [(1, 597), (0, a1), (0, a2)] m K := by
  exact w271_0 a1 a2 H
set_option maxRecDepth 100000 in
theorem w272_0 {m : Mm} {K : Int → Mm → Prop}  
  (H : ∀ m1, m1 = umem m 597 0 0 → TrI 254 [(1, 597)] m1 fun v5 m3 => (v5 < 0 → K (-2) m3) ∧ (¬ v5 < 0 → TrV 273 [(1, 597)] m3 fun m8 => X 272 23 [(1, 597), (0, v5), (0, 0), (9, 0)] [] m8 (qI K))) : X 272 0 [(1, 597), (9, 0), (9, 0), (9, 0)] [] m (qI K) := by
  refine x_s (q := (.aload_n 0, 0, 0, 0)) (cod_272 rfl) rfl rfl rfl ?_
  refine x_s (q := (.iconst 0, 0, 0, 0)) (cod_272 rfl) rfl rfl rfl ?_
  refine x_pf (kk := 0) (t := 0) (cod_272 rfl) sq_p_597 sq_l_597_0 rfl rfl rfl ?_
  have H2 := H _ rfl
  generalize umem m 597 0 0 = m1 at H2 ⊢
  refine x_s (q := (.aload_n 0, 0, 0, 0)) (cod_272 rfl) rfl rfl rfl ?_
  refine x_call (as := [(1, 597)]) (rest := []) (cod_272 rfl) rfl rfl (by decide) (by decide) rfl rfl (Nat.le_of_ble_eq_true rfl) (rcv0 sq_l_597_0 sq_p_597 (by decide)) (Nat.le_of_ble_eq_true rfl) ?_
  refine X.imp H2 ?_
  rintro _ m3 ⟨v5, rfl, H4⟩
  show X 272 9 [(1, 597), (9, 0), (9, 0), (9, 0)] [(0, v5)] m3 _
  refine x_s (q := (.istore_n 1, 0, 0, 0)) (cod_272 rfl) rfl rfl rfl ?_
  refine x_s (q := (.iload_n 1, 0, 0, 0)) (cod_272 rfl) rfl rfl rfl ?_
  refine x_if (p := ¬ v5 < 0) (tgt := 17) (cod_272 rfl) (by decide) xn_ge (fun h => ?_) (fun h => ?_)
  · have H6 := H4.2 h
    refine x_s (q := (.aload_n 0, 0, 0, 0)) (cod_272 rfl) rfl rfl rfl ?_
    refine x_call (as := [(1, 597)]) (rest := []) (cod_272 rfl) rfl rfl (by decide) (by decide) rfl rfl (Nat.le_of_ble_eq_true rfl) (rcv0 sq_l_597_0 sq_p_597 (by decide)) (Nat.le_of_ble_eq_true rfl) ?_
    refine X.imp H6 ?_
    rintro _ m8 ⟨rfl, H9⟩
    show X 272 21 [(1, 597), (0, v5), (9, 0), (9, 0)] [] m8 _
    refine x_s (q := (.iconst 0, 0, 0, 0)) (cod_272 rfl) rfl rfl rfl ?_
    refine x_s (q := (.istore_n 2, 0, 0, 0)) (cod_272 rfl) rfl rfl rfl ?_
    exact H9
  · have H7 := H4.1 (Classical.not_not.mp h)
    refine x_s (q := (.bipush (-2), 0, 0, 0)) (cod_272 rfl) rfl rfl rfl ?_
    refine x_retI (t := .int) (cod_272 rfl) rfl rfl rfl ?_
    exact H7
theorem e272 {m : Mm} {K : Int → Mm → Prop}  
  (H : ∀ m1, m1 = umem m 597 0 0 → TrI 254 [(1, 597)] m1 fun v5 m3 => (v5 < 0 → K (-2) m3) ∧ (¬ v5 < 0 → TrV 273 [(1, 597)] m3 fun m8 => X 272 23 [(1, 597), (0, v5), (0, 0), (9, 0)] [] m8 (qI K))) : TrI 272 [(1, 597)] m K := by
  exact w272_0  H
set_option maxRecDepth 100000 in
theorem w272_23 {m : Mm} {K : Int → Mm → Prop} (a1 : Int) (a2 : Int) (ua3 : aV) 
  (H : m 597 16 = 0 ∧ (a2 < (m 602 578) → (0 ≤ (wr (24 + a2)) ∧ (wr (24 + a2)) < 1276) ∧ (0 ≤ a2 ∧ a2 < 24) ∧ ((wr ((m 607 (wr (24 + a2))) + (m 619 a2))) > 999 → ∀ m13, m13 = umem m 607 (wr (24 + a2)) 999 → X 272 23 [(1, 597), (0, a1), (0, wr (a2 + 1)), (0, wr ((m 607 (wr (24 + a2))) + (m 619 a2)))] [] m13 (qI K)) ∧ (¬ (wr ((m 607 (wr (24 + a2))) + (m 619 a2))) > 999 → ∀ m11, m11 = umem m 607 (wr (24 + a2)) (wr ((m 607 (wr (24 + a2))) + (m 619 a2))) → X 272 23 [(1, 597), (0, a1), (0, wr (a2 + 1)), (0, wr ((m 607 (wr (24 + a2))) + (m 619 a2)))] [] m11 (qI K))) ∧ (¬ a2 < (m 602 578) → K a1 m)) : X 272 23 [(1, 597), (0, a1), (0, a2), ua3] [] m (qI K) := by
  refine x_s (q := (.iload_n 2, 0, 0, 0)) (cod_272 rfl) rfl rfl rfl ?_
  refine x_s (q := (.aload_n 0, 0, 0, 0)) (cod_272 rfl) rfl rfl rfl ?_
  refine x_call (as := [(1, 597)]) (rest := [(0, a2)]) (cod_272 rfl) rfl rfl (by decide) (by decide) rfl rfl (Nat.le_of_ble_eq_true rfl) (rcv0 sq_l_597_0 sq_p_597 (by decide)) (Nat.le_of_ble_eq_true rfl) ?_
  show X 181 0 [(1, 597)] [] m _
  refine x_s (q := (.aload_n 0, 0, 0, 0)) (cod_181 rfl) rfl rfl rfl ?_
  refine x_s (q := (.sipush 578, 0, 0, 0)) (cod_181 rfl) rfl rfl rfl ?_
  obtain ⟨c1, H2⟩ := H
  refine x_call (as := [(1, 597), (0, 578)]) (rest := []) (cod_181 rfl) rfl rfl (by decide) (by decide) rfl rfl (Nat.le_of_ble_eq_true rfl) (rcv0 sq_l_597_0 sq_p_597 (by decide)) (Nat.le_of_ble_eq_true rfl) ?_
  refine x_pure (p182a (by decide) c1) ?_
  show X 181 7 [(1, 597)] [(0, m 602 578)] m _
  refine x_rI (t := .int) (cod_181 rfl) rfl rfl rfl ?_
  show X 272 28 [(1, 597), (0, a1), (0, a2), ua3] [(0, m 602 578), (0, a2)] m _
  refine x_ic (p := ¬ a2 < (m 602 578)) (tgt := 75) (cod_272 rfl) (by decide) xn_ge (fun h => ?_) (fun h => ?_)
  · have H3 := H2.2 h
    refine x_s (q := (.iload_n 1, 0, 0, 0)) (cod_272 rfl) rfl rfl rfl ?_
    refine x_retI (t := .int) (cod_272 rfl) rfl rfl rfl ?_
    exact H3
  · have H4 := H2.1 (Classical.not_not.mp h)
    refine x_s (q := (.aload_n 0, 0, 0, 0)) (cod_272 rfl) rfl rfl rfl ?_
    refine x_s (q := (.bipush 24, 0, 0, 0)) (cod_272 rfl) rfl rfl rfl ?_
    refine x_s (q := (.iload_n 2, 0, 0, 0)) (cod_272 rfl) rfl rfl rfl ?_
    refine x_s (q := (.iadd, 0, 0, 0)) (cod_272 rfl) rfl rfl rfl ?_
    refine x_call (as := [(1, 597), (0, wr (24 + a2))]) (rest := []) (cod_272 rfl) rfl rfl (by decide) (by decide) rfl rfl (Nat.le_of_ble_eq_true rfl) (rcv0 sq_l_597_0 sq_p_597 (by decide)) (Nat.le_of_ble_eq_true rfl) ?_
    show X 197 0 [(1, 597), (0, wr (24 + a2))] [] m _
    refine x_s (q := (.aload_n 0, 0, 0, 0)) (cod_197 rfl) rfl rfl rfl ?_
    refine x_gc (kk := 24) (c := 607) (t := 1) (cod_197 rfl) sq_p_597 sq_l_597_24 rfl rfl ?_
    refine x_s (q := (.iload_n 1, 0, 0, 0)) (cod_197 rfl) rfl rfl rfl ?_
    obtain ⟨c5, H6⟩ := H4
    refine x_iald (cod_197 rfl) sq_a_607.s (sq_a_607.k c5.1 c5.2) ?_
    refine x_rI (t := .int) (cod_197 rfl) rfl rfl rfl ?_
    show X 272 39 [(1, 597), (0, a1), (0, a2), ua3] [(0, m 607 (wr (24 + a2)))] m _
    refine x_s (q := (.aload_n 0, 0, 0, 0)) (cod_272 rfl) rfl rfl rfl ?_
    refine x_gc (kk := 44) (c := 619) (t := 1) (cod_272 rfl) sq_p_597 sq_l_597_44 rfl rfl ?_
    refine x_s (q := (.iload_n 2, 0, 0, 0)) (cod_272 rfl) rfl rfl rfl ?_
    obtain ⟨c7, H8⟩ := H6
    refine x_iald (cod_272 rfl) sq_a_619.s (sq_a_619.k c7.1 c7.2) ?_
    refine x_s (q := (.iadd, 0, 0, 0)) (cod_272 rfl) rfl rfl rfl ?_
    refine x_s (q := (.istore_n 3, 0, 0, 0)) (cod_272 rfl) rfl rfl rfl ?_
    refine x_s (q := (.aload_n 0, 0, 0, 0)) (cod_272 rfl) rfl rfl rfl ?_
    refine x_s (q := (.bipush 24, 0, 0, 0)) (cod_272 rfl) rfl rfl rfl ?_
    refine x_s (q := (.iload_n 2, 0, 0, 0)) (cod_272 rfl) rfl rfl rfl ?_
    refine x_s (q := (.iadd, 0, 0, 0)) (cod_272 rfl) rfl rfl rfl ?_
    refine x_s (q := (.iload_n 3, 0, 0, 0)) (cod_272 rfl) rfl rfl rfl ?_
    refine x_s (q := (.sipush 999, 0, 0, 0)) (cod_272 rfl) rfl rfl rfl ?_
    refine x_ic (p := ¬ (wr ((m 607 (wr (24 + a2))) + (m 619 a2))) > 999) (tgt := 65) (cod_272 rfl) (by decide) xn_le (fun h => ?_) (fun h => ?_)
    · have H9 := H8.2 h
      refine x_s (q := (.iload_n 3, 0, 0, 0)) (cod_272 rfl) rfl rfl rfl ?_
      refine x_call (as := [(1, 597), (0, wr (24 + a2)), (0, wr ((m 607 (wr (24 + a2))) + (m 619 a2)))]) (rest := []) (cod_272 rfl) rfl rfl (by decide) (by decide) rfl rfl (Nat.le_of_ble_eq_true rfl) (rcv0 sq_l_597_0 sq_p_597 (by decide)) (Nat.le_of_ble_eq_true rfl) ?_
      show X 191 0 [(1, 597), (0, wr (24 + a2)), (0, wr ((m 607 (wr (24 + a2))) + (m 619 a2)))] [] m _
      refine x_s (q := (.aload_n 0, 0, 0, 0)) (cod_191 rfl) rfl rfl rfl ?_
      refine x_gc (kk := 24) (c := 607) (t := 1) (cod_191 rfl) sq_p_597 sq_l_597_24 rfl rfl ?_
      refine x_s (q := (.iload_n 1, 0, 0, 0)) (cod_191 rfl) rfl rfl rfl ?_
      refine x_s (q := (.iload_n 2, 0, 0, 0)) (cod_191 rfl) rfl rfl rfl ?_
      refine x_iast (cod_191 rfl) sq_a_607.s (sq_a_607.k c5.1 c5.2) ?_
      have H12 := H9 _ rfl
      generalize umem m 607 (wr (24 + a2)) (wr ((m 607 (wr (24 + a2))) + (m 619 a2))) = m11 at H12 ⊢
      refine x_rV (cod_191 rfl) rfl ?_
      show X 272 69 [(1, 597), (0, a1), (0, a2), (0, wr ((m 607 (wr (24 + a2))) + (m 619 a2)))] [] m11 _
      refine x_s (q := (.iinc 2 1, 0, 0, 0)) (cod_272 rfl) rfl rfl rfl ?_
      refine x_go (tgt := 23) (cod_272 rfl) (by decide) ?_
      exact H12
    · have H10 := H8.1 (Classical.not_not.mp h)
      refine x_s (q := (.sipush 999, 0, 0, 0)) (cod_272 rfl) rfl rfl rfl ?_
      refine x_go (tgt := 66) (cod_272 rfl) (by decide) ?_
      refine x_call (as := [(1, 597), (0, wr (24 + a2)), (0, 999)]) (rest := []) (cod_272 rfl) rfl rfl (by decide) (by decide) rfl rfl (Nat.le_of_ble_eq_true rfl) (rcv0 sq_l_597_0 sq_p_597 (by decide)) (Nat.le_of_ble_eq_true rfl) ?_
      show X 191 0 [(1, 597), (0, wr (24 + a2)), (0, 999)] [] m _
      refine x_s (q := (.aload_n 0, 0, 0, 0)) (cod_191 rfl) rfl rfl rfl ?_
      refine x_gc (kk := 24) (c := 607) (t := 1) (cod_191 rfl) sq_p_597 sq_l_597_24 rfl rfl ?_
      refine x_s (q := (.iload_n 1, 0, 0, 0)) (cod_191 rfl) rfl rfl rfl ?_
      refine x_s (q := (.iload_n 2, 0, 0, 0)) (cod_191 rfl) rfl rfl rfl ?_
      refine x_iast (cod_191 rfl) sq_a_607.s (sq_a_607.k c5.1 c5.2) ?_
      have H14 := H10 _ rfl
      generalize umem m 607 (wr (24 + a2)) 999 = m13 at H14 ⊢
      refine x_rV (cod_191 rfl) rfl ?_
      show X 272 69 [(1, 597), (0, a1), (0, a2), (0, wr ((m 607 (wr (24 + a2))) + (m 619 a2)))] [] m13 _
      refine x_s (q := (.iinc 2 1, 0, 0, 0)) (cod_272 rfl) rfl rfl rfl ?_
      refine x_go (tgt := 23) (cod_272 rfl) (by decide) ?_
      exact H14
set_option maxRecDepth 100000 in
theorem w273_0 {m : Mm} {K : Mm → Prop}  
  (H : ((m 597 25) = 20 → X 273 11 [(1, 597), (0, 1)] [] m (qV K)) ∧ (¬ (m 597 25) = 20 → X 273 39 [(1, 597), (9, 0)] [] m (qV K))) : X 273 0 [(1, 597), (9, 0)] [] m (qV K) := by
  refine x_s (q := (.aload_n 0, 0, 0, 0)) (cod_273 rfl) rfl rfl rfl ?_
  refine x_gf (kk := 25) (t := 0) (cod_273 rfl) sq_p_597 sq_l_597_25 rfl rfl ?_
  refine x_s (q := (.bipush 20, 0, 0, 0)) (cod_273 rfl) rfl rfl rfl ?_
  refine x_ic (p := ¬ (m 597 25) = 20) (tgt := 39) (cod_273 rfl) (by decide) xj_ne (fun h => ?_) (fun h => ?_)
  · have H1 := H.2 h
    exact H1
  · have H2 := H.1 (Classical.not_not.mp h)
    refine x_s (q := (.iconst 1, 0, 0, 0)) (cod_273 rfl) rfl rfl rfl ?_
    refine x_s (q := (.istore_n 1, 0, 0, 0)) (cod_273 rfl) rfl rfl rfl ?_
    exact H2
theorem e273 {m : Mm} {K : Mm → Prop}  
  (H : ((m 597 25) = 20 → X 273 11 [(1, 597), (0, 1)] [] m (qV K)) ∧ (¬ (m 597 25) = 20 → X 273 39 [(1, 597), (9, 0)] [] m (qV K))) : TrV 273 [(1, 597)] m K := by
  exact w273_0  H
set_option maxRecDepth 100000 in
theorem w273_11 {m : Mm} {K : Mm → Prop} (a1 : Int) 
  (H : (a1 < 20 → TrV 194 [(1, 597), (0, wr (2 + a1)), (0, wr (1 + a1))] m fun m5 => X 273 11 [(1, 597), (0, wr (a1 + 1))] [] m5 (qV K)) ∧ (¬ a1 < 20 → ∀ m3, m3 = umem m 597 25 19 → X 273 39 [(1, 597), (0, a1)] [] m3 (qV K))) : X 273 11 [(1, 597), (0, a1)] [] m (qV K) := by
  refine x_s (q := (.iload_n 1, 0, 0, 0)) (cod_273 rfl) rfl rfl rfl ?_
  refine x_s (q := (.bipush 20, 0, 0, 0)) (cod_273 rfl) rfl rfl rfl ?_
  refine x_ic (p := ¬ a1 < 20) (tgt := 33) (cod_273 rfl) (by decide) xn_ge (fun h => ?_) (fun h => ?_)
  · have H1 := H.2 h
    refine x_s (q := (.aload_n 0, 0, 0, 0)) (cod_273 rfl) rfl rfl rfl ?_
    refine x_s (q := (.bipush 19, 0, 0, 0)) (cod_273 rfl) rfl rfl rfl ?_
    refine x_pf (kk := 25) (t := 0) (cod_273 rfl) sq_p_597 sq_l_597_25 rfl rfl rfl ?_
    have H4 := H1 _ rfl
    generalize umem m 597 25 19 = m3 at H4 ⊢
    exact H4
  · have H2 := H.1 (Classical.not_not.mp h)
    refine x_s (q := (.aload_n 0, 0, 0, 0)) (cod_273 rfl) rfl rfl rfl ?_
    refine x_s (q := (.iconst 2, 0, 0, 0)) (cod_273 rfl) rfl rfl rfl ?_
    refine x_s (q := (.iload_n 1, 0, 0, 0)) (cod_273 rfl) rfl rfl rfl ?_
    refine x_s (q := (.iadd, 0, 0, 0)) (cod_273 rfl) rfl rfl rfl ?_
    refine x_s (q := (.iconst 1, 0, 0, 0)) (cod_273 rfl) rfl rfl rfl ?_
    refine x_s (q := (.iload_n 1, 0, 0, 0)) (cod_273 rfl) rfl rfl rfl ?_
    refine x_s (q := (.iadd, 0, 0, 0)) (cod_273 rfl) rfl rfl rfl ?_
    refine x_call (as := [(1, 597), (0, wr (2 + a1)), (0, wr (1 + a1))]) (rest := []) (cod_273 rfl) rfl rfl (by decide) (by decide) rfl rfl (Nat.le_of_ble_eq_true rfl) (rcv0 sq_l_597_0 sq_p_597 (by decide)) (Nat.le_of_ble_eq_true rfl) ?_
    refine X.imp H2 ?_
    rintro _ m5 ⟨rfl, H6⟩
    show X 273 27 [(1, 597), (0, a1)] [] m5 _
    refine x_s (q := (.iinc 1 1, 0, 0, 0)) (cod_273 rfl) rfl rfl rfl ?_
    refine x_go (tgt := 11) (cod_273 rfl) (by decide) ?_
    exact H6
set_option maxRecDepth 100000 in
theorem w273_39 {m : Mm} {K : Mm → Prop} (ua1 : aV) 
  (H : TrV 194 [(1, 597), (0, 0), (0, wr (2 + (m 597 25)))] m fun m1 => ∀ m3, m3 = umem m1 597 25 (wr ((m1 597 25) + 1)) → K m3) : X 273 39 [(1, 597), ua1] [] m (qV K) := by
  refine x_s (q := (.aload_n 0, 0, 0, 0)) (cod_273 rfl) rfl rfl rfl ?_
  refine x_s (q := (.iconst 0, 0, 0, 0)) (cod_273 rfl) rfl rfl rfl ?_
  refine x_s (q := (.iconst 2, 0, 0, 0)) (cod_273 rfl) rfl rfl rfl ?_
  refine x_s (q := (.aload_n 0, 0, 0, 0)) (cod_273 rfl) rfl rfl rfl ?_
  refine x_gf (kk := 25) (t := 0) (cod_273 rfl) sq_p_597 sq_l_597_25 rfl rfl ?_
  refine x_s (q := (.iadd, 0, 0, 0)) (cod_273 rfl) rfl rfl rfl ?_
  refine x_call (as := [(1, 597), (0, 0), (0, wr (2 + (m 597 25)))]) (rest := []) (cod_273 rfl) rfl rfl (by decide) (by decide) rfl rfl (Nat.le_of_ble_eq_true rfl) (rcv0 sq_l_597_0 sq_p_597 (by decide)) (Nat.le_of_ble_eq_true rfl) ?_
  refine X.imp H ?_
  rintro _ m1 ⟨rfl, H2⟩
  show X 273 50 [(1, 597), ua1] [] m1 _
  refine x_s (q := (.aload_n 0, 0, 0, 0)) (cod_273 rfl) rfl rfl rfl ?_
  refine x_s (q := (.dup, 0, 0, 0)) (cod_273 rfl) rfl rfl rfl ?_
  refine x_gf (kk := 25) (t := 0) (cod_273 rfl) sq_p_597 sq_l_597_25 rfl rfl ?_
  refine x_s (q := (.iconst 1, 0, 0, 0)) (cod_273 rfl) rfl rfl rfl ?_
  refine x_s (q := (.iadd, 0, 0, 0)) (cod_273 rfl) rfl rfl rfl ?_
  refine x_pf (kk := 25) (t := 0) (cod_273 rfl) sq_p_597 sq_l_597_25 rfl rfl rfl ?_
  have H4 := H2 _ rfl
  generalize umem m1 597 25 (wr ((m1 597 25) + 1)) = m3 at H4 ⊢
  refine x_retV (cod_273 rfl) rfl ?_
  exact H4
set_option maxRecDepth 100000 in
theorem w274_0 {m : Mm} {K : Int → Mm → Prop}  
  (H : ∀ m1, m1 = umem m 597 0 0 → TrV 273 [(1, 597)] m1 fun m3 => TrI 275 [(1, 597)] m3 fun v7 m5 => X 274 16 [(1, 597), (0, v7), (0, 0)] [] m5 (qI K)) : X 274 0 [(1, 597), (9, 0), (9, 0)] [] m (qI K) := by
  refine x_s (q := (.aload_n 0, 0, 0, 0)) (cod_274 rfl) rfl rfl rfl ?_
  refine x_s (q := (.iconst 0, 0, 0, 0)) (cod_274 rfl) rfl rfl rfl ?_
  refine x_pf (kk := 0) (t := 0) (cod_274 rfl) sq_p_597 sq_l_597_0 rfl rfl rfl ?_
  have H2 := H _ rfl
  generalize umem m 597 0 0 = m1 at H2 ⊢
  refine x_s (q := (.aload_n 0, 0, 0, 0)) (cod_274 rfl) rfl rfl rfl ?_
  refine x_call (as := [(1, 597)]) (rest := []) (cod_274 rfl) rfl rfl (by decide) (by decide) rfl rfl (Nat.le_of_ble_eq_true rfl) (rcv0 sq_l_597_0 sq_p_597 (by decide)) (Nat.le_of_ble_eq_true rfl) ?_
  refine X.imp H2 ?_
  rintro _ m3 ⟨rfl, H4⟩
  show X 274 9 [(1, 597), (9, 0), (9, 0)] [] m3 _
  refine x_s (q := (.aload_n 0, 0, 0, 0)) (cod_274 rfl) rfl rfl rfl ?_
  refine x_call (as := [(1, 597)]) (rest := []) (cod_274 rfl) rfl rfl (by decide) (by decide) rfl rfl (Nat.le_of_ble_eq_true rfl) (rcv0 sq_l_597_0 sq_p_597 (by decide)) (Nat.le_of_ble_eq_true rfl) ?_
  refine X.imp H4 ?_
  rintro _ m5 ⟨v7, rfl, H6⟩
  show X 274 13 [(1, 597), (9, 0), (9, 0)] [(0, v7)] m5 _
  refine x_s (q := (.istore_n 1, 0, 0, 0)) (cod_274 rfl) rfl rfl rfl ?_
  refine x_s (q := (.iconst 0, 0, 0, 0)) (cod_274 rfl) rfl rfl rfl ?_
  refine x_s (q := (.istore_n 2, 0, 0, 0)) (cod_274 rfl) rfl rfl rfl ?_
  exact H6
theorem e274 {m : Mm} {K : Int → Mm → Prop}  
  (H : ∀ m1, m1 = umem m 597 0 0 → TrV 273 [(1, 597)] m1 fun m3 => TrI 275 [(1, 597)] m3 fun v7 m5 => X 274 16 [(1, 597), (0, v7), (0, 0)] [] m5 (qI K)) : TrI 274 [(1, 597)] m K := by
  exact w274_0  H
set_option maxRecDepth 100000 in
theorem w274_16 {m : Mm} {K : Int → Mm → Prop} (a1 : Int) (a2 : Int) 
  (H : (a2 < 24 → (0 ≤ (wr (24 + a2)) ∧ (wr (24 + a2)) < 1276) ∧ ∀ m5, m5 = umem m 607 (wr (24 + a2)) 0 → X 274 16 [(1, 597), (0, a1), (0, wr (a2 + 1))] [] m5 (qI K)) ∧ (¬ a2 < 24 → K a1 m)) : X 274 16 [(1, 597), (0, a1), (0, a2)] [] m (qI K) := by
  refine x_s (q := (.iload_n 2, 0, 0, 0)) (cod_274 rfl) rfl rfl rfl ?_
  refine x_s (q := (.bipush 24, 0, 0, 0)) (cod_274 rfl) rfl rfl rfl ?_
  refine x_ic (p := ¬ a2 < 24) (tgt := 37) (cod_274 rfl) (by decide) xn_ge (fun h => ?_) (fun h => ?_)
  · have H1 := H.2 h
    refine x_s (q := (.iload_n 1, 0, 0, 0)) (cod_274 rfl) rfl rfl rfl ?_
    refine x_retI (t := .int) (cod_274 rfl) rfl rfl rfl ?_
    exact H1
  · have H2 := H.1 (Classical.not_not.mp h)
    refine x_s (q := (.aload_n 0, 0, 0, 0)) (cod_274 rfl) rfl rfl rfl ?_
    refine x_s (q := (.bipush 24, 0, 0, 0)) (cod_274 rfl) rfl rfl rfl ?_
    refine x_s (q := (.iload_n 2, 0, 0, 0)) (cod_274 rfl) rfl rfl rfl ?_
    refine x_s (q := (.iadd, 0, 0, 0)) (cod_274 rfl) rfl rfl rfl ?_
    refine x_s (q := (.iconst 0, 0, 0, 0)) (cod_274 rfl) rfl rfl rfl ?_
    refine x_call (as := [(1, 597), (0, wr (24 + a2)), (0, 0)]) (rest := []) (cod_274 rfl) rfl rfl (by decide) (by decide) rfl rfl (Nat.le_of_ble_eq_true rfl) (rcv0 sq_l_597_0 sq_p_597 (by decide)) (Nat.le_of_ble_eq_true rfl) ?_
    show X 191 0 [(1, 597), (0, wr (24 + a2)), (0, 0)] [] m _
    refine x_s (q := (.aload_n 0, 0, 0, 0)) (cod_191 rfl) rfl rfl rfl ?_
    refine x_gc (kk := 24) (c := 607) (t := 1) (cod_191 rfl) sq_p_597 sq_l_597_24 rfl rfl ?_
    refine x_s (q := (.iload_n 1, 0, 0, 0)) (cod_191 rfl) rfl rfl rfl ?_
    refine x_s (q := (.iload_n 2, 0, 0, 0)) (cod_191 rfl) rfl rfl rfl ?_
    obtain ⟨c3, H4⟩ := H2
    refine x_iast (cod_191 rfl) sq_a_607.s (sq_a_607.k c3.1 c3.2) ?_
    have H6 := H4 _ rfl
    generalize umem m 607 (wr (24 + a2)) 0 = m5 at H6 ⊢
    refine x_rV (cod_191 rfl) rfl ?_
    show X 274 31 [(1, 597), (0, a1), (0, a2)] [] m5 _
    refine x_s (q := (.iinc 2 1, 0, 0, 0)) (cod_274 rfl) rfl rfl rfl ?_
    refine x_go (tgt := 16) (cod_274 rfl) (by decide) ?_
    exact H6
set_option maxRecDepth 100000 in
theorem w275_0 {m : Mm} {K : Int → Mm → Prop}  
  (H : X 275 4 [(1, 597), (0, 0), (0, 0)] [] m (qI K)) : X 275 0 [(1, 597), (9, 0), (9, 0)] [] m (qI K) := by
  refine x_s (q := (.iconst 0, 0, 0, 0)) (cod_275 rfl) rfl rfl rfl ?_
  refine x_s (q := (.istore_n 1, 0, 0, 0)) (cod_275 rfl) rfl rfl rfl ?_
  refine x_s (q := (.iconst 0, 0, 0, 0)) (cod_275 rfl) rfl rfl rfl ?_
  refine x_s (q := (.istore_n 2, 0, 0, 0)) (cod_275 rfl) rfl rfl rfl ?_
  exact H
theorem e275 {m : Mm} {K : Int → Mm → Prop}  
  (H : X 275 4 [(1, 597), (0, 0), (0, 0)] [] m (qI K)) : TrI 275 [(1, 597)] m K := by
  exact w275_0  H
set_option maxRecDepth 100000 in
theorem w275_4 {m : Mm} {K : Int → Mm → Prop} (a1 : Int) (a2 : Int) 
  (H : m 597 16 = 0 ∧ (a2 < (m 602 578) → (0 ≤ (wr (24 + a2)) ∧ (wr (24 + a2)) < 1276) ∧ X 275 4 [(1, 597), (0, wr (a1 + (m 607 (wr (24 + a2))))), (0, wr (a2 + 1))] [] m (qI K)) ∧ (¬ a2 < (m 602 578) → K a1 m)) : X 275 4 [(1, 597), (0, a1), (0, a2)] [] m (qI K) := by
  refine x_s (q := (.iload_n 2, 0, 0, 0)) (cod_275 rfl) rfl rfl rfl ?_
  refine x_s (q := (.aload_n 0, 0, 0, 0)) (cod_275 rfl) rfl rfl rfl ?_
  refine x_call (as := [(1, 597)]) (rest := [(0, a2)]) (cod_275 rfl) rfl rfl (by decide) (by decide) rfl rfl (Nat.le_of_ble_eq_true rfl) (rcv0 sq_l_597_0 sq_p_597 (by decide)) (Nat.le_of_ble_eq_true rfl) ?_
  show X 181 0 [(1, 597)] [] m _
  refine x_s (q := (.aload_n 0, 0, 0, 0)) (cod_181 rfl) rfl rfl rfl ?_
  refine x_s (q := (.sipush 578, 0, 0, 0)) (cod_181 rfl) rfl rfl rfl ?_
  obtain ⟨c1, H2⟩ := H
  refine x_call (as := [(1, 597), (0, 578)]) (rest := []) (cod_181 rfl) rfl rfl (by decide) (by decide) rfl rfl (Nat.le_of_ble_eq_true rfl) (rcv0 sq_l_597_0 sq_p_597 (by decide)) (Nat.le_of_ble_eq_true rfl) ?_
  refine x_pure (p182a (by decide) c1) ?_
  show X 181 7 [(1, 597)] [(0, m 602 578)] m _
  refine x_rI (t := .int) (cod_181 rfl) rfl rfl rfl ?_
  show X 275 9 [(1, 597), (0, a1), (0, a2)] [(0, m 602 578), (0, a2)] m _
  refine x_ic (p := ¬ a2 < (m 602 578)) (tgt := 29) (cod_275 rfl) (by decide) xn_ge (fun h => ?_) (fun h => ?_)
  · have H3 := H2.2 h
    refine x_s (q := (.iload_n 1, 0, 0, 0)) (cod_275 rfl) rfl rfl rfl ?_
    refine x_retI (t := .int) (cod_275 rfl) rfl rfl rfl ?_
    exact H3
  · have H4 := H2.1 (Classical.not_not.mp h)
    refine x_s (q := (.iload_n 1, 0, 0, 0)) (cod_275 rfl) rfl rfl rfl ?_
    refine x_s (q := (.aload_n 0, 0, 0, 0)) (cod_275 rfl) rfl rfl rfl ?_
    refine x_s (q := (.bipush 24, 0, 0, 0)) (cod_275 rfl) rfl rfl rfl ?_
    refine x_s (q := (.iload_n 2, 0, 0, 0)) (cod_275 rfl) rfl rfl rfl ?_
    refine x_s (q := (.iadd, 0, 0, 0)) (cod_275 rfl) rfl rfl rfl ?_
    refine x_call (as := [(1, 597), (0, wr (24 + a2))]) (rest := [(0, a1)]) (cod_275 rfl) rfl rfl (by decide) (by decide) rfl rfl (Nat.le_of_ble_eq_true rfl) (rcv0 sq_l_597_0 sq_p_597 (by decide)) (Nat.le_of_ble_eq_true rfl) ?_
    show X 197 0 [(1, 597), (0, wr (24 + a2))] [] m _
    refine x_s (q := (.aload_n 0, 0, 0, 0)) (cod_197 rfl) rfl rfl rfl ?_
    refine x_gc (kk := 24) (c := 607) (t := 1) (cod_197 rfl) sq_p_597 sq_l_597_24 rfl rfl ?_
    refine x_s (q := (.iload_n 1, 0, 0, 0)) (cod_197 rfl) rfl rfl rfl ?_
    obtain ⟨c5, H6⟩ := H4
    refine x_iald (cod_197 rfl) sq_a_607.s (sq_a_607.k c5.1 c5.2) ?_
    refine x_rI (t := .int) (cod_197 rfl) rfl rfl rfl ?_
    show X 275 21 [(1, 597), (0, a1), (0, a2)] [(0, m 607 (wr (24 + a2))), (0, a1)] m _
    refine x_s (q := (.iadd, 0, 0, 0)) (cod_275 rfl) rfl rfl rfl ?_
    refine x_s (q := (.istore_n 1, 0, 0, 0)) (cod_275 rfl) rfl rfl rfl ?_
    refine x_s (q := (.iinc 2 1, 0, 0, 0)) (cod_275 rfl) rfl rfl rfl ?_
    refine x_go (tgt := 4) (cod_275 rfl) (by decide) ?_
    exact H6
set_option maxRecDepth 100000 in
theorem w276_0 {m : Mm} {K : Int → Mm → Prop} (a1 : Int) (a2 : Int) 
  (H : ∀ m1, m1 = umem m 597 0 0 → m1 597 16 = 0 ∧ ((0 ≤ a1 ∧ a1 ≤ (wr ((m1 602 578) - 1))) → ((0 ≤ a2 ∧ a2 ≤ 999) → TrV 273 [(1, 597)] m1 fun m9 => (0 ≤ (wr (0 + a1)) ∧ (wr (0 + a1)) < 1276) ∧ ∀ m13, m13 = umem m9 607 (wr (0 + a1)) a2 → K (m9 607 (wr (0 + a1))) m13) ∧ (¬ (0 ≤ a2 ∧ a2 ≤ 999) → K (-1) m1)) ∧ (¬ (0 ≤ a1 ∧ a1 ≤ (wr ((m1 602 578) - 1))) → K (-1) m1)) : X 276 0 [(1, 597), (0, a1), (0, a2), (9, 0)] [] m (qI K) := by
  refine x_s (q := (.aload_n 0, 0, 0, 0)) (cod_276 rfl) rfl rfl rfl ?_
  refine x_s (q := (.iconst 0, 0, 0, 0)) (cod_276 rfl) rfl rfl rfl ?_
  refine x_pf (kk := 0) (t := 0) (cod_276 rfl) sq_p_597 sq_l_597_0 rfl rfl rfl ?_
  have H2 := H _ rfl
  generalize umem m 597 0 0 = m1 at H2 ⊢
  refine x_s (q := (.aload_n 0, 0, 0, 0)) (cod_276 rfl) rfl rfl rfl ?_
  refine x_s (q := (.iload_n 1, 0, 0, 0)) (cod_276 rfl) rfl rfl rfl ?_
  refine x_call (as := [(1, 597), (0, a1)]) (rest := []) (cod_276 rfl) rfl rfl (by decide) (by decide) rfl rfl (Nat.le_of_ble_eq_true rfl) (rcv0 sq_l_597_0 sq_p_597 (by decide)) (Nat.le_of_ble_eq_true rfl) ?_
  show X 201 0 [(1, 597), (0, a1)] [] m1 _
  refine x_s (q := (.iload_n 1, 0, 0, 0)) (cod_201 rfl) rfl rfl rfl ?_
  refine x_s (q := (.iconst 0, 0, 0, 0)) (cod_201 rfl) rfl rfl rfl ?_
  refine x_s (q := (.aload_n 0, 0, 0, 0)) (cod_201 rfl) rfl rfl rfl ?_
  refine x_call (as := [(1, 597)]) (rest := [(0, 0), (0, a1)]) (cod_201 rfl) rfl rfl (by decide) (by decide) rfl rfl (Nat.le_of_ble_eq_true rfl) (rcv0 sq_l_597_0 sq_p_597 (by decide)) (Nat.le_of_ble_eq_true rfl) ?_
  show X 181 0 [(1, 597)] [] m1 _
  refine x_s (q := (.aload_n 0, 0, 0, 0)) (cod_181 rfl) rfl rfl rfl ?_
  refine x_s (q := (.sipush 578, 0, 0, 0)) (cod_181 rfl) rfl rfl rfl ?_
  obtain ⟨c3, H4⟩ := H2
  refine x_call (as := [(1, 597), (0, 578)]) (rest := []) (cod_181 rfl) rfl rfl (by decide) (by decide) rfl rfl (Nat.le_of_ble_eq_true rfl) (rcv0 sq_l_597_0 sq_p_597 (by decide)) (Nat.le_of_ble_eq_true rfl) ?_
  refine x_pure (p182a (by decide) c3) ?_
  show X 181 7 [(1, 597)] [(0, m1 602 578)] m1 _
  refine x_rI (t := .int) (cod_181 rfl) rfl rfl rfl ?_
  show X 201 6 [(1, 597), (0, a1)] [(0, m1 602 578), (0, 0), (0, a1)] m1 _
  refine x_s (q := (.iconst 1, 0, 0, 0)) (cod_201 rfl) rfl rfl rfl ?_
  refine x_s (q := (.isub, 0, 0, 0)) (cod_201 rfl) rfl rfl rfl ?_
  refine x_call (as := [(0, a1), (0, 0), (0, wr ((m1 602 578) - 1))]) (rest := []) (cod_201 rfl) rfl rfl (by decide) (by decide) rfl rfl (Nat.le_of_ble_eq_true rfl) rfl (Nat.le_of_ble_eq_true rfl) ?_
  refine x_pure (p172) ?_
  show X 201 11 [(1, 597), (0, a1)] [(0, bi (0 ≤ a1 ∧ a1 ≤ (wr ((m1 602 578) - 1))))] m1 _
  refine x_rI (t := .boolean) (cod_201 rfl) rfl rfl (bok_b (bi_01 _)) ?_
  show X 276 10 [(1, 597), (0, a1), (0, a2), (9, 0)] [(0, bi (0 ≤ a1 ∧ a1 ≤ (wr ((m1 602 578) - 1))))] m1 _
  refine x_if (p := ¬ (0 ≤ a1 ∧ a1 ≤ (wr ((m1 602 578) - 1)))) (tgt := 24) (cod_276 rfl) (by decide) xb_eq (fun h => ?_) (fun h => ?_)
  · have H5 := H4.2 h
    refine x_s (q := (.iconst (-1), 0, 0, 0)) (cod_276 rfl) rfl rfl rfl ?_
    refine x_retI (t := .int) (cod_276 rfl) rfl rfl rfl ?_
    exact H5
  · have H6 := H4.1 (Classical.not_not.mp h)
    refine x_s (q := (.iload_n 2, 0, 0, 0)) (cod_276 rfl) rfl rfl rfl ?_
    refine x_s (q := (.iconst 0, 0, 0, 0)) (cod_276 rfl) rfl rfl rfl ?_
    refine x_s (q := (.sipush 999, 0, 0, 0)) (cod_276 rfl) rfl rfl rfl ?_
    refine x_call (as := [(0, a2), (0, 0), (0, 999)]) (rest := []) (cod_276 rfl) rfl rfl (by decide) (by decide) rfl rfl (Nat.le_of_ble_eq_true rfl) rfl (Nat.le_of_ble_eq_true rfl) ?_
    refine x_pure (p172) ?_
    show X 276 21 [(1, 597), (0, a1), (0, a2), (9, 0)] [(0, bi (0 ≤ a2 ∧ a2 ≤ 999))] m1 _
    refine x_if (p := 0 ≤ a2 ∧ a2 ≤ 999) (tgt := 26) (cod_276 rfl) (by decide) xb_ne (fun h => ?_) (fun h => ?_)
    · have H7 := H6.1 h
      refine x_s (q := (.aload_n 0, 0, 0, 0)) (cod_276 rfl) rfl rfl rfl ?_
      refine x_call (as := [(1, 597)]) (rest := []) (cod_276 rfl) rfl rfl (by decide) (by decide) rfl rfl (Nat.le_of_ble_eq_true rfl) (rcv0 sq_l_597_0 sq_p_597 (by decide)) (Nat.le_of_ble_eq_true rfl) ?_
      refine X.imp H7 ?_
      rintro _ m9 ⟨rfl, H10⟩
      show X 276 30 [(1, 597), (0, a1), (0, a2), (9, 0)] [] m9 _
      refine x_s (q := (.aload_n 0, 0, 0, 0)) (cod_276 rfl) rfl rfl rfl ?_
      refine x_s (q := (.iconst 0, 0, 0, 0)) (cod_276 rfl) rfl rfl rfl ?_
      refine x_s (q := (.iload_n 1, 0, 0, 0)) (cod_276 rfl) rfl rfl rfl ?_
      refine x_s (q := (.iadd, 0, 0, 0)) (cod_276 rfl) rfl rfl rfl ?_
      refine x_call (as := [(1, 597), (0, wr (0 + a1))]) (rest := []) (cod_276 rfl) rfl rfl (by decide) (by decide) rfl rfl (Nat.le_of_ble_eq_true rfl) (rcv0 sq_l_597_0 sq_p_597 (by decide)) (Nat.le_of_ble_eq_true rfl) ?_
      show X 197 0 [(1, 597), (0, wr (0 + a1))] [] m9 _
      refine x_s (q := (.aload_n 0, 0, 0, 0)) (cod_197 rfl) rfl rfl rfl ?_
      refine x_gc (kk := 24) (c := 607) (t := 1) (cod_197 rfl) sq_p_597 sq_l_597_24 rfl rfl ?_
      refine x_s (q := (.iload_n 1, 0, 0, 0)) (cod_197 rfl) rfl rfl rfl ?_
      obtain ⟨c11, H12⟩ := H10
      refine x_iald (cod_197 rfl) sq_a_607.s (sq_a_607.k c11.1 c11.2) ?_
      refine x_rI (t := .int) (cod_197 rfl) rfl rfl rfl ?_
      show X 276 37 [(1, 597), (0, a1), (0, a2), (9, 0)] [(0, m9 607 (wr (0 + a1)))] m9 _
      refine x_s (q := (.istore_n 3, 0, 0, 0)) (cod_276 rfl) rfl rfl rfl ?_
      refine x_s (q := (.aload_n 0, 0, 0, 0)) (cod_276 rfl) rfl rfl rfl ?_
      refine x_s (q := (.iconst 0, 0, 0, 0)) (cod_276 rfl) rfl rfl rfl ?_
      refine x_s (q := (.iload_n 1, 0, 0, 0)) (cod_276 rfl) rfl rfl rfl ?_
      refine x_s (q := (.iadd, 0, 0, 0)) (cod_276 rfl) rfl rfl rfl ?_
      refine x_s (q := (.iload_n 2, 0, 0, 0)) (cod_276 rfl) rfl rfl rfl ?_
      refine x_call (as := [(1, 597), (0, wr (0 + a1)), (0, a2)]) (rest := []) (cod_276 rfl) rfl rfl (by decide) (by decide) rfl rfl (Nat.le_of_ble_eq_true rfl) (rcv0 sq_l_597_0 sq_p_597 (by decide)) (Nat.le_of_ble_eq_true rfl) ?_
      show X 191 0 [(1, 597), (0, wr (0 + a1)), (0, a2)] [] m9 _
      refine x_s (q := (.aload_n 0, 0, 0, 0)) (cod_191 rfl) rfl rfl rfl ?_
      refine x_gc (kk := 24) (c := 607) (t := 1) (cod_191 rfl) sq_p_597 sq_l_597_24 rfl rfl ?_
      refine x_s (q := (.iload_n 1, 0, 0, 0)) (cod_191 rfl) rfl rfl rfl ?_
      refine x_s (q := (.iload_n 2, 0, 0, 0)) (cod_191 rfl) rfl rfl rfl ?_
      refine x_iast (cod_191 rfl) sq_a_607.s (sq_a_607.k c11.1 c11.2) ?_
      have H14 := H12 _ rfl
      generalize umem m9 607 (wr (0 + a1)) a2 = m13 at H14 ⊢
      refine x_rV (cod_191 rfl) rfl ?_
      show X 276 46 [(1, 597), (0, a1), (0, a2), (0, m9 607 (wr (0 + a1)))] [] m13 _
      refine x_s (q := (.iload_n 3, 0, 0, 0)) (cod_276 rfl) rfl rfl rfl ?_
      refine x_retI (t := .int) (cod_276 rfl) rfl rfl rfl ?_
      exact H14
    · have H8 := H6.2 h
      refine x_s (q := (.iconst (-1), 0, 0, 0)) (cod_276 rfl) rfl rfl rfl ?_
      refine x_retI (t := .int) (cod_276 rfl) rfl rfl rfl ?_
      exact H8
theorem e276 {m : Mm} {K : Int → Mm → Prop} (a1 : Int) (a2 : Int) 
  (H : ∀ m1, m1 = umem m 597 0 0 → m1 597 16 = 0 ∧ ((0 ≤ a1 ∧ a1 ≤ (wr ((m1 602 578) - 1))) → ((0 ≤ a2 ∧ a2 ≤ 999) → TrV 273 [(1, 597)] m1 fun m9 => (0 ≤ (wr (0 + a1)) ∧ (wr (0 + a1)) < 1276) ∧ ∀ m13, m13 = umem m9 607 (wr (0 + a1)) a2 → K (m9 607 (wr (0 + a1))) m13) ∧ (¬ (0 ≤ a2 ∧ a2 ≤ 999) → K (-1) m1)) ∧ (¬ (0 ≤ a1 ∧ a1 ≤ (wr ((m1 602 578) - 1))) → K (-1) m1)) : TrI 276 [(1, 597), (0, a1), (0, a2)] m K := by
  exact w276_0 a1 a2 H
