/-! rules of the methods: printed by wip/whole/gen26.py -/
set_option maxRecDepth 100000 in
theorem w183_0 {m : Mm} {K : Int → Mm → Prop} (a1 : Int) (a2 : Int) 
  (H : ((m 597 9) = 2 → ((m 597 13) = 1 → ∀ m5, m5 = umem m 597 14 (wr (4 + (m 601 0))) → TrV 170 [(1, 597)] m5 fun m7 => K 1 m7) ∧ (¬ (m 597 13) = 1 → X 183 31 [(1, 597), (0, a1), (0, a2)] [] m (qI K))) ∧ (¬ (m 597 9) = 2 → X 183 31 [(1, 597), (0, a1), (0, a2)] [] m (qI K))) : X 183 0 [(1, 597), (0, a1), (0, a2)] [] m (qI K) := by
  refine x_s (q := (.aload_n 0, 0, 0, 0)) (cod_183 rfl) rfl rfl rfl ?_
  refine x_gf (kk := 9) (t := 0) (cod_183 rfl) sq_p_597 sq_l_597_9 rfl rfl ?_
  refine x_s (q := (.iconst 2, 0, 0, 0)) (cod_183 rfl) rfl rfl rfl ?_
  refine x_ic (p := ¬ (m 597 9) = 2) (tgt := 31) (cod_183 rfl) (by decide) xj_ne (fun h => ?_) (fun h => ?_)
  · have H1 := H.2 h
    exact H1
  · have H2 := H.1 (Classical.not_not.mp h)
    refine x_s (q := (.aload_n 0, 0, 0, 0)) (cod_183 rfl) rfl rfl rfl ?_
    refine x_gf (kk := 13) (t := 0) (cod_183 rfl) sq_p_597 sq_l_597_13 rfl rfl ?_
    refine x_s (q := (.iconst 1, 0, 0, 0)) (cod_183 rfl) rfl rfl rfl ?_
    refine x_ic (p := ¬ (m 597 13) = 1) (tgt := 31) (cod_183 rfl) (by decide) xj_ne (fun h => ?_) (fun h => ?_)
    · have H3 := H2.2 h
      exact H3
    · have H4 := H2.1 (Classical.not_not.mp h)
      refine x_s (q := (.aload_n 0, 0, 0, 0)) (cod_183 rfl) rfl rfl rfl ?_
      refine x_s (q := (.iconst 4, 0, 0, 0)) (cod_183 rfl) rfl rfl rfl ?_
      refine x_s (q := (.aload_n 0, 0, 0, 0)) (cod_183 rfl) rfl rfl rfl ?_
      refine x_gc (kk := 12) (c := 601) (t := 1) (cod_183 rfl) sq_p_597 sq_l_597_12 rfl rfl ?_
      refine x_s (q := (.iconst 0, 0, 0, 0)) (cod_183 rfl) rfl rfl rfl ?_
      refine x_iald (cod_183 rfl) sq_a_601.s (sq_a_601.k (by decide) (by decide)) ?_
      refine x_s (q := (.iadd, 0, 0, 0)) (cod_183 rfl) rfl rfl rfl ?_
      refine x_pf (kk := 14) (t := 0) (cod_183 rfl) sq_p_597 sq_l_597_14 rfl rfl rfl ?_
      have H6 := H4 _ rfl
      generalize umem m 597 14 (wr (4 + (m 601 0))) = m5 at H6 ⊢
      refine x_go (tgt := 153) (cod_183 rfl) (by decide) ?_
      refine x_s (q := (.aload_n 0, 0, 0, 0)) (cod_183 rfl) rfl rfl rfl ?_
      refine x_call (as := [(1, 597)]) (rest := []) (cod_183 rfl) rfl rfl (by decide) (by decide) rfl rfl (Nat.le_of_ble_eq_true rfl) (rcv0 sq_l_597_0 sq_p_597 (by decide)) (Nat.le_of_ble_eq_true rfl) ?_
      refine X.imp H6 ?_
      rintro _ m7 ⟨rfl, H8⟩
      show X 183 157 [(1, 597), (0, a1), (0, a2)] [] m7 _
      refine x_s (q := (.iconst 1, 0, 0, 0)) (cod_183 rfl) rfl rfl rfl ?_
      refine x_retI (t := .boolean) (cod_183 rfl) rfl rfl rfl ?_
      exact H8
theorem e183 {m : Mm} {K : Int → Mm → Prop} (a1 : Int) (a2 : Int) 
  (H : ((m 597 9) = 2 → ((m 597 13) = 1 → ∀ m5, m5 = umem m 597 14 (wr (4 + (m 601 0))) → TrV 170 [(1, 597)] m5 fun m7 => K 1 m7) ∧ (¬ (m 597 13) = 1 → X 183 31 [(1, 597), (0, a1), (0, a2)] [] m (qI K))) ∧ (¬ (m 597 9) = 2 → X 183 31 [(1, 597), (0, a1), (0, a2)] [] m (qI K))) : TrI 183 [(1, 597), (0, a1), (0, a2)] m K := by
  exact w183_0 a1 a2 H
set_option maxRecDepth 100000 in
theorem w183_31 {m : Mm} {K : Int → Mm → Prop} (a1 : Int) (a2 : Int) 
  (H : ((m 597 9) = 1 → ((m 597 10) = 7 → ∀ m17, m17 = umem m 597 14 0 → TrV 170 [(1, 597)] m17 fun m19 => K 1 m19) ∧ (¬ (m 597 10) = 7 → ((m 597 9) = 1 → ((m 597 10) = 9 → X 183 82 [(1, 597), (0, a1), (0, a2)] [] m (qI K)) ∧ (¬ (m 597 10) = 9 → ((m 597 10) = 10 → X 183 82 [(1, 597), (0, a1), (0, a2)] [] m (qI K)) ∧ (¬ (m 597 10) = 10 → X 183 98 [(1, 597), (0, a1), (0, a2)] [] m (qI K)))) ∧ (¬ (m 597 9) = 1 → X 183 98 [(1, 597), (0, a1), (0, a2)] [] m (qI K)))) ∧ (¬ (m 597 9) = 1 → ((m 597 9) = 1 → ((m 597 10) = 9 → X 183 82 [(1, 597), (0, a1), (0, a2)] [] m (qI K)) ∧ (¬ (m 597 10) = 9 → ((m 597 10) = 10 → X 183 82 [(1, 597), (0, a1), (0, a2)] [] m (qI K)) ∧ (¬ (m 597 10) = 10 → X 183 98 [(1, 597), (0, a1), (0, a2)] [] m (qI K)))) ∧ (¬ (m 597 9) = 1 → X 183 98 [(1, 597), (0, a1), (0, a2)] [] m (qI K)))) : X 183 31 [(1, 597), (0, a1), (0, a2)] [] m (qI K) := by
  refine x_s (q := (.aload_n 0, 0, 0, 0)) (cod_183 rfl) rfl rfl rfl ?_
  refine x_gf (kk := 9) (t := 0) (cod_183 rfl) sq_p_597 sq_l_597_9 rfl rfl ?_
  refine x_s (q := (.iconst 1, 0, 0, 0)) (cod_183 rfl) rfl rfl rfl ?_
  refine x_ic (p := ¬ (m 597 9) = 1) (tgt := 56) (cod_183 rfl) (by decide) xj_ne (fun h => ?_) (fun h => ?_)
  · have H1 := H.2 h
    refine x_s (q := (.aload_n 0, 0, 0, 0)) (cod_183 rfl) rfl rfl rfl ?_
    refine x_gf (kk := 9) (t := 0) (cod_183 rfl) sq_p_597 sq_l_597_9 rfl rfl ?_
    refine x_s (q := (.iconst 1, 0, 0, 0)) (cod_183 rfl) rfl rfl rfl ?_
    refine x_ic (p := ¬ (m 597 9) = 1) (tgt := 98) (cod_183 rfl) (by decide) xj_ne (fun h => ?_) (fun h => ?_)
    · have H3 := H1.2 h
      exact H3
    · have H4 := H1.1 (Classical.not_not.mp h)
      refine x_s (q := (.aload_n 0, 0, 0, 0)) (cod_183 rfl) rfl rfl rfl ?_
      refine x_gf (kk := 10) (t := 0) (cod_183 rfl) sq_p_597 sq_l_597_10 rfl rfl ?_
      refine x_s (q := (.bipush 9, 0, 0, 0)) (cod_183 rfl) rfl rfl rfl ?_
      refine x_ic (p := (m 597 10) = 9) (tgt := 82) (cod_183 rfl) (by decide) xj_eq (fun h => ?_) (fun h => ?_)
      · have H5 := H4.1 h
        exact H5
      · have H6 := H4.2 h
        refine x_s (q := (.aload_n 0, 0, 0, 0)) (cod_183 rfl) rfl rfl rfl ?_
        refine x_gf (kk := 10) (t := 0) (cod_183 rfl) sq_p_597 sq_l_597_10 rfl rfl ?_
        refine x_s (q := (.bipush 10, 0, 0, 0)) (cod_183 rfl) rfl rfl rfl ?_
        refine x_ic (p := ¬ (m 597 10) = 10) (tgt := 98) (cod_183 rfl) (by decide) xj_ne (fun h => ?_) (fun h => ?_)
        · have H7 := H6.2 h
          exact H7
        · have H8 := H6.1 (Classical.not_not.mp h)
          exact H8
  · have H2 := H.1 (Classical.not_not.mp h)
    refine x_s (q := (.aload_n 0, 0, 0, 0)) (cod_183 rfl) rfl rfl rfl ?_
    refine x_gf (kk := 10) (t := 0) (cod_183 rfl) sq_p_597 sq_l_597_10 rfl rfl ?_
    refine x_s (q := (.bipush 7, 0, 0, 0)) (cod_183 rfl) rfl rfl rfl ?_
    refine x_ic (p := ¬ (m 597 10) = 7) (tgt := 56) (cod_183 rfl) (by decide) xj_ne (fun h => ?_) (fun h => ?_)
    · have H9 := H2.2 h
      refine x_s (q := (.aload_n 0, 0, 0, 0)) (cod_183 rfl) rfl rfl rfl ?_
      refine x_gf (kk := 9) (t := 0) (cod_183 rfl) sq_p_597 sq_l_597_9 rfl rfl ?_
      refine x_s (q := (.iconst 1, 0, 0, 0)) (cod_183 rfl) rfl rfl rfl ?_
      refine x_ic (p := ¬ (m 597 9) = 1) (tgt := 98) (cod_183 rfl) (by decide) xj_ne (fun h => ?_) (fun h => ?_)
      · have H11 := H9.2 h
        exact H11
      · have H12 := H9.1 (Classical.not_not.mp h)
        refine x_s (q := (.aload_n 0, 0, 0, 0)) (cod_183 rfl) rfl rfl rfl ?_
        refine x_gf (kk := 10) (t := 0) (cod_183 rfl) sq_p_597 sq_l_597_10 rfl rfl ?_
        refine x_s (q := (.bipush 9, 0, 0, 0)) (cod_183 rfl) rfl rfl rfl ?_
        refine x_ic (p := (m 597 10) = 9) (tgt := 82) (cod_183 rfl) (by decide) xj_eq (fun h => ?_) (fun h => ?_)
        · have H13 := H12.1 h
          exact H13
        · have H14 := H12.2 h
          refine x_s (q := (.aload_n 0, 0, 0, 0)) (cod_183 rfl) rfl rfl rfl ?_
          refine x_gf (kk := 10) (t := 0) (cod_183 rfl) sq_p_597 sq_l_597_10 rfl rfl ?_
          refine x_s (q := (.bipush 10, 0, 0, 0)) (cod_183 rfl) rfl rfl rfl ?_
          refine x_ic (p := ¬ (m 597 10) = 10) (tgt := 98) (cod_183 rfl) (by decide) xj_ne (fun h => ?_) (fun h => ?_)
          · have H15 := H14.2 h
            exact H15
          · have H16 := H14.1 (Classical.not_not.mp h)
            exact H16
    · have H10 := H2.1 (Classical.not_not.mp h)
      refine x_s (q := (.aload_n 0, 0, 0, 0)) (cod_183 rfl) rfl rfl rfl ?_
      refine x_s (q := (.iconst 0, 0, 0, 0)) (cod_183 rfl) rfl rfl rfl ?_
      refine x_pf (kk := 14) (t := 0) (cod_183 rfl) sq_p_597 sq_l_597_14 rfl rfl rfl ?_
      have H18 := H10 _ rfl
      generalize umem m 597 14 0 = m17 at H18 ⊢
      refine x_go (tgt := 153) (cod_183 rfl) (by decide) ?_
      refine x_s (q := (.aload_n 0, 0, 0, 0)) (cod_183 rfl) rfl rfl rfl ?_
      refine x_call (as := [(1, 597)]) (rest := []) (cod_183 rfl) rfl rfl (by decide) (by decide) rfl rfl (Nat.le_of_ble_eq_true rfl) (rcv0 sq_l_597_0 sq_p_597 (by decide)) (Nat.le_of_ble_eq_true rfl) ?_
      refine X.imp H18 ?_
      rintro _ m19 ⟨rfl, H20⟩
      show X 183 157 [(1, 597), (0, a1), (0, a2)] [] m19 _
      refine x_s (q := (.iconst 1, 0, 0, 0)) (cod_183 rfl) rfl rfl rfl ?_
      refine x_retI (t := .boolean) (cod_183 rfl) rfl rfl rfl ?_
      exact H20
set_option maxRecDepth 100000 in
theorem w183_82 {m : Mm} {K : Int → Mm → Prop} (ua1 : aV) (ua2 : aV) 
  (H : ∀ m1, m1 = umem m 597 14 (wr ((wr ((m 597 10) - 9)) + 2)) → TrV 170 [(1, 597)] m1 fun m3 => K 1 m3) : X 183 82 [(1, 597), ua1, ua2] [] m (qI K) := by
  refine x_s (q := (.aload_n 0, 0, 0, 0)) (cod_183 rfl) rfl rfl rfl ?_
  refine x_s (q := (.aload_n 0, 0, 0, 0)) (cod_183 rfl) rfl rfl rfl ?_
  refine x_gf (kk := 10) (t := 0) (cod_183 rfl) sq_p_597 sq_l_597_10 rfl rfl ?_
  refine x_s (q := (.bipush 9, 0, 0, 0)) (cod_183 rfl) rfl rfl rfl ?_
  refine x_s (q := (.isub, 0, 0, 0)) (cod_183 rfl) rfl rfl rfl ?_
  refine x_s (q := (.iconst 2, 0, 0, 0)) (cod_183 rfl) rfl rfl rfl ?_
  refine x_s (q := (.iadd, 0, 0, 0)) (cod_183 rfl) rfl rfl rfl ?_
  refine x_pf (kk := 14) (t := 0) (cod_183 rfl) sq_p_597 sq_l_597_14 rfl rfl rfl ?_
  have H2 := H _ rfl
  generalize umem m 597 14 (wr ((wr ((m 597 10) - 9)) + 2)) = m1 at H2 ⊢
  refine x_go (tgt := 153) (cod_183 rfl) (by decide) ?_
  refine x_s (q := (.aload_n 0, 0, 0, 0)) (cod_183 rfl) rfl rfl rfl ?_
  refine x_call (as := [(1, 597)]) (rest := []) (cod_183 rfl) rfl rfl (by decide) (by decide) rfl rfl (Nat.le_of_ble_eq_true rfl) (rcv0 sq_l_597_0 sq_p_597 (by decide)) (Nat.le_of_ble_eq_true rfl) ?_
  refine X.imp H2 ?_
  rintro _ m3 ⟨rfl, H4⟩
  show X 183 157 [(1, 597), ua1, ua2] [] m3 _
  refine x_s (q := (.iconst 1, 0, 0, 0)) (cod_183 rfl) rfl rfl rfl ?_
  refine x_retI (t := .boolean) (cod_183 rfl) rfl rfl rfl ?_
  exact H4
set_option maxRecDepth 100000 in
theorem w183_98 {m : Mm} {K : Int → Mm → Prop} (a1 : Int) (a2 : Int) 
  (H : ((m 597 9) = 1 → ((m 597 10) = a1 → ∀ m5, m5 = umem m 597 14 1 → TrV 170 [(1, 597)] m5 fun m7 => K 1 m7) ∧ (¬ (m 597 10) = a1 → X 183 122 [(1, 597), (0, a1), (0, a2)] [] m (qI K))) ∧ (¬ (m 597 9) = 1 → X 183 122 [(1, 597), (0, a1), (0, a2)] [] m (qI K))) : X 183 98 [(1, 597), (0, a1), (0, a2)] [] m (qI K) := by
  refine x_s (q := (.aload_n 0, 0, 0, 0)) (cod_183 rfl) rfl rfl rfl ?_
  refine x_gf (kk := 9) (t := 0) (cod_183 rfl) sq_p_597 sq_l_597_9 rfl rfl ?_
  refine x_s (q := (.iconst 1, 0, 0, 0)) (cod_183 rfl) rfl rfl rfl ?_
  refine x_ic (p := ¬ (m 597 9) = 1) (tgt := 122) (cod_183 rfl) (by decide) xj_ne (fun h => ?_) (fun h => ?_)
  · have H1 := H.2 h
    exact H1
  · have H2 := H.1 (Classical.not_not.mp h)
    refine x_s (q := (.aload_n 0, 0, 0, 0)) (cod_183 rfl) rfl rfl rfl ?_
    refine x_gf (kk := 10) (t := 0) (cod_183 rfl) sq_p_597 sq_l_597_10 rfl rfl ?_
    refine x_s (q := (.iload_n 1, 0, 0, 0)) (cod_183 rfl) rfl rfl rfl ?_
    refine x_ic (p := ¬ (m 597 10) = a1) (tgt := 122) (cod_183 rfl) (by decide) xj_ne (fun h => ?_) (fun h => ?_)
    · have H3 := H2.2 h
      exact H3
    · have H4 := H2.1 (Classical.not_not.mp h)
      refine x_s (q := (.aload_n 0, 0, 0, 0)) (cod_183 rfl) rfl rfl rfl ?_
      refine x_s (q := (.iconst 1, 0, 0, 0)) (cod_183 rfl) rfl rfl rfl ?_
      refine x_pf (kk := 14) (t := 0) (cod_183 rfl) sq_p_597 sq_l_597_14 rfl rfl rfl ?_
      have H6 := H4 _ rfl
      generalize umem m 597 14 1 = m5 at H6 ⊢
      refine x_go (tgt := 153) (cod_183 rfl) (by decide) ?_
      refine x_s (q := (.aload_n 0, 0, 0, 0)) (cod_183 rfl) rfl rfl rfl ?_
      refine x_call (as := [(1, 597)]) (rest := []) (cod_183 rfl) rfl rfl (by decide) (by decide) rfl rfl (Nat.le_of_ble_eq_true rfl) (rcv0 sq_l_597_0 sq_p_597 (by decide)) (Nat.le_of_ble_eq_true rfl) ?_
      refine X.imp H6 ?_
      rintro _ m7 ⟨rfl, H8⟩
      show X 183 157 [(1, 597), (0, a1), (0, a2)] [] m7 _
      refine x_s (q := (.iconst 1, 0, 0, 0)) (cod_183 rfl) rfl rfl rfl ?_
      refine x_retI (t := .boolean) (cod_183 rfl) rfl rfl rfl ?_
      exact H8
set_option maxRecDepth 100000 in
theorem w183_122 {m : Mm} {K : Int → Mm → Prop} (ua1 : aV) (a2 : Int) 
  (H : ((m 597 9) = 1 → ((m 597 10) = a2 → ∀ m13, m13 = umem m 597 14 30 → TrV 170 [(1, 597)] m13 fun m15 => K 1 m15) ∧ (¬ (m 597 10) = a2 → ∀ m9, m9 = umem m 597 4 1 → ∀ m11, m11 = umem m9 597 5 (m 597 11) → K 0 m11)) ∧ (¬ (m 597 9) = 1 → ∀ m3, m3 = umem m 597 4 1 → ∀ m5, m5 = umem m3 597 5 (m 597 11) → K 0 m5)) : X 183 122 [(1, 597), ua1, (0, a2)] [] m (qI K) := by
  refine x_s (q := (.aload_n 0, 0, 0, 0)) (cod_183 rfl) rfl rfl rfl ?_
  refine x_gf (kk := 9) (t := 0) (cod_183 rfl) sq_p_597 sq_l_597_9 rfl rfl ?_
  refine x_s (q := (.iconst 1, 0, 0, 0)) (cod_183 rfl) rfl rfl rfl ?_
  refine x_ic (p := ¬ (m 597 9) = 1) (tgt := 147) (cod_183 rfl) (by decide) xj_ne (fun h => ?_) (fun h => ?_)
  · have H1 := H.2 h
    refine x_s (q := (.aload_n 0, 0, 0, 0)) (cod_183 rfl) rfl rfl rfl ?_
    refine x_s (q := (.iconst 1, 0, 0, 0)) (cod_183 rfl) rfl rfl rfl ?_
    refine x_call (as := [(1, 597), (0, 1)]) (rest := []) (cod_183 rfl) rfl rfl (by decide) (by decide) rfl rfl (Nat.le_of_ble_eq_true rfl) (rcv0 sq_l_597_0 sq_p_597 (by decide)) (Nat.le_of_ble_eq_true rfl) ?_
    show X 178 0 [(1, 597), (0, 1)] [] m _
    refine x_s (q := (.aload_n 0, 0, 0, 0)) (cod_178 rfl) rfl rfl rfl ?_
    refine x_s (q := (.iload_n 1, 0, 0, 0)) (cod_178 rfl) rfl rfl rfl ?_
    refine x_s (q := (.aload_n 0, 0, 0, 0)) (cod_178 rfl) rfl rfl rfl ?_
    refine x_gf (kk := 11) (t := 0) (cod_178 rfl) sq_p_597 sq_l_597_11 rfl rfl ?_
    refine x_call (as := [(1, 597), (0, 1), (0, m 597 11)]) (rest := []) (cod_178 rfl) rfl rfl (by decide) (by decide) rfl rfl (Nat.le_of_ble_eq_true rfl) (rcv0 sq_l_597_0 sq_p_597 (by decide)) (Nat.le_of_ble_eq_true rfl) ?_
    show X 179 0 [(1, 597), (0, 1), (0, m 597 11)] [] m _
    refine x_s (q := (.aload_n 0, 0, 0, 0)) (cod_179 rfl) rfl rfl rfl ?_
    refine x_s (q := (.iload_n 1, 0, 0, 0)) (cod_179 rfl) rfl rfl rfl ?_
    refine x_pf (kk := 4) (t := 0) (cod_179 rfl) sq_p_597 sq_l_597_4 rfl rfl rfl ?_
    have H4 := H1 _ rfl
    generalize umem m 597 4 1 = m3 at H4 ⊢
    refine x_s (q := (.aload_n 0, 0, 0, 0)) (cod_179 rfl) rfl rfl rfl ?_
    refine x_s (q := (.iload_n 2, 0, 0, 0)) (cod_179 rfl) rfl rfl rfl ?_
    refine x_pf (kk := 5) (t := 0) (cod_179 rfl) sq_p_597 sq_l_597_5 rfl rfl rfl ?_
    have H6 := H4 _ rfl
    generalize umem m3 597 5 (m 597 11) = m5 at H6 ⊢
    refine x_s (q := (.iconst 0, 0, 0, 0)) (cod_179 rfl) rfl rfl rfl ?_
    refine x_rI (t := .boolean) (cod_179 rfl) rfl rfl rfl ?_
    show X 178 9 [(1, 597), (0, 1)] [(0, 0)] m5 _
    refine x_rI (t := .boolean) (cod_178 rfl) rfl rfl rfl ?_
    show X 183 152 [(1, 597), ua1, (0, a2)] [(0, 0)] m5 _
    refine x_retI (t := .boolean) (cod_183 rfl) rfl rfl rfl ?_
    exact H6
  · have H2 := H.1 (Classical.not_not.mp h)
    refine x_s (q := (.aload_n 0, 0, 0, 0)) (cod_183 rfl) rfl rfl rfl ?_
    refine x_gf (kk := 10) (t := 0) (cod_183 rfl) sq_p_597 sq_l_597_10 rfl rfl ?_
    refine x_s (q := (.iload_n 2, 0, 0, 0)) (cod_183 rfl) rfl rfl rfl ?_
    refine x_ic (p := ¬ (m 597 10) = a2) (tgt := 147) (cod_183 rfl) (by decide) xj_ne (fun h => ?_) (fun h => ?_)
    · have H7 := H2.2 h
      refine x_s (q := (.aload_n 0, 0, 0, 0)) (cod_183 rfl) rfl rfl rfl ?_
      refine x_s (q := (.iconst 1, 0, 0, 0)) (cod_183 rfl) rfl rfl rfl ?_
      refine x_call (as := [(1, 597), (0, 1)]) (rest := []) (cod_183 rfl) rfl rfl (by decide) (by decide) rfl rfl (Nat.le_of_ble_eq_true rfl) (rcv0 sq_l_597_0 sq_p_597 (by decide)) (Nat.le_of_ble_eq_true rfl) ?_
      show X 178 0 [(1, 597), (0, 1)] [] m _
      refine x_s (q := (.aload_n 0, 0, 0, 0)) (cod_178 rfl) rfl rfl rfl ?_
      refine x_s (q := (.iload_n 1, 0, 0, 0)) (cod_178 rfl) rfl rfl rfl ?_
      refine x_s (q := (.aload_n 0, 0, 0, 0)) (cod_178 rfl) rfl rfl rfl ?_
      refine x_gf (kk := 11) (t := 0) (cod_178 rfl) sq_p_597 sq_l_597_11 rfl rfl ?_
      refine x_call (as := [(1, 597), (0, 1), (0, m 597 11)]) (rest := []) (cod_178 rfl) rfl rfl (by decide) (by decide) rfl rfl (Nat.le_of_ble_eq_true rfl) (rcv0 sq_l_597_0 sq_p_597 (by decide)) (Nat.le_of_ble_eq_true rfl) ?_
      show X 179 0 [(1, 597), (0, 1), (0, m 597 11)] [] m _
      refine x_s (q := (.aload_n 0, 0, 0, 0)) (cod_179 rfl) rfl rfl rfl ?_
      refine x_s (q := (.iload_n 1, 0, 0, 0)) (cod_179 rfl) rfl rfl rfl ?_
      refine x_pf (kk := 4) (t := 0) (cod_179 rfl) sq_p_597 sq_l_597_4 rfl rfl rfl ?_
      have H10 := H7 _ rfl
      generalize umem m 597 4 1 = m9 at H10 ⊢
      refine x_s (q := (.aload_n 0, 0, 0, 0)) (cod_179 rfl) rfl rfl rfl ?_
      refine x_s (q := (.iload_n 2, 0, 0, 0)) (cod_179 rfl) rfl rfl rfl ?_
      refine x_pf (kk := 5) (t := 0) (cod_179 rfl) sq_p_597 sq_l_597_5 rfl rfl rfl ?_
      have H12 := H10 _ rfl
      generalize umem m9 597 5 (m 597 11) = m11 at H12 ⊢
      refine x_s (q := (.iconst 0, 0, 0, 0)) (cod_179 rfl) rfl rfl rfl ?_
      refine x_rI (t := .boolean) (cod_179 rfl) rfl rfl rfl ?_
      show X 178 9 [(1, 597), (0, 1)] [(0, 0)] m11 _
      refine x_rI (t := .boolean) (cod_178 rfl) rfl rfl rfl ?_
      show X 183 152 [(1, 597), ua1, (0, a2)] [(0, 0)] m11 _
      refine x_retI (t := .boolean) (cod_183 rfl) rfl rfl rfl ?_
      exact H12
    · have H8 := H2.1 (Classical.not_not.mp h)
      refine x_s (q := (.aload_n 0, 0, 0, 0)) (cod_183 rfl) rfl rfl rfl ?_
      refine x_s (q := (.bipush 30, 0, 0, 0)) (cod_183 rfl) rfl rfl rfl ?_
      refine x_pf (kk := 14) (t := 0) (cod_183 rfl) sq_p_597 sq_l_597_14 rfl rfl rfl ?_
      have H14 := H8 _ rfl
      generalize umem m 597 14 30 = m13 at H14 ⊢
      refine x_go (tgt := 153) (cod_183 rfl) (by decide) ?_
      refine x_s (q := (.aload_n 0, 0, 0, 0)) (cod_183 rfl) rfl rfl rfl ?_
      refine x_call (as := [(1, 597)]) (rest := []) (cod_183 rfl) rfl rfl (by decide) (by decide) rfl rfl (Nat.le_of_ble_eq_true rfl) (rcv0 sq_l_597_0 sq_p_597 (by decide)) (Nat.le_of_ble_eq_true rfl) ?_
      refine X.imp H14 ?_
      rintro _ m15 ⟨rfl, H16⟩
      show X 183 157 [(1, 597), ua1, (0, a2)] [] m15 _
      refine x_s (q := (.iconst 1, 0, 0, 0)) (cod_183 rfl) rfl rfl rfl ?_
      refine x_retI (t := .boolean) (cod_183 rfl) rfl rfl rfl ?_
      exact H16
set_option maxRecDepth 100000 in
theorem w184_0 {m : Mm} {K : Int → Mm → Prop} (a1 : Int) 
  (H : ((m 597 9) = 3 → ((m 597 10) > a1 → ∀ m9, m9 = umem m 597 4 2 → ∀ m11, m11 = umem m9 597 5 (m 597 11) → K 0 m11) ∧ (¬ (m 597 10) > a1 → ∀ m5, m5 = umem m 597 14 (m 597 10) → TrV 170 [(1, 597)] m5 fun m7 => K 1 m7)) ∧ (¬ (m 597 9) = 3 → ∀ m13, m13 = umem m 597 4 1 → ∀ m15, m15 = umem m13 597 5 (m 597 11) → K 0 m15)) : X 184 0 [(1, 597), (0, a1)] [] m (qI K) := by
  refine x_s (q := (.aload_n 0, 0, 0, 0)) (cod_184 rfl) rfl rfl rfl ?_
  refine x_gf (kk := 9) (t := 0) (cod_184 rfl) sq_p_597 sq_l_597_9 rfl rfl ?_
  refine x_s (q := (.iconst 3, 0, 0, 0)) (cod_184 rfl) rfl rfl rfl ?_
  refine x_ic (p := (m 597 9) = 3) (tgt := 14) (cod_184 rfl) (by decide) xj_eq (fun h => ?_) (fun h => ?_)
  · have H1 := H.1 h
    refine x_s (q := (.aload_n 0, 0, 0, 0)) (cod_184 rfl) rfl rfl rfl ?_
    refine x_gf (kk := 10) (t := 0) (cod_184 rfl) sq_p_597 sq_l_597_10 rfl rfl ?_
    refine x_s (q := (.iload_n 1, 0, 0, 0)) (cod_184 rfl) rfl rfl rfl ?_
    refine x_ic (p := ¬ (m 597 10) > a1) (tgt := 28) (cod_184 rfl) (by decide) xn_le (fun h => ?_) (fun h => ?_)
    · have H3 := H1.2 h
      refine x_s (q := (.aload_n 0, 0, 0, 0)) (cod_184 rfl) rfl rfl rfl ?_
      refine x_s (q := (.aload_n 0, 0, 0, 0)) (cod_184 rfl) rfl rfl rfl ?_
      refine x_gf (kk := 10) (t := 0) (cod_184 rfl) sq_p_597 sq_l_597_10 rfl rfl ?_
      refine x_pf (kk := 14) (t := 0) (cod_184 rfl) sq_p_597 sq_l_597_14 rfl rfl rfl ?_
      have H6 := H3 _ rfl
      generalize umem m 597 14 (m 597 10) = m5 at H6 ⊢
      refine x_s (q := (.aload_n 0, 0, 0, 0)) (cod_184 rfl) rfl rfl rfl ?_
      refine x_call (as := [(1, 597)]) (rest := []) (cod_184 rfl) rfl rfl (by decide) (by decide) rfl rfl (Nat.le_of_ble_eq_true rfl) (rcv0 sq_l_597_0 sq_p_597 (by decide)) (Nat.le_of_ble_eq_true rfl) ?_
      refine X.imp H6 ?_
      rintro _ m7 ⟨rfl, H8⟩
      show X 184 40 [(1, 597), (0, a1)] [] m7 _
      refine x_s (q := (.iconst 1, 0, 0, 0)) (cod_184 rfl) rfl rfl rfl ?_
      refine x_retI (t := .boolean) (cod_184 rfl) rfl rfl rfl ?_
      exact H8
    · have H4 := H1.1 (Classical.not_not.mp h)
      refine x_s (q := (.aload_n 0, 0, 0, 0)) (cod_184 rfl) rfl rfl rfl ?_
      refine x_s (q := (.iconst 2, 0, 0, 0)) (cod_184 rfl) rfl rfl rfl ?_
      refine x_call (as := [(1, 597), (0, 2)]) (rest := []) (cod_184 rfl) rfl rfl (by decide) (by decide) rfl rfl (Nat.le_of_ble_eq_true rfl) (rcv0 sq_l_597_0 sq_p_597 (by decide)) (Nat.le_of_ble_eq_true rfl) ?_
      show X 178 0 [(1, 597), (0, 2)] [] m _
      refine x_s (q := (.aload_n 0, 0, 0, 0)) (cod_178 rfl) rfl rfl rfl ?_
      refine x_s (q := (.iload_n 1, 0, 0, 0)) (cod_178 rfl) rfl rfl rfl ?_
      refine x_s (q := (.aload_n 0, 0, 0, 0)) (cod_178 rfl) rfl rfl rfl ?_
      refine x_gf (kk := 11) (t := 0) (cod_178 rfl) sq_p_597 sq_l_597_11 rfl rfl ?_
      refine x_call (as := [(1, 597), (0, 2), (0, m 597 11)]) (rest := []) (cod_178 rfl) rfl rfl (by decide) (by decide) rfl rfl (Nat.le_of_ble_eq_true rfl) (rcv0 sq_l_597_0 sq_p_597 (by decide)) (Nat.le_of_ble_eq_true rfl) ?_
      show X 179 0 [(1, 597), (0, 2), (0, m 597 11)] [] m _
      refine x_s (q := (.aload_n 0, 0, 0, 0)) (cod_179 rfl) rfl rfl rfl ?_
      refine x_s (q := (.iload_n 1, 0, 0, 0)) (cod_179 rfl) rfl rfl rfl ?_
      refine x_pf (kk := 4) (t := 0) (cod_179 rfl) sq_p_597 sq_l_597_4 rfl rfl rfl ?_
      have H10 := H4 _ rfl
      generalize umem m 597 4 2 = m9 at H10 ⊢
      refine x_s (q := (.aload_n 0, 0, 0, 0)) (cod_179 rfl) rfl rfl rfl ?_
      refine x_s (q := (.iload_n 2, 0, 0, 0)) (cod_179 rfl) rfl rfl rfl ?_
      refine x_pf (kk := 5) (t := 0) (cod_179 rfl) sq_p_597 sq_l_597_5 rfl rfl rfl ?_
      have H12 := H10 _ rfl
      generalize umem m9 597 5 (m 597 11) = m11 at H12 ⊢
      refine x_s (q := (.iconst 0, 0, 0, 0)) (cod_179 rfl) rfl rfl rfl ?_
      refine x_rI (t := .boolean) (cod_179 rfl) rfl rfl rfl ?_
      show X 178 9 [(1, 597), (0, 2)] [(0, 0)] m11 _
      refine x_rI (t := .boolean) (cod_178 rfl) rfl rfl rfl ?_
      show X 184 27 [(1, 597), (0, a1)] [(0, 0)] m11 _
      refine x_retI (t := .boolean) (cod_184 rfl) rfl rfl rfl ?_
      exact H12
  · have H2 := H.2 h
    refine x_s (q := (.aload_n 0, 0, 0, 0)) (cod_184 rfl) rfl rfl rfl ?_
    refine x_s (q := (.iconst 1, 0, 0, 0)) (cod_184 rfl) rfl rfl rfl ?_
    refine x_call (as := [(1, 597), (0, 1)]) (rest := []) (cod_184 rfl) rfl rfl (by decide) (by decide) rfl rfl (Nat.le_of_ble_eq_true rfl) (rcv0 sq_l_597_0 sq_p_597 (by decide)) (Nat.le_of_ble_eq_true rfl) ?_
    show X 178 0 [(1, 597), (0, 1)] [] m _
    refine x_s (q := (.aload_n 0, 0, 0, 0)) (cod_178 rfl) rfl rfl rfl ?_
    refine x_s (q := (.iload_n 1, 0, 0, 0)) (cod_178 rfl) rfl rfl rfl ?_
    refine x_s (q := (.aload_n 0, 0, 0, 0)) (cod_178 rfl) rfl rfl rfl ?_
    refine x_gf (kk := 11) (t := 0) (cod_178 rfl) sq_p_597 sq_l_597_11 rfl rfl ?_
    refine x_call (as := [(1, 597), (0, 1), (0, m 597 11)]) (rest := []) (cod_178 rfl) rfl rfl (by decide) (by decide) rfl rfl (Nat.le_of_ble_eq_true rfl) (rcv0 sq_l_597_0 sq_p_597 (by decide)) (Nat.le_of_ble_eq_true rfl) ?_
    show X 179 0 [(1, 597), (0, 1), (0, m 597 11)] [] m _
    refine x_s (q := (.aload_n 0, 0, 0, 0)) (cod_179 rfl) rfl rfl rfl ?_
    refine x_s (q := (.iload_n 1, 0, 0, 0)) (cod_179 rfl) rfl rfl rfl ?_
    refine x_pf (kk := 4) (t := 0) (cod_179 rfl) sq_p_597 sq_l_597_4 rfl rfl rfl ?_
    have H14 := H2 _ rfl
    generalize umem m 597 4 1 = m13 at H14 ⊢
    refine x_s (q := (.aload_n 0, 0, 0, 0)) (cod_179 rfl) rfl rfl rfl ?_
    refine x_s (q := (.iload_n 2, 0, 0, 0)) (cod_179 rfl) rfl rfl rfl ?_
    refine x_pf (kk := 5) (t := 0) (cod_179 rfl) sq_p_597 sq_l_597_5 rfl rfl rfl ?_
    have H16 := H14 _ rfl
    generalize umem m13 597 5 (m 597 11) = m15 at H16 ⊢
    refine x_s (q := (.iconst 0, 0, 0, 0)) (cod_179 rfl) rfl rfl rfl ?_
    refine x_rI (t := .boolean) (cod_179 rfl) rfl rfl rfl ?_
    show X 178 9 [(1, 597), (0, 1)] [(0, 0)] m15 _
    refine x_rI (t := .boolean) (cod_178 rfl) rfl rfl rfl ?_
    show X 184 13 [(1, 597), (0, a1)] [(0, 0)] m15 _
    refine x_retI (t := .boolean) (cod_184 rfl) rfl rfl rfl ?_
    exact H16
theorem e184 {m : Mm} {K : Int → Mm → Prop} (a1 : Int) 
  (H : ((m 597 9) = 3 → ((m 597 10) > a1 → ∀ m9, m9 = umem m 597 4 2 → ∀ m11, m11 = umem m9 597 5 (m 597 11) → K 0 m11) ∧ (¬ (m 597 10) > a1 → ∀ m5, m5 = umem m 597 14 (m 597 10) → TrV 170 [(1, 597)] m5 fun m7 => K 1 m7)) ∧ (¬ (m 597 9) = 3 → ∀ m13, m13 = umem m 597 4 1 → ∀ m15, m15 = umem m13 597 5 (m 597 11) → K 0 m15)) : TrI 184 [(1, 597), (0, a1)] m K := by
  exact w184_0 a1 H
set_option maxRecDepth 100000 in
theorem w185_0 {m : Mm} {K : Int → Mm → Prop}  
  (H : m 597 16 = 1 ∧ ((m 602 1162) = 24 → ∀ m19, m19 = umem m 597 4 2 → ∀ m21, m21 = umem m19 597 5 (m 597 11) → K 0 m21) ∧ (¬ (m 602 1162) = 24 → m 597 16 = 1 ∧ TrV 170 [(1, 597)] m fun m7 => ((m7 597 9) = 2 → (0 ≤ (wr ((wr (583 * (m7 597 16))) + (wr (264 + (wr (11 * (m 602 1162))))))) ∧ (wr ((wr (583 * (m7 597 16))) + (wr (264 + (wr (11 * (m 602 1162))))))) < 1166) ∧ ∀ m13, m13 = umem m7 602 (wr ((wr (583 * (m7 597 16))) + (wr (264 + (wr (11 * (m 602 1162))))))) (m7 597 13) → X 185 56 [(1, 597), (0, wr (264 + (wr (11 * (m 602 1162))))), (0, 0)] [] m13 (qI K)) ∧ (¬ (m7 597 9) = 2 → ∀ m15, m15 = umem m7 597 4 1 → ∀ m17, m17 = umem m15 597 5 (m7 597 11) → K 0 m17))) : X 185 0 [(1, 597), (9, 0), (9, 0)] [] m (qI K) := by
  refine x_s (q := (.aload_n 0, 0, 0, 0)) (cod_185 rfl) rfl rfl rfl ?_
  refine x_call (as := [(1, 597)]) (rest := []) (cod_185 rfl) rfl rfl (by decide) (by decide) rfl rfl (Nat.le_of_ble_eq_true rfl) (rcv0 sq_l_597_0 sq_p_597 (by decide)) (Nat.le_of_ble_eq_true rfl) ?_
  show X 186 0 [(1, 597)] [] m _
  refine x_s (q := (.aload_n 0, 0, 0, 0)) (cod_186 rfl) rfl rfl rfl ?_
  refine x_s (q := (.sipush 579, 0, 0, 0)) (cod_186 rfl) rfl rfl rfl ?_
  obtain ⟨c1, H2⟩ := H
  refine x_call (as := [(1, 597), (0, 579)]) (rest := []) (cod_186 rfl) rfl rfl (by decide) (by decide) rfl rfl (Nat.le_of_ble_eq_true rfl) (rcv0 sq_l_597_0 sq_p_597 (by decide)) (Nat.le_of_ble_eq_true rfl) ?_
  refine x_pure (p182b (by decide) c1) ?_
  show X 186 7 [(1, 597)] [(0, m 602 1162)] m _
  refine x_rI (t := .int) (cod_186 rfl) rfl rfl rfl ?_
  show X 185 4 [(1, 597), (9, 0), (9, 0)] [(0, m 602 1162)] m _
  refine x_s (q := (.bipush 24, 0, 0, 0)) (cod_185 rfl) rfl rfl rfl ?_
  refine x_ic (p := ¬ (m 602 1162) = 24) (tgt := 15) (cod_185 rfl) (by decide) xj_ne (fun h => ?_) (fun h => ?_)
  · have H3 := H2.2 h
    refine x_s (q := (.sipush 264, 0, 0, 0)) (cod_185 rfl) rfl rfl rfl ?_
    refine x_s (q := (.bipush 11, 0, 0, 0)) (cod_185 rfl) rfl rfl rfl ?_
    refine x_s (q := (.aload_n 0, 0, 0, 0)) (cod_185 rfl) rfl rfl rfl ?_
    refine x_call (as := [(1, 597)]) (rest := [(0, 11), (0, 264)]) (cod_185 rfl) rfl rfl (by decide) (by decide) rfl rfl (Nat.le_of_ble_eq_true rfl) (rcv0 sq_l_597_0 sq_p_597 (by decide)) (Nat.le_of_ble_eq_true rfl) ?_
    show X 186 0 [(1, 597)] [] m _
    refine x_s (q := (.aload_n 0, 0, 0, 0)) (cod_186 rfl) rfl rfl rfl ?_
    refine x_s (q := (.sipush 579, 0, 0, 0)) (cod_186 rfl) rfl rfl rfl ?_
    obtain ⟨c5, H6⟩ := H3
    refine x_call (as := [(1, 597), (0, 579)]) (rest := []) (cod_186 rfl) rfl rfl (by decide) (by decide) rfl rfl (Nat.le_of_ble_eq_true rfl) (rcv0 sq_l_597_0 sq_p_597 (by decide)) (Nat.le_of_ble_eq_true rfl) ?_
    refine x_pure (p182b (by decide) c5) ?_
    show X 186 7 [(1, 597)] [(0, m 602 1162)] m _
    refine x_rI (t := .int) (cod_186 rfl) rfl rfl rfl ?_
    show X 185 24 [(1, 597), (9, 0), (9, 0)] [(0, m 602 1162), (0, 11), (0, 264)] m _
    refine x_s (q := (.imul, 0, 0, 0)) (cod_185 rfl) rfl rfl rfl ?_
    refine x_s (q := (.iadd, 0, 0, 0)) (cod_185 rfl) rfl rfl rfl ?_
    refine x_s (q := (.istore_n 1, 0, 0, 0)) (cod_185 rfl) rfl rfl rfl ?_
    refine x_s (q := (.aload_n 0, 0, 0, 0)) (cod_185 rfl) rfl rfl rfl ?_
    refine x_call (as := [(1, 597)]) (rest := []) (cod_185 rfl) rfl rfl (by decide) (by decide) rfl rfl (Nat.le_of_ble_eq_true rfl) (rcv0 sq_l_597_0 sq_p_597 (by decide)) (Nat.le_of_ble_eq_true rfl) ?_
    refine X.imp H6 ?_
    rintro _ m7 ⟨rfl, H8⟩
    show X 185 31 [(1, 597), (0, wr (264 + (wr (11 * (m 602 1162))))), (9, 0)] [] m7 _
    refine x_s (q := (.aload_n 0, 0, 0, 0)) (cod_185 rfl) rfl rfl rfl ?_
    refine x_gf (kk := 9) (t := 0) (cod_185 rfl) sq_p_597 sq_l_597_9 rfl rfl ?_
    refine x_s (q := (.iconst 2, 0, 0, 0)) (cod_185 rfl) rfl rfl rfl ?_
    refine x_ic (p := (m7 597 9) = 2) (tgt := 45) (cod_185 rfl) (by decide) xj_eq (fun h => ?_) (fun h => ?_)
    · have H9 := H8.1 h
      refine x_s (q := (.aload_n 0, 0, 0, 0)) (cod_185 rfl) rfl rfl rfl ?_
      refine x_s (q := (.iload_n 1, 0, 0, 0)) (cod_185 rfl) rfl rfl rfl ?_
      refine x_s (q := (.aload_n 0, 0, 0, 0)) (cod_185 rfl) rfl rfl rfl ?_
      refine x_gf (kk := 13) (t := 0) (cod_185 rfl) sq_p_597 sq_l_597_13 rfl rfl ?_
      refine x_call (as := [(1, 597), (0, wr (264 + (wr (11 * (m 602 1162))))), (0, m7 597 13)]) (rest := []) (cod_185 rfl) rfl rfl (by decide) (by decide) rfl rfl (Nat.le_of_ble_eq_true rfl) (rcv0 sq_l_597_0 sq_p_597 (by decide)) (Nat.le_of_ble_eq_true rfl) ?_
      show X 163 0 [(1, 597), (0, wr (264 + (wr (11 * (m 602 1162))))), (0, m7 597 13)] [] m7 _
      refine x_s (q := (.aload_n 0, 0, 0, 0)) (cod_163 rfl) rfl rfl rfl ?_
      refine x_gc (kk := 15) (c := 602) (t := 1) (cod_163 rfl) sq_p_597 sq_l_597_15 rfl rfl ?_
      refine x_s (q := (.sipush 583, 0, 0, 0)) (cod_163 rfl) rfl rfl rfl ?_
      refine x_s (q := (.aload_n 0, 0, 0, 0)) (cod_163 rfl) rfl rfl rfl ?_
      refine x_gf (kk := 16) (t := 0) (cod_163 rfl) sq_p_597 sq_l_597_16 rfl rfl ?_
      refine x_s (q := (.imul, 0, 0, 0)) (cod_163 rfl) rfl rfl rfl ?_
      refine x_s (q := (.iload_n 1, 0, 0, 0)) (cod_163 rfl) rfl rfl rfl ?_
      refine x_s (q := (.iadd, 0, 0, 0)) (cod_163 rfl) rfl rfl rfl ?_
      refine x_s (q := (.iload_n 2, 0, 0, 0)) (cod_163 rfl) rfl rfl rfl ?_
      obtain ⟨c11, H12⟩ := H9
      refine x_iast (cod_163 rfl) sq_a_602.s (sq_a_602.k c11.1 c11.2) ?_
      have H14 := H12 _ rfl
      generalize umem m7 602 (wr ((wr (583 * (m7 597 16))) + (wr (264 + (wr (11 * (m 602 1162))))))) (m7 597 13) = m13 at H14 ⊢
      refine x_rV (cod_163 rfl) rfl ?_
      show X 185 54 [(1, 597), (0, wr (264 + (wr (11 * (m 602 1162))))), (9, 0)] [] m13 _
      refine x_s (q := (.iconst 0, 0, 0, 0)) (cod_185 rfl) rfl rfl rfl ?_
      refine x_s (q := (.istore_n 2, 0, 0, 0)) (cod_185 rfl) rfl rfl rfl ?_
      exact H14
    · have H10 := H8.2 h
      refine x_s (q := (.aload_n 0, 0, 0, 0)) (cod_185 rfl) rfl rfl rfl ?_
      refine x_s (q := (.iconst 1, 0, 0, 0)) (cod_185 rfl) rfl rfl rfl ?_
      refine x_call (as := [(1, 597), (0, 1)]) (rest := []) (cod_185 rfl) rfl rfl (by decide) (by decide) rfl rfl (Nat.le_of_ble_eq_true rfl) (rcv0 sq_l_597_0 sq_p_597 (by decide)) (Nat.le_of_ble_eq_true rfl) ?_
      show X 178 0 [(1, 597), (0, 1)] [] m7 _
      refine x_s (q := (.aload_n 0, 0, 0, 0)) (cod_178 rfl) rfl rfl rfl ?_
      refine x_s (q := (.iload_n 1, 0, 0, 0)) (cod_178 rfl) rfl rfl rfl ?_
      refine x_s (q := (.aload_n 0, 0, 0, 0)) (cod_178 rfl) rfl rfl rfl ?_
      refine x_gf (kk := 11) (t := 0) (cod_178 rfl) sq_p_597 sq_l_597_11 rfl rfl ?_
      refine x_call (as := [(1, 597), (0, 1), (0, m7 597 11)]) (rest := []) (cod_178 rfl) rfl rfl (by decide) (by decide) rfl rfl (Nat.le_of_ble_eq_true rfl) (rcv0 sq_l_597_0 sq_p_597 (by decide)) (Nat.le_of_ble_eq_true rfl) ?_
      show X 179 0 [(1, 597), (0, 1), (0, m7 597 11)] [] m7 _
      refine x_s (q := (.aload_n 0, 0, 0, 0)) (cod_179 rfl) rfl rfl rfl ?_
      refine x_s (q := (.iload_n 1, 0, 0, 0)) (cod_179 rfl) rfl rfl rfl ?_
      refine x_pf (kk := 4) (t := 0) (cod_179 rfl) sq_p_597 sq_l_597_4 rfl rfl rfl ?_
      have H16 := H10 _ rfl
      generalize umem m7 597 4 1 = m15 at H16 ⊢
      refine x_s (q := (.aload_n 0, 0, 0, 0)) (cod_179 rfl) rfl rfl rfl ?_
      refine x_s (q := (.iload_n 2, 0, 0, 0)) (cod_179 rfl) rfl rfl rfl ?_
      refine x_pf (kk := 5) (t := 0) (cod_179 rfl) sq_p_597 sq_l_597_5 rfl rfl rfl ?_
      have H18 := H16 _ rfl
      generalize umem m15 597 5 (m7 597 11) = m17 at H18 ⊢
      refine x_s (q := (.iconst 0, 0, 0, 0)) (cod_179 rfl) rfl rfl rfl ?_
      refine x_rI (t := .boolean) (cod_179 rfl) rfl rfl rfl ?_
      show X 178 9 [(1, 597), (0, 1)] [(0, 0)] m17 _
      refine x_rI (t := .boolean) (cod_178 rfl) rfl rfl rfl ?_
      show X 185 44 [(1, 597), (0, wr (264 + (wr (11 * (m 602 1162))))), (9, 0)] [(0, 0)] m17 _
      refine x_retI (t := .boolean) (cod_185 rfl) rfl rfl rfl ?_
      exact H18
  · have H4 := H2.1 (Classical.not_not.mp h)
    refine x_s (q := (.aload_n 0, 0, 0, 0)) (cod_185 rfl) rfl rfl rfl ?_
    refine x_s (q := (.iconst 2, 0, 0, 0)) (cod_185 rfl) rfl rfl rfl ?_
    refine x_call (as := [(1, 597), (0, 2)]) (rest := []) (cod_185 rfl) rfl rfl (by decide) (by decide) rfl rfl (Nat.le_of_ble_eq_true rfl) (rcv0 sq_l_597_0 sq_p_597 (by decide)) (Nat.le_of_ble_eq_true rfl) ?_
    show X 178 0 [(1, 597), (0, 2)] [] m _
    refine x_s (q := (.aload_n 0, 0, 0, 0)) (cod_178 rfl) rfl rfl rfl ?_
    refine x_s (q := (.iload_n 1, 0, 0, 0)) (cod_178 rfl) rfl rfl rfl ?_
    refine x_s (q := (.aload_n 0, 0, 0, 0)) (cod_178 rfl) rfl rfl rfl ?_
    refine x_gf (kk := 11) (t := 0) (cod_178 rfl) sq_p_597 sq_l_597_11 rfl rfl ?_
    refine x_call (as := [(1, 597), (0, 2), (0, m 597 11)]) (rest := []) (cod_178 rfl) rfl rfl (by decide) (by decide) rfl rfl (Nat.le_of_ble_eq_true rfl) (rcv0 sq_l_597_0 sq_p_597 (by decide)) (Nat.le_of_ble_eq_true rfl) ?_
    show X 179 0 [(1, 597), (0, 2), (0, m 597 11)] [] m _
    refine x_s (q := (.aload_n 0, 0, 0, 0)) (cod_179 rfl) rfl rfl rfl ?_
    refine x_s (q := (.iload_n 1, 0, 0, 0)) (cod_179 rfl) rfl rfl rfl ?_
    refine x_pf (kk := 4) (t := 0) (cod_179 rfl) sq_p_597 sq_l_597_4 rfl rfl rfl ?_
    have H20 := H4 _ rfl
    generalize umem m 597 4 2 = m19 at H20 ⊢
    refine x_s (q := (.aload_n 0, 0, 0, 0)) (cod_179 rfl) rfl rfl rfl ?_
    refine x_s (q := (.iload_n 2, 0, 0, 0)) (cod_179 rfl) rfl rfl rfl ?_
    refine x_pf (kk := 5) (t := 0) (cod_179 rfl) sq_p_597 sq_l_597_5 rfl rfl rfl ?_
    have H22 := H20 _ rfl
    generalize umem m19 597 5 (m 597 11) = m21 at H22 ⊢
    refine x_s (q := (.iconst 0, 0, 0, 0)) (cod_179 rfl) rfl rfl rfl ?_
    refine x_rI (t := .boolean) (cod_179 rfl) rfl rfl rfl ?_
    show X 178 9 [(1, 597), (0, 2)] [(0, 0)] m21 _
    refine x_rI (t := .boolean) (cod_178 rfl) rfl rfl rfl ?_
    show X 185 14 [(1, 597), (9, 0), (9, 0)] [(0, 0)] m21 _
    refine x_retI (t := .boolean) (cod_185 rfl) rfl rfl rfl ?_
    exact H22
theorem e185 {m : Mm} {K : Int → Mm → Prop}  
  (H : m 597 16 = 1 ∧ ((m 602 1162) = 24 → ∀ m19, m19 = umem m 597 4 2 → ∀ m21, m21 = umem m19 597 5 (m 597 11) → K 0 m21) ∧ (¬ (m 602 1162) = 24 → m 597 16 = 1 ∧ TrV 170 [(1, 597)] m fun m7 => ((m7 597 9) = 2 → (0 ≤ (wr ((wr (583 * (m7 597 16))) + (wr (264 + (wr (11 * (m 602 1162))))))) ∧ (wr ((wr (583 * (m7 597 16))) + (wr (264 + (wr (11 * (m 602 1162))))))) < 1166) ∧ ∀ m13, m13 = umem m7 602 (wr ((wr (583 * (m7 597 16))) + (wr (264 + (wr (11 * (m 602 1162))))))) (m7 597 13) → X 185 56 [(1, 597), (0, wr (264 + (wr (11 * (m 602 1162))))), (0, 0)] [] m13 (qI K)) ∧ (¬ (m7 597 9) = 2 → ∀ m15, m15 = umem m7 597 4 1 → ∀ m17, m17 = umem m15 597 5 (m7 597 11) → K 0 m17))) : TrI 185 [(1, 597)] m K := by
  exact w185_0  H
set_option maxRecDepth 100000 in
theorem w185_56 {m : Mm} {K : Int → Mm → Prop} (a1 : Int) (a2 : Int) 
  (H : (a2 < (m 597 13) → (0 ≤ a2 ∧ a2 < 8) ∧ (0 ≤ (wr ((wr (583 * (m 597 16))) + (wr ((wr (a1 + 3)) + a2)))) ∧ (wr ((wr (583 * (m 597 16))) + (wr ((wr (a1 + 3)) + a2)))) < 1166) ∧ ∀ m33, m33 = umem m 602 (wr ((wr (583 * (m 597 16))) + (wr ((wr (a1 + 3)) + a2)))) (m 601 a2) → X 185 56 [(1, 597), (0, a1), (0, wr (a2 + 1))] [] m33 (qI K)) ∧ (¬ a2 < (m 597 13) → TrV 170 [(1, 597)] m fun m3 => TrI 187 [(1, 597), (0, 13), (0, 17)] m3 fun v7 m5 => (v7 = 0 → K 0 m5) ∧ (¬ v7 = 0 → (0 ≤ (wr ((wr (583 * (m5 597 16))) + (wr (a1 + 1)))) ∧ (wr ((wr (583 * (m5 597 16))) + (wr (a1 + 1)))) < 1166) ∧ ∀ m12, m12 = umem m5 602 (wr ((wr (583 * (m5 597 16))) + (wr (a1 + 1)))) (wr ((m5 597 14) - 13)) → TrI 184 [(1, 597), (0, 9)] m12 fun v16 m14 => (v16 = 0 → K 0 m14) ∧ (¬ v16 = 0 → (0 ≤ (wr ((wr (583 * (m14 597 16))) + (wr (a1 + 2)))) ∧ (wr ((wr (583 * (m14 597 16))) + (wr (a1 + 2)))) < 1166) ∧ ∀ m21, m21 = umem m14 602 (wr ((wr (583 * (m14 597 16))) + (wr (a1 + 2)))) (m14 597 14) → m21 597 16 = 1 ∧ (0 ≤ (wr ((wr (583 * (m21 597 16))) + 579)) ∧ (wr ((wr (583 * (m21 597 16))) + 579)) < 1166) ∧ ∀ m27, m27 = umem m21 602 (wr ((wr (583 * (m21 597 16))) + 579)) (wr ((m21 602 1162) + 1)) → K 1 m27)))) : X 185 56 [(1, 597), (0, a1), (0, a2)] [] m (qI K) := by
  refine x_s (q := (.iload_n 2, 0, 0, 0)) (cod_185 rfl) rfl rfl rfl ?_
  refine x_s (q := (.aload_n 0, 0, 0, 0)) (cod_185 rfl) rfl rfl rfl ?_
  refine x_gf (kk := 13) (t := 0) (cod_185 rfl) sq_p_597 sq_l_597_13 rfl rfl ?_
  refine x_ic (p := ¬ a2 < (m 597 13)) (tgt := 85) (cod_185 rfl) (by decide) xn_ge (fun h => ?_) (fun h => ?_)
  · have H1 := H.2 h
    refine x_s (q := (.aload_n 0, 0, 0, 0)) (cod_185 rfl) rfl rfl rfl ?_
    refine x_call (as := [(1, 597)]) (rest := []) (cod_185 rfl) rfl rfl (by decide) (by decide) rfl rfl (Nat.le_of_ble_eq_true rfl) (rcv0 sq_l_597_0 sq_p_597 (by decide)) (Nat.le_of_ble_eq_true rfl) ?_
    refine X.imp H1 ?_
    rintro _ m3 ⟨rfl, H4⟩
    show X 185 89 [(1, 597), (0, a1), (0, a2)] [] m3 _
    refine x_s (q := (.aload_n 0, 0, 0, 0)) (cod_185 rfl) rfl rfl rfl ?_
    refine x_s (q := (.bipush 13, 0, 0, 0)) (cod_185 rfl) rfl rfl rfl ?_
    refine x_s (q := (.bipush 17, 0, 0, 0)) (cod_185 rfl) rfl rfl rfl ?_
    refine x_call (as := [(1, 597), (0, 13), (0, 17)]) (rest := []) (cod_185 rfl) rfl rfl (by decide) (by decide) rfl rfl (Nat.le_of_ble_eq_true rfl) (rcv0 sq_l_597_0 sq_p_597 (by decide)) (Nat.le_of_ble_eq_true rfl) ?_
    refine X.imp H4 ?_
    rintro _ m5 ⟨v7, rfl, H6⟩
    show X 185 97 [(1, 597), (0, a1), (0, a2)] [(0, v7)] m5 _
    refine x_if (p := ¬ v7 = 0) (tgt := 102) (cod_185 rfl) (by decide) xj_ne (fun h => ?_) (fun h => ?_)
    · have H8 := H6.2 h
      refine x_s (q := (.aload_n 0, 0, 0, 0)) (cod_185 rfl) rfl rfl rfl ?_
      refine x_s (q := (.iload_n 1, 0, 0, 0)) (cod_185 rfl) rfl rfl rfl ?_
      refine x_s (q := (.iconst 1, 0, 0, 0)) (cod_185 rfl) rfl rfl rfl ?_
      refine x_s (q := (.iadd, 0, 0, 0)) (cod_185 rfl) rfl rfl rfl ?_
      refine x_s (q := (.aload_n 0, 0, 0, 0)) (cod_185 rfl) rfl rfl rfl ?_
      refine x_gf (kk := 14) (t := 0) (cod_185 rfl) sq_p_597 sq_l_597_14 rfl rfl ?_
      refine x_s (q := (.bipush 13, 0, 0, 0)) (cod_185 rfl) rfl rfl rfl ?_
      refine x_s (q := (.isub, 0, 0, 0)) (cod_185 rfl) rfl rfl rfl ?_
      refine x_call (as := [(1, 597), (0, wr (a1 + 1)), (0, wr ((m5 597 14) - 13))]) (rest := []) (cod_185 rfl) rfl rfl (by decide) (by decide) rfl rfl (Nat.le_of_ble_eq_true rfl) (rcv0 sq_l_597_0 sq_p_597 (by decide)) (Nat.le_of_ble_eq_true rfl) ?_
      show X 163 0 [(1, 597), (0, wr (a1 + 1)), (0, wr ((m5 597 14) - 13))] [] m5 _
      refine x_s (q := (.aload_n 0, 0, 0, 0)) (cod_163 rfl) rfl rfl rfl ?_
      refine x_gc (kk := 15) (c := 602) (t := 1) (cod_163 rfl) sq_p_597 sq_l_597_15 rfl rfl ?_
      refine x_s (q := (.sipush 583, 0, 0, 0)) (cod_163 rfl) rfl rfl rfl ?_
      refine x_s (q := (.aload_n 0, 0, 0, 0)) (cod_163 rfl) rfl rfl rfl ?_
      refine x_gf (kk := 16) (t := 0) (cod_163 rfl) sq_p_597 sq_l_597_16 rfl rfl ?_
      refine x_s (q := (.imul, 0, 0, 0)) (cod_163 rfl) rfl rfl rfl ?_
      refine x_s (q := (.iload_n 1, 0, 0, 0)) (cod_163 rfl) rfl rfl rfl ?_
      refine x_s (q := (.iadd, 0, 0, 0)) (cod_163 rfl) rfl rfl rfl ?_
      refine x_s (q := (.iload_n 2, 0, 0, 0)) (cod_163 rfl) rfl rfl rfl ?_
      obtain ⟨c10, H11⟩ := H8
      refine x_iast (cod_163 rfl) sq_a_602.s (sq_a_602.k c10.1 c10.2) ?_
      have H13 := H11 _ rfl
      generalize umem m5 602 (wr ((wr (583 * (m5 597 16))) + (wr (a1 + 1)))) (wr ((m5 597 14) - 13)) = m12 at H13 ⊢
      refine x_rV (cod_163 rfl) rfl ?_
      show X 185 116 [(1, 597), (0, a1), (0, a2)] [] m12 _
      refine x_s (q := (.aload_n 0, 0, 0, 0)) (cod_185 rfl) rfl rfl rfl ?_
      refine x_s (q := (.bipush 9, 0, 0, 0)) (cod_185 rfl) rfl rfl rfl ?_
      refine x_call (as := [(1, 597), (0, 9)]) (rest := []) (cod_185 rfl) rfl rfl (by decide) (by decide) rfl rfl (Nat.le_of_ble_eq_true rfl) (rcv0 sq_l_597_0 sq_p_597 (by decide)) (Nat.le_of_ble_eq_true rfl) ?_
      refine X.imp H13 ?_
      rintro _ m14 ⟨v16, rfl, H15⟩
      show X 185 122 [(1, 597), (0, a1), (0, a2)] [(0, v16)] m14 _
      refine x_if (p := ¬ v16 = 0) (tgt := 127) (cod_185 rfl) (by decide) xj_ne (fun h => ?_) (fun h => ?_)
      · have H17 := H15.2 h
        refine x_s (q := (.aload_n 0, 0, 0, 0)) (cod_185 rfl) rfl rfl rfl ?_
        refine x_s (q := (.iload_n 1, 0, 0, 0)) (cod_185 rfl) rfl rfl rfl ?_
        refine x_s (q := (.iconst 2, 0, 0, 0)) (cod_185 rfl) rfl rfl rfl ?_
        refine x_s (q := (.iadd, 0, 0, 0)) (cod_185 rfl) rfl rfl rfl ?_
        refine x_s (q := (.aload_n 0, 0, 0, 0)) (cod_185 rfl) rfl rfl rfl ?_
        refine x_gf (kk := 14) (t := 0) (cod_185 rfl) sq_p_597 sq_l_597_14 rfl rfl ?_
        refine x_call (as := [(1, 597), (0, wr (a1 + 2)), (0, m14 597 14)]) (rest := []) (cod_185 rfl) rfl rfl (by decide) (by decide) rfl rfl (Nat.le_of_ble_eq_true rfl) (rcv0 sq_l_597_0 sq_p_597 (by decide)) (Nat.le_of_ble_eq_true rfl) ?_
        show X 163 0 [(1, 597), (0, wr (a1 + 2)), (0, m14 597 14)] [] m14 _
        refine x_s (q := (.aload_n 0, 0, 0, 0)) (cod_163 rfl) rfl rfl rfl ?_
        refine x_gc (kk := 15) (c := 602) (t := 1) (cod_163 rfl) sq_p_597 sq_l_597_15 rfl rfl ?_
        refine x_s (q := (.sipush 583, 0, 0, 0)) (cod_163 rfl) rfl rfl rfl ?_
        refine x_s (q := (.aload_n 0, 0, 0, 0)) (cod_163 rfl) rfl rfl rfl ?_
        refine x_gf (kk := 16) (t := 0) (cod_163 rfl) sq_p_597 sq_l_597_16 rfl rfl ?_
        refine x_s (q := (.imul, 0, 0, 0)) (cod_163 rfl) rfl rfl rfl ?_
        refine x_s (q := (.iload_n 1, 0, 0, 0)) (cod_163 rfl) rfl rfl rfl ?_
        refine x_s (q := (.iadd, 0, 0, 0)) (cod_163 rfl) rfl rfl rfl ?_
        refine x_s (q := (.iload_n 2, 0, 0, 0)) (cod_163 rfl) rfl rfl rfl ?_
        obtain ⟨c19, H20⟩ := H17
        refine x_iast (cod_163 rfl) sq_a_602.s (sq_a_602.k c19.1 c19.2) ?_
        have H22 := H20 _ rfl
        generalize umem m14 602 (wr ((wr (583 * (m14 597 16))) + (wr (a1 + 2)))) (m14 597 14) = m21 at H22 ⊢
        refine x_rV (cod_163 rfl) rfl ?_
        show X 185 138 [(1, 597), (0, a1), (0, a2)] [] m21 _
        refine x_s (q := (.aload_n 0, 0, 0, 0)) (cod_185 rfl) rfl rfl rfl ?_
        refine x_s (q := (.sipush 579, 0, 0, 0)) (cod_185 rfl) rfl rfl rfl ?_
        refine x_s (q := (.aload_n 0, 0, 0, 0)) (cod_185 rfl) rfl rfl rfl ?_
        refine x_call (as := [(1, 597)]) (rest := [(0, 579), (1, 597)]) (cod_185 rfl) rfl rfl (by decide) (by decide) rfl rfl (Nat.le_of_ble_eq_true rfl) (rcv0 sq_l_597_0 sq_p_597 (by decide)) (Nat.le_of_ble_eq_true rfl) ?_
        show X 186 0 [(1, 597)] [] m21 _
        refine x_s (q := (.aload_n 0, 0, 0, 0)) (cod_186 rfl) rfl rfl rfl ?_
        refine x_s (q := (.sipush 579, 0, 0, 0)) (cod_186 rfl) rfl rfl rfl ?_
        obtain ⟨c23, H24⟩ := H22
        refine x_call (as := [(1, 597), (0, 579)]) (rest := []) (cod_186 rfl) rfl rfl (by decide) (by decide) rfl rfl (Nat.le_of_ble_eq_true rfl) (rcv0 sq_l_597_0 sq_p_597 (by decide)) (Nat.le_of_ble_eq_true rfl) ?_
        refine x_pure (p182b (by decide) c23) ?_
        show X 186 7 [(1, 597)] [(0, m21 602 1162)] m21 _
        refine x_rI (t := .int) (cod_186 rfl) rfl rfl rfl ?_
        show X 185 146 [(1, 597), (0, a1), (0, a2)] [(0, m21 602 1162), (0, 579), (1, 597)] m21 _
        refine x_s (q := (.iconst 1, 0, 0, 0)) (cod_185 rfl) rfl rfl rfl ?_
        refine x_s (q := (.iadd, 0, 0, 0)) (cod_185 rfl) rfl rfl rfl ?_
        refine x_call (as := [(1, 597), (0, 579), (0, wr ((m21 602 1162) + 1))]) (rest := []) (cod_185 rfl) rfl rfl (by decide) (by decide) rfl rfl (Nat.le_of_ble_eq_true rfl) (rcv0 sq_l_597_0 sq_p_597 (by decide)) (Nat.le_of_ble_eq_true rfl) ?_
        show X 163 0 [(1, 597), (0, 579), (0, wr ((m21 602 1162) + 1))] [] m21 _
        refine x_s (q := (.aload_n 0, 0, 0, 0)) (cod_163 rfl) rfl rfl rfl ?_
        refine x_gc (kk := 15) (c := 602) (t := 1) (cod_163 rfl) sq_p_597 sq_l_597_15 rfl rfl ?_
        refine x_s (q := (.sipush 583, 0, 0, 0)) (cod_163 rfl) rfl rfl rfl ?_
        refine x_s (q := (.aload_n 0, 0, 0, 0)) (cod_163 rfl) rfl rfl rfl ?_
        refine x_gf (kk := 16) (t := 0) (cod_163 rfl) sq_p_597 sq_l_597_16 rfl rfl ?_
        refine x_s (q := (.imul, 0, 0, 0)) (cod_163 rfl) rfl rfl rfl ?_
        refine x_s (q := (.iload_n 1, 0, 0, 0)) (cod_163 rfl) rfl rfl rfl ?_
        refine x_s (q := (.iadd, 0, 0, 0)) (cod_163 rfl) rfl rfl rfl ?_
        refine x_s (q := (.iload_n 2, 0, 0, 0)) (cod_163 rfl) rfl rfl rfl ?_
        obtain ⟨c25, H26⟩ := H24
        refine x_iast (cod_163 rfl) sq_a_602.s (sq_a_602.k c25.1 c25.2) ?_
        have H28 := H26 _ rfl
        generalize umem m21 602 (wr ((wr (583 * (m21 597 16))) + 579)) (wr ((m21 602 1162) + 1)) = m27 at H28 ⊢
        refine x_rV (cod_163 rfl) rfl ?_
        show X 185 151 [(1, 597), (0, a1), (0, a2)] [] m27 _
        refine x_s (q := (.iconst 1, 0, 0, 0)) (cod_185 rfl) rfl rfl rfl ?_
        refine x_retI (t := .boolean) (cod_185 rfl) rfl rfl rfl ?_
        exact H28
      · have H18 := H15.1 (Classical.not_not.mp h)
        refine x_s (q := (.iconst 0, 0, 0, 0)) (cod_185 rfl) rfl rfl rfl ?_
        refine x_retI (t := .boolean) (cod_185 rfl) rfl rfl rfl ?_
        exact H18
    · have H9 := H6.1 (Classical.not_not.mp h)
      refine x_s (q := (.iconst 0, 0, 0, 0)) (cod_185 rfl) rfl rfl rfl ?_
      refine x_retI (t := .boolean) (cod_185 rfl) rfl rfl rfl ?_
      exact H9
  · have H2 := H.1 (Classical.not_not.mp h)
    refine x_s (q := (.aload_n 0, 0, 0, 0)) (cod_185 rfl) rfl rfl rfl ?_
    refine x_s (q := (.iload_n 1, 0, 0, 0)) (cod_185 rfl) rfl rfl rfl ?_
    refine x_s (q := (.iconst 3, 0, 0, 0)) (cod_185 rfl) rfl rfl rfl ?_
    refine x_s (q := (.iadd, 0, 0, 0)) (cod_185 rfl) rfl rfl rfl ?_
    refine x_s (q := (.iload_n 2, 0, 0, 0)) (cod_185 rfl) rfl rfl rfl ?_
    refine x_s (q := (.iadd, 0, 0, 0)) (cod_185 rfl) rfl rfl rfl ?_
    refine x_s (q := (.aload_n 0, 0, 0, 0)) (cod_185 rfl) rfl rfl rfl ?_
    refine x_gc (kk := 12) (c := 601) (t := 1) (cod_185 rfl) sq_p_597 sq_l_597_12 rfl rfl ?_
    refine x_s (q := (.iload_n 2, 0, 0, 0)) (cod_185 rfl) rfl rfl rfl ?_
    obtain ⟨c29, H30⟩ := H2
    refine x_iald (cod_185 rfl) sq_a_601.s (sq_a_601.k c29.1 c29.2) ?_
    refine x_call (as := [(1, 597), (0, wr ((wr (a1 + 3)) + a2)), (0, m 601 a2)]) (rest := []) (cod_185 rfl) rfl rfl (by decide) (by decide) rfl rfl (Nat.le_of_ble_eq_true rfl) (rcv0 sq_l_597_0 sq_p_597 (by decide)) (Nat.le_of_ble_eq_true rfl) ?_
    show X 163 0 [(1, 597), (0, wr ((wr (a1 + 3)) + a2)), (0, m 601 a2)] [] m _
    refine x_s (q := (.aload_n 0, 0, 0, 0)) (cod_163 rfl) rfl rfl rfl ?_
    refine x_gc (kk := 15) (c := 602) (t := 1) (cod_163 rfl) sq_p_597 sq_l_597_15 rfl rfl ?_
    refine x_s (q := (.sipush 583, 0, 0, 0)) (cod_163 rfl) rfl rfl rfl ?_
    refine x_s (q := (.aload_n 0, 0, 0, 0)) (cod_163 rfl) rfl rfl rfl ?_
    refine x_gf (kk := 16) (t := 0) (cod_163 rfl) sq_p_597 sq_l_597_16 rfl rfl ?_
    refine x_s (q := (.imul, 0, 0, 0)) (cod_163 rfl) rfl rfl rfl ?_
    refine x_s (q := (.iload_n 1, 0, 0, 0)) (cod_163 rfl) rfl rfl rfl ?_
    refine x_s (q := (.iadd, 0, 0, 0)) (cod_163 rfl) rfl rfl rfl ?_
    refine x_s (q := (.iload_n 2, 0, 0, 0)) (cod_163 rfl) rfl rfl rfl ?_
    obtain ⟨c31, H32⟩ := H30
    refine x_iast (cod_163 rfl) sq_a_602.s (sq_a_602.k c31.1 c31.2) ?_
    have H34 := H32 _ rfl
    generalize umem m 602 (wr ((wr (583 * (m 597 16))) + (wr ((wr (a1 + 3)) + a2)))) (m 601 a2) = m33 at H34 ⊢
    refine x_rV (cod_163 rfl) rfl ?_
    show X 185 79 [(1, 597), (0, a1), (0, a2)] [] m33 _
    refine x_s (q := (.iinc 2 1, 0, 0, 0)) (cod_185 rfl) rfl rfl rfl ?_
    refine x_go (tgt := 56) (cod_185 rfl) (by decide) ?_
    exact H34
set_option maxRecDepth 100000 in
theorem w187_0 {m : Mm} {K : Int → Mm → Prop} (a1 : Int) (a2 : Int) 
  (H : ((m 597 9) = 1 → ((a1 ≤ (m 597 10) ∧ (m 597 10) ≤ a2) → ∀ m9, m9 = umem m 597 14 (m 597 10) → TrV 170 [(1, 597)] m9 fun m11 => K 1 m11) ∧ (¬ (a1 ≤ (m 597 10) ∧ (m 597 10) ≤ a2) → ∀ m13, m13 = umem m 597 4 1 → ∀ m15, m15 = umem m13 597 5 (m 597 11) → K 0 m15)) ∧ (¬ (m 597 9) = 1 → ∀ m3, m3 = umem m 597 4 1 → ∀ m5, m5 = umem m3 597 5 (m 597 11) → K 0 m5)) : X 187 0 [(1, 597), (0, a1), (0, a2)] [] m (qI K) := by
  refine x_s (q := (.aload_n 0, 0, 0, 0)) (cod_187 rfl) rfl rfl rfl ?_
  refine x_gf (kk := 9) (t := 0) (cod_187 rfl) sq_p_597 sq_l_597_9 rfl rfl ?_
  refine x_s (q := (.iconst 1, 0, 0, 0)) (cod_187 rfl) rfl rfl rfl ?_
  refine x_ic (p := ¬ (m 597 9) = 1) (tgt := 20) (cod_187 rfl) (by decide) xj_ne (fun h => ?_) (fun h => ?_)
  · have H1 := H.2 h
    refine x_s (q := (.aload_n 0, 0, 0, 0)) (cod_187 rfl) rfl rfl rfl ?_
    refine x_s (q := (.iconst 1, 0, 0, 0)) (cod_187 rfl) rfl rfl rfl ?_
    refine x_call (as := [(1, 597), (0, 1)]) (rest := []) (cod_187 rfl) rfl rfl (by decide) (by decide) rfl rfl (Nat.le_of_ble_eq_true rfl) (rcv0 sq_l_597_0 sq_p_597 (by decide)) (Nat.le_of_ble_eq_true rfl) ?_
    show X 178 0 [(1, 597), (0, 1)] [] m _
    refine x_s (q := (.aload_n 0, 0, 0, 0)) (cod_178 rfl) rfl rfl rfl ?_
    refine x_s (q := (.iload_n 1, 0, 0, 0)) (cod_178 rfl) rfl rfl rfl ?_
    refine x_s (q := (.aload_n 0, 0, 0, 0)) (cod_178 rfl) rfl rfl rfl ?_
    refine x_gf (kk := 11) (t := 0) (cod_178 rfl) sq_p_597 sq_l_597_11 rfl rfl ?_
    refine x_call (as := [(1, 597), (0, 1), (0, m 597 11)]) (rest := []) (cod_178 rfl) rfl rfl (by decide) (by decide) rfl rfl (Nat.le_of_ble_eq_true rfl) (rcv0 sq_l_597_0 sq_p_597 (by decide)) (Nat.le_of_ble_eq_true rfl) ?_
    show X 179 0 [(1, 597), (0, 1), (0, m 597 11)] [] m _
    refine x_s (q := (.aload_n 0, 0, 0, 0)) (cod_179 rfl) rfl rfl rfl ?_
    refine x_s (q := (.iload_n 1, 0, 0, 0)) (cod_179 rfl) rfl rfl rfl ?_
    refine x_pf (kk := 4) (t := 0) (cod_179 rfl) sq_p_597 sq_l_597_4 rfl rfl rfl ?_
    have H4 := H1 _ rfl
    generalize umem m 597 4 1 = m3 at H4 ⊢
    refine x_s (q := (.aload_n 0, 0, 0, 0)) (cod_179 rfl) rfl rfl rfl ?_
    refine x_s (q := (.iload_n 2, 0, 0, 0)) (cod_179 rfl) rfl rfl rfl ?_
    refine x_pf (kk := 5) (t := 0) (cod_179 rfl) sq_p_597 sq_l_597_5 rfl rfl rfl ?_
    have H6 := H4 _ rfl
    generalize umem m3 597 5 (m 597 11) = m5 at H6 ⊢
    refine x_s (q := (.iconst 0, 0, 0, 0)) (cod_179 rfl) rfl rfl rfl ?_
    refine x_rI (t := .boolean) (cod_179 rfl) rfl rfl rfl ?_
    show X 178 9 [(1, 597), (0, 1)] [(0, 0)] m5 _
    refine x_rI (t := .boolean) (cod_178 rfl) rfl rfl rfl ?_
    show X 187 25 [(1, 597), (0, a1), (0, a2)] [(0, 0)] m5 _
    refine x_retI (t := .boolean) (cod_187 rfl) rfl rfl rfl ?_
    exact H6
  · have H2 := H.1 (Classical.not_not.mp h)
    refine x_s (q := (.aload_n 0, 0, 0, 0)) (cod_187 rfl) rfl rfl rfl ?_
    refine x_gf (kk := 10) (t := 0) (cod_187 rfl) sq_p_597 sq_l_597_10 rfl rfl ?_
    refine x_s (q := (.iload_n 1, 0, 0, 0)) (cod_187 rfl) rfl rfl rfl ?_
    refine x_s (q := (.iload_n 2, 0, 0, 0)) (cod_187 rfl) rfl rfl rfl ?_
    refine x_call (as := [(0, m 597 10), (0, a1), (0, a2)]) (rest := []) (cod_187 rfl) rfl rfl (by decide) (by decide) rfl rfl (Nat.le_of_ble_eq_true rfl) rfl (Nat.le_of_ble_eq_true rfl) ?_
    refine x_pure (p172) ?_
    show X 187 17 [(1, 597), (0, a1), (0, a2)] [(0, bi (a1 ≤ (m 597 10) ∧ (m 597 10) ≤ a2))] m _
    refine x_if (p := a1 ≤ (m 597 10) ∧ (m 597 10) ≤ a2) (tgt := 26) (cod_187 rfl) (by decide) xb_ne (fun h => ?_) (fun h => ?_)
    · have H7 := H2.1 h
      refine x_s (q := (.aload_n 0, 0, 0, 0)) (cod_187 rfl) rfl rfl rfl ?_
      refine x_s (q := (.aload_n 0, 0, 0, 0)) (cod_187 rfl) rfl rfl rfl ?_
      refine x_gf (kk := 10) (t := 0) (cod_187 rfl) sq_p_597 sq_l_597_10 rfl rfl ?_
      refine x_pf (kk := 14) (t := 0) (cod_187 rfl) sq_p_597 sq_l_597_14 rfl rfl rfl ?_
      have H10 := H7 _ rfl
      generalize umem m 597 14 (m 597 10) = m9 at H10 ⊢
      refine x_s (q := (.aload_n 0, 0, 0, 0)) (cod_187 rfl) rfl rfl rfl ?_
      refine x_call (as := [(1, 597)]) (rest := []) (cod_187 rfl) rfl rfl (by decide) (by decide) rfl rfl (Nat.le_of_ble_eq_true rfl) (rcv0 sq_l_597_0 sq_p_597 (by decide)) (Nat.le_of_ble_eq_true rfl) ?_
      refine X.imp H10 ?_
      rintro _ m11 ⟨rfl, H12⟩
      show X 187 38 [(1, 597), (0, a1), (0, a2)] [] m11 _
      refine x_s (q := (.iconst 1, 0, 0, 0)) (cod_187 rfl) rfl rfl rfl ?_
      refine x_retI (t := .boolean) (cod_187 rfl) rfl rfl rfl ?_
      exact H12
    · have H8 := H2.2 h
      refine x_s (q := (.aload_n 0, 0, 0, 0)) (cod_187 rfl) rfl rfl rfl ?_
      refine x_s (q := (.iconst 1, 0, 0, 0)) (cod_187 rfl) rfl rfl rfl ?_
      refine x_call (as := [(1, 597), (0, 1)]) (rest := []) (cod_187 rfl) rfl rfl (by decide) (by decide) rfl rfl (Nat.le_of_ble_eq_true rfl) (rcv0 sq_l_597_0 sq_p_597 (by decide)) (Nat.le_of_ble_eq_true rfl) ?_
      show X 178 0 [(1, 597), (0, 1)] [] m _
      refine x_s (q := (.aload_n 0, 0, 0, 0)) (cod_178 rfl) rfl rfl rfl ?_
      refine x_s (q := (.iload_n 1, 0, 0, 0)) (cod_178 rfl) rfl rfl rfl ?_
      refine x_s (q := (.aload_n 0, 0, 0, 0)) (cod_178 rfl) rfl rfl rfl ?_
      refine x_gf (kk := 11) (t := 0) (cod_178 rfl) sq_p_597 sq_l_597_11 rfl rfl ?_
      refine x_call (as := [(1, 597), (0, 1), (0, m 597 11)]) (rest := []) (cod_178 rfl) rfl rfl (by decide) (by decide) rfl rfl (Nat.le_of_ble_eq_true rfl) (rcv0 sq_l_597_0 sq_p_597 (by decide)) (Nat.le_of_ble_eq_true rfl) ?_
      show X 179 0 [(1, 597), (0, 1), (0, m 597 11)] [] m _
      refine x_s (q := (.aload_n 0, 0, 0, 0)) (cod_179 rfl) rfl rfl rfl ?_
      refine x_s (q := (.iload_n 1, 0, 0, 0)) (cod_179 rfl) rfl rfl rfl ?_
      refine x_pf (kk := 4) (t := 0) (cod_179 rfl) sq_p_597 sq_l_597_4 rfl rfl rfl ?_
      have H14 := H8 _ rfl
      generalize umem m 597 4 1 = m13 at H14 ⊢
      refine x_s (q := (.aload_n 0, 0, 0, 0)) (cod_179 rfl) rfl rfl rfl ?_
      refine x_s (q := (.iload_n 2, 0, 0, 0)) (cod_179 rfl) rfl rfl rfl ?_
      refine x_pf (kk := 5) (t := 0) (cod_179 rfl) sq_p_597 sq_l_597_5 rfl rfl rfl ?_
      have H16 := H14 _ rfl
      generalize umem m13 597 5 (m 597 11) = m15 at H16 ⊢
      refine x_s (q := (.iconst 0, 0, 0, 0)) (cod_179 rfl) rfl rfl rfl ?_
      refine x_rI (t := .boolean) (cod_179 rfl) rfl rfl rfl ?_
      show X 178 9 [(1, 597), (0, 1)] [(0, 0)] m15 _
      refine x_rI (t := .boolean) (cod_178 rfl) rfl rfl rfl ?_
      show X 187 25 [(1, 597), (0, a1), (0, a2)] [(0, 0)] m15 _
      refine x_retI (t := .boolean) (cod_187 rfl) rfl rfl rfl ?_
      exact H16
theorem e187 {m : Mm} {K : Int → Mm → Prop} (a1 : Int) (a2 : Int) 
  (H : ((m 597 9) = 1 → ((a1 ≤ (m 597 10) ∧ (m 597 10) ≤ a2) → ∀ m9, m9 = umem m 597 14 (m 597 10) → TrV 170 [(1, 597)] m9 fun m11 => K 1 m11) ∧ (¬ (a1 ≤ (m 597 10) ∧ (m 597 10) ≤ a2) → ∀ m13, m13 = umem m 597 4 1 → ∀ m15, m15 = umem m13 597 5 (m 597 11) → K 0 m15)) ∧ (¬ (m 597 9) = 1 → ∀ m3, m3 = umem m 597 4 1 → ∀ m5, m5 = umem m3 597 5 (m 597 11) → K 0 m5)) : TrI 187 [(1, 597), (0, a1), (0, a2)] m K := by
  exact w187_0 a1 a2 H
set_option maxRecDepth 100000 in
theorem w188_0 {m : Mm} {K : Int → Mm → Prop} (a1 : Int) 
  (H : TrV 170 [(1, 597)] m fun m1 => TrI 187 [(1, 597), (0, 13), (0, 17)] m1 fun v5 m3 => (v5 = 0 → K 0 m3) ∧ (¬ v5 = 0 → ((m3 597 9) = 1 → ((13 ≤ (m3 597 10) ∧ (m3 597 10) ≤ 17) → (a1 = 0 → ((iand (ishr (m3 597 18) (wr ((wr (5 * (wr ((m3 597 14) - 13)))) + (wr ((m3 597 10) - 13))))) 1) = 1 → ∀ m20, m20 = umem m3 597 4 3 → ∀ m22, m22 = umem m20 597 5 (m3 597 11) → K 0 m22) ∧ (¬ (iand (ishr (m3 597 18) (wr ((wr (5 * (wr ((m3 597 14) - 13)))) + (wr ((m3 597 10) - 13))))) 1) = 1 → X 188 103 [(1, 597), (0, a1), (0, wr ((wr (5 * (wr ((m3 597 14) - 13)))) + (wr ((m3 597 10) - 13))))] [] m3 (qI K))) ∧ (¬ a1 = 0 → (m3 597 16 = 1 ∧ 0 ≤ (wr (528 + (wr ((wr (5 * (wr ((m3 597 14) - 13)))) + (wr ((m3 597 10) - 13)))))) ∧ (wr (528 + (wr ((wr (5 * (wr ((m3 597 14) - 13)))) + (wr ((m3 597 10) - 13)))))) < 583) ∧ ((m3 602 (583 + (wr (528 + (wr ((wr (5 * (wr ((m3 597 14) - 13)))) + (wr ((m3 597 10) - 13)))))))) = 1 → ∀ m28, m28 = umem m3 597 4 3 → ∀ m30, m30 = umem m28 597 5 (m3 597 11) → K 0 m30) ∧ (¬ (m3 602 (583 + (wr (528 + (wr ((wr (5 * (wr ((m3 597 14) - 13)))) + (wr ((m3 597 10) - 13)))))))) = 1 → X 188 103 [(1, 597), (0, a1), (0, wr ((wr (5 * (wr ((m3 597 14) - 13)))) + (wr ((m3 597 10) - 13))))] [] m3 (qI K)))) ∧ (¬ (13 ≤ (m3 597 10) ∧ (m3 597 10) ≤ 17) → ∀ m32, m32 = umem m3 597 4 1 → ∀ m34, m34 = umem m32 597 5 (m3 597 11) → K 0 m34)) ∧ (¬ (m3 597 9) = 1 → ∀ m10, m10 = umem m3 597 4 1 → ∀ m12, m12 = umem m10 597 5 (m3 597 11) → K 0 m12))) : X 188 0 [(1, 597), (0, a1), (9, 0)] [] m (qI K) := by
  refine x_s (q := (.aload_n 0, 0, 0, 0)) (cod_188 rfl) rfl rfl rfl ?_
  refine x_call (as := [(1, 597)]) (rest := []) (cod_188 rfl) rfl rfl (by decide) (by decide) rfl rfl (Nat.le_of_ble_eq_true rfl) (rcv0 sq_l_597_0 sq_p_597 (by decide)) (Nat.le_of_ble_eq_true rfl) ?_
  refine X.imp H ?_
  rintro _ m1 ⟨rfl, H2⟩
  show X 188 4 [(1, 597), (0, a1), (9, 0)] [] m1 _
  refine x_s (q := (.aload_n 0, 0, 0, 0)) (cod_188 rfl) rfl rfl rfl ?_
  refine x_s (q := (.bipush 13, 0, 0, 0)) (cod_188 rfl) rfl rfl rfl ?_
  refine x_s (q := (.bipush 17, 0, 0, 0)) (cod_188 rfl) rfl rfl rfl ?_
  refine x_call (as := [(1, 597), (0, 13), (0, 17)]) (rest := []) (cod_188 rfl) rfl rfl (by decide) (by decide) rfl rfl (Nat.le_of_ble_eq_true rfl) (rcv0 sq_l_597_0 sq_p_597 (by decide)) (Nat.le_of_ble_eq_true rfl) ?_
  refine X.imp H2 ?_
  rintro _ m3 ⟨v5, rfl, H4⟩
  show X 188 12 [(1, 597), (0, a1), (9, 0)] [(0, v5)] m3 _
  refine x_if (p := ¬ v5 = 0) (tgt := 17) (cod_188 rfl) (by decide) xj_ne (fun h => ?_) (fun h => ?_)
  · have H6 := H4.2 h
    refine x_s (q := (.iconst 5, 0, 0, 0)) (cod_188 rfl) rfl rfl rfl ?_
    refine x_s (q := (.aload_n 0, 0, 0, 0)) (cod_188 rfl) rfl rfl rfl ?_
    refine x_gf (kk := 14) (t := 0) (cod_188 rfl) sq_p_597 sq_l_597_14 rfl rfl ?_
    refine x_s (q := (.bipush 13, 0, 0, 0)) (cod_188 rfl) rfl rfl rfl ?_
    refine x_s (q := (.isub, 0, 0, 0)) (cod_188 rfl) rfl rfl rfl ?_
    refine x_s (q := (.imul, 0, 0, 0)) (cod_188 rfl) rfl rfl rfl ?_
    refine x_s (q := (.istore_n 2, 0, 0, 0)) (cod_188 rfl) rfl rfl rfl ?_
    refine x_s (q := (.aload_n 0, 0, 0, 0)) (cod_188 rfl) rfl rfl rfl ?_
    refine x_gf (kk := 9) (t := 0) (cod_188 rfl) sq_p_597 sq_l_597_9 rfl rfl ?_
    refine x_s (q := (.iconst 1, 0, 0, 0)) (cod_188 rfl) rfl rfl rfl ?_
    refine x_ic (p := ¬ (m3 597 9) = 1) (tgt := 49) (cod_188 rfl) (by decide) xj_ne (fun h => ?_) (fun h => ?_)
    · have H8 := H6.2 h
      refine x_s (q := (.aload_n 0, 0, 0, 0)) (cod_188 rfl) rfl rfl rfl ?_
      refine x_s (q := (.iconst 1, 0, 0, 0)) (cod_188 rfl) rfl rfl rfl ?_
      refine x_call (as := [(1, 597), (0, 1)]) (rest := []) (cod_188 rfl) rfl rfl (by decide) (by decide) rfl rfl (Nat.le_of_ble_eq_true rfl) (rcv0 sq_l_597_0 sq_p_597 (by decide)) (Nat.le_of_ble_eq_true rfl) ?_
      show X 178 0 [(1, 597), (0, 1)] [] m3 _
      refine x_s (q := (.aload_n 0, 0, 0, 0)) (cod_178 rfl) rfl rfl rfl ?_
      refine x_s (q := (.iload_n 1, 0, 0, 0)) (cod_178 rfl) rfl rfl rfl ?_
      refine x_s (q := (.aload_n 0, 0, 0, 0)) (cod_178 rfl) rfl rfl rfl ?_
      refine x_gf (kk := 11) (t := 0) (cod_178 rfl) sq_p_597 sq_l_597_11 rfl rfl ?_
      refine x_call (as := [(1, 597), (0, 1), (0, m3 597 11)]) (rest := []) (cod_178 rfl) rfl rfl (by decide) (by decide) rfl rfl (Nat.le_of_ble_eq_true rfl) (rcv0 sq_l_597_0 sq_p_597 (by decide)) (Nat.le_of_ble_eq_true rfl) ?_
      show X 179 0 [(1, 597), (0, 1), (0, m3 597 11)] [] m3 _
      refine x_s (q := (.aload_n 0, 0, 0, 0)) (cod_179 rfl) rfl rfl rfl ?_
      refine x_s (q := (.iload_n 1, 0, 0, 0)) (cod_179 rfl) rfl rfl rfl ?_
      refine x_pf (kk := 4) (t := 0) (cod_179 rfl) sq_p_597 sq_l_597_4 rfl rfl rfl ?_
      have H11 := H8 _ rfl
      generalize umem m3 597 4 1 = m10 at H11 ⊢
      refine x_s (q := (.aload_n 0, 0, 0, 0)) (cod_179 rfl) rfl rfl rfl ?_
      refine x_s (q := (.iload_n 2, 0, 0, 0)) (cod_179 rfl) rfl rfl rfl ?_
      refine x_pf (kk := 5) (t := 0) (cod_179 rfl) sq_p_597 sq_l_597_5 rfl rfl rfl ?_
      have H13 := H11 _ rfl
      generalize umem m10 597 5 (m3 597 11) = m12 at H13 ⊢
      refine x_s (q := (.iconst 0, 0, 0, 0)) (cod_179 rfl) rfl rfl rfl ?_
      refine x_rI (t := .boolean) (cod_179 rfl) rfl rfl rfl ?_
      show X 178 9 [(1, 597), (0, 1)] [(0, 0)] m12 _
      refine x_rI (t := .boolean) (cod_178 rfl) rfl rfl rfl ?_
      show X 188 54 [(1, 597), (0, a1), (0, wr (5 * (wr ((m3 597 14) - 13))))] [(0, 0)] m12 _
      refine x_retI (t := .boolean) (cod_188 rfl) rfl rfl rfl ?_
      exact H13
    · have H9 := H6.1 (Classical.not_not.mp h)
      refine x_s (q := (.aload_n 0, 0, 0, 0)) (cod_188 rfl) rfl rfl rfl ?_
      refine x_gf (kk := 10) (t := 0) (cod_188 rfl) sq_p_597 sq_l_597_10 rfl rfl ?_
      refine x_s (q := (.bipush 13, 0, 0, 0)) (cod_188 rfl) rfl rfl rfl ?_
      refine x_s (q := (.bipush 17, 0, 0, 0)) (cod_188 rfl) rfl rfl rfl ?_
      refine x_call (as := [(0, m3 597 10), (0, 13), (0, 17)]) (rest := []) (cod_188 rfl) rfl rfl (by decide) (by decide) rfl rfl (Nat.le_of_ble_eq_true rfl) rfl (Nat.le_of_ble_eq_true rfl) ?_
      refine x_pure (p172) ?_
      show X 188 46 [(1, 597), (0, a1), (0, wr (5 * (wr ((m3 597 14) - 13))))] [(0, bi (13 ≤ (m3 597 10) ∧ (m3 597 10) ≤ 17))] m3 _
      refine x_if (p := 13 ≤ (m3 597 10) ∧ (m3 597 10) ≤ 17) (tgt := 55) (cod_188 rfl) (by decide) xb_ne (fun h => ?_) (fun h => ?_)
      · have H14 := H9.1 h
        refine x_s (q := (.iload_n 2, 0, 0, 0)) (cod_188 rfl) rfl rfl rfl ?_
        refine x_s (q := (.aload_n 0, 0, 0, 0)) (cod_188 rfl) rfl rfl rfl ?_
        refine x_gf (kk := 10) (t := 0) (cod_188 rfl) sq_p_597 sq_l_597_10 rfl rfl ?_
        refine x_s (q := (.bipush 13, 0, 0, 0)) (cod_188 rfl) rfl rfl rfl ?_
        refine x_s (q := (.isub, 0, 0, 0)) (cod_188 rfl) rfl rfl rfl ?_
        refine x_s (q := (.iadd, 0, 0, 0)) (cod_188 rfl) rfl rfl rfl ?_
        refine x_s (q := (.istore_n 2, 0, 0, 0)) (cod_188 rfl) rfl rfl rfl ?_
        refine x_s (q := (.iload_n 1, 0, 0, 0)) (cod_188 rfl) rfl rfl rfl ?_
        refine x_if (p := a1 = 0) (tgt := 85) (cod_188 rfl) (by decide) xj_eq (fun h => ?_) (fun h => ?_)
        · have H16 := H14.1 h
          refine x_s (q := (.aload_n 0, 0, 0, 0)) (cod_188 rfl) rfl rfl rfl ?_
          refine x_gf (kk := 18) (t := 0) (cod_188 rfl) sq_p_597 sq_l_597_18 rfl rfl ?_
          refine x_s (q := (.iload_n 2, 0, 0, 0)) (cod_188 rfl) rfl rfl rfl ?_
          refine x_s (q := (.ishr, 0, 0, 0)) (cod_188 rfl) rfl rfl rfl ?_
          show X 188 91 [(1, 597), (0, a1), (0, wr ((wr (5 * (wr ((m3 597 14) - 13)))) + (wr ((m3 597 10) - 13))))] [(0, ishr (m3 597 18) (wr ((wr (5 * (wr ((m3 597 14) - 13)))) + (wr ((m3 597 10) - 13)))))] m3 _
          refine x_s (q := (.iconst 1, 0, 0, 0)) (cod_188 rfl) rfl rfl rfl ?_
          refine x_s (q := (.iand, 0, 0, 0)) (cod_188 rfl) rfl rfl rfl ?_
          show X 188 93 [(1, 597), (0, a1), (0, wr ((wr (5 * (wr ((m3 597 14) - 13)))) + (wr ((m3 597 10) - 13))))] [(0, iand (ishr (m3 597 18) (wr ((wr (5 * (wr ((m3 597 14) - 13)))) + (wr ((m3 597 10) - 13))))) 1)] m3 _
          refine x_s (q := (.iconst 1, 0, 0, 0)) (cod_188 rfl) rfl rfl rfl ?_
          refine x_ic (p := ¬ (iand (ishr (m3 597 18) (wr ((wr (5 * (wr ((m3 597 14) - 13)))) + (wr ((m3 597 10) - 13))))) 1) = 1) (tgt := 103) (cod_188 rfl) (by decide) xj_ne (fun h => ?_) (fun h => ?_)
          · have H18 := H16.2 h
            exact H18
          · have H19 := H16.1 (Classical.not_not.mp h)
            refine x_s (q := (.aload_n 0, 0, 0, 0)) (cod_188 rfl) rfl rfl rfl ?_
            refine x_s (q := (.iconst 3, 0, 0, 0)) (cod_188 rfl) rfl rfl rfl ?_
            refine x_call (as := [(1, 597), (0, 3)]) (rest := []) (cod_188 rfl) rfl rfl (by decide) (by decide) rfl rfl (Nat.le_of_ble_eq_true rfl) (rcv0 sq_l_597_0 sq_p_597 (by decide)) (Nat.le_of_ble_eq_true rfl) ?_
            show X 178 0 [(1, 597), (0, 3)] [] m3 _
            refine x_s (q := (.aload_n 0, 0, 0, 0)) (cod_178 rfl) rfl rfl rfl ?_
            refine x_s (q := (.iload_n 1, 0, 0, 0)) (cod_178 rfl) rfl rfl rfl ?_
            refine x_s (q := (.aload_n 0, 0, 0, 0)) (cod_178 rfl) rfl rfl rfl ?_
            refine x_gf (kk := 11) (t := 0) (cod_178 rfl) sq_p_597 sq_l_597_11 rfl rfl ?_
            refine x_call (as := [(1, 597), (0, 3), (0, m3 597 11)]) (rest := []) (cod_178 rfl) rfl rfl (by decide) (by decide) rfl rfl (Nat.le_of_ble_eq_true rfl) (rcv0 sq_l_597_0 sq_p_597 (by decide)) (Nat.le_of_ble_eq_true rfl) ?_
            show X 179 0 [(1, 597), (0, 3), (0, m3 597 11)] [] m3 _
            refine x_s (q := (.aload_n 0, 0, 0, 0)) (cod_179 rfl) rfl rfl rfl ?_
            refine x_s (q := (.iload_n 1, 0, 0, 0)) (cod_179 rfl) rfl rfl rfl ?_
            refine x_pf (kk := 4) (t := 0) (cod_179 rfl) sq_p_597 sq_l_597_4 rfl rfl rfl ?_
            have H21 := H19 _ rfl
            generalize umem m3 597 4 3 = m20 at H21 ⊢
            refine x_s (q := (.aload_n 0, 0, 0, 0)) (cod_179 rfl) rfl rfl rfl ?_
            refine x_s (q := (.iload_n 2, 0, 0, 0)) (cod_179 rfl) rfl rfl rfl ?_
            refine x_pf (kk := 5) (t := 0) (cod_179 rfl) sq_p_597 sq_l_597_5 rfl rfl rfl ?_
            have H23 := H21 _ rfl
            generalize umem m20 597 5 (m3 597 11) = m22 at H23 ⊢
            refine x_s (q := (.iconst 0, 0, 0, 0)) (cod_179 rfl) rfl rfl rfl ?_
            refine x_rI (t := .boolean) (cod_179 rfl) rfl rfl rfl ?_
            show X 178 9 [(1, 597), (0, 3)] [(0, 0)] m22 _
            refine x_rI (t := .boolean) (cod_178 rfl) rfl rfl rfl ?_
            show X 188 102 [(1, 597), (0, a1), (0, wr ((wr (5 * (wr ((m3 597 14) - 13)))) + (wr ((m3 597 10) - 13))))] [(0, 0)] m22 _
            refine x_retI (t := .boolean) (cod_188 rfl) rfl rfl rfl ?_
            exact H23
        · have H17 := H14.2 h
          refine x_s (q := (.aload_n 0, 0, 0, 0)) (cod_188 rfl) rfl rfl rfl ?_
          refine x_s (q := (.sipush 528, 0, 0, 0)) (cod_188 rfl) rfl rfl rfl ?_
          refine x_s (q := (.iload_n 2, 0, 0, 0)) (cod_188 rfl) rfl rfl rfl ?_
          refine x_s (q := (.iadd, 0, 0, 0)) (cod_188 rfl) rfl rfl rfl ?_
          obtain ⟨c24, H25⟩ := H17
          refine x_call (as := [(1, 597), (0, wr (528 + (wr ((wr (5 * (wr ((m3 597 14) - 13)))) + (wr ((m3 597 10) - 13))))))]) (rest := []) (cod_188 rfl) rfl rfl (by decide) (by decide) rfl rfl (Nat.le_of_ble_eq_true rfl) (rcv0 sq_l_597_0 sq_p_597 (by decide)) (Nat.le_of_ble_eq_true rfl) ?_
          refine x_pure (p182bx c24) ?_
          show X 188 78 [(1, 597), (0, a1), (0, wr ((wr (5 * (wr ((m3 597 14) - 13)))) + (wr ((m3 597 10) - 13))))] [(0, m3 602 (583 + (wr (528 + (wr ((wr (5 * (wr ((m3 597 14) - 13)))) + (wr ((m3 597 10) - 13))))))))] m3 _
          refine x_s (q := (.iconst 1, 0, 0, 0)) (cod_188 rfl) rfl rfl rfl ?_
          refine x_ic (p := ¬ (m3 602 (583 + (wr (528 + (wr ((wr (5 * (wr ((m3 597 14) - 13)))) + (wr ((m3 597 10) - 13)))))))) = 1) (tgt := 103) (cod_188 rfl) (by decide) xj_ne (fun h => ?_) (fun h => ?_)
          · have H26 := H25.2 h
            exact H26
          · have H27 := H25.1 (Classical.not_not.mp h)
            refine x_go (tgt := 97) (cod_188 rfl) (by decide) ?_
            refine x_s (q := (.aload_n 0, 0, 0, 0)) (cod_188 rfl) rfl rfl rfl ?_
            refine x_s (q := (.iconst 3, 0, 0, 0)) (cod_188 rfl) rfl rfl rfl ?_
            refine x_call (as := [(1, 597), (0, 3)]) (rest := []) (cod_188 rfl) rfl rfl (by decide) (by decide) rfl rfl (Nat.le_of_ble_eq_true rfl) (rcv0 sq_l_597_0 sq_p_597 (by decide)) (Nat.le_of_ble_eq_true rfl) ?_
            show X 178 0 [(1, 597), (0, 3)] [] m3 _
            refine x_s (q := (.aload_n 0, 0, 0, 0)) (cod_178 rfl) rfl rfl rfl ?_
            refine x_s (q := (.iload_n 1, 0, 0, 0)) (cod_178 rfl) rfl rfl rfl ?_
            refine x_s (q := (.aload_n 0, 0, 0, 0)) (cod_178 rfl) rfl rfl rfl ?_
            refine x_gf (kk := 11) (t := 0) (cod_178 rfl) sq_p_597 sq_l_597_11 rfl rfl ?_
            refine x_call (as := [(1, 597), (0, 3), (0, m3 597 11)]) (rest := []) (cod_178 rfl) rfl rfl (by decide) (by decide) rfl rfl (Nat.le_of_ble_eq_true rfl) (rcv0 sq_l_597_0 sq_p_597 (by decide)) (Nat.le_of_ble_eq_true rfl) ?_
            show X 179 0 [(1, 597), (0, 3), (0, m3 597 11)] [] m3 _
            refine x_s (q := (.aload_n 0, 0, 0, 0)) (cod_179 rfl) rfl rfl rfl ?_
            refine x_s (q := (.iload_n 1, 0, 0, 0)) (cod_179 rfl) rfl rfl rfl ?_
            refine x_pf (kk := 4) (t := 0) (cod_179 rfl) sq_p_597 sq_l_597_4 rfl rfl rfl ?_
            have H29 := H27 _ rfl
            generalize umem m3 597 4 3 = m28 at H29 ⊢
            refine x_s (q := (.aload_n 0, 0, 0, 0)) (cod_179 rfl) rfl rfl rfl ?_
            refine x_s (q := (.iload_n 2, 0, 0, 0)) (cod_179 rfl) rfl rfl rfl ?_
            refine x_pf (kk := 5) (t := 0) (cod_179 rfl) sq_p_597 sq_l_597_5 rfl rfl rfl ?_
            have H31 := H29 _ rfl
            generalize umem m28 597 5 (m3 597 11) = m30 at H31 ⊢
            refine x_s (q := (.iconst 0, 0, 0, 0)) (cod_179 rfl) rfl rfl rfl ?_
            refine x_rI (t := .boolean) (cod_179 rfl) rfl rfl rfl ?_
            show X 178 9 [(1, 597), (0, 3)] [(0, 0)] m30 _
            refine x_rI (t := .boolean) (cod_178 rfl) rfl rfl rfl ?_
            show X 188 102 [(1, 597), (0, a1), (0, wr ((wr (5 * (wr ((m3 597 14) - 13)))) + (wr ((m3 597 10) - 13))))] [(0, 0)] m30 _
            refine x_retI (t := .boolean) (cod_188 rfl) rfl rfl rfl ?_
            exact H31
      · have H15 := H9.2 h
        refine x_s (q := (.aload_n 0, 0, 0, 0)) (cod_188 rfl) rfl rfl rfl ?_
        refine x_s (q := (.iconst 1, 0, 0, 0)) (cod_188 rfl) rfl rfl rfl ?_
        refine x_call (as := [(1, 597), (0, 1)]) (rest := []) (cod_188 rfl) rfl rfl (by decide) (by decide) rfl rfl (Nat.le_of_ble_eq_true rfl) (rcv0 sq_l_597_0 sq_p_597 (by decide)) (Nat.le_of_ble_eq_true rfl) ?_
        show X 178 0 [(1, 597), (0, 1)] [] m3 _
        refine x_s (q := (.aload_n 0, 0, 0, 0)) (cod_178 rfl) rfl rfl rfl ?_
        refine x_s (q := (.iload_n 1, 0, 0, 0)) (cod_178 rfl) rfl rfl rfl ?_
        refine x_s (q := (.aload_n 0, 0, 0, 0)) (cod_178 rfl) rfl rfl rfl ?_
        refine x_gf (kk := 11) (t := 0) (cod_178 rfl) sq_p_597 sq_l_597_11 rfl rfl ?_
        refine x_call (as := [(1, 597), (0, 1), (0, m3 597 11)]) (rest := []) (cod_178 rfl) rfl rfl (by decide) (by decide) rfl rfl (Nat.le_of_ble_eq_true rfl) (rcv0 sq_l_597_0 sq_p_597 (by decide)) (Nat.le_of_ble_eq_true rfl) ?_
        show X 179 0 [(1, 597), (0, 1), (0, m3 597 11)] [] m3 _
        refine x_s (q := (.aload_n 0, 0, 0, 0)) (cod_179 rfl) rfl rfl rfl ?_
        refine x_s (q := (.iload_n 1, 0, 0, 0)) (cod_179 rfl) rfl rfl rfl ?_
        refine x_pf (kk := 4) (t := 0) (cod_179 rfl) sq_p_597 sq_l_597_4 rfl rfl rfl ?_
        have H33 := H15 _ rfl
        generalize umem m3 597 4 1 = m32 at H33 ⊢
        refine x_s (q := (.aload_n 0, 0, 0, 0)) (cod_179 rfl) rfl rfl rfl ?_
        refine x_s (q := (.iload_n 2, 0, 0, 0)) (cod_179 rfl) rfl rfl rfl ?_
        refine x_pf (kk := 5) (t := 0) (cod_179 rfl) sq_p_597 sq_l_597_5 rfl rfl rfl ?_
        have H35 := H33 _ rfl
        generalize umem m32 597 5 (m3 597 11) = m34 at H35 ⊢
        refine x_s (q := (.iconst 0, 0, 0, 0)) (cod_179 rfl) rfl rfl rfl ?_
        refine x_rI (t := .boolean) (cod_179 rfl) rfl rfl rfl ?_
        show X 178 9 [(1, 597), (0, 1)] [(0, 0)] m34 _
        refine x_rI (t := .boolean) (cod_178 rfl) rfl rfl rfl ?_
        show X 188 54 [(1, 597), (0, a1), (0, wr (5 * (wr ((m3 597 14) - 13))))] [(0, 0)] m34 _
        refine x_retI (t := .boolean) (cod_188 rfl) rfl rfl rfl ?_
        exact H35
  · have H7 := H4.1 (Classical.not_not.mp h)
    refine x_s (q := (.iconst 0, 0, 0, 0)) (cod_188 rfl) rfl rfl rfl ?_
    refine x_retI (t := .boolean) (cod_188 rfl) rfl rfl rfl ?_
    exact H7
theorem e188 {m : Mm} {K : Int → Mm → Prop} (a1 : Int) 
  (H : TrV 170 [(1, 597)] m fun m1 => TrI 187 [(1, 597), (0, 13), (0, 17)] m1 fun v5 m3 => (v5 = 0 → K 0 m3) ∧ (¬ v5 = 0 → ((m3 597 9) = 1 → ((13 ≤ (m3 597 10) ∧ (m3 597 10) ≤ 17) → (a1 = 0 → ((iand (ishr (m3 597 18) (wr ((wr (5 * (wr ((m3 597 14) - 13)))) + (wr ((m3 597 10) - 13))))) 1) = 1 → ∀ m20, m20 = umem m3 597 4 3 → ∀ m22, m22 = umem m20 597 5 (m3 597 11) → K 0 m22) ∧ (¬ (iand (ishr (m3 597 18) (wr ((wr (5 * (wr ((m3 597 14) - 13)))) + (wr ((m3 597 10) - 13))))) 1) = 1 → X 188 103 [(1, 597), (0, a1), (0, wr ((wr (5 * (wr ((m3 597 14) - 13)))) + (wr ((m3 597 10) - 13))))] [] m3 (qI K))) ∧ (¬ a1 = 0 → (m3 597 16 = 1 ∧ 0 ≤ (wr (528 + (wr ((wr (5 * (wr ((m3 597 14) - 13)))) + (wr ((m3 597 10) - 13)))))) ∧ (wr (528 + (wr ((wr (5 * (wr ((m3 597 14) - 13)))) + (wr ((m3 597 10) - 13)))))) < 583) ∧ ((m3 602 (583 + (wr (528 + (wr ((wr (5 * (wr ((m3 597 14) - 13)))) + (wr ((m3 597 10) - 13)))))))) = 1 → ∀ m28, m28 = umem m3 597 4 3 → ∀ m30, m30 = umem m28 597 5 (m3 597 11) → K 0 m30) ∧ (¬ (m3 602 (583 + (wr (528 + (wr ((wr (5 * (wr ((m3 597 14) - 13)))) + (wr ((m3 597 10) - 13)))))))) = 1 → X 188 103 [(1, 597), (0, a1), (0, wr ((wr (5 * (wr ((m3 597 14) - 13)))) + (wr ((m3 597 10) - 13))))] [] m3 (qI K)))) ∧ (¬ (13 ≤ (m3 597 10) ∧ (m3 597 10) ≤ 17) → ∀ m32, m32 = umem m3 597 4 1 → ∀ m34, m34 = umem m32 597 5 (m3 597 11) → K 0 m34)) ∧ (¬ (m3 597 9) = 1 → ∀ m10, m10 = umem m3 597 4 1 → ∀ m12, m12 = umem m10 597 5 (m3 597 11) → K 0 m12))) : TrI 188 [(1, 597), (0, a1)] m K := by
  exact w188_0 a1 H
set_option maxRecDepth 100000 in
theorem w188_103 {m : Mm} {K : Int → Mm → Prop} (a1 : Int) (a2 : Int) 
  (H : TrV 170 [(1, 597)] m fun m1 => (a1 = 0 → ∀ m5, m5 = umem m1 597 18 (ior (m1 597 18) (ishl 1 a2)) → TrI 184 [(1, 597), (0, 999)] m5 fun v9 m7 => (v9 = 0 → K 0 m7) ∧ (¬ v9 = 0 → (0 ≤ (wr ((wr (583 * (m7 597 16))) + (wr (553 + a2)))) ∧ (wr ((wr (583 * (m7 597 16))) + (wr (553 + a2)))) < 1166) ∧ ∀ m14, m14 = umem m7 602 (wr ((wr (583 * (m7 597 16))) + (wr (553 + a2)))) (m7 597 14) → K 1 m14)) ∧ (¬ a1 = 0 → (0 ≤ (wr ((wr (583 * (m1 597 16))) + (wr (528 + a2)))) ∧ (wr ((wr (583 * (m1 597 16))) + (wr (528 + a2)))) < 1166) ∧ ∀ m18, m18 = umem m1 602 (wr ((wr (583 * (m1 597 16))) + (wr (528 + a2)))) 1 → K 1 m18)) : X 188 103 [(1, 597), (0, a1), (0, a2)] [] m (qI K) := by
  refine x_s (q := (.aload_n 0, 0, 0, 0)) (cod_188 rfl) rfl rfl rfl ?_
  refine x_call (as := [(1, 597)]) (rest := []) (cod_188 rfl) rfl rfl (by decide) (by decide) rfl rfl (Nat.le_of_ble_eq_true rfl) (rcv0 sq_l_597_0 sq_p_597 (by decide)) (Nat.le_of_ble_eq_true rfl) ?_
  refine X.imp H ?_
  rintro _ m1 ⟨rfl, H2⟩
  show X 188 107 [(1, 597), (0, a1), (0, a2)] [] m1 _
  refine x_s (q := (.iload_n 1, 0, 0, 0)) (cod_188 rfl) rfl rfl rfl ?_
  refine x_if (p := a1 = 0) (tgt := 123) (cod_188 rfl) (by decide) xj_eq (fun h => ?_) (fun h => ?_)
  · have H3 := H2.1 h
    refine x_s (q := (.aload_n 0, 0, 0, 0)) (cod_188 rfl) rfl rfl rfl ?_
    refine x_s (q := (.dup, 0, 0, 0)) (cod_188 rfl) rfl rfl rfl ?_
    refine x_gf (kk := 18) (t := 0) (cod_188 rfl) sq_p_597 sq_l_597_18 rfl rfl ?_
    refine x_s (q := (.iconst 1, 0, 0, 0)) (cod_188 rfl) rfl rfl rfl ?_
    refine x_s (q := (.iload_n 2, 0, 0, 0)) (cod_188 rfl) rfl rfl rfl ?_
    refine x_s (q := (.ishl, 0, 0, 0)) (cod_188 rfl) rfl rfl rfl ?_
    show X 188 131 [(1, 597), (0, a1), (0, a2)] [(0, ishl 1 a2), (0, m1 597 18), (1, 597)] m1 _
    refine x_s (q := (.ior, 0, 0, 0)) (cod_188 rfl) rfl rfl rfl ?_
    show X 188 132 [(1, 597), (0, a1), (0, a2)] [(0, ior (m1 597 18) (ishl 1 a2)), (1, 597)] m1 _
    refine x_pf (kk := 18) (t := 0) (cod_188 rfl) sq_p_597 sq_l_597_18 rfl rfl rfl ?_
    have H6 := H3 _ rfl
    generalize umem m1 597 18 (ior (m1 597 18) (ishl 1 a2)) = m5 at H6 ⊢
    refine x_s (q := (.aload_n 0, 0, 0, 0)) (cod_188 rfl) rfl rfl rfl ?_
    refine x_s (q := (.sipush 999, 0, 0, 0)) (cod_188 rfl) rfl rfl rfl ?_
    refine x_call (as := [(1, 597), (0, 999)]) (rest := []) (cod_188 rfl) rfl rfl (by decide) (by decide) rfl rfl (Nat.le_of_ble_eq_true rfl) (rcv0 sq_l_597_0 sq_p_597 (by decide)) (Nat.le_of_ble_eq_true rfl) ?_
    refine X.imp H6 ?_
    rintro _ m7 ⟨v9, rfl, H8⟩
    show X 188 142 [(1, 597), (0, a1), (0, a2)] [(0, v9)] m7 _
    refine x_if (p := ¬ v9 = 0) (tgt := 147) (cod_188 rfl) (by decide) xj_ne (fun h => ?_) (fun h => ?_)
    · have H10 := H8.2 h
      refine x_s (q := (.aload_n 0, 0, 0, 0)) (cod_188 rfl) rfl rfl rfl ?_
      refine x_s (q := (.sipush 553, 0, 0, 0)) (cod_188 rfl) rfl rfl rfl ?_
      refine x_s (q := (.iload_n 2, 0, 0, 0)) (cod_188 rfl) rfl rfl rfl ?_
      refine x_s (q := (.iadd, 0, 0, 0)) (cod_188 rfl) rfl rfl rfl ?_
      refine x_s (q := (.aload_n 0, 0, 0, 0)) (cod_188 rfl) rfl rfl rfl ?_
      refine x_gf (kk := 14) (t := 0) (cod_188 rfl) sq_p_597 sq_l_597_14 rfl rfl ?_
      refine x_call (as := [(1, 597), (0, wr (553 + a2)), (0, m7 597 14)]) (rest := []) (cod_188 rfl) rfl rfl (by decide) (by decide) rfl rfl (Nat.le_of_ble_eq_true rfl) (rcv0 sq_l_597_0 sq_p_597 (by decide)) (Nat.le_of_ble_eq_true rfl) ?_
      show X 163 0 [(1, 597), (0, wr (553 + a2)), (0, m7 597 14)] [] m7 _
      refine x_s (q := (.aload_n 0, 0, 0, 0)) (cod_163 rfl) rfl rfl rfl ?_
      refine x_gc (kk := 15) (c := 602) (t := 1) (cod_163 rfl) sq_p_597 sq_l_597_15 rfl rfl ?_
      refine x_s (q := (.sipush 583, 0, 0, 0)) (cod_163 rfl) rfl rfl rfl ?_
      refine x_s (q := (.aload_n 0, 0, 0, 0)) (cod_163 rfl) rfl rfl rfl ?_
      refine x_gf (kk := 16) (t := 0) (cod_163 rfl) sq_p_597 sq_l_597_16 rfl rfl ?_
      refine x_s (q := (.imul, 0, 0, 0)) (cod_163 rfl) rfl rfl rfl ?_
      refine x_s (q := (.iload_n 1, 0, 0, 0)) (cod_163 rfl) rfl rfl rfl ?_
      refine x_s (q := (.iadd, 0, 0, 0)) (cod_163 rfl) rfl rfl rfl ?_
      refine x_s (q := (.iload_n 2, 0, 0, 0)) (cod_163 rfl) rfl rfl rfl ?_
      obtain ⟨c12, H13⟩ := H10
      refine x_iast (cod_163 rfl) sq_a_602.s (sq_a_602.k c12.1 c12.2) ?_
      have H15 := H13 _ rfl
      generalize umem m7 602 (wr ((wr (583 * (m7 597 16))) + (wr (553 + a2)))) (m7 597 14) = m14 at H15 ⊢
      refine x_rV (cod_163 rfl) rfl ?_
      show X 188 160 [(1, 597), (0, a1), (0, a2)] [] m14 _
      refine x_s (q := (.iconst 1, 0, 0, 0)) (cod_188 rfl) rfl rfl rfl ?_
      refine x_retI (t := .boolean) (cod_188 rfl) rfl rfl rfl ?_
      exact H15
    · have H11 := H8.1 (Classical.not_not.mp h)
      refine x_s (q := (.iconst 0, 0, 0, 0)) (cod_188 rfl) rfl rfl rfl ?_
      refine x_retI (t := .boolean) (cod_188 rfl) rfl rfl rfl ?_
      exact H11
  · have H4 := H2.2 h
    refine x_s (q := (.aload_n 0, 0, 0, 0)) (cod_188 rfl) rfl rfl rfl ?_
    refine x_s (q := (.sipush 528, 0, 0, 0)) (cod_188 rfl) rfl rfl rfl ?_
    refine x_s (q := (.iload_n 2, 0, 0, 0)) (cod_188 rfl) rfl rfl rfl ?_
    refine x_s (q := (.iadd, 0, 0, 0)) (cod_188 rfl) rfl rfl rfl ?_
    refine x_s (q := (.iconst 1, 0, 0, 0)) (cod_188 rfl) rfl rfl rfl ?_
    refine x_call (as := [(1, 597), (0, wr (528 + a2)), (0, 1)]) (rest := []) (cod_188 rfl) rfl rfl (by decide) (by decide) rfl rfl (Nat.le_of_ble_eq_true rfl) (rcv0 sq_l_597_0 sq_p_597 (by decide)) (Nat.le_of_ble_eq_true rfl) ?_
    show X 163 0 [(1, 597), (0, wr (528 + a2)), (0, 1)] [] m1 _
    refine x_s (q := (.aload_n 0, 0, 0, 0)) (cod_163 rfl) rfl rfl rfl ?_
    refine x_gc (kk := 15) (c := 602) (t := 1) (cod_163 rfl) sq_p_597 sq_l_597_15 rfl rfl ?_
    refine x_s (q := (.sipush 583, 0, 0, 0)) (cod_163 rfl) rfl rfl rfl ?_
    refine x_s (q := (.aload_n 0, 0, 0, 0)) (cod_163 rfl) rfl rfl rfl ?_
    refine x_gf (kk := 16) (t := 0) (cod_163 rfl) sq_p_597 sq_l_597_16 rfl rfl ?_
    refine x_s (q := (.imul, 0, 0, 0)) (cod_163 rfl) rfl rfl rfl ?_
    refine x_s (q := (.iload_n 1, 0, 0, 0)) (cod_163 rfl) rfl rfl rfl ?_
    refine x_s (q := (.iadd, 0, 0, 0)) (cod_163 rfl) rfl rfl rfl ?_
    refine x_s (q := (.iload_n 2, 0, 0, 0)) (cod_163 rfl) rfl rfl rfl ?_
    obtain ⟨c16, H17⟩ := H4
    refine x_iast (cod_163 rfl) sq_a_602.s (sq_a_602.k c16.1 c16.2) ?_
    have H19 := H17 _ rfl
    generalize umem m1 602 (wr ((wr (583 * (m1 597 16))) + (wr (528 + a2)))) 1 = m18 at H19 ⊢
    refine x_rV (cod_163 rfl) rfl ?_
    show X 188 121 [(1, 597), (0, a1), (0, a2)] [] m18 _
    refine x_s (q := (.iconst 1, 0, 0, 0)) (cod_188 rfl) rfl rfl rfl ?_
    refine x_retI (t := .boolean) (cod_188 rfl) rfl rfl rfl ?_
    exact H19
set_option maxRecDepth 100000 in
theorem w189_0 {m : Mm} {K : Int → Mm → Prop}  
  (H : ((iand (ishr (m 597 17) (wr ((m 597 10) - 4))) 1) = 1 → ∀ m11, m11 = umem m 597 4 3 → ∀ m13, m13 = umem m11 597 5 (m 597 11) → K 0 m13) ∧ (¬ (iand (ishr (m 597 17) (wr ((m 597 10) - 4))) 1) = 1 → ∀ m3, m3 = umem m 597 17 (ior (m 597 17) (ishl 1 (wr ((m 597 10) - 4)))) → TrV 170 [(1, 597)] m3 fun m5 => ((wr ((m 597 10) - 4)) = 0 → X 189 64 [(1, 597), (0, wr ((m 597 10) - 4))] [(0, 999), (1, 597)] m5 (qI K)) ∧ (¬ (wr ((m 597 10) - 4)) = 0 → ((wr ((m 597 10) - 4)) = 1 → X 189 64 [(1, 597), (0, wr ((m 597 10) - 4))] [(0, 99), (1, 597)] m5 (qI K)) ∧ (¬ (wr ((m 597 10) - 4)) = 1 → X 189 64 [(1, 597), (0, wr ((m 597 10) - 4))] [(0, 99999), (1, 597)] m5 (qI K))))) : X 189 0 [(1, 597), (9, 0)] [] m (qI K) := by
  refine x_s (q := (.aload_n 0, 0, 0, 0)) (cod_189 rfl) rfl rfl rfl ?_
  refine x_gf (kk := 10) (t := 0) (cod_189 rfl) sq_p_597 sq_l_597_10 rfl rfl ?_
  refine x_s (q := (.iconst 4, 0, 0, 0)) (cod_189 rfl) rfl rfl rfl ?_
  refine x_s (q := (.isub, 0, 0, 0)) (cod_189 rfl) rfl rfl rfl ?_
  refine x_s (q := (.istore_n 1, 0, 0, 0)) (cod_189 rfl) rfl rfl rfl ?_
  refine x_s (q := (.aload_n 0, 0, 0, 0)) (cod_189 rfl) rfl rfl rfl ?_
  refine x_gf (kk := 17) (t := 0) (cod_189 rfl) sq_p_597 sq_l_597_17 rfl rfl ?_
  refine x_s (q := (.iload_n 1, 0, 0, 0)) (cod_189 rfl) rfl rfl rfl ?_
  refine x_s (q := (.ishr, 0, 0, 0)) (cod_189 rfl) rfl rfl rfl ?_
  show X 189 13 [(1, 597), (0, wr ((m 597 10) - 4))] [(0, ishr (m 597 17) (wr ((m 597 10) - 4)))] m _
  refine x_s (q := (.iconst 1, 0, 0, 0)) (cod_189 rfl) rfl rfl rfl ?_
  refine x_s (q := (.iand, 0, 0, 0)) (cod_189 rfl) rfl rfl rfl ?_
  show X 189 15 [(1, 597), (0, wr ((m 597 10) - 4))] [(0, iand (ishr (m 597 17) (wr ((m 597 10) - 4))) 1)] m _
  refine x_s (q := (.iconst 1, 0, 0, 0)) (cod_189 rfl) rfl rfl rfl ?_
  refine x_ic (p := ¬ (iand (ishr (m 597 17) (wr ((m 597 10) - 4))) 1) = 1) (tgt := 25) (cod_189 rfl) (by decide) xj_ne (fun h => ?_) (fun h => ?_)
  · have H1 := H.2 h
    refine x_s (q := (.aload_n 0, 0, 0, 0)) (cod_189 rfl) rfl rfl rfl ?_
    refine x_s (q := (.dup, 0, 0, 0)) (cod_189 rfl) rfl rfl rfl ?_
    refine x_gf (kk := 17) (t := 0) (cod_189 rfl) sq_p_597 sq_l_597_17 rfl rfl ?_
    refine x_s (q := (.iconst 1, 0, 0, 0)) (cod_189 rfl) rfl rfl rfl ?_
    refine x_s (q := (.iload_n 1, 0, 0, 0)) (cod_189 rfl) rfl rfl rfl ?_
    refine x_s (q := (.ishl, 0, 0, 0)) (cod_189 rfl) rfl rfl rfl ?_
    show X 189 33 [(1, 597), (0, wr ((m 597 10) - 4))] [(0, ishl 1 (wr ((m 597 10) - 4))), (0, m 597 17), (1, 597)] m _
    refine x_s (q := (.ior, 0, 0, 0)) (cod_189 rfl) rfl rfl rfl ?_
    show X 189 34 [(1, 597), (0, wr ((m 597 10) - 4))] [(0, ior (m 597 17) (ishl 1 (wr ((m 597 10) - 4)))), (1, 597)] m _
    refine x_pf (kk := 17) (t := 0) (cod_189 rfl) sq_p_597 sq_l_597_17 rfl rfl rfl ?_
    have H4 := H1 _ rfl
    generalize umem m 597 17 (ior (m 597 17) (ishl 1 (wr ((m 597 10) - 4)))) = m3 at H4 ⊢
    refine x_s (q := (.aload_n 0, 0, 0, 0)) (cod_189 rfl) rfl rfl rfl ?_
    refine x_call (as := [(1, 597)]) (rest := []) (cod_189 rfl) rfl rfl (by decide) (by decide) rfl rfl (Nat.le_of_ble_eq_true rfl) (rcv0 sq_l_597_0 sq_p_597 (by decide)) (Nat.le_of_ble_eq_true rfl) ?_
    refine X.imp H4 ?_
    rintro _ m5 ⟨rfl, H6⟩
    show X 189 41 [(1, 597), (0, wr ((m 597 10) - 4))] [] m5 _
    refine x_s (q := (.aload_n 0, 0, 0, 0)) (cod_189 rfl) rfl rfl rfl ?_
    refine x_s (q := (.iload_n 1, 0, 0, 0)) (cod_189 rfl) rfl rfl rfl ?_
    refine x_if (p := ¬ (wr ((m 597 10) - 4)) = 0) (tgt := 52) (cod_189 rfl) (by decide) xj_ne (fun h => ?_) (fun h => ?_)
    · have H7 := H6.2 h
      refine x_s (q := (.iload_n 1, 0, 0, 0)) (cod_189 rfl) rfl rfl rfl ?_
      refine x_s (q := (.iconst 1, 0, 0, 0)) (cod_189 rfl) rfl rfl rfl ?_
      refine x_ic (p := ¬ (wr ((m 597 10) - 4)) = 1) (tgt := 62) (cod_189 rfl) (by decide) xj_ne (fun h => ?_) (fun h => ?_)
      · have H9 := H7.2 h
        refine x_s (q := (.ldc 196, 99999, 0, 0)) (cod_189 rfl) rfl rfl rfl ?_
        exact H9
      · have H10 := H7.1 (Classical.not_not.mp h)
        refine x_s (q := (.bipush 99, 0, 0, 0)) (cod_189 rfl) rfl rfl rfl ?_
        refine x_go (tgt := 64) (cod_189 rfl) (by decide) ?_
        exact H10
    · have H8 := H6.1 (Classical.not_not.mp h)
      refine x_s (q := (.sipush 999, 0, 0, 0)) (cod_189 rfl) rfl rfl rfl ?_
      refine x_go (tgt := 64) (cod_189 rfl) (by decide) ?_
      exact H8
  · have H2 := H.1 (Classical.not_not.mp h)
    refine x_s (q := (.aload_n 0, 0, 0, 0)) (cod_189 rfl) rfl rfl rfl ?_
    refine x_s (q := (.iconst 3, 0, 0, 0)) (cod_189 rfl) rfl rfl rfl ?_
    refine x_call (as := [(1, 597), (0, 3)]) (rest := []) (cod_189 rfl) rfl rfl (by decide) (by decide) rfl rfl (Nat.le_of_ble_eq_true rfl) (rcv0 sq_l_597_0 sq_p_597 (by decide)) (Nat.le_of_ble_eq_true rfl) ?_
    show X 178 0 [(1, 597), (0, 3)] [] m _
    refine x_s (q := (.aload_n 0, 0, 0, 0)) (cod_178 rfl) rfl rfl rfl ?_
    refine x_s (q := (.iload_n 1, 0, 0, 0)) (cod_178 rfl) rfl rfl rfl ?_
    refine x_s (q := (.aload_n 0, 0, 0, 0)) (cod_178 rfl) rfl rfl rfl ?_
    refine x_gf (kk := 11) (t := 0) (cod_178 rfl) sq_p_597 sq_l_597_11 rfl rfl ?_
    refine x_call (as := [(1, 597), (0, 3), (0, m 597 11)]) (rest := []) (cod_178 rfl) rfl rfl (by decide) (by decide) rfl rfl (Nat.le_of_ble_eq_true rfl) (rcv0 sq_l_597_0 sq_p_597 (by decide)) (Nat.le_of_ble_eq_true rfl) ?_
    show X 179 0 [(1, 597), (0, 3), (0, m 597 11)] [] m _
    refine x_s (q := (.aload_n 0, 0, 0, 0)) (cod_179 rfl) rfl rfl rfl ?_
    refine x_s (q := (.iload_n 1, 0, 0, 0)) (cod_179 rfl) rfl rfl rfl ?_
    refine x_pf (kk := 4) (t := 0) (cod_179 rfl) sq_p_597 sq_l_597_4 rfl rfl rfl ?_
    have H12 := H2 _ rfl
    generalize umem m 597 4 3 = m11 at H12 ⊢
    refine x_s (q := (.aload_n 0, 0, 0, 0)) (cod_179 rfl) rfl rfl rfl ?_
    refine x_s (q := (.iload_n 2, 0, 0, 0)) (cod_179 rfl) rfl rfl rfl ?_
    refine x_pf (kk := 5) (t := 0) (cod_179 rfl) sq_p_597 sq_l_597_5 rfl rfl rfl ?_
    have H14 := H12 _ rfl
    generalize umem m11 597 5 (m 597 11) = m13 at H14 ⊢
    refine x_s (q := (.iconst 0, 0, 0, 0)) (cod_179 rfl) rfl rfl rfl ?_
    refine x_rI (t := .boolean) (cod_179 rfl) rfl rfl rfl ?_
    show X 178 9 [(1, 597), (0, 3)] [(0, 0)] m13 _
    refine x_rI (t := .boolean) (cod_178 rfl) rfl rfl rfl ?_
    show X 189 24 [(1, 597), (0, wr ((m 597 10) - 4))] [(0, 0)] m13 _
    refine x_retI (t := .boolean) (cod_189 rfl) rfl rfl rfl ?_
    exact H14
theorem e189 {m : Mm} {K : Int → Mm → Prop}  
  (H : ((iand (ishr (m 597 17) (wr ((m 597 10) - 4))) 1) = 1 → ∀ m11, m11 = umem m 597 4 3 → ∀ m13, m13 = umem m11 597 5 (m 597 11) → K 0 m13) ∧ (¬ (iand (ishr (m 597 17) (wr ((m 597 10) - 4))) 1) = 1 → ∀ m3, m3 = umem m 597 17 (ior (m 597 17) (ishl 1 (wr ((m 597 10) - 4)))) → TrV 170 [(1, 597)] m3 fun m5 => ((wr ((m 597 10) - 4)) = 0 → X 189 64 [(1, 597), (0, wr ((m 597 10) - 4))] [(0, 999), (1, 597)] m5 (qI K)) ∧ (¬ (wr ((m 597 10) - 4)) = 0 → ((wr ((m 597 10) - 4)) = 1 → X 189 64 [(1, 597), (0, wr ((m 597 10) - 4))] [(0, 99), (1, 597)] m5 (qI K)) ∧ (¬ (wr ((m 597 10) - 4)) = 1 → X 189 64 [(1, 597), (0, wr ((m 597 10) - 4))] [(0, 99999), (1, 597)] m5 (qI K))))) : TrI 189 [(1, 597)] m K := by
  exact w189_0  H
set_option maxRecDepth 100000 in
theorem w189_64 {m : Mm} {K : Int → Mm → Prop} (a1 : Int) (s1 : Int) 
  (H : TrI 184 [(1, 597), (0, s1)] m fun v3 m1 => (v3 = 0 → K 0 m1) ∧ (¬ v3 = 0 → (0 ≤ (wr ((wr (583 * (m1 597 16))) + (wr (580 + a1)))) ∧ (wr ((wr (583 * (m1 597 16))) + (wr (580 + a1)))) < 1166) ∧ ∀ m8, m8 = umem m1 602 (wr ((wr (583 * (m1 597 16))) + (wr (580 + a1)))) (m1 597 14) → K 1 m8)) : X 189 64 [(1, 597), (0, a1)] [(0, s1), (1, 597)] m (qI K) := by
  refine x_call (as := [(1, 597), (0, s1)]) (rest := []) (cod_189 rfl) rfl rfl (by decide) (by decide) rfl rfl (Nat.le_of_ble_eq_true rfl) (rcv0 sq_l_597_0 sq_p_597 (by decide)) (Nat.le_of_ble_eq_true rfl) ?_
  refine X.imp H ?_
  rintro _ m1 ⟨v3, rfl, H2⟩
  show X 189 67 [(1, 597), (0, a1)] [(0, v3)] m1 _
  refine x_if (p := ¬ v3 = 0) (tgt := 72) (cod_189 rfl) (by decide) xj_ne (fun h => ?_) (fun h => ?_)
  · have H4 := H2.2 h
    refine x_s (q := (.aload_n 0, 0, 0, 0)) (cod_189 rfl) rfl rfl rfl ?_
    refine x_s (q := (.sipush 580, 0, 0, 0)) (cod_189 rfl) rfl rfl rfl ?_
    refine x_s (q := (.iload_n 1, 0, 0, 0)) (cod_189 rfl) rfl rfl rfl ?_
    refine x_s (q := (.iadd, 0, 0, 0)) (cod_189 rfl) rfl rfl rfl ?_
    refine x_s (q := (.aload_n 0, 0, 0, 0)) (cod_189 rfl) rfl rfl rfl ?_
    refine x_gf (kk := 14) (t := 0) (cod_189 rfl) sq_p_597 sq_l_597_14 rfl rfl ?_
    refine x_call (as := [(1, 597), (0, wr (580 + a1)), (0, m1 597 14)]) (rest := []) (cod_189 rfl) rfl rfl (by decide) (by decide) rfl rfl (Nat.le_of_ble_eq_true rfl) (rcv0 sq_l_597_0 sq_p_597 (by decide)) (Nat.le_of_ble_eq_true rfl) ?_
    show X 163 0 [(1, 597), (0, wr (580 + a1)), (0, m1 597 14)] [] m1 _
    refine x_s (q := (.aload_n 0, 0, 0, 0)) (cod_163 rfl) rfl rfl rfl ?_
    refine x_gc (kk := 15) (c := 602) (t := 1) (cod_163 rfl) sq_p_597 sq_l_597_15 rfl rfl ?_
    refine x_s (q := (.sipush 583, 0, 0, 0)) (cod_163 rfl) rfl rfl rfl ?_
    refine x_s (q := (.aload_n 0, 0, 0, 0)) (cod_163 rfl) rfl rfl rfl ?_
    refine x_gf (kk := 16) (t := 0) (cod_163 rfl) sq_p_597 sq_l_597_16 rfl rfl ?_
    refine x_s (q := (.imul, 0, 0, 0)) (cod_163 rfl) rfl rfl rfl ?_
    refine x_s (q := (.iload_n 1, 0, 0, 0)) (cod_163 rfl) rfl rfl rfl ?_
    refine x_s (q := (.iadd, 0, 0, 0)) (cod_163 rfl) rfl rfl rfl ?_
    refine x_s (q := (.iload_n 2, 0, 0, 0)) (cod_163 rfl) rfl rfl rfl ?_
    obtain ⟨c6, H7⟩ := H4
    refine x_iast (cod_163 rfl) sq_a_602.s (sq_a_602.k c6.1 c6.2) ?_
    have H9 := H7 _ rfl
    generalize umem m1 602 (wr ((wr (583 * (m1 597 16))) + (wr (580 + a1)))) (m1 597 14) = m8 at H9 ⊢
    refine x_rV (cod_163 rfl) rfl ?_
    show X 189 85 [(1, 597), (0, a1)] [] m8 _
    refine x_s (q := (.iconst 1, 0, 0, 0)) (cod_189 rfl) rfl rfl rfl ?_
    refine x_retI (t := .boolean) (cod_189 rfl) rfl rfl rfl ?_
    exact H9
  · have H5 := H2.1 (Classical.not_not.mp h)
    refine x_s (q := (.iconst 0, 0, 0, 0)) (cod_189 rfl) rfl rfl rfl ?_
    refine x_retI (t := .boolean) (cod_189 rfl) rfl rfl rfl ?_
    exact H5
set_option maxRecDepth 100000 in
theorem w190_0 {m : Mm} {K : Mm → Prop}  
  (H : X 190 2 [(1, 597), (0, 0)] [] m (qV K)) : X 190 0 [(1, 597), (9, 0)] [] m (qV K) := by
  refine x_s (q := (.iconst 0, 0, 0, 0)) (cod_190 rfl) rfl rfl rfl ?_
  refine x_s (q := (.istore_n 1, 0, 0, 0)) (cod_190 rfl) rfl rfl rfl ?_
  exact H
theorem e190 {m : Mm} {K : Mm → Prop}  
  (H : X 190 2 [(1, 597), (0, 0)] [] m (qV K)) : TrV 190 [(1, 597)] m K := by
  exact w190_0  H
set_option maxRecDepth 100000 in
theorem w190_2 {m : Mm} {K : Mm → Prop} (a1 : Int) 
  (H : (a1 < 58 → (a1 < 48 → (0 ≤ a1 ∧ a1 < 1276) ∧ ∀ m15, m15 = umem m 607 a1 0 → X 190 2 [(1, 597), (0, wr (a1 + 1))] [] m15 (qV K)) ∧ (¬ a1 < 48 → (0 ≤ a1 ∧ a1 < 1276) ∧ ∀ m11, m11 = umem m 607 a1 (-9) → X 190 2 [(1, 597), (0, wr (a1 + 1))] [] m11 (qV K))) ∧ (¬ a1 < 58 → ∀ m3, m3 = umem m 597 25 0 → ∀ m5, m5 = umem m3 597 26 0 → K m5)) : X 190 2 [(1, 597), (0, a1)] [] m (qV K) := by
  refine x_s (q := (.iload_n 1, 0, 0, 0)) (cod_190 rfl) rfl rfl rfl ?_
  refine x_s (q := (.bipush 58, 0, 0, 0)) (cod_190 rfl) rfl rfl rfl ?_
  refine x_ic (p := ¬ a1 < 58) (tgt := 31) (cod_190 rfl) (by decide) xn_ge (fun h => ?_) (fun h => ?_)
  · have H1 := H.2 h
    refine x_s (q := (.aload_n 0, 0, 0, 0)) (cod_190 rfl) rfl rfl rfl ?_
    refine x_s (q := (.iconst 0, 0, 0, 0)) (cod_190 rfl) rfl rfl rfl ?_
    refine x_pf (kk := 25) (t := 0) (cod_190 rfl) sq_p_597 sq_l_597_25 rfl rfl rfl ?_
    have H4 := H1 _ rfl
    generalize umem m 597 25 0 = m3 at H4 ⊢
    refine x_s (q := (.aload_n 0, 0, 0, 0)) (cod_190 rfl) rfl rfl rfl ?_
    refine x_s (q := (.iconst 0, 0, 0, 0)) (cod_190 rfl) rfl rfl rfl ?_
    refine x_pf (kk := 26) (t := 0) (cod_190 rfl) sq_p_597 sq_l_597_26 rfl rfl rfl ?_
    have H6 := H4 _ rfl
    generalize umem m3 597 26 0 = m5 at H6 ⊢
    refine x_retV (cod_190 rfl) rfl ?_
    exact H6
  · have H2 := H.1 (Classical.not_not.mp h)
    refine x_s (q := (.aload_n 0, 0, 0, 0)) (cod_190 rfl) rfl rfl rfl ?_
    refine x_s (q := (.iload_n 1, 0, 0, 0)) (cod_190 rfl) rfl rfl rfl ?_
    refine x_s (q := (.iload_n 1, 0, 0, 0)) (cod_190 rfl) rfl rfl rfl ?_
    refine x_s (q := (.bipush 48, 0, 0, 0)) (cod_190 rfl) rfl rfl rfl ?_
    refine x_ic (p := ¬ a1 < 48) (tgt := 20) (cod_190 rfl) (by decide) xn_ge (fun h => ?_) (fun h => ?_)
    · have H7 := H2.2 h
      refine x_s (q := (.bipush (-9), 0, 0, 0)) (cod_190 rfl) rfl rfl rfl ?_
      refine x_call (as := [(1, 597), (0, a1), (0, (-9))]) (rest := []) (cod_190 rfl) rfl rfl (by decide) (by decide) rfl rfl (Nat.le_of_ble_eq_true rfl) (rcv0 sq_l_597_0 sq_p_597 (by decide)) (Nat.le_of_ble_eq_true rfl) ?_
      show X 191 0 [(1, 597), (0, a1), (0, (-9))] [] m _
      refine x_s (q := (.aload_n 0, 0, 0, 0)) (cod_191 rfl) rfl rfl rfl ?_
      refine x_gc (kk := 24) (c := 607) (t := 1) (cod_191 rfl) sq_p_597 sq_l_597_24 rfl rfl ?_
      refine x_s (q := (.iload_n 1, 0, 0, 0)) (cod_191 rfl) rfl rfl rfl ?_
      refine x_s (q := (.iload_n 2, 0, 0, 0)) (cod_191 rfl) rfl rfl rfl ?_
      obtain ⟨c9, H10⟩ := H7
      refine x_iast (cod_191 rfl) sq_a_607.s (sq_a_607.k c9.1 c9.2) ?_
      have H12 := H10 _ rfl
      generalize umem m 607 a1 (-9) = m11 at H12 ⊢
      refine x_rV (cod_191 rfl) rfl ?_
      show X 190 25 [(1, 597), (0, a1)] [] m11 _
      refine x_s (q := (.iinc 1 1, 0, 0, 0)) (cod_190 rfl) rfl rfl rfl ?_
      refine x_go (tgt := 2) (cod_190 rfl) (by decide) ?_
      exact H12
    · have H8 := H2.1 (Classical.not_not.mp h)
      refine x_s (q := (.iconst 0, 0, 0, 0)) (cod_190 rfl) rfl rfl rfl ?_
      refine x_go (tgt := 22) (cod_190 rfl) (by decide) ?_
      refine x_call (as := [(1, 597), (0, a1), (0, 0)]) (rest := []) (cod_190 rfl) rfl rfl (by decide) (by decide) rfl rfl (Nat.le_of_ble_eq_true rfl) (rcv0 sq_l_597_0 sq_p_597 (by decide)) (Nat.le_of_ble_eq_true rfl) ?_
      show X 191 0 [(1, 597), (0, a1), (0, 0)] [] m _
      refine x_s (q := (.aload_n 0, 0, 0, 0)) (cod_191 rfl) rfl rfl rfl ?_
      refine x_gc (kk := 24) (c := 607) (t := 1) (cod_191 rfl) sq_p_597 sq_l_597_24 rfl rfl ?_
      refine x_s (q := (.iload_n 1, 0, 0, 0)) (cod_191 rfl) rfl rfl rfl ?_
      refine x_s (q := (.iload_n 2, 0, 0, 0)) (cod_191 rfl) rfl rfl rfl ?_
      obtain ⟨c13, H14⟩ := H8
      refine x_iast (cod_191 rfl) sq_a_607.s (sq_a_607.k c13.1 c13.2) ?_
      have H16 := H14 _ rfl
      generalize umem m 607 a1 0 = m15 at H16 ⊢
      refine x_rV (cod_191 rfl) rfl ?_
      show X 190 25 [(1, 597), (0, a1)] [] m15 _
      refine x_s (q := (.iinc 1 1, 0, 0, 0)) (cod_190 rfl) rfl rfl rfl ?_
      refine x_go (tgt := 2) (cod_190 rfl) (by decide) ?_
      exact H16
set_option maxRecDepth 100000 in
theorem w192_0 {m : Mm} {K : Int → Mm → Prop} (a1 : Int) 
  (H : ∀ m1, m1 = umem m 597 0 0 → TrI 169 [(1, 597), (0, a1)] m1 fun v5 m3 => (v5 = 0 → K (-2) m3) ∧ (¬ v5 = 0 → X 192 23 [(1, 597), (0, a1), (0, 0), (0, 0), (0, 0), (9, 0), (9, 0)] [] m3 (qI K))) : X 192 0 [(1, 597), (0, a1), (9, 0), (9, 0), (9, 0), (9, 0), (9, 0)] [] m (qI K) := by
  refine x_s (q := (.aload_n 0, 0, 0, 0)) (cod_192 rfl) rfl rfl rfl ?_
  refine x_s (q := (.iconst 0, 0, 0, 0)) (cod_192 rfl) rfl rfl rfl ?_
  refine x_pf (kk := 0) (t := 0) (cod_192 rfl) sq_p_597 sq_l_597_0 rfl rfl rfl ?_
  have H2 := H _ rfl
  generalize umem m 597 0 0 = m1 at H2 ⊢
  refine x_s (q := (.aload_n 0, 0, 0, 0)) (cod_192 rfl) rfl rfl rfl ?_
  refine x_s (q := (.iload_n 1, 0, 0, 0)) (cod_192 rfl) rfl rfl rfl ?_
  refine x_call (as := [(1, 597), (0, a1)]) (rest := []) (cod_192 rfl) rfl rfl (by decide) (by decide) rfl rfl (Nat.le_of_ble_eq_true rfl) (rcv0 sq_l_597_0 sq_p_597 (by decide)) (Nat.le_of_ble_eq_true rfl) ?_
  refine X.imp H2 ?_
  rintro _ m3 ⟨v5, rfl, H4⟩
  show X 192 10 [(1, 597), (0, a1), (9, 0), (9, 0), (9, 0), (9, 0), (9, 0)] [(0, v5)] m3 _
  refine x_if (p := ¬ v5 = 0) (tgt := 16) (cod_192 rfl) (by decide) xj_ne (fun h => ?_) (fun h => ?_)
  · have H6 := H4.2 h
    refine x_s (q := (.iconst 0, 0, 0, 0)) (cod_192 rfl) rfl rfl rfl ?_
    refine x_s (q := (.istore_n 2, 0, 0, 0)) (cod_192 rfl) rfl rfl rfl ?_
    refine x_s (q := (.iconst 0, 0, 0, 0)) (cod_192 rfl) rfl rfl rfl ?_
    refine x_s (q := (.istore_n 3, 0, 0, 0)) (cod_192 rfl) rfl rfl rfl ?_
    refine x_s (q := (.iconst 0, 0, 0, 0)) (cod_192 rfl) rfl rfl rfl ?_
    refine x_s (q := (.istore 4, 0, 0, 0)) (cod_192 rfl) rfl rfl rfl ?_
    exact H6
  · have H7 := H4.1 (Classical.not_not.mp h)
    refine x_s (q := (.bipush (-2), 0, 0, 0)) (cod_192 rfl) rfl rfl rfl ?_
    refine x_retI (t := .int) (cod_192 rfl) rfl rfl rfl ?_
    exact H7
theorem e192 {m : Mm} {K : Int → Mm → Prop} (a1 : Int) 
  (H : ∀ m1, m1 = umem m 597 0 0 → TrI 169 [(1, 597), (0, a1)] m1 fun v5 m3 => (v5 = 0 → K (-2) m3) ∧ (¬ v5 = 0 → X 192 23 [(1, 597), (0, a1), (0, 0), (0, 0), (0, 0), (9, 0), (9, 0)] [] m3 (qI K))) : TrI 192 [(1, 597), (0, a1)] m K := by
  exact w192_0 a1 H
set_option maxRecDepth 100000 in
theorem w192_23 {m : Mm} {K : Int → Mm → Prop} (ua1 : aV) (a2 : Int) (a3 : Int) (a4 : Int) (ua5 : aV) (ua6 : aV) 
  (H : (a4 < (m 597 3) → (a4 < (m 597 3) → (0 ≤ a4 ∧ a4 < 920) ∧ ((97 ≤ (m 598 a4) ∧ (m 598 a4) ≤ 122) → X 192 86 [(1, 597), ua1, (0, a2), (0, a3), (0, a4), ua5, ua6] [(0, wr ((m 598 a4) - 97))] m (qI K)) ∧ (¬ (97 ≤ (m 598 a4) ∧ (m 598 a4) ≤ 122) → TrI 176 [(1, 597), (0, m 598 a4)] m fun v23 m21 => (v23 < 0 → X 192 86 [(1, 597), ua1, (0, a2), (0, a3), (0, a4), ua5, ua6] [(0, (-1))] m21 (qI K)) ∧ (¬ v23 < 0 → TrI 176 [(1, 597), (0, m21 598 a4)] m21 fun v28 m26 => X 192 86 [(1, 597), ua1, (0, a2), (0, a3), (0, a4), ua5, ua6] [(0, wr (32 + v28))] m26 (qI K)))) ∧ (¬ a4 < (m 597 3) → (0 ≤ a4 ∧ a4 < 920) ∧ TrI 176 [(1, 597), (0, m 598 a4)] m fun v11 m9 => (v11 < 0 → X 192 86 [(1, 597), ua1, (0, a2), (0, a3), (0, a4), ua5, ua6] [(0, (-1))] m9 (qI K)) ∧ (¬ v11 < 0 → TrI 176 [(1, 597), (0, m9 598 a4)] m9 fun v16 m14 => X 192 86 [(1, 597), ua1, (0, a2), (0, a3), (0, a4), ua5, ua6] [(0, wr (32 + v16))] m14 (qI K)))) ∧ (¬ a4 < (m 597 3) → ∀ m3, m3 = umem m 597 23 a2 → X 192 266 [(1, 597), ua1, (0, a2), (0, a3), (0, 0), ua5, ua6] [] m3 (qI K))) : X 192 23 [(1, 597), ua1, (0, a2), (0, a3), (0, a4), ua5, ua6] [] m (qI K) := by
  refine x_s (q := (.iload 4, 0, 0, 0)) (cod_192 rfl) rfl rfl rfl ?_
  refine x_s (q := (.aload_n 0, 0, 0, 0)) (cod_192 rfl) rfl rfl rfl ?_
  refine x_gf (kk := 3) (t := 0) (cod_192 rfl) sq_p_597 sq_l_597_3 rfl rfl ?_
  refine x_ic (p := ¬ a4 < (m 597 3)) (tgt := 258) (cod_192 rfl) (by decide) xn_ge (fun h => ?_) (fun h => ?_)
  · have H1 := H.2 h
    refine x_s (q := (.aload_n 0, 0, 0, 0)) (cod_192 rfl) rfl rfl rfl ?_
    refine x_s (q := (.iload_n 2, 0, 0, 0)) (cod_192 rfl) rfl rfl rfl ?_
    refine x_pf (kk := 23) (t := 0) (cod_192 rfl) sq_p_597 sq_l_597_23 rfl rfl rfl ?_
    have H4 := H1 _ rfl
    generalize umem m 597 23 a2 = m3 at H4 ⊢
    refine x_s (q := (.iconst 0, 0, 0, 0)) (cod_192 rfl) rfl rfl rfl ?_
    refine x_s (q := (.istore 4, 0, 0, 0)) (cod_192 rfl) rfl rfl rfl ?_
    exact H4
  · have H2 := H.1 (Classical.not_not.mp h)
    refine x_s (q := (.aload_n 0, 0, 0, 0)) (cod_192 rfl) rfl rfl rfl ?_
    refine x_s (q := (.iload 4, 0, 0, 0)) (cod_192 rfl) rfl rfl rfl ?_
    refine x_call (as := [(1, 597), (0, a4)]) (rest := []) (cod_192 rfl) rfl rfl (by decide) (by decide) rfl rfl (Nat.le_of_ble_eq_true rfl) (rcv0 sq_l_597_0 sq_p_597 (by decide)) (Nat.le_of_ble_eq_true rfl) ?_
    show X 171 0 [(1, 597), (0, a4)] [] m _
    refine x_s (q := (.iload_n 1, 0, 0, 0)) (cod_171 rfl) rfl rfl rfl ?_
    refine x_s (q := (.aload_n 0, 0, 0, 0)) (cod_171 rfl) rfl rfl rfl ?_
    refine x_gf (kk := 3) (t := 0) (cod_171 rfl) sq_p_597 sq_l_597_3 rfl rfl ?_
    refine x_ic (p := ¬ a4 < (m 597 3)) (tgt := 28) (cod_171 rfl) (by decide) xn_ge (fun h => ?_) (fun h => ?_)
    · have H5 := H2.2 h
      refine x_s (q := (.iconst 0, 0, 0, 0)) (cod_171 rfl) rfl rfl rfl ?_
      refine x_rI (t := .boolean) (cod_171 rfl) rfl rfl rfl ?_
      show X 192 38 [(1, 597), ua1, (0, a2), (0, a3), (0, a4), ua5, ua6] [(0, 0)] m _
      refine x_ift (tgt := 54) (cod_192 rfl) (by decide) (by decide) ?_
      refine x_s (q := (.aload_n 0, 0, 0, 0)) (cod_192 rfl) rfl rfl rfl ?_
      refine x_s (q := (.aload_n 0, 0, 0, 0)) (cod_192 rfl) rfl rfl rfl ?_
      refine x_gc (kk := 1) (c := 598) (t := 1) (cod_192 rfl) sq_p_597 sq_l_597_1 rfl rfl ?_
      refine x_s (q := (.iload 4, 0, 0, 0)) (cod_192 rfl) rfl rfl rfl ?_
      obtain ⟨c7, H8⟩ := H5
      refine x_iald (cod_192 rfl) sq_a_598.s (sq_a_598.k c7.1 c7.2) ?_
      refine x_call (as := [(1, 597), (0, m 598 a4)]) (rest := []) (cod_192 rfl) rfl rfl (by decide) (by decide) rfl rfl (Nat.le_of_ble_eq_true rfl) (rcv0 sq_l_597_0 sq_p_597 (by decide)) (Nat.le_of_ble_eq_true rfl) ?_
      refine X.imp H8 ?_
      rintro _ m9 ⟨v11, rfl, H10⟩
      show X 192 65 [(1, 597), ua1, (0, a2), (0, a3), (0, a4), ua5, ua6] [(0, v11)] m9 _
      refine x_if (p := v11 < 0) (tgt := 85) (cod_192 rfl) (by decide) xj_lt (fun h => ?_) (fun h => ?_)
      · have H12 := H10.1 h
        refine x_s (q := (.iconst (-1), 0, 0, 0)) (cod_192 rfl) rfl rfl rfl ?_
        exact H12
      · have H13 := H10.2 h
        refine x_s (q := (.bipush 32, 0, 0, 0)) (cod_192 rfl) rfl rfl rfl ?_
        refine x_s (q := (.aload_n 0, 0, 0, 0)) (cod_192 rfl) rfl rfl rfl ?_
        refine x_s (q := (.aload_n 0, 0, 0, 0)) (cod_192 rfl) rfl rfl rfl ?_
        refine x_gc (kk := 1) (c := 598) (t := 1) (cod_192 rfl) sq_p_597 sq_l_597_1 rfl rfl ?_
        refine x_s (q := (.iload 4, 0, 0, 0)) (cod_192 rfl) rfl rfl rfl ?_
        refine x_iald (cod_192 rfl) sq_a_598.s (sq_a_598.k c7.1 c7.2) ?_
        refine x_call (as := [(1, 597), (0, m9 598 a4)]) (rest := [(0, 32)]) (cod_192 rfl) rfl rfl (by decide) (by decide) rfl rfl (Nat.le_of_ble_eq_true rfl) (rcv0 sq_l_597_0 sq_p_597 (by decide)) (Nat.le_of_ble_eq_true rfl) ?_
        refine X.imp H13 ?_
        rintro _ m14 ⟨v16, rfl, H15⟩
        show X 192 81 [(1, 597), ua1, (0, a2), (0, a3), (0, a4), ua5, ua6] [(0, v16), (0, 32)] m14 _
        refine x_s (q := (.iadd, 0, 0, 0)) (cod_192 rfl) rfl rfl rfl ?_
        refine x_go (tgt := 86) (cod_192 rfl) (by decide) ?_
        exact H15
    · have H6 := H2.1 (Classical.not_not.mp h)
      refine x_s (q := (.aload_n 0, 0, 0, 0)) (cod_171 rfl) rfl rfl rfl ?_
      refine x_gc (kk := 1) (c := 598) (t := 1) (cod_171 rfl) sq_p_597 sq_l_597_1 rfl rfl ?_
      refine x_s (q := (.iload_n 1, 0, 0, 0)) (cod_171 rfl) rfl rfl rfl ?_
      obtain ⟨c17, H18⟩ := H6
      refine x_iald (cod_171 rfl) sq_a_598.s (sq_a_598.k c17.1 c17.2) ?_
      refine x_s (q := (.bipush 97, 0, 0, 0)) (cod_171 rfl) rfl rfl rfl ?_
      refine x_s (q := (.bipush 122, 0, 0, 0)) (cod_171 rfl) rfl rfl rfl ?_
      refine x_call (as := [(0, m 598 a4), (0, 97), (0, 122)]) (rest := []) (cod_171 rfl) rfl rfl (by decide) (by decide) rfl rfl (Nat.le_of_ble_eq_true rfl) rfl (Nat.le_of_ble_eq_true rfl) ?_
      refine x_pure (p172) ?_
      show X 171 21 [(1, 597), (0, a4)] [(0, bi (97 ≤ (m 598 a4) ∧ (m 598 a4) ≤ 122))] m _
      refine x_if (p := ¬ (97 ≤ (m 598 a4) ∧ (m 598 a4) ≤ 122)) (tgt := 28) (cod_171 rfl) (by decide) xb_eq (fun h => ?_) (fun h => ?_)
      · have H19 := H18.2 h
        refine x_s (q := (.iconst 0, 0, 0, 0)) (cod_171 rfl) rfl rfl rfl ?_
        refine x_rI (t := .boolean) (cod_171 rfl) rfl rfl rfl ?_
        show X 192 38 [(1, 597), ua1, (0, a2), (0, a3), (0, a4), ua5, ua6] [(0, 0)] m _
        refine x_ift (tgt := 54) (cod_192 rfl) (by decide) (by decide) ?_
        refine x_s (q := (.aload_n 0, 0, 0, 0)) (cod_192 rfl) rfl rfl rfl ?_
        refine x_s (q := (.aload_n 0, 0, 0, 0)) (cod_192 rfl) rfl rfl rfl ?_
        refine x_gc (kk := 1) (c := 598) (t := 1) (cod_192 rfl) sq_p_597 sq_l_597_1 rfl rfl ?_
        refine x_s (q := (.iload 4, 0, 0, 0)) (cod_192 rfl) rfl rfl rfl ?_
        refine x_iald (cod_192 rfl) sq_a_598.s (sq_a_598.k c17.1 c17.2) ?_
        refine x_call (as := [(1, 597), (0, m 598 a4)]) (rest := []) (cod_192 rfl) rfl rfl (by decide) (by decide) rfl rfl (Nat.le_of_ble_eq_true rfl) (rcv0 sq_l_597_0 sq_p_597 (by decide)) (Nat.le_of_ble_eq_true rfl) ?_
        refine X.imp H19 ?_
        rintro _ m21 ⟨v23, rfl, H22⟩
        show X 192 65 [(1, 597), ua1, (0, a2), (0, a3), (0, a4), ua5, ua6] [(0, v23)] m21 _
        refine x_if (p := v23 < 0) (tgt := 85) (cod_192 rfl) (by decide) xj_lt (fun h => ?_) (fun h => ?_)
        · have H24 := H22.1 h
          refine x_s (q := (.iconst (-1), 0, 0, 0)) (cod_192 rfl) rfl rfl rfl ?_
          exact H24
        · have H25 := H22.2 h
          refine x_s (q := (.bipush 32, 0, 0, 0)) (cod_192 rfl) rfl rfl rfl ?_
          refine x_s (q := (.aload_n 0, 0, 0, 0)) (cod_192 rfl) rfl rfl rfl ?_
          refine x_s (q := (.aload_n 0, 0, 0, 0)) (cod_192 rfl) rfl rfl rfl ?_
          refine x_gc (kk := 1) (c := 598) (t := 1) (cod_192 rfl) sq_p_597 sq_l_597_1 rfl rfl ?_
          refine x_s (q := (.iload 4, 0, 0, 0)) (cod_192 rfl) rfl rfl rfl ?_
          refine x_iald (cod_192 rfl) sq_a_598.s (sq_a_598.k c17.1 c17.2) ?_
          refine x_call (as := [(1, 597), (0, m21 598 a4)]) (rest := [(0, 32)]) (cod_192 rfl) rfl rfl (by decide) (by decide) rfl rfl (Nat.le_of_ble_eq_true rfl) (rcv0 sq_l_597_0 sq_p_597 (by decide)) (Nat.le_of_ble_eq_true rfl) ?_
          refine X.imp H25 ?_
          rintro _ m26 ⟨v28, rfl, H27⟩
          show X 192 81 [(1, 597), ua1, (0, a2), (0, a3), (0, a4), ua5, ua6] [(0, v28), (0, 32)] m26 _
          refine x_s (q := (.iadd, 0, 0, 0)) (cod_192 rfl) rfl rfl rfl ?_
          refine x_go (tgt := 86) (cod_192 rfl) (by decide) ?_
          exact H27
      · have H20 := H18.1 (Classical.not_not.mp h)
        refine x_s (q := (.iconst 1, 0, 0, 0)) (cod_171 rfl) rfl rfl rfl ?_
        refine x_go (tgt := 29) (cod_171 rfl) (by decide) ?_
        refine x_rI (t := .boolean) (cod_171 rfl) rfl rfl rfl ?_
        show X 192 38 [(1, 597), ua1, (0, a2), (0, a3), (0, a4), ua5, ua6] [(0, 1)] m _
        refine x_iff (cod_192 rfl) (by decide) (by decide) ?_
        refine x_s (q := (.aload_n 0, 0, 0, 0)) (cod_192 rfl) rfl rfl rfl ?_
        refine x_gc (kk := 1) (c := 598) (t := 1) (cod_192 rfl) sq_p_597 sq_l_597_1 rfl rfl ?_
        refine x_s (q := (.iload 4, 0, 0, 0)) (cod_192 rfl) rfl rfl rfl ?_
        refine x_iald (cod_192 rfl) sq_a_598.s (sq_a_598.k c17.1 c17.2) ?_
        refine x_s (q := (.bipush 97, 0, 0, 0)) (cod_192 rfl) rfl rfl rfl ?_
        refine x_s (q := (.isub, 0, 0, 0)) (cod_192 rfl) rfl rfl rfl ?_
        refine x_go (tgt := 86) (cod_192 rfl) (by decide) ?_
        exact H20
set_option maxRecDepth 100000 in
theorem w192_86 {m : Mm} {K : Int → Mm → Prop} (ua1 : aV) (a2 : Int) (a3 : Int) (a4 : Int) (ua5 : aV) (ua6 : aV) (s0 : Int) 
  (H : (0 ≤ a4 ∧ a4 < 920) ∧ ((m 598 a4) = 10 → X 192 23 [(1, 597), ua1, (0, a2), (0, 0), (0, wr (a4 + 1)), (0, s0), ua6] [] m (qI K)) ∧ (¬ (m 598 a4) = 10 → ((m 598 a4) = 32 → X 192 23 [(1, 597), ua1, (0, a2), (0, 0), (0, wr (a4 + 1)), (0, s0), ua6] [] m (qI K)) ∧ (¬ (m 598 a4) = 32 → (s0 < 0 → ∀ m9, m9 = umem m 597 4 1 → ∀ m11, m11 = umem m9 597 5 a4 → X 192 137 [(1, 597), ua1, (0, a2), (0, a3), (0, a4), (0, s0), ua6] [(0, 0)] m11 (qI K)) ∧ (¬ s0 < 0 → X 192 137 [(1, 597), ua1, (0, a2), (0, a3), (0, a4), (0, s0), ua6] [(0, 1)] m (qI K))))) : X 192 86 [(1, 597), ua1, (0, a2), (0, a3), (0, a4), ua5, ua6] [(0, s0)] m (qI K) := by
  refine x_s (q := (.istore 5, 0, 0, 0)) (cod_192 rfl) rfl rfl rfl ?_
  refine x_s (q := (.aload_n 0, 0, 0, 0)) (cod_192 rfl) rfl rfl rfl ?_
  refine x_gc (kk := 1) (c := 598) (t := 1) (cod_192 rfl) sq_p_597 sq_l_597_1 rfl rfl ?_
  refine x_s (q := (.iload 4, 0, 0, 0)) (cod_192 rfl) rfl rfl rfl ?_
  obtain ⟨c1, H2⟩ := H
  refine x_iald (cod_192 rfl) sq_a_598.s (sq_a_598.k c1.1 c1.2) ?_
  refine x_s (q := (.bipush 10, 0, 0, 0)) (cod_192 rfl) rfl rfl rfl ?_
  refine x_ic (p := (m 598 a4) = 10) (tgt := 112) (cod_192 rfl) (by decide) xj_eq (fun h => ?_) (fun h => ?_)
  · have H3 := H2.1 h
    refine x_s (q := (.iconst 0, 0, 0, 0)) (cod_192 rfl) rfl rfl rfl ?_
    refine x_s (q := (.istore_n 3, 0, 0, 0)) (cod_192 rfl) rfl rfl rfl ?_
    refine x_go (tgt := 252) (cod_192 rfl) (by decide) ?_
    refine x_s (q := (.iinc 4 1, 0, 0, 0)) (cod_192 rfl) rfl rfl rfl ?_
    refine x_go (tgt := 23) (cod_192 rfl) (by decide) ?_
    exact H3
  · have H4 := H2.2 h
    refine x_s (q := (.aload_n 0, 0, 0, 0)) (cod_192 rfl) rfl rfl rfl ?_
    refine x_gc (kk := 1) (c := 598) (t := 1) (cod_192 rfl) sq_p_597 sq_l_597_1 rfl rfl ?_
    refine x_s (q := (.iload 4, 0, 0, 0)) (cod_192 rfl) rfl rfl rfl ?_
    refine x_iald (cod_192 rfl) sq_a_598.s (sq_a_598.k c1.1 c1.2) ?_
    refine x_s (q := (.bipush 32, 0, 0, 0)) (cod_192 rfl) rfl rfl rfl ?_
    refine x_ic (p := ¬ (m 598 a4) = 32) (tgt := 117) (cod_192 rfl) (by decide) xj_ne (fun h => ?_) (fun h => ?_)
    · have H5 := H4.2 h
      refine x_s (q := (.iload 5, 0, 0, 0)) (cod_192 rfl) rfl rfl rfl ?_
      refine x_if (p := ¬ s0 < 0) (tgt := 132) (cod_192 rfl) (by decide) xn_ge (fun h => ?_) (fun h => ?_)
      · have H7 := H5.2 h
        refine x_s (q := (.iconst 1, 0, 0, 0)) (cod_192 rfl) rfl rfl rfl ?_
        refine x_go (tgt := 137) (cod_192 rfl) (by decide) ?_
        exact H7
      · have H8 := H5.1 (Classical.not_not.mp h)
        refine x_s (q := (.aload_n 0, 0, 0, 0)) (cod_192 rfl) rfl rfl rfl ?_
        refine x_s (q := (.iconst 1, 0, 0, 0)) (cod_192 rfl) rfl rfl rfl ?_
        refine x_s (q := (.iload 4, 0, 0, 0)) (cod_192 rfl) rfl rfl rfl ?_
        refine x_call (as := [(1, 597), (0, 1), (0, a4)]) (rest := []) (cod_192 rfl) rfl rfl (by decide) (by decide) rfl rfl (Nat.le_of_ble_eq_true rfl) (rcv0 sq_l_597_0 sq_p_597 (by decide)) (Nat.le_of_ble_eq_true rfl) ?_
        show X 179 0 [(1, 597), (0, 1), (0, a4)] [] m _
        refine x_s (q := (.aload_n 0, 0, 0, 0)) (cod_179 rfl) rfl rfl rfl ?_
        refine x_s (q := (.iload_n 1, 0, 0, 0)) (cod_179 rfl) rfl rfl rfl ?_
        refine x_pf (kk := 4) (t := 0) (cod_179 rfl) sq_p_597 sq_l_597_4 rfl rfl rfl ?_
        have H10 := H8 _ rfl
        generalize umem m 597 4 1 = m9 at H10 ⊢
        refine x_s (q := (.aload_n 0, 0, 0, 0)) (cod_179 rfl) rfl rfl rfl ?_
        refine x_s (q := (.iload_n 2, 0, 0, 0)) (cod_179 rfl) rfl rfl rfl ?_
        refine x_pf (kk := 5) (t := 0) (cod_179 rfl) sq_p_597 sq_l_597_5 rfl rfl rfl ?_
        have H12 := H10 _ rfl
        generalize umem m9 597 5 a4 = m11 at H12 ⊢
        refine x_s (q := (.iconst 0, 0, 0, 0)) (cod_179 rfl) rfl rfl rfl ?_
        refine x_rI (t := .boolean) (cod_179 rfl) rfl rfl rfl ?_
        show X 192 129 [(1, 597), ua1, (0, a2), (0, a3), (0, a4), (0, s0), ua6] [(0, 0)] m11 _
        refine x_ift (tgt := 136) (cod_192 rfl) (by decide) (by decide) ?_
        refine x_s (q := (.iconst 0, 0, 0, 0)) (cod_192 rfl) rfl rfl rfl ?_
        exact H12
    · have H6 := H4.1 (Classical.not_not.mp h)
      refine x_s (q := (.iconst 0, 0, 0, 0)) (cod_192 rfl) rfl rfl rfl ?_
      refine x_s (q := (.istore_n 3, 0, 0, 0)) (cod_192 rfl) rfl rfl rfl ?_
      refine x_go (tgt := 252) (cod_192 rfl) (by decide) ?_
      refine x_s (q := (.iinc 4 1, 0, 0, 0)) (cod_192 rfl) rfl rfl rfl ?_
      refine x_go (tgt := 23) (cod_192 rfl) (by decide) ?_
      exact H6
set_option maxRecDepth 100000 in
theorem w192_137 {m : Mm} {K : Int → Mm → Prop} (ua1 : aV) (a2 : Int) (a3 : Int) (a4 : Int) (a5 : Int) (ua6 : aV) (s0 : Int) 
  (H : (s0 = 0 → X 192 163 [(1, 597), ua1, (0, a2), (0, a3), (0, a4), (0, a5), (0, s0)] [] m (qI K)) ∧ (¬ s0 = 0 → (a3 = 0 → (a2 = 10 → ∀ m7, m7 = umem m 597 4 2 → ∀ m9, m9 = umem m7 597 5 a4 → X 192 163 [(1, 597), ua1, (0, a2), (0, a3), (0, a4), (0, a5), (0, 0)] [] m9 (qI K)) ∧ (¬ a2 = 10 → X 192 163 [(1, 597), ua1, (0, a2), (0, a3), (0, a4), (0, a5), (0, s0)] [] m (qI K))) ∧ (¬ a3 = 0 → X 192 163 [(1, 597), ua1, (0, a2), (0, a3), (0, a4), (0, a5), (0, s0)] [] m (qI K)))) : X 192 137 [(1, 597), ua1, (0, a2), (0, a3), (0, a4), (0, a5), ua6] [(0, s0)] m (qI K) := by
  refine x_s (q := (.istore 6, 0, 0, 0)) (cod_192 rfl) rfl rfl rfl ?_
  refine x_s (q := (.iload 6, 0, 0, 0)) (cod_192 rfl) rfl rfl rfl ?_
  refine x_if (p := s0 = 0) (tgt := 163) (cod_192 rfl) (by decide) xj_eq (fun h => ?_) (fun h => ?_)
  · have H1 := H.1 h
    exact H1
  · have H2 := H.2 h
    refine x_s (q := (.iload_n 3, 0, 0, 0)) (cod_192 rfl) rfl rfl rfl ?_
    refine x_if (p := ¬ a3 = 0) (tgt := 163) (cod_192 rfl) (by decide) xj_ne (fun h => ?_) (fun h => ?_)
    · have H3 := H2.2 h
      exact H3
    · have H4 := H2.1 (Classical.not_not.mp h)
      refine x_s (q := (.iload_n 2, 0, 0, 0)) (cod_192 rfl) rfl rfl rfl ?_
      refine x_s (q := (.bipush 10, 0, 0, 0)) (cod_192 rfl) rfl rfl rfl ?_
      refine x_ic (p := ¬ a2 = 10) (tgt := 163) (cod_192 rfl) (by decide) xj_ne (fun h => ?_) (fun h => ?_)
      · have H5 := H4.2 h
        exact H5
      · have H6 := H4.1 (Classical.not_not.mp h)
        refine x_s (q := (.aload_n 0, 0, 0, 0)) (cod_192 rfl) rfl rfl rfl ?_
        refine x_s (q := (.iconst 2, 0, 0, 0)) (cod_192 rfl) rfl rfl rfl ?_
        refine x_s (q := (.iload 4, 0, 0, 0)) (cod_192 rfl) rfl rfl rfl ?_
        refine x_call (as := [(1, 597), (0, 2), (0, a4)]) (rest := []) (cod_192 rfl) rfl rfl (by decide) (by decide) rfl rfl (Nat.le_of_ble_eq_true rfl) (rcv0 sq_l_597_0 sq_p_597 (by decide)) (Nat.le_of_ble_eq_true rfl) ?_
        show X 179 0 [(1, 597), (0, 2), (0, a4)] [] m _
        refine x_s (q := (.aload_n 0, 0, 0, 0)) (cod_179 rfl) rfl rfl rfl ?_
        refine x_s (q := (.iload_n 1, 0, 0, 0)) (cod_179 rfl) rfl rfl rfl ?_
        refine x_pf (kk := 4) (t := 0) (cod_179 rfl) sq_p_597 sq_l_597_4 rfl rfl rfl ?_
        have H8 := H6 _ rfl
        generalize umem m 597 4 2 = m7 at H8 ⊢
        refine x_s (q := (.aload_n 0, 0, 0, 0)) (cod_179 rfl) rfl rfl rfl ?_
        refine x_s (q := (.iload_n 2, 0, 0, 0)) (cod_179 rfl) rfl rfl rfl ?_
        refine x_pf (kk := 5) (t := 0) (cod_179 rfl) sq_p_597 sq_l_597_5 rfl rfl rfl ?_
        have H10 := H8 _ rfl
        generalize umem m7 597 5 a4 = m9 at H10 ⊢
        refine x_s (q := (.iconst 0, 0, 0, 0)) (cod_179 rfl) rfl rfl rfl ?_
        refine x_rI (t := .boolean) (cod_179 rfl) rfl rfl rfl ?_
        show X 192 161 [(1, 597), ua1, (0, a2), (0, a3), (0, a4), (0, a5), (0, s0)] [(0, 0)] m9 _
        refine x_s (q := (.istore 6, 0, 0, 0)) (cod_192 rfl) rfl rfl rfl ?_
        exact H10
set_option maxRecDepth 100000 in
theorem w192_163 {m : Mm} {K : Int → Mm → Prop} (ua1 : aV) (a2 : Int) (a3 : Int) (a4 : Int) (a5 : Int) (a6 : Int) (hua1 : ua1.1 ≠ 2)
  (H : (a6 = 0 → (a6 = 0 → K (-1) m) ∧ (¬ a6 = 0 → (a3 = 0 → (0 ≤ a2 ∧ a2 < 10) ∧ ∀ m9, m9 = umem m 606 a2 0 → X 192 215 [(1, 597), ua1, (0, wr (a2 + 1)), (0, a3), (0, a4), (0, a5), (0, a6)] [] m9 (qI K)) ∧ (¬ a3 = 0 → X 192 215 [(1, 597), ua1, (0, a2), (0, a3), (0, a4), (0, a5), (0, a6)] [] m (qI K)))) ∧ (¬ a6 = 0 → (a3 = 0 → (a6 = 0 → K (-1) m) ∧ (¬ a6 = 0 → (a3 = 0 → (0 ≤ a2 ∧ a2 < 10) ∧ ∀ m19, m19 = umem m 606 a2 0 → X 192 215 [(1, 597), ua1, (0, wr (a2 + 1)), (0, a3), (0, a4), (0, a5), (0, a6)] [] m19 (qI K)) ∧ (¬ a3 = 0 → X 192 215 [(1, 597), ua1, (0, a2), (0, a3), (0, a4), (0, a5), (0, a6)] [] m (qI K)))) ∧ (¬ a3 = 0 → (0 ≤ (wr (a2 - 1)) ∧ (wr (a2 - 1)) < 10) ∧ ((m 606 (wr (a2 - 1))) = 10 → ∀ m33, m33 = umem m 597 4 2 → ∀ m35, m35 = umem m33 597 5 a4 → K (-1) m35) ∧ (¬ (m 606 (wr (a2 - 1))) = 10 → (a6 = 0 → K (-1) m) ∧ (¬ a6 = 0 → (a3 = 0 → (0 ≤ a2 ∧ a2 < 10) ∧ ∀ m31, m31 = umem m 606 a2 0 → X 192 215 [(1, 597), ua1, (0, wr (a2 + 1)), (0, a3), (0, a4), (0, a5), (0, a6)] [] m31 (qI K)) ∧ (¬ a3 = 0 → X 192 215 [(1, 597), ua1, (0, a2), (0, a3), (0, a4), (0, a5), (0, a6)] [] m (qI K))))))) : X 192 163 [(1, 597), ua1, (0, a2), (0, a3), (0, a4), (0, a5), (0, a6)] [] m (qI K) := by
  refine x_s (q := (.iload 6, 0, 0, 0)) (cod_192 rfl) rfl rfl rfl ?_
  refine x_if (p := a6 = 0) (tgt := 194) (cod_192 rfl) (by decide) xj_eq (fun h => ?_) (fun h => ?_)
  · have H1 := H.1 h
    refine x_s (q := (.iload 6, 0, 0, 0)) (cod_192 rfl) rfl rfl rfl ?_
    refine x_if (p := ¬ a6 = 0) (tgt := 201) (cod_192 rfl) (by decide) xj_ne (fun h => ?_) (fun h => ?_)
    · have H3 := H1.2 h
      refine x_s (q := (.iload_n 3, 0, 0, 0)) (cod_192 rfl) rfl rfl rfl ?_
      refine x_if (p := ¬ a3 = 0) (tgt := 215) (cod_192 rfl) (by decide) xj_ne (fun h => ?_) (fun h => ?_)
      · have H5 := H3.2 h
        exact H5
      · have H6 := H3.1 (Classical.not_not.mp h)
        refine x_s (q := (.aload_n 0, 0, 0, 0)) (cod_192 rfl) rfl rfl rfl ?_
        refine x_gc (kk := 22) (c := 606) (t := 1) (cod_192 rfl) sq_p_597 sq_l_597_22 rfl rfl ?_
        refine x_s (q := (.iload_n 2, 0, 0, 0)) (cod_192 rfl) rfl rfl rfl ?_
        refine x_s (q := (.iconst 0, 0, 0, 0)) (cod_192 rfl) rfl rfl rfl ?_
        obtain ⟨c7, H8⟩ := H6
        refine x_iast (cod_192 rfl) sq_a_606.s (sq_a_606.k c7.1 c7.2) ?_
        have H10 := H8 _ rfl
        generalize umem m 606 a2 0 = m9 at H10 ⊢
        show X 192 212 [(1, 597), ua1, (0, a2), (0, a3), (0, a4), (0, a5), (0, a6)] [] m9 _
        refine x_s (q := (.iinc 2 1, 0, 0, 0)) (np := 215) (ls' := [(1, 597), ua1, (0, wr (a2 + 1)), (0, a3), (0, a4), (0, a5), (0, a6)]) (st' := []) (cod_192 rfl) rfl rfl (by simp [stp1, stS, tok, lsok, oif, hua1]) ?_
        exact H10
    · have H4 := H1.1 (Classical.not_not.mp h)
      refine x_s (q := (.iconst (-1), 0, 0, 0)) (cod_192 rfl) rfl rfl rfl ?_
      refine x_retI (t := .int) (cod_192 rfl) rfl rfl rfl ?_
      exact H4
  · have H2 := H.2 h
    refine x_s (q := (.iload_n 3, 0, 0, 0)) (cod_192 rfl) rfl rfl rfl ?_
    refine x_if (p := a3 = 0) (tgt := 194) (cod_192 rfl) (by decide) xj_eq (fun h => ?_) (fun h => ?_)
    · have H11 := H2.1 h
      refine x_s (q := (.iload 6, 0, 0, 0)) (cod_192 rfl) rfl rfl rfl ?_
      refine x_if (p := ¬ a6 = 0) (tgt := 201) (cod_192 rfl) (by decide) xj_ne (fun h => ?_) (fun h => ?_)
      · have H13 := H11.2 h
        refine x_s (q := (.iload_n 3, 0, 0, 0)) (cod_192 rfl) rfl rfl rfl ?_
        refine x_if (p := ¬ a3 = 0) (tgt := 215) (cod_192 rfl) (by decide) xj_ne (fun h => ?_) (fun h => ?_)
        · have H15 := H13.2 h
          exact H15
        · have H16 := H13.1 (Classical.not_not.mp h)
          refine x_s (q := (.aload_n 0, 0, 0, 0)) (cod_192 rfl) rfl rfl rfl ?_
          refine x_gc (kk := 22) (c := 606) (t := 1) (cod_192 rfl) sq_p_597 sq_l_597_22 rfl rfl ?_
          refine x_s (q := (.iload_n 2, 0, 0, 0)) (cod_192 rfl) rfl rfl rfl ?_
          refine x_s (q := (.iconst 0, 0, 0, 0)) (cod_192 rfl) rfl rfl rfl ?_
          obtain ⟨c17, H18⟩ := H16
          refine x_iast (cod_192 rfl) sq_a_606.s (sq_a_606.k c17.1 c17.2) ?_
          have H20 := H18 _ rfl
          generalize umem m 606 a2 0 = m19 at H20 ⊢
          show X 192 212 [(1, 597), ua1, (0, a2), (0, a3), (0, a4), (0, a5), (0, a6)] [] m19 _
          refine x_s (q := (.iinc 2 1, 0, 0, 0)) (np := 215) (ls' := [(1, 597), ua1, (0, wr (a2 + 1)), (0, a3), (0, a4), (0, a5), (0, a6)]) (st' := []) (cod_192 rfl) rfl rfl (by simp [stp1, stS, tok, lsok, oif, hua1]) ?_
          exact H20
      · have H14 := H11.1 (Classical.not_not.mp h)
        refine x_s (q := (.iconst (-1), 0, 0, 0)) (cod_192 rfl) rfl rfl rfl ?_
        refine x_retI (t := .int) (cod_192 rfl) rfl rfl rfl ?_
        exact H14
    · have H12 := H2.2 h
      refine x_s (q := (.aload_n 0, 0, 0, 0)) (cod_192 rfl) rfl rfl rfl ?_
      refine x_gc (kk := 22) (c := 606) (t := 1) (cod_192 rfl) sq_p_597 sq_l_597_22 rfl rfl ?_
      refine x_s (q := (.iload_n 2, 0, 0, 0)) (cod_192 rfl) rfl rfl rfl ?_
      refine x_s (q := (.iconst 1, 0, 0, 0)) (cod_192 rfl) rfl rfl rfl ?_
      refine x_s (q := (.isub, 0, 0, 0)) (cod_192 rfl) rfl rfl rfl ?_
      obtain ⟨c21, H22⟩ := H12
      refine x_iald (cod_192 rfl) sq_a_606.s (sq_a_606.k c21.1 c21.2) ?_
      refine x_s (q := (.bipush 10, 0, 0, 0)) (cod_192 rfl) rfl rfl rfl ?_
      refine x_ic (p := ¬ (m 606 (wr (a2 - 1))) = 10) (tgt := 194) (cod_192 rfl) (by decide) xj_ne (fun h => ?_) (fun h => ?_)
      · have H23 := H22.2 h
        refine x_s (q := (.iload 6, 0, 0, 0)) (cod_192 rfl) rfl rfl rfl ?_
        refine x_if (p := ¬ a6 = 0) (tgt := 201) (cod_192 rfl) (by decide) xj_ne (fun h => ?_) (fun h => ?_)
        · have H25 := H23.2 h
          refine x_s (q := (.iload_n 3, 0, 0, 0)) (cod_192 rfl) rfl rfl rfl ?_
          refine x_if (p := ¬ a3 = 0) (tgt := 215) (cod_192 rfl) (by decide) xj_ne (fun h => ?_) (fun h => ?_)
          · have H27 := H25.2 h
            exact H27
          · have H28 := H25.1 (Classical.not_not.mp h)
            refine x_s (q := (.aload_n 0, 0, 0, 0)) (cod_192 rfl) rfl rfl rfl ?_
            refine x_gc (kk := 22) (c := 606) (t := 1) (cod_192 rfl) sq_p_597 sq_l_597_22 rfl rfl ?_
            refine x_s (q := (.iload_n 2, 0, 0, 0)) (cod_192 rfl) rfl rfl rfl ?_
            refine x_s (q := (.iconst 0, 0, 0, 0)) (cod_192 rfl) rfl rfl rfl ?_
            obtain ⟨c29, H30⟩ := H28
            refine x_iast (cod_192 rfl) sq_a_606.s (sq_a_606.k c29.1 c29.2) ?_
            have H32 := H30 _ rfl
            generalize umem m 606 a2 0 = m31 at H32 ⊢
            show X 192 212 [(1, 597), ua1, (0, a2), (0, a3), (0, a4), (0, a5), (0, a6)] [] m31 _
            refine x_s (q := (.iinc 2 1, 0, 0, 0)) (np := 215) (ls' := [(1, 597), ua1, (0, wr (a2 + 1)), (0, a3), (0, a4), (0, a5), (0, a6)]) (st' := []) (cod_192 rfl) rfl rfl (by simp [stp1, stS, tok, lsok, oif, hua1]) ?_
            exact H32
        · have H26 := H23.1 (Classical.not_not.mp h)
          refine x_s (q := (.iconst (-1), 0, 0, 0)) (cod_192 rfl) rfl rfl rfl ?_
          refine x_retI (t := .int) (cod_192 rfl) rfl rfl rfl ?_
          exact H26
      · have H24 := H22.1 (Classical.not_not.mp h)
        refine x_s (q := (.aload_n 0, 0, 0, 0)) (cod_192 rfl) rfl rfl rfl ?_
        refine x_s (q := (.iconst 2, 0, 0, 0)) (cod_192 rfl) rfl rfl rfl ?_
        refine x_s (q := (.iload 4, 0, 0, 0)) (cod_192 rfl) rfl rfl rfl ?_
        refine x_call (as := [(1, 597), (0, 2), (0, a4)]) (rest := []) (cod_192 rfl) rfl rfl (by decide) (by decide) rfl rfl (Nat.le_of_ble_eq_true rfl) (rcv0 sq_l_597_0 sq_p_597 (by decide)) (Nat.le_of_ble_eq_true rfl) ?_
        show X 179 0 [(1, 597), (0, 2), (0, a4)] [] m _
        refine x_s (q := (.aload_n 0, 0, 0, 0)) (cod_179 rfl) rfl rfl rfl ?_
        refine x_s (q := (.iload_n 1, 0, 0, 0)) (cod_179 rfl) rfl rfl rfl ?_
        refine x_pf (kk := 4) (t := 0) (cod_179 rfl) sq_p_597 sq_l_597_4 rfl rfl rfl ?_
        have H34 := H24 _ rfl
        generalize umem m 597 4 2 = m33 at H34 ⊢
        refine x_s (q := (.aload_n 0, 0, 0, 0)) (cod_179 rfl) rfl rfl rfl ?_
        refine x_s (q := (.iload_n 2, 0, 0, 0)) (cod_179 rfl) rfl rfl rfl ?_
        refine x_pf (kk := 5) (t := 0) (cod_179 rfl) sq_p_597 sq_l_597_5 rfl rfl rfl ?_
        have H36 := H34 _ rfl
        generalize umem m33 597 5 a4 = m35 at H36 ⊢
        refine x_s (q := (.iconst 0, 0, 0, 0)) (cod_179 rfl) rfl rfl rfl ?_
        refine x_rI (t := .boolean) (cod_179 rfl) rfl rfl rfl ?_
        show X 192 192 [(1, 597), ua1, (0, a2), (0, a3), (0, a4), (0, a5), (0, a6)] [(0, 0)] m35 _
        refine x_s (q := (.istore 6, 0, 0, 0)) (cod_192 rfl) rfl rfl rfl ?_
        refine x_s (q := (.iload 6, 0, 0, 0)) (cod_192 rfl) rfl rfl rfl ?_
        refine x_iff (cod_192 rfl) (by decide) (by decide) ?_
        refine x_s (q := (.iconst (-1), 0, 0, 0)) (cod_192 rfl) rfl rfl rfl ?_
        refine x_retI (t := .int) (cod_192 rfl) rfl rfl rfl ?_
        exact H36
set_option maxRecDepth 100000 in
theorem w192_215 {m : Mm} {K : Int → Mm → Prop} (ua1 : aV) (a2 : Int) (ua3 : aV) (a4 : Int) (a5 : Int) (ua6 : aV) 
  (H : (0 ≤ (wr (a2 - 1)) ∧ (wr (a2 - 1)) < 10) ∧ (0 ≤ (wr ((wr ((wr (10 * a2)) - 10)) + (m 606 (wr (a2 - 1))))) ∧ (wr ((wr ((wr (10 * a2)) - 10)) + (m 606 (wr (a2 - 1))))) < 100) ∧ ∀ m5, m5 = umem m 605 (wr ((wr ((wr (10 * a2)) - 10)) + (m 606 (wr (a2 - 1))))) a5 → ∀ m7, m7 = umem m5 606 (wr (a2 - 1)) (wr ((m5 606 (wr (a2 - 1))) + 1)) → X 192 23 [(1, 597), ua1, (0, a2), (0, 1), (0, wr (a4 + 1)), (0, a5), ua6] [] m7 (qI K)) : X 192 215 [(1, 597), ua1, (0, a2), ua3, (0, a4), (0, a5), ua6] [] m (qI K) := by
  refine x_s (q := (.iconst 1, 0, 0, 0)) (cod_192 rfl) rfl rfl rfl ?_
  refine x_s (q := (.istore_n 3, 0, 0, 0)) (cod_192 rfl) rfl rfl rfl ?_
  refine x_s (q := (.aload_n 0, 0, 0, 0)) (cod_192 rfl) rfl rfl rfl ?_
  refine x_gc (kk := 21) (c := 605) (t := 1) (cod_192 rfl) sq_p_597 sq_l_597_21 rfl rfl ?_
  refine x_s (q := (.bipush 10, 0, 0, 0)) (cod_192 rfl) rfl rfl rfl ?_
  refine x_s (q := (.iload_n 2, 0, 0, 0)) (cod_192 rfl) rfl rfl rfl ?_
  refine x_s (q := (.imul, 0, 0, 0)) (cod_192 rfl) rfl rfl rfl ?_
  refine x_s (q := (.bipush 10, 0, 0, 0)) (cod_192 rfl) rfl rfl rfl ?_
  refine x_s (q := (.isub, 0, 0, 0)) (cod_192 rfl) rfl rfl rfl ?_
  refine x_s (q := (.aload_n 0, 0, 0, 0)) (cod_192 rfl) rfl rfl rfl ?_
  refine x_gc (kk := 22) (c := 606) (t := 1) (cod_192 rfl) sq_p_597 sq_l_597_22 rfl rfl ?_
  refine x_s (q := (.iload_n 2, 0, 0, 0)) (cod_192 rfl) rfl rfl rfl ?_
  refine x_s (q := (.iconst 1, 0, 0, 0)) (cod_192 rfl) rfl rfl rfl ?_
  refine x_s (q := (.isub, 0, 0, 0)) (cod_192 rfl) rfl rfl rfl ?_
  obtain ⟨c1, H2⟩ := H
  refine x_iald (cod_192 rfl) sq_a_606.s (sq_a_606.k c1.1 c1.2) ?_
  refine x_s (q := (.iadd, 0, 0, 0)) (cod_192 rfl) rfl rfl rfl ?_
  refine x_s (q := (.iload 5, 0, 0, 0)) (cod_192 rfl) rfl rfl rfl ?_
  obtain ⟨c3, H4⟩ := H2
  refine x_iast (cod_192 rfl) sq_a_605.s (sq_a_605.k c3.1 c3.2) ?_
  have H6 := H4 _ rfl
  generalize umem m 605 (wr ((wr ((wr (10 * a2)) - 10)) + (m 606 (wr (a2 - 1))))) a5 = m5 at H6 ⊢
  refine x_s (q := (.aload_n 0, 0, 0, 0)) (cod_192 rfl) rfl rfl rfl ?_
  refine x_gc (kk := 22) (c := 606) (t := 1) (cod_192 rfl) sq_p_597 sq_l_597_22 rfl rfl ?_
  refine x_s (q := (.iload_n 2, 0, 0, 0)) (cod_192 rfl) rfl rfl rfl ?_
  refine x_s (q := (.iconst 1, 0, 0, 0)) (cod_192 rfl) rfl rfl rfl ?_
  refine x_s (q := (.isub, 0, 0, 0)) (cod_192 rfl) rfl rfl rfl ?_
  refine x_s (q := (.dup2, 0, 0, 0)) (cod_192 rfl) rfl rfl rfl ?_
  refine x_iald (cod_192 rfl) sq_a_606.s (sq_a_606.k c1.1 c1.2) ?_
  refine x_s (q := (.iconst 1, 0, 0, 0)) (cod_192 rfl) rfl rfl rfl ?_
  refine x_s (q := (.iadd, 0, 0, 0)) (cod_192 rfl) rfl rfl rfl ?_
  refine x_iast (cod_192 rfl) sq_a_606.s (sq_a_606.k c1.1 c1.2) ?_
  have H8 := H6 _ rfl
  generalize umem m5 606 (wr (a2 - 1)) (wr ((m5 606 (wr (a2 - 1))) + 1)) = m7 at H8 ⊢
  refine x_s (q := (.iinc 4 1, 0, 0, 0)) (cod_192 rfl) rfl rfl rfl ?_
  refine x_go (tgt := 23) (cod_192 rfl) (by decide) ?_
  exact H8
set_option maxRecDepth 100000 in
theorem w192_266 {m : Mm} {K : Int → Mm → Prop} (ua1 : aV) (a2 : Int) (ua3 : aV) (a4 : Int) (ua5 : aV) (ua6 : aV) (hua3 : ua3.1 ≠ 2)
  (H : (a4 < 10 → (a4 < a2 → (0 ≤ a4 ∧ a4 < 10) ∧ ∀ m11, m11 = umem m 604 a4 (m 606 a4) → X 192 266 [(1, 597), ua1, (0, a2), ua3, (0, wr (a4 + 1)), ua5, ua6] [] m11 (qI K)) ∧ (¬ a4 < a2 → (0 ≤ a4 ∧ a4 < 10) ∧ ∀ m7, m7 = umem m 604 a4 0 → X 192 266 [(1, 597), ua1, (0, a2), ua3, (0, wr (a4 + 1)), ua5, ua6] [] m7 (qI K))) ∧ (¬ a4 < 10 → X 192 306 [(1, 597), ua1, (0, a2), ua3, (0, 0), ua5, ua6] [] m (qI K))) : X 192 266 [(1, 597), ua1, (0, a2), ua3, (0, a4), ua5, ua6] [] m (qI K) := by
  refine x_s (q := (.iload 4, 0, 0, 0)) (cod_192 rfl) rfl rfl rfl ?_
  refine x_s (q := (.bipush 10, 0, 0, 0)) (cod_192 rfl) rfl rfl rfl ?_
  refine x_ic (p := ¬ a4 < 10) (tgt := 303) (cod_192 rfl) (by decide) xn_ge (fun h => ?_) (fun h => ?_)
  · have H1 := H.2 h
    refine x_s (q := (.iconst 0, 0, 0, 0)) (cod_192 rfl) rfl rfl rfl ?_
    show X 192 304 [(1, 597), ua1, (0, a2), ua3, (0, a4), ua5, ua6] [(0, 0)] m _
    refine x_s (q := (.istore 4, 0, 0, 0)) (np := 306) (ls' := [(1, 597), ua1, (0, a2), ua3, (0, 0), ua5, ua6]) (st' := []) (cod_192 rfl) rfl rfl (by simp [stp1, stS, tok, lsok, oif, hua3]) ?_
    exact H1
  · have H2 := H.1 (Classical.not_not.mp h)
    refine x_s (q := (.aload_n 0, 0, 0, 0)) (cod_192 rfl) rfl rfl rfl ?_
    refine x_gc (kk := 20) (c := 604) (t := 1) (cod_192 rfl) sq_p_597 sq_l_597_20 rfl rfl ?_
    refine x_s (q := (.iload 4, 0, 0, 0)) (cod_192 rfl) rfl rfl rfl ?_
    refine x_s (q := (.iload 4, 0, 0, 0)) (cod_192 rfl) rfl rfl rfl ?_
    refine x_s (q := (.iload_n 2, 0, 0, 0)) (cod_192 rfl) rfl rfl rfl ?_
    refine x_ic (p := ¬ a4 < a2) (tgt := 295) (cod_192 rfl) (by decide) xn_ge (fun h => ?_) (fun h => ?_)
    · have H3 := H2.2 h
      refine x_s (q := (.iconst 0, 0, 0, 0)) (cod_192 rfl) rfl rfl rfl ?_
      obtain ⟨c5, H6⟩ := H3
      refine x_iast (cod_192 rfl) sq_a_604.s (sq_a_604.k c5.1 c5.2) ?_
      have H8 := H6 _ rfl
      generalize umem m 604 a4 0 = m7 at H8 ⊢
      show X 192 297 [(1, 597), ua1, (0, a2), ua3, (0, a4), ua5, ua6] [] m7 _
      refine x_s (q := (.iinc 4 1, 0, 0, 0)) (np := 300) (ls' := [(1, 597), ua1, (0, a2), ua3, (0, wr (a4 + 1)), ua5, ua6]) (st' := []) (cod_192 rfl) rfl rfl (by simp [stp1, stS, tok, lsok, oif, hua3]) ?_
      refine x_go (tgt := 266) (cod_192 rfl) (by decide) ?_
      exact H8
    · have H4 := H2.1 (Classical.not_not.mp h)
      refine x_s (q := (.aload_n 0, 0, 0, 0)) (cod_192 rfl) rfl rfl rfl ?_
      refine x_gc (kk := 22) (c := 606) (t := 1) (cod_192 rfl) sq_p_597 sq_l_597_22 rfl rfl ?_
      refine x_s (q := (.iload 4, 0, 0, 0)) (cod_192 rfl) rfl rfl rfl ?_
      obtain ⟨c9, H10⟩ := H4
      refine x_iald (cod_192 rfl) sq_a_606.s (sq_a_606.k c9.1 c9.2) ?_
      refine x_go (tgt := 296) (cod_192 rfl) (by decide) ?_
      refine x_iast (cod_192 rfl) sq_a_604.s (sq_a_604.k c9.1 c9.2) ?_
      have H12 := H10 _ rfl
      generalize umem m 604 a4 (m 606 a4) = m11 at H12 ⊢
      show X 192 297 [(1, 597), ua1, (0, a2), ua3, (0, a4), ua5, ua6] [] m11 _
      refine x_s (q := (.iinc 4 1, 0, 0, 0)) (np := 300) (ls' := [(1, 597), ua1, (0, a2), ua3, (0, wr (a4 + 1)), ua5, ua6]) (st' := []) (cod_192 rfl) rfl rfl (by simp [stp1, stS, tok, lsok, oif, hua3]) ?_
      refine x_go (tgt := 266) (cod_192 rfl) (by decide) ?_
      exact H12
set_option maxRecDepth 100000 in
theorem w192_306 {m : Mm} {K : Int → Mm → Prop} (ua1 : aV) (a2 : Int) (ua3 : aV) (a4 : Int) (ua5 : aV) (ua6 : aV) (hua3 : ua3.1 ≠ 2)
  (H : (a4 < 100 → (0 ≤ a4 ∧ a4 < 100) ∧ ∀ m5, m5 = umem m 603 a4 (m 605 a4) → X 192 306 [(1, 597), ua1, (0, a2), ua3, (0, wr (a4 + 1)), ua5, ua6] [] m5 (qI K)) ∧ (¬ a4 < 100 → X 192 336 [(1, 597), ua1, (0, a2), ua3, (0, 0), ua5, ua6] [] m (qI K))) : X 192 306 [(1, 597), ua1, (0, a2), ua3, (0, a4), ua5, ua6] [] m (qI K) := by
  refine x_s (q := (.iload 4, 0, 0, 0)) (cod_192 rfl) rfl rfl rfl ?_
  refine x_s (q := (.bipush 100, 0, 0, 0)) (cod_192 rfl) rfl rfl rfl ?_
  refine x_ic (p := ¬ a4 < 100) (tgt := 333) (cod_192 rfl) (by decide) xn_ge (fun h => ?_) (fun h => ?_)
  · have H1 := H.2 h
    refine x_s (q := (.iconst 0, 0, 0, 0)) (cod_192 rfl) rfl rfl rfl ?_
    show X 192 334 [(1, 597), ua1, (0, a2), ua3, (0, a4), ua5, ua6] [(0, 0)] m _
    refine x_s (q := (.istore 4, 0, 0, 0)) (np := 336) (ls' := [(1, 597), ua1, (0, a2), ua3, (0, 0), ua5, ua6]) (st' := []) (cod_192 rfl) rfl rfl (by simp [stp1, stS, tok, lsok, oif, hua3]) ?_
    exact H1
  · have H2 := H.1 (Classical.not_not.mp h)
    refine x_s (q := (.aload_n 0, 0, 0, 0)) (cod_192 rfl) rfl rfl rfl ?_
    refine x_gc (kk := 19) (c := 603) (t := 1) (cod_192 rfl) sq_p_597 sq_l_597_19 rfl rfl ?_
    refine x_s (q := (.iload 4, 0, 0, 0)) (cod_192 rfl) rfl rfl rfl ?_
    refine x_s (q := (.aload_n 0, 0, 0, 0)) (cod_192 rfl) rfl rfl rfl ?_
    refine x_gc (kk := 21) (c := 605) (t := 1) (cod_192 rfl) sq_p_597 sq_l_597_21 rfl rfl ?_
    refine x_s (q := (.iload 4, 0, 0, 0)) (cod_192 rfl) rfl rfl rfl ?_
    obtain ⟨c3, H4⟩ := H2
    refine x_iald (cod_192 rfl) sq_a_605.s (sq_a_605.k c3.1 c3.2) ?_
    refine x_iast (cod_192 rfl) sq_a_603.s (sq_a_603.k c3.1 c3.2) ?_
    have H6 := H4 _ rfl
    generalize umem m 603 a4 (m 605 a4) = m5 at H6 ⊢
    show X 192 327 [(1, 597), ua1, (0, a2), ua3, (0, a4), ua5, ua6] [] m5 _
    refine x_s (q := (.iinc 4 1, 0, 0, 0)) (np := 330) (ls' := [(1, 597), ua1, (0, a2), ua3, (0, wr (a4 + 1)), ua5, ua6]) (st' := []) (cod_192 rfl) rfl rfl (by simp [stp1, stS, tok, lsok, oif, hua3]) ?_
    refine x_go (tgt := 306) (cod_192 rfl) (by decide) ?_
    exact H6
set_option maxRecDepth 100000 in
theorem w192_336 {m : Mm} {K : Int → Mm → Prop} (ua1 : aV) (a2 : Int) (ua3 : aV) (a4 : Int) (ua5 : aV) (ua6 : aV) (hua3 : ua3.1 ≠ 2)
  (H : (a4 < 10 → (0 ≤ (wr (48 + a4)) ∧ (wr (48 + a4)) < 1276) ∧ ∀ m9, m9 = umem m 607 (wr (48 + a4)) (-9) → X 192 336 [(1, 597), ua1, (0, a2), ua3, (0, wr (a4 + 1)), ua5, ua6] [] m9 (qI K)) ∧ (¬ a4 < 10 → ∀ m3, m3 = umem m 597 25 0 → ∀ m5, m5 = umem m3 597 26 0 → K a2 m5)) : X 192 336 [(1, 597), ua1, (0, a2), ua3, (0, a4), ua5, ua6] [] m (qI K) := by
  refine x_s (q := (.iload 4, 0, 0, 0)) (cod_192 rfl) rfl rfl rfl ?_
  refine x_s (q := (.bipush 10, 0, 0, 0)) (cod_192 rfl) rfl rfl rfl ?_
  refine x_ic (p := ¬ a4 < 10) (tgt := 360) (cod_192 rfl) (by decide) xn_ge (fun h => ?_) (fun h => ?_)
  · have H1 := H.2 h
    refine x_s (q := (.aload_n 0, 0, 0, 0)) (cod_192 rfl) rfl rfl rfl ?_
    refine x_s (q := (.iconst 0, 0, 0, 0)) (cod_192 rfl) rfl rfl rfl ?_
    refine x_pf (kk := 25) (t := 0) (cod_192 rfl) sq_p_597 sq_l_597_25 rfl rfl rfl ?_
    have H4 := H1 _ rfl
    generalize umem m 597 25 0 = m3 at H4 ⊢
    refine x_s (q := (.aload_n 0, 0, 0, 0)) (cod_192 rfl) rfl rfl rfl ?_
    refine x_s (q := (.iconst 0, 0, 0, 0)) (cod_192 rfl) rfl rfl rfl ?_
    refine x_pf (kk := 26) (t := 0) (cod_192 rfl) sq_p_597 sq_l_597_26 rfl rfl rfl ?_
    have H6 := H4 _ rfl
    generalize umem m3 597 26 0 = m5 at H6 ⊢
    refine x_s (q := (.iload_n 2, 0, 0, 0)) (cod_192 rfl) rfl rfl rfl ?_
    refine x_retI (t := .int) (cod_192 rfl) rfl rfl rfl ?_
    exact H6
  · have H2 := H.1 (Classical.not_not.mp h)
    refine x_s (q := (.aload_n 0, 0, 0, 0)) (cod_192 rfl) rfl rfl rfl ?_
    refine x_s (q := (.bipush 48, 0, 0, 0)) (cod_192 rfl) rfl rfl rfl ?_
    refine x_s (q := (.iload 4, 0, 0, 0)) (cod_192 rfl) rfl rfl rfl ?_
    refine x_s (q := (.iadd, 0, 0, 0)) (cod_192 rfl) rfl rfl rfl ?_
    refine x_s (q := (.bipush (-9), 0, 0, 0)) (cod_192 rfl) rfl rfl rfl ?_
    refine x_call (as := [(1, 597), (0, wr (48 + a4)), (0, (-9))]) (rest := []) (cod_192 rfl) rfl rfl (by decide) (by decide) rfl rfl (Nat.le_of_ble_eq_true rfl) (rcv0 sq_l_597_0 sq_p_597 (by decide)) (Nat.le_of_ble_eq_true rfl) ?_
    show X 191 0 [(1, 597), (0, wr (48 + a4)), (0, (-9))] [] m _
    refine x_s (q := (.aload_n 0, 0, 0, 0)) (cod_191 rfl) rfl rfl rfl ?_
    refine x_gc (kk := 24) (c := 607) (t := 1) (cod_191 rfl) sq_p_597 sq_l_597_24 rfl rfl ?_
    refine x_s (q := (.iload_n 1, 0, 0, 0)) (cod_191 rfl) rfl rfl rfl ?_
    refine x_s (q := (.iload_n 2, 0, 0, 0)) (cod_191 rfl) rfl rfl rfl ?_
    obtain ⟨c7, H8⟩ := H2
    refine x_iast (cod_191 rfl) sq_a_607.s (sq_a_607.k c7.1 c7.2) ?_
    have H10 := H8 _ rfl
    generalize umem m 607 (wr (48 + a4)) (-9) = m9 at H10 ⊢
    refine x_rV (cod_191 rfl) rfl ?_
    show X 192 354 [(1, 597), ua1, (0, a2), ua3, (0, a4), ua5, ua6] [] m9 _
    show X 192 354 [(1, 597), ua1, (0, a2), ua3, (0, a4), ua5, ua6] [] m9 _
    refine x_s (q := (.iinc 4 1, 0, 0, 0)) (np := 357) (ls' := [(1, 597), ua1, (0, a2), ua3, (0, wr (a4 + 1)), ua5, ua6]) (st' := []) (cod_192 rfl) rfl rfl (by simp [stp1, stS, tok, lsok, oif, hua3]) ?_
    refine x_go (tgt := 336) (cod_192 rfl) (by decide) ?_
    exact H10
set_option maxRecDepth 100000 in
theorem w193_0 {m : Mm} {K : Int → Mm → Prop}  
  (H : ∀ m1, m1 = umem m 597 0 0 → ((m1 597 25) = 0 → K (-1) m1) ∧ (¬ (m1 597 25) = 0 → ∀ m5, m5 = umem m1 597 25 (wr ((m1 597 25) - 1)) → TrV 194 [(1, 597), (0, wr (2 + (m5 597 25))), (0, 0)] m5 fun m7 => K (m7 597 25) m7)) : X 193 0 [(1, 597)] [] m (qI K) := by
  refine x_s (q := (.aload_n 0, 0, 0, 0)) (cod_193 rfl) rfl rfl rfl ?_
  refine x_s (q := (.iconst 0, 0, 0, 0)) (cod_193 rfl) rfl rfl rfl ?_
  refine x_pf (kk := 0) (t := 0) (cod_193 rfl) sq_p_597 sq_l_597_0 rfl rfl rfl ?_
  have H2 := H _ rfl
  generalize umem m 597 0 0 = m1 at H2 ⊢
  refine x_s (q := (.aload_n 0, 0, 0, 0)) (cod_193 rfl) rfl rfl rfl ?_
  refine x_gf (kk := 25) (t := 0) (cod_193 rfl) sq_p_597 sq_l_597_25 rfl rfl ?_
  refine x_if (p := ¬ (m1 597 25) = 0) (tgt := 14) (cod_193 rfl) (by decide) xj_ne (fun h => ?_) (fun h => ?_)
  · have H3 := H2.2 h
    refine x_s (q := (.aload_n 0, 0, 0, 0)) (cod_193 rfl) rfl rfl rfl ?_
    refine x_s (q := (.dup, 0, 0, 0)) (cod_193 rfl) rfl rfl rfl ?_
    refine x_gf (kk := 25) (t := 0) (cod_193 rfl) sq_p_597 sq_l_597_25 rfl rfl ?_
    refine x_s (q := (.iconst 1, 0, 0, 0)) (cod_193 rfl) rfl rfl rfl ?_
    refine x_s (q := (.isub, 0, 0, 0)) (cod_193 rfl) rfl rfl rfl ?_
    refine x_pf (kk := 25) (t := 0) (cod_193 rfl) sq_p_597 sq_l_597_25 rfl rfl rfl ?_
    have H6 := H3 _ rfl
    generalize umem m1 597 25 (wr ((m1 597 25) - 1)) = m5 at H6 ⊢
    refine x_s (q := (.aload_n 0, 0, 0, 0)) (cod_193 rfl) rfl rfl rfl ?_
    refine x_s (q := (.iconst 2, 0, 0, 0)) (cod_193 rfl) rfl rfl rfl ?_
    refine x_s (q := (.aload_n 0, 0, 0, 0)) (cod_193 rfl) rfl rfl rfl ?_
    refine x_gf (kk := 25) (t := 0) (cod_193 rfl) sq_p_597 sq_l_597_25 rfl rfl ?_
    refine x_s (q := (.iadd, 0, 0, 0)) (cod_193 rfl) rfl rfl rfl ?_
    refine x_s (q := (.iconst 0, 0, 0, 0)) (cod_193 rfl) rfl rfl rfl ?_
    refine x_call (as := [(1, 597), (0, wr (2 + (m5 597 25))), (0, 0)]) (rest := []) (cod_193 rfl) rfl rfl (by decide) (by decide) rfl rfl (Nat.le_of_ble_eq_true rfl) (rcv0 sq_l_597_0 sq_p_597 (by decide)) (Nat.le_of_ble_eq_true rfl) ?_
    refine X.imp H6 ?_
    rintro _ m7 ⟨rfl, H8⟩
    show X 193 35 [(1, 597)] [] m7 _
    refine x_s (q := (.aload_n 0, 0, 0, 0)) (cod_193 rfl) rfl rfl rfl ?_
    refine x_gf (kk := 25) (t := 0) (cod_193 rfl) sq_p_597 sq_l_597_25 rfl rfl ?_
    refine x_retI (t := .int) (cod_193 rfl) rfl rfl rfl ?_
    exact H8
  · have H4 := H2.1 (Classical.not_not.mp h)
    refine x_s (q := (.iconst (-1), 0, 0, 0)) (cod_193 rfl) rfl rfl rfl ?_
    refine x_retI (t := .int) (cod_193 rfl) rfl rfl rfl ?_
    exact H4
theorem e193 {m : Mm} {K : Int → Mm → Prop}  
  (H : ∀ m1, m1 = umem m 597 0 0 → ((m1 597 25) = 0 → K (-1) m1) ∧ (¬ (m1 597 25) = 0 → ∀ m5, m5 = umem m1 597 25 (wr ((m1 597 25) - 1)) → TrV 194 [(1, 597), (0, wr (2 + (m5 597 25))), (0, 0)] m5 fun m7 => K (m7 597 25) m7)) : TrI 193 [(1, 597)] m K := by
  exact w193_0  H
set_option maxRecDepth 100000 in
theorem w194_0 {m : Mm} {K : Mm → Prop} (a1 : Int) (a2 : Int) 
  (H : X 194 2 [(1, 597), (0, a1), (0, a2), (0, 0)] [] m (qV K)) : X 194 0 [(1, 597), (0, a1), (0, a2), (9, 0)] [] m (qV K) := by
  refine x_s (q := (.iconst 0, 0, 0, 0)) (cod_194 rfl) rfl rfl rfl ?_
  refine x_s (q := (.istore_n 3, 0, 0, 0)) (cod_194 rfl) rfl rfl rfl ?_
  exact H
theorem e194 {m : Mm} {K : Mm → Prop} (a1 : Int) (a2 : Int) 
  (H : X 194 2 [(1, 597), (0, a1), (0, a2), (0, 0)] [] m (qV K)) : TrV 194 [(1, 597), (0, a1), (0, a2)] m K := by
  exact w194_0 a1 a2 H
set_option maxRecDepth 100000 in
theorem w194_2 {m : Mm} {K : Mm → Prop} (a1 : Int) (a2 : Int) (a3 : Int) 
  (H : (a3 < 58 → (0 ≤ (wr ((wr (58 * a1)) + a3)) ∧ (wr ((wr (58 * a1)) + a3)) < 1276) ∧ (0 ≤ (wr ((wr (58 * a2)) + a3)) ∧ (wr ((wr (58 * a2)) + a3)) < 1276) ∧ ∀ m7, m7 = umem m 607 (wr ((wr (58 * a2)) + a3)) (m 607 (wr ((wr (58 * a1)) + a3))) → X 194 2 [(1, 597), (0, a1), (0, a2), (0, wr (a3 + 1))] [] m7 (qV K)) ∧ (¬ a3 < 58 → K m)) : X 194 2 [(1, 597), (0, a1), (0, a2), (0, a3)] [] m (qV K) := by
  refine x_s (q := (.iload_n 3, 0, 0, 0)) (cod_194 rfl) rfl rfl rfl ?_
  refine x_s (q := (.bipush 58, 0, 0, 0)) (cod_194 rfl) rfl rfl rfl ?_
  refine x_ic (p := ¬ a3 < 58) (tgt := 36) (cod_194 rfl) (by decide) xn_ge (fun h => ?_) (fun h => ?_)
  · have H1 := H.2 h
    refine x_retV (cod_194 rfl) rfl ?_
    exact H1
  · have H2 := H.1 (Classical.not_not.mp h)
    refine x_s (q := (.aload_n 0, 0, 0, 0)) (cod_194 rfl) rfl rfl rfl ?_
    refine x_gc (kk := 24) (c := 607) (t := 1) (cod_194 rfl) sq_p_597 sq_l_597_24 rfl rfl ?_
    refine x_s (q := (.bipush 58, 0, 0, 0)) (cod_194 rfl) rfl rfl rfl ?_
    refine x_s (q := (.iload_n 2, 0, 0, 0)) (cod_194 rfl) rfl rfl rfl ?_
    refine x_s (q := (.imul, 0, 0, 0)) (cod_194 rfl) rfl rfl rfl ?_
    refine x_s (q := (.iload_n 3, 0, 0, 0)) (cod_194 rfl) rfl rfl rfl ?_
    refine x_s (q := (.iadd, 0, 0, 0)) (cod_194 rfl) rfl rfl rfl ?_
    refine x_s (q := (.aload_n 0, 0, 0, 0)) (cod_194 rfl) rfl rfl rfl ?_
    refine x_gc (kk := 24) (c := 607) (t := 1) (cod_194 rfl) sq_p_597 sq_l_597_24 rfl rfl ?_
    refine x_s (q := (.bipush 58, 0, 0, 0)) (cod_194 rfl) rfl rfl rfl ?_
    refine x_s (q := (.iload_n 1, 0, 0, 0)) (cod_194 rfl) rfl rfl rfl ?_
    refine x_s (q := (.imul, 0, 0, 0)) (cod_194 rfl) rfl rfl rfl ?_
    refine x_s (q := (.iload_n 3, 0, 0, 0)) (cod_194 rfl) rfl rfl rfl ?_
    refine x_s (q := (.iadd, 0, 0, 0)) (cod_194 rfl) rfl rfl rfl ?_
    obtain ⟨c3, H4⟩ := H2
    refine x_iald (cod_194 rfl) sq_a_607.s (sq_a_607.k c3.1 c3.2) ?_
    obtain ⟨c5, H6⟩ := H4
    refine x_iast (cod_194 rfl) sq_a_607.s (sq_a_607.k c5.1 c5.2) ?_
    have H8 := H6 _ rfl
    generalize umem m 607 (wr ((wr (58 * a2)) + a3)) (m 607 (wr ((wr (58 * a1)) + a3))) = m7 at H8 ⊢
    refine x_s (q := (.iinc 3 1, 0, 0, 0)) (cod_194 rfl) rfl rfl rfl ?_
    refine x_go (tgt := 2) (cod_194 rfl) (by decide) ?_
    exact H8
set_option maxRecDepth 100000 in
theorem w195_0 {m : Mm} {K : Int → Mm → Prop}  
  (H : ∀ m1, m1 = umem m 597 0 0 → TrV 194 [(1, 597), (0, 0), (0, 1)] m1 fun m3 => ∀ m5, m5 = umem m3 597 26 1 → TrI 196 [(1, 597)] m5 fun v9 m7 => TrI 198 [(0, v9)] m7 fun v12 m10 => K v12 m10) : X 195 0 [(1, 597)] [] m (qI K) := by
  refine x_s (q := (.aload_n 0, 0, 0, 0)) (cod_195 rfl) rfl rfl rfl ?_
  refine x_s (q := (.iconst 0, 0, 0, 0)) (cod_195 rfl) rfl rfl rfl ?_
  refine x_pf (kk := 0) (t := 0) (cod_195 rfl) sq_p_597 sq_l_597_0 rfl rfl rfl ?_
  have H2 := H _ rfl
  generalize umem m 597 0 0 = m1 at H2 ⊢
  refine x_s (q := (.aload_n 0, 0, 0, 0)) (cod_195 rfl) rfl rfl rfl ?_
  refine x_s (q := (.iconst 0, 0, 0, 0)) (cod_195 rfl) rfl rfl rfl ?_
  refine x_s (q := (.iconst 1, 0, 0, 0)) (cod_195 rfl) rfl rfl rfl ?_
  refine x_call (as := [(1, 597), (0, 0), (0, 1)]) (rest := []) (cod_195 rfl) rfl rfl (by decide) (by decide) rfl rfl (Nat.le_of_ble_eq_true rfl) (rcv0 sq_l_597_0 sq_p_597 (by decide)) (Nat.le_of_ble_eq_true rfl) ?_
  refine X.imp H2 ?_
  rintro _ m3 ⟨rfl, H4⟩
  show X 195 11 [(1, 597)] [] m3 _
  refine x_s (q := (.aload_n 0, 0, 0, 0)) (cod_195 rfl) rfl rfl rfl ?_
  refine x_s (q := (.iconst 1, 0, 0, 0)) (cod_195 rfl) rfl rfl rfl ?_
  refine x_pf (kk := 26) (t := 0) (cod_195 rfl) sq_p_597 sq_l_597_26 rfl rfl rfl ?_
  have H6 := H4 _ rfl
  generalize umem m3 597 26 1 = m5 at H6 ⊢
  refine x_s (q := (.aload_n 0, 0, 0, 0)) (cod_195 rfl) rfl rfl rfl ?_
  refine x_call (as := [(1, 597)]) (rest := []) (cod_195 rfl) rfl rfl (by decide) (by decide) rfl rfl (Nat.le_of_ble_eq_true rfl) (rcv0 sq_l_597_0 sq_p_597 (by decide)) (Nat.le_of_ble_eq_true rfl) ?_
  refine X.imp H6 ?_
  rintro _ m7 ⟨v9, rfl, H8⟩
  show X 195 20 [(1, 597)] [(0, v9)] m7 _
  refine x_call (as := [(0, v9)]) (rest := []) (cod_195 rfl) rfl rfl (by decide) (by decide) rfl rfl (Nat.le_of_ble_eq_true rfl) rfl (Nat.le_of_ble_eq_true rfl) ?_
  refine X.imp H8 ?_
  rintro _ m10 ⟨v12, rfl, H11⟩
  show X 195 23 [(1, 597)] [(0, v12)] m10 _
  refine x_retI (t := .int) (cod_195 rfl) rfl rfl rfl ?_
  exact H11
theorem e195 {m : Mm} {K : Int → Mm → Prop}  
  (H : ∀ m1, m1 = umem m 597 0 0 → TrV 194 [(1, 597), (0, 0), (0, 1)] m1 fun m3 => ∀ m5, m5 = umem m3 597 26 1 → TrI 196 [(1, 597)] m5 fun v9 m7 => TrI 198 [(0, v9)] m7 fun v12 m10 => K v12 m10) : TrI 195 [(1, 597)] m K := by
  exact w195_0  H
set_option maxRecDepth 100000 in
theorem w196_0 {m : Mm} {K : Int → Mm → Prop}  
  (H : X 196 4 [(1, 597), (0, 0), (0, 0)] [] m (qI K)) : X 196 0 [(1, 597), (9, 0), (9, 0)] [] m (qI K) := by
  refine x_s (q := (.iconst 0, 0, 0, 0)) (cod_196 rfl) rfl rfl rfl ?_
  refine x_s (q := (.istore_n 1, 0, 0, 0)) (cod_196 rfl) rfl rfl rfl ?_
  refine x_s (q := (.iconst 0, 0, 0, 0)) (cod_196 rfl) rfl rfl rfl ?_
  refine x_s (q := (.istore_n 2, 0, 0, 0)) (cod_196 rfl) rfl rfl rfl ?_
  exact H
theorem e196 {m : Mm} {K : Int → Mm → Prop}  
  (H : X 196 4 [(1, 597), (0, 0), (0, 0)] [] m (qI K)) : TrI 196 [(1, 597)] m K := by
  exact w196_0  H
set_option maxRecDepth 100000 in
theorem w196_4 {m : Mm} {K : Int → Mm → Prop} (a1 : Int) (a2 : Int) 
  (H : (a2 < (m 597 23) → (0 ≤ (wr (48 + a2)) ∧ (wr (48 + a2)) < 1276) ∧ ((m 607 (wr (48 + a2))) = (-9) → X 196 4 [(1, 597), (0, ior a1 0), (0, wr (a2 + 1))] [] m (qI K)) ∧ (¬ (m 607 (wr (48 + a2))) = (-9) → X 196 4 [(1, 597), (0, ior a1 (ishl 1 a2)), (0, wr (a2 + 1))] [] m (qI K))) ∧ (¬ a2 < (m 597 23) → K a1 m)) : X 196 4 [(1, 597), (0, a1), (0, a2)] [] m (qI K) := by
  refine x_s (q := (.iload_n 2, 0, 0, 0)) (cod_196 rfl) rfl rfl rfl ?_
  refine x_s (q := (.aload_n 0, 0, 0, 0)) (cod_196 rfl) rfl rfl rfl ?_
  refine x_gf (kk := 23) (t := 0) (cod_196 rfl) sq_p_597 sq_l_597_23 rfl rfl ?_
  refine x_ic (p := ¬ a2 < (m 597 23)) (tgt := 41) (cod_196 rfl) (by decide) xn_ge (fun h => ?_) (fun h => ?_)
  · have H1 := H.2 h
    refine x_s (q := (.iload_n 1, 0, 0, 0)) (cod_196 rfl) rfl rfl rfl ?_
    refine x_retI (t := .int) (cod_196 rfl) rfl rfl rfl ?_
    exact H1
  · have H2 := H.1 (Classical.not_not.mp h)
    refine x_s (q := (.iload_n 1, 0, 0, 0)) (cod_196 rfl) rfl rfl rfl ?_
    refine x_s (q := (.aload_n 0, 0, 0, 0)) (cod_196 rfl) rfl rfl rfl ?_
    refine x_s (q := (.bipush 48, 0, 0, 0)) (cod_196 rfl) rfl rfl rfl ?_
    refine x_s (q := (.iload_n 2, 0, 0, 0)) (cod_196 rfl) rfl rfl rfl ?_
    refine x_s (q := (.iadd, 0, 0, 0)) (cod_196 rfl) rfl rfl rfl ?_
    refine x_call (as := [(1, 597), (0, wr (48 + a2))]) (rest := [(0, a1)]) (cod_196 rfl) rfl rfl (by decide) (by decide) rfl rfl (Nat.le_of_ble_eq_true rfl) (rcv0 sq_l_597_0 sq_p_597 (by decide)) (Nat.le_of_ble_eq_true rfl) ?_
    show X 197 0 [(1, 597), (0, wr (48 + a2))] [] m _
    refine x_s (q := (.aload_n 0, 0, 0, 0)) (cod_197 rfl) rfl rfl rfl ?_
    refine x_gc (kk := 24) (c := 607) (t := 1) (cod_197 rfl) sq_p_597 sq_l_597_24 rfl rfl ?_
    refine x_s (q := (.iload_n 1, 0, 0, 0)) (cod_197 rfl) rfl rfl rfl ?_
    obtain ⟨c3, H4⟩ := H2
    refine x_iald (cod_197 rfl) sq_a_607.s (sq_a_607.k c3.1 c3.2) ?_
    refine x_rI (t := .int) (cod_197 rfl) rfl rfl rfl ?_
    show X 196 21 [(1, 597), (0, a1), (0, a2)] [(0, m 607 (wr (48 + a2))), (0, a1)] m _
    refine x_s (q := (.bipush (-9), 0, 0, 0)) (cod_196 rfl) rfl rfl rfl ?_
    refine x_ic (p := ¬ (m 607 (wr (48 + a2))) = (-9)) (tgt := 30) (cod_196 rfl) (by decide) xj_ne (fun h => ?_) (fun h => ?_)
    · have H5 := H4.2 h
      refine x_s (q := (.iconst 1, 0, 0, 0)) (cod_196 rfl) rfl rfl rfl ?_
      refine x_s (q := (.iload_n 2, 0, 0, 0)) (cod_196 rfl) rfl rfl rfl ?_
      refine x_s (q := (.ishl, 0, 0, 0)) (cod_196 rfl) rfl rfl rfl ?_
      show X 196 33 [(1, 597), (0, a1), (0, a2)] [(0, ishl 1 a2), (0, a1)] m _
      refine x_s (q := (.ior, 0, 0, 0)) (cod_196 rfl) rfl rfl rfl ?_
      show X 196 34 [(1, 597), (0, a1), (0, a2)] [(0, ior a1 (ishl 1 a2))] m _
      refine x_s (q := (.istore_n 1, 0, 0, 0)) (cod_196 rfl) rfl rfl rfl ?_
      refine x_s (q := (.iinc 2 1, 0, 0, 0)) (cod_196 rfl) rfl rfl rfl ?_
      refine x_go (tgt := 4) (cod_196 rfl) (by decide) ?_
      exact H5
    · have H6 := H4.1 (Classical.not_not.mp h)
      refine x_s (q := (.iconst 0, 0, 0, 0)) (cod_196 rfl) rfl rfl rfl ?_
      refine x_go (tgt := 33) (cod_196 rfl) (by decide) ?_
      refine x_s (q := (.ior, 0, 0, 0)) (cod_196 rfl) rfl rfl rfl ?_
      show X 196 34 [(1, 597), (0, a1), (0, a2)] [(0, ior a1 0)] m _
      refine x_s (q := (.istore_n 1, 0, 0, 0)) (cod_196 rfl) rfl rfl rfl ?_
      refine x_s (q := (.iinc 2 1, 0, 0, 0)) (cod_196 rfl) rfl rfl rfl ?_
      refine x_go (tgt := 4) (cod_196 rfl) (by decide) ?_
      exact H6
set_option maxRecDepth 100000 in
theorem w198_0 {m : Mm} {K : Int → Mm → Prop} (a0 : Int) 
  (H : X 198 4 [(0, a0), (0, 0), (0, 0)] [] m (qI K)) : X 198 0 [(0, a0), (9, 0), (9, 0)] [] m (qI K) := by
  refine x_s (q := (.iconst 0, 0, 0, 0)) (cod_198 rfl) rfl rfl rfl ?_
  refine x_s (q := (.istore_n 1, 0, 0, 0)) (cod_198 rfl) rfl rfl rfl ?_
  refine x_s (q := (.iconst 0, 0, 0, 0)) (cod_198 rfl) rfl rfl rfl ?_
  refine x_s (q := (.istore_n 2, 0, 0, 0)) (cod_198 rfl) rfl rfl rfl ?_
  exact H
theorem e198 {m : Mm} {K : Int → Mm → Prop} (a0 : Int) 
  (H : X 198 4 [(0, a0), (0, 0), (0, 0)] [] m (qI K)) : TrI 198 [(0, a0)] m K := by
  exact w198_0 a0 H
set_option maxRecDepth 100000 in
theorem w198_4 {m : Mm} {K : Int → Mm → Prop} (a0 : Int) (a1 : Int) (a2 : Int) 
  (H : (a2 < 31 → X 198 4 [(0, a0), (0, wr (a1 + (iand (ishr a0 a2) 1))), (0, wr (a2 + 1))] [] m (qI K)) ∧ (¬ a2 < 31 → K a1 m)) : X 198 4 [(0, a0), (0, a1), (0, a2)] [] m (qI K) := by
  refine x_s (q := (.iload_n 2, 0, 0, 0)) (cod_198 rfl) rfl rfl rfl ?_
  refine x_s (q := (.bipush 31, 0, 0, 0)) (cod_198 rfl) rfl rfl rfl ?_
  refine x_ic (p := ¬ a2 < 31) (tgt := 24) (cod_198 rfl) (by decide) xn_ge (fun h => ?_) (fun h => ?_)
  · have H1 := H.2 h
    refine x_s (q := (.iload_n 1, 0, 0, 0)) (cod_198 rfl) rfl rfl rfl ?_
    refine x_retI (t := .int) (cod_198 rfl) rfl rfl rfl ?_
    exact H1
  · have H2 := H.1 (Classical.not_not.mp h)
    refine x_s (q := (.iload_n 1, 0, 0, 0)) (cod_198 rfl) rfl rfl rfl ?_
    refine x_s (q := (.iload_n 0, 0, 0, 0)) (cod_198 rfl) rfl rfl rfl ?_
    refine x_s (q := (.iload_n 2, 0, 0, 0)) (cod_198 rfl) rfl rfl rfl ?_
    refine x_s (q := (.ishr, 0, 0, 0)) (cod_198 rfl) rfl rfl rfl ?_
    show X 198 14 [(0, a0), (0, a1), (0, a2)] [(0, ishr a0 a2), (0, a1)] m _
    refine x_s (q := (.iconst 1, 0, 0, 0)) (cod_198 rfl) rfl rfl rfl ?_
    refine x_s (q := (.iand, 0, 0, 0)) (cod_198 rfl) rfl rfl rfl ?_
    show X 198 16 [(0, a0), (0, a1), (0, a2)] [(0, iand (ishr a0 a2) 1), (0, a1)] m _
    refine x_s (q := (.iadd, 0, 0, 0)) (cod_198 rfl) rfl rfl rfl ?_
    refine x_s (q := (.istore_n 1, 0, 0, 0)) (cod_198 rfl) rfl rfl rfl ?_
    refine x_s (q := (.iinc 2 1, 0, 0, 0)) (cod_198 rfl) rfl rfl rfl ?_
    refine x_go (tgt := 4) (cod_198 rfl) (by decide) ?_
    exact H2
