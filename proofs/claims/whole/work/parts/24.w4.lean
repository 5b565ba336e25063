/-! rules of small methods, fourth: printed by wip/whole/l2.py -/
theorem sq_l_597_27 : slot 597 27 = some none := by decide +kernel
theorem sq_l_597_19 : slot 597 19 = some (some 603) := by decide +kernel
theorem sq_a_603 : isA 603 0 100 := ⟨by decide, by decide +kernel⟩
theorem sq_l_597_20 : slot 597 20 = some (some 604) := by decide +kernel
theorem sq_a_604 : isA 604 0 10 := ⟨by decide, by decide +kernel⟩
theorem sq_p_370 : shp 370 = 23 := by decide +kernel
theorem sq_l_370_4 : slot 370 4 = some (some 373) := by decide +kernel
theorem sq_a_373 : isA 373 8 24 := ⟨by decide, by decide +kernel⟩
theorem sq_c_7_1 {x : Int} (h : shp x = 27) : slot x 1 = some none := (by decide +kernel : ∀ x ∈ cl_27, slot x 1 = some none) x (in_27 h)
theorem sq_l_370_10 : slot 370 10 = some none := by decide +kernel
theorem sq_c_7_5 {x : Int} (h : shp x = 27) : slot x 5 = some none := (by decide +kernel : ∀ x ∈ cl_27, slot x 5 = some none) x (in_27 h)
theorem sq_c_10_1 {x : Int} (h : shp x = 30) : slot x 1 = some (some (x + 2)) := (by decide +kernel : ∀ x ∈ cl_30, slot x 1 = some (some (x + 2))) x (in_30 h)
theorem sq_oa_10_1 {x j : Int} (h : shp x = 30) (h0 : 0 ≤ j) (h1 : j < 24) : slot (x + 2) j = some (some (x + 54 + 2 * j)) ∧ shp (x + 2) = 4 ∧ shp (x + 54 + 2 * j) = 21 := by
  obtain ⟨k, rfl⟩ := Int.eq_ofNat_of_zero_le h0
  exact (by decide +kernel : ∀ x ∈ cl_30, ∀ k : Nat, k < 24 → slot (x + 2) (k : Int) = some (some (x + 54 + 2 * (k : Int))) ∧ shp (x + 2) = 4 ∧ shp (x + 54 + 2 * (k : Int)) = 21) x (in_30 h) k (by omega)
theorem sq_c_1_2 {x : Int} (h : shp x = 21) : slot x 2 = some none := (by decide +kernel : ∀ x ∈ cl_21, slot x 2 = some none) x (in_21 h)
theorem sq_c_10_2 {x : Int} (h : shp x = 30) : slot x 2 = some (some (x + 3)) := (by decide +kernel : ∀ x ∈ cl_30, slot x 2 = some (some (x + 3))) x (in_30 h)
theorem sq_ac_10_2 {x : Int} (h : shp x = 30) : isA (x + 3) 2 25 := (by decide +kernel : ∀ x ∈ cl_30, isA (x + 3) 2 25) x (in_30 h)
theorem sq_c_10_4 {x : Int} (h : shp x = 30) : slot x 4 = some (some (x + 5)) := (by decide +kernel : ∀ x ∈ cl_30, slot x 4 = some (some (x + 5))) x (in_30 h)
theorem sq_ac_10_4 {x : Int} (h : shp x = 30) : isA (x + 5) 0 25 := (by decide +kernel : ∀ x ∈ cl_30, isA (x + 5) 0 25) x (in_30 h)
theorem sq_c_1_3 {x : Int} (h : shp x = 21) : slot x 3 = some none := (by decide +kernel : ∀ x ∈ cl_21, slot x 3 = some none) x (in_21 h)
theorem sq_c_0_6 {x : Int} (h : shp x = 20) : slot x 6 = some (some (x + 27)) := (by decide +kernel : ∀ x ∈ cl_20, slot x 6 = some (some (x + 27))) x (in_20 h)
theorem sq_ac_0_6 {x : Int} (h : shp x = 20) : isA (x + 27) 0 10 := (by decide +kernel : ∀ x ∈ cl_20, isA (x + 27) 0 10) x (in_20 h)
theorem sq_c_0_7 {x : Int} (h : shp x = 20) : slot x 7 = some (some (x + 28)) := (by decide +kernel : ∀ x ∈ cl_20, slot x 7 = some (some (x + 28))) x (in_20 h)
theorem sq_roc_0_7 {x j : Int} (h : shp x = 20) (h0 : 0 ≤ j) (h1 : j < 10) : slot (x + 28) j = some (some (x + 29 + j)) ∧ shp (x + 28) = 6 := by
  obtain ⟨k, rfl⟩ := Int.eq_ofNat_of_zero_le h0
  exact (by decide +kernel : ∀ x ∈ cl_20, ∀ k : Nat, k < 10 → slot (x + 28) (k : Int) = some (some (x + 29 + (k : Int))) ∧ shp (x + 28) = 6) x (in_20 h) k (by omega)
theorem sq_rwc_0_7 {x j : Int} (h : shp x = 20) (h0 : 0 ≤ j) (h1 : j < 10) : isA (x + 29 + j) 0 24 := by
  obtain ⟨k, rfl⟩ := Int.eq_ofNat_of_zero_le h0
  exact (by decide +kernel : ∀ x ∈ cl_20, ∀ k : Nat, k < 10 → isA (x + 29 + (k : Int)) 0 24) x (in_20 h) k (by omega)
set_option maxRecDepth 100000 in
theorem w215_0 {m : Mm} {K : Int → Mm → Prop} (a1 : Int) (a2 : Int) (a3 : Int) (a4 : Int) 
  (H : (a1 = (m 597 27) → K 0 m) ∧ (¬ a1 = (m 597 27) → (0 ≤ (wr ((wr (10 * a3)) + a4)) ∧ (wr ((wr (10 * a3)) + a4)) < 100) ∧ (m 597 16 = 0 ∧ 0 ≤ (wr (11 * a1)) ∧ (wr (11 * a1)) < 1166) ∧ ((m 603 (wr ((wr (10 * a3)) + a4))) = (wr (32 + (m 602 (wr (11 * a1))))) → v_M m a1 ∧ ((fbB (m 602 (11 * a1 + 2)) a2 = true) → (m 597 16 = 0 ∧ 0 ≤ (wr ((wr (11 * a1)) + 3)) ∧ (wr ((wr (11 * a1)) + 3)) < 1166) ∧ (0 ≤ a3 ∧ a3 < 10) ∧ ((wr (a4 + 1)) < (m 604 a3) → (0 ≤ (wr ((wr ((wr (10 * a3)) + a4)) + 1)) ∧ (wr ((wr ((wr (10 * a3)) + a4)) + 1)) < 100) ∧ (-1000 < (m 602 (wr ((wr (11 * a1)) + 3))) ∧ (m 602 (wr ((wr (11 * a1)) + 3))) < 1000) ∧ K (bi (letB (m 602 (wr ((wr (11 * a1)) + 3))) (m 603 (wr ((wr ((wr (10 * a3)) + a4)) + 1))) = true)) m) ∧ (¬ (wr (a4 + 1)) < (m 604 a3) → (-1000 < (m 602 (wr ((wr (11 * a1)) + 3))) ∧ (m 602 (wr ((wr (11 * a1)) + 3))) < 1000) ∧ K (bi (letB (m 602 (wr ((wr (11 * a1)) + 3))) (-1) = true)) m)) ∧ (¬ (fbB (m 602 (11 * a1 + 2)) a2 = true) → K 0 m)) ∧ (¬ (m 603 (wr ((wr (10 * a3)) + a4))) = (wr (32 + (m 602 (wr (11 * a1))))) → K 0 m))) : X 215 0 [(1, 597), (0, a1), (0, a2), (0, a3), (0, a4)] [] m (qI K) := by
  refine x_s (q := (.iload_n 1, 0, 0, 0)) (cod_215 rfl) rfl rfl rfl ?_
  refine x_s (q := (.aload_n 0, 0, 0, 0)) (cod_215 rfl) rfl rfl rfl ?_
  refine x_gf (kk := 27) (t := 0) (cod_215 rfl) sq_p_597 sq_l_597_27 rfl rfl ?_
  refine x_ic (p := a1 = (m 597 27)) (tgt := 43) (cod_215 rfl) (by decide) xj_eq (fun h => ?_) (fun h => ?_)
  · have H1 := H.1 h
    refine x_s (q := (.iconst 0, 0, 0, 0)) (cod_215 rfl) rfl rfl rfl ?_
    refine x_retI (t := .boolean) (cod_215 rfl) rfl rfl rfl ?_
    exact H1
  · have H2 := H.2 h
    refine x_s (q := (.aload_n 0, 0, 0, 0)) (cod_215 rfl) rfl rfl rfl ?_
    refine x_gc (kk := 19) (c := 603) (t := 1) (cod_215 rfl) sq_p_597 sq_l_597_19 rfl rfl ?_
    refine x_s (q := (.bipush 10, 0, 0, 0)) (cod_215 rfl) rfl rfl rfl ?_
    refine x_s (q := (.iload_n 3, 0, 0, 0)) (cod_215 rfl) rfl rfl rfl ?_
    refine x_s (q := (.imul, 0, 0, 0)) (cod_215 rfl) rfl rfl rfl ?_
    refine x_s (q := (.iload 4, 0, 0, 0)) (cod_215 rfl) rfl rfl rfl ?_
    refine x_s (q := (.iadd, 0, 0, 0)) (cod_215 rfl) rfl rfl rfl ?_
    obtain ⟨c3, H4⟩ := H2
    refine x_iald (cod_215 rfl) sq_a_603.s (sq_a_603.k c3.1 c3.2) ?_
    refine x_s (q := (.bipush 32, 0, 0, 0)) (cod_215 rfl) rfl rfl rfl ?_
    refine x_s (q := (.aload_n 0, 0, 0, 0)) (cod_215 rfl) rfl rfl rfl ?_
    refine x_s (q := (.bipush 11, 0, 0, 0)) (cod_215 rfl) rfl rfl rfl ?_
    refine x_s (q := (.iload_n 1, 0, 0, 0)) (cod_215 rfl) rfl rfl rfl ?_
    refine x_s (q := (.imul, 0, 0, 0)) (cod_215 rfl) rfl rfl rfl ?_
    obtain ⟨c5, H6⟩ := H4
    refine x_call (as := [(1, 597), (0, wr (11 * a1))]) (rest := [(0, 32), (0, m 603 (wr ((wr (10 * a3)) + a4)))]) (cod_215 rfl) rfl rfl (by decide) (by decide) rfl rfl (Nat.le_of_ble_eq_true rfl) (rcv0 sq_l_597_0 sq_p_597 (by decide)) (Nat.le_of_ble_eq_true rfl) ?_
    refine x_pure (p182ax c5) ?_
    show X 215 30 [(1, 597), (0, a1), (0, a2), (0, a3), (0, a4)] [(0, m 602 (wr (11 * a1))), (0, 32), (0, m 603 (wr ((wr (10 * a3)) + a4)))] m _
    refine x_s (q := (.iadd, 0, 0, 0)) (cod_215 rfl) rfl rfl rfl ?_
    refine x_ic (p := ¬ (m 603 (wr ((wr (10 * a3)) + a4))) = (wr (32 + (m 602 (wr (11 * a1)))))) (tgt := 43) (cod_215 rfl) (by decide) xj_ne (fun h => ?_) (fun h => ?_)
    · have H7 := H6.2 h
      refine x_s (q := (.iconst 0, 0, 0, 0)) (cod_215 rfl) rfl rfl rfl ?_
      refine x_retI (t := .boolean) (cod_215 rfl) rfl rfl rfl ?_
      exact H7
    · have H8 := H6.1 (Classical.not_not.mp h)
      refine x_s (q := (.aload_n 0, 0, 0, 0)) (cod_215 rfl) rfl rfl rfl ?_
      refine x_s (q := (.iload_n 1, 0, 0, 0)) (cod_215 rfl) rfl rfl rfl ?_
      refine x_s (q := (.iload_n 2, 0, 0, 0)) (cod_215 rfl) rfl rfl rfl ?_
      obtain ⟨c9, H10⟩ := H8
      refine x_call (as := [(1, 597), (0, a1), (0, a2)]) (rest := []) (cod_215 rfl) rfl rfl (by decide) (by decide) rfl rfl (Nat.le_of_ble_eq_true rfl) (rcv0 sq_l_597_0 sq_p_597 (by decide)) (Nat.le_of_ble_eq_true rfl) ?_
      refine x_pure (p216 c9) ?_
      show X 215 40 [(1, 597), (0, a1), (0, a2), (0, a3), (0, a4)] [(0, bi (fbB (m 602 (11 * a1 + 2)) a2 = true))] m _
      refine x_if (p := fbB (m 602 (11 * a1 + 2)) a2 = true) (tgt := 45) (cod_215 rfl) (by decide) xb_ne (fun h => ?_) (fun h => ?_)
      · have H11 := H10.1 h
        refine x_s (q := (.aload_n 0, 0, 0, 0)) (cod_215 rfl) rfl rfl rfl ?_
        refine x_s (q := (.bipush 11, 0, 0, 0)) (cod_215 rfl) rfl rfl rfl ?_
        refine x_s (q := (.iload_n 1, 0, 0, 0)) (cod_215 rfl) rfl rfl rfl ?_
        refine x_s (q := (.imul, 0, 0, 0)) (cod_215 rfl) rfl rfl rfl ?_
        refine x_s (q := (.iconst 3, 0, 0, 0)) (cod_215 rfl) rfl rfl rfl ?_
        refine x_s (q := (.iadd, 0, 0, 0)) (cod_215 rfl) rfl rfl rfl ?_
        obtain ⟨c13, H14⟩ := H11
        refine x_call (as := [(1, 597), (0, wr ((wr (11 * a1)) + 3))]) (rest := []) (cod_215 rfl) rfl rfl (by decide) (by decide) rfl rfl (Nat.le_of_ble_eq_true rfl) (rcv0 sq_l_597_0 sq_p_597 (by decide)) (Nat.le_of_ble_eq_true rfl) ?_
        refine x_pure (p182ax c13) ?_
        show X 215 55 [(1, 597), (0, a1), (0, a2), (0, a3), (0, a4)] [(0, m 602 (wr ((wr (11 * a1)) + 3)))] m _
        refine x_s (q := (.iload 4, 0, 0, 0)) (cod_215 rfl) rfl rfl rfl ?_
        refine x_s (q := (.iconst 1, 0, 0, 0)) (cod_215 rfl) rfl rfl rfl ?_
        refine x_s (q := (.iadd, 0, 0, 0)) (cod_215 rfl) rfl rfl rfl ?_
        refine x_s (q := (.aload_n 0, 0, 0, 0)) (cod_215 rfl) rfl rfl rfl ?_
        refine x_gc (kk := 20) (c := 604) (t := 1) (cod_215 rfl) sq_p_597 sq_l_597_20 rfl rfl ?_
        refine x_s (q := (.iload_n 3, 0, 0, 0)) (cod_215 rfl) rfl rfl rfl ?_
        obtain ⟨c15, H16⟩ := H14
        refine x_iald (cod_215 rfl) sq_a_604.s (sq_a_604.k c15.1 c15.2) ?_
        refine x_ic (p := ¬ (wr (a4 + 1)) < (m 604 a3)) (tgt := 85) (cod_215 rfl) (by decide) xn_ge (fun h => ?_) (fun h => ?_)
        · have H17 := H16.2 h
          refine x_s (q := (.iconst (-1), 0, 0, 0)) (cod_215 rfl) rfl rfl rfl ?_
          obtain ⟨c19, H20⟩ := H17
          refine x_call (as := [(0, m 602 (wr ((wr (11 * a1)) + 3))), (0, (-1))]) (rest := []) (cod_215 rfl) rfl rfl (by decide) (by decide) rfl rfl (Nat.le_of_ble_eq_true rfl) rfl (Nat.le_of_ble_eq_true rfl) ?_
          refine x_pure (p219 c19) ?_
          show X 215 89 [(1, 597), (0, a1), (0, a2), (0, a3), (0, a4)] [(0, bi (letB (m 602 (wr ((wr (11 * a1)) + 3))) (-1) = true))] m _
          refine x_retI (t := .boolean) (cod_215 rfl) rfl rfl (bok_b (bi_01 _)) ?_
          exact H20
        · have H18 := H16.1 (Classical.not_not.mp h)
          refine x_s (q := (.aload_n 0, 0, 0, 0)) (cod_215 rfl) rfl rfl rfl ?_
          refine x_gc (kk := 19) (c := 603) (t := 1) (cod_215 rfl) sq_p_597 sq_l_597_19 rfl rfl ?_
          refine x_s (q := (.bipush 10, 0, 0, 0)) (cod_215 rfl) rfl rfl rfl ?_
          refine x_s (q := (.iload_n 3, 0, 0, 0)) (cod_215 rfl) rfl rfl rfl ?_
          refine x_s (q := (.imul, 0, 0, 0)) (cod_215 rfl) rfl rfl rfl ?_
          refine x_s (q := (.iload 4, 0, 0, 0)) (cod_215 rfl) rfl rfl rfl ?_
          refine x_s (q := (.iadd, 0, 0, 0)) (cod_215 rfl) rfl rfl rfl ?_
          refine x_s (q := (.iconst 1, 0, 0, 0)) (cod_215 rfl) rfl rfl rfl ?_
          refine x_s (q := (.iadd, 0, 0, 0)) (cod_215 rfl) rfl rfl rfl ?_
          obtain ⟨c21, H22⟩ := H18
          refine x_iald (cod_215 rfl) sq_a_603.s (sq_a_603.k c21.1 c21.2) ?_
          refine x_go (tgt := 86) (cod_215 rfl) (by decide) ?_
          obtain ⟨c23, H24⟩ := H22
          refine x_call (as := [(0, m 602 (wr ((wr (11 * a1)) + 3))), (0, m 603 (wr ((wr ((wr (10 * a3)) + a4)) + 1)))]) (rest := []) (cod_215 rfl) rfl rfl (by decide) (by decide) rfl rfl (Nat.le_of_ble_eq_true rfl) rfl (Nat.le_of_ble_eq_true rfl) ?_
          refine x_pure (p219 c23) ?_
          show X 215 89 [(1, 597), (0, a1), (0, a2), (0, a3), (0, a4)] [(0, bi (letB (m 602 (wr ((wr (11 * a1)) + 3))) (m 603 (wr ((wr ((wr (10 * a3)) + a4)) + 1))) = true))] m _
          refine x_retI (t := .boolean) (cod_215 rfl) rfl rfl (bok_b (bi_01 _)) ?_
          exact H24
      · have H12 := H10.2 h
        refine x_s (q := (.iconst 0, 0, 0, 0)) (cod_215 rfl) rfl rfl rfl ?_
        refine x_retI (t := .boolean) (cod_215 rfl) rfl rfl rfl ?_
        exact H12
theorem e215 {m : Mm} {K : Int → Mm → Prop} (a1 : Int) (a2 : Int) (a3 : Int) (a4 : Int) 
  (H : (a1 = (m 597 27) → K 0 m) ∧ (¬ a1 = (m 597 27) → (0 ≤ (wr ((wr (10 * a3)) + a4)) ∧ (wr ((wr (10 * a3)) + a4)) < 100) ∧ (m 597 16 = 0 ∧ 0 ≤ (wr (11 * a1)) ∧ (wr (11 * a1)) < 1166) ∧ ((m 603 (wr ((wr (10 * a3)) + a4))) = (wr (32 + (m 602 (wr (11 * a1))))) → v_M m a1 ∧ ((fbB (m 602 (11 * a1 + 2)) a2 = true) → (m 597 16 = 0 ∧ 0 ≤ (wr ((wr (11 * a1)) + 3)) ∧ (wr ((wr (11 * a1)) + 3)) < 1166) ∧ (0 ≤ a3 ∧ a3 < 10) ∧ ((wr (a4 + 1)) < (m 604 a3) → (0 ≤ (wr ((wr ((wr (10 * a3)) + a4)) + 1)) ∧ (wr ((wr ((wr (10 * a3)) + a4)) + 1)) < 100) ∧ (-1000 < (m 602 (wr ((wr (11 * a1)) + 3))) ∧ (m 602 (wr ((wr (11 * a1)) + 3))) < 1000) ∧ K (bi (letB (m 602 (wr ((wr (11 * a1)) + 3))) (m 603 (wr ((wr ((wr (10 * a3)) + a4)) + 1))) = true)) m) ∧ (¬ (wr (a4 + 1)) < (m 604 a3) → (-1000 < (m 602 (wr ((wr (11 * a1)) + 3))) ∧ (m 602 (wr ((wr (11 * a1)) + 3))) < 1000) ∧ K (bi (letB (m 602 (wr ((wr (11 * a1)) + 3))) (-1) = true)) m)) ∧ (¬ (fbB (m 602 (11 * a1 + 2)) a2 = true) → K 0 m)) ∧ (¬ (m 603 (wr ((wr (10 * a3)) + a4))) = (wr (32 + (m 602 (wr (11 * a1))))) → K 0 m))) : TrI 215 [(1, 597), (0, a1), (0, a2), (0, a3), (0, a4)] m K := by
  exact w215_0 a1 a2 a3 a4 H
set_option maxRecDepth 100000 in
theorem w231_0 {m : Mm} {K : Int → Mm → Prop} (a1 : Int) (a2 : Int) (a3 : Int) 
  (H : (m 597 16 = 0 ∧ 0 ≤ (wr ((wr (11 * a1)) + 1)) ∧ (wr ((wr (11 * a1)) + 1)) < 1166) ∧ (m 597 16 = 0 ∧ 0 ≤ (wr (264 + (wr (11 * a2)))) ∧ (wr (264 + (wr (11 * a2)))) < 1166) ∧ ((wr (a3 + (m 602 (wr ((wr (11 * a1)) + 1))))) > (m 602 (wr (264 + (wr (11 * a2))))) → K (-1) m) ∧ (¬ (wr (a3 + (m 602 (wr ((wr (11 * a1)) + 1))))) > (m 602 (wr (264 + (wr (11 * a2))))) → X 231 36 [(1, 597), (0, a1), (0, a2), (0, a3), (0, m 602 (wr ((wr (11 * a1)) + 1))), (0, 0)] [] m (qI K))) : X 231 0 [(1, 597), (0, a1), (0, a2), (0, a3), (9, 0), (9, 0)] [] m (qI K) := by
  refine x_s (q := (.aload_n 0, 0, 0, 0)) (cod_231 rfl) rfl rfl rfl ?_
  refine x_s (q := (.bipush 11, 0, 0, 0)) (cod_231 rfl) rfl rfl rfl ?_
  refine x_s (q := (.iload_n 1, 0, 0, 0)) (cod_231 rfl) rfl rfl rfl ?_
  refine x_s (q := (.imul, 0, 0, 0)) (cod_231 rfl) rfl rfl rfl ?_
  refine x_s (q := (.iconst 1, 0, 0, 0)) (cod_231 rfl) rfl rfl rfl ?_
  refine x_s (q := (.iadd, 0, 0, 0)) (cod_231 rfl) rfl rfl rfl ?_
  obtain ⟨c1, H2⟩ := H
  refine x_call (as := [(1, 597), (0, wr ((wr (11 * a1)) + 1))]) (rest := []) (cod_231 rfl) rfl rfl (by decide) (by decide) rfl rfl (Nat.le_of_ble_eq_true rfl) (rcv0 sq_l_597_0 sq_p_597 (by decide)) (Nat.le_of_ble_eq_true rfl) ?_
  refine x_pure (p182ax c1) ?_
  show X 231 10 [(1, 597), (0, a1), (0, a2), (0, a3), (9, 0), (9, 0)] [(0, m 602 (wr ((wr (11 * a1)) + 1)))] m _
  refine x_s (q := (.istore 4, 0, 0, 0)) (cod_231 rfl) rfl rfl rfl ?_
  refine x_s (q := (.iload_n 3, 0, 0, 0)) (cod_231 rfl) rfl rfl rfl ?_
  refine x_s (q := (.iload 4, 0, 0, 0)) (cod_231 rfl) rfl rfl rfl ?_
  refine x_s (q := (.iadd, 0, 0, 0)) (cod_231 rfl) rfl rfl rfl ?_
  refine x_s (q := (.aload_n 0, 0, 0, 0)) (cod_231 rfl) rfl rfl rfl ?_
  refine x_s (q := (.sipush 264, 0, 0, 0)) (cod_231 rfl) rfl rfl rfl ?_
  refine x_s (q := (.bipush 11, 0, 0, 0)) (cod_231 rfl) rfl rfl rfl ?_
  refine x_s (q := (.iload_n 2, 0, 0, 0)) (cod_231 rfl) rfl rfl rfl ?_
  refine x_s (q := (.imul, 0, 0, 0)) (cod_231 rfl) rfl rfl rfl ?_
  refine x_s (q := (.iadd, 0, 0, 0)) (cod_231 rfl) rfl rfl rfl ?_
  obtain ⟨c3, H4⟩ := H2
  refine x_call (as := [(1, 597), (0, wr (264 + (wr (11 * a2))))]) (rest := [(0, wr (a3 + (m 602 (wr ((wr (11 * a1)) + 1)))))]) (cod_231 rfl) rfl rfl (by decide) (by decide) rfl rfl (Nat.le_of_ble_eq_true rfl) (rcv0 sq_l_597_0 sq_p_597 (by decide)) (Nat.le_of_ble_eq_true rfl) ?_
  refine x_pure (p182ax c3) ?_
  show X 231 28 [(1, 597), (0, a1), (0, a2), (0, a3), (0, m 602 (wr ((wr (11 * a1)) + 1))), (9, 0)] [(0, m 602 (wr (264 + (wr (11 * a2))))), (0, wr (a3 + (m 602 (wr ((wr (11 * a1)) + 1)))))] m _
  refine x_ic (p := ¬ (wr (a3 + (m 602 (wr ((wr (11 * a1)) + 1))))) > (m 602 (wr (264 + (wr (11 * a2)))))) (tgt := 33) (cod_231 rfl) (by decide) xn_le (fun h => ?_) (fun h => ?_)
  · have H5 := H4.2 h
    refine x_s (q := (.iconst 0, 0, 0, 0)) (cod_231 rfl) rfl rfl rfl ?_
    refine x_s (q := (.istore 5, 0, 0, 0)) (cod_231 rfl) rfl rfl rfl ?_
    exact H5
  · have H6 := H4.1 (Classical.not_not.mp h)
    refine x_s (q := (.iconst (-1), 0, 0, 0)) (cod_231 rfl) rfl rfl rfl ?_
    refine x_retI (t := .int) (cod_231 rfl) rfl rfl rfl ?_
    exact H6
theorem e231 {m : Mm} {K : Int → Mm → Prop} (a1 : Int) (a2 : Int) (a3 : Int) 
  (H : (m 597 16 = 0 ∧ 0 ≤ (wr ((wr (11 * a1)) + 1)) ∧ (wr ((wr (11 * a1)) + 1)) < 1166) ∧ (m 597 16 = 0 ∧ 0 ≤ (wr (264 + (wr (11 * a2)))) ∧ (wr (264 + (wr (11 * a2)))) < 1166) ∧ ((wr (a3 + (m 602 (wr ((wr (11 * a1)) + 1))))) > (m 602 (wr (264 + (wr (11 * a2))))) → K (-1) m) ∧ (¬ (wr (a3 + (m 602 (wr ((wr (11 * a1)) + 1))))) > (m 602 (wr (264 + (wr (11 * a2))))) → X 231 36 [(1, 597), (0, a1), (0, a2), (0, a3), (0, m 602 (wr ((wr (11 * a1)) + 1))), (0, 0)] [] m (qI K))) : TrI 231 [(1, 597), (0, a1), (0, a2), (0, a3)] m K := by
  exact w231_0 a1 a2 a3 H
set_option maxRecDepth 100000 in
theorem w231_36 {m : Mm} {K : Int → Mm → Prop} (a1 : Int) (a2 : Int) (a3 : Int) (a4 : Int) (a5 : Int) 
  (H : (a5 < a4 → (m 597 16 = 0 ∧ 0 ≤ (wr ((wr ((wr (11 * a1)) + 5)) + a5)) ∧ (wr ((wr ((wr (11 * a1)) + 5)) + a5)) < 1166) ∧ (m 597 16 = 0 ∧ 0 ≤ (wr ((wr ((wr (264 + (wr (11 * a2)))) + 3)) + (wr (a3 + a5)))) ∧ (wr ((wr ((wr (264 + (wr (11 * a2)))) + 3)) + (wr (a3 + a5)))) < 1166) ∧ ((m 602 (wr ((wr ((wr (11 * a1)) + 5)) + a5))) = (m 602 (wr ((wr ((wr (264 + (wr (11 * a2)))) + 3)) + (wr (a3 + a5))))) → X 231 36 [(1, 597), (0, a1), (0, a2), (0, a3), (0, a4), (0, wr (a5 + 1))] [] m (qI K)) ∧ (¬ (m 602 (wr ((wr ((wr (11 * a1)) + 5)) + a5))) = (m 602 (wr ((wr ((wr (264 + (wr (11 * a2)))) + 3)) + (wr (a3 + a5))))) → K (-1) m)) ∧ (¬ a5 < a4 → K (wr (a3 + a4)) m)) : X 231 36 [(1, 597), (0, a1), (0, a2), (0, a3), (0, a4), (0, a5)] [] m (qI K) := by
  refine x_s (q := (.iload 5, 0, 0, 0)) (cod_231 rfl) rfl rfl rfl ?_
  refine x_s (q := (.iload 4, 0, 0, 0)) (cod_231 rfl) rfl rfl rfl ?_
  refine x_ic (p := ¬ a5 < a4) (tgt := 70) (cod_231 rfl) (by decide) xn_ge (fun h => ?_) (fun h => ?_)
  · have H1 := H.2 h
    refine x_s (q := (.iload_n 3, 0, 0, 0)) (cod_231 rfl) rfl rfl rfl ?_
    refine x_s (q := (.iload 4, 0, 0, 0)) (cod_231 rfl) rfl rfl rfl ?_
    refine x_s (q := (.iadd, 0, 0, 0)) (cod_231 rfl) rfl rfl rfl ?_
    refine x_retI (t := .int) (cod_231 rfl) rfl rfl rfl ?_
    exact H1
  · have H2 := H.1 (Classical.not_not.mp h)
    refine x_s (q := (.aload_n 0, 0, 0, 0)) (cod_231 rfl) rfl rfl rfl ?_
    refine x_s (q := (.iload_n 1, 0, 0, 0)) (cod_231 rfl) rfl rfl rfl ?_
    refine x_s (q := (.iload 5, 0, 0, 0)) (cod_231 rfl) rfl rfl rfl ?_
    refine x_call (as := [(1, 597), (0, a1), (0, a5)]) (rest := []) (cod_231 rfl) rfl rfl (by decide) (by decide) rfl rfl (Nat.le_of_ble_eq_true rfl) (rcv0 sq_l_597_0 sq_p_597 (by decide)) (Nat.le_of_ble_eq_true rfl) ?_
    show X 207 0 [(1, 597), (0, a1), (0, a5)] [] m _
    refine x_s (q := (.aload_n 0, 0, 0, 0)) (cod_207 rfl) rfl rfl rfl ?_
    refine x_s (q := (.bipush 11, 0, 0, 0)) (cod_207 rfl) rfl rfl rfl ?_
    refine x_s (q := (.iload_n 1, 0, 0, 0)) (cod_207 rfl) rfl rfl rfl ?_
    refine x_s (q := (.imul, 0, 0, 0)) (cod_207 rfl) rfl rfl rfl ?_
    refine x_s (q := (.iconst 5, 0, 0, 0)) (cod_207 rfl) rfl rfl rfl ?_
    refine x_s (q := (.iadd, 0, 0, 0)) (cod_207 rfl) rfl rfl rfl ?_
    refine x_s (q := (.iload_n 2, 0, 0, 0)) (cod_207 rfl) rfl rfl rfl ?_
    refine x_s (q := (.iadd, 0, 0, 0)) (cod_207 rfl) rfl rfl rfl ?_
    obtain ⟨c3, H4⟩ := H2
    refine x_call (as := [(1, 597), (0, wr ((wr ((wr (11 * a1)) + 5)) + a5))]) (rest := []) (cod_207 rfl) rfl rfl (by decide) (by decide) rfl rfl (Nat.le_of_ble_eq_true rfl) (rcv0 sq_l_597_0 sq_p_597 (by decide)) (Nat.le_of_ble_eq_true rfl) ?_
    refine x_pure (p182ax c3) ?_
    show X 207 12 [(1, 597), (0, a1), (0, a5)] [(0, m 602 (wr ((wr ((wr (11 * a1)) + 5)) + a5)))] m _
    refine x_rI (t := .int) (cod_207 rfl) rfl rfl rfl ?_
    show X 231 50 [(1, 597), (0, a1), (0, a2), (0, a3), (0, a4), (0, a5)] [(0, m 602 (wr ((wr ((wr (11 * a1)) + 5)) + a5)))] m _
    refine x_s (q := (.aload_n 0, 0, 0, 0)) (cod_231 rfl) rfl rfl rfl ?_
    refine x_s (q := (.iload_n 2, 0, 0, 0)) (cod_231 rfl) rfl rfl rfl ?_
    refine x_s (q := (.iload_n 3, 0, 0, 0)) (cod_231 rfl) rfl rfl rfl ?_
    refine x_s (q := (.iload 5, 0, 0, 0)) (cod_231 rfl) rfl rfl rfl ?_
    refine x_s (q := (.iadd, 0, 0, 0)) (cod_231 rfl) rfl rfl rfl ?_
    refine x_call (as := [(1, 597), (0, a2), (0, wr (a3 + a5))]) (rest := [(0, m 602 (wr ((wr ((wr (11 * a1)) + 5)) + a5)))]) (cod_231 rfl) rfl rfl (by decide) (by decide) rfl rfl (Nat.le_of_ble_eq_true rfl) (rcv0 sq_l_597_0 sq_p_597 (by decide)) (Nat.le_of_ble_eq_true rfl) ?_
    show X 208 0 [(1, 597), (0, a2), (0, wr (a3 + a5))] [] m _
    refine x_s (q := (.aload_n 0, 0, 0, 0)) (cod_208 rfl) rfl rfl rfl ?_
    refine x_s (q := (.sipush 264, 0, 0, 0)) (cod_208 rfl) rfl rfl rfl ?_
    refine x_s (q := (.bipush 11, 0, 0, 0)) (cod_208 rfl) rfl rfl rfl ?_
    refine x_s (q := (.iload_n 1, 0, 0, 0)) (cod_208 rfl) rfl rfl rfl ?_
    refine x_s (q := (.imul, 0, 0, 0)) (cod_208 rfl) rfl rfl rfl ?_
    refine x_s (q := (.iadd, 0, 0, 0)) (cod_208 rfl) rfl rfl rfl ?_
    refine x_s (q := (.iconst 3, 0, 0, 0)) (cod_208 rfl) rfl rfl rfl ?_
    refine x_s (q := (.iadd, 0, 0, 0)) (cod_208 rfl) rfl rfl rfl ?_
    refine x_s (q := (.iload_n 2, 0, 0, 0)) (cod_208 rfl) rfl rfl rfl ?_
    refine x_s (q := (.iadd, 0, 0, 0)) (cod_208 rfl) rfl rfl rfl ?_
    obtain ⟨c5, H6⟩ := H4
    refine x_call (as := [(1, 597), (0, wr ((wr ((wr (264 + (wr (11 * a2)))) + 3)) + (wr (a3 + a5))))]) (rest := []) (cod_208 rfl) rfl rfl (by decide) (by decide) rfl rfl (Nat.le_of_ble_eq_true rfl) (rcv0 sq_l_597_0 sq_p_597 (by decide)) (Nat.le_of_ble_eq_true rfl) ?_
    refine x_pure (p182ax c5) ?_
    show X 208 16 [(1, 597), (0, a2), (0, wr (a3 + a5))] [(0, m 602 (wr ((wr ((wr (264 + (wr (11 * a2)))) + 3)) + (wr (a3 + a5)))))] m _
    refine x_rI (t := .int) (cod_208 rfl) rfl rfl rfl ?_
    show X 231 59 [(1, 597), (0, a1), (0, a2), (0, a3), (0, a4), (0, a5)] [(0, m 602 (wr ((wr ((wr (264 + (wr (11 * a2)))) + 3)) + (wr (a3 + a5))))), (0, m 602 (wr ((wr ((wr (11 * a1)) + 5)) + a5)))] m _
    refine x_ic (p := (m 602 (wr ((wr ((wr (11 * a1)) + 5)) + a5))) = (m 602 (wr ((wr ((wr (264 + (wr (11 * a2)))) + 3)) + (wr (a3 + a5)))))) (tgt := 64) (cod_231 rfl) (by decide) xj_eq (fun h => ?_) (fun h => ?_)
    · have H7 := H6.1 h
      refine x_s (q := (.iinc 5 1, 0, 0, 0)) (cod_231 rfl) rfl rfl rfl ?_
      refine x_go (tgt := 36) (cod_231 rfl) (by decide) ?_
      exact H7
    · have H8 := H6.2 h
      refine x_s (q := (.iconst (-1), 0, 0, 0)) (cod_231 rfl) rfl rfl rfl ?_
      refine x_retI (t := .int) (cod_231 rfl) rfl rfl rfl ?_
      exact H8
set_option maxRecDepth 100000 in
theorem w94_0 {m : Mm} {K : Int → Mm → Prop} (a0 : Int) (a1 : Int) (a2 : Int) (ta0 : shp a0 = 27) (ta1 : shp a1 = 21)
  (H : ((wr (a2 + (m a0 2))) > (m a1 1) → K 0 m) ∧ (¬ (wr (a2 + (m a0 2))) > (m a1 1) → X 94 17 [(1, a0), (1, a1), (0, a2), (0, 0)] [] m (qI K))) : X 94 0 [(1, a0), (1, a1), (0, a2), (9, 0)] [] m (qI K) := by
  refine x_s (q := (.iload_n 2, 0, 0, 0)) (cod_94 rfl) rfl rfl rfl ?_
  refine x_aldn (cod_94 rfl) rfl (pos_of ta0 (by decide)) ?_
  refine x_gf (kk := 2) (t := 0) (cod_94 rfl) ta0 (sq_c_7_2 ta0) rfl rfl ?_
  refine x_s (q := (.iadd, 0, 0, 0)) (cod_94 rfl) rfl rfl rfl ?_
  refine x_aldn (cod_94 rfl) rfl (pos_of ta1 (by decide)) ?_
  refine x_gf (kk := 1) (t := 0) (cod_94 rfl) ta1 (sq_c_1_1 ta1) rfl rfl ?_
  refine x_ic (p := ¬ (wr (a2 + (m a0 2))) > (m a1 1)) (tgt := 15) (cod_94 rfl) (by decide) xn_le (fun h => ?_) (fun h => ?_)
  · have H1 := H.2 h
    refine x_s (q := (.iconst 0, 0, 0, 0)) (cod_94 rfl) rfl rfl rfl ?_
    refine x_s (q := (.istore_n 3, 0, 0, 0)) (cod_94 rfl) rfl rfl rfl ?_
    exact H1
  · have H2 := H.1 (Classical.not_not.mp h)
    refine x_s (q := (.iconst 0, 0, 0, 0)) (cod_94 rfl) rfl rfl rfl ?_
    refine x_retI (t := .boolean) (cod_94 rfl) rfl rfl rfl ?_
    exact H2
theorem e94 {m : Mm} {K : Int → Mm → Prop} (a0 : Int) (a1 : Int) (a2 : Int) (ta0 : shp a0 = 27) (ta1 : shp a1 = 21)
  (H : ((wr (a2 + (m a0 2))) > (m a1 1) → K 0 m) ∧ (¬ (wr (a2 + (m a0 2))) > (m a1 1) → X 94 17 [(1, a0), (1, a1), (0, a2), (0, 0)] [] m (qI K))) : TrI 94 [(1, a0), (1, a1), (0, a2)] m K := by
  exact w94_0 a0 a1 a2 ta0 ta1 H
set_option maxRecDepth 100000 in
theorem w94_17 {m : Mm} {K : Int → Mm → Prop} (a0 : Int) (a1 : Int) (a2 : Int) (a3 : Int) (ta0 : shp a0 = 27) (ta1 : shp a1 = 21)
  (H : (a3 < (m a0 2) → (0 ≤ a3 ∧ a3 < 6) ∧ (0 ≤ (wr (a2 + a3)) ∧ (wr (a2 + a3)) < 8) ∧ ((m (a0 + 1) a3) = (m (a1 + 1) (wr (a2 + a3))) → X 94 17 [(1, a0), (1, a1), (0, a2), (0, wr (a3 + 1))] [] m (qI K)) ∧ (¬ (m (a0 + 1) a3) = (m (a1 + 1) (wr (a2 + a3))) → K 0 m)) ∧ (¬ a3 < (m a0 2) → K 1 m)) : X 94 17 [(1, a0), (1, a1), (0, a2), (0, a3)] [] m (qI K) := by
  refine x_s (q := (.iload_n 3, 0, 0, 0)) (cod_94 rfl) rfl rfl rfl ?_
  refine x_aldn (cod_94 rfl) rfl (pos_of ta0 (by decide)) ?_
  refine x_gf (kk := 2) (t := 0) (cod_94 rfl) ta0 (sq_c_7_2 ta0) rfl rfl ?_
  refine x_ic (p := ¬ a3 < (m a0 2)) (tgt := 50) (cod_94 rfl) (by decide) xn_ge (fun h => ?_) (fun h => ?_)
  · have H1 := H.2 h
    refine x_s (q := (.iconst 1, 0, 0, 0)) (cod_94 rfl) rfl rfl rfl ?_
    refine x_retI (t := .boolean) (cod_94 rfl) rfl rfl rfl ?_
    exact H1
  · have H2 := H.1 (Classical.not_not.mp h)
    refine x_aldn (cod_94 rfl) rfl (pos_of ta0 (by decide)) ?_
    refine x_gc (kk := 0) (c := (a0 + 1)) (t := 1) (cod_94 rfl) ta0 (sq_c_7_0 ta0) rfl rfl ?_
    refine x_s (q := (.iload_n 3, 0, 0, 0)) (cod_94 rfl) rfl rfl rfl ?_
    obtain ⟨c3, H4⟩ := H2
    refine x_iald (cod_94 rfl) (sq_ac_7_0 ta0).s ((sq_ac_7_0 ta0).k c3.1 c3.2) ?_
    refine x_aldn (cod_94 rfl) rfl (pos_of ta1 (by decide)) ?_
    refine x_gc (kk := 0) (c := (a1 + 1)) (t := 1) (cod_94 rfl) ta1 (sq_c_1_0 ta1) rfl rfl ?_
    refine x_s (q := (.iload_n 2, 0, 0, 0)) (cod_94 rfl) rfl rfl rfl ?_
    refine x_s (q := (.iload_n 3, 0, 0, 0)) (cod_94 rfl) rfl rfl rfl ?_
    refine x_s (q := (.iadd, 0, 0, 0)) (cod_94 rfl) rfl rfl rfl ?_
    obtain ⟨c5, H6⟩ := H4
    refine x_iald (cod_94 rfl) (sq_ac_1_0 ta1).s ((sq_ac_1_0 ta1).k c5.1 c5.2) ?_
    refine x_ic (p := (m (a0 + 1) a3) = (m (a1 + 1) (wr (a2 + a3)))) (tgt := 44) (cod_94 rfl) (by decide) xj_eq (fun h => ?_) (fun h => ?_)
    · have H7 := H6.1 h
      refine x_s (q := (.iinc 3 1, 0, 0, 0)) (cod_94 rfl) rfl rfl rfl ?_
      refine x_go (tgt := 17) (cod_94 rfl) (by decide) ?_
      exact H7
    · have H8 := H6.2 h
      refine x_s (q := (.iconst 0, 0, 0, 0)) (cod_94 rfl) rfl rfl rfl ?_
      refine x_retI (t := .boolean) (cod_94 rfl) rfl rfl rfl ?_
      exact H8
set_option maxRecDepth 100000 in
theorem w83_0 {m : Mm} {K : Int → Mm → Prop} (a1 : Int) (a2 : Int) (a3 : Int) (a4 : Int) 
  (H : (0 ≤ a1 ∧ a1 < 24) ∧ shp (m 373 a1) = 27 ∧ ((m (m 373 a1) 1) = a2 → (a1 = (m 370 10) → K 0 m) ∧ (¬ a1 = (m 370 10) → ((iand (ishr (m (m 373 a1) 5) a3) 1) = 1 → ((iand (ishr (m (m 373 a1) 6) a4) 1) = 1 → K 1 m) ∧ (¬ (iand (ishr (m (m 373 a1) 6) a4) 1) = 1 → K 0 m)) ∧ (¬ (iand (ishr (m (m 373 a1) 5) a3) 1) = 1 → K 0 m))) ∧ (¬ (m (m 373 a1) 1) = a2 → K 0 m)) : X 83 0 [(1, 370), (0, a1), (0, a2), (0, a3), (0, a4), (9, 0)] [] m (qI K) := by
  refine x_s (q := (.aload_n 0, 0, 0, 0)) (cod_83 rfl) rfl rfl rfl ?_
  refine x_gc (kk := 4) (c := 373) (t := 1) (cod_83 rfl) sq_p_370 sq_l_370_4 rfl rfl ?_
  refine x_s (q := (.iload_n 1, 0, 0, 0)) (cod_83 rfl) rfl rfl rfl ?_
  obtain ⟨c1, H2⟩ := H
  refine x_aald (cod_83 rfl) (by rw [sq_a_373.s]; decide) (sq_a_373.k c1.1 c1.2) ?_
  obtain ⟨c3, H4⟩ := H2
  refine x_ast (ls' := [(1, 370), (0, a1), (0, a2), (0, a3), (0, a4), (1, (m 373 a1))]) (cod_83 rfl) (pos_of c3 (by decide)) rfl rfl ?_
  refine x_ald (cod_83 rfl) rfl (pos_of c3 (by decide)) ?_
  refine x_gf (kk := 1) (t := 0) (cod_83 rfl) c3 (sq_c_7_1 c3) rfl rfl ?_
  refine x_s (q := (.iload_n 2, 0, 0, 0)) (cod_83 rfl) rfl rfl rfl ?_
  refine x_ic (p := ¬ (m (m 373 a1) 1) = a2) (tgt := 56) (cod_83 rfl) (by decide) xj_ne (fun h => ?_) (fun h => ?_)
  · have H5 := H4.2 h
    refine x_s (q := (.iconst 0, 0, 0, 0)) (cod_83 rfl) rfl rfl rfl ?_
    refine x_retI (t := .boolean) (cod_83 rfl) rfl rfl rfl ?_
    exact H5
  · have H6 := H4.1 (Classical.not_not.mp h)
    refine x_s (q := (.iload_n 1, 0, 0, 0)) (cod_83 rfl) rfl rfl rfl ?_
    refine x_s (q := (.aload_n 0, 0, 0, 0)) (cod_83 rfl) rfl rfl rfl ?_
    refine x_gf (kk := 10) (t := 0) (cod_83 rfl) sq_p_370 sq_l_370_10 rfl rfl ?_
    refine x_ic (p := a1 = (m 370 10)) (tgt := 56) (cod_83 rfl) (by decide) xj_eq (fun h => ?_) (fun h => ?_)
    · have H7 := H6.1 h
      refine x_s (q := (.iconst 0, 0, 0, 0)) (cod_83 rfl) rfl rfl rfl ?_
      refine x_retI (t := .boolean) (cod_83 rfl) rfl rfl rfl ?_
      exact H7
    · have H8 := H6.2 h
      refine x_ald (cod_83 rfl) rfl (pos_of c3 (by decide)) ?_
      refine x_gf (kk := 5) (t := 0) (cod_83 rfl) c3 (sq_c_7_5 c3) rfl rfl ?_
      refine x_s (q := (.iload_n 3, 0, 0, 0)) (cod_83 rfl) rfl rfl rfl ?_
      refine x_s (q := (.ishr, 0, 0, 0)) (cod_83 rfl) rfl rfl rfl ?_
      refine x_s (q := (.iconst 1, 0, 0, 0)) (cod_83 rfl) rfl rfl rfl ?_
      refine x_s (q := (.iand, 0, 0, 0)) (cod_83 rfl) rfl rfl rfl ?_
      refine x_s (q := (.iconst 1, 0, 0, 0)) (cod_83 rfl) rfl rfl rfl ?_
      refine x_ic (p := ¬ (iand (ishr (m (m 373 a1) 5) a3) 1) = 1) (tgt := 56) (cod_83 rfl) (by decide) xj_ne (fun h => ?_) (fun h => ?_)
      · have H9 := H8.2 h
        refine x_s (q := (.iconst 0, 0, 0, 0)) (cod_83 rfl) rfl rfl rfl ?_
        refine x_retI (t := .boolean) (cod_83 rfl) rfl rfl rfl ?_
        exact H9
      · have H10 := H8.1 (Classical.not_not.mp h)
        refine x_ald (cod_83 rfl) rfl (pos_of c3 (by decide)) ?_
        refine x_gf (kk := 6) (t := 0) (cod_83 rfl) c3 (sq_c_7_6 c3) rfl rfl ?_
        refine x_s (q := (.iload 4, 0, 0, 0)) (cod_83 rfl) rfl rfl rfl ?_
        refine x_s (q := (.ishr, 0, 0, 0)) (cod_83 rfl) rfl rfl rfl ?_
        refine x_s (q := (.iconst 1, 0, 0, 0)) (cod_83 rfl) rfl rfl rfl ?_
        refine x_s (q := (.iand, 0, 0, 0)) (cod_83 rfl) rfl rfl rfl ?_
        refine x_s (q := (.iconst 1, 0, 0, 0)) (cod_83 rfl) rfl rfl rfl ?_
        refine x_ic (p := ¬ (iand (ishr (m (m 373 a1) 6) a4) 1) = 1) (tgt := 56) (cod_83 rfl) (by decide) xj_ne (fun h => ?_) (fun h => ?_)
        · have H11 := H10.2 h
          refine x_s (q := (.iconst 0, 0, 0, 0)) (cod_83 rfl) rfl rfl rfl ?_
          refine x_retI (t := .boolean) (cod_83 rfl) rfl rfl rfl ?_
          exact H11
        · have H12 := H10.1 (Classical.not_not.mp h)
          refine x_s (q := (.iconst 1, 0, 0, 0)) (cod_83 rfl) rfl rfl rfl ?_
          refine x_go (tgt := 57) (cod_83 rfl) (by decide) ?_
          refine x_retI (t := .boolean) (cod_83 rfl) rfl rfl rfl ?_
          exact H12
theorem e83 {m : Mm} {K : Int → Mm → Prop} (a1 : Int) (a2 : Int) (a3 : Int) (a4 : Int) 
  (H : (0 ≤ a1 ∧ a1 < 24) ∧ shp (m 373 a1) = 27 ∧ ((m (m 373 a1) 1) = a2 → (a1 = (m 370 10) → K 0 m) ∧ (¬ a1 = (m 370 10) → ((iand (ishr (m (m 373 a1) 5) a3) 1) = 1 → ((iand (ishr (m (m 373 a1) 6) a4) 1) = 1 → K 1 m) ∧ (¬ (iand (ishr (m (m 373 a1) 6) a4) 1) = 1 → K 0 m)) ∧ (¬ (iand (ishr (m (m 373 a1) 5) a3) 1) = 1 → K 0 m))) ∧ (¬ (m (m 373 a1) 1) = a2 → K 0 m)) : TrI 83 [(1, 370), (0, a1), (0, a2), (0, a3), (0, a4)] m K := by
  exact w83_0 a1 a2 a3 a4 H
set_option maxRecDepth 100000 in
theorem w99_0 {m : Mm} {K : Int → Mm → Prop} (a0 : Int) (a1 : Int) (a2 : Int) (ta0 : shp a0 = 30)
  (H : (a1 < 0 → K 0 m) ∧ (¬ a1 < 0 → (a2 < 0 → K 0 m) ∧ (¬ a2 < 0 → (a1 < (m a0 6) → (a2 < (m a0 6) → (0 ≤ a1 ∧ a1 < 24) ∧ (0 ≤ a2 ∧ a2 < 24) ∧ (0 ≤ (wr ((wr ((m (a0 + 54 + 2 * a1) 2) * 5)) + (m (a0 + 54 + 2 * a2) 2))) ∧ (wr ((wr ((m (a0 + 54 + 2 * a1) 2) * 5)) + (m (a0 + 54 + 2 * a2) 2))) < 25) ∧ ((m (a0 + 3) (wr ((wr ((m (a0 + 54 + 2 * a1) 2) * 5)) + (m (a0 + 54 + 2 * a2) 2)))) = 0 → K (m (a0 + 5) (wr ((wr ((m (a0 + 54 + 2 * a1) 2) * 5)) + (m (a0 + 54 + 2 * a2) 2)))) m) ∧ (¬ (m (a0 + 3) (wr ((wr ((m (a0 + 54 + 2 * a1) 2) * 5)) + (m (a0 + 54 + 2 * a2) 2)))) = 0 → ((m (a0 + 54 + 2 * a1) 3) = (m (a0 + 54 + 2 * a2) 3) → K (m (a0 + 5) (wr ((wr ((m (a0 + 54 + 2 * a1) 2) * 5)) + (m (a0 + 54 + 2 * a2) 2)))) m) ∧ (¬ (m (a0 + 54 + 2 * a1) 3) = (m (a0 + 54 + 2 * a2) 3) → K 1000000 m))) ∧ (¬ a2 < (m a0 6) → K 0 m)) ∧ (¬ a1 < (m a0 6) → K 0 m)))) : X 99 0 [(1, a0), (0, a1), (0, a2), (9, 0), (9, 0), (9, 0)] [] m (qI K) := by
  refine x_s (q := (.iload_n 1, 0, 0, 0)) (cod_99 rfl) rfl rfl rfl ?_
  refine x_if (p := a1 < 0) (tgt := 24) (cod_99 rfl) (by decide) xj_lt (fun h => ?_) (fun h => ?_)
  · have H1 := H.1 h
    refine x_s (q := (.iconst 0, 0, 0, 0)) (cod_99 rfl) rfl rfl rfl ?_
    refine x_retI (t := .int) (cod_99 rfl) rfl rfl rfl ?_
    exact H1
  · have H2 := H.2 h
    refine x_s (q := (.iload_n 2, 0, 0, 0)) (cod_99 rfl) rfl rfl rfl ?_
    refine x_if (p := a2 < 0) (tgt := 24) (cod_99 rfl) (by decide) xj_lt (fun h => ?_) (fun h => ?_)
    · have H3 := H2.1 h
      refine x_s (q := (.iconst 0, 0, 0, 0)) (cod_99 rfl) rfl rfl rfl ?_
      refine x_retI (t := .int) (cod_99 rfl) rfl rfl rfl ?_
      exact H3
    · have H4 := H2.2 h
      refine x_s (q := (.iload_n 1, 0, 0, 0)) (cod_99 rfl) rfl rfl rfl ?_
      refine x_aldn (cod_99 rfl) rfl (pos_of ta0 (by decide)) ?_
      refine x_gf (kk := 6) (t := 0) (cod_99 rfl) ta0 (sq_c_10_6 ta0) rfl rfl ?_
      refine x_ic (p := ¬ a1 < (m a0 6)) (tgt := 24) (cod_99 rfl) (by decide) xn_ge (fun h => ?_) (fun h => ?_)
      · have H5 := H4.2 h
        refine x_s (q := (.iconst 0, 0, 0, 0)) (cod_99 rfl) rfl rfl rfl ?_
        refine x_retI (t := .int) (cod_99 rfl) rfl rfl rfl ?_
        exact H5
      · have H6 := H4.1 (Classical.not_not.mp h)
        refine x_s (q := (.iload_n 2, 0, 0, 0)) (cod_99 rfl) rfl rfl rfl ?_
        refine x_aldn (cod_99 rfl) rfl (pos_of ta0 (by decide)) ?_
        refine x_gf (kk := 6) (t := 0) (cod_99 rfl) ta0 (sq_c_10_6 ta0) rfl rfl ?_
        refine x_ic (p := a2 < (m a0 6)) (tgt := 26) (cod_99 rfl) (by decide) xj_lt (fun h => ?_) (fun h => ?_)
        · have H7 := H6.1 h
          refine x_aldn (cod_99 rfl) rfl (pos_of ta0 (by decide)) ?_
          refine x_gc (kk := 1) (c := (a0 + 2)) (t := 1) (cod_99 rfl) ta0 (sq_c_10_1 ta0) rfl rfl ?_
          refine x_s (q := (.iload_n 1, 0, 0, 0)) (cod_99 rfl) rfl rfl rfl ?_
          obtain ⟨c9, H10⟩ := H7
          refine x_aaldc (c := (a0 + 54 + 2 * a1)) (cod_99 rfl) (by rw [(sq_oa_10_1 ta0 c9.1 c9.2).2.1]; decide) (sq_oa_10_1 ta0 c9.1 c9.2).1 ?_
          refine x_astn (ls' := [(1, a0), (0, a1), (0, a2), (1, (a0 + 54 + 2 * a1)), (9, 0), (9, 0)]) (cod_99 rfl) (pos_of (sq_oa_10_1 ta0 c9.1 c9.2).2.2 (by decide)) rfl rfl ?_
          refine x_aldn (cod_99 rfl) rfl (pos_of ta0 (by decide)) ?_
          refine x_gc (kk := 1) (c := (a0 + 2)) (t := 1) (cod_99 rfl) ta0 (sq_c_10_1 ta0) rfl rfl ?_
          refine x_s (q := (.iload_n 2, 0, 0, 0)) (cod_99 rfl) rfl rfl rfl ?_
          obtain ⟨c11, H12⟩ := H10
          refine x_aaldc (c := (a0 + 54 + 2 * a2)) (cod_99 rfl) (by rw [(sq_oa_10_1 ta0 c11.1 c11.2).2.1]; decide) (sq_oa_10_1 ta0 c11.1 c11.2).1 ?_
          refine x_ast (ls' := [(1, a0), (0, a1), (0, a2), (1, (a0 + 54 + 2 * a1)), (1, (a0 + 54 + 2 * a2)), (9, 0)]) (cod_99 rfl) (pos_of (sq_oa_10_1 ta0 c11.1 c11.2).2.2 (by decide)) rfl rfl ?_
          refine x_aldn (cod_99 rfl) rfl (pos_of (sq_oa_10_1 ta0 c9.1 c9.2).2.2 (by decide)) ?_
          refine x_gf (kk := 2) (t := 0) (cod_99 rfl) (sq_oa_10_1 ta0 c9.1 c9.2).2.2 (sq_c_1_2 (sq_oa_10_1 ta0 c9.1 c9.2).2.2) rfl rfl ?_
          refine x_s (q := (.iconst 5, 0, 0, 0)) (cod_99 rfl) rfl rfl rfl ?_
          refine x_s (q := (.imul, 0, 0, 0)) (cod_99 rfl) rfl rfl rfl ?_
          refine x_ald (cod_99 rfl) rfl (pos_of (sq_oa_10_1 ta0 c11.1 c11.2).2.2 (by decide)) ?_
          refine x_gf (kk := 2) (t := 0) (cod_99 rfl) (sq_oa_10_1 ta0 c11.1 c11.2).2.2 (sq_c_1_2 (sq_oa_10_1 ta0 c11.1 c11.2).2.2) rfl rfl ?_
          refine x_s (q := (.iadd, 0, 0, 0)) (cod_99 rfl) rfl rfl rfl ?_
          refine x_s (q := (.istore 5, 0, 0, 0)) (cod_99 rfl) rfl rfl rfl ?_
          refine x_aldn (cod_99 rfl) rfl (pos_of ta0 (by decide)) ?_
          refine x_gc (kk := 2) (c := (a0 + 3)) (t := 1) (cod_99 rfl) ta0 (sq_c_10_2 ta0) rfl rfl ?_
          refine x_s (q := (.iload 5, 0, 0, 0)) (cod_99 rfl) rfl rfl rfl ?_
          obtain ⟨c13, H14⟩ := H12
          refine x_bald (cod_99 rfl) (sq_ac_10_2 ta0).s ((sq_ac_10_2 ta0).k c13.1 c13.2) ?_
          refine x_if (p := (m (a0 + 3) (wr ((wr ((m (a0 + 54 + 2 * a1) 2) * 5)) + (m (a0 + 54 + 2 * a2) 2)))) = 0) (tgt := 80) (cod_99 rfl) (by decide) xj_eq (fun h => ?_) (fun h => ?_)
          · have H15 := H14.1 h
            refine x_aldn (cod_99 rfl) rfl (pos_of ta0 (by decide)) ?_
            refine x_gc (kk := 4) (c := (a0 + 5)) (t := 1) (cod_99 rfl) ta0 (sq_c_10_4 ta0) rfl rfl ?_
            refine x_s (q := (.iload 5, 0, 0, 0)) (cod_99 rfl) rfl rfl rfl ?_
            refine x_iald (cod_99 rfl) (sq_ac_10_4 ta0).s ((sq_ac_10_4 ta0).k c13.1 c13.2) ?_
            refine x_retI (t := .int) (cod_99 rfl) rfl rfl rfl ?_
            exact H15
          · have H16 := H14.2 h
            refine x_aldn (cod_99 rfl) rfl (pos_of (sq_oa_10_1 ta0 c9.1 c9.2).2.2 (by decide)) ?_
            refine x_gf (kk := 3) (t := 0) (cod_99 rfl) (sq_oa_10_1 ta0 c9.1 c9.2).2.2 (sq_c_1_3 (sq_oa_10_1 ta0 c9.1 c9.2).2.2) rfl rfl ?_
            refine x_ald (cod_99 rfl) rfl (pos_of (sq_oa_10_1 ta0 c11.1 c11.2).2.2 (by decide)) ?_
            refine x_gf (kk := 3) (t := 0) (cod_99 rfl) (sq_oa_10_1 ta0 c11.1 c11.2).2.2 (sq_c_1_3 (sq_oa_10_1 ta0 c11.1 c11.2).2.2) rfl rfl ?_
            refine x_ic (p := (m (a0 + 54 + 2 * a1) 3) = (m (a0 + 54 + 2 * a2) 3)) (tgt := 80) (cod_99 rfl) (by decide) xj_eq (fun h => ?_) (fun h => ?_)
            · have H17 := H16.1 h
              refine x_aldn (cod_99 rfl) rfl (pos_of ta0 (by decide)) ?_
              refine x_gc (kk := 4) (c := (a0 + 5)) (t := 1) (cod_99 rfl) ta0 (sq_c_10_4 ta0) rfl rfl ?_
              refine x_s (q := (.iload 5, 0, 0, 0)) (cod_99 rfl) rfl rfl rfl ?_
              refine x_iald (cod_99 rfl) (sq_ac_10_4 ta0).s ((sq_ac_10_4 ta0).k c13.1 c13.2) ?_
              refine x_retI (t := .int) (cod_99 rfl) rfl rfl rfl ?_
              exact H17
            · have H18 := H16.2 h
              refine x_s (q := (.ldc 58, 1000000, 0, 0)) (cod_99 rfl) rfl rfl rfl ?_
              refine x_retI (t := .int) (cod_99 rfl) rfl rfl rfl ?_
              exact H18
        · have H8 := H6.2 h
          refine x_s (q := (.iconst 0, 0, 0, 0)) (cod_99 rfl) rfl rfl rfl ?_
          refine x_retI (t := .int) (cod_99 rfl) rfl rfl rfl ?_
          exact H8
theorem e99 {m : Mm} {K : Int → Mm → Prop} (a0 : Int) (a1 : Int) (a2 : Int) (ta0 : shp a0 = 30)
  (H : (a1 < 0 → K 0 m) ∧ (¬ a1 < 0 → (a2 < 0 → K 0 m) ∧ (¬ a2 < 0 → (a1 < (m a0 6) → (a2 < (m a0 6) → (0 ≤ a1 ∧ a1 < 24) ∧ (0 ≤ a2 ∧ a2 < 24) ∧ (0 ≤ (wr ((wr ((m (a0 + 54 + 2 * a1) 2) * 5)) + (m (a0 + 54 + 2 * a2) 2))) ∧ (wr ((wr ((m (a0 + 54 + 2 * a1) 2) * 5)) + (m (a0 + 54 + 2 * a2) 2))) < 25) ∧ ((m (a0 + 3) (wr ((wr ((m (a0 + 54 + 2 * a1) 2) * 5)) + (m (a0 + 54 + 2 * a2) 2)))) = 0 → K (m (a0 + 5) (wr ((wr ((m (a0 + 54 + 2 * a1) 2) * 5)) + (m (a0 + 54 + 2 * a2) 2)))) m) ∧ (¬ (m (a0 + 3) (wr ((wr ((m (a0 + 54 + 2 * a1) 2) * 5)) + (m (a0 + 54 + 2 * a2) 2)))) = 0 → ((m (a0 + 54 + 2 * a1) 3) = (m (a0 + 54 + 2 * a2) 3) → K (m (a0 + 5) (wr ((wr ((m (a0 + 54 + 2 * a1) 2) * 5)) + (m (a0 + 54 + 2 * a2) 2)))) m) ∧ (¬ (m (a0 + 54 + 2 * a1) 3) = (m (a0 + 54 + 2 * a2) 3) → K 1000000 m))) ∧ (¬ a2 < (m a0 6) → K 0 m)) ∧ (¬ a1 < (m a0 6) → K 0 m)))) : TrI 99 [(1, a0), (0, a1), (0, a2)] m K := by
  exact w99_0 a0 a1 a2 ta0 H
set_option maxRecDepth 100000 in
theorem w97_0 {m : Mm} {K : Int → Mm → Prop} (a0 : Int) (a1 : Int) (a2 : Int) (ta0 : shp a0 = 20)
  (H : X 97 2 [(1, a0), (0, a1), (0, a2), (0, 0)] [] m (qI K)) : X 97 0 [(1, a0), (0, a1), (0, a2), (9, 0)] [] m (qI K) := by
  refine x_s (q := (.iconst 0, 0, 0, 0)) (cod_97 rfl) rfl rfl rfl ?_
  refine x_s (q := (.istore_n 3, 0, 0, 0)) (cod_97 rfl) rfl rfl rfl ?_
  exact H
theorem e97 {m : Mm} {K : Int → Mm → Prop} (a0 : Int) (a1 : Int) (a2 : Int) (ta0 : shp a0 = 20)
  (H : X 97 2 [(1, a0), (0, a1), (0, a2), (0, 0)] [] m (qI K)) : TrI 97 [(1, a0), (0, a1), (0, a2)] m K := by
  exact w97_0 a0 a1 a2 ta0 H
set_option maxRecDepth 100000 in
theorem w97_2 {m : Mm} {K : Int → Mm → Prop} (a0 : Int) (a1 : Int) (a2 : Int) (a3 : Int) (ta0 : shp a0 = 20)
  (H : (0 ≤ a1 ∧ a1 < 10) ∧ (a3 < (m (a0 + 27) a1) → (0 ≤ a3 ∧ a3 < 24) ∧ ((m (a0 + 29 + a1) a3) = a2 → K a3 m) ∧ (¬ (m (a0 + 29 + a1) a3) = a2 → X 97 2 [(1, a0), (0, a1), (0, a2), (0, wr (a3 + 1))] [] m (qI K))) ∧ (¬ a3 < (m (a0 + 27) a1) → K (-1) m)) : X 97 2 [(1, a0), (0, a1), (0, a2), (0, a3)] [] m (qI K) := by
  refine x_s (q := (.iload_n 3, 0, 0, 0)) (cod_97 rfl) rfl rfl rfl ?_
  refine x_aldn (cod_97 rfl) rfl (pos_of ta0 (by decide)) ?_
  refine x_gc (kk := 6) (c := (a0 + 27)) (t := 1) (cod_97 rfl) ta0 (sq_c_0_6 ta0) rfl rfl ?_
  refine x_s (q := (.iload_n 1, 0, 0, 0)) (cod_97 rfl) rfl rfl rfl ?_
  obtain ⟨c1, H2⟩ := H
  refine x_iald (cod_97 rfl) (sq_ac_0_6 ta0).s ((sq_ac_0_6 ta0).k c1.1 c1.2) ?_
  refine x_ic (p := ¬ a3 < (m (a0 + 27) a1)) (tgt := 32) (cod_97 rfl) (by decide) xn_ge (fun h => ?_) (fun h => ?_)
  · have H3 := H2.2 h
    refine x_s (q := (.iconst (-1), 0, 0, 0)) (cod_97 rfl) rfl rfl rfl ?_
    refine x_retI (t := .int) (cod_97 rfl) rfl rfl rfl ?_
    exact H3
  · have H4 := H2.1 (Classical.not_not.mp h)
    refine x_aldn (cod_97 rfl) rfl (pos_of ta0 (by decide)) ?_
    refine x_gc (kk := 7) (c := (a0 + 28)) (t := 1) (cod_97 rfl) ta0 (sq_c_0_7 ta0) rfl rfl ?_
    refine x_s (q := (.iload_n 1, 0, 0, 0)) (cod_97 rfl) rfl rfl rfl ?_
    refine x_aaldc (c := (a0 + 29 + a1)) (cod_97 rfl) (by rw [(sq_roc_0_7 ta0 c1.1 c1.2).2]; decide) (sq_roc_0_7 ta0 c1.1 c1.2).1 ?_
    refine x_s (q := (.iload_n 3, 0, 0, 0)) (cod_97 rfl) rfl rfl rfl ?_
    obtain ⟨c5, H6⟩ := H4
    refine x_iald (cod_97 rfl) (sq_rwc_0_7 ta0 c1.1 c1.2).s ((sq_rwc_0_7 ta0 c1.1 c1.2).k c5.1 c5.2) ?_
    refine x_s (q := (.iload_n 2, 0, 0, 0)) (cod_97 rfl) rfl rfl rfl ?_
    refine x_ic (p := ¬ (m (a0 + 29 + a1) a3) = a2) (tgt := 26) (cod_97 rfl) (by decide) xj_ne (fun h => ?_) (fun h => ?_)
    · have H7 := H6.2 h
      refine x_s (q := (.iinc 3 1, 0, 0, 0)) (cod_97 rfl) rfl rfl rfl ?_
      refine x_go (tgt := 2) (cod_97 rfl) (by decide) ?_
      exact H7
    · have H8 := H6.1 (Classical.not_not.mp h)
      refine x_s (q := (.iload_n 3, 0, 0, 0)) (cod_97 rfl) rfl rfl rfl ?_
      refine x_retI (t := .int) (cod_97 rfl) rfl rfl rfl ?_
      exact H8
