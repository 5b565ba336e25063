/-! rules of the methods: printed by wip/whole/gen26.py -/
set_option maxRecDepth 100000 in
theorem w92_0 {m : Mm} {K : Mm → Prop} (a1 : Int) (a2 : Int) (a3 : Int) (a4 : Int) (a5 : Int) (ta1 : shp a1 = 24) (ta4 : shp a4 = 21)
  (H : v_E m a4 ∧ X 92 18 [(1, 370), (1, a1), (0, a2), (0, a3), (1, a4), (0, a5), (0, cAt m a4 (wr (a5 - 1))), (0, 1000000), (0, 0)] [] m (qV K)) : X 92 0 [(1, 370), (1, a1), (0, a2), (0, a3), (1, a4), (0, a5), (9, 0), (9, 0), (9, 0)] [] m (qV K) := by
  refine x_ald (cod_92 rfl) rfl (pos_of ta4 (by decide)) ?_
  refine x_s (q := (.iload 5, 0, 0, 0)) (cod_92 rfl) rfl rfl rfl ?_
  refine x_s (q := (.iconst 1, 0, 0, 0)) (cod_92 rfl) rfl rfl rfl ?_
  refine x_s (q := (.isub, 0, 0, 0)) (cod_92 rfl) rfl rfl rfl ?_
  obtain ⟨c1, H2⟩ := H
  refine x_call (as := [(1, a4), (0, wr (a5 - 1))]) (rest := []) (cod_92 rfl) rfl rfl (by decide) (by decide) rfl rfl (Nat.le_of_ble_eq_true rfl) (rcv0 (sq_c_1_0 ta4) ta4 (by decide)) (Nat.le_of_ble_eq_true rfl) ?_
  refine x_pure (p93 c1) ?_
  show X 92 9 [(1, 370), (1, a1), (0, a2), (0, a3), (1, a4), (0, a5), (9, 0), (9, 0), (9, 0)] [(0, cAt m a4 (wr (a5 - 1)))] m _
  refine x_s (q := (.istore 6, 0, 0, 0)) (cod_92 rfl) rfl rfl rfl ?_
  refine x_s (q := (.ldc 81, 1000000, 0, 0)) (cod_92 rfl) rfl rfl rfl ?_
  refine x_s (q := (.istore 7, 0, 0, 0)) (cod_92 rfl) rfl rfl rfl ?_
  refine x_s (q := (.iconst 0, 0, 0, 0)) (cod_92 rfl) rfl rfl rfl ?_
  refine x_s (q := (.istore 8, 0, 0, 0)) (cod_92 rfl) rfl rfl rfl ?_
  exact H2
theorem e92 {m : Mm} {K : Mm → Prop} (a1 : Int) (a2 : Int) (a3 : Int) (a4 : Int) (a5 : Int) (ta1 : shp a1 = 24) (ta4 : shp a4 = 21)
  (H : v_E m a4 ∧ X 92 18 [(1, 370), (1, a1), (0, a2), (0, a3), (1, a4), (0, a5), (0, cAt m a4 (wr (a5 - 1))), (0, 1000000), (0, 0)] [] m (qV K)) : TrV 92 [(1, 370), (1, a1), (0, a2), (0, a3), (1, a4), (0, a5)] m K := by
  exact w92_0 a1 a2 a3 a4 a5 ta1 ta4 H
set_option maxRecDepth 100000 in
theorem w92_18 {m : Mm} {K : Mm → Prop} (a1 : Int) (a2 : Int) (a3 : Int) (a4 : Int) (a5 : Int) (a6 : Int) (a7 : Int) (a8 : Int) (ta1 : shp a1 = 24) (ta4 : shp a4 = 21)
  (H : (a8 < (m 370 9) → (0 ≤ a2 ∧ a2 < 10) ∧ (0 ≤ a3 ∧ a3 < 10) ∧ (0 ≤ (wr (a3 + 1)) ∧ (wr (a3 + 1)) < 11) ∧ ((0 ≤ a8 ∧ a8 < 24) ∧ shp (m 373 a8) = 27) ∧ ((suC m a8 (m (a1 + 14 + a2) a3) a6 (m (a1 + 25 + a2) (wr (a3 + 1))) = true) → (0 ≤ a8 ∧ a8 < 24) ∧ shp (m 373 a8) = 27 ∧ (v_R m (m 373 a8) ∧ v_E m a4 ∧ 0 ≤ a5 ∧ a5 ≤ 8) ∧ ((stC m (m 373 a8) a4 a5 = true) → (0 ≤ (wr (a5 + (m (m 373 a8) 2))) ∧ (wr (a5 + (m (m 373 a8) 2))) < 9) ∧ X 92 18 [(1, 370), (1, a1), (0, a2), (0, a3), (1, a4), (0, a5), (0, a6), (0, min a7 (wr ((m 374 a8) + (m (400 + (wr (a3 + 1))) (wr (a5 + (m (m 373 a8) 2))))))), (0, wr (a8 + 1))] [] m (qV K)) ∧ (¬ (stC m (m 373 a8) a4 a5 = true) → X 92 18 [(1, 370), (1, a1), (0, a2), (0, a3), (1, a4), (0, a5), (0, a6), (0, a7), (0, wr (a8 + 1))] [] m (qV K))) ∧ (¬ (suC m a8 (m (a1 + 14 + a2) a3) a6 (m (a1 + 25 + a2) (wr (a3 + 1))) = true) → X 92 18 [(1, 370), (1, a1), (0, a2), (0, a3), (1, a4), (0, a5), (0, a6), (0, a7), (0, wr (a8 + 1))] [] m (qV K))) ∧ (¬ a8 < (m 370 9) → (0 ≤ a3 ∧ a3 < 11) ∧ (0 ≤ a5 ∧ a5 < 9) ∧ ∀ m7, m7 = umem m (400 + a3) a5 a7 → K m7)) : X 92 18 [(1, 370), (1, a1), (0, a2), (0, a3), (1, a4), (0, a5), (0, a6), (0, a7), (0, a8)] [] m (qV K) := by
  refine x_s (q := (.iload 8, 0, 0, 0)) (cod_92 rfl) rfl rfl rfl ?_
  refine x_s (q := (.aload_n 0, 0, 0, 0)) (cod_92 rfl) rfl rfl rfl ?_
  refine x_gf (kk := 9) (t := 0) (cod_92 rfl) sq_p_370 sq_l_370_9 rfl rfl ?_
  refine x_ic (p := ¬ a8 < (m 370 9)) (tgt := 116) (cod_92 rfl) (by decide) xn_ge (fun h => ?_) (fun h => ?_)
  · have H1 := H.2 h
    refine x_s (q := (.aload_n 0, 0, 0, 0)) (cod_92 rfl) rfl rfl rfl ?_
    refine x_gc (kk := 8) (c := 399) (t := 1) (cod_92 rfl) sq_p_370 sq_l_370_8 rfl rfl ?_
    refine x_s (q := (.iload_n 3, 0, 0, 0)) (cod_92 rfl) rfl rfl rfl ?_
    obtain ⟨c3, H4⟩ := H1
    refine x_aaldc (c := (400 + a3)) (cod_92 rfl) (by rw [(sq_ro_399 (j := a3) c3.1 c3.2).2]; decide) (sq_ro_399 (j := a3) c3.1 c3.2).1 ?_
    refine x_s (q := (.iload 5, 0, 0, 0)) (cod_92 rfl) rfl rfl rfl ?_
    refine x_s (q := (.iload 7, 0, 0, 0)) (cod_92 rfl) rfl rfl rfl ?_
    obtain ⟨c5, H6⟩ := H4
    refine x_iast (cod_92 rfl) (sq_rw_399 (j := a3) c3.1 c3.2).s ((sq_rw_399 (j := a3) c3.1 c3.2).k c5.1 c5.2) ?_
    have H8 := H6 _ rfl
    generalize umem m (400 + a3) a5 a7 = m7 at H8 ⊢
    refine x_retV (cod_92 rfl) rfl ?_
    exact H8
  · have H2 := H.1 (Classical.not_not.mp h)
    refine x_s (q := (.aload_n 0, 0, 0, 0)) (cod_92 rfl) rfl rfl rfl ?_
    refine x_s (q := (.iload 8, 0, 0, 0)) (cod_92 rfl) rfl rfl rfl ?_
    refine x_aldn (cod_92 rfl) rfl (pos_of ta1 (by decide)) ?_
    refine x_gc (kk := 2) (c := (a1 + 13)) (t := 1) (cod_92 rfl) ta1 (sq_c_4_2 ta1) rfl rfl ?_
    refine x_s (q := (.iload_n 2, 0, 0, 0)) (cod_92 rfl) rfl rfl rfl ?_
    obtain ⟨c9, H10⟩ := H2
    refine x_aaldc (c := (a1 + 14 + a2)) (cod_92 rfl) (by rw [(sq_roc_4_2 (j := a2) ta1 c9.1 c9.2).2]; decide) (sq_roc_4_2 (j := a2) ta1 c9.1 c9.2).1 ?_
    refine x_s (q := (.iload_n 3, 0, 0, 0)) (cod_92 rfl) rfl rfl rfl ?_
    obtain ⟨c11, H12⟩ := H10
    refine x_iald (cod_92 rfl) (sq_rwc_4_2 (j := a2) ta1 c9.1 c9.2).s ((sq_rwc_4_2 (j := a2) ta1 c9.1 c9.2).k c11.1 c11.2) ?_
    refine x_s (q := (.iload 6, 0, 0, 0)) (cod_92 rfl) rfl rfl rfl ?_
    refine x_aldn (cod_92 rfl) rfl (pos_of ta1 (by decide)) ?_
    refine x_gc (kk := 3) (c := (a1 + 24)) (t := 1) (cod_92 rfl) ta1 (sq_c_4_3 ta1) rfl rfl ?_
    refine x_s (q := (.iload_n 2, 0, 0, 0)) (cod_92 rfl) rfl rfl rfl ?_
    refine x_aaldc (c := (a1 + 25 + a2)) (cod_92 rfl) (by rw [(sq_roc_4_3 (j := a2) ta1 c9.1 c9.2).2]; decide) (sq_roc_4_3 (j := a2) ta1 c9.1 c9.2).1 ?_
    refine x_s (q := (.iload_n 3, 0, 0, 0)) (cod_92 rfl) rfl rfl rfl ?_
    refine x_s (q := (.iconst 1, 0, 0, 0)) (cod_92 rfl) rfl rfl rfl ?_
    refine x_s (q := (.iadd, 0, 0, 0)) (cod_92 rfl) rfl rfl rfl ?_
    obtain ⟨c13, H14⟩ := H12
    refine x_iald (cod_92 rfl) (sq_rwc_4_3 (j := a2) ta1 c9.1 c9.2).s ((sq_rwc_4_3 (j := a2) ta1 c9.1 c9.2).k c13.1 c13.2) ?_
    obtain ⟨c15, H16⟩ := H14
    refine x_call (as := [(1, 370), (0, a8), (0, m (a1 + 14 + a2) a3), (0, a6), (0, m (a1 + 25 + a2) (wr (a3 + 1)))]) (rest := []) (cod_92 rfl) rfl rfl (by decide) (by decide) rfl rfl (Nat.le_of_ble_eq_true rfl) (rcv0 sq_l_370_0 sq_p_370 (by decide)) (Nat.le_of_ble_eq_true rfl) ?_
    refine x_pure (p83 c15) ?_
    show X 92 53 [(1, 370), (1, a1), (0, a2), (0, a3), (1, a4), (0, a5), (0, a6), (0, a7), (0, a8)] [(0, bi (suC m a8 (m (a1 + 14 + a2) a3) a6 (m (a1 + 25 + a2) (wr (a3 + 1))) = true))] m _
    refine x_if (p := ¬ (suC m a8 (m (a1 + 14 + a2) a3) a6 (m (a1 + 25 + a2) (wr (a3 + 1))) = true)) (tgt := 110) (cod_92 rfl) (by decide) xb_eq (fun h => ?_) (fun h => ?_)
    · have H17 := H16.2 h
      refine x_s (q := (.iinc 8 1, 0, 0, 0)) (cod_92 rfl) rfl rfl rfl ?_
      refine x_go (tgt := 18) (cod_92 rfl) (by decide) ?_
      exact H17
    · have H18 := H16.1 (Classical.not_not.mp h)
      refine x_s (q := (.aload_n 0, 0, 0, 0)) (cod_92 rfl) rfl rfl rfl ?_
      refine x_gc (kk := 4) (c := 373) (t := 1) (cod_92 rfl) sq_p_370 sq_l_370_4 rfl rfl ?_
      refine x_s (q := (.iload 8, 0, 0, 0)) (cod_92 rfl) rfl rfl rfl ?_
      obtain ⟨c19, H20⟩ := H18
      refine x_aald (cod_92 rfl) (by rw [sq_a_373.s]; decide) (sq_a_373.k c19.1 c19.2) ?_
      refine x_ald (cod_92 rfl) rfl (pos_of ta4 (by decide)) ?_
      refine x_s (q := (.iload 5, 0, 0, 0)) (cod_92 rfl) rfl rfl rfl ?_
      obtain ⟨c21, H22⟩ := H20
      obtain ⟨c23, H24⟩ := H22
      refine x_call (as := [(1, (m 373 a8)), (1, a4), (0, a5)]) (rest := []) (cod_92 rfl) rfl rfl (by decide) (by decide) rfl rfl (Nat.le_of_ble_eq_true rfl) (rcv0 (sq_c_7_0 c21) c21 (by decide)) (Nat.le_of_ble_eq_true rfl) ?_
      refine x_pure (p94 c23) ?_
      show X 92 70 [(1, 370), (1, a1), (0, a2), (0, a3), (1, a4), (0, a5), (0, a6), (0, a7), (0, a8)] [(0, bi (stC m (m 373 a8) a4 a5 = true))] m _
      refine x_if (p := ¬ (stC m (m 373 a8) a4 a5 = true)) (tgt := 110) (cod_92 rfl) (by decide) xb_eq (fun h => ?_) (fun h => ?_)
      · have H25 := H24.2 h
        refine x_s (q := (.iinc 8 1, 0, 0, 0)) (cod_92 rfl) rfl rfl rfl ?_
        refine x_go (tgt := 18) (cod_92 rfl) (by decide) ?_
        exact H25
      · have H26 := H24.1 (Classical.not_not.mp h)
        refine x_s (q := (.iload 7, 0, 0, 0)) (cod_92 rfl) rfl rfl rfl ?_
        refine x_s (q := (.aload_n 0, 0, 0, 0)) (cod_92 rfl) rfl rfl rfl ?_
        refine x_gc (kk := 5) (c := 374) (t := 1) (cod_92 rfl) sq_p_370 sq_l_370_5 rfl rfl ?_
        refine x_s (q := (.iload 8, 0, 0, 0)) (cod_92 rfl) rfl rfl rfl ?_
        refine x_iald (cod_92 rfl) sq_a_374.s (sq_a_374.k c19.1 c19.2) ?_
        refine x_s (q := (.aload_n 0, 0, 0, 0)) (cod_92 rfl) rfl rfl rfl ?_
        refine x_gc (kk := 8) (c := 399) (t := 1) (cod_92 rfl) sq_p_370 sq_l_370_8 rfl rfl ?_
        refine x_s (q := (.iload_n 3, 0, 0, 0)) (cod_92 rfl) rfl rfl rfl ?_
        refine x_s (q := (.iconst 1, 0, 0, 0)) (cod_92 rfl) rfl rfl rfl ?_
        refine x_s (q := (.iadd, 0, 0, 0)) (cod_92 rfl) rfl rfl rfl ?_
        refine x_aaldc (c := (400 + (wr (a3 + 1)))) (cod_92 rfl) (by rw [(sq_ro_399 (j := wr (a3 + 1)) c13.1 c13.2).2]; decide) (sq_ro_399 (j := wr (a3 + 1)) c13.1 c13.2).1 ?_
        refine x_s (q := (.iload 5, 0, 0, 0)) (cod_92 rfl) rfl rfl rfl ?_
        refine x_s (q := (.aload_n 0, 0, 0, 0)) (cod_92 rfl) rfl rfl rfl ?_
        refine x_gc (kk := 4) (c := 373) (t := 1) (cod_92 rfl) sq_p_370 sq_l_370_4 rfl rfl ?_
        refine x_s (q := (.iload 8, 0, 0, 0)) (cod_92 rfl) rfl rfl rfl ?_
        refine x_aald (cod_92 rfl) (by rw [sq_a_373.s]; decide) (sq_a_373.k c19.1 c19.2) ?_
        refine x_gf (kk := 2) (t := 0) (cod_92 rfl) c21 (sq_c_7_2 c21) rfl rfl ?_
        refine x_s (q := (.iadd, 0, 0, 0)) (cod_92 rfl) rfl rfl rfl ?_
        obtain ⟨c27, H28⟩ := H26
        refine x_iald (cod_92 rfl) (sq_rw_399 (j := wr (a3 + 1)) c13.1 c13.2).s ((sq_rw_399 (j := wr (a3 + 1)) c13.1 c13.2).k c27.1 c27.2) ?_
        refine x_s (q := (.iadd, 0, 0, 0)) (cod_92 rfl) rfl rfl rfl ?_
        refine x_m7 (cod_92 rfl) rfl rfl (Nat.le_of_ble_eq_true rfl) ?_
        refine x_s (q := (.istore 7, 0, 0, 0)) (cod_92 rfl) rfl rfl rfl ?_
        refine x_s (q := (.iinc 8 1, 0, 0, 0)) (cod_92 rfl) rfl rfl rfl ?_
        refine x_go (tgt := 18) (cod_92 rfl) (by decide) ?_
        exact H28
set_option maxRecDepth 100000 in
theorem w95_0 {m : Mm} {K : Mm → Prop} (a0 : Int) (a1 : Int) (a2 : Int) (a3 : Int) (ta0 : shp a0 = 20)
  (H : (0 ≤ a1 ∧ a1 < 10) ∧ ((m (a0 + 27) a1) < 24 → (0 ≤ (m (a0 + 27) a1) ∧ (m (a0 + 27) a1) < 24) ∧ ∀ m7, m7 = umem m (a0 + 29 + a1) (m (a0 + 27) a1) a2 → ∀ m9, m9 = umem m7 (a0 + 40 + a1) (m (a0 + 27) a1) a3 → ∀ m11, m11 = umem m9 (a0 + 27) a1 (wr ((m (a0 + 27) a1) + 1)) → K m11) ∧ (¬ (m (a0 + 27) a1) < 24 → K m)) : X 95 0 [(1, a0), (0, a1), (0, a2), (0, a3), (9, 0)] [] m (qV K) := by
  refine x_aldn (cod_95 rfl) rfl (pos_of ta0 (by decide)) ?_
  refine x_gc (kk := 6) (c := (a0 + 27)) (t := 1) (cod_95 rfl) ta0 (sq_c_0_6 ta0) rfl rfl ?_
  refine x_s (q := (.iload_n 1, 0, 0, 0)) (cod_95 rfl) rfl rfl rfl ?_
  obtain ⟨c1, H2⟩ := H
  refine x_iald (cod_95 rfl) (sq_ac_0_6 ta0).s ((sq_ac_0_6 ta0).k c1.1 c1.2) ?_
  refine x_s (q := (.istore 4, 0, 0, 0)) (cod_95 rfl) rfl rfl rfl ?_
  refine x_s (q := (.iload 4, 0, 0, 0)) (cod_95 rfl) rfl rfl rfl ?_
  refine x_s (q := (.bipush 24, 0, 0, 0)) (cod_95 rfl) rfl rfl rfl ?_
  refine x_ic (p := ¬ (m (a0 + 27) a1) < 24) (tgt := 45) (cod_95 rfl) (by decide) xn_ge (fun h => ?_) (fun h => ?_)
  · have H3 := H2.2 h
    refine x_retV (cod_95 rfl) rfl ?_
    exact H3
  · have H4 := H2.1 (Classical.not_not.mp h)
    refine x_aldn (cod_95 rfl) rfl (pos_of ta0 (by decide)) ?_
    refine x_gc (kk := 7) (c := (a0 + 28)) (t := 1) (cod_95 rfl) ta0 (sq_c_0_7 ta0) rfl rfl ?_
    refine x_s (q := (.iload_n 1, 0, 0, 0)) (cod_95 rfl) rfl rfl rfl ?_
    refine x_aaldc (c := (a0 + 29 + a1)) (cod_95 rfl) (by rw [(sq_roc_0_7 (j := a1) ta0 c1.1 c1.2).2]; decide) (sq_roc_0_7 (j := a1) ta0 c1.1 c1.2).1 ?_
    refine x_s (q := (.iload 4, 0, 0, 0)) (cod_95 rfl) rfl rfl rfl ?_
    refine x_s (q := (.iload_n 2, 0, 0, 0)) (cod_95 rfl) rfl rfl rfl ?_
    obtain ⟨c5, H6⟩ := H4
    refine x_iast (cod_95 rfl) (sq_rwc_0_7 (j := a1) ta0 c1.1 c1.2).s ((sq_rwc_0_7 (j := a1) ta0 c1.1 c1.2).k c5.1 c5.2) ?_
    have H8 := H6 _ rfl
    generalize umem m (a0 + 29 + a1) (m (a0 + 27) a1) a2 = m7 at H8 ⊢
    refine x_aldn (cod_95 rfl) rfl (pos_of ta0 (by decide)) ?_
    refine x_gc (kk := 8) (c := (a0 + 39)) (t := 1) (cod_95 rfl) ta0 (sq_c_0_8 ta0) rfl rfl ?_
    refine x_s (q := (.iload_n 1, 0, 0, 0)) (cod_95 rfl) rfl rfl rfl ?_
    refine x_aaldc (c := (a0 + 40 + a1)) (cod_95 rfl) (by rw [(sq_roc_0_8 (j := a1) ta0 c1.1 c1.2).2]; decide) (sq_roc_0_8 (j := a1) ta0 c1.1 c1.2).1 ?_
    refine x_s (q := (.iload 4, 0, 0, 0)) (cod_95 rfl) rfl rfl rfl ?_
    refine x_s (q := (.iload_n 3, 0, 0, 0)) (cod_95 rfl) rfl rfl rfl ?_
    refine x_iast (cod_95 rfl) (sq_rwc_0_8 (j := a1) ta0 c1.1 c1.2).s ((sq_rwc_0_8 (j := a1) ta0 c1.1 c1.2).k c5.1 c5.2) ?_
    have H10 := H8 _ rfl
    generalize umem m7 (a0 + 40 + a1) (m (a0 + 27) a1) a3 = m9 at H10 ⊢
    refine x_aldn (cod_95 rfl) rfl (pos_of ta0 (by decide)) ?_
    refine x_gc (kk := 6) (c := (a0 + 27)) (t := 1) (cod_95 rfl) ta0 (sq_c_0_6 ta0) rfl rfl ?_
    refine x_s (q := (.iload_n 1, 0, 0, 0)) (cod_95 rfl) rfl rfl rfl ?_
    refine x_s (q := (.iload 4, 0, 0, 0)) (cod_95 rfl) rfl rfl rfl ?_
    refine x_s (q := (.iconst 1, 0, 0, 0)) (cod_95 rfl) rfl rfl rfl ?_
    refine x_s (q := (.iadd, 0, 0, 0)) (cod_95 rfl) rfl rfl rfl ?_
    refine x_iast (cod_95 rfl) (sq_ac_0_6 ta0).s ((sq_ac_0_6 ta0).k c1.1 c1.2) ?_
    have H12 := H10 _ rfl
    generalize umem m9 (a0 + 27) a1 (wr ((m (a0 + 27) a1) + 1)) = m11 at H12 ⊢
    refine x_retV (cod_95 rfl) rfl ?_
    exact H12
theorem e95 {m : Mm} {K : Mm → Prop} (a0 : Int) (a1 : Int) (a2 : Int) (a3 : Int) (ta0 : shp a0 = 20)
  (H : (0 ≤ a1 ∧ a1 < 10) ∧ ((m (a0 + 27) a1) < 24 → (0 ≤ (m (a0 + 27) a1) ∧ (m (a0 + 27) a1) < 24) ∧ ∀ m7, m7 = umem m (a0 + 29 + a1) (m (a0 + 27) a1) a2 → ∀ m9, m9 = umem m7 (a0 + 40 + a1) (m (a0 + 27) a1) a3 → ∀ m11, m11 = umem m9 (a0 + 27) a1 (wr ((m (a0 + 27) a1) + 1)) → K m11) ∧ (¬ (m (a0 + 27) a1) < 24 → K m)) : TrV 95 [(1, a0), (0, a1), (0, a2), (0, a3)] m K := by
  exact w95_0 a0 a1 a2 a3 ta0 H
set_option maxRecDepth 100000 in
theorem w96_0 {m : Mm} {K : Mm → Prop} (a0 : Int) (a1 : Int) (a2 : Int) (a3 : Int) (ta0 : shp a0 = 26) (ta1 : shp a1 = 30) (ta2 : shp a2 = 20)
  (H : X 96 8 [(1, a0), (1, a1), (1, a2), (1, a3), (0, wr ((m a2 9) - 1)), (9, 0), (9, 0)] [] m (qV K)) : X 96 0 [(1, a0), (1, a1), (1, a2), (1, a3), (9, 0), (9, 0), (9, 0)] [] m (qV K) := by
  refine x_aldn (cod_96 rfl) rfl (pos_of ta2 (by decide)) ?_
  refine x_gf (kk := 9) (t := 0) (cod_96 rfl) ta2 (sq_c_0_9 ta2) rfl rfl ?_
  refine x_s (q := (.iconst 1, 0, 0, 0)) (cod_96 rfl) rfl rfl rfl ?_
  refine x_s (q := (.isub, 0, 0, 0)) (cod_96 rfl) rfl rfl rfl ?_
  refine x_s (q := (.istore 4, 0, 0, 0)) (cod_96 rfl) rfl rfl rfl ?_
  exact H
theorem e96 {m : Mm} {K : Mm → Prop} (a0 : Int) (a1 : Int) (a2 : Int) (a3 : Int) (ta0 : shp a0 = 26) (ta1 : shp a1 = 30) (ta2 : shp a2 = 20)
  (H : X 96 8 [(1, a0), (1, a1), (1, a2), (1, a3), (0, wr ((m a2 9) - 1)), (9, 0), (9, 0)] [] m (qV K)) : TrV 96 [(1, a0), (1, a1), (1, a2), (1, a3)] m K := by
  exact w96_0 a0 a1 a2 a3 ta0 ta1 ta2 H
set_option maxRecDepth 100000 in
theorem w96_8 {m : Mm} {K : Mm → Prop} (a0 : Int) (a1 : Int) (a2 : Int) (a3 : Int) (a4 : Int) (ua5 : aV) (ua6 : aV) (ta0 : shp a0 = 26) (ta1 : shp a1 = 30) (ta2 : shp a2 = 20)
  (H : (a4 < 0 → X 96 82 [(1, a0), (1, a1), (1, a2), (1, a3), (0, 0), ua5, ua6] [] m (qV K)) ∧ (¬ a4 < 0 → 1 ≤ a3 ∧ (shp a3 = 0 ∧ slot a3 a4 = some none) ∧ (shp a2 = 20 ∧ (0 ≤ a4 ∧ a4 < 10) ∧ m (a2 + 27) a4 ≤ 24) ∧ X 96 28 [(1, a0), (1, a1), (1, a2), (1, a3), (0, a4), (0, plC m a2 a4 (m a3 a4)), (0, 0)] [] m (qV K))) : X 96 8 [(1, a0), (1, a1), (1, a2), (1, a3), (0, a4), ua5, ua6] [] m (qV K) := by
  refine x_s (q := (.iload 4, 0, 0, 0)) (cod_96 rfl) rfl rfl rfl ?_
  refine x_if (p := a4 < 0) (tgt := 79) (cod_96 rfl) (by decide) xj_lt (fun h => ?_) (fun h => ?_)
  · have H1 := H.1 h
    refine x_s (q := (.iconst 0, 0, 0, 0)) (cod_96 rfl) rfl rfl rfl ?_
    refine x_s (q := (.istore 4, 0, 0, 0)) (cod_96 rfl) rfl rfl rfl ?_
    exact H1
  · have H2 := H.2 h
    refine x_aldn (cod_96 rfl) rfl (pos_of ta2 (by decide)) ?_
    refine x_s (q := (.iload 4, 0, 0, 0)) (cod_96 rfl) rfl rfl rfl ?_
    obtain ⟨c3, H4⟩ := H2
    refine x_aldn (cod_96 rfl) rfl c3 ?_
    refine x_s (q := (.iload 4, 0, 0, 0)) (cod_96 rfl) rfl rfl rfl ?_
    obtain ⟨c5, H6⟩ := H4
    refine x_iald (cod_96 rfl) c5.1 c5.2 ?_
    obtain ⟨c7, H8⟩ := H6
    refine x_call (as := [(1, a2), (0, a4), (0, m a3 a4)]) (rest := []) (cod_96 rfl) rfl rfl (by decide) (by decide) rfl rfl (Nat.le_of_ble_eq_true rfl) (rcv0 (sq_c_0_0 ta2) ta2 (by decide)) (Nat.le_of_ble_eq_true rfl) ?_
    refine x_pure (p97 c7) ?_
    show X 96 23 [(1, a0), (1, a1), (1, a2), (1, a3), (0, a4), ua5, ua6] [(0, plC m a2 a4 (m a3 a4))] m _
    refine x_s (q := (.istore 5, 0, 0, 0)) (cod_96 rfl) rfl rfl rfl ?_
    refine x_s (q := (.iconst 0, 0, 0, 0)) (cod_96 rfl) rfl rfl rfl ?_
    refine x_s (q := (.istore 6, 0, 0, 0)) (cod_96 rfl) rfl rfl rfl ?_
    exact H8
set_option maxRecDepth 100000 in
theorem w96_28 {m : Mm} {K : Mm → Prop} (a0 : Int) (a1 : Int) (a2 : Int) (a3 : Int) (a4 : Int) (a5 : Int) (a6 : Int) (ta0 : shp a0 = 26) (ta1 : shp a1 = 30) (ta2 : shp a2 = 20)
  (H : (0 ≤ a4 ∧ a4 < 10) ∧ (a6 < (m (a2 + 27) a4) → (a5 < 0 → TrV 98 [(1, a0), (1, a1), (1, a2), (0, a4), (0, a6), (0, 1)] m fun m7 => X 96 28 [(1, a0), (1, a1), (1, a2), (1, a3), (0, a4), (0, a5), (0, wr (a6 + 1))] [] m7 (qV K)) ∧ (¬ a5 < 0 → (a5 = a6 → TrV 98 [(1, a0), (1, a1), (1, a2), (0, a4), (0, a6), (0, 1)] m fun m13 => X 96 28 [(1, a0), (1, a1), (1, a2), (1, a3), (0, a4), (0, a5), (0, wr (a6 + 1))] [] m13 (qV K)) ∧ (¬ a5 = a6 → TrV 98 [(1, a0), (1, a1), (1, a2), (0, a4), (0, a6), (0, 0)] m fun m11 => X 96 28 [(1, a0), (1, a1), (1, a2), (1, a3), (0, a4), (0, a5), (0, wr (a6 + 1))] [] m11 (qV K)))) ∧ (¬ a6 < (m (a2 + 27) a4) → X 96 8 [(1, a0), (1, a1), (1, a2), (1, a3), (0, wr (a4 + (-1))), (0, a5), (0, a6)] [] m (qV K))) : X 96 28 [(1, a0), (1, a1), (1, a2), (1, a3), (0, a4), (0, a5), (0, a6)] [] m (qV K) := by
  refine x_s (q := (.iload 6, 0, 0, 0)) (cod_96 rfl) rfl rfl rfl ?_
  refine x_aldn (cod_96 rfl) rfl (pos_of ta2 (by decide)) ?_
  refine x_gc (kk := 6) (c := (a2 + 27)) (t := 1) (cod_96 rfl) ta2 (sq_c_0_6 ta2) rfl rfl ?_
  refine x_s (q := (.iload 4, 0, 0, 0)) (cod_96 rfl) rfl rfl rfl ?_
  obtain ⟨c1, H2⟩ := H
  refine x_iald (cod_96 rfl) (sq_ac_0_6 ta2).s ((sq_ac_0_6 ta2).k c1.1 c1.2) ?_
  refine x_ic (p := ¬ a6 < (m (a2 + 27) a4)) (tgt := 73) (cod_96 rfl) (by decide) xn_ge (fun h => ?_) (fun h => ?_)
  · have H3 := H2.2 h
    refine x_s (q := (.iinc 4 (-1), 0, 0, 0)) (cod_96 rfl) rfl rfl rfl ?_
    refine x_go (tgt := 8) (cod_96 rfl) (by decide) ?_
    exact H3
  · have H4 := H2.1 (Classical.not_not.mp h)
    refine x_aldn (cod_96 rfl) rfl (pos_of ta0 (by decide)) ?_
    refine x_aldn (cod_96 rfl) rfl (pos_of ta1 (by decide)) ?_
    refine x_aldn (cod_96 rfl) rfl (pos_of ta2 (by decide)) ?_
    refine x_s (q := (.iload 4, 0, 0, 0)) (cod_96 rfl) rfl rfl rfl ?_
    refine x_s (q := (.iload 6, 0, 0, 0)) (cod_96 rfl) rfl rfl rfl ?_
    refine x_s (q := (.iload 5, 0, 0, 0)) (cod_96 rfl) rfl rfl rfl ?_
    refine x_if (p := a5 < 0) (tgt := 59) (cod_96 rfl) (by decide) xj_lt (fun h => ?_) (fun h => ?_)
    · have H5 := H4.1 h
      refine x_s (q := (.iconst 1, 0, 0, 0)) (cod_96 rfl) rfl rfl rfl ?_
      refine x_go (tgt := 64) (cod_96 rfl) (by decide) ?_
      refine x_call (as := [(1, a0), (1, a1), (1, a2), (0, a4), (0, a6), (0, 1)]) (rest := []) (cod_96 rfl) rfl rfl (by decide) (by decide) rfl rfl (Nat.le_of_ble_eq_true rfl) (rcv0 (sq_c_6_0 ta0) ta0 (by decide)) (Nat.le_of_ble_eq_true rfl) ?_
      refine X.imp H5 ?_
      rintro _ m7 ⟨rfl, H8⟩
      show X 96 67 [(1, a0), (1, a1), (1, a2), (1, a3), (0, a4), (0, a5), (0, a6)] [] m7 _
      refine x_s (q := (.iinc 6 1, 0, 0, 0)) (cod_96 rfl) rfl rfl rfl ?_
      refine x_go (tgt := 28) (cod_96 rfl) (by decide) ?_
      exact H8
    · have H6 := H4.2 h
      refine x_s (q := (.iload 5, 0, 0, 0)) (cod_96 rfl) rfl rfl rfl ?_
      refine x_s (q := (.iload 6, 0, 0, 0)) (cod_96 rfl) rfl rfl rfl ?_
      refine x_ic (p := ¬ a5 = a6) (tgt := 63) (cod_96 rfl) (by decide) xj_ne (fun h => ?_) (fun h => ?_)
      · have H9 := H6.2 h
        refine x_s (q := (.iconst 0, 0, 0, 0)) (cod_96 rfl) rfl rfl rfl ?_
        refine x_call (as := [(1, a0), (1, a1), (1, a2), (0, a4), (0, a6), (0, 0)]) (rest := []) (cod_96 rfl) rfl rfl (by decide) (by decide) rfl rfl (Nat.le_of_ble_eq_true rfl) (rcv0 (sq_c_6_0 ta0) ta0 (by decide)) (Nat.le_of_ble_eq_true rfl) ?_
        refine X.imp H9 ?_
        rintro _ m11 ⟨rfl, H12⟩
        show X 96 67 [(1, a0), (1, a1), (1, a2), (1, a3), (0, a4), (0, a5), (0, a6)] [] m11 _
        refine x_s (q := (.iinc 6 1, 0, 0, 0)) (cod_96 rfl) rfl rfl rfl ?_
        refine x_go (tgt := 28) (cod_96 rfl) (by decide) ?_
        exact H12
      · have H10 := H6.1 (Classical.not_not.mp h)
        refine x_s (q := (.iconst 1, 0, 0, 0)) (cod_96 rfl) rfl rfl rfl ?_
        refine x_go (tgt := 64) (cod_96 rfl) (by decide) ?_
        refine x_call (as := [(1, a0), (1, a1), (1, a2), (0, a4), (0, a6), (0, 1)]) (rest := []) (cod_96 rfl) rfl rfl (by decide) (by decide) rfl rfl (Nat.le_of_ble_eq_true rfl) (rcv0 (sq_c_6_0 ta0) ta0 (by decide)) (Nat.le_of_ble_eq_true rfl) ?_
        refine X.imp H10 ?_
        rintro _ m13 ⟨rfl, H14⟩
        show X 96 67 [(1, a0), (1, a1), (1, a2), (1, a3), (0, a4), (0, a5), (0, a6)] [] m13 _
        refine x_s (q := (.iinc 6 1, 0, 0, 0)) (cod_96 rfl) rfl rfl rfl ?_
        refine x_go (tgt := 28) (cod_96 rfl) (by decide) ?_
        exact H14
set_option maxRecDepth 100000 in
theorem w96_82 {m : Mm} {K : Mm → Prop} (a0 : Int) (a1 : Int) (a2 : Int) (a3 : Int) (a4 : Int) (ua5 : aV) (ua6 : aV) (ta0 : shp a0 = 26) (ta1 : shp a1 = 30) (ta2 : shp a2 = 20)
  (H : (a4 < (m a2 9) → 1 ≤ a3 ∧ (shp a3 = 0 ∧ slot a3 a4 = some none) ∧ (shp a2 = 20 ∧ (0 ≤ a4 ∧ a4 < 10) ∧ m (a2 + 27) a4 ≤ 24) ∧ X 96 106 [(1, a0), (1, a1), (1, a2), (1, a3), (0, a4), (0, plC m a2 a4 (m a3 a4)), (0, 0)] [] m (qV K)) ∧ (¬ a4 < (m a2 9) → TrV 101 [(1, a0), (1, a2)] m fun m3 => TrV 102 [(1, a0), (1, a1), (1, a2)] m3 fun m5 => K m5)) : X 96 82 [(1, a0), (1, a1), (1, a2), (1, a3), (0, a4), ua5, ua6] [] m (qV K) := by
  refine x_s (q := (.iload 4, 0, 0, 0)) (cod_96 rfl) rfl rfl rfl ?_
  refine x_aldn (cod_96 rfl) rfl (pos_of ta2 (by decide)) ?_
  refine x_gf (kk := 9) (t := 0) (cod_96 rfl) ta2 (sq_c_0_9 ta2) rfl rfl ?_
  refine x_ic (p := ¬ a4 < (m a2 9)) (tgt := 157) (cod_96 rfl) (by decide) xn_ge (fun h => ?_) (fun h => ?_)
  · have H1 := H.2 h
    refine x_aldn (cod_96 rfl) rfl (pos_of ta0 (by decide)) ?_
    refine x_aldn (cod_96 rfl) rfl (pos_of ta2 (by decide)) ?_
    refine x_call (as := [(1, a0), (1, a2)]) (rest := []) (cod_96 rfl) rfl rfl (by decide) (by decide) rfl rfl (Nat.le_of_ble_eq_true rfl) (rcv0 (sq_c_6_0 ta0) ta0 (by decide)) (Nat.le_of_ble_eq_true rfl) ?_
    refine X.imp H1 ?_
    rintro _ m3 ⟨rfl, H4⟩
    show X 96 162 [(1, a0), (1, a1), (1, a2), (1, a3), (0, a4), ua5, ua6] [] m3 _
    refine x_aldn (cod_96 rfl) rfl (pos_of ta0 (by decide)) ?_
    refine x_aldn (cod_96 rfl) rfl (pos_of ta1 (by decide)) ?_
    refine x_aldn (cod_96 rfl) rfl (pos_of ta2 (by decide)) ?_
    refine x_call (as := [(1, a0), (1, a1), (1, a2)]) (rest := []) (cod_96 rfl) rfl rfl (by decide) (by decide) rfl rfl (Nat.le_of_ble_eq_true rfl) (rcv0 (sq_c_6_0 ta0) ta0 (by decide)) (Nat.le_of_ble_eq_true rfl) ?_
    refine X.imp H4 ?_
    rintro _ m5 ⟨rfl, H6⟩
    show X 96 168 [(1, a0), (1, a1), (1, a2), (1, a3), (0, a4), ua5, ua6] [] m5 _
    refine x_retV (cod_96 rfl) rfl ?_
    exact H6
  · have H2 := H.1 (Classical.not_not.mp h)
    refine x_aldn (cod_96 rfl) rfl (pos_of ta2 (by decide)) ?_
    refine x_s (q := (.iload 4, 0, 0, 0)) (cod_96 rfl) rfl rfl rfl ?_
    obtain ⟨c7, H8⟩ := H2
    refine x_aldn (cod_96 rfl) rfl c7 ?_
    refine x_s (q := (.iload 4, 0, 0, 0)) (cod_96 rfl) rfl rfl rfl ?_
    obtain ⟨c9, H10⟩ := H8
    refine x_iald (cod_96 rfl) c9.1 c9.2 ?_
    obtain ⟨c11, H12⟩ := H10
    refine x_call (as := [(1, a2), (0, a4), (0, m a3 a4)]) (rest := []) (cod_96 rfl) rfl rfl (by decide) (by decide) rfl rfl (Nat.le_of_ble_eq_true rfl) (rcv0 (sq_c_0_0 ta2) ta2 (by decide)) (Nat.le_of_ble_eq_true rfl) ?_
    refine x_pure (p97 c11) ?_
    show X 96 101 [(1, a0), (1, a1), (1, a2), (1, a3), (0, a4), ua5, ua6] [(0, plC m a2 a4 (m a3 a4))] m _
    refine x_s (q := (.istore 5, 0, 0, 0)) (cod_96 rfl) rfl rfl rfl ?_
    refine x_s (q := (.iconst 0, 0, 0, 0)) (cod_96 rfl) rfl rfl rfl ?_
    refine x_s (q := (.istore 6, 0, 0, 0)) (cod_96 rfl) rfl rfl rfl ?_
    exact H12
set_option maxRecDepth 100000 in
theorem w96_106 {m : Mm} {K : Mm → Prop} (a0 : Int) (a1 : Int) (a2 : Int) (a3 : Int) (a4 : Int) (a5 : Int) (a6 : Int) (ta0 : shp a0 = 26) (ta1 : shp a1 = 30) (ta2 : shp a2 = 20)
  (H : (0 ≤ a4 ∧ a4 < 10) ∧ (a6 < (m (a2 + 27) a4) → (a5 < 0 → TrV 100 [(1, a0), (1, a1), (1, a2), (0, a4), (0, a6), (0, 1)] m fun m7 => X 96 106 [(1, a0), (1, a1), (1, a2), (1, a3), (0, a4), (0, a5), (0, wr (a6 + 1))] [] m7 (qV K)) ∧ (¬ a5 < 0 → (a5 = a6 → TrV 100 [(1, a0), (1, a1), (1, a2), (0, a4), (0, a6), (0, 1)] m fun m13 => X 96 106 [(1, a0), (1, a1), (1, a2), (1, a3), (0, a4), (0, a5), (0, wr (a6 + 1))] [] m13 (qV K)) ∧ (¬ a5 = a6 → TrV 100 [(1, a0), (1, a1), (1, a2), (0, a4), (0, a6), (0, 0)] m fun m11 => X 96 106 [(1, a0), (1, a1), (1, a2), (1, a3), (0, a4), (0, a5), (0, wr (a6 + 1))] [] m11 (qV K)))) ∧ (¬ a6 < (m (a2 + 27) a4) → X 96 82 [(1, a0), (1, a1), (1, a2), (1, a3), (0, wr (a4 + 1)), (0, a5), (0, a6)] [] m (qV K))) : X 96 106 [(1, a0), (1, a1), (1, a2), (1, a3), (0, a4), (0, a5), (0, a6)] [] m (qV K) := by
  refine x_s (q := (.iload 6, 0, 0, 0)) (cod_96 rfl) rfl rfl rfl ?_
  refine x_aldn (cod_96 rfl) rfl (pos_of ta2 (by decide)) ?_
  refine x_gc (kk := 6) (c := (a2 + 27)) (t := 1) (cod_96 rfl) ta2 (sq_c_0_6 ta2) rfl rfl ?_
  refine x_s (q := (.iload 4, 0, 0, 0)) (cod_96 rfl) rfl rfl rfl ?_
  obtain ⟨c1, H2⟩ := H
  refine x_iald (cod_96 rfl) (sq_ac_0_6 ta2).s ((sq_ac_0_6 ta2).k c1.1 c1.2) ?_
  refine x_ic (p := ¬ a6 < (m (a2 + 27) a4)) (tgt := 151) (cod_96 rfl) (by decide) xn_ge (fun h => ?_) (fun h => ?_)
  · have H3 := H2.2 h
    refine x_s (q := (.iinc 4 1, 0, 0, 0)) (cod_96 rfl) rfl rfl rfl ?_
    refine x_go (tgt := 82) (cod_96 rfl) (by decide) ?_
    exact H3
  · have H4 := H2.1 (Classical.not_not.mp h)
    refine x_aldn (cod_96 rfl) rfl (pos_of ta0 (by decide)) ?_
    refine x_aldn (cod_96 rfl) rfl (pos_of ta1 (by decide)) ?_
    refine x_aldn (cod_96 rfl) rfl (pos_of ta2 (by decide)) ?_
    refine x_s (q := (.iload 4, 0, 0, 0)) (cod_96 rfl) rfl rfl rfl ?_
    refine x_s (q := (.iload 6, 0, 0, 0)) (cod_96 rfl) rfl rfl rfl ?_
    refine x_s (q := (.iload 5, 0, 0, 0)) (cod_96 rfl) rfl rfl rfl ?_
    refine x_if (p := a5 < 0) (tgt := 137) (cod_96 rfl) (by decide) xj_lt (fun h => ?_) (fun h => ?_)
    · have H5 := H4.1 h
      refine x_s (q := (.iconst 1, 0, 0, 0)) (cod_96 rfl) rfl rfl rfl ?_
      refine x_go (tgt := 142) (cod_96 rfl) (by decide) ?_
      refine x_call (as := [(1, a0), (1, a1), (1, a2), (0, a4), (0, a6), (0, 1)]) (rest := []) (cod_96 rfl) rfl rfl (by decide) (by decide) rfl rfl (Nat.le_of_ble_eq_true rfl) (rcv0 (sq_c_6_0 ta0) ta0 (by decide)) (Nat.le_of_ble_eq_true rfl) ?_
      refine X.imp H5 ?_
      rintro _ m7 ⟨rfl, H8⟩
      show X 96 145 [(1, a0), (1, a1), (1, a2), (1, a3), (0, a4), (0, a5), (0, a6)] [] m7 _
      refine x_s (q := (.iinc 6 1, 0, 0, 0)) (cod_96 rfl) rfl rfl rfl ?_
      refine x_go (tgt := 106) (cod_96 rfl) (by decide) ?_
      exact H8
    · have H6 := H4.2 h
      refine x_s (q := (.iload 5, 0, 0, 0)) (cod_96 rfl) rfl rfl rfl ?_
      refine x_s (q := (.iload 6, 0, 0, 0)) (cod_96 rfl) rfl rfl rfl ?_
      refine x_ic (p := ¬ a5 = a6) (tgt := 141) (cod_96 rfl) (by decide) xj_ne (fun h => ?_) (fun h => ?_)
      · have H9 := H6.2 h
        refine x_s (q := (.iconst 0, 0, 0, 0)) (cod_96 rfl) rfl rfl rfl ?_
        refine x_call (as := [(1, a0), (1, a1), (1, a2), (0, a4), (0, a6), (0, 0)]) (rest := []) (cod_96 rfl) rfl rfl (by decide) (by decide) rfl rfl (Nat.le_of_ble_eq_true rfl) (rcv0 (sq_c_6_0 ta0) ta0 (by decide)) (Nat.le_of_ble_eq_true rfl) ?_
        refine X.imp H9 ?_
        rintro _ m11 ⟨rfl, H12⟩
        show X 96 145 [(1, a0), (1, a1), (1, a2), (1, a3), (0, a4), (0, a5), (0, a6)] [] m11 _
        refine x_s (q := (.iinc 6 1, 0, 0, 0)) (cod_96 rfl) rfl rfl rfl ?_
        refine x_go (tgt := 106) (cod_96 rfl) (by decide) ?_
        exact H12
      · have H10 := H6.1 (Classical.not_not.mp h)
        refine x_s (q := (.iconst 1, 0, 0, 0)) (cod_96 rfl) rfl rfl rfl ?_
        refine x_go (tgt := 142) (cod_96 rfl) (by decide) ?_
        refine x_call (as := [(1, a0), (1, a1), (1, a2), (0, a4), (0, a6), (0, 1)]) (rest := []) (cod_96 rfl) rfl rfl (by decide) (by decide) rfl rfl (Nat.le_of_ble_eq_true rfl) (rcv0 (sq_c_6_0 ta0) ta0 (by decide)) (Nat.le_of_ble_eq_true rfl) ?_
        refine X.imp H10 ?_
        rintro _ m13 ⟨rfl, H14⟩
        show X 96 145 [(1, a0), (1, a1), (1, a2), (1, a3), (0, a4), (0, a5), (0, a6)] [] m13 _
        refine x_s (q := (.iinc 6 1, 0, 0, 0)) (cod_96 rfl) rfl rfl rfl ?_
        refine x_go (tgt := 106) (cod_96 rfl) (by decide) ?_
        exact H14
set_option maxRecDepth 100000 in
theorem w98_0 {m : Mm} {K : Mm → Prop} (a0 : Int) (a1 : Int) (a2 : Int) (a3 : Int) (a4 : Int) (a5 : Int) (ta0 : shp a0 = 26) (ta1 : shp a1 = 30) (ta2 : shp a2 = 20)
  (H : ((wr (a3 + 1)) < (m a2 9) → X 98 29 [(1, a0), (1, a1), (1, a2), (0, a3), (0, a4), (0, a5), (0, 1000000), (2, 0), (9, 0), (0, 0), (9, 0)] [] m (qV K)) ∧ (¬ (wr (a3 + 1)) < (m a2 9) → X 98 118 [(1, a0), (1, a1), (1, a2), (0, a3), (0, a4), (0, a5), (0, 0), (2, 1), (9, 0), (9, 0), (9, 0)] [] m (qV K))) : X 98 0 [(1, a0), (1, a1), (1, a2), (0, a3), (0, a4), (0, a5), (9, 0), (9, 0), (9, 0), (9, 0), (9, 0)] [] m (qV K) := by
  refine x_s (q := (.ldc 63, 1000000, 0, 0)) (cod_98 rfl) rfl rfl rfl ?_
  refine x_s (q := (.istore 6, 0, 0, 0)) (cod_98 rfl) rfl rfl rfl ?_
  refine x_s (q := (.lconst 0, 0, 0, 0)) (cod_98 rfl) rfl rfl rfl ?_
  show X 98 5 [(1, a0), (1, a1), (1, a2), (0, a3), (0, a4), (0, a5), (0, 1000000), (9, 0), (9, 0), (9, 0), (9, 0)] [(2, 0)] m _
  refine x_s (q := (.lstore 7, 0, 0, 0)) (cod_98 rfl) rfl rfl rfl ?_
  refine x_s (q := (.iload_n 3, 0, 0, 0)) (cod_98 rfl) rfl rfl rfl ?_
  refine x_s (q := (.iconst 1, 0, 0, 0)) (cod_98 rfl) rfl rfl rfl ?_
  refine x_s (q := (.iadd, 0, 0, 0)) (cod_98 rfl) rfl rfl rfl ?_
  refine x_aldn (cod_98 rfl) rfl (pos_of ta2 (by decide)) ?_
  refine x_gf (kk := 9) (t := 0) (cod_98 rfl) ta2 (sq_c_0_9 ta2) rfl rfl ?_
  refine x_ic (p := (wr (a3 + 1)) < (m a2 9)) (tgt := 26) (cod_98 rfl) (by decide) xj_lt (fun h => ?_) (fun h => ?_)
  · have H1 := H.1 h
    refine x_s (q := (.iconst 0, 0, 0, 0)) (cod_98 rfl) rfl rfl rfl ?_
    refine x_s (q := (.istore 9, 0, 0, 0)) (cod_98 rfl) rfl rfl rfl ?_
    exact H1
  · have H2 := H.2 h
    refine x_s (q := (.iconst 0, 0, 0, 0)) (cod_98 rfl) rfl rfl rfl ?_
    refine x_s (q := (.istore 6, 0, 0, 0)) (cod_98 rfl) rfl rfl rfl ?_
    refine x_s (q := (.lconst 1, 0, 0, 0)) (cod_98 rfl) rfl rfl rfl ?_
    show X 98 21 [(1, a0), (1, a1), (1, a2), (0, a3), (0, a4), (0, a5), (0, 0), (2, 0), (9, 0), (9, 0), (9, 0)] [(2, 1)] m _
    refine x_s (q := (.lstore 7, 0, 0, 0)) (cod_98 rfl) rfl rfl rfl ?_
    refine x_go (tgt := 118) (cod_98 rfl) (by decide) ?_
    exact H2
theorem e98 {m : Mm} {K : Mm → Prop} (a0 : Int) (a1 : Int) (a2 : Int) (a3 : Int) (a4 : Int) (a5 : Int) (ta0 : shp a0 = 26) (ta1 : shp a1 = 30) (ta2 : shp a2 = 20)
  (H : ((wr (a3 + 1)) < (m a2 9) → X 98 29 [(1, a0), (1, a1), (1, a2), (0, a3), (0, a4), (0, a5), (0, 1000000), (2, 0), (9, 0), (0, 0), (9, 0)] [] m (qV K)) ∧ (¬ (wr (a3 + 1)) < (m a2 9) → X 98 118 [(1, a0), (1, a1), (1, a2), (0, a3), (0, a4), (0, a5), (0, 0), (2, 1), (9, 0), (9, 0), (9, 0)] [] m (qV K))) : TrV 98 [(1, a0), (1, a1), (1, a2), (0, a3), (0, a4), (0, a5)] m K := by
  exact w98_0 a0 a1 a2 a3 a4 a5 ta0 ta1 ta2 H
set_option maxRecDepth 100000 in
theorem w98_29 {m : Mm} {K : Mm → Prop} (a0 : Int) (a1 : Int) (a2 : Int) (a3 : Int) (a4 : Int) (a5 : Int) (a6 : Int) (a7 : Int) (a9 : Int) (ua10 : aV) (ta0 : shp a0 = 26) (ta1 : shp a1 = 30) (ta2 : shp a2 = 20)
  (H : (0 ≤ (wr (a3 + 1)) ∧ (wr (a3 + 1)) < 10) ∧ (a9 < (m (a2 + 27) (wr (a3 + 1))) → (0 ≤ a3 ∧ a3 < 10) ∧ (0 ≤ a4 ∧ a4 < 24) ∧ (0 ≤ a9 ∧ a9 < 24) ∧ v_T m a1 ∧ ((jnC m a1 (m (a2 + 29 + a3) a4) (m (a2 + 29 + (wr (a3 + 1))) a9)) < 1000000 → X 98 29 [(1, a0), (1, a1), (1, a2), (0, a3), (0, a4), (0, a5), (0, min a6 (wr ((jnC m a1 (m (a2 + 29 + a3) a4) (m (a2 + 29 + (wr (a3 + 1))) a9)) + (m (a0 + 14 + (wr (a3 + 1))) a9)))), (2, wl (a7 + (m (a0 + 25 + (wr (a3 + 1))) a9))), (9, 0), (0, wr (a9 + 1)), (0, jnC m a1 (m (a2 + 29 + a3) a4) (m (a2 + 29 + (wr (a3 + 1))) a9))] [] m (qV K)) ∧ (¬ (jnC m a1 (m (a2 + 29 + a3) a4) (m (a2 + 29 + (wr (a3 + 1))) a9)) < 1000000 → X 98 29 [(1, a0), (1, a1), (1, a2), (0, a3), (0, a4), (0, a5), (0, a6), (2, a7), (9, 0), (0, wr (a9 + 1)), (0, jnC m a1 (m (a2 + 29 + a3) a4) (m (a2 + 29 + (wr (a3 + 1))) a9))] [] m (qV K))) ∧ (¬ a9 < (m (a2 + 27) (wr (a3 + 1))) → X 98 118 [(1, a0), (1, a1), (1, a2), (0, a3), (0, a4), (0, a5), (0, a6), (2, a7), (9, 0), (0, a9), ua10] [] m (qV K))) : X 98 29 [(1, a0), (1, a1), (1, a2), (0, a3), (0, a4), (0, a5), (0, a6), (2, a7), (9, 0), (0, a9), ua10] [] m (qV K) := by
  refine x_s (q := (.iload 9, 0, 0, 0)) (cod_98 rfl) rfl rfl rfl ?_
  refine x_aldn (cod_98 rfl) rfl (pos_of ta2 (by decide)) ?_
  refine x_gc (kk := 6) (c := (a2 + 27)) (t := 1) (cod_98 rfl) ta2 (sq_c_0_6 ta2) rfl rfl ?_
  refine x_s (q := (.iload_n 3, 0, 0, 0)) (cod_98 rfl) rfl rfl rfl ?_
  refine x_s (q := (.iconst 1, 0, 0, 0)) (cod_98 rfl) rfl rfl rfl ?_
  refine x_s (q := (.iadd, 0, 0, 0)) (cod_98 rfl) rfl rfl rfl ?_
  obtain ⟨c1, H2⟩ := H
  refine x_iald (cod_98 rfl) (sq_ac_0_6 ta2).s ((sq_ac_0_6 ta2).k c1.1 c1.2) ?_
  refine x_ic (p := ¬ a9 < (m (a2 + 27) (wr (a3 + 1)))) (tgt := 118) (cod_98 rfl) (by decide) xn_ge (fun h => ?_) (fun h => ?_)
  · have H3 := H2.2 h
    exact H3
  · have H4 := H2.1 (Classical.not_not.mp h)
    refine x_aldn (cod_98 rfl) rfl (pos_of ta1 (by decide)) ?_
    refine x_aldn (cod_98 rfl) rfl (pos_of ta2 (by decide)) ?_
    refine x_gc (kk := 7) (c := (a2 + 28)) (t := 1) (cod_98 rfl) ta2 (sq_c_0_7 ta2) rfl rfl ?_
    refine x_s (q := (.iload_n 3, 0, 0, 0)) (cod_98 rfl) rfl rfl rfl ?_
    obtain ⟨c5, H6⟩ := H4
    refine x_aaldc (c := (a2 + 29 + a3)) (cod_98 rfl) (by rw [(sq_roc_0_7 (j := a3) ta2 c5.1 c5.2).2]; decide) (sq_roc_0_7 (j := a3) ta2 c5.1 c5.2).1 ?_
    refine x_s (q := (.iload 4, 0, 0, 0)) (cod_98 rfl) rfl rfl rfl ?_
    obtain ⟨c7, H8⟩ := H6
    refine x_iald (cod_98 rfl) (sq_rwc_0_7 (j := a3) ta2 c5.1 c5.2).s ((sq_rwc_0_7 (j := a3) ta2 c5.1 c5.2).k c7.1 c7.2) ?_
    refine x_aldn (cod_98 rfl) rfl (pos_of ta2 (by decide)) ?_
    refine x_gc (kk := 7) (c := (a2 + 28)) (t := 1) (cod_98 rfl) ta2 (sq_c_0_7 ta2) rfl rfl ?_
    refine x_s (q := (.iload_n 3, 0, 0, 0)) (cod_98 rfl) rfl rfl rfl ?_
    refine x_s (q := (.iconst 1, 0, 0, 0)) (cod_98 rfl) rfl rfl rfl ?_
    refine x_s (q := (.iadd, 0, 0, 0)) (cod_98 rfl) rfl rfl rfl ?_
    refine x_aaldc (c := (a2 + 29 + (wr (a3 + 1)))) (cod_98 rfl) (by rw [(sq_roc_0_7 (j := wr (a3 + 1)) ta2 c1.1 c1.2).2]; decide) (sq_roc_0_7 (j := wr (a3 + 1)) ta2 c1.1 c1.2).1 ?_
    refine x_s (q := (.iload 9, 0, 0, 0)) (cod_98 rfl) rfl rfl rfl ?_
    obtain ⟨c9, H10⟩ := H8
    refine x_iald (cod_98 rfl) (sq_rwc_0_7 (j := wr (a3 + 1)) ta2 c1.1 c1.2).s ((sq_rwc_0_7 (j := wr (a3 + 1)) ta2 c1.1 c1.2).k c9.1 c9.2) ?_
    obtain ⟨c11, H12⟩ := H10
    refine x_call (as := [(1, a1), (0, m (a2 + 29 + a3) a4), (0, m (a2 + 29 + (wr (a3 + 1))) a9)]) (rest := []) (cod_98 rfl) rfl rfl (by decide) (by decide) rfl rfl (Nat.le_of_ble_eq_true rfl) (rcv0 (sq_c_10_0 ta1) ta1 (by decide)) (Nat.le_of_ble_eq_true rfl) ?_
    refine x_pure (p99 c11) ?_
    show X 98 66 [(1, a0), (1, a1), (1, a2), (0, a3), (0, a4), (0, a5), (0, a6), (2, a7), (9, 0), (0, a9), ua10] [(0, jnC m a1 (m (a2 + 29 + a3) a4) (m (a2 + 29 + (wr (a3 + 1))) a9))] m _
    refine x_s (q := (.istore 10, 0, 0, 0)) (cod_98 rfl) rfl rfl rfl ?_
    refine x_s (q := (.iload 10, 0, 0, 0)) (cod_98 rfl) rfl rfl rfl ?_
    refine x_s (q := (.ldc 63, 1000000, 0, 0)) (cod_98 rfl) rfl rfl rfl ?_
    refine x_ic (p := ¬ (jnC m a1 (m (a2 + 29 + a3) a4) (m (a2 + 29 + (wr (a3 + 1))) a9)) < 1000000) (tgt := 112) (cod_98 rfl) (by decide) xn_ge (fun h => ?_) (fun h => ?_)
    · have H13 := H12.2 h
      refine x_s (q := (.iinc 9 1, 0, 0, 0)) (cod_98 rfl) rfl rfl rfl ?_
      refine x_go (tgt := 29) (cod_98 rfl) (by decide) ?_
      exact H13
    · have H14 := H12.1 (Classical.not_not.mp h)
      refine x_s (q := (.iload 6, 0, 0, 0)) (cod_98 rfl) rfl rfl rfl ?_
      refine x_s (q := (.iload 10, 0, 0, 0)) (cod_98 rfl) rfl rfl rfl ?_
      refine x_aldn (cod_98 rfl) rfl (pos_of ta0 (by decide)) ?_
      refine x_gc (kk := 4) (c := (a0 + 13)) (t := 1) (cod_98 rfl) ta0 (sq_c_6_4 ta0) rfl rfl ?_
      refine x_s (q := (.iload_n 3, 0, 0, 0)) (cod_98 rfl) rfl rfl rfl ?_
      refine x_s (q := (.iconst 1, 0, 0, 0)) (cod_98 rfl) rfl rfl rfl ?_
      refine x_s (q := (.iadd, 0, 0, 0)) (cod_98 rfl) rfl rfl rfl ?_
      refine x_aaldc (c := (a0 + 14 + (wr (a3 + 1)))) (cod_98 rfl) (by rw [(sq_roc_6_4 (j := wr (a3 + 1)) ta0 c1.1 c1.2).2]; decide) (sq_roc_6_4 (j := wr (a3 + 1)) ta0 c1.1 c1.2).1 ?_
      refine x_s (q := (.iload 9, 0, 0, 0)) (cod_98 rfl) rfl rfl rfl ?_
      refine x_iald (cod_98 rfl) (sq_rwc_6_4 (j := wr (a3 + 1)) ta0 c1.1 c1.2).s ((sq_rwc_6_4 (j := wr (a3 + 1)) ta0 c1.1 c1.2).k c9.1 c9.2) ?_
      refine x_s (q := (.iadd, 0, 0, 0)) (cod_98 rfl) rfl rfl rfl ?_
      refine x_m7 (cod_98 rfl) rfl rfl (Nat.le_of_ble_eq_true rfl) ?_
      refine x_s (q := (.istore 6, 0, 0, 0)) (cod_98 rfl) rfl rfl rfl ?_
      refine x_s (q := (.lload 7, 0, 0, 0)) (cod_98 rfl) rfl rfl rfl ?_
      refine x_aldn (cod_98 rfl) rfl (pos_of ta0 (by decide)) ?_
      refine x_gc (kk := 5) (c := (a0 + 24)) (t := 1) (cod_98 rfl) ta0 (sq_c_6_5 ta0) rfl rfl ?_
      refine x_s (q := (.iload_n 3, 0, 0, 0)) (cod_98 rfl) rfl rfl rfl ?_
      refine x_s (q := (.iconst 1, 0, 0, 0)) (cod_98 rfl) rfl rfl rfl ?_
      refine x_s (q := (.iadd, 0, 0, 0)) (cod_98 rfl) rfl rfl rfl ?_
      refine x_aaldc (c := (a0 + 25 + (wr (a3 + 1)))) (cod_98 rfl) (by rw [(sq_roc_6_5 (j := wr (a3 + 1)) ta0 c1.1 c1.2).2]; decide) (sq_roc_6_5 (j := wr (a3 + 1)) ta0 c1.1 c1.2).1 ?_
      refine x_s (q := (.iload 9, 0, 0, 0)) (cod_98 rfl) rfl rfl rfl ?_
      refine x_laldm (cod_98 rfl) (sq_rwc_6_5 (j := wr (a3 + 1)) ta0 c1.1 c1.2).s ((sq_rwc_6_5 (j := wr (a3 + 1)) ta0 c1.1 c1.2).k c9.1 c9.2) ?_
      refine x_s (q := (.ladd, 0, 0, 0)) (cod_98 rfl) rfl rfl rfl ?_
      refine x_s (q := (.lstore 7, 0, 0, 0)) (cod_98 rfl) rfl rfl rfl ?_
      refine x_s (q := (.iinc 9 1, 0, 0, 0)) (cod_98 rfl) rfl rfl rfl ?_
      refine x_go (tgt := 29) (cod_98 rfl) (by decide) ?_
      exact H14
set_option maxRecDepth 100000 in
theorem w98_118 {m : Mm} {K : Mm → Prop} (a0 : Int) (ua1 : aV) (a2 : Int) (a3 : Int) (a4 : Int) (a5 : Int) (a6 : Int) (a7 : Int) (ua9 : aV) (ua10 : aV) (ta0 : shp a0 = 26) (ta2 : shp a2 = 20)
  (H : (0 ≤ a3 ∧ a3 < 10) ∧ (a5 = 0 → X 98 153 [(1, a0), ua1, (1, a2), (0, a3), (0, a4), (0, a5), (0, a6), (2, a7), (9, 0), ua9, ua10] [(0, 1000000), (0, a4), (1, (a0 + 14 + a3))] m (qV K)) ∧ (¬ a5 = 0 → (0 ≤ a4 ∧ a4 < 24) ∧ X 98 153 [(1, a0), ua1, (1, a2), (0, a3), (0, a4), (0, a5), (0, a6), (2, a7), (9, 0), ua9, ua10] [(0, min 1000000 (wr (a6 + (m (a2 + 40 + a3) a4)))), (0, a4), (1, (a0 + 14 + a3))] m (qV K))) : X 98 118 [(1, a0), ua1, (1, a2), (0, a3), (0, a4), (0, a5), (0, a6), (2, a7), (9, 0), ua9, ua10] [] m (qV K) := by
  refine x_aldn (cod_98 rfl) rfl (pos_of ta0 (by decide)) ?_
  refine x_gc (kk := 4) (c := (a0 + 13)) (t := 1) (cod_98 rfl) ta0 (sq_c_6_4 ta0) rfl rfl ?_
  refine x_s (q := (.iload_n 3, 0, 0, 0)) (cod_98 rfl) rfl rfl rfl ?_
  obtain ⟨c1, H2⟩ := H
  refine x_aaldc (c := (a0 + 14 + a3)) (cod_98 rfl) (by rw [(sq_roc_6_4 (j := a3) ta0 c1.1 c1.2).2]; decide) (sq_roc_6_4 (j := a3) ta0 c1.1 c1.2).1 ?_
  refine x_s (q := (.iload 4, 0, 0, 0)) (cod_98 rfl) rfl rfl rfl ?_
  refine x_s (q := (.iload 5, 0, 0, 0)) (cod_98 rfl) rfl rfl rfl ?_
  refine x_if (p := a5 = 0) (tgt := 151) (cod_98 rfl) (by decide) xj_eq (fun h => ?_) (fun h => ?_)
  · have H3 := H2.1 h
    refine x_s (q := (.ldc 63, 1000000, 0, 0)) (cod_98 rfl) rfl rfl rfl ?_
    exact H3
  · have H4 := H2.2 h
    refine x_s (q := (.ldc 63, 1000000, 0, 0)) (cod_98 rfl) rfl rfl rfl ?_
    refine x_s (q := (.iload 6, 0, 0, 0)) (cod_98 rfl) rfl rfl rfl ?_
    refine x_aldn (cod_98 rfl) rfl (pos_of ta2 (by decide)) ?_
    refine x_gc (kk := 8) (c := (a2 + 39)) (t := 1) (cod_98 rfl) ta2 (sq_c_0_8 ta2) rfl rfl ?_
    refine x_s (q := (.iload_n 3, 0, 0, 0)) (cod_98 rfl) rfl rfl rfl ?_
    refine x_aaldc (c := (a2 + 40 + a3)) (cod_98 rfl) (by rw [(sq_roc_0_8 (j := a3) ta2 c1.1 c1.2).2]; decide) (sq_roc_0_8 (j := a3) ta2 c1.1 c1.2).1 ?_
    refine x_s (q := (.iload 4, 0, 0, 0)) (cod_98 rfl) rfl rfl rfl ?_
    obtain ⟨c5, H6⟩ := H4
    refine x_iald (cod_98 rfl) (sq_rwc_0_8 (j := a3) ta2 c1.1 c1.2).s ((sq_rwc_0_8 (j := a3) ta2 c1.1 c1.2).k c5.1 c5.2) ?_
    refine x_s (q := (.iadd, 0, 0, 0)) (cod_98 rfl) rfl rfl rfl ?_
    refine x_m7 (cod_98 rfl) rfl rfl (Nat.le_of_ble_eq_true rfl) ?_
    refine x_go (tgt := 153) (cod_98 rfl) (by decide) ?_
    exact H6
set_option maxRecDepth 100000 in
theorem w98_153 {m : Mm} {K : Mm → Prop} (a0 : Int) (ua1 : aV) (ua2 : aV) (a3 : Int) (a4 : Int) (a5 : Int) (ua6 : aV) (a7 : Int) (ua9 : aV) (ua10 : aV) (s0 : Int) (s1 : Int) (s2 : Int) (ta0 : shp a0 = 26)
  (H : (shp s0 = 0 ∧ slot s0 s1 = some none) ∧ ∀ m3, m3 = umem m s0 s1 s2 → (0 ≤ a3 ∧ a3 < 10) ∧ (a5 = 0 → (0 ≤ a4 ∧ a4 < 24) ∧ ∀ m11, m11 = umem m3 (a0 + 25 + a3) a4 0 → K m11) ∧ (¬ a5 = 0 → (0 ≤ a4 ∧ a4 < 24) ∧ ∀ m15, m15 = umem m3 (a0 + 25 + a3) a4 a7 → K m15)) : X 98 153 [(1, a0), ua1, ua2, (0, a3), (0, a4), (0, a5), ua6, (2, a7), (9, 0), ua9, ua10] [(0, s2), (0, s1), (1, s0)] m (qV K) := by
  obtain ⟨c1, H2⟩ := H
  refine x_iast (cod_98 rfl) c1.1 c1.2 ?_
  have H4 := H2 _ rfl
  generalize umem m s0 s1 s2 = m3 at H4 ⊢
  refine x_aldn (cod_98 rfl) rfl (pos_of ta0 (by decide)) ?_
  refine x_gc (kk := 5) (c := (a0 + 24)) (t := 1) (cod_98 rfl) ta0 (sq_c_6_5 ta0) rfl rfl ?_
  refine x_s (q := (.iload_n 3, 0, 0, 0)) (cod_98 rfl) rfl rfl rfl ?_
  obtain ⟨c5, H6⟩ := H4
  refine x_aaldc (c := (a0 + 25 + a3)) (cod_98 rfl) (by rw [(sq_roc_6_5 (j := a3) ta0 c5.1 c5.2).2]; decide) (sq_roc_6_5 (j := a3) ta0 c5.1 c5.2).1 ?_
  refine x_s (q := (.iload 4, 0, 0, 0)) (cod_98 rfl) rfl rfl rfl ?_
  refine x_s (q := (.iload 5, 0, 0, 0)) (cod_98 rfl) rfl rfl rfl ?_
  refine x_if (p := a5 = 0) (tgt := 172) (cod_98 rfl) (by decide) xj_eq (fun h => ?_) (fun h => ?_)
  · have H7 := H6.1 h
    refine x_s (q := (.lconst 0, 0, 0, 0)) (cod_98 rfl) rfl rfl rfl ?_
    show X 98 173 [(1, a0), ua1, ua2, (0, a3), (0, a4), (0, a5), ua6, (2, a7), (9, 0), ua9, ua10] [(2, 0), (0, a4), (1, (a0 + 25 + a3))] m3 _
    obtain ⟨c9, H10⟩ := H7
    refine x_last (cod_98 rfl) (sq_rwc_6_5 (j := a3) ta0 c5.1 c5.2).s ((sq_rwc_6_5 (j := a3) ta0 c5.1 c5.2).k c9.1 c9.2) ?_
    have H12 := H10 _ rfl
    generalize umem m3 (a0 + 25 + a3) a4 0 = m11 at H12 ⊢
    refine x_retV (cod_98 rfl) rfl ?_
    exact H12
  · have H8 := H6.2 h
    refine x_s (q := (.lload 7, 0, 0, 0)) (cod_98 rfl) rfl rfl rfl ?_
    refine x_go (tgt := 173) (cod_98 rfl) (by decide) ?_
    obtain ⟨c13, H14⟩ := H8
    refine x_last (cod_98 rfl) (sq_rwc_6_5 (j := a3) ta0 c5.1 c5.2).s ((sq_rwc_6_5 (j := a3) ta0 c5.1 c5.2).k c13.1 c13.2) ?_
    have H16 := H14 _ rfl
    generalize umem m3 (a0 + 25 + a3) a4 a7 = m15 at H16 ⊢
    refine x_retV (cod_98 rfl) rfl ?_
    exact H16
set_option maxRecDepth 100000 in
theorem w100_0 {m : Mm} {K : Mm → Prop} (a0 : Int) (a1 : Int) (a2 : Int) (a3 : Int) (a4 : Int) (a5 : Int) (ta0 : shp a0 = 26) (ta1 : shp a1 = 30) (ta2 : shp a2 = 20)
  (H : (a3 = 0 → X 100 83 [(1, a0), (1, a1), (1, a2), (0, a3), (0, a4), (0, a5), (0, 0), (9, 0), (9, 0)] [] m (qV K)) ∧ (¬ a3 = 0 → X 100 17 [(1, a0), (1, a1), (1, a2), (0, a3), (0, a4), (0, a5), (0, 1000000), (0, 0), (9, 0)] [] m (qV K))) : X 100 0 [(1, a0), (1, a1), (1, a2), (0, a3), (0, a4), (0, a5), (9, 0), (9, 0), (9, 0)] [] m (qV K) := by
  refine x_s (q := (.ldc 63, 1000000, 0, 0)) (cod_100 rfl) rfl rfl rfl ?_
  refine x_s (q := (.istore 6, 0, 0, 0)) (cod_100 rfl) rfl rfl rfl ?_
  refine x_s (q := (.iload_n 3, 0, 0, 0)) (cod_100 rfl) rfl rfl rfl ?_
  refine x_if (p := ¬ a3 = 0) (tgt := 14) (cod_100 rfl) (by decide) xj_ne (fun h => ?_) (fun h => ?_)
  · have H1 := H.2 h
    refine x_s (q := (.iconst 0, 0, 0, 0)) (cod_100 rfl) rfl rfl rfl ?_
    refine x_s (q := (.istore 7, 0, 0, 0)) (cod_100 rfl) rfl rfl rfl ?_
    exact H1
  · have H2 := H.1 (Classical.not_not.mp h)
    refine x_s (q := (.iconst 0, 0, 0, 0)) (cod_100 rfl) rfl rfl rfl ?_
    refine x_s (q := (.istore 6, 0, 0, 0)) (cod_100 rfl) rfl rfl rfl ?_
    refine x_go (tgt := 83) (cod_100 rfl) (by decide) ?_
    exact H2
theorem e100 {m : Mm} {K : Mm → Prop} (a0 : Int) (a1 : Int) (a2 : Int) (a3 : Int) (a4 : Int) (a5 : Int) (ta0 : shp a0 = 26) (ta1 : shp a1 = 30) (ta2 : shp a2 = 20)
  (H : (a3 = 0 → X 100 83 [(1, a0), (1, a1), (1, a2), (0, a3), (0, a4), (0, a5), (0, 0), (9, 0), (9, 0)] [] m (qV K)) ∧ (¬ a3 = 0 → X 100 17 [(1, a0), (1, a1), (1, a2), (0, a3), (0, a4), (0, a5), (0, 1000000), (0, 0), (9, 0)] [] m (qV K))) : TrV 100 [(1, a0), (1, a1), (1, a2), (0, a3), (0, a4), (0, a5)] m K := by
  exact w100_0 a0 a1 a2 a3 a4 a5 ta0 ta1 ta2 H
set_option maxRecDepth 100000 in
theorem w100_17 {m : Mm} {K : Mm → Prop} (a0 : Int) (a1 : Int) (a2 : Int) (a3 : Int) (a4 : Int) (a5 : Int) (a6 : Int) (a7 : Int) (ua8 : aV) (ta0 : shp a0 = 26) (ta1 : shp a1 = 30) (ta2 : shp a2 = 20)
  (H : (0 ≤ (wr (a3 - 1)) ∧ (wr (a3 - 1)) < 10) ∧ (a7 < (m (a2 + 27) (wr (a3 - 1))) → (0 ≤ a7 ∧ a7 < 24) ∧ (0 ≤ a3 ∧ a3 < 10) ∧ (0 ≤ a4 ∧ a4 < 24) ∧ v_T m a1 ∧ X 100 17 [(1, a0), (1, a1), (1, a2), (0, a3), (0, a4), (0, a5), (0, min a6 (wr ((jnC m a1 (m (a2 + 29 + (wr (a3 - 1))) a7) (m (a2 + 29 + a3) a4)) + (m (a0 + 3 + (wr (a3 - 1))) a7)))), (0, wr (a7 + 1)), (0, jnC m a1 (m (a2 + 29 + (wr (a3 - 1))) a7) (m (a2 + 29 + a3) a4))] [] m (qV K)) ∧ (¬ a7 < (m (a2 + 27) (wr (a3 - 1))) → X 100 83 [(1, a0), (1, a1), (1, a2), (0, a3), (0, a4), (0, a5), (0, a6), (0, a7), ua8] [] m (qV K))) : X 100 17 [(1, a0), (1, a1), (1, a2), (0, a3), (0, a4), (0, a5), (0, a6), (0, a7), ua8] [] m (qV K) := by
  refine x_s (q := (.iload 7, 0, 0, 0)) (cod_100 rfl) rfl rfl rfl ?_
  refine x_aldn (cod_100 rfl) rfl (pos_of ta2 (by decide)) ?_
  refine x_gc (kk := 6) (c := (a2 + 27)) (t := 1) (cod_100 rfl) ta2 (sq_c_0_6 ta2) rfl rfl ?_
  refine x_s (q := (.iload_n 3, 0, 0, 0)) (cod_100 rfl) rfl rfl rfl ?_
  refine x_s (q := (.iconst 1, 0, 0, 0)) (cod_100 rfl) rfl rfl rfl ?_
  refine x_s (q := (.isub, 0, 0, 0)) (cod_100 rfl) rfl rfl rfl ?_
  obtain ⟨c1, H2⟩ := H
  refine x_iald (cod_100 rfl) (sq_ac_0_6 ta2).s ((sq_ac_0_6 ta2).k c1.1 c1.2) ?_
  refine x_ic (p := ¬ a7 < (m (a2 + 27) (wr (a3 - 1)))) (tgt := 83) (cod_100 rfl) (by decide) xn_ge (fun h => ?_) (fun h => ?_)
  · have H3 := H2.2 h
    exact H3
  · have H4 := H2.1 (Classical.not_not.mp h)
    refine x_aldn (cod_100 rfl) rfl (pos_of ta1 (by decide)) ?_
    refine x_aldn (cod_100 rfl) rfl (pos_of ta2 (by decide)) ?_
    refine x_gc (kk := 7) (c := (a2 + 28)) (t := 1) (cod_100 rfl) ta2 (sq_c_0_7 ta2) rfl rfl ?_
    refine x_s (q := (.iload_n 3, 0, 0, 0)) (cod_100 rfl) rfl rfl rfl ?_
    refine x_s (q := (.iconst 1, 0, 0, 0)) (cod_100 rfl) rfl rfl rfl ?_
    refine x_s (q := (.isub, 0, 0, 0)) (cod_100 rfl) rfl rfl rfl ?_
    refine x_aaldc (c := (a2 + 29 + (wr (a3 - 1)))) (cod_100 rfl) (by rw [(sq_roc_0_7 (j := wr (a3 - 1)) ta2 c1.1 c1.2).2]; decide) (sq_roc_0_7 (j := wr (a3 - 1)) ta2 c1.1 c1.2).1 ?_
    refine x_s (q := (.iload 7, 0, 0, 0)) (cod_100 rfl) rfl rfl rfl ?_
    obtain ⟨c5, H6⟩ := H4
    refine x_iald (cod_100 rfl) (sq_rwc_0_7 (j := wr (a3 - 1)) ta2 c1.1 c1.2).s ((sq_rwc_0_7 (j := wr (a3 - 1)) ta2 c1.1 c1.2).k c5.1 c5.2) ?_
    refine x_aldn (cod_100 rfl) rfl (pos_of ta2 (by decide)) ?_
    refine x_gc (kk := 7) (c := (a2 + 28)) (t := 1) (cod_100 rfl) ta2 (sq_c_0_7 ta2) rfl rfl ?_
    refine x_s (q := (.iload_n 3, 0, 0, 0)) (cod_100 rfl) rfl rfl rfl ?_
    obtain ⟨c7, H8⟩ := H6
    refine x_aaldc (c := (a2 + 29 + a3)) (cod_100 rfl) (by rw [(sq_roc_0_7 (j := a3) ta2 c7.1 c7.2).2]; decide) (sq_roc_0_7 (j := a3) ta2 c7.1 c7.2).1 ?_
    refine x_s (q := (.iload 4, 0, 0, 0)) (cod_100 rfl) rfl rfl rfl ?_
    obtain ⟨c9, H10⟩ := H8
    refine x_iald (cod_100 rfl) (sq_rwc_0_7 (j := a3) ta2 c7.1 c7.2).s ((sq_rwc_0_7 (j := a3) ta2 c7.1 c7.2).k c9.1 c9.2) ?_
    obtain ⟨c11, H12⟩ := H10
    refine x_call (as := [(1, a1), (0, m (a2 + 29 + (wr (a3 - 1))) a7), (0, m (a2 + 29 + a3) a4)]) (rest := []) (cod_100 rfl) rfl rfl (by decide) (by decide) rfl rfl (Nat.le_of_ble_eq_true rfl) (rcv0 (sq_c_10_0 ta1) ta1 (by decide)) (Nat.le_of_ble_eq_true rfl) ?_
    refine x_pure (p99 c11) ?_
    show X 100 54 [(1, a0), (1, a1), (1, a2), (0, a3), (0, a4), (0, a5), (0, a6), (0, a7), ua8] [(0, jnC m a1 (m (a2 + 29 + (wr (a3 - 1))) a7) (m (a2 + 29 + a3) a4))] m _
    refine x_s (q := (.istore 8, 0, 0, 0)) (cod_100 rfl) rfl rfl rfl ?_
    refine x_s (q := (.iload 6, 0, 0, 0)) (cod_100 rfl) rfl rfl rfl ?_
    refine x_s (q := (.iload 8, 0, 0, 0)) (cod_100 rfl) rfl rfl rfl ?_
    refine x_aldn (cod_100 rfl) rfl (pos_of ta0 (by decide)) ?_
    refine x_gc (kk := 3) (c := (a0 + 2)) (t := 1) (cod_100 rfl) ta0 (sq_c_6_3 ta0) rfl rfl ?_
    refine x_s (q := (.iload_n 3, 0, 0, 0)) (cod_100 rfl) rfl rfl rfl ?_
    refine x_s (q := (.iconst 1, 0, 0, 0)) (cod_100 rfl) rfl rfl rfl ?_
    refine x_s (q := (.isub, 0, 0, 0)) (cod_100 rfl) rfl rfl rfl ?_
    refine x_aaldc (c := (a0 + 3 + (wr (a3 - 1)))) (cod_100 rfl) (by rw [(sq_roc_6_3 (j := wr (a3 - 1)) ta0 c1.1 c1.2).2]; decide) (sq_roc_6_3 (j := wr (a3 - 1)) ta0 c1.1 c1.2).1 ?_
    refine x_s (q := (.iload 7, 0, 0, 0)) (cod_100 rfl) rfl rfl rfl ?_
    refine x_iald (cod_100 rfl) (sq_rwc_6_3 (j := wr (a3 - 1)) ta0 c1.1 c1.2).s ((sq_rwc_6_3 (j := wr (a3 - 1)) ta0 c1.1 c1.2).k c5.1 c5.2) ?_
    refine x_s (q := (.iadd, 0, 0, 0)) (cod_100 rfl) rfl rfl rfl ?_
    refine x_m7 (cod_100 rfl) rfl rfl (Nat.le_of_ble_eq_true rfl) ?_
    refine x_s (q := (.istore 6, 0, 0, 0)) (cod_100 rfl) rfl rfl rfl ?_
    refine x_s (q := (.iinc 7 1, 0, 0, 0)) (cod_100 rfl) rfl rfl rfl ?_
    refine x_go (tgt := 17) (cod_100 rfl) (by decide) ?_
    exact H12
set_option maxRecDepth 100000 in
theorem w100_83 {m : Mm} {K : Mm → Prop} (a0 : Int) (ua1 : aV) (a2 : Int) (a3 : Int) (a4 : Int) (a5 : Int) (a6 : Int) (ua7 : aV) (ua8 : aV) (ta0 : shp a0 = 26) (ta2 : shp a2 = 20)
  (H : (0 ≤ a3 ∧ a3 < 10) ∧ (a5 = 0 → (0 ≤ a4 ∧ a4 < 24) ∧ ∀ m7, m7 = umem m (a0 + 3 + a3) a4 1000000 → K m7) ∧ (¬ a5 = 0 → (0 ≤ a4 ∧ a4 < 24) ∧ ∀ m11, m11 = umem m (a0 + 3 + a3) a4 (min 1000000 (wr (a6 + (m (a2 + 40 + a3) a4)))) → K m11)) : X 100 83 [(1, a0), ua1, (1, a2), (0, a3), (0, a4), (0, a5), (0, a6), ua7, ua8] [] m (qV K) := by
  refine x_aldn (cod_100 rfl) rfl (pos_of ta0 (by decide)) ?_
  refine x_gc (kk := 3) (c := (a0 + 2)) (t := 1) (cod_100 rfl) ta0 (sq_c_6_3 ta0) rfl rfl ?_
  refine x_s (q := (.iload_n 3, 0, 0, 0)) (cod_100 rfl) rfl rfl rfl ?_
  obtain ⟨c1, H2⟩ := H
  refine x_aaldc (c := (a0 + 3 + a3)) (cod_100 rfl) (by rw [(sq_roc_6_3 (j := a3) ta0 c1.1 c1.2).2]; decide) (sq_roc_6_3 (j := a3) ta0 c1.1 c1.2).1 ?_
  refine x_s (q := (.iload 4, 0, 0, 0)) (cod_100 rfl) rfl rfl rfl ?_
  refine x_s (q := (.iload 5, 0, 0, 0)) (cod_100 rfl) rfl rfl rfl ?_
  refine x_if (p := a5 = 0) (tgt := 116) (cod_100 rfl) (by decide) xj_eq (fun h => ?_) (fun h => ?_)
  · have H3 := H2.1 h
    refine x_s (q := (.ldc 63, 1000000, 0, 0)) (cod_100 rfl) rfl rfl rfl ?_
    obtain ⟨c5, H6⟩ := H3
    refine x_iast (cod_100 rfl) (sq_rwc_6_3 (j := a3) ta0 c1.1 c1.2).s ((sq_rwc_6_3 (j := a3) ta0 c1.1 c1.2).k c5.1 c5.2) ?_
    have H8 := H6 _ rfl
    generalize umem m (a0 + 3 + a3) a4 1000000 = m7 at H8 ⊢
    refine x_retV (cod_100 rfl) rfl ?_
    exact H8
  · have H4 := H2.2 h
    refine x_s (q := (.ldc 63, 1000000, 0, 0)) (cod_100 rfl) rfl rfl rfl ?_
    refine x_s (q := (.iload 6, 0, 0, 0)) (cod_100 rfl) rfl rfl rfl ?_
    refine x_aldn (cod_100 rfl) rfl (pos_of ta2 (by decide)) ?_
    refine x_gc (kk := 8) (c := (a2 + 39)) (t := 1) (cod_100 rfl) ta2 (sq_c_0_8 ta2) rfl rfl ?_
    refine x_s (q := (.iload_n 3, 0, 0, 0)) (cod_100 rfl) rfl rfl rfl ?_
    refine x_aaldc (c := (a2 + 40 + a3)) (cod_100 rfl) (by rw [(sq_roc_0_8 (j := a3) ta2 c1.1 c1.2).2]; decide) (sq_roc_0_8 (j := a3) ta2 c1.1 c1.2).1 ?_
    refine x_s (q := (.iload 4, 0, 0, 0)) (cod_100 rfl) rfl rfl rfl ?_
    obtain ⟨c9, H10⟩ := H4
    refine x_iald (cod_100 rfl) (sq_rwc_0_8 (j := a3) ta2 c1.1 c1.2).s ((sq_rwc_0_8 (j := a3) ta2 c1.1 c1.2).k c9.1 c9.2) ?_
    refine x_s (q := (.iadd, 0, 0, 0)) (cod_100 rfl) rfl rfl rfl ?_
    refine x_m7 (cod_100 rfl) rfl rfl (Nat.le_of_ble_eq_true rfl) ?_
    refine x_go (tgt := 118) (cod_100 rfl) (by decide) ?_
    refine x_iast (cod_100 rfl) (sq_rwc_6_3 (j := a3) ta0 c1.1 c1.2).s ((sq_rwc_6_3 (j := a3) ta0 c1.1 c1.2).k c9.1 c9.2) ?_
    have H12 := H10 _ rfl
    generalize umem m (a0 + 3 + a3) a4 (min 1000000 (wr (a6 + (m (a2 + 40 + a3) a4)))) = m11 at H12 ⊢
    refine x_retV (cod_100 rfl) rfl ?_
    exact H12
set_option maxRecDepth 100000 in
theorem w101_0 {m : Mm} {K : Mm → Prop} (a0 : Int) (a1 : Int) (ta0 : shp a0 = 26) (ta1 : shp a1 = 20)
  (H : ((m a1 9) = 0 → ∀ m7, m7 = umem m a0 1 0 → ∀ m9, m9 = umem m7 a0 2 1 → K m9) ∧ (¬ (m a1 9) = 0 → ∀ m3, m3 = umem m a0 1 1000000 → ∀ m5, m5 = umem m3 a0 2 0 → X 101 31 [(1, a0), (1, a1), (0, 0)] [] m5 (qV K))) : X 101 0 [(1, a0), (1, a1), (9, 0)] [] m (qV K) := by
  refine x_aldn (cod_101 rfl) rfl (pos_of ta1 (by decide)) ?_
  refine x_gf (kk := 9) (t := 0) (cod_101 rfl) ta1 (sq_c_0_9 ta1) rfl rfl ?_
  refine x_if (p := ¬ (m a1 9) = 0) (tgt := 18) (cod_101 rfl) (by decide) xj_ne (fun h => ?_) (fun h => ?_)
  · have H1 := H.2 h
    refine x_aldn (cod_101 rfl) rfl (pos_of ta0 (by decide)) ?_
    refine x_s (q := (.ldc 63, 1000000, 0, 0)) (cod_101 rfl) rfl rfl rfl ?_
    refine x_pf (kk := 1) (t := 0) (cod_101 rfl) ta0 (sq_c_6_1 ta0) rfl rfl rfl ?_
    have H4 := H1 _ rfl
    generalize umem m a0 1 1000000 = m3 at H4 ⊢
    refine x_aldn (cod_101 rfl) rfl (pos_of ta0 (by decide)) ?_
    refine x_s (q := (.lconst 0, 0, 0, 0)) (cod_101 rfl) rfl rfl rfl ?_
    show X 101 26 [(1, a0), (1, a1), (9, 0)] [(2, 0), (1, a0)] m3 _
    refine x_pf (kk := 2) (t := 2) (cod_101 rfl) ta0 (sq_c_6_2 ta0) rfl rfl rfl ?_
    have H6 := H4 _ rfl
    generalize umem m3 a0 2 0 = m5 at H6 ⊢
    refine x_s (q := (.iconst 0, 0, 0, 0)) (cod_101 rfl) rfl rfl rfl ?_
    refine x_s (q := (.istore_n 2, 0, 0, 0)) (cod_101 rfl) rfl rfl rfl ?_
    exact H6
  · have H2 := H.1 (Classical.not_not.mp h)
    refine x_aldn (cod_101 rfl) rfl (pos_of ta0 (by decide)) ?_
    refine x_s (q := (.iconst 0, 0, 0, 0)) (cod_101 rfl) rfl rfl rfl ?_
    refine x_pf (kk := 1) (t := 0) (cod_101 rfl) ta0 (sq_c_6_1 ta0) rfl rfl rfl ?_
    have H8 := H2 _ rfl
    generalize umem m a0 1 0 = m7 at H8 ⊢
    refine x_aldn (cod_101 rfl) rfl (pos_of ta0 (by decide)) ?_
    refine x_s (q := (.lconst 1, 0, 0, 0)) (cod_101 rfl) rfl rfl rfl ?_
    show X 101 14 [(1, a0), (1, a1), (9, 0)] [(2, 1), (1, a0)] m7 _
    refine x_pf (kk := 2) (t := 2) (cod_101 rfl) ta0 (sq_c_6_2 ta0) rfl rfl rfl ?_
    have H10 := H8 _ rfl
    generalize umem m7 a0 2 1 = m9 at H10 ⊢
    refine x_retV (cod_101 rfl) rfl ?_
    exact H10
theorem e101 {m : Mm} {K : Mm → Prop} (a0 : Int) (a1 : Int) (ta0 : shp a0 = 26) (ta1 : shp a1 = 20)
  (H : ((m a1 9) = 0 → ∀ m7, m7 = umem m a0 1 0 → ∀ m9, m9 = umem m7 a0 2 1 → K m9) ∧ (¬ (m a1 9) = 0 → ∀ m3, m3 = umem m a0 1 1000000 → ∀ m5, m5 = umem m3 a0 2 0 → X 101 31 [(1, a0), (1, a1), (0, 0)] [] m5 (qV K))) : TrV 101 [(1, a0), (1, a1)] m K := by
  exact w101_0 a0 a1 ta0 ta1 H
set_option maxRecDepth 100000 in
theorem w101_31 {m : Mm} {K : Mm → Prop} (a0 : Int) (a1 : Int) (a2 : Int) (ta0 : shp a0 = 26) (ta1 : shp a1 = 20)
  (H : (a2 < (m (a1 + 27) 0) → (0 ≤ a2 ∧ a2 < 24) ∧ ∀ m5, m5 = umem m a0 1 (min (m a0 1) (m (a0 + 14 + 0) a2)) → ∀ m7, m7 = umem m5 a0 2 (wl ((m5 a0 2) + (m5 (a0 + 25 + 0) a2))) → X 101 31 [(1, a0), (1, a1), (0, wr (a2 + 1))] [] m7 (qV K)) ∧ (¬ a2 < (m (a1 + 27) 0) → K m)) : X 101 31 [(1, a0), (1, a1), (0, a2)] [] m (qV K) := by
  refine x_s (q := (.iload_n 2, 0, 0, 0)) (cod_101 rfl) rfl rfl rfl ?_
  refine x_aldn (cod_101 rfl) rfl (pos_of ta1 (by decide)) ?_
  refine x_gc (kk := 6) (c := (a1 + 27)) (t := 1) (cod_101 rfl) ta1 (sq_c_0_6 ta1) rfl rfl ?_
  refine x_s (q := (.iconst 0, 0, 0, 0)) (cod_101 rfl) rfl rfl rfl ?_
  refine x_iald (cod_101 rfl) (sq_ac_0_6 ta1).s ((sq_ac_0_6 ta1).k (by decide) (by decide)) ?_
  refine x_ic (p := ¬ a2 < (m (a1 + 27) 0)) (tgt := 83) (cod_101 rfl) (by decide) xn_ge (fun h => ?_) (fun h => ?_)
  · have H1 := H.2 h
    refine x_retV (cod_101 rfl) rfl ?_
    exact H1
  · have H2 := H.1 (Classical.not_not.mp h)
    refine x_aldn (cod_101 rfl) rfl (pos_of ta0 (by decide)) ?_
    refine x_aldn (cod_101 rfl) rfl (pos_of ta0 (by decide)) ?_
    refine x_gf (kk := 1) (t := 0) (cod_101 rfl) ta0 (sq_c_6_1 ta0) rfl rfl ?_
    refine x_aldn (cod_101 rfl) rfl (pos_of ta0 (by decide)) ?_
    refine x_gc (kk := 4) (c := (a0 + 13)) (t := 1) (cod_101 rfl) ta0 (sq_c_6_4 ta0) rfl rfl ?_
    refine x_s (q := (.iconst 0, 0, 0, 0)) (cod_101 rfl) rfl rfl rfl ?_
    refine x_aaldc (c := (a0 + 14 + 0)) (cod_101 rfl) (by rw [(sq_roc_6_4 (j := 0) ta0 (by decide) (by decide)).2]; decide) (sq_roc_6_4 (j := 0) ta0 (by decide) (by decide)).1 ?_
    refine x_s (q := (.iload_n 2, 0, 0, 0)) (cod_101 rfl) rfl rfl rfl ?_
    obtain ⟨c3, H4⟩ := H2
    refine x_iald (cod_101 rfl) (sq_rwc_6_4 (j := 0) ta0 (by decide) (by decide)).s ((sq_rwc_6_4 (j := 0) ta0 (by decide) (by decide)).k c3.1 c3.2) ?_
    refine x_m7 (cod_101 rfl) rfl rfl (Nat.le_of_ble_eq_true rfl) ?_
    refine x_pf (kk := 1) (t := 0) (cod_101 rfl) ta0 (sq_c_6_1 ta0) rfl rfl rfl ?_
    have H6 := H4 _ rfl
    generalize umem m a0 1 (min (m a0 1) (m (a0 + 14 + 0) a2)) = m5 at H6 ⊢
    refine x_aldn (cod_101 rfl) rfl (pos_of ta0 (by decide)) ?_
    refine x_s (q := (.dup, 0, 0, 0)) (cod_101 rfl) rfl rfl rfl ?_
    refine x_gf (kk := 2) (t := 2) (cod_101 rfl) ta0 (sq_c_6_2 ta0) rfl rfl ?_
    refine x_aldn (cod_101 rfl) rfl (pos_of ta0 (by decide)) ?_
    refine x_gc (kk := 5) (c := (a0 + 24)) (t := 1) (cod_101 rfl) ta0 (sq_c_6_5 ta0) rfl rfl ?_
    refine x_s (q := (.iconst 0, 0, 0, 0)) (cod_101 rfl) rfl rfl rfl ?_
    refine x_aaldc (c := (a0 + 25 + 0)) (cod_101 rfl) (by rw [(sq_roc_6_5 (j := 0) ta0 (by decide) (by decide)).2]; decide) (sq_roc_6_5 (j := 0) ta0 (by decide) (by decide)).1 ?_
    refine x_s (q := (.iload_n 2, 0, 0, 0)) (cod_101 rfl) rfl rfl rfl ?_
    refine x_laldm (cod_101 rfl) (sq_rwc_6_5 (j := 0) ta0 (by decide) (by decide)).s ((sq_rwc_6_5 (j := 0) ta0 (by decide) (by decide)).k c3.1 c3.2) ?_
    refine x_s (q := (.ladd, 0, 0, 0)) (cod_101 rfl) rfl rfl rfl ?_
    refine x_pf (kk := 2) (t := 2) (cod_101 rfl) ta0 (sq_c_6_2 ta0) rfl rfl rfl ?_
    have H8 := H6 _ rfl
    generalize umem m5 a0 2 (wl ((m5 a0 2) + (m5 (a0 + 25 + 0) a2))) = m7 at H8 ⊢
    refine x_s (q := (.iinc 2 1, 0, 0, 0)) (cod_101 rfl) rfl rfl rfl ?_
    refine x_go (tgt := 31) (cod_101 rfl) (by decide) ?_
    exact H8
set_option maxRecDepth 100000 in
theorem w102_0 {m : Mm} {K : Mm → Prop} (a0 : Int) (a1 : Int) (a2 : Int) (ta0 : shp a0 = 26) (ta1 : shp a1 = 30) (ta2 : shp a2 = 20)
  (H : X 102 12 [(1, a0), (1, a1), (1, a2), (0, m a0 1), (0, (-2)), (0, 0), (9, 0)] [] m (qV K)) : X 102 0 [(1, a0), (1, a1), (1, a2), (9, 0), (9, 0), (9, 0), (9, 0)] [] m (qV K) := by
  refine x_aldn (cod_102 rfl) rfl (pos_of ta0 (by decide)) ?_
  refine x_gf (kk := 1) (t := 0) (cod_102 rfl) ta0 (sq_c_6_1 ta0) rfl rfl ?_
  refine x_s (q := (.istore_n 3, 0, 0, 0)) (cod_102 rfl) rfl rfl rfl ?_
  refine x_s (q := (.bipush (-2), 0, 0, 0)) (cod_102 rfl) rfl rfl rfl ?_
  refine x_s (q := (.istore 4, 0, 0, 0)) (cod_102 rfl) rfl rfl rfl ?_
  refine x_s (q := (.iconst 0, 0, 0, 0)) (cod_102 rfl) rfl rfl rfl ?_
  refine x_s (q := (.istore 5, 0, 0, 0)) (cod_102 rfl) rfl rfl rfl ?_
  exact H
theorem e102 {m : Mm} {K : Mm → Prop} (a0 : Int) (a1 : Int) (a2 : Int) (ta0 : shp a0 = 26) (ta1 : shp a1 = 30) (ta2 : shp a2 = 20)
  (H : X 102 12 [(1, a0), (1, a1), (1, a2), (0, m a0 1), (0, (-2)), (0, 0), (9, 0)] [] m (qV K)) : TrV 102 [(1, a0), (1, a1), (1, a2)] m K := by
  exact w102_0 a0 a1 a2 ta0 ta1 ta2 H
set_option maxRecDepth 100000 in
theorem w102_12 {m : Mm} {K : Mm → Prop} (a0 : Int) (a1 : Int) (a2 : Int) (a3 : Int) (a4 : Int) (a5 : Int) (ua6 : aV) (ta0 : shp a0 = 26) (ta1 : shp a1 = 30) (ta2 : shp a2 = 20)
  (H : (a5 < (m a2 9) → (0 ≤ a5 ∧ a5 < 10) ∧ ∀ m5, m5 = umem m (a0 + 1) a5 0 → X 102 40 [(1, a0), (1, a1), (1, a2), (0, a3), (0, a4), (0, a5), (0, wr ((m5 (a2 + 27) a5) - 1))] [] m5 (qV K)) ∧ (¬ a5 < (m a2 9) → K m)) : X 102 12 [(1, a0), (1, a1), (1, a2), (0, a3), (0, a4), (0, a5), ua6] [] m (qV K) := by
  refine x_s (q := (.iload 5, 0, 0, 0)) (cod_102 rfl) rfl rfl rfl ?_
  refine x_aldn (cod_102 rfl) rfl (pos_of ta2 (by decide)) ?_
  refine x_gf (kk := 9) (t := 0) (cod_102 rfl) ta2 (sq_c_0_9 ta2) rfl rfl ?_
  refine x_ic (p := ¬ a5 < (m a2 9)) (tgt := 146) (cod_102 rfl) (by decide) xn_ge (fun h => ?_) (fun h => ?_)
  · have H1 := H.2 h
    refine x_retV (cod_102 rfl) rfl ?_
    exact H1
  · have H2 := H.1 (Classical.not_not.mp h)
    refine x_aldn (cod_102 rfl) rfl (pos_of ta0 (by decide)) ?_
    refine x_gc (kk := 0) (c := (a0 + 1)) (t := 1) (cod_102 rfl) ta0 (sq_c_6_0 ta0) rfl rfl ?_
    refine x_s (q := (.iload 5, 0, 0, 0)) (cod_102 rfl) rfl rfl rfl ?_
    refine x_s (q := (.iconst 0, 0, 0, 0)) (cod_102 rfl) rfl rfl rfl ?_
    obtain ⟨c3, H4⟩ := H2
    refine x_iast (cod_102 rfl) (sq_ac_6_0 ta0).s ((sq_ac_6_0 ta0).k c3.1 c3.2) ?_
    have H6 := H4 _ rfl
    generalize umem m (a0 + 1) a5 0 = m5 at H6 ⊢
    refine x_aldn (cod_102 rfl) rfl (pos_of ta2 (by decide)) ?_
    refine x_gc (kk := 6) (c := (a2 + 27)) (t := 1) (cod_102 rfl) ta2 (sq_c_0_6 ta2) rfl rfl ?_
    refine x_s (q := (.iload 5, 0, 0, 0)) (cod_102 rfl) rfl rfl rfl ?_
    refine x_iald (cod_102 rfl) (sq_ac_0_6 ta2).s ((sq_ac_0_6 ta2).k c3.1 c3.2) ?_
    refine x_s (q := (.iconst 1, 0, 0, 0)) (cod_102 rfl) rfl rfl rfl ?_
    refine x_s (q := (.isub, 0, 0, 0)) (cod_102 rfl) rfl rfl rfl ?_
    refine x_s (q := (.istore 6, 0, 0, 0)) (cod_102 rfl) rfl rfl rfl ?_
    exact H6
set_option maxRecDepth 100000 in
theorem w102_40 {m : Mm} {K : Mm → Prop} (a0 : Int) (a1 : Int) (a2 : Int) (a3 : Int) (a4 : Int) (a5 : Int) (a6 : Int) (ta0 : shp a0 = 26) (ta1 : shp a1 = 30) (ta2 : shp a2 = 20)
  (H : (a6 < 0 → (0 ≤ a5 ∧ a5 < 10) ∧ (0 ≤ (m (a0 + 1) a5) ∧ (m (a0 + 1) a5) < 24) ∧ X 102 12 [(1, a0), (1, a1), (1, a2), (0, wr ((m (a0 + 14 + a5) (m (a0 + 1) a5)) - (m (a2 + 40 + a5) (m (a0 + 1) a5)))), (0, m (a2 + 29 + a5) (m (a0 + 1) a5)), (0, wr (a5 + 1)), (0, a6)] [] m (qV K)) ∧ (¬ a6 < 0 → (0 ≤ a5 ∧ a5 < 10) ∧ (0 ≤ a6 ∧ a6 < 24) ∧ v_T m a1 ∧ ((wr ((jnC m a1 a4 (m (a2 + 29 + a5) a6)) + (m (a0 + 14 + a5) a6))) = a3 → ∀ m15, m15 = umem m (a0 + 1) a5 a6 → X 102 40 [(1, a0), (1, a1), (1, a2), (0, a3), (0, a4), (0, a5), (0, wr (a6 + (-1)))] [] m15 (qV K)) ∧ (¬ (wr ((jnC m a1 a4 (m (a2 + 29 + a5) a6)) + (m (a0 + 14 + a5) a6))) = a3 → X 102 40 [(1, a0), (1, a1), (1, a2), (0, a3), (0, a4), (0, a5), (0, wr (a6 + (-1)))] [] m (qV K)))) : X 102 40 [(1, a0), (1, a1), (1, a2), (0, a3), (0, a4), (0, a5), (0, a6)] [] m (qV K) := by
  refine x_s (q := (.iload 6, 0, 0, 0)) (cod_102 rfl) rfl rfl rfl ?_
  refine x_if (p := a6 < 0) (tgt := 91) (cod_102 rfl) (by decide) xj_lt (fun h => ?_) (fun h => ?_)
  · have H1 := H.1 h
    refine x_aldn (cod_102 rfl) rfl (pos_of ta0 (by decide)) ?_
    refine x_gc (kk := 4) (c := (a0 + 13)) (t := 1) (cod_102 rfl) ta0 (sq_c_6_4 ta0) rfl rfl ?_
    refine x_s (q := (.iload 5, 0, 0, 0)) (cod_102 rfl) rfl rfl rfl ?_
    obtain ⟨c3, H4⟩ := H1
    refine x_aaldc (c := (a0 + 14 + a5)) (cod_102 rfl) (by rw [(sq_roc_6_4 (j := a5) ta0 c3.1 c3.2).2]; decide) (sq_roc_6_4 (j := a5) ta0 c3.1 c3.2).1 ?_
    refine x_aldn (cod_102 rfl) rfl (pos_of ta0 (by decide)) ?_
    refine x_gc (kk := 0) (c := (a0 + 1)) (t := 1) (cod_102 rfl) ta0 (sq_c_6_0 ta0) rfl rfl ?_
    refine x_s (q := (.iload 5, 0, 0, 0)) (cod_102 rfl) rfl rfl rfl ?_
    refine x_iald (cod_102 rfl) (sq_ac_6_0 ta0).s ((sq_ac_6_0 ta0).k c3.1 c3.2) ?_
    obtain ⟨c5, H6⟩ := H4
    refine x_iald (cod_102 rfl) (sq_rwc_6_4 (j := a5) ta0 c3.1 c3.2).s ((sq_rwc_6_4 (j := a5) ta0 c3.1 c3.2).k c5.1 c5.2) ?_
    refine x_aldn (cod_102 rfl) rfl (pos_of ta2 (by decide)) ?_
    refine x_gc (kk := 8) (c := (a2 + 39)) (t := 1) (cod_102 rfl) ta2 (sq_c_0_8 ta2) rfl rfl ?_
    refine x_s (q := (.iload 5, 0, 0, 0)) (cod_102 rfl) rfl rfl rfl ?_
    refine x_aaldc (c := (a2 + 40 + a5)) (cod_102 rfl) (by rw [(sq_roc_0_8 (j := a5) ta2 c3.1 c3.2).2]; decide) (sq_roc_0_8 (j := a5) ta2 c3.1 c3.2).1 ?_
    refine x_aldn (cod_102 rfl) rfl (pos_of ta0 (by decide)) ?_
    refine x_gc (kk := 0) (c := (a0 + 1)) (t := 1) (cod_102 rfl) ta0 (sq_c_6_0 ta0) rfl rfl ?_
    refine x_s (q := (.iload 5, 0, 0, 0)) (cod_102 rfl) rfl rfl rfl ?_
    refine x_iald (cod_102 rfl) (sq_ac_6_0 ta0).s ((sq_ac_6_0 ta0).k c3.1 c3.2) ?_
    refine x_iald (cod_102 rfl) (sq_rwc_0_8 (j := a5) ta2 c3.1 c3.2).s ((sq_rwc_0_8 (j := a5) ta2 c3.1 c3.2).k c5.1 c5.2) ?_
    refine x_s (q := (.isub, 0, 0, 0)) (cod_102 rfl) rfl rfl rfl ?_
    refine x_s (q := (.istore_n 3, 0, 0, 0)) (cod_102 rfl) rfl rfl rfl ?_
    refine x_aldn (cod_102 rfl) rfl (pos_of ta2 (by decide)) ?_
    refine x_gc (kk := 7) (c := (a2 + 28)) (t := 1) (cod_102 rfl) ta2 (sq_c_0_7 ta2) rfl rfl ?_
    refine x_s (q := (.iload 5, 0, 0, 0)) (cod_102 rfl) rfl rfl rfl ?_
    refine x_aaldc (c := (a2 + 29 + a5)) (cod_102 rfl) (by rw [(sq_roc_0_7 (j := a5) ta2 c3.1 c3.2).2]; decide) (sq_roc_0_7 (j := a5) ta2 c3.1 c3.2).1 ?_
    refine x_aldn (cod_102 rfl) rfl (pos_of ta0 (by decide)) ?_
    refine x_gc (kk := 0) (c := (a0 + 1)) (t := 1) (cod_102 rfl) ta0 (sq_c_6_0 ta0) rfl rfl ?_
    refine x_s (q := (.iload 5, 0, 0, 0)) (cod_102 rfl) rfl rfl rfl ?_
    refine x_iald (cod_102 rfl) (sq_ac_6_0 ta0).s ((sq_ac_6_0 ta0).k c3.1 c3.2) ?_
    refine x_iald (cod_102 rfl) (sq_rwc_0_7 (j := a5) ta2 c3.1 c3.2).s ((sq_rwc_0_7 (j := a5) ta2 c3.1 c3.2).k c5.1 c5.2) ?_
    refine x_s (q := (.istore 4, 0, 0, 0)) (cod_102 rfl) rfl rfl rfl ?_
    refine x_s (q := (.iinc 5 1, 0, 0, 0)) (cod_102 rfl) rfl rfl rfl ?_
    refine x_go (tgt := 12) (cod_102 rfl) (by decide) ?_
    exact H6
  · have H2 := H.2 h
    refine x_aldn (cod_102 rfl) rfl (pos_of ta1 (by decide)) ?_
    refine x_s (q := (.iload 4, 0, 0, 0)) (cod_102 rfl) rfl rfl rfl ?_
    refine x_aldn (cod_102 rfl) rfl (pos_of ta2 (by decide)) ?_
    refine x_gc (kk := 7) (c := (a2 + 28)) (t := 1) (cod_102 rfl) ta2 (sq_c_0_7 ta2) rfl rfl ?_
    refine x_s (q := (.iload 5, 0, 0, 0)) (cod_102 rfl) rfl rfl rfl ?_
    obtain ⟨c7, H8⟩ := H2
    refine x_aaldc (c := (a2 + 29 + a5)) (cod_102 rfl) (by rw [(sq_roc_0_7 (j := a5) ta2 c7.1 c7.2).2]; decide) (sq_roc_0_7 (j := a5) ta2 c7.1 c7.2).1 ?_
    refine x_s (q := (.iload 6, 0, 0, 0)) (cod_102 rfl) rfl rfl rfl ?_
    obtain ⟨c9, H10⟩ := H8
    refine x_iald (cod_102 rfl) (sq_rwc_0_7 (j := a5) ta2 c7.1 c7.2).s ((sq_rwc_0_7 (j := a5) ta2 c7.1 c7.2).k c9.1 c9.2) ?_
    obtain ⟨c11, H12⟩ := H10
    refine x_call (as := [(1, a1), (0, a4), (0, m (a2 + 29 + a5) a6)]) (rest := []) (cod_102 rfl) rfl rfl (by decide) (by decide) rfl rfl (Nat.le_of_ble_eq_true rfl) (rcv0 (sq_c_10_0 ta1) ta1 (by decide)) (Nat.le_of_ble_eq_true rfl) ?_
    refine x_pure (p99 c11) ?_
    show X 102 61 [(1, a0), (1, a1), (1, a2), (0, a3), (0, a4), (0, a5), (0, a6)] [(0, jnC m a1 a4 (m (a2 + 29 + a5) a6))] m _
    refine x_aldn (cod_102 rfl) rfl (pos_of ta0 (by decide)) ?_
    refine x_gc (kk := 4) (c := (a0 + 13)) (t := 1) (cod_102 rfl) ta0 (sq_c_6_4 ta0) rfl rfl ?_
    refine x_s (q := (.iload 5, 0, 0, 0)) (cod_102 rfl) rfl rfl rfl ?_
    refine x_aaldc (c := (a0 + 14 + a5)) (cod_102 rfl) (by rw [(sq_roc_6_4 (j := a5) ta0 c7.1 c7.2).2]; decide) (sq_roc_6_4 (j := a5) ta0 c7.1 c7.2).1 ?_
    refine x_s (q := (.iload 6, 0, 0, 0)) (cod_102 rfl) rfl rfl rfl ?_
    refine x_iald (cod_102 rfl) (sq_rwc_6_4 (j := a5) ta0 c7.1 c7.2).s ((sq_rwc_6_4 (j := a5) ta0 c7.1 c7.2).k c9.1 c9.2) ?_
    refine x_s (q := (.iadd, 0, 0, 0)) (cod_102 rfl) rfl rfl rfl ?_
    refine x_s (q := (.iload_n 3, 0, 0, 0)) (cod_102 rfl) rfl rfl rfl ?_
    refine x_ic (p := ¬ (wr ((jnC m a1 a4 (m (a2 + 29 + a5) a6)) + (m (a0 + 14 + a5) a6))) = a3) (tgt := 85) (cod_102 rfl) (by decide) xj_ne (fun h => ?_) (fun h => ?_)
    · have H13 := H12.2 h
      refine x_s (q := (.iinc 6 (-1), 0, 0, 0)) (cod_102 rfl) rfl rfl rfl ?_
      refine x_go (tgt := 40) (cod_102 rfl) (by decide) ?_
      exact H13
    · have H14 := H12.1 (Classical.not_not.mp h)
      refine x_aldn (cod_102 rfl) rfl (pos_of ta0 (by decide)) ?_
      refine x_gc (kk := 0) (c := (a0 + 1)) (t := 1) (cod_102 rfl) ta0 (sq_c_6_0 ta0) rfl rfl ?_
      refine x_s (q := (.iload 5, 0, 0, 0)) (cod_102 rfl) rfl rfl rfl ?_
      refine x_s (q := (.iload 6, 0, 0, 0)) (cod_102 rfl) rfl rfl rfl ?_
      refine x_iast (cod_102 rfl) (sq_ac_6_0 ta0).s ((sq_ac_6_0 ta0).k c7.1 c7.2) ?_
      have H16 := H14 _ rfl
      generalize umem m (a0 + 1) a5 a6 = m15 at H16 ⊢
      refine x_s (q := (.iinc 6 (-1), 0, 0, 0)) (cod_102 rfl) rfl rfl rfl ?_
      refine x_go (tgt := 40) (cod_102 rfl) (by decide) ?_
      exact H16
set_option maxRecDepth 100000 in
theorem w104_0 {m : Mm} {K : Int → Mm → Prop} (a1 : Int) 
  (H : shp (m 1 5) = 24 ∧ ((0 ≤ a1 ∧ a1 < m (m 1 5) 4) → TrV 76 [(1, 1)] m fun m5 => (0 ≤ a1 ∧ a1 < 10) ∧ K (if (m5 413 a1) < 1000000 then (m5 413 a1) else -2) m5) ∧ (¬ (0 ≤ a1 ∧ a1 < m (m 1 5) 4) → K (-1) m)) : X 104 0 [(1, 1), (0, a1)] [] m (qI K) := by
  refine x_s (q := (.aload_n 0, 0, 0, 0)) (cod_104 rfl) rfl rfl rfl ?_
  refine x_s (q := (.iload_n 1, 0, 0, 0)) (cod_104 rfl) rfl rfl rfl ?_
  obtain ⟨c1, H2⟩ := H
  refine x_call (as := [(1, 1), (0, a1)]) (rest := []) (cod_104 rfl) rfl rfl (by decide) (by decide) rfl rfl (Nat.le_of_ble_eq_true rfl) (rcv0 sq_l_1_0 sq_p_1 (by decide)) (Nat.le_of_ble_eq_true rfl) ?_
  refine x_pure (p74 c1) ?_
  show X 104 5 [(1, 1), (0, a1)] [(0, bi (0 ≤ a1 ∧ a1 < m (m 1 5) 4))] m _
  refine x_if (p := 0 ≤ a1 ∧ a1 < m (m 1 5) 4) (tgt := 10) (cod_104 rfl) (by decide) xb_ne (fun h => ?_) (fun h => ?_)
  · have H3 := H2.1 h
    refine x_s (q := (.aload_n 0, 0, 0, 0)) (cod_104 rfl) rfl rfl rfl ?_
    refine x_call (as := [(1, 1)]) (rest := []) (cod_104 rfl) rfl rfl (by decide) (by decide) rfl rfl (Nat.le_of_ble_eq_true rfl) (rcv0 sq_l_1_0 sq_p_1 (by decide)) (Nat.le_of_ble_eq_true rfl) ?_
    refine X.imp H3 ?_
    rintro _ m5 ⟨rfl, H6⟩
    show X 104 14 [(1, 1), (0, a1)] [] m5 _
    refine x_s (q := (.aload_n 0, 0, 0, 0)) (cod_104 rfl) rfl rfl rfl ?_
    refine x_gc (kk := 10) (c := 411) (t := 1) (cod_104 rfl) sq_p_1 sq_l_1_10 rfl rfl ?_
    refine x_gc (kk := 1) (c := 413) (t := 1) (cod_104 rfl) sq_p_411 sq_l_411_1 rfl rfl ?_
    refine x_s (q := (.iload_n 1, 0, 0, 0)) (cod_104 rfl) rfl rfl rfl ?_
    obtain ⟨c7, H8⟩ := H6
    refine x_iald (cod_104 rfl) sq_a_413.s (sq_a_413.k c7.1 c7.2) ?_
    refine x_call (as := [(0, m5 413 a1)]) (rest := []) (cod_104 rfl) rfl rfl (by decide) (by decide) rfl rfl (Nat.le_of_ble_eq_true rfl) rfl (Nat.le_of_ble_eq_true rfl) ?_
    refine x_pure (p105) ?_
    show X 104 26 [(1, 1), (0, a1)] [(0, if (m5 413 a1) < 1000000 then (m5 413 a1) else -2)] m5 _
    refine x_retI (t := .int) (cod_104 rfl) rfl rfl rfl ?_
    exact H8
  · have H4 := H2.2 h
    refine x_s (q := (.iconst (-1), 0, 0, 0)) (cod_104 rfl) rfl rfl rfl ?_
    refine x_retI (t := .int) (cod_104 rfl) rfl rfl rfl ?_
    exact H4
theorem e104 {m : Mm} {K : Int → Mm → Prop} (a1 : Int) 
  (H : shp (m 1 5) = 24 ∧ ((0 ≤ a1 ∧ a1 < m (m 1 5) 4) → TrV 76 [(1, 1)] m fun m5 => (0 ≤ a1 ∧ a1 < 10) ∧ K (if (m5 413 a1) < 1000000 then (m5 413 a1) else -2) m5) ∧ (¬ (0 ≤ a1 ∧ a1 < m (m 1 5) 4) → K (-1) m)) : TrI 104 [(1, 1), (0, a1)] m K := by
  exact w104_0 a1 H
set_option maxRecDepth 100000 in
theorem w106_0 {m : Mm} {K : Int → Mm → Prop} (a1 : Int) (a2 : Int) 
  (H : shp (m 1 5) = 24 ∧ ((0 ≤ a1 ∧ a1 < m (m 1 5) 4) → (a2 < 0 → K (-1) m) ∧ (¬ a2 < 0 → TrV 76 [(1, 1)] m fun m7 => (0 ≤ a1 ∧ a1 < 10) ∧ (a2 < (m7 414 a1) → (0 ≤ a2 ∧ a2 < 60) ∧ K (m7 (416 + a1) a2) m7) ∧ (¬ a2 < (m7 414 a1) → K (-2) m7))) ∧ (¬ (0 ≤ a1 ∧ a1 < m (m 1 5) 4) → K (-1) m)) : X 106 0 [(1, 1), (0, a1), (0, a2)] [] m (qI K) := by
  refine x_s (q := (.aload_n 0, 0, 0, 0)) (cod_106 rfl) rfl rfl rfl ?_
  refine x_s (q := (.iload_n 1, 0, 0, 0)) (cod_106 rfl) rfl rfl rfl ?_
  obtain ⟨c1, H2⟩ := H
  refine x_call (as := [(1, 1), (0, a1)]) (rest := []) (cod_106 rfl) rfl rfl (by decide) (by decide) rfl rfl (Nat.le_of_ble_eq_true rfl) (rcv0 sq_l_1_0 sq_p_1 (by decide)) (Nat.le_of_ble_eq_true rfl) ?_
  refine x_pure (p74 c1) ?_
  show X 106 5 [(1, 1), (0, a1), (0, a2)] [(0, bi (0 ≤ a1 ∧ a1 < m (m 1 5) 4))] m _
  refine x_if (p := ¬ (0 ≤ a1 ∧ a1 < m (m 1 5) 4)) (tgt := 12) (cod_106 rfl) (by decide) xb_eq (fun h => ?_) (fun h => ?_)
  · have H3 := H2.2 h
    refine x_s (q := (.iconst (-1), 0, 0, 0)) (cod_106 rfl) rfl rfl rfl ?_
    refine x_retI (t := .int) (cod_106 rfl) rfl rfl rfl ?_
    exact H3
  · have H4 := H2.1 (Classical.not_not.mp h)
    refine x_s (q := (.iload_n 2, 0, 0, 0)) (cod_106 rfl) rfl rfl rfl ?_
    refine x_if (p := ¬ a2 < 0) (tgt := 14) (cod_106 rfl) (by decide) xn_ge (fun h => ?_) (fun h => ?_)
    · have H5 := H4.2 h
      refine x_s (q := (.aload_n 0, 0, 0, 0)) (cod_106 rfl) rfl rfl rfl ?_
      refine x_call (as := [(1, 1)]) (rest := []) (cod_106 rfl) rfl rfl (by decide) (by decide) rfl rfl (Nat.le_of_ble_eq_true rfl) (rcv0 sq_l_1_0 sq_p_1 (by decide)) (Nat.le_of_ble_eq_true rfl) ?_
      refine X.imp H5 ?_
      rintro _ m7 ⟨rfl, H8⟩
      show X 106 18 [(1, 1), (0, a1), (0, a2)] [] m7 _
      refine x_s (q := (.iload_n 2, 0, 0, 0)) (cod_106 rfl) rfl rfl rfl ?_
      refine x_s (q := (.aload_n 0, 0, 0, 0)) (cod_106 rfl) rfl rfl rfl ?_
      refine x_gc (kk := 10) (c := 411) (t := 1) (cod_106 rfl) sq_p_1 sq_l_1_10 rfl rfl ?_
      refine x_gc (kk := 2) (c := 414) (t := 1) (cod_106 rfl) sq_p_411 sq_l_411_2 rfl rfl ?_
      refine x_s (q := (.iload_n 1, 0, 0, 0)) (cod_106 rfl) rfl rfl rfl ?_
      obtain ⟨c9, H10⟩ := H8
      refine x_iald (cod_106 rfl) sq_a_414.s (sq_a_414.k c9.1 c9.2) ?_
      refine x_ic (p := ¬ a2 < (m7 414 a1)) (tgt := 45) (cod_106 rfl) (by decide) xn_ge (fun h => ?_) (fun h => ?_)
      · have H11 := H10.2 h
        refine x_s (q := (.bipush (-2), 0, 0, 0)) (cod_106 rfl) rfl rfl rfl ?_
        refine x_retI (t := .int) (cod_106 rfl) rfl rfl rfl ?_
        exact H11
      · have H12 := H10.1 (Classical.not_not.mp h)
        refine x_s (q := (.aload_n 0, 0, 0, 0)) (cod_106 rfl) rfl rfl rfl ?_
        refine x_gc (kk := 10) (c := 411) (t := 1) (cod_106 rfl) sq_p_1 sq_l_1_10 rfl rfl ?_
        refine x_gc (kk := 3) (c := 415) (t := 1) (cod_106 rfl) sq_p_411 sq_l_411_3 rfl rfl ?_
        refine x_s (q := (.iload_n 1, 0, 0, 0)) (cod_106 rfl) rfl rfl rfl ?_
        refine x_aaldc (c := (416 + a1)) (cod_106 rfl) (by rw [(sq_ro_415 (j := a1) c9.1 c9.2).2]; decide) (sq_ro_415 (j := a1) c9.1 c9.2).1 ?_
        refine x_s (q := (.iload_n 2, 0, 0, 0)) (cod_106 rfl) rfl rfl rfl ?_
        obtain ⟨c13, H14⟩ := H12
        refine x_iald (cod_106 rfl) (sq_rw_415 (j := a1) c9.1 c9.2).s ((sq_rw_415 (j := a1) c9.1 c9.2).k c13.1 c13.2) ?_
        refine x_go (tgt := 47) (cod_106 rfl) (by decide) ?_
        refine x_retI (t := .int) (cod_106 rfl) rfl rfl rfl ?_
        exact H14
    · have H6 := H4.1 (Classical.not_not.mp h)
      refine x_s (q := (.iconst (-1), 0, 0, 0)) (cod_106 rfl) rfl rfl rfl ?_
      refine x_retI (t := .int) (cod_106 rfl) rfl rfl rfl ?_
      exact H6
theorem e106 {m : Mm} {K : Int → Mm → Prop} (a1 : Int) (a2 : Int) 
  (H : shp (m 1 5) = 24 ∧ ((0 ≤ a1 ∧ a1 < m (m 1 5) 4) → (a2 < 0 → K (-1) m) ∧ (¬ a2 < 0 → TrV 76 [(1, 1)] m fun m7 => (0 ≤ a1 ∧ a1 < 10) ∧ (a2 < (m7 414 a1) → (0 ≤ a2 ∧ a2 < 60) ∧ K (m7 (416 + a1) a2) m7) ∧ (¬ a2 < (m7 414 a1) → K (-2) m7))) ∧ (¬ (0 ≤ a1 ∧ a1 < m (m 1 5) 4) → K (-1) m)) : TrI 106 [(1, 1), (0, a1), (0, a2)] m K := by
  exact w106_0 a1 a2 H
set_option maxRecDepth 100000 in
theorem w107_0 {m : Mm} {K : Int → Mm → Prop} (a1 : Int) (a2 : Int) 
  (H : shp (m 1 5) = 24 ∧ ((0 ≤ a1 ∧ a1 < m (m 1 5) 4) → shp (m 1 3) = 30 ∧ ((0 ≤ a2 ∧ a2 < m (m 1 3) 6) → TrV 76 [(1, 1)] m fun m9 => (0 ≤ a1 ∧ a1 < 10) ∧ (0 ≤ a2 ∧ a2 < 24) ∧ K (if (m9 (427 + a1) a2) < 1000000 then (m9 (427 + a1) a2) else -2) m9) ∧ (¬ (0 ≤ a2 ∧ a2 < m (m 1 3) 6) → K (-1) m)) ∧ (¬ (0 ≤ a1 ∧ a1 < m (m 1 5) 4) → K (-1) m)) : X 107 0 [(1, 1), (0, a1), (0, a2)] [] m (qI K) := by
  refine x_s (q := (.aload_n 0, 0, 0, 0)) (cod_107 rfl) rfl rfl rfl ?_
  refine x_s (q := (.iload_n 1, 0, 0, 0)) (cod_107 rfl) rfl rfl rfl ?_
  obtain ⟨c1, H2⟩ := H
  refine x_call (as := [(1, 1), (0, a1)]) (rest := []) (cod_107 rfl) rfl rfl (by decide) (by decide) rfl rfl (Nat.le_of_ble_eq_true rfl) (rcv0 sq_l_1_0 sq_p_1 (by decide)) (Nat.le_of_ble_eq_true rfl) ?_
  refine x_pure (p74 c1) ?_
  show X 107 5 [(1, 1), (0, a1), (0, a2)] [(0, bi (0 ≤ a1 ∧ a1 < m (m 1 5) 4))] m _
  refine x_if (p := ¬ (0 ≤ a1 ∧ a1 < m (m 1 5) 4)) (tgt := 16) (cod_107 rfl) (by decide) xb_eq (fun h => ?_) (fun h => ?_)
  · have H3 := H2.2 h
    refine x_s (q := (.iconst (-1), 0, 0, 0)) (cod_107 rfl) rfl rfl rfl ?_
    refine x_retI (t := .int) (cod_107 rfl) rfl rfl rfl ?_
    exact H3
  · have H4 := H2.1 (Classical.not_not.mp h)
    refine x_s (q := (.aload_n 0, 0, 0, 0)) (cod_107 rfl) rfl rfl rfl ?_
    refine x_s (q := (.iload_n 2, 0, 0, 0)) (cod_107 rfl) rfl rfl rfl ?_
    obtain ⟨c5, H6⟩ := H4
    refine x_call (as := [(1, 1), (0, a2)]) (rest := []) (cod_107 rfl) rfl rfl (by decide) (by decide) rfl rfl (Nat.le_of_ble_eq_true rfl) (rcv0 sq_l_1_0 sq_p_1 (by decide)) (Nat.le_of_ble_eq_true rfl) ?_
    refine x_pure (p68 c5) ?_
    show X 107 13 [(1, 1), (0, a1), (0, a2)] [(0, bi (0 ≤ a2 ∧ a2 < m (m 1 3) 6))] m _
    refine x_if (p := 0 ≤ a2 ∧ a2 < m (m 1 3) 6) (tgt := 18) (cod_107 rfl) (by decide) xb_ne (fun h => ?_) (fun h => ?_)
    · have H7 := H6.1 h
      refine x_s (q := (.aload_n 0, 0, 0, 0)) (cod_107 rfl) rfl rfl rfl ?_
      refine x_call (as := [(1, 1)]) (rest := []) (cod_107 rfl) rfl rfl (by decide) (by decide) rfl rfl (Nat.le_of_ble_eq_true rfl) (rcv0 sq_l_1_0 sq_p_1 (by decide)) (Nat.le_of_ble_eq_true rfl) ?_
      refine X.imp H7 ?_
      rintro _ m9 ⟨rfl, H10⟩
      show X 107 22 [(1, 1), (0, a1), (0, a2)] [] m9 _
      refine x_s (q := (.aload_n 0, 0, 0, 0)) (cod_107 rfl) rfl rfl rfl ?_
      refine x_gc (kk := 10) (c := 411) (t := 1) (cod_107 rfl) sq_p_1 sq_l_1_10 rfl rfl ?_
      refine x_gc (kk := 4) (c := 426) (t := 1) (cod_107 rfl) sq_p_411 sq_l_411_4 rfl rfl ?_
      refine x_s (q := (.iload_n 1, 0, 0, 0)) (cod_107 rfl) rfl rfl rfl ?_
      obtain ⟨c11, H12⟩ := H10
      refine x_aaldc (c := (427 + a1)) (cod_107 rfl) (by rw [(sq_ro_426 (j := a1) c11.1 c11.2).2]; decide) (sq_ro_426 (j := a1) c11.1 c11.2).1 ?_
      refine x_s (q := (.iload_n 2, 0, 0, 0)) (cod_107 rfl) rfl rfl rfl ?_
      obtain ⟨c13, H14⟩ := H12
      refine x_iald (cod_107 rfl) (sq_rw_426 (j := a1) c11.1 c11.2).s ((sq_rw_426 (j := a1) c11.1 c11.2).k c13.1 c13.2) ?_
      refine x_call (as := [(0, m9 (427 + a1) a2)]) (rest := []) (cod_107 rfl) rfl rfl (by decide) (by decide) rfl rfl (Nat.le_of_ble_eq_true rfl) rfl (Nat.le_of_ble_eq_true rfl) ?_
      refine x_pure (p105) ?_
      show X 107 36 [(1, 1), (0, a1), (0, a2)] [(0, if (m9 (427 + a1) a2) < 1000000 then (m9 (427 + a1) a2) else -2)] m9 _
      refine x_retI (t := .int) (cod_107 rfl) rfl rfl rfl ?_
      exact H14
    · have H8 := H6.2 h
      refine x_s (q := (.iconst (-1), 0, 0, 0)) (cod_107 rfl) rfl rfl rfl ?_
      refine x_retI (t := .int) (cod_107 rfl) rfl rfl rfl ?_
      exact H8
theorem e107 {m : Mm} {K : Int → Mm → Prop} (a1 : Int) (a2 : Int) 
  (H : shp (m 1 5) = 24 ∧ ((0 ≤ a1 ∧ a1 < m (m 1 5) 4) → shp (m 1 3) = 30 ∧ ((0 ≤ a2 ∧ a2 < m (m 1 3) 6) → TrV 76 [(1, 1)] m fun m9 => (0 ≤ a1 ∧ a1 < 10) ∧ (0 ≤ a2 ∧ a2 < 24) ∧ K (if (m9 (427 + a1) a2) < 1000000 then (m9 (427 + a1) a2) else -2) m9) ∧ (¬ (0 ≤ a2 ∧ a2 < m (m 1 3) 6) → K (-1) m)) ∧ (¬ (0 ≤ a1 ∧ a1 < m (m 1 5) 4) → K (-1) m)) : TrI 107 [(1, 1), (0, a1), (0, a2)] m K := by
  exact w107_0 a1 a2 H
set_option maxRecDepth 100000 in
theorem w108_0 {m : Mm} {K : Int → Mm → Prop} (a1 : Int) (a2 : Int) (a3 : Int) 
  (H : shp (m 1 5) = 24 ∧ ((0 ≤ a1 ∧ a1 < m (m 1 5) 4) → shp (m 1 3) = 30 ∧ ((0 ≤ a2 ∧ a2 < m (m 1 3) 6) → (a3 < 0 → K (-1) m) ∧ (¬ a3 < 0 → TrV 77 [(1, 370), (1, (m 1 3)), (1, 280), (0, (-1))] m fun m11 => shp (m11 1 3) = 30 ∧ (0 ≤ a2 ∧ a2 < 24) ∧ TrV 109 [(1, 370), (1, (m11 1 5)), (0, a1), (1, ((m11 1 3) + 54 + 2 * a2))] m11 fun m17 => (a3 < (m17 370 2) → (0 ≤ a3 ∧ a3 < 10) ∧ K (m17 371 a3) m17) ∧ (¬ a3 < (m17 370 2) → K (-2) m17))) ∧ (¬ (0 ≤ a2 ∧ a2 < m (m 1 3) 6) → K (-1) m)) ∧ (¬ (0 ≤ a1 ∧ a1 < m (m 1 5) 4) → K (-1) m)) : X 108 0 [(1, 1), (0, a1), (0, a2), (0, a3)] [] m (qI K) := by
  refine x_s (q := (.aload_n 0, 0, 0, 0)) (cod_108 rfl) rfl rfl rfl ?_
  refine x_s (q := (.iload_n 1, 0, 0, 0)) (cod_108 rfl) rfl rfl rfl ?_
  obtain ⟨c1, H2⟩ := H
  refine x_call (as := [(1, 1), (0, a1)]) (rest := []) (cod_108 rfl) rfl rfl (by decide) (by decide) rfl rfl (Nat.le_of_ble_eq_true rfl) (rcv0 sq_l_1_0 sq_p_1 (by decide)) (Nat.le_of_ble_eq_true rfl) ?_
  refine x_pure (p74 c1) ?_
  show X 108 5 [(1, 1), (0, a1), (0, a2), (0, a3)] [(0, bi (0 ≤ a1 ∧ a1 < m (m 1 5) 4))] m _
  refine x_if (p := ¬ (0 ≤ a1 ∧ a1 < m (m 1 5) 4)) (tgt := 20) (cod_108 rfl) (by decide) xb_eq (fun h => ?_) (fun h => ?_)
  · have H3 := H2.2 h
    refine x_s (q := (.iconst (-1), 0, 0, 0)) (cod_108 rfl) rfl rfl rfl ?_
    refine x_retI (t := .int) (cod_108 rfl) rfl rfl rfl ?_
    exact H3
  · have H4 := H2.1 (Classical.not_not.mp h)
    refine x_s (q := (.aload_n 0, 0, 0, 0)) (cod_108 rfl) rfl rfl rfl ?_
    refine x_s (q := (.iload_n 2, 0, 0, 0)) (cod_108 rfl) rfl rfl rfl ?_
    obtain ⟨c5, H6⟩ := H4
    refine x_call (as := [(1, 1), (0, a2)]) (rest := []) (cod_108 rfl) rfl rfl (by decide) (by decide) rfl rfl (Nat.le_of_ble_eq_true rfl) (rcv0 sq_l_1_0 sq_p_1 (by decide)) (Nat.le_of_ble_eq_true rfl) ?_
    refine x_pure (p68 c5) ?_
    show X 108 13 [(1, 1), (0, a1), (0, a2), (0, a3)] [(0, bi (0 ≤ a2 ∧ a2 < m (m 1 3) 6))] m _
    refine x_if (p := ¬ (0 ≤ a2 ∧ a2 < m (m 1 3) 6)) (tgt := 20) (cod_108 rfl) (by decide) xb_eq (fun h => ?_) (fun h => ?_)
    · have H7 := H6.2 h
      refine x_s (q := (.iconst (-1), 0, 0, 0)) (cod_108 rfl) rfl rfl rfl ?_
      refine x_retI (t := .int) (cod_108 rfl) rfl rfl rfl ?_
      exact H7
    · have H8 := H6.1 (Classical.not_not.mp h)
      refine x_s (q := (.iload_n 3, 0, 0, 0)) (cod_108 rfl) rfl rfl rfl ?_
      refine x_if (p := ¬ a3 < 0) (tgt := 22) (cod_108 rfl) (by decide) xn_ge (fun h => ?_) (fun h => ?_)
      · have H9 := H8.2 h
        refine x_s (q := (.aload_n 0, 0, 0, 0)) (cod_108 rfl) rfl rfl rfl ?_
        refine x_gc (kk := 9) (c := 370) (t := 1) (cod_108 rfl) sq_p_1 sq_l_1_9 rfl rfl ?_
        refine x_s (q := (.aload_n 0, 0, 0, 0)) (cod_108 rfl) rfl rfl rfl ?_
        refine x_gf (kk := 3) (t := 1) (cod_108 rfl) sq_p_1 sq_l_1_3 rfl rfl ?_
        refine x_s (q := (.aload_n 0, 0, 0, 0)) (cod_108 rfl) rfl rfl rfl ?_
        refine x_gc (kk := 7) (c := 280) (t := 1) (cod_108 rfl) sq_p_1 sq_l_1_7 rfl rfl ?_
        refine x_s (q := (.iconst (-1), 0, 0, 0)) (cod_108 rfl) rfl rfl rfl ?_
        refine x_call (as := [(1, 370), (1, (m 1 3)), (1, 280), (0, (-1))]) (rest := []) (cod_108 rfl) rfl rfl (by decide) (by decide) rfl rfl (Nat.le_of_ble_eq_true rfl) (rcv0 sq_l_370_0 sq_p_370 (by decide)) (Nat.le_of_ble_eq_true rfl) ?_
        refine X.imp H9 ?_
        rintro _ m11 ⟨rfl, H12⟩
        show X 108 38 [(1, 1), (0, a1), (0, a2), (0, a3)] [] m11 _
        refine x_s (q := (.aload_n 0, 0, 0, 0)) (cod_108 rfl) rfl rfl rfl ?_
        refine x_gc (kk := 9) (c := 370) (t := 1) (cod_108 rfl) sq_p_1 sq_l_1_9 rfl rfl ?_
        refine x_s (q := (.aload_n 0, 0, 0, 0)) (cod_108 rfl) rfl rfl rfl ?_
        refine x_gf (kk := 5) (t := 1) (cod_108 rfl) sq_p_1 sq_l_1_5 rfl rfl ?_
        refine x_s (q := (.iload_n 1, 0, 0, 0)) (cod_108 rfl) rfl rfl rfl ?_
        refine x_s (q := (.aload_n 0, 0, 0, 0)) (cod_108 rfl) rfl rfl rfl ?_
        refine x_gf (kk := 3) (t := 1) (cod_108 rfl) sq_p_1 sq_l_1_3 rfl rfl ?_
        obtain ⟨c13, H14⟩ := H12
        refine x_gc (kk := 1) (c := ((m11 1 3) + 2)) (t := 1) (cod_108 rfl) c13 (sq_c_10_1 c13) rfl rfl ?_
        refine x_s (q := (.iload_n 2, 0, 0, 0)) (cod_108 rfl) rfl rfl rfl ?_
        obtain ⟨c15, H16⟩ := H14
        refine x_aaldc (c := ((m11 1 3) + 54 + 2 * a2)) (cod_108 rfl) (by rw [(sq_oa_10_1 (j := a2) c13 c15.1 c15.2).2.1]; decide) (sq_oa_10_1 (j := a2) c13 c15.1 c15.2).1 ?_
        refine x_call (as := [(1, 370), (1, (m11 1 5)), (0, a1), (1, ((m11 1 3) + 54 + 2 * a2))]) (rest := []) (cod_108 rfl) rfl rfl (by decide) (by decide) rfl rfl (Nat.le_of_ble_eq_true rfl) (rcv0 sq_l_370_0 sq_p_370 (by decide)) (Nat.le_of_ble_eq_true rfl) ?_
        refine X.imp H16 ?_
        rintro _ m17 ⟨rfl, H18⟩
        show X 108 59 [(1, 1), (0, a1), (0, a2), (0, a3)] [] m17 _
        refine x_s (q := (.iload_n 3, 0, 0, 0)) (cod_108 rfl) rfl rfl rfl ?_
        refine x_s (q := (.aload_n 0, 0, 0, 0)) (cod_108 rfl) rfl rfl rfl ?_
        refine x_gc (kk := 9) (c := 370) (t := 1) (cod_108 rfl) sq_p_1 sq_l_1_9 rfl rfl ?_
        refine x_gf (kk := 2) (t := 0) (cod_108 rfl) sq_p_370 sq_l_370_2 rfl rfl ?_
        refine x_ic (p := ¬ a3 < (m17 370 2)) (tgt := 82) (cod_108 rfl) (by decide) xn_ge (fun h => ?_) (fun h => ?_)
        · have H19 := H18.2 h
          refine x_s (q := (.bipush (-2), 0, 0, 0)) (cod_108 rfl) rfl rfl rfl ?_
          refine x_retI (t := .int) (cod_108 rfl) rfl rfl rfl ?_
          exact H19
        · have H20 := H18.1 (Classical.not_not.mp h)
          refine x_s (q := (.aload_n 0, 0, 0, 0)) (cod_108 rfl) rfl rfl rfl ?_
          refine x_gc (kk := 9) (c := 370) (t := 1) (cod_108 rfl) sq_p_1 sq_l_1_9 rfl rfl ?_
          refine x_gc (kk := 0) (c := 371) (t := 1) (cod_108 rfl) sq_p_370 sq_l_370_0 rfl rfl ?_
          refine x_s (q := (.iload_n 3, 0, 0, 0)) (cod_108 rfl) rfl rfl rfl ?_
          obtain ⟨c21, H22⟩ := H20
          refine x_iald (cod_108 rfl) sq_a_371.s (sq_a_371.k c21.1 c21.2) ?_
          refine x_go (tgt := 84) (cod_108 rfl) (by decide) ?_
          refine x_retI (t := .int) (cod_108 rfl) rfl rfl rfl ?_
          exact H22
      · have H10 := H8.1 (Classical.not_not.mp h)
        refine x_s (q := (.iconst (-1), 0, 0, 0)) (cod_108 rfl) rfl rfl rfl ?_
        refine x_retI (t := .int) (cod_108 rfl) rfl rfl rfl ?_
        exact H10
theorem e108 {m : Mm} {K : Int → Mm → Prop} (a1 : Int) (a2 : Int) (a3 : Int) 
  (H : shp (m 1 5) = 24 ∧ ((0 ≤ a1 ∧ a1 < m (m 1 5) 4) → shp (m 1 3) = 30 ∧ ((0 ≤ a2 ∧ a2 < m (m 1 3) 6) → (a3 < 0 → K (-1) m) ∧ (¬ a3 < 0 → TrV 77 [(1, 370), (1, (m 1 3)), (1, 280), (0, (-1))] m fun m11 => shp (m11 1 3) = 30 ∧ (0 ≤ a2 ∧ a2 < 24) ∧ TrV 109 [(1, 370), (1, (m11 1 5)), (0, a1), (1, ((m11 1 3) + 54 + 2 * a2))] m11 fun m17 => (a3 < (m17 370 2) → (0 ≤ a3 ∧ a3 < 10) ∧ K (m17 371 a3) m17) ∧ (¬ a3 < (m17 370 2) → K (-2) m17))) ∧ (¬ (0 ≤ a2 ∧ a2 < m (m 1 3) 6) → K (-1) m)) ∧ (¬ (0 ≤ a1 ∧ a1 < m (m 1 5) 4) → K (-1) m)) : TrI 108 [(1, 1), (0, a1), (0, a2), (0, a3)] m K := by
  exact w108_0 a1 a2 a3 H
set_option maxRecDepth 100000 in
theorem w109_0 {m : Mm} {K : Mm → Prop} (a1 : Int) (a2 : Int) (a3 : Int) (ta1 : shp a1 = 24) (ta3 : shp a3 = 21)
  (H : ∀ m1, m1 = umem m 370 2 0 → TrI 91 [(1, 370), (1, a1), (0, a2), (1, a3)] m1 fun v5 m3 => (v5 < 1000000 → X 109 24 [(1, 370), (1, a1), (0, a2), (1, a3), (0, 0), (0, 0), (9, 0)] [] m3 (qV K)) ∧ (¬ v5 < 1000000 → K m3)) : X 109 0 [(1, 370), (1, a1), (0, a2), (1, a3), (9, 0), (9, 0), (9, 0)] [] m (qV K) := by
  refine x_s (q := (.aload_n 0, 0, 0, 0)) (cod_109 rfl) rfl rfl rfl ?_
  refine x_s (q := (.iconst 0, 0, 0, 0)) (cod_109 rfl) rfl rfl rfl ?_
  refine x_pf (kk := 2) (t := 0) (cod_109 rfl) sq_p_370 sq_l_370_2 rfl rfl rfl ?_
  have H2 := H _ rfl
  generalize umem m 370 2 0 = m1 at H2 ⊢
  refine x_s (q := (.aload_n 0, 0, 0, 0)) (cod_109 rfl) rfl rfl rfl ?_
  refine x_aldn (cod_109 rfl) rfl (pos_of ta1 (by decide)) ?_
  refine x_s (q := (.iload_n 2, 0, 0, 0)) (cod_109 rfl) rfl rfl rfl ?_
  refine x_aldn (cod_109 rfl) rfl (pos_of ta3 (by decide)) ?_
  refine x_call (as := [(1, 370), (1, a1), (0, a2), (1, a3)]) (rest := []) (cod_109 rfl) rfl rfl (by decide) (by decide) rfl rfl (Nat.le_of_ble_eq_true rfl) (rcv0 sq_l_370_0 sq_p_370 (by decide)) (Nat.le_of_ble_eq_true rfl) ?_
  refine X.imp H2 ?_
  rintro _ m3 ⟨v5, rfl, H4⟩
  show X 109 12 [(1, 370), (1, a1), (0, a2), (1, a3), (9, 0), (9, 0), (9, 0)] [(0, v5)] m3 _
  refine x_s (q := (.ldc 81, 1000000, 0, 0)) (cod_109 rfl) rfl rfl rfl ?_
  refine x_ic (p := v5 < 1000000) (tgt := 18) (cod_109 rfl) (by decide) xj_lt (fun h => ?_) (fun h => ?_)
  · have H6 := H4.1 h
    refine x_s (q := (.iconst 0, 0, 0, 0)) (cod_109 rfl) rfl rfl rfl ?_
    refine x_s (q := (.istore 4, 0, 0, 0)) (cod_109 rfl) rfl rfl rfl ?_
    refine x_s (q := (.iconst 0, 0, 0, 0)) (cod_109 rfl) rfl rfl rfl ?_
    refine x_s (q := (.istore 5, 0, 0, 0)) (cod_109 rfl) rfl rfl rfl ?_
    exact H6
  · have H7 := H4.2 h
    refine x_retV (cod_109 rfl) rfl ?_
    exact H7
theorem e109 {m : Mm} {K : Mm → Prop} (a1 : Int) (a2 : Int) (a3 : Int) (ta1 : shp a1 = 24) (ta3 : shp a3 = 21)
  (H : ∀ m1, m1 = umem m 370 2 0 → TrI 91 [(1, 370), (1, a1), (0, a2), (1, a3)] m1 fun v5 m3 => (v5 < 1000000 → X 109 24 [(1, 370), (1, a1), (0, a2), (1, a3), (0, 0), (0, 0), (9, 0)] [] m3 (qV K)) ∧ (¬ v5 < 1000000 → K m3)) : TrV 109 [(1, 370), (1, a1), (0, a2), (1, a3)] m K := by
  exact w109_0 a1 a2 a3 ta1 ta3 H
set_option maxRecDepth 100000 in
theorem w109_24 {m : Mm} {K : Mm → Prop} (a1 : Int) (a2 : Int) (a3 : Int) (a4 : Int) (a5 : Int) (ua6 : aV) (ta1 : shp a1 = 24) (ta3 : shp a3 = 21)
  (H : (0 ≤ a2 ∧ a2 < 10) ∧ (a5 < (m (a1 + 1) a2) → (0 ≤ a5 ∧ a5 < 11) ∧ ((m (a1 + 25 + a2) a5) = 27 → TrI 110 [(1, 370), (1, a1), (0, a2), (0, a5), (1, a3), (0, a4)] m fun v11 m9 => (v11 < 0 → K m9) ∧ (¬ v11 < 0 → (0 ≤ (m9 370 2) ∧ (m9 370 2) < 10) ∧ ∀ m16, m16 = umem m9 371 (m9 370 2) v11 → ∀ m18, m18 = umem m16 370 2 (wr ((m16 370 2) + 1)) → (0 ≤ v11 ∧ v11 < 24) ∧ shp (m18 373 v11) = 27 ∧ X 109 24 [(1, 370), (1, a1), (0, a2), (1, a3), (0, wr (a4 + (m18 (m18 373 v11) 2))), (0, wr (a5 + 1)), (0, v11)] [] m18 (qV K))) ∧ (¬ (m (a1 + 25 + a2) a5) = 27 → X 109 24 [(1, 370), (1, a1), (0, a2), (1, a3), (0, wr (a4 + 1)), (0, wr (a5 + 1)), ua6] [] m (qV K))) ∧ (¬ a5 < (m (a1 + 1) a2) → K m)) : X 109 24 [(1, 370), (1, a1), (0, a2), (1, a3), (0, a4), (0, a5), ua6] [] m (qV K) := by
  refine x_s (q := (.iload 5, 0, 0, 0)) (cod_109 rfl) rfl rfl rfl ?_
  refine x_aldn (cod_109 rfl) rfl (pos_of ta1 (by decide)) ?_
  refine x_gc (kk := 0) (c := (a1 + 1)) (t := 1) (cod_109 rfl) ta1 (sq_c_4_0 ta1) rfl rfl ?_
  refine x_s (q := (.iload_n 2, 0, 0, 0)) (cod_109 rfl) rfl rfl rfl ?_
  obtain ⟨c1, H2⟩ := H
  refine x_iald (cod_109 rfl) (sq_ac_4_0 ta1).s ((sq_ac_4_0 ta1).k c1.1 c1.2) ?_
  refine x_ic (p := ¬ a5 < (m (a1 + 1) a2)) (tgt := 116) (cod_109 rfl) (by decide) xn_ge (fun h => ?_) (fun h => ?_)
  · have H3 := H2.2 h
    refine x_retV (cod_109 rfl) rfl ?_
    exact H3
  · have H4 := H2.1 (Classical.not_not.mp h)
    refine x_aldn (cod_109 rfl) rfl (pos_of ta1 (by decide)) ?_
    refine x_gc (kk := 3) (c := (a1 + 24)) (t := 1) (cod_109 rfl) ta1 (sq_c_4_3 ta1) rfl rfl ?_
    refine x_s (q := (.iload_n 2, 0, 0, 0)) (cod_109 rfl) rfl rfl rfl ?_
    refine x_aaldc (c := (a1 + 25 + a2)) (cod_109 rfl) (by rw [(sq_roc_4_3 (j := a2) ta1 c1.1 c1.2).2]; decide) (sq_roc_4_3 (j := a2) ta1 c1.1 c1.2).1 ?_
    refine x_s (q := (.iload 5, 0, 0, 0)) (cod_109 rfl) rfl rfl rfl ?_
    obtain ⟨c5, H6⟩ := H4
    refine x_iald (cod_109 rfl) (sq_rwc_4_3 (j := a2) ta1 c1.1 c1.2).s ((sq_rwc_4_3 (j := a2) ta1 c1.1 c1.2).k c5.1 c5.2) ?_
    refine x_s (q := (.bipush 27, 0, 0, 0)) (cod_109 rfl) rfl rfl rfl ?_
    refine x_ic (p := (m (a1 + 25 + a2) a5) = 27) (tgt := 55) (cod_109 rfl) (by decide) xj_eq (fun h => ?_) (fun h => ?_)
    · have H7 := H6.1 h
      refine x_s (q := (.aload_n 0, 0, 0, 0)) (cod_109 rfl) rfl rfl rfl ?_
      refine x_aldn (cod_109 rfl) rfl (pos_of ta1 (by decide)) ?_
      refine x_s (q := (.iload_n 2, 0, 0, 0)) (cod_109 rfl) rfl rfl rfl ?_
      refine x_s (q := (.iload 5, 0, 0, 0)) (cod_109 rfl) rfl rfl rfl ?_
      refine x_aldn (cod_109 rfl) rfl (pos_of ta3 (by decide)) ?_
      refine x_s (q := (.iload 4, 0, 0, 0)) (cod_109 rfl) rfl rfl rfl ?_
      refine x_call (as := [(1, 370), (1, a1), (0, a2), (0, a5), (1, a3), (0, a4)]) (rest := []) (cod_109 rfl) rfl rfl (by decide) (by decide) rfl rfl (Nat.le_of_ble_eq_true rfl) (rcv0 sq_l_370_0 sq_p_370 (by decide)) (Nat.le_of_ble_eq_true rfl) ?_
      refine X.imp H7 ?_
      rintro _ m9 ⟨v11, rfl, H10⟩
      show X 109 66 [(1, 370), (1, a1), (0, a2), (1, a3), (0, a4), (0, a5), ua6] [(0, v11)] m9 _
      refine x_s (q := (.istore 6, 0, 0, 0)) (cod_109 rfl) rfl rfl rfl ?_
      refine x_s (q := (.iload 6, 0, 0, 0)) (cod_109 rfl) rfl rfl rfl ?_
      refine x_if (p := ¬ v11 < 0) (tgt := 74) (cod_109 rfl) (by decide) xn_ge (fun h => ?_) (fun h => ?_)
      · have H12 := H10.2 h
        refine x_s (q := (.aload_n 0, 0, 0, 0)) (cod_109 rfl) rfl rfl rfl ?_
        refine x_gc (kk := 0) (c := 371) (t := 1) (cod_109 rfl) sq_p_370 sq_l_370_0 rfl rfl ?_
        refine x_s (q := (.aload_n 0, 0, 0, 0)) (cod_109 rfl) rfl rfl rfl ?_
        refine x_gf (kk := 2) (t := 0) (cod_109 rfl) sq_p_370 sq_l_370_2 rfl rfl ?_
        refine x_s (q := (.iload 6, 0, 0, 0)) (cod_109 rfl) rfl rfl rfl ?_
        obtain ⟨c14, H15⟩ := H12
        refine x_iast (cod_109 rfl) sq_a_371.s (sq_a_371.k c14.1 c14.2) ?_
        have H17 := H15 _ rfl
        generalize umem m9 371 (m9 370 2) v11 = m16 at H17 ⊢
        refine x_s (q := (.aload_n 0, 0, 0, 0)) (cod_109 rfl) rfl rfl rfl ?_
        refine x_s (q := (.dup, 0, 0, 0)) (cod_109 rfl) rfl rfl rfl ?_
        refine x_gf (kk := 2) (t := 0) (cod_109 rfl) sq_p_370 sq_l_370_2 rfl rfl ?_
        refine x_s (q := (.iconst 1, 0, 0, 0)) (cod_109 rfl) rfl rfl rfl ?_
        refine x_s (q := (.iadd, 0, 0, 0)) (cod_109 rfl) rfl rfl rfl ?_
        refine x_pf (kk := 2) (t := 0) (cod_109 rfl) sq_p_370 sq_l_370_2 rfl rfl rfl ?_
        have H19 := H17 _ rfl
        generalize umem m16 370 2 (wr ((m16 370 2) + 1)) = m18 at H19 ⊢
        refine x_s (q := (.iload 4, 0, 0, 0)) (cod_109 rfl) rfl rfl rfl ?_
        refine x_s (q := (.aload_n 0, 0, 0, 0)) (cod_109 rfl) rfl rfl rfl ?_
        refine x_gc (kk := 4) (c := 373) (t := 1) (cod_109 rfl) sq_p_370 sq_l_370_4 rfl rfl ?_
        refine x_s (q := (.iload 6, 0, 0, 0)) (cod_109 rfl) rfl rfl rfl ?_
        obtain ⟨c20, H21⟩ := H19
        refine x_aald (cod_109 rfl) (by rw [sq_a_373.s]; decide) (sq_a_373.k c20.1 c20.2) ?_
        obtain ⟨c22, H23⟩ := H21
        refine x_gf (kk := 2) (t := 0) (cod_109 rfl) c22 (sq_c_7_2 c22) rfl rfl ?_
        refine x_s (q := (.iadd, 0, 0, 0)) (cod_109 rfl) rfl rfl rfl ?_
        refine x_s (q := (.istore 4, 0, 0, 0)) (cod_109 rfl) rfl rfl rfl ?_
        refine x_s (q := (.iinc 5 1, 0, 0, 0)) (cod_109 rfl) rfl rfl rfl ?_
        refine x_go (tgt := 24) (cod_109 rfl) (by decide) ?_
        exact H23
      · have H13 := H10.1 (Classical.not_not.mp h)
        refine x_retV (cod_109 rfl) rfl ?_
        exact H13
    · have H8 := H6.2 h
      refine x_s (q := (.iinc 4 1, 0, 0, 0)) (cod_109 rfl) rfl rfl rfl ?_
      refine x_go (tgt := 110) (cod_109 rfl) (by decide) ?_
      refine x_s (q := (.iinc 5 1, 0, 0, 0)) (cod_109 rfl) rfl rfl rfl ?_
      refine x_go (tgt := 24) (cod_109 rfl) (by decide) ?_
      exact H8
set_option maxRecDepth 100000 in
theorem w110_0 {m : Mm} {K : Int → Mm → Prop} (a1 : Int) (a2 : Int) (a3 : Int) (a4 : Int) (a5 : Int) (ta1 : shp a1 = 24) (ta4 : shp a4 = 21)
  (H : v_E m a4 ∧ X 110 14 [(1, 370), (1, a1), (0, a2), (0, a3), (1, a4), (0, a5), (0, cAt m a4 (wr (a5 - 1))), (0, 0)] [] m (qI K)) : X 110 0 [(1, 370), (1, a1), (0, a2), (0, a3), (1, a4), (0, a5), (9, 0), (9, 0)] [] m (qI K) := by
  refine x_ald (cod_110 rfl) rfl (pos_of ta4 (by decide)) ?_
  refine x_s (q := (.iload 5, 0, 0, 0)) (cod_110 rfl) rfl rfl rfl ?_
  refine x_s (q := (.iconst 1, 0, 0, 0)) (cod_110 rfl) rfl rfl rfl ?_
  refine x_s (q := (.isub, 0, 0, 0)) (cod_110 rfl) rfl rfl rfl ?_
  obtain ⟨c1, H2⟩ := H
  refine x_call (as := [(1, a4), (0, wr (a5 - 1))]) (rest := []) (cod_110 rfl) rfl rfl (by decide) (by decide) rfl rfl (Nat.le_of_ble_eq_true rfl) (rcv0 (sq_c_1_0 ta4) ta4 (by decide)) (Nat.le_of_ble_eq_true rfl) ?_
  refine x_pure (p93 c1) ?_
  show X 110 9 [(1, 370), (1, a1), (0, a2), (0, a3), (1, a4), (0, a5), (9, 0), (9, 0)] [(0, cAt m a4 (wr (a5 - 1)))] m _
  refine x_s (q := (.istore 6, 0, 0, 0)) (cod_110 rfl) rfl rfl rfl ?_
  refine x_s (q := (.iconst 0, 0, 0, 0)) (cod_110 rfl) rfl rfl rfl ?_
  refine x_s (q := (.istore 7, 0, 0, 0)) (cod_110 rfl) rfl rfl rfl ?_
  exact H2
theorem e110 {m : Mm} {K : Int → Mm → Prop} (a1 : Int) (a2 : Int) (a3 : Int) (a4 : Int) (a5 : Int) (ta1 : shp a1 = 24) (ta4 : shp a4 = 21)
  (H : v_E m a4 ∧ X 110 14 [(1, 370), (1, a1), (0, a2), (0, a3), (1, a4), (0, a5), (0, cAt m a4 (wr (a5 - 1))), (0, 0)] [] m (qI K)) : TrI 110 [(1, 370), (1, a1), (0, a2), (0, a3), (1, a4), (0, a5)] m K := by
  exact w110_0 a1 a2 a3 a4 a5 ta1 ta4 H
set_option maxRecDepth 100000 in
theorem w110_14 {m : Mm} {K : Int → Mm → Prop} (a1 : Int) (a2 : Int) (a3 : Int) (a4 : Int) (a5 : Int) (a6 : Int) (a7 : Int) (ta1 : shp a1 = 24) (ta4 : shp a4 = 21)
  (H : (a7 < (m 370 9) → (0 ≤ a2 ∧ a2 < 10) ∧ (0 ≤ a3 ∧ a3 < 10) ∧ (0 ≤ (wr (a3 + 1)) ∧ (wr (a3 + 1)) < 11) ∧ ((0 ≤ a7 ∧ a7 < 24) ∧ shp (m 373 a7) = 27) ∧ ((suC m a7 (m (a1 + 14 + a2) a3) a6 (m (a1 + 25 + a2) (wr (a3 + 1))) = true) → (0 ≤ a7 ∧ a7 < 24) ∧ shp (m 373 a7) = 27 ∧ (v_R m (m 373 a7) ∧ v_E m a4 ∧ 0 ≤ a5 ∧ a5 ≤ 8) ∧ ((stC m (m 373 a7) a4 a5 = true) → (0 ≤ (wr (a5 + (m (m 373 a7) 2))) ∧ (wr (a5 + (m (m 373 a7) 2))) < 9) ∧ (0 ≤ a3 ∧ a3 < 11) ∧ (0 ≤ a5 ∧ a5 < 9) ∧ ((wr ((m 374 a7) + (m (400 + (wr (a3 + 1))) (wr (a5 + (m (m 373 a7) 2)))))) = (m (400 + a3) a5) → K a7 m) ∧ (¬ (wr ((m 374 a7) + (m (400 + (wr (a3 + 1))) (wr (a5 + (m (m 373 a7) 2)))))) = (m (400 + a3) a5) → X 110 14 [(1, 370), (1, a1), (0, a2), (0, a3), (1, a4), (0, a5), (0, a6), (0, wr (a7 + 1))] [] m (qI K))) ∧ (¬ (stC m (m 373 a7) a4 a5 = true) → X 110 14 [(1, 370), (1, a1), (0, a2), (0, a3), (1, a4), (0, a5), (0, a6), (0, wr (a7 + 1))] [] m (qI K))) ∧ (¬ (suC m a7 (m (a1 + 14 + a2) a3) a6 (m (a1 + 25 + a2) (wr (a3 + 1))) = true) → X 110 14 [(1, 370), (1, a1), (0, a2), (0, a3), (1, a4), (0, a5), (0, a6), (0, wr (a7 + 1))] [] m (qI K))) ∧ (¬ a7 < (m 370 9) → K (-1) m)) : X 110 14 [(1, 370), (1, a1), (0, a2), (0, a3), (1, a4), (0, a5), (0, a6), (0, a7)] [] m (qI K) := by
  refine x_s (q := (.iload 7, 0, 0, 0)) (cod_110 rfl) rfl rfl rfl ?_
  refine x_s (q := (.aload_n 0, 0, 0, 0)) (cod_110 rfl) rfl rfl rfl ?_
  refine x_gf (kk := 9) (t := 0) (cod_110 rfl) sq_p_370 sq_l_370_9 rfl rfl ?_
  refine x_ic (p := ¬ a7 < (m 370 9)) (tgt := 120) (cod_110 rfl) (by decide) xn_ge (fun h => ?_) (fun h => ?_)
  · have H1 := H.2 h
    refine x_s (q := (.iconst (-1), 0, 0, 0)) (cod_110 rfl) rfl rfl rfl ?_
    refine x_retI (t := .int) (cod_110 rfl) rfl rfl rfl ?_
    exact H1
  · have H2 := H.1 (Classical.not_not.mp h)
    refine x_s (q := (.aload_n 0, 0, 0, 0)) (cod_110 rfl) rfl rfl rfl ?_
    refine x_s (q := (.iload 7, 0, 0, 0)) (cod_110 rfl) rfl rfl rfl ?_
    refine x_aldn (cod_110 rfl) rfl (pos_of ta1 (by decide)) ?_
    refine x_gc (kk := 2) (c := (a1 + 13)) (t := 1) (cod_110 rfl) ta1 (sq_c_4_2 ta1) rfl rfl ?_
    refine x_s (q := (.iload_n 2, 0, 0, 0)) (cod_110 rfl) rfl rfl rfl ?_
    obtain ⟨c3, H4⟩ := H2
    refine x_aaldc (c := (a1 + 14 + a2)) (cod_110 rfl) (by rw [(sq_roc_4_2 (j := a2) ta1 c3.1 c3.2).2]; decide) (sq_roc_4_2 (j := a2) ta1 c3.1 c3.2).1 ?_
    refine x_s (q := (.iload_n 3, 0, 0, 0)) (cod_110 rfl) rfl rfl rfl ?_
    obtain ⟨c5, H6⟩ := H4
    refine x_iald (cod_110 rfl) (sq_rwc_4_2 (j := a2) ta1 c3.1 c3.2).s ((sq_rwc_4_2 (j := a2) ta1 c3.1 c3.2).k c5.1 c5.2) ?_
    refine x_s (q := (.iload 6, 0, 0, 0)) (cod_110 rfl) rfl rfl rfl ?_
    refine x_aldn (cod_110 rfl) rfl (pos_of ta1 (by decide)) ?_
    refine x_gc (kk := 3) (c := (a1 + 24)) (t := 1) (cod_110 rfl) ta1 (sq_c_4_3 ta1) rfl rfl ?_
    refine x_s (q := (.iload_n 2, 0, 0, 0)) (cod_110 rfl) rfl rfl rfl ?_
    refine x_aaldc (c := (a1 + 25 + a2)) (cod_110 rfl) (by rw [(sq_roc_4_3 (j := a2) ta1 c3.1 c3.2).2]; decide) (sq_roc_4_3 (j := a2) ta1 c3.1 c3.2).1 ?_
    refine x_s (q := (.iload_n 3, 0, 0, 0)) (cod_110 rfl) rfl rfl rfl ?_
    refine x_s (q := (.iconst 1, 0, 0, 0)) (cod_110 rfl) rfl rfl rfl ?_
    refine x_s (q := (.iadd, 0, 0, 0)) (cod_110 rfl) rfl rfl rfl ?_
    obtain ⟨c7, H8⟩ := H6
    refine x_iald (cod_110 rfl) (sq_rwc_4_3 (j := a2) ta1 c3.1 c3.2).s ((sq_rwc_4_3 (j := a2) ta1 c3.1 c3.2).k c7.1 c7.2) ?_
    obtain ⟨c9, H10⟩ := H8
    refine x_call (as := [(1, 370), (0, a7), (0, m (a1 + 14 + a2) a3), (0, a6), (0, m (a1 + 25 + a2) (wr (a3 + 1)))]) (rest := []) (cod_110 rfl) rfl rfl (by decide) (by decide) rfl rfl (Nat.le_of_ble_eq_true rfl) (rcv0 sq_l_370_0 sq_p_370 (by decide)) (Nat.le_of_ble_eq_true rfl) ?_
    refine x_pure (p83 c9) ?_
    show X 110 49 [(1, 370), (1, a1), (0, a2), (0, a3), (1, a4), (0, a5), (0, a6), (0, a7)] [(0, bi (suC m a7 (m (a1 + 14 + a2) a3) a6 (m (a1 + 25 + a2) (wr (a3 + 1))) = true))] m _
    refine x_if (p := ¬ (suC m a7 (m (a1 + 14 + a2) a3) a6 (m (a1 + 25 + a2) (wr (a3 + 1))) = true)) (tgt := 114) (cod_110 rfl) (by decide) xb_eq (fun h => ?_) (fun h => ?_)
    · have H11 := H10.2 h
      refine x_s (q := (.iinc 7 1, 0, 0, 0)) (cod_110 rfl) rfl rfl rfl ?_
      refine x_go (tgt := 14) (cod_110 rfl) (by decide) ?_
      exact H11
    · have H12 := H10.1 (Classical.not_not.mp h)
      refine x_s (q := (.aload_n 0, 0, 0, 0)) (cod_110 rfl) rfl rfl rfl ?_
      refine x_gc (kk := 4) (c := 373) (t := 1) (cod_110 rfl) sq_p_370 sq_l_370_4 rfl rfl ?_
      refine x_s (q := (.iload 7, 0, 0, 0)) (cod_110 rfl) rfl rfl rfl ?_
      obtain ⟨c13, H14⟩ := H12
      refine x_aald (cod_110 rfl) (by rw [sq_a_373.s]; decide) (sq_a_373.k c13.1 c13.2) ?_
      refine x_ald (cod_110 rfl) rfl (pos_of ta4 (by decide)) ?_
      refine x_s (q := (.iload 5, 0, 0, 0)) (cod_110 rfl) rfl rfl rfl ?_
      obtain ⟨c15, H16⟩ := H14
      obtain ⟨c17, H18⟩ := H16
      refine x_call (as := [(1, (m 373 a7)), (1, a4), (0, a5)]) (rest := []) (cod_110 rfl) rfl rfl (by decide) (by decide) rfl rfl (Nat.le_of_ble_eq_true rfl) (rcv0 (sq_c_7_0 c15) c15 (by decide)) (Nat.le_of_ble_eq_true rfl) ?_
      refine x_pure (p94 c17) ?_
      show X 110 66 [(1, 370), (1, a1), (0, a2), (0, a3), (1, a4), (0, a5), (0, a6), (0, a7)] [(0, bi (stC m (m 373 a7) a4 a5 = true))] m _
      refine x_if (p := ¬ (stC m (m 373 a7) a4 a5 = true)) (tgt := 114) (cod_110 rfl) (by decide) xb_eq (fun h => ?_) (fun h => ?_)
      · have H19 := H18.2 h
        refine x_s (q := (.iinc 7 1, 0, 0, 0)) (cod_110 rfl) rfl rfl rfl ?_
        refine x_go (tgt := 14) (cod_110 rfl) (by decide) ?_
        exact H19
      · have H20 := H18.1 (Classical.not_not.mp h)
        refine x_s (q := (.aload_n 0, 0, 0, 0)) (cod_110 rfl) rfl rfl rfl ?_
        refine x_gc (kk := 5) (c := 374) (t := 1) (cod_110 rfl) sq_p_370 sq_l_370_5 rfl rfl ?_
        refine x_s (q := (.iload 7, 0, 0, 0)) (cod_110 rfl) rfl rfl rfl ?_
        refine x_iald (cod_110 rfl) sq_a_374.s (sq_a_374.k c13.1 c13.2) ?_
        refine x_s (q := (.aload_n 0, 0, 0, 0)) (cod_110 rfl) rfl rfl rfl ?_
        refine x_gc (kk := 8) (c := 399) (t := 1) (cod_110 rfl) sq_p_370 sq_l_370_8 rfl rfl ?_
        refine x_s (q := (.iload_n 3, 0, 0, 0)) (cod_110 rfl) rfl rfl rfl ?_
        refine x_s (q := (.iconst 1, 0, 0, 0)) (cod_110 rfl) rfl rfl rfl ?_
        refine x_s (q := (.iadd, 0, 0, 0)) (cod_110 rfl) rfl rfl rfl ?_
        refine x_aaldc (c := (400 + (wr (a3 + 1)))) (cod_110 rfl) (by rw [(sq_ro_399 (j := wr (a3 + 1)) c7.1 c7.2).2]; decide) (sq_ro_399 (j := wr (a3 + 1)) c7.1 c7.2).1 ?_
        refine x_s (q := (.iload 5, 0, 0, 0)) (cod_110 rfl) rfl rfl rfl ?_
        refine x_s (q := (.aload_n 0, 0, 0, 0)) (cod_110 rfl) rfl rfl rfl ?_
        refine x_gc (kk := 4) (c := 373) (t := 1) (cod_110 rfl) sq_p_370 sq_l_370_4 rfl rfl ?_
        refine x_s (q := (.iload 7, 0, 0, 0)) (cod_110 rfl) rfl rfl rfl ?_
        refine x_aald (cod_110 rfl) (by rw [sq_a_373.s]; decide) (sq_a_373.k c13.1 c13.2) ?_
        refine x_gf (kk := 2) (t := 0) (cod_110 rfl) c15 (sq_c_7_2 c15) rfl rfl ?_
        refine x_s (q := (.iadd, 0, 0, 0)) (cod_110 rfl) rfl rfl rfl ?_
        obtain ⟨c21, H22⟩ := H20
        refine x_iald (cod_110 rfl) (sq_rw_399 (j := wr (a3 + 1)) c7.1 c7.2).s ((sq_rw_399 (j := wr (a3 + 1)) c7.1 c7.2).k c21.1 c21.2) ?_
        refine x_s (q := (.iadd, 0, 0, 0)) (cod_110 rfl) rfl rfl rfl ?_
        refine x_s (q := (.aload_n 0, 0, 0, 0)) (cod_110 rfl) rfl rfl rfl ?_
        refine x_gc (kk := 8) (c := 399) (t := 1) (cod_110 rfl) sq_p_370 sq_l_370_8 rfl rfl ?_
        refine x_s (q := (.iload_n 3, 0, 0, 0)) (cod_110 rfl) rfl rfl rfl ?_
        obtain ⟨c23, H24⟩ := H22
        refine x_aaldc (c := (400 + a3)) (cod_110 rfl) (by rw [(sq_ro_399 (j := a3) c23.1 c23.2).2]; decide) (sq_ro_399 (j := a3) c23.1 c23.2).1 ?_
        refine x_s (q := (.iload 5, 0, 0, 0)) (cod_110 rfl) rfl rfl rfl ?_
        obtain ⟨c25, H26⟩ := H24
        refine x_iald (cod_110 rfl) (sq_rw_399 (j := a3) c23.1 c23.2).s ((sq_rw_399 (j := a3) c23.1 c23.2).k c25.1 c25.2) ?_
        refine x_ic (p := ¬ (wr ((m 374 a7) + (m (400 + (wr (a3 + 1))) (wr (a5 + (m (m 373 a7) 2)))))) = (m (400 + a3) a5)) (tgt := 114) (cod_110 rfl) (by decide) xj_ne (fun h => ?_) (fun h => ?_)
        · have H27 := H26.2 h
          refine x_s (q := (.iinc 7 1, 0, 0, 0)) (cod_110 rfl) rfl rfl rfl ?_
          refine x_go (tgt := 14) (cod_110 rfl) (by decide) ?_
          exact H27
        · have H28 := H26.1 (Classical.not_not.mp h)
          refine x_s (q := (.iload 7, 0, 0, 0)) (cod_110 rfl) rfl rfl rfl ?_
          refine x_retI (t := .int) (cod_110 rfl) rfl rfl rfl ?_
          exact H28
set_option maxRecDepth 100000 in
theorem w111_0 {m : Mm} {K : Int → Mm → Prop} (a1 : Int) 
  (H : shp (m 1 5) = 24 ∧ ((0 ≤ a1 ∧ a1 < m (m 1 5) 4) → TrV 76 [(1, 1)] m fun m5 => (0 ≤ a1 ∧ a1 < 10) ∧ K (m5 438 a1) m5) ∧ (¬ (0 ≤ a1 ∧ a1 < m (m 1 5) 4) → K (-1) m)) : X 111 0 [(1, 1), (0, a1)] [] m (qI K) := by
  refine x_s (q := (.aload_n 0, 0, 0, 0)) (cod_111 rfl) rfl rfl rfl ?_
  refine x_s (q := (.iload_n 1, 0, 0, 0)) (cod_111 rfl) rfl rfl rfl ?_
  obtain ⟨c1, H2⟩ := H
  refine x_call (as := [(1, 1), (0, a1)]) (rest := []) (cod_111 rfl) rfl rfl (by decide) (by decide) rfl rfl (Nat.le_of_ble_eq_true rfl) (rcv0 sq_l_1_0 sq_p_1 (by decide)) (Nat.le_of_ble_eq_true rfl) ?_
  refine x_pure (p74 c1) ?_
  show X 111 5 [(1, 1), (0, a1)] [(0, bi (0 ≤ a1 ∧ a1 < m (m 1 5) 4))] m _
  refine x_if (p := 0 ≤ a1 ∧ a1 < m (m 1 5) 4) (tgt := 10) (cod_111 rfl) (by decide) xb_ne (fun h => ?_) (fun h => ?_)
  · have H3 := H2.1 h
    refine x_s (q := (.aload_n 0, 0, 0, 0)) (cod_111 rfl) rfl rfl rfl ?_
    refine x_call (as := [(1, 1)]) (rest := []) (cod_111 rfl) rfl rfl (by decide) (by decide) rfl rfl (Nat.le_of_ble_eq_true rfl) (rcv0 sq_l_1_0 sq_p_1 (by decide)) (Nat.le_of_ble_eq_true rfl) ?_
    refine X.imp H3 ?_
    rintro _ m5 ⟨rfl, H6⟩
    show X 111 14 [(1, 1), (0, a1)] [] m5 _
    refine x_s (q := (.aload_n 0, 0, 0, 0)) (cod_111 rfl) rfl rfl rfl ?_
    refine x_gc (kk := 10) (c := 411) (t := 1) (cod_111 rfl) sq_p_1 sq_l_1_10 rfl rfl ?_
    refine x_gc (kk := 6) (c := 438) (t := 1) (cod_111 rfl) sq_p_411 sq_l_411_6 rfl rfl ?_
    refine x_s (q := (.iload_n 1, 0, 0, 0)) (cod_111 rfl) rfl rfl rfl ?_
    obtain ⟨c7, H8⟩ := H6
    refine x_iald (cod_111 rfl) sq_a_438.s (sq_a_438.k c7.1 c7.2) ?_
    refine x_retI (t := .int) (cod_111 rfl) rfl rfl rfl ?_
    exact H8
  · have H4 := H2.2 h
    refine x_s (q := (.iconst (-1), 0, 0, 0)) (cod_111 rfl) rfl rfl rfl ?_
    refine x_retI (t := .int) (cod_111 rfl) rfl rfl rfl ?_
    exact H4
theorem e111 {m : Mm} {K : Int → Mm → Prop} (a1 : Int) 
  (H : shp (m 1 5) = 24 ∧ ((0 ≤ a1 ∧ a1 < m (m 1 5) 4) → TrV 76 [(1, 1)] m fun m5 => (0 ≤ a1 ∧ a1 < 10) ∧ K (m5 438 a1) m5) ∧ (¬ (0 ≤ a1 ∧ a1 < m (m 1 5) 4) → K (-1) m)) : TrI 111 [(1, 1), (0, a1)] m K := by
  exact w111_0 a1 H
set_option maxRecDepth 100000 in
theorem w112_0 {m : Mm} {K : Int → Mm → Prop} (a1 : Int) (a2 : Int) (a3 : Int) 
  (H : TrV 76 [(1, 1)] m fun m1 => TrI 113 [(1, 1), (0, a1), (0, a2)] m1 fun v5 m3 => (v5 = 0 → K (-9) m3) ∧ (¬ v5 = 0 → ((a3 < 0 ∨ 2 < a3) → K (-9) m3) ∧ (a3 = 0 → (0 ≤ a1 ∧ a1 < 10) ∧ (0 ≤ a2 ∧ a2 < 24) ∧ K (m3 (440 + a1) a2) m3) ∧ (a3 = 1 → (0 ≤ a1 ∧ a1 < 10) ∧ (0 ≤ a2 ∧ a2 < 24) ∧ K (m3 (451 + a1) a2) m3) ∧ (a3 = 2 → TrI 114 [(1, 1), (0, a1), (0, a2)] m3 fun v22 m20 => K v22 m20))) : X 112 0 [(1, 1), (0, a1), (0, a2), (0, a3)] [] m (qI K) := by
  refine x_s (q := (.aload_n 0, 0, 0, 0)) (cod_112 rfl) rfl rfl rfl ?_
  refine x_call (as := [(1, 1)]) (rest := []) (cod_112 rfl) rfl rfl (by decide) (by decide) rfl rfl (Nat.le_of_ble_eq_true rfl) (rcv0 sq_l_1_0 sq_p_1 (by decide)) (Nat.le_of_ble_eq_true rfl) ?_
  refine X.imp H ?_
  rintro _ m1 ⟨rfl, H2⟩
  show X 112 4 [(1, 1), (0, a1), (0, a2), (0, a3)] [] m1 _
  refine x_s (q := (.aload_n 0, 0, 0, 0)) (cod_112 rfl) rfl rfl rfl ?_
  refine x_s (q := (.iload_n 1, 0, 0, 0)) (cod_112 rfl) rfl rfl rfl ?_
  refine x_s (q := (.iload_n 2, 0, 0, 0)) (cod_112 rfl) rfl rfl rfl ?_
  refine x_call (as := [(1, 1), (0, a1), (0, a2)]) (rest := []) (cod_112 rfl) rfl rfl (by decide) (by decide) rfl rfl (Nat.le_of_ble_eq_true rfl) (rcv0 sq_l_1_0 sq_p_1 (by decide)) (Nat.le_of_ble_eq_true rfl) ?_
  refine X.imp H2 ?_
  rintro _ m3 ⟨v5, rfl, H4⟩
  show X 112 10 [(1, 1), (0, a1), (0, a2), (0, a3)] [(0, v5)] m3 _
  refine x_if (p := ¬ v5 = 0) (tgt := 16) (cod_112 rfl) (by decide) xj_ne (fun h => ?_) (fun h => ?_)
  · have H6 := H4.2 h
    refine x_s (q := (.iload_n 3, 0, 0, 0)) (cod_112 rfl) rfl rfl rfl ?_
    refine x_tsw (cod_112 rfl) (by decide) (by decide) (by decide) (fun h => ?_) (fun i o ho h => ?_)
    · have H8 := H6.1 h
      refine x_s (q := (.bipush (-9), 0, 0, 0)) (cod_112 rfl) rfl rfl rfl ?_
      refine x_retI (t := .int) (cod_112 rfl) rfl rfl rfl ?_
      exact H8
    · match i, ho with
      | 0, ho =>
        cases ho
        have H9 := H6.2.1 (by omega)
        refine x_s (q := (.aload_n 0, 0, 0, 0)) (cod_112 rfl) rfl rfl rfl ?_
        refine x_gc (kk := 10) (c := 411) (t := 1) (cod_112 rfl) sq_p_1 sq_l_1_10 rfl rfl ?_
        refine x_gc (kk := 7) (c := 439) (t := 1) (cod_112 rfl) sq_p_411 sq_l_411_7 rfl rfl ?_
        refine x_s (q := (.iload_n 1, 0, 0, 0)) (cod_112 rfl) rfl rfl rfl ?_
        obtain ⟨c10, H11⟩ := H9
        refine x_aaldc (c := (440 + a1)) (cod_112 rfl) (by rw [(sq_ro_439 (j := a1) c10.1 c10.2).2]; decide) (sq_ro_439 (j := a1) c10.1 c10.2).1 ?_
        refine x_s (q := (.iload_n 2, 0, 0, 0)) (cod_112 rfl) rfl rfl rfl ?_
        obtain ⟨c12, H13⟩ := H11
        refine x_iald (cod_112 rfl) (sq_rw_439 (j := a1) c10.1 c10.2).s ((sq_rw_439 (j := a1) c10.1 c10.2).k c12.1 c12.2) ?_
        refine x_retI (t := .int) (cod_112 rfl) rfl rfl rfl ?_
        exact H13
      | 1, ho =>
        cases ho
        have H14 := H6.2.2.1 (by omega)
        refine x_s (q := (.aload_n 0, 0, 0, 0)) (cod_112 rfl) rfl rfl rfl ?_
        refine x_gc (kk := 10) (c := 411) (t := 1) (cod_112 rfl) sq_p_1 sq_l_1_10 rfl rfl ?_
        refine x_gc (kk := 8) (c := 450) (t := 1) (cod_112 rfl) sq_p_411 sq_l_411_8 rfl rfl ?_
        refine x_s (q := (.iload_n 1, 0, 0, 0)) (cod_112 rfl) rfl rfl rfl ?_
        obtain ⟨c15, H16⟩ := H14
        refine x_aaldc (c := (451 + a1)) (cod_112 rfl) (by rw [(sq_ro_450 (j := a1) c15.1 c15.2).2]; decide) (sq_ro_450 (j := a1) c15.1 c15.2).1 ?_
        refine x_s (q := (.iload_n 2, 0, 0, 0)) (cod_112 rfl) rfl rfl rfl ?_
        obtain ⟨c17, H18⟩ := H16
        refine x_iald (cod_112 rfl) (sq_rw_450 (j := a1) c15.1 c15.2).s ((sq_rw_450 (j := a1) c15.1 c15.2).k c17.1 c17.2) ?_
        refine x_retI (t := .int) (cod_112 rfl) rfl rfl rfl ?_
        exact H18
      | 2, ho =>
        cases ho
        have H19 := H6.2.2.2 (by omega)
        refine x_s (q := (.aload_n 0, 0, 0, 0)) (cod_112 rfl) rfl rfl rfl ?_
        refine x_s (q := (.iload_n 1, 0, 0, 0)) (cod_112 rfl) rfl rfl rfl ?_
        refine x_s (q := (.iload_n 2, 0, 0, 0)) (cod_112 rfl) rfl rfl rfl ?_
        refine x_call (as := [(1, 1), (0, a1), (0, a2)]) (rest := []) (cod_112 rfl) rfl rfl (by decide) (by decide) rfl rfl (Nat.le_of_ble_eq_true rfl) (rcv0 sq_l_1_0 sq_p_1 (by decide)) (Nat.le_of_ble_eq_true rfl) ?_
        refine X.imp H19 ?_
        rintro _ m20 ⟨v22, rfl, H21⟩
        show X 112 74 [(1, 1), (0, a1), (0, a2), (0, a3)] [(0, v22)] m20 _
        refine x_retI (t := .int) (cod_112 rfl) rfl rfl rfl ?_
        exact H21
      | k + 3, ho => exact absurd ho (by simp)
  · have H7 := H4.1 (Classical.not_not.mp h)
    refine x_s (q := (.bipush (-9), 0, 0, 0)) (cod_112 rfl) rfl rfl rfl ?_
    refine x_retI (t := .int) (cod_112 rfl) rfl rfl rfl ?_
    exact H7
theorem e112 {m : Mm} {K : Int → Mm → Prop} (a1 : Int) (a2 : Int) (a3 : Int) 
  (H : TrV 76 [(1, 1)] m fun m1 => TrI 113 [(1, 1), (0, a1), (0, a2)] m1 fun v5 m3 => (v5 = 0 → K (-9) m3) ∧ (¬ v5 = 0 → ((a3 < 0 ∨ 2 < a3) → K (-9) m3) ∧ (a3 = 0 → (0 ≤ a1 ∧ a1 < 10) ∧ (0 ≤ a2 ∧ a2 < 24) ∧ K (m3 (440 + a1) a2) m3) ∧ (a3 = 1 → (0 ≤ a1 ∧ a1 < 10) ∧ (0 ≤ a2 ∧ a2 < 24) ∧ K (m3 (451 + a1) a2) m3) ∧ (a3 = 2 → TrI 114 [(1, 1), (0, a1), (0, a2)] m3 fun v22 m20 => K v22 m20))) : TrI 112 [(1, 1), (0, a1), (0, a2), (0, a3)] m K := by
  exact w112_0 a1 a2 a3 H
set_option maxRecDepth 100000 in
theorem w113_0 {m : Mm} {K : Int → Mm → Prop} (a1 : Int) (a2 : Int) 
  (H : shp (m 1 5) = 24 ∧ ((0 ≤ a1 ∧ a1 < m (m 1 5) 4) → (a2 < 0 → K 0 m) ∧ (¬ a2 < 0 → (0 ≤ a1 ∧ a1 < 10) ∧ (a2 < (m 438 a1) → K 1 m) ∧ (¬ a2 < (m 438 a1) → K 0 m))) ∧ (¬ (0 ≤ a1 ∧ a1 < m (m 1 5) 4) → K 0 m)) : X 113 0 [(1, 1), (0, a1), (0, a2)] [] m (qI K) := by
  refine x_s (q := (.aload_n 0, 0, 0, 0)) (cod_113 rfl) rfl rfl rfl ?_
  refine x_s (q := (.iload_n 1, 0, 0, 0)) (cod_113 rfl) rfl rfl rfl ?_
  obtain ⟨c1, H2⟩ := H
  refine x_call (as := [(1, 1), (0, a1)]) (rest := []) (cod_113 rfl) rfl rfl (by decide) (by decide) rfl rfl (Nat.le_of_ble_eq_true rfl) (rcv0 sq_l_1_0 sq_p_1 (by decide)) (Nat.le_of_ble_eq_true rfl) ?_
  refine x_pure (p74 c1) ?_
  show X 113 5 [(1, 1), (0, a1), (0, a2)] [(0, bi (0 ≤ a1 ∧ a1 < m (m 1 5) 4))] m _
  refine x_if (p := ¬ (0 ≤ a1 ∧ a1 < m (m 1 5) 4)) (tgt := 29) (cod_113 rfl) (by decide) xb_eq (fun h => ?_) (fun h => ?_)
  · have H3 := H2.2 h
    refine x_s (q := (.iconst 0, 0, 0, 0)) (cod_113 rfl) rfl rfl rfl ?_
    refine x_retI (t := .boolean) (cod_113 rfl) rfl rfl rfl ?_
    exact H3
  · have H4 := H2.1 (Classical.not_not.mp h)
    refine x_s (q := (.iload_n 2, 0, 0, 0)) (cod_113 rfl) rfl rfl rfl ?_
    refine x_if (p := a2 < 0) (tgt := 29) (cod_113 rfl) (by decide) xj_lt (fun h => ?_) (fun h => ?_)
    · have H5 := H4.1 h
      refine x_s (q := (.iconst 0, 0, 0, 0)) (cod_113 rfl) rfl rfl rfl ?_
      refine x_retI (t := .boolean) (cod_113 rfl) rfl rfl rfl ?_
      exact H5
    · have H6 := H4.2 h
      refine x_s (q := (.iload_n 2, 0, 0, 0)) (cod_113 rfl) rfl rfl rfl ?_
      refine x_s (q := (.aload_n 0, 0, 0, 0)) (cod_113 rfl) rfl rfl rfl ?_
      refine x_gc (kk := 10) (c := 411) (t := 1) (cod_113 rfl) sq_p_1 sq_l_1_10 rfl rfl ?_
      refine x_gc (kk := 6) (c := 438) (t := 1) (cod_113 rfl) sq_p_411 sq_l_411_6 rfl rfl ?_
      refine x_s (q := (.iload_n 1, 0, 0, 0)) (cod_113 rfl) rfl rfl rfl ?_
      obtain ⟨c7, H8⟩ := H6
      refine x_iald (cod_113 rfl) sq_a_438.s (sq_a_438.k c7.1 c7.2) ?_
      refine x_ic (p := ¬ a2 < (m 438 a1)) (tgt := 29) (cod_113 rfl) (by decide) xn_ge (fun h => ?_) (fun h => ?_)
      · have H9 := H8.2 h
        refine x_s (q := (.iconst 0, 0, 0, 0)) (cod_113 rfl) rfl rfl rfl ?_
        refine x_retI (t := .boolean) (cod_113 rfl) rfl rfl rfl ?_
        exact H9
      · have H10 := H8.1 (Classical.not_not.mp h)
        refine x_s (q := (.iconst 1, 0, 0, 0)) (cod_113 rfl) rfl rfl rfl ?_
        refine x_go (tgt := 30) (cod_113 rfl) (by decide) ?_
        refine x_retI (t := .boolean) (cod_113 rfl) rfl rfl rfl ?_
        exact H10
theorem e113 {m : Mm} {K : Int → Mm → Prop} (a1 : Int) (a2 : Int) 
  (H : shp (m 1 5) = 24 ∧ ((0 ≤ a1 ∧ a1 < m (m 1 5) 4) → (a2 < 0 → K 0 m) ∧ (¬ a2 < 0 → (0 ≤ a1 ∧ a1 < 10) ∧ (a2 < (m 438 a1) → K 1 m) ∧ (¬ a2 < (m 438 a1) → K 0 m))) ∧ (¬ (0 ≤ a1 ∧ a1 < m (m 1 5) 4) → K 0 m)) : TrI 113 [(1, 1), (0, a1), (0, a2)] m K := by
  exact w113_0 a1 a2 H
set_option maxRecDepth 100000 in
theorem w114_0 {m : Mm} {K : Int → Mm → Prop} (a1 : Int) (a2 : Int) 
  (H : (0 ≤ a1 ∧ a1 < 10) ∧ (0 ≤ a2 ∧ a2 < 24) ∧ shp (m 1 3) = 30 ∧ ((0 ≤ (m (440 + a1) a2) ∧ (m (440 + a1) a2) < m (m 1 3) 6) → shp (m 1 3) = 30 ∧ (0 ≤ (m (440 + a1) a2) ∧ (m (440 + a1) a2) < 24) ∧ K (m ((m 1 3) + 54 + 2 * (m (440 + a1) a2)) 1) m) ∧ (¬ (0 ≤ (m (440 + a1) a2) ∧ (m (440 + a1) a2) < m (m 1 3) 6) → ((m (440 + a1) a2) = (-2) → K (m 414 a1) m) ∧ (¬ (m (440 + a1) a2) = (-2) → K 0 m))) : X 114 0 [(1, 1), (0, a1), (0, a2), (9, 0)] [] m (qI K) := by
  refine x_s (q := (.aload_n 0, 0, 0, 0)) (cod_114 rfl) rfl rfl rfl ?_
  refine x_gc (kk := 10) (c := 411) (t := 1) (cod_114 rfl) sq_p_1 sq_l_1_10 rfl rfl ?_
  refine x_gc (kk := 7) (c := 439) (t := 1) (cod_114 rfl) sq_p_411 sq_l_411_7 rfl rfl ?_
  refine x_s (q := (.iload_n 1, 0, 0, 0)) (cod_114 rfl) rfl rfl rfl ?_
  obtain ⟨c1, H2⟩ := H
  refine x_aaldc (c := (440 + a1)) (cod_114 rfl) (by rw [(sq_ro_439 (j := a1) c1.1 c1.2).2]; decide) (sq_ro_439 (j := a1) c1.1 c1.2).1 ?_
  refine x_s (q := (.iload_n 2, 0, 0, 0)) (cod_114 rfl) rfl rfl rfl ?_
  obtain ⟨c3, H4⟩ := H2
  refine x_iald (cod_114 rfl) (sq_rw_439 (j := a1) c1.1 c1.2).s ((sq_rw_439 (j := a1) c1.1 c1.2).k c3.1 c3.2) ?_
  refine x_s (q := (.istore_n 3, 0, 0, 0)) (cod_114 rfl) rfl rfl rfl ?_
  refine x_s (q := (.aload_n 0, 0, 0, 0)) (cod_114 rfl) rfl rfl rfl ?_
  refine x_s (q := (.iload_n 3, 0, 0, 0)) (cod_114 rfl) rfl rfl rfl ?_
  obtain ⟨c5, H6⟩ := H4
  refine x_call (as := [(1, 1), (0, m (440 + a1) a2)]) (rest := []) (cod_114 rfl) rfl rfl (by decide) (by decide) rfl rfl (Nat.le_of_ble_eq_true rfl) (rcv0 sq_l_1_0 sq_p_1 (by decide)) (Nat.le_of_ble_eq_true rfl) ?_
  refine x_pure (p68 c5) ?_
  show X 114 17 [(1, 1), (0, a1), (0, a2), (0, m (440 + a1) a2)] [(0, bi (0 ≤ (m (440 + a1) a2) ∧ (m (440 + a1) a2) < m (m 1 3) 6))] m _
  refine x_if (p := ¬ (0 ≤ (m (440 + a1) a2) ∧ (m (440 + a1) a2) < m (m 1 3) 6)) (tgt := 33) (cod_114 rfl) (by decide) xb_eq (fun h => ?_) (fun h => ?_)
  · have H7 := H6.2 h
    refine x_s (q := (.iload_n 3, 0, 0, 0)) (cod_114 rfl) rfl rfl rfl ?_
    refine x_s (q := (.bipush (-2), 0, 0, 0)) (cod_114 rfl) rfl rfl rfl ?_
    refine x_ic (p := ¬ (m (440 + a1) a2) = (-2)) (tgt := 51) (cod_114 rfl) (by decide) xj_ne (fun h => ?_) (fun h => ?_)
    · have H9 := H7.2 h
      refine x_s (q := (.iconst 0, 0, 0, 0)) (cod_114 rfl) rfl rfl rfl ?_
      refine x_retI (t := .int) (cod_114 rfl) rfl rfl rfl ?_
      exact H9
    · have H10 := H7.1 (Classical.not_not.mp h)
      refine x_s (q := (.aload_n 0, 0, 0, 0)) (cod_114 rfl) rfl rfl rfl ?_
      refine x_gc (kk := 10) (c := 411) (t := 1) (cod_114 rfl) sq_p_1 sq_l_1_10 rfl rfl ?_
      refine x_gc (kk := 2) (c := 414) (t := 1) (cod_114 rfl) sq_p_411 sq_l_411_2 rfl rfl ?_
      refine x_s (q := (.iload_n 1, 0, 0, 0)) (cod_114 rfl) rfl rfl rfl ?_
      refine x_iald (cod_114 rfl) sq_a_414.s (sq_a_414.k c1.1 c1.2) ?_
      refine x_go (tgt := 52) (cod_114 rfl) (by decide) ?_
      refine x_retI (t := .int) (cod_114 rfl) rfl rfl rfl ?_
      exact H10
  · have H8 := H6.1 (Classical.not_not.mp h)
    refine x_s (q := (.aload_n 0, 0, 0, 0)) (cod_114 rfl) rfl rfl rfl ?_
    refine x_gf (kk := 3) (t := 1) (cod_114 rfl) sq_p_1 sq_l_1_3 rfl rfl ?_
    obtain ⟨c11, H12⟩ := H8
    refine x_gc (kk := 1) (c := ((m 1 3) + 2)) (t := 1) (cod_114 rfl) c11 (sq_c_10_1 c11) rfl rfl ?_
    refine x_s (q := (.iload_n 3, 0, 0, 0)) (cod_114 rfl) rfl rfl rfl ?_
    obtain ⟨c13, H14⟩ := H12
    refine x_aaldc (c := ((m 1 3) + 54 + 2 * (m (440 + a1) a2))) (cod_114 rfl) (by rw [(sq_oa_10_1 (j := m (440 + a1) a2) c11 c13.1 c13.2).2.1]; decide) (sq_oa_10_1 (j := m (440 + a1) a2) c11 c13.1 c13.2).1 ?_
    refine x_gf (kk := 1) (t := 0) (cod_114 rfl) (sq_oa_10_1 (j := m (440 + a1) a2) c11 c13.1 c13.2).2.2 (sq_c_1_1 (sq_oa_10_1 (j := m (440 + a1) a2) c11 c13.1 c13.2).2.2) rfl rfl ?_
    refine x_retI (t := .int) (cod_114 rfl) rfl rfl rfl ?_
    exact H14
theorem e114 {m : Mm} {K : Int → Mm → Prop} (a1 : Int) (a2 : Int) 
  (H : (0 ≤ a1 ∧ a1 < 10) ∧ (0 ≤ a2 ∧ a2 < 24) ∧ shp (m 1 3) = 30 ∧ ((0 ≤ (m (440 + a1) a2) ∧ (m (440 + a1) a2) < m (m 1 3) 6) → shp (m 1 3) = 30 ∧ (0 ≤ (m (440 + a1) a2) ∧ (m (440 + a1) a2) < 24) ∧ K (m ((m 1 3) + 54 + 2 * (m (440 + a1) a2)) 1) m) ∧ (¬ (0 ≤ (m (440 + a1) a2) ∧ (m (440 + a1) a2) < m (m 1 3) 6) → ((m (440 + a1) a2) = (-2) → K (m 414 a1) m) ∧ (¬ (m (440 + a1) a2) = (-2) → K 0 m))) : TrI 114 [(1, 1), (0, a1), (0, a2)] m K := by
  exact w114_0 a1 a2 H
set_option maxRecDepth 100000 in
theorem w115_0 {m : Mm} {K : Int → Mm → Prop}  
  (H : TrV 76 [(1, 1)] m fun m1 => K (if (m1 511 1) < 1000000 then (m1 511 1) else -2) m1) : X 115 0 [(1, 1)] [] m (qI K) := by
  refine x_s (q := (.aload_n 0, 0, 0, 0)) (cod_115 rfl) rfl rfl rfl ?_
  refine x_call (as := [(1, 1)]) (rest := []) (cod_115 rfl) rfl rfl (by decide) (by decide) rfl rfl (Nat.le_of_ble_eq_true rfl) (rcv0 sq_l_1_0 sq_p_1 (by decide)) (Nat.le_of_ble_eq_true rfl) ?_
  refine X.imp H ?_
  rintro _ m1 ⟨rfl, H2⟩
  show X 115 4 [(1, 1)] [] m1 _
  refine x_s (q := (.aload_n 0, 0, 0, 0)) (cod_115 rfl) rfl rfl rfl ?_
  refine x_gc (kk := 12) (c := 511) (t := 1) (cod_115 rfl) sq_p_1 sq_l_1_12 rfl rfl ?_
  refine x_gf (kk := 1) (t := 0) (cod_115 rfl) sq_p_511 sq_l_511_1 rfl rfl ?_
  refine x_call (as := [(0, m1 511 1)]) (rest := []) (cod_115 rfl) rfl rfl (by decide) (by decide) rfl rfl (Nat.le_of_ble_eq_true rfl) rfl (Nat.le_of_ble_eq_true rfl) ?_
  refine x_pure (p105) ?_
  show X 115 14 [(1, 1)] [(0, if (m1 511 1) < 1000000 then (m1 511 1) else -2)] m1 _
  refine x_retI (t := .int) (cod_115 rfl) rfl rfl rfl ?_
  exact H2
theorem e115 {m : Mm} {K : Int → Mm → Prop}  
  (H : TrV 76 [(1, 1)] m fun m1 => K (if (m1 511 1) < 1000000 then (m1 511 1) else -2) m1) : TrI 115 [(1, 1)] m K := by
  exact w115_0  H
set_option maxRecDepth 100000 in
theorem w116_0 {m : Mm} {K : Int → Mm → Prop} (a1 : Int) 
  (H : shp (m 1 5) = 24 ∧ ((0 ≤ a1 ∧ a1 < m (m 1 5) 4) → TrV 76 [(1, 1)] m fun m5 => ((m5 511 1) < 1000000 → (0 ≤ a1 ∧ a1 < 10) ∧ K (m5 512 a1) m5) ∧ (¬ (m5 511 1) < 1000000 → K (-2) m5)) ∧ (¬ (0 ≤ a1 ∧ a1 < m (m 1 5) 4) → K (-1) m)) : X 116 0 [(1, 1), (0, a1)] [] m (qI K) := by
  refine x_s (q := (.aload_n 0, 0, 0, 0)) (cod_116 rfl) rfl rfl rfl ?_
  refine x_s (q := (.iload_n 1, 0, 0, 0)) (cod_116 rfl) rfl rfl rfl ?_
  obtain ⟨c1, H2⟩ := H
  refine x_call (as := [(1, 1), (0, a1)]) (rest := []) (cod_116 rfl) rfl rfl (by decide) (by decide) rfl rfl (Nat.le_of_ble_eq_true rfl) (rcv0 sq_l_1_0 sq_p_1 (by decide)) (Nat.le_of_ble_eq_true rfl) ?_
  refine x_pure (p74 c1) ?_
  show X 116 5 [(1, 1), (0, a1)] [(0, bi (0 ≤ a1 ∧ a1 < m (m 1 5) 4))] m _
  refine x_if (p := 0 ≤ a1 ∧ a1 < m (m 1 5) 4) (tgt := 10) (cod_116 rfl) (by decide) xb_ne (fun h => ?_) (fun h => ?_)
  · have H3 := H2.1 h
    refine x_s (q := (.aload_n 0, 0, 0, 0)) (cod_116 rfl) rfl rfl rfl ?_
    refine x_call (as := [(1, 1)]) (rest := []) (cod_116 rfl) rfl rfl (by decide) (by decide) rfl rfl (Nat.le_of_ble_eq_true rfl) (rcv0 sq_l_1_0 sq_p_1 (by decide)) (Nat.le_of_ble_eq_true rfl) ?_
    refine X.imp H3 ?_
    rintro _ m5 ⟨rfl, H6⟩
    show X 116 14 [(1, 1), (0, a1)] [] m5 _
    refine x_s (q := (.aload_n 0, 0, 0, 0)) (cod_116 rfl) rfl rfl rfl ?_
    refine x_gc (kk := 12) (c := 511) (t := 1) (cod_116 rfl) sq_p_1 sq_l_1_12 rfl rfl ?_
    refine x_gf (kk := 1) (t := 0) (cod_116 rfl) sq_p_511 sq_l_511_1 rfl rfl ?_
    refine x_s (q := (.ldc_w 279, 1000000, 0, 0)) (cod_116 rfl) rfl rfl rfl ?_
    refine x_ic (p := ¬ (m5 511 1) < 1000000) (tgt := 39) (cod_116 rfl) (by decide) xn_ge (fun h => ?_) (fun h => ?_)
    · have H7 := H6.2 h
      refine x_s (q := (.bipush (-2), 0, 0, 0)) (cod_116 rfl) rfl rfl rfl ?_
      refine x_retI (t := .int) (cod_116 rfl) rfl rfl rfl ?_
      exact H7
    · have H8 := H6.1 (Classical.not_not.mp h)
      refine x_s (q := (.aload_n 0, 0, 0, 0)) (cod_116 rfl) rfl rfl rfl ?_
      refine x_gc (kk := 12) (c := 511) (t := 1) (cod_116 rfl) sq_p_1 sq_l_1_12 rfl rfl ?_
      refine x_gc (kk := 0) (c := 512) (t := 1) (cod_116 rfl) sq_p_511 sq_l_511_0 rfl rfl ?_
      refine x_s (q := (.iload_n 1, 0, 0, 0)) (cod_116 rfl) rfl rfl rfl ?_
      obtain ⟨c9, H10⟩ := H8
      refine x_iald (cod_116 rfl) sq_a_512.s (sq_a_512.k c9.1 c9.2) ?_
      refine x_go (tgt := 41) (cod_116 rfl) (by decide) ?_
      refine x_retI (t := .int) (cod_116 rfl) rfl rfl rfl ?_
      exact H10
  · have H4 := H2.2 h
    refine x_s (q := (.iconst (-1), 0, 0, 0)) (cod_116 rfl) rfl rfl rfl ?_
    refine x_retI (t := .int) (cod_116 rfl) rfl rfl rfl ?_
    exact H4
theorem e116 {m : Mm} {K : Int → Mm → Prop} (a1 : Int) 
  (H : shp (m 1 5) = 24 ∧ ((0 ≤ a1 ∧ a1 < m (m 1 5) 4) → TrV 76 [(1, 1)] m fun m5 => ((m5 511 1) < 1000000 → (0 ≤ a1 ∧ a1 < 10) ∧ K (m5 512 a1) m5) ∧ (¬ (m5 511 1) < 1000000 → K (-2) m5)) ∧ (¬ (0 ≤ a1 ∧ a1 < m (m 1 5) 4) → K (-1) m)) : TrI 116 [(1, 1), (0, a1)] m K := by
  exact w116_0 a1 H
set_option maxRecDepth 100000 in
theorem w117_0 {m : Mm} {K : Int → Mm → Prop} (a1 : Int) 
  (H : (a1 < 0 → K (-1) m) ∧ (¬ a1 < 0 → TrV 76 [(1, 1)] m fun m3 => ((m3 511 1) < 1000000 → X 117 30 [(1, 1), (0, a1), (0, a1), (0, 0), (9, 0)] [] m3 (qI K)) ∧ (¬ (m3 511 1) < 1000000 → K (-2) m3))) : X 117 0 [(1, 1), (0, a1), (9, 0), (9, 0), (9, 0)] [] m (qI K) := by
  refine x_s (q := (.iload_n 1, 0, 0, 0)) (cod_117 rfl) rfl rfl rfl ?_
  refine x_if (p := ¬ a1 < 0) (tgt := 6) (cod_117 rfl) (by decide) xn_ge (fun h => ?_) (fun h => ?_)
  · have H1 := H.2 h
    refine x_s (q := (.aload_n 0, 0, 0, 0)) (cod_117 rfl) rfl rfl rfl ?_
    refine x_call (as := [(1, 1)]) (rest := []) (cod_117 rfl) rfl rfl (by decide) (by decide) rfl rfl (Nat.le_of_ble_eq_true rfl) (rcv0 sq_l_1_0 sq_p_1 (by decide)) (Nat.le_of_ble_eq_true rfl) ?_
    refine X.imp H1 ?_
    rintro _ m3 ⟨rfl, H4⟩
    show X 117 10 [(1, 1), (0, a1), (9, 0), (9, 0), (9, 0)] [] m3 _
    refine x_s (q := (.aload_n 0, 0, 0, 0)) (cod_117 rfl) rfl rfl rfl ?_
    refine x_gc (kk := 12) (c := 511) (t := 1) (cod_117 rfl) sq_p_1 sq_l_1_12 rfl rfl ?_
    refine x_gf (kk := 1) (t := 0) (cod_117 rfl) sq_p_511 sq_l_511_1 rfl rfl ?_
    refine x_s (q := (.ldc_w 279, 1000000, 0, 0)) (cod_117 rfl) rfl rfl rfl ?_
    refine x_ic (p := (m3 511 1) < 1000000) (tgt := 26) (cod_117 rfl) (by decide) xj_lt (fun h => ?_) (fun h => ?_)
    · have H5 := H4.1 h
      refine x_s (q := (.iload_n 1, 0, 0, 0)) (cod_117 rfl) rfl rfl rfl ?_
      refine x_s (q := (.istore_n 2, 0, 0, 0)) (cod_117 rfl) rfl rfl rfl ?_
      refine x_s (q := (.iconst 0, 0, 0, 0)) (cod_117 rfl) rfl rfl rfl ?_
      refine x_s (q := (.istore_n 3, 0, 0, 0)) (cod_117 rfl) rfl rfl rfl ?_
      exact H5
    · have H6 := H4.2 h
      refine x_s (q := (.bipush (-2), 0, 0, 0)) (cod_117 rfl) rfl rfl rfl ?_
      refine x_retI (t := .int) (cod_117 rfl) rfl rfl rfl ?_
      exact H6
  · have H2 := H.1 (Classical.not_not.mp h)
    refine x_s (q := (.iconst (-1), 0, 0, 0)) (cod_117 rfl) rfl rfl rfl ?_
    refine x_retI (t := .int) (cod_117 rfl) rfl rfl rfl ?_
    exact H2
theorem e117 {m : Mm} {K : Int → Mm → Prop} (a1 : Int) 
  (H : (a1 < 0 → K (-1) m) ∧ (¬ a1 < 0 → TrV 76 [(1, 1)] m fun m3 => ((m3 511 1) < 1000000 → X 117 30 [(1, 1), (0, a1), (0, a1), (0, 0), (9, 0)] [] m3 (qI K)) ∧ (¬ (m3 511 1) < 1000000 → K (-2) m3))) : TrI 117 [(1, 1), (0, a1)] m K := by
  exact w117_0 a1 H
set_option maxRecDepth 100000 in
theorem w117_30 {m : Mm} {K : Int → Mm → Prop} (ua1 : aV) (a2 : Int) (a3 : Int) (ua4 : aV) (hua1 : ua1.1 ≠ 2)
  (H : shp (m 1 5) = 24 ∧ (a3 < (m (m 1 5) 4) → (a3 > 0 → (a2 = 0 → K 32 m) ∧ (¬ a2 = 0 → X 117 55 [(1, 1), ua1, (0, wr (a2 + (-1))), (0, a3), ua4] [] m (qI K))) ∧ (¬ a3 > 0 → X 117 55 [(1, 1), ua1, (0, a2), (0, a3), ua4] [] m (qI K))) ∧ (¬ a3 < (m (m 1 5) 4) → K (-2) m)) : X 117 30 [(1, 1), ua1, (0, a2), (0, a3), ua4] [] m (qI K) := by
  refine x_s (q := (.iload_n 3, 0, 0, 0)) (cod_117 rfl) rfl rfl rfl ?_
  refine x_s (q := (.aload_n 0, 0, 0, 0)) (cod_117 rfl) rfl rfl rfl ?_
  refine x_gf (kk := 5) (t := 1) (cod_117 rfl) sq_p_1 sq_l_1_5 rfl rfl ?_
  obtain ⟨c1, H2⟩ := H
  refine x_gf (kk := 4) (t := 0) (cod_117 rfl) c1 (sq_c_4_4 c1) rfl rfl ?_
  refine x_ic (p := ¬ a3 < (m (m 1 5) 4)) (tgt := 104) (cod_117 rfl) (by decide) xn_ge (fun h => ?_) (fun h => ?_)
  · have H3 := H2.2 h
    refine x_s (q := (.bipush (-2), 0, 0, 0)) (cod_117 rfl) rfl rfl rfl ?_
    refine x_retI (t := .int) (cod_117 rfl) rfl rfl rfl ?_
    exact H3
  · have H4 := H2.1 (Classical.not_not.mp h)
    refine x_s (q := (.iload_n 3, 0, 0, 0)) (cod_117 rfl) rfl rfl rfl ?_
    refine x_if (p := ¬ a3 > 0) (tgt := 55) (cod_117 rfl) (by decide) xn_le (fun h => ?_) (fun h => ?_)
    · have H5 := H4.2 h
      exact H5
    · have H6 := H4.1 (Classical.not_not.mp h)
      refine x_s (q := (.iload_n 2, 0, 0, 0)) (cod_117 rfl) rfl rfl rfl ?_
      refine x_if (p := ¬ a2 = 0) (tgt := 52) (cod_117 rfl) (by decide) xj_ne (fun h => ?_) (fun h => ?_)
      · have H7 := H6.2 h
        show X 117 52 [(1, 1), ua1, (0, a2), (0, a3), ua4] [] m _
        refine x_s (q := (.iinc 2 (-1), 0, 0, 0)) (np := 55) (ls' := [(1, 1), ua1, (0, wr (a2 + (-1))), (0, a3), ua4]) (st' := []) (cod_117 rfl) rfl rfl (by simp [stp1, stS, tok, lsok, oif, hua1]) ?_
        exact H7
      · have H8 := H6.1 (Classical.not_not.mp h)
        refine x_s (q := (.bipush 32, 0, 0, 0)) (cod_117 rfl) rfl rfl rfl ?_
        refine x_retI (t := .int) (cod_117 rfl) rfl rfl rfl ?_
        exact H8
set_option maxRecDepth 100000 in
theorem w117_55 {m : Mm} {K : Int → Mm → Prop} (ua1 : aV) (a2 : Int) (a3 : Int) (ua4 : aV) (hua1 : ua1.1 ≠ 2)
  (H : (0 ≤ a3 ∧ a3 < 10) ∧ TrI 114 [(1, 1), (0, a3), (0, m 512 a3)] m fun v5 m3 => (a2 < v5 → TrI 118 [(1, 1), (0, a3), (0, m3 512 a3), (0, a2)] m3 fun v10 m8 => K v10 m8) ∧ (¬ a2 < v5 → X 117 30 [(1, 1), ua1, (0, wr (a2 - v5)), (0, wr (a3 + 1)), (0, v5)] [] m3 (qI K))) : X 117 55 [(1, 1), ua1, (0, a2), (0, a3), ua4] [] m (qI K) := by
  refine x_s (q := (.aload_n 0, 0, 0, 0)) (cod_117 rfl) rfl rfl rfl ?_
  refine x_s (q := (.iload_n 3, 0, 0, 0)) (cod_117 rfl) rfl rfl rfl ?_
  refine x_s (q := (.aload_n 0, 0, 0, 0)) (cod_117 rfl) rfl rfl rfl ?_
  refine x_gc (kk := 12) (c := 511) (t := 1) (cod_117 rfl) sq_p_1 sq_l_1_12 rfl rfl ?_
  refine x_gc (kk := 0) (c := 512) (t := 1) (cod_117 rfl) sq_p_511 sq_l_511_0 rfl rfl ?_
  refine x_s (q := (.iload_n 3, 0, 0, 0)) (cod_117 rfl) rfl rfl rfl ?_
  obtain ⟨c1, H2⟩ := H
  refine x_iald (cod_117 rfl) sq_a_512.s (sq_a_512.k c1.1 c1.2) ?_
  refine x_call (as := [(1, 1), (0, a3), (0, m 512 a3)]) (rest := []) (cod_117 rfl) rfl rfl (by decide) (by decide) rfl rfl (Nat.le_of_ble_eq_true rfl) (rcv0 sq_l_1_0 sq_p_1 (by decide)) (Nat.le_of_ble_eq_true rfl) ?_
  refine X.imp H2 ?_
  rintro _ m3 ⟨v5, rfl, H4⟩
  show X 117 69 [(1, 1), ua1, (0, a2), (0, a3), ua4] [(0, v5)] m3 _
  refine x_s (q := (.istore 4, 0, 0, 0)) (cod_117 rfl) rfl rfl rfl ?_
  refine x_s (q := (.iload_n 2, 0, 0, 0)) (cod_117 rfl) rfl rfl rfl ?_
  refine x_s (q := (.iload 4, 0, 0, 0)) (cod_117 rfl) rfl rfl rfl ?_
  refine x_ic (p := ¬ a2 < v5) (tgt := 93) (cod_117 rfl) (by decide) xn_ge (fun h => ?_) (fun h => ?_)
  · have H6 := H4.2 h
    refine x_s (q := (.iload_n 2, 0, 0, 0)) (cod_117 rfl) rfl rfl rfl ?_
    refine x_s (q := (.iload 4, 0, 0, 0)) (cod_117 rfl) rfl rfl rfl ?_
    refine x_s (q := (.isub, 0, 0, 0)) (cod_117 rfl) rfl rfl rfl ?_
    show X 117 97 [(1, 1), ua1, (0, a2), (0, a3), (0, v5)] [(0, wr (a2 - v5))] m3 _
    refine x_s (q := (.istore_n 2, 0, 0, 0)) (np := 98) (ls' := [(1, 1), ua1, (0, wr (a2 - v5)), (0, a3), (0, v5)]) (st' := []) (cod_117 rfl) rfl rfl (by simp [stp1, stS, tok, lsok, oif, hua1]) ?_
    refine x_s (q := (.iinc 3 1, 0, 0, 0)) (cod_117 rfl) rfl rfl rfl ?_
    refine x_go (tgt := 30) (cod_117 rfl) (by decide) ?_
    exact H6
  · have H7 := H4.1 (Classical.not_not.mp h)
    refine x_s (q := (.aload_n 0, 0, 0, 0)) (cod_117 rfl) rfl rfl rfl ?_
    refine x_s (q := (.iload_n 3, 0, 0, 0)) (cod_117 rfl) rfl rfl rfl ?_
    refine x_s (q := (.aload_n 0, 0, 0, 0)) (cod_117 rfl) rfl rfl rfl ?_
    refine x_gc (kk := 12) (c := 511) (t := 1) (cod_117 rfl) sq_p_1 sq_l_1_12 rfl rfl ?_
    refine x_gc (kk := 0) (c := 512) (t := 1) (cod_117 rfl) sq_p_511 sq_l_511_0 rfl rfl ?_
    refine x_s (q := (.iload_n 3, 0, 0, 0)) (cod_117 rfl) rfl rfl rfl ?_
    refine x_iald (cod_117 rfl) sq_a_512.s (sq_a_512.k c1.1 c1.2) ?_
    refine x_s (q := (.iload_n 2, 0, 0, 0)) (cod_117 rfl) rfl rfl rfl ?_
    refine x_call (as := [(1, 1), (0, a3), (0, m3 512 a3), (0, a2)]) (rest := []) (cod_117 rfl) rfl rfl (by decide) (by decide) rfl rfl (Nat.le_of_ble_eq_true rfl) (rcv0 sq_l_1_0 sq_p_1 (by decide)) (Nat.le_of_ble_eq_true rfl) ?_
    refine X.imp H7 ?_
    rintro _ m8 ⟨v10, rfl, H9⟩
    show X 117 92 [(1, 1), ua1, (0, a2), (0, a3), (0, v5)] [(0, v10)] m8 _
    refine x_retI (t := .int) (cod_117 rfl) rfl rfl rfl ?_
    exact H9
set_option maxRecDepth 100000 in
theorem w118_0 {m : Mm} {K : Int → Mm → Prop} (a1 : Int) (a2 : Int) (a3 : Int) 
  (H : (0 ≤ a1 ∧ a1 < 10) ∧ (0 ≤ a2 ∧ a2 < 24) ∧ shp (m 1 3) = 30 ∧ ((0 ≤ (m (440 + a1) a2) ∧ (m (440 + a1) a2) < m (m 1 3) 6) → shp (m 1 3) = 30 ∧ (0 ≤ (m (440 + a1) a2) ∧ (m (440 + a1) a2) < 24) ∧ v_E m ((m 1 3) + 54 + 2 * (m (440 + a1) a2)) ∧ K (lAt m ((m 1 3) + 54 + 2 * (m (440 + a1) a2)) 1 a3) m) ∧ (¬ (0 ≤ (m (440 + a1) a2) ∧ (m (440 + a1) a2) < m (m 1 3) 6) → (a3 < 60 → (0 ≤ a3 ∧ a3 < 60) ∧ K (m (416 + a1) a3) m) ∧ (¬ a3 < 60 → K (-2) m))) : X 118 0 [(1, 1), (0, a1), (0, a2), (0, a3), (9, 0)] [] m (qI K) := by
  refine x_s (q := (.aload_n 0, 0, 0, 0)) (cod_118 rfl) rfl rfl rfl ?_
  refine x_gc (kk := 10) (c := 411) (t := 1) (cod_118 rfl) sq_p_1 sq_l_1_10 rfl rfl ?_
  refine x_gc (kk := 7) (c := 439) (t := 1) (cod_118 rfl) sq_p_411 sq_l_411_7 rfl rfl ?_
  refine x_s (q := (.iload_n 1, 0, 0, 0)) (cod_118 rfl) rfl rfl rfl ?_
  obtain ⟨c1, H2⟩ := H
  refine x_aaldc (c := (440 + a1)) (cod_118 rfl) (by rw [(sq_ro_439 (j := a1) c1.1 c1.2).2]; decide) (sq_ro_439 (j := a1) c1.1 c1.2).1 ?_
  refine x_s (q := (.iload_n 2, 0, 0, 0)) (cod_118 rfl) rfl rfl rfl ?_
  obtain ⟨c3, H4⟩ := H2
  refine x_iald (cod_118 rfl) (sq_rw_439 (j := a1) c1.1 c1.2).s ((sq_rw_439 (j := a1) c1.1 c1.2).k c3.1 c3.2) ?_
  refine x_s (q := (.istore 4, 0, 0, 0)) (cod_118 rfl) rfl rfl rfl ?_
  refine x_s (q := (.aload_n 0, 0, 0, 0)) (cod_118 rfl) rfl rfl rfl ?_
  refine x_s (q := (.iload 4, 0, 0, 0)) (cod_118 rfl) rfl rfl rfl ?_
  obtain ⟨c5, H6⟩ := H4
  refine x_call (as := [(1, 1), (0, m (440 + a1) a2)]) (rest := []) (cod_118 rfl) rfl rfl (by decide) (by decide) rfl rfl (Nat.le_of_ble_eq_true rfl) (rcv0 sq_l_1_0 sq_p_1 (by decide)) (Nat.le_of_ble_eq_true rfl) ?_
  refine x_pure (p68 c5) ?_
  show X 118 19 [(1, 1), (0, a1), (0, a2), (0, a3), (0, m (440 + a1) a2)] [(0, bi (0 ≤ (m (440 + a1) a2) ∧ (m (440 + a1) a2) < m (m 1 3) 6))] m _
  refine x_if (p := ¬ (0 ≤ (m (440 + a1) a2) ∧ (m (440 + a1) a2) < m (m 1 3) 6)) (tgt := 37) (cod_118 rfl) (by decide) xb_eq (fun h => ?_) (fun h => ?_)
  · have H7 := H6.2 h
    refine x_s (q := (.iload_n 3, 0, 0, 0)) (cod_118 rfl) rfl rfl rfl ?_
    refine x_s (q := (.bipush 60, 0, 0, 0)) (cod_118 rfl) rfl rfl rfl ?_
    refine x_ic (p := ¬ a3 < 60) (tgt := 57) (cod_118 rfl) (by decide) xn_ge (fun h => ?_) (fun h => ?_)
    · have H9 := H7.2 h
      refine x_s (q := (.bipush (-2), 0, 0, 0)) (cod_118 rfl) rfl rfl rfl ?_
      refine x_retI (t := .int) (cod_118 rfl) rfl rfl rfl ?_
      exact H9
    · have H10 := H7.1 (Classical.not_not.mp h)
      refine x_s (q := (.aload_n 0, 0, 0, 0)) (cod_118 rfl) rfl rfl rfl ?_
      refine x_gc (kk := 10) (c := 411) (t := 1) (cod_118 rfl) sq_p_1 sq_l_1_10 rfl rfl ?_
      refine x_gc (kk := 3) (c := 415) (t := 1) (cod_118 rfl) sq_p_411 sq_l_411_3 rfl rfl ?_
      refine x_s (q := (.iload_n 1, 0, 0, 0)) (cod_118 rfl) rfl rfl rfl ?_
      refine x_aaldc (c := (416 + a1)) (cod_118 rfl) (by rw [(sq_ro_415 (j := a1) c1.1 c1.2).2]; decide) (sq_ro_415 (j := a1) c1.1 c1.2).1 ?_
      refine x_s (q := (.iload_n 3, 0, 0, 0)) (cod_118 rfl) rfl rfl rfl ?_
      obtain ⟨c11, H12⟩ := H10
      refine x_iald (cod_118 rfl) (sq_rw_415 (j := a1) c1.1 c1.2).s ((sq_rw_415 (j := a1) c1.1 c1.2).k c11.1 c11.2) ?_
      refine x_go (tgt := 59) (cod_118 rfl) (by decide) ?_
      refine x_retI (t := .int) (cod_118 rfl) rfl rfl rfl ?_
      exact H12
  · have H8 := H6.1 (Classical.not_not.mp h)
    refine x_s (q := (.aload_n 0, 0, 0, 0)) (cod_118 rfl) rfl rfl rfl ?_
    refine x_gf (kk := 3) (t := 1) (cod_118 rfl) sq_p_1 sq_l_1_3 rfl rfl ?_
    obtain ⟨c13, H14⟩ := H8
    refine x_gc (kk := 1) (c := ((m 1 3) + 2)) (t := 1) (cod_118 rfl) c13 (sq_c_10_1 c13) rfl rfl ?_
    refine x_s (q := (.iload 4, 0, 0, 0)) (cod_118 rfl) rfl rfl rfl ?_
    obtain ⟨c15, H16⟩ := H14
    refine x_aaldc (c := ((m 1 3) + 54 + 2 * (m (440 + a1) a2))) (cod_118 rfl) (by rw [(sq_oa_10_1 (j := m (440 + a1) a2) c13 c15.1 c15.2).2.1]; decide) (sq_oa_10_1 (j := m (440 + a1) a2) c13 c15.1 c15.2).1 ?_
    refine x_s (q := (.iload_n 3, 0, 0, 0)) (cod_118 rfl) rfl rfl rfl ?_
    obtain ⟨c17, H18⟩ := H16
    refine x_call (as := [(1, ((m 1 3) + 54 + 2 * (m (440 + a1) a2))), (0, a3)]) (rest := []) (cod_118 rfl) rfl rfl (by decide) (by decide) rfl rfl (Nat.le_of_ble_eq_true rfl) (rcv0 (sq_c_1_0 (sq_oa_10_1 (j := m (440 + a1) a2) c13 c15.1 c15.2).2.2) (sq_oa_10_1 (j := m (440 + a1) a2) c13 c15.1 c15.2).2.2 (by decide)) (Nat.le_of_ble_eq_true rfl) ?_
    refine x_pure (p72 c17) ?_
    show X 118 36 [(1, 1), (0, a1), (0, a2), (0, a3), (0, m (440 + a1) a2)] [(0, lAt m ((m 1 3) + 54 + 2 * (m (440 + a1) a2)) 1 a3)] m _
    refine x_retI (t := .int) (cod_118 rfl) rfl rfl rfl ?_
    exact H18
theorem e118 {m : Mm} {K : Int → Mm → Prop} (a1 : Int) (a2 : Int) (a3 : Int) 
  (H : (0 ≤ a1 ∧ a1 < 10) ∧ (0 ≤ a2 ∧ a2 < 24) ∧ shp (m 1 3) = 30 ∧ ((0 ≤ (m (440 + a1) a2) ∧ (m (440 + a1) a2) < m (m 1 3) 6) → shp (m 1 3) = 30 ∧ (0 ≤ (m (440 + a1) a2) ∧ (m (440 + a1) a2) < 24) ∧ v_E m ((m 1 3) + 54 + 2 * (m (440 + a1) a2)) ∧ K (lAt m ((m 1 3) + 54 + 2 * (m (440 + a1) a2)) 1 a3) m) ∧ (¬ (0 ≤ (m (440 + a1) a2) ∧ (m (440 + a1) a2) < m (m 1 3) 6) → (a3 < 60 → (0 ≤ a3 ∧ a3 < 60) ∧ K (m (416 + a1) a3) m) ∧ (¬ a3 < 60 → K (-2) m))) : TrI 118 [(1, 1), (0, a1), (0, a2), (0, a3)] m K := by
  exact w118_0 a1 a2 a3 H
set_option maxRecDepth 100000 in
theorem w119_0 {m : Mm} {K : Int → Mm → Prop} (a1 : Int) 
  (H : shp (m 1 3) = 30 ∧ ((0 ≤ a1 ∧ a1 < m (m 1 3) 5) → TrV 76 [(1, 1)] m fun m5 => ((m5 511 1) < 1000000 → TrI 120 [(1, 1)] m5 fun v11 m9 => (0 ≤ a1 ∧ a1 < 24) ∧ K (m9 596 a1) m9) ∧ (¬ (m5 511 1) < 1000000 → K (-2) m5)) ∧ (¬ (0 ≤ a1 ∧ a1 < m (m 1 3) 5) → K (-1) m)) : X 119 0 [(1, 1), (0, a1)] [] m (qI K) := by
  refine x_s (q := (.aload_n 0, 0, 0, 0)) (cod_119 rfl) rfl rfl rfl ?_
  refine x_s (q := (.iload_n 1, 0, 0, 0)) (cod_119 rfl) rfl rfl rfl ?_
  obtain ⟨c1, H2⟩ := H
  refine x_call (as := [(1, 1), (0, a1)]) (rest := []) (cod_119 rfl) rfl rfl (by decide) (by decide) rfl rfl (Nat.le_of_ble_eq_true rfl) (rcv0 sq_l_1_0 sq_p_1 (by decide)) (Nat.le_of_ble_eq_true rfl) ?_
  refine x_pure (p70 c1) ?_
  show X 119 5 [(1, 1), (0, a1)] [(0, bi (0 ≤ a1 ∧ a1 < m (m 1 3) 5))] m _
  refine x_if (p := 0 ≤ a1 ∧ a1 < m (m 1 3) 5) (tgt := 10) (cod_119 rfl) (by decide) xb_ne (fun h => ?_) (fun h => ?_)
  · have H3 := H2.1 h
    refine x_s (q := (.aload_n 0, 0, 0, 0)) (cod_119 rfl) rfl rfl rfl ?_
    refine x_call (as := [(1, 1)]) (rest := []) (cod_119 rfl) rfl rfl (by decide) (by decide) rfl rfl (Nat.le_of_ble_eq_true rfl) (rcv0 sq_l_1_0 sq_p_1 (by decide)) (Nat.le_of_ble_eq_true rfl) ?_
    refine X.imp H3 ?_
    rintro _ m5 ⟨rfl, H6⟩
    show X 119 14 [(1, 1), (0, a1)] [] m5 _
    refine x_s (q := (.aload_n 0, 0, 0, 0)) (cod_119 rfl) rfl rfl rfl ?_
    refine x_gc (kk := 12) (c := 511) (t := 1) (cod_119 rfl) sq_p_1 sq_l_1_12 rfl rfl ?_
    refine x_gf (kk := 1) (t := 0) (cod_119 rfl) sq_p_511 sq_l_511_1 rfl rfl ?_
    refine x_s (q := (.ldc_w 279, 1000000, 0, 0)) (cod_119 rfl) rfl rfl rfl ?_
    refine x_ic (p := (m5 511 1) < 1000000) (tgt := 30) (cod_119 rfl) (by decide) xj_lt (fun h => ?_) (fun h => ?_)
    · have H7 := H6.1 h
      refine x_s (q := (.aload_n 0, 0, 0, 0)) (cod_119 rfl) rfl rfl rfl ?_
      refine x_call (as := [(1, 1)]) (rest := []) (cod_119 rfl) rfl rfl (by decide) (by decide) rfl rfl (Nat.le_of_ble_eq_true rfl) (rcv0 sq_l_1_0 sq_p_1 (by decide)) (Nat.le_of_ble_eq_true rfl) ?_
      refine X.imp H7 ?_
      rintro _ m9 ⟨v11, rfl, H10⟩
      show X 119 34 [(1, 1), (0, a1)] [(0, v11)] m9 _
      refine x_s (q := (.pop, 0, 0, 0)) (cod_119 rfl) rfl rfl rfl ?_
      refine x_s (q := (.aload_n 0, 0, 0, 0)) (cod_119 rfl) rfl rfl rfl ?_
      refine x_gc (kk := 16) (c := 596) (t := 1) (cod_119 rfl) sq_p_1 sq_l_1_16 rfl rfl ?_
      refine x_s (q := (.iload_n 1, 0, 0, 0)) (cod_119 rfl) rfl rfl rfl ?_
      obtain ⟨c12, H13⟩ := H10
      refine x_iald (cod_119 rfl) sq_a_596.s (sq_a_596.k c12.1 c12.2) ?_
      refine x_retI (t := .int) (cod_119 rfl) rfl rfl rfl ?_
      exact H13
    · have H8 := H6.2 h
      refine x_s (q := (.bipush (-2), 0, 0, 0)) (cod_119 rfl) rfl rfl rfl ?_
      refine x_retI (t := .int) (cod_119 rfl) rfl rfl rfl ?_
      exact H8
  · have H4 := H2.2 h
    refine x_s (q := (.iconst (-1), 0, 0, 0)) (cod_119 rfl) rfl rfl rfl ?_
    refine x_retI (t := .int) (cod_119 rfl) rfl rfl rfl ?_
    exact H4
theorem e119 {m : Mm} {K : Int → Mm → Prop} (a1 : Int) 
  (H : shp (m 1 3) = 30 ∧ ((0 ≤ a1 ∧ a1 < m (m 1 3) 5) → TrV 76 [(1, 1)] m fun m5 => ((m5 511 1) < 1000000 → TrI 120 [(1, 1)] m5 fun v11 m9 => (0 ≤ a1 ∧ a1 < 24) ∧ K (m9 596 a1) m9) ∧ (¬ (m5 511 1) < 1000000 → K (-2) m5)) ∧ (¬ (0 ≤ a1 ∧ a1 < m (m 1 3) 5) → K (-1) m)) : TrI 119 [(1, 1), (0, a1)] m K := by
  exact w119_0 a1 H
set_option maxRecDepth 100000 in
theorem w120_0 {m : Mm} {K : Int → Mm → Prop}  
  (H : TrV 77 [(1, 370), (1, (m 1 3)), (1, 280), (0, (-1))] m fun m1 => X 120 18 [(1, 1), (0, 0), (9, 0), (9, 0), (9, 0)] [] m1 (qI K)) : X 120 0 [(1, 1), (9, 0), (9, 0), (9, 0), (9, 0)] [] m (qI K) := by
  refine x_s (q := (.aload_n 0, 0, 0, 0)) (cod_120 rfl) rfl rfl rfl ?_
  refine x_gc (kk := 9) (c := 370) (t := 1) (cod_120 rfl) sq_p_1 sq_l_1_9 rfl rfl ?_
  refine x_s (q := (.aload_n 0, 0, 0, 0)) (cod_120 rfl) rfl rfl rfl ?_
  refine x_gf (kk := 3) (t := 1) (cod_120 rfl) sq_p_1 sq_l_1_3 rfl rfl ?_
  refine x_s (q := (.aload_n 0, 0, 0, 0)) (cod_120 rfl) rfl rfl rfl ?_
  refine x_gc (kk := 7) (c := 280) (t := 1) (cod_120 rfl) sq_p_1 sq_l_1_7 rfl rfl ?_
  refine x_s (q := (.iconst (-1), 0, 0, 0)) (cod_120 rfl) rfl rfl rfl ?_
  refine x_call (as := [(1, 370), (1, (m 1 3)), (1, 280), (0, (-1))]) (rest := []) (cod_120 rfl) rfl rfl (by decide) (by decide) rfl rfl (Nat.le_of_ble_eq_true rfl) (rcv0 sq_l_370_0 sq_p_370 (by decide)) (Nat.le_of_ble_eq_true rfl) ?_
  refine X.imp H ?_
  rintro _ m1 ⟨rfl, H2⟩
  show X 120 16 [(1, 1), (9, 0), (9, 0), (9, 0), (9, 0)] [] m1 _
  refine x_s (q := (.iconst 0, 0, 0, 0)) (cod_120 rfl) rfl rfl rfl ?_
  refine x_s (q := (.istore_n 1, 0, 0, 0)) (cod_120 rfl) rfl rfl rfl ?_
  exact H2
theorem e120 {m : Mm} {K : Int → Mm → Prop}  
  (H : TrV 77 [(1, 370), (1, (m 1 3)), (1, 280), (0, (-1))] m fun m1 => X 120 18 [(1, 1), (0, 0), (9, 0), (9, 0), (9, 0)] [] m1 (qI K)) : TrI 120 [(1, 1)] m K := by
  exact w120_0  H
set_option maxRecDepth 100000 in
theorem w120_18 {m : Mm} {K : Int → Mm → Prop} (a1 : Int) (ua2 : aV) (ua3 : aV) (ua4 : aV) 
  (H : (a1 < 24 → (0 ≤ a1 ∧ a1 < 24) ∧ ∀ m5, m5 = umem m 596 a1 0 → X 120 18 [(1, 1), (0, wr (a1 + 1)), ua2, ua3, ua4] [] m5 (qI K)) ∧ (¬ a1 < 24 → X 120 41 [(1, 1), (0, 0), (0, 0), ua3, ua4] [] m (qI K))) : X 120 18 [(1, 1), (0, a1), ua2, ua3, ua4] [] m (qI K) := by
  refine x_s (q := (.iload_n 1, 0, 0, 0)) (cod_120 rfl) rfl rfl rfl ?_
  refine x_s (q := (.bipush 24, 0, 0, 0)) (cod_120 rfl) rfl rfl rfl ?_
  refine x_ic (p := ¬ a1 < 24) (tgt := 37) (cod_120 rfl) (by decide) xn_ge (fun h => ?_) (fun h => ?_)
  · have H1 := H.2 h
    refine x_s (q := (.iconst 0, 0, 0, 0)) (cod_120 rfl) rfl rfl rfl ?_
    refine x_s (q := (.istore_n 1, 0, 0, 0)) (cod_120 rfl) rfl rfl rfl ?_
    refine x_s (q := (.iconst 0, 0, 0, 0)) (cod_120 rfl) rfl rfl rfl ?_
    refine x_s (q := (.istore_n 2, 0, 0, 0)) (cod_120 rfl) rfl rfl rfl ?_
    exact H1
  · have H2 := H.1 (Classical.not_not.mp h)
    refine x_s (q := (.aload_n 0, 0, 0, 0)) (cod_120 rfl) rfl rfl rfl ?_
    refine x_gc (kk := 16) (c := 596) (t := 1) (cod_120 rfl) sq_p_1 sq_l_1_16 rfl rfl ?_
    refine x_s (q := (.iload_n 1, 0, 0, 0)) (cod_120 rfl) rfl rfl rfl ?_
    refine x_s (q := (.iconst 0, 0, 0, 0)) (cod_120 rfl) rfl rfl rfl ?_
    obtain ⟨c3, H4⟩ := H2
    refine x_iast (cod_120 rfl) sq_a_596.s (sq_a_596.k c3.1 c3.2) ?_
    have H6 := H4 _ rfl
    generalize umem m 596 a1 0 = m5 at H6 ⊢
    refine x_s (q := (.iinc 1 1, 0, 0, 0)) (cod_120 rfl) rfl rfl rfl ?_
    refine x_go (tgt := 18) (cod_120 rfl) (by decide) ?_
    exact H6
set_option maxRecDepth 100000 in
theorem w120_41 {m : Mm} {K : Int → Mm → Prop} (a1 : Int) (a2 : Int) (ua3 : aV) (ua4 : aV) 
  (H : shp (m 1 5) = 24 ∧ (a2 < (m (m 1 5) 4) → (0 ≤ a2 ∧ a2 < 10) ∧ (0 ≤ (m 512 a2) ∧ (m 512 a2) < 24) ∧ shp (m 1 3) = 30 ∧ ((0 ≤ (m (440 + a2) (m 512 a2)) ∧ (m (440 + a2) (m 512 a2)) < m (m 1 3) 6) → shp (m 1 3) = 30 ∧ (0 ≤ (m (440 + a2) (m 512 a2)) ∧ (m (440 + a2) (m 512 a2)) < 24) ∧ TrV 109 [(1, 370), (1, (m 1 5)), (0, a2), (1, ((m 1 3) + 54 + 2 * (m (440 + a2) (m 512 a2))))] m fun m21 => X 120 131 [(1, 1), (0, a1), (0, a2), (0, m (440 + a2) (m 512 a2)), (0, 0)] [] m21 (qI K)) ∧ (¬ (0 ≤ (m (440 + a2) (m 512 a2)) ∧ (m (440 + a2) (m 512 a2)) < m (m 1 3) 6) → TrV 81 [(1, 370), (1, (m 1 5)), (0, a2)] m fun m13 => TrV 85 [(1, 370), (1, (m13 1 5)), (0, a2)] m13 fun m15 => X 120 131 [(1, 1), (0, a1), (0, a2), (0, m (440 + a2) (m 512 a2)), (0, 0)] [] m15 (qI K))) ∧ (¬ a2 < (m (m 1 5) 4) → K a1 m)) : X 120 41 [(1, 1), (0, a1), (0, a2), ua3, ua4] [] m (qI K) := by
  refine x_s (q := (.iload_n 2, 0, 0, 0)) (cod_120 rfl) rfl rfl rfl ?_
  refine x_s (q := (.aload_n 0, 0, 0, 0)) (cod_120 rfl) rfl rfl rfl ?_
  refine x_gf (kk := 5) (t := 1) (cod_120 rfl) sq_p_1 sq_l_1_5 rfl rfl ?_
  obtain ⟨c1, H2⟩ := H
  refine x_gf (kk := 4) (t := 0) (cod_120 rfl) c1 (sq_c_4_4 c1) rfl rfl ?_
  refine x_ic (p := ¬ a2 < (m (m 1 5) 4)) (tgt := 184) (cod_120 rfl) (by decide) xn_ge (fun h => ?_) (fun h => ?_)
  · have H3 := H2.2 h
    refine x_s (q := (.iload_n 1, 0, 0, 0)) (cod_120 rfl) rfl rfl rfl ?_
    refine x_retI (t := .int) (cod_120 rfl) rfl rfl rfl ?_
    exact H3
  · have H4 := H2.1 (Classical.not_not.mp h)
    refine x_s (q := (.aload_n 0, 0, 0, 0)) (cod_120 rfl) rfl rfl rfl ?_
    refine x_gc (kk := 10) (c := 411) (t := 1) (cod_120 rfl) sq_p_1 sq_l_1_10 rfl rfl ?_
    refine x_gc (kk := 7) (c := 439) (t := 1) (cod_120 rfl) sq_p_411 sq_l_411_7 rfl rfl ?_
    refine x_s (q := (.iload_n 2, 0, 0, 0)) (cod_120 rfl) rfl rfl rfl ?_
    obtain ⟨c5, H6⟩ := H4
    refine x_aaldc (c := (440 + a2)) (cod_120 rfl) (by rw [(sq_ro_439 (j := a2) c5.1 c5.2).2]; decide) (sq_ro_439 (j := a2) c5.1 c5.2).1 ?_
    refine x_s (q := (.aload_n 0, 0, 0, 0)) (cod_120 rfl) rfl rfl rfl ?_
    refine x_gc (kk := 12) (c := 511) (t := 1) (cod_120 rfl) sq_p_1 sq_l_1_12 rfl rfl ?_
    refine x_gc (kk := 0) (c := 512) (t := 1) (cod_120 rfl) sq_p_511 sq_l_511_0 rfl rfl ?_
    refine x_s (q := (.iload_n 2, 0, 0, 0)) (cod_120 rfl) rfl rfl rfl ?_
    refine x_iald (cod_120 rfl) sq_a_512.s (sq_a_512.k c5.1 c5.2) ?_
    obtain ⟨c7, H8⟩ := H6
    refine x_iald (cod_120 rfl) (sq_rw_439 (j := a2) c5.1 c5.2).s ((sq_rw_439 (j := a2) c5.1 c5.2).k c7.1 c7.2) ?_
    refine x_s (q := (.istore_n 3, 0, 0, 0)) (cod_120 rfl) rfl rfl rfl ?_
    refine x_s (q := (.aload_n 0, 0, 0, 0)) (cod_120 rfl) rfl rfl rfl ?_
    refine x_s (q := (.iload_n 3, 0, 0, 0)) (cod_120 rfl) rfl rfl rfl ?_
    obtain ⟨c9, H10⟩ := H8
    refine x_call (as := [(1, 1), (0, m (440 + a2) (m 512 a2))]) (rest := []) (cod_120 rfl) rfl rfl (by decide) (by decide) rfl rfl (Nat.le_of_ble_eq_true rfl) (rcv0 sq_l_1_0 sq_p_1 (by decide)) (Nat.le_of_ble_eq_true rfl) ?_
    refine x_pure (p68 c9) ?_
    show X 120 77 [(1, 1), (0, a1), (0, a2), (0, m (440 + a2) (m 512 a2)), ua4] [(0, bi (0 ≤ (m (440 + a2) (m 512 a2)) ∧ (m (440 + a2) (m 512 a2)) < m (m 1 3) 6))] m _
    refine x_if (p := ¬ (0 ≤ (m (440 + a2) (m 512 a2)) ∧ (m (440 + a2) (m 512 a2)) < m (m 1 3) 6)) (tgt := 104) (cod_120 rfl) (by decide) xb_eq (fun h => ?_) (fun h => ?_)
    · have H11 := H10.2 h
      refine x_s (q := (.aload_n 0, 0, 0, 0)) (cod_120 rfl) rfl rfl rfl ?_
      refine x_gc (kk := 9) (c := 370) (t := 1) (cod_120 rfl) sq_p_1 sq_l_1_9 rfl rfl ?_
      refine x_s (q := (.aload_n 0, 0, 0, 0)) (cod_120 rfl) rfl rfl rfl ?_
      refine x_gf (kk := 5) (t := 1) (cod_120 rfl) sq_p_1 sq_l_1_5 rfl rfl ?_
      refine x_s (q := (.iload_n 2, 0, 0, 0)) (cod_120 rfl) rfl rfl rfl ?_
      refine x_call (as := [(1, 370), (1, (m 1 5)), (0, a2)]) (rest := []) (cod_120 rfl) rfl rfl (by decide) (by decide) rfl rfl (Nat.le_of_ble_eq_true rfl) (rcv0 sq_l_370_0 sq_p_370 (by decide)) (Nat.le_of_ble_eq_true rfl) ?_
      refine X.imp H11 ?_
      rintro _ m13 ⟨rfl, H14⟩
      show X 120 116 [(1, 1), (0, a1), (0, a2), (0, m (440 + a2) (m 512 a2)), ua4] [] m13 _
      refine x_s (q := (.aload_n 0, 0, 0, 0)) (cod_120 rfl) rfl rfl rfl ?_
      refine x_gc (kk := 9) (c := 370) (t := 1) (cod_120 rfl) sq_p_1 sq_l_1_9 rfl rfl ?_
      refine x_s (q := (.aload_n 0, 0, 0, 0)) (cod_120 rfl) rfl rfl rfl ?_
      refine x_gf (kk := 5) (t := 1) (cod_120 rfl) sq_p_1 sq_l_1_5 rfl rfl ?_
      refine x_s (q := (.iload_n 2, 0, 0, 0)) (cod_120 rfl) rfl rfl rfl ?_
      refine x_call (as := [(1, 370), (1, (m13 1 5)), (0, a2)]) (rest := []) (cod_120 rfl) rfl rfl (by decide) (by decide) rfl rfl (Nat.le_of_ble_eq_true rfl) (rcv0 sq_l_370_0 sq_p_370 (by decide)) (Nat.le_of_ble_eq_true rfl) ?_
      refine X.imp H14 ?_
      rintro _ m15 ⟨rfl, H16⟩
      show X 120 128 [(1, 1), (0, a1), (0, a2), (0, m (440 + a2) (m 512 a2)), ua4] [] m15 _
      refine x_s (q := (.iconst 0, 0, 0, 0)) (cod_120 rfl) rfl rfl rfl ?_
      refine x_s (q := (.istore 4, 0, 0, 0)) (cod_120 rfl) rfl rfl rfl ?_
      exact H16
    · have H12 := H10.1 (Classical.not_not.mp h)
      refine x_s (q := (.aload_n 0, 0, 0, 0)) (cod_120 rfl) rfl rfl rfl ?_
      refine x_gc (kk := 9) (c := 370) (t := 1) (cod_120 rfl) sq_p_1 sq_l_1_9 rfl rfl ?_
      refine x_s (q := (.aload_n 0, 0, 0, 0)) (cod_120 rfl) rfl rfl rfl ?_
      refine x_gf (kk := 5) (t := 1) (cod_120 rfl) sq_p_1 sq_l_1_5 rfl rfl ?_
      refine x_s (q := (.iload_n 2, 0, 0, 0)) (cod_120 rfl) rfl rfl rfl ?_
      refine x_s (q := (.aload_n 0, 0, 0, 0)) (cod_120 rfl) rfl rfl rfl ?_
      refine x_gf (kk := 3) (t := 1) (cod_120 rfl) sq_p_1 sq_l_1_3 rfl rfl ?_
      obtain ⟨c17, H18⟩ := H12
      refine x_gc (kk := 1) (c := ((m 1 3) + 2)) (t := 1) (cod_120 rfl) c17 (sq_c_10_1 c17) rfl rfl ?_
      refine x_s (q := (.iload_n 3, 0, 0, 0)) (cod_120 rfl) rfl rfl rfl ?_
      obtain ⟨c19, H20⟩ := H18
      refine x_aaldc (c := ((m 1 3) + 54 + 2 * (m (440 + a2) (m 512 a2)))) (cod_120 rfl) (by rw [(sq_oa_10_1 (j := m (440 + a2) (m 512 a2)) c17 c19.1 c19.2).2.1]; decide) (sq_oa_10_1 (j := m (440 + a2) (m 512 a2)) c17 c19.1 c19.2).1 ?_
      refine x_call (as := [(1, 370), (1, (m 1 5)), (0, a2), (1, ((m 1 3) + 54 + 2 * (m (440 + a2) (m 512 a2))))]) (rest := []) (cod_120 rfl) rfl rfl (by decide) (by decide) rfl rfl (Nat.le_of_ble_eq_true rfl) (rcv0 sq_l_370_0 sq_p_370 (by decide)) (Nat.le_of_ble_eq_true rfl) ?_
      refine X.imp H20 ?_
      rintro _ m21 ⟨rfl, H22⟩
      show X 120 101 [(1, 1), (0, a1), (0, a2), (0, m (440 + a2) (m 512 a2)), ua4] [] m21 _
      refine x_go (tgt := 128) (cod_120 rfl) (by decide) ?_
      refine x_s (q := (.iconst 0, 0, 0, 0)) (cod_120 rfl) rfl rfl rfl ?_
      refine x_s (q := (.istore 4, 0, 0, 0)) (cod_120 rfl) rfl rfl rfl ?_
      exact H22
set_option maxRecDepth 100000 in
theorem w120_131 {m : Mm} {K : Int → Mm → Prop} (a1 : Int) (a2 : Int) (ua3 : aV) (a4 : Int) (hua3 : ua3.1 ≠ 2)
  (H : (a4 < (m 370 2) → (0 ≤ a4 ∧ a4 < 10) ∧ (0 ≤ (m 371 a4) ∧ (m 371 a4) < 24) ∧ ∀ m7, m7 = umem m 596 (m 371 a4) (wr ((m 596 (m 371 a4)) + 1)) → X 120 131 [(1, 1), (0, a1), (0, a2), ua3, (0, wr (a4 + 1))] [] m7 (qI K)) ∧ (¬ a4 < (m 370 2) → X 120 41 [(1, 1), (0, wr (a1 + (m 370 2))), (0, wr (a2 + 1)), ua3, (0, a4)] [] m (qI K))) : X 120 131 [(1, 1), (0, a1), (0, a2), ua3, (0, a4)] [] m (qI K) := by
  refine x_s (q := (.iload 4, 0, 0, 0)) (cod_120 rfl) rfl rfl rfl ?_
  refine x_s (q := (.aload_n 0, 0, 0, 0)) (cod_120 rfl) rfl rfl rfl ?_
  refine x_gc (kk := 9) (c := 370) (t := 1) (cod_120 rfl) sq_p_1 sq_l_1_9 rfl rfl ?_
  refine x_gf (kk := 2) (t := 0) (cod_120 rfl) sq_p_370 sq_l_370_2 rfl rfl ?_
  refine x_ic (p := ¬ a4 < (m 370 2)) (tgt := 168) (cod_120 rfl) (by decide) xn_ge (fun h => ?_) (fun h => ?_)
  · have H1 := H.2 h
    refine x_s (q := (.iload_n 1, 0, 0, 0)) (cod_120 rfl) rfl rfl rfl ?_
    refine x_s (q := (.aload_n 0, 0, 0, 0)) (cod_120 rfl) rfl rfl rfl ?_
    refine x_gc (kk := 9) (c := 370) (t := 1) (cod_120 rfl) sq_p_1 sq_l_1_9 rfl rfl ?_
    refine x_gf (kk := 2) (t := 0) (cod_120 rfl) sq_p_370 sq_l_370_2 rfl rfl ?_
    refine x_s (q := (.iadd, 0, 0, 0)) (cod_120 rfl) rfl rfl rfl ?_
    refine x_s (q := (.istore_n 1, 0, 0, 0)) (cod_120 rfl) rfl rfl rfl ?_
    refine x_s (q := (.iinc 2 1, 0, 0, 0)) (cod_120 rfl) rfl rfl rfl ?_
    refine x_go (tgt := 41) (cod_120 rfl) (by decide) ?_
    exact H1
  · have H2 := H.1 (Classical.not_not.mp h)
    refine x_s (q := (.aload_n 0, 0, 0, 0)) (cod_120 rfl) rfl rfl rfl ?_
    refine x_gc (kk := 16) (c := 596) (t := 1) (cod_120 rfl) sq_p_1 sq_l_1_16 rfl rfl ?_
    refine x_s (q := (.aload_n 0, 0, 0, 0)) (cod_120 rfl) rfl rfl rfl ?_
    refine x_gc (kk := 9) (c := 370) (t := 1) (cod_120 rfl) sq_p_1 sq_l_1_9 rfl rfl ?_
    refine x_gc (kk := 0) (c := 371) (t := 1) (cod_120 rfl) sq_p_370 sq_l_370_0 rfl rfl ?_
    refine x_s (q := (.iload 4, 0, 0, 0)) (cod_120 rfl) rfl rfl rfl ?_
    obtain ⟨c3, H4⟩ := H2
    refine x_iald (cod_120 rfl) sq_a_371.s (sq_a_371.k c3.1 c3.2) ?_
    refine x_s (q := (.dup2, 0, 0, 0)) (cod_120 rfl) rfl rfl rfl ?_
    obtain ⟨c5, H6⟩ := H4
    refine x_iald (cod_120 rfl) sq_a_596.s (sq_a_596.k c5.1 c5.2) ?_
    refine x_s (q := (.iconst 1, 0, 0, 0)) (cod_120 rfl) rfl rfl rfl ?_
    refine x_s (q := (.iadd, 0, 0, 0)) (cod_120 rfl) rfl rfl rfl ?_
    refine x_iast (cod_120 rfl) sq_a_596.s (sq_a_596.k c5.1 c5.2) ?_
    have H8 := H6 _ rfl
    generalize umem m 596 (m 371 a4) (wr ((m 596 (m 371 a4)) + 1)) = m7 at H8 ⊢
    show X 120 162 [(1, 1), (0, a1), (0, a2), ua3, (0, a4)] [] m7 _
    refine x_s (q := (.iinc 4 1, 0, 0, 0)) (np := 165) (ls' := [(1, 1), (0, a1), (0, a2), ua3, (0, wr (a4 + 1))]) (st' := []) (cod_120 rfl) rfl rfl (by simp [stp1, stS, tok, lsok, oif, hua3]) ?_
    refine x_go (tgt := 131) (cod_120 rfl) (by decide) ?_
    exact H8
