/-! text(168) at 153, the book 0: printed by wip/whole/gen46.py -/
set_option maxRecDepth 100000 in
theorem w168_153b {m : Mm} {K : Int → Mm → Prop} (ua1 : aV) (a2 : Int) (ua3 : aV) (a4 : Int) (hua3 : ua3.1 ≠ 2)
  (H : m 597 16 = 0 ∧ (a4 < (m 602 578) → (m 597 16 = 0 ∧ 0 ≤ (wr ((wr (11 * a4)) + 4)) ∧ (wr ((wr (11 * a4)) + 4)) < 1166) ∧ (0 ≤ (wr (0 + a4)) ∧ (wr (0 + a4)) < 1276) ∧ ∀ m9, m9 = umem m 607 (wr (0 + a4)) (m 602 (wr ((wr (11 * a4)) + 4))) → X 168 153 [(1, 597), ua1, (0, a2), ua3, (0, wr (a4 + 1))] [] m9 (qI K)) ∧ (¬ a4 < (m 602 578) → K a2 m)) : X 168 153 [(1, 597), ua1, (0, a2), ua3, (0, a4)] [] m (qI K) := by
  refine x_s (q := (.iload 4, 0, 0, 0)) (cod_168 rfl) rfl rfl rfl ?_
  refine x_s (q := (.aload_n 0, 0, 0, 0)) (cod_168 rfl) rfl rfl rfl ?_
  refine x_call (as := [(1, 597)]) (rest := [(0, a4)]) (cod_168 rfl) rfl rfl (by decide) (by decide) rfl rfl (Nat.le_of_ble_eq_true rfl) (rcv0 sq_l_597_0 sq_p_597 (by decide)) (Nat.le_of_ble_eq_true rfl) ?_
  show X 181 0 [(1, 597)] [] m _
  refine x_s (q := (.aload_n 0, 0, 0, 0)) (cod_181 rfl) rfl rfl rfl ?_
  refine x_s (q := (.sipush 578, 0, 0, 0)) (cod_181 rfl) rfl rfl rfl ?_
  obtain ⟨c1, H2⟩ := H
  refine x_call (as := [(1, 597), (0, 578)]) (rest := []) (cod_181 rfl) rfl rfl (by decide) (by decide) rfl rfl (Nat.le_of_ble_eq_true rfl) (rcv0 sq_l_597_0 sq_p_597 (by decide)) (Nat.le_of_ble_eq_true rfl) ?_
  refine x_pure (p182a (by decide) c1) ?_
  show X 181 7 [(1, 597)] [(0, m 602 578)] m _
  refine x_rI (t := .int) (cod_181 rfl) rfl rfl rfl ?_
  show X 168 159 [(1, 597), ua1, (0, a2), ua3, (0, a4)] [(0, m 602 578), (0, a4)] m _
  refine x_ic (p := ¬ a4 < (m 602 578)) (tgt := 187) (cod_168 rfl) (by decide) xn_ge (fun h => ?_) (fun h => ?_)
  · have H3 := H2.2 h
    refine x_s (q := (.iload_n 2, 0, 0, 0)) (cod_168 rfl) rfl rfl rfl ?_
    refine x_retI (t := .int) (cod_168 rfl) rfl rfl rfl ?_
    exact H3
  · have H4 := H2.1 (Classical.not_not.mp h)
    refine x_s (q := (.aload_n 0, 0, 0, 0)) (cod_168 rfl) rfl rfl rfl ?_
    refine x_s (q := (.iconst 0, 0, 0, 0)) (cod_168 rfl) rfl rfl rfl ?_
    refine x_s (q := (.iload 4, 0, 0, 0)) (cod_168 rfl) rfl rfl rfl ?_
    refine x_s (q := (.iadd, 0, 0, 0)) (cod_168 rfl) rfl rfl rfl ?_
    refine x_s (q := (.aload_n 0, 0, 0, 0)) (cod_168 rfl) rfl rfl rfl ?_
    refine x_s (q := (.bipush 11, 0, 0, 0)) (cod_168 rfl) rfl rfl rfl ?_
    refine x_s (q := (.iload 4, 0, 0, 0)) (cod_168 rfl) rfl rfl rfl ?_
    refine x_s (q := (.imul, 0, 0, 0)) (cod_168 rfl) rfl rfl rfl ?_
    refine x_s (q := (.iconst 4, 0, 0, 0)) (cod_168 rfl) rfl rfl rfl ?_
    refine x_s (q := (.iadd, 0, 0, 0)) (cod_168 rfl) rfl rfl rfl ?_
    obtain ⟨c5, H6⟩ := H4
    refine x_call (as := [(1, 597), (0, wr ((wr (11 * a4)) + 4))]) (rest := [(0, wr (0 + a4)), (1, 597)]) (cod_168 rfl) rfl rfl (by decide) (by decide) rfl rfl (Nat.le_of_ble_eq_true rfl) (rcv0 sq_l_597_0 sq_p_597 (by decide)) (Nat.le_of_ble_eq_true rfl) ?_
    refine x_pure (p182ax c5) ?_
    show X 168 178 [(1, 597), ua1, (0, a2), ua3, (0, a4)] [(0, m 602 (wr ((wr (11 * a4)) + 4))), (0, wr (0 + a4)), (1, 597)] m _
    refine x_call (as := [(1, 597), (0, wr (0 + a4)), (0, m 602 (wr ((wr (11 * a4)) + 4)))]) (rest := []) (cod_168 rfl) rfl rfl (by decide) (by decide) rfl rfl (Nat.le_of_ble_eq_true rfl) (rcv0 sq_l_597_0 sq_p_597 (by decide)) (Nat.le_of_ble_eq_true rfl) ?_
    show X 191 0 [(1, 597), (0, wr (0 + a4)), (0, m 602 (wr ((wr (11 * a4)) + 4)))] [] m _
    refine x_s (q := (.aload_n 0, 0, 0, 0)) (cod_191 rfl) rfl rfl rfl ?_
    refine x_gc (kk := 24) (c := 607) (t := 1) (cod_191 rfl) sq_p_597 sq_l_597_24 rfl rfl ?_
    refine x_s (q := (.iload_n 1, 0, 0, 0)) (cod_191 rfl) rfl rfl rfl ?_
    refine x_s (q := (.iload_n 2, 0, 0, 0)) (cod_191 rfl) rfl rfl rfl ?_
    obtain ⟨c7, H8⟩ := H6
    refine x_iast (cod_191 rfl) sq_a_607.s (sq_a_607.k c7.1 c7.2) ?_
    have H10 := H8 _ rfl
    generalize umem m 607 (wr (0 + a4)) (m 602 (wr ((wr (11 * a4)) + 4))) = m9 at H10 ⊢
    refine x_rV (cod_191 rfl) rfl ?_
    show X 168 181 [(1, 597), ua1, (0, a2), ua3, (0, a4)] [] m9 _
    show X 168 181 [(1, 597), ua1, (0, a2), ua3, (0, a4)] [] m9 _
    refine x_s (q := (.iinc 4 1, 0, 0, 0)) (np := 184) (ls' := [(1, 597), ua1, (0, a2), ua3, (0, wr (a4 + 1))]) (st' := []) (cod_168 rfl) rfl rfl (by simp [stp1, stS, tok, lsok, oif, hua3]) ?_
    refine x_go (tgt := 153) (cod_168 rfl) (by decide) ?_
    exact H10
