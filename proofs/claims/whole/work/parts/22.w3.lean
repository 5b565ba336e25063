/-! rules of small methods, third: printed by wip/whole/l2.py -/

set_option maxRecDepth 100000 in
theorem w219_0 {m : Mm} {K : Int → Mm → Prop} (a0 : Int) (a1 : Int) 
  (H : (a0 = 0 → K 1 m) ∧ (¬ a0 = 0 → (a1 < 0 → (a0 = 1 → K 1 m) ∧ (¬ a0 = 1 → K 0 m)) ∧ (¬ a1 < 0 → (a1 < 32 → (a0 > 1 → (a0 = 30 → K 0 m) ∧ (¬ a0 = 30 → (-1000 < a0 ∧ a0 < 1000) ∧ ((asB a1 a0 = true) → K 1 m) ∧ (¬ (asB a1 a0 = true) → K 0 m))) ∧ (¬ a0 > 1 → K 0 m)) ∧ (¬ a1 < 32 → (a0 = 30 → K 1 m) ∧ (¬ a0 = 30 → K 0 m))))) : X 219 0 [(0, a0), (0, a1)] [] m (qI K) := by
  refine x_s (q := (.iload_n 0, 0, 0, 0)) (cod_219 rfl) rfl rfl rfl ?_
  refine x_if (p := ¬ a0 = 0) (tgt := 6) (cod_219 rfl) (by decide) xj_ne (fun h => ?_) (fun h => ?_)
  · have H1 := H.2 h
    refine x_s (q := (.iload_n 1, 0, 0, 0)) (cod_219 rfl) rfl rfl rfl ?_
    refine x_if (p := ¬ a1 < 0) (tgt := 21) (cod_219 rfl) (by decide) xn_ge (fun h => ?_) (fun h => ?_)
    · have H3 := H1.2 h
      refine x_s (q := (.iload_n 1, 0, 0, 0)) (cod_219 rfl) rfl rfl rfl ?_
      refine x_s (q := (.bipush 32, 0, 0, 0)) (cod_219 rfl) rfl rfl rfl ?_
      refine x_ic (p := a1 < 32) (tgt := 41) (cod_219 rfl) (by decide) xj_lt (fun h => ?_) (fun h => ?_)
      · have H5 := H3.1 h
        refine x_s (q := (.iload_n 0, 0, 0, 0)) (cod_219 rfl) rfl rfl rfl ?_
        refine x_s (q := (.iconst 1, 0, 0, 0)) (cod_219 rfl) rfl rfl rfl ?_
        refine x_ic (p := ¬ a0 > 1) (tgt := 64) (cod_219 rfl) (by decide) xn_le (fun h => ?_) (fun h => ?_)
        · have H7 := H5.2 h
          refine x_s (q := (.iconst 0, 0, 0, 0)) (cod_219 rfl) rfl rfl rfl ?_
          refine x_retI (t := .boolean) (cod_219 rfl) rfl rfl rfl ?_
          exact H7
        · have H8 := H5.1 (Classical.not_not.mp h)
          refine x_s (q := (.iload_n 0, 0, 0, 0)) (cod_219 rfl) rfl rfl rfl ?_
          refine x_s (q := (.bipush 30, 0, 0, 0)) (cod_219 rfl) rfl rfl rfl ?_
          refine x_ic (p := a0 = 30) (tgt := 64) (cod_219 rfl) (by decide) xj_eq (fun h => ?_) (fun h => ?_)
          · have H9 := H8.1 h
            refine x_s (q := (.iconst 0, 0, 0, 0)) (cod_219 rfl) rfl rfl rfl ?_
            refine x_retI (t := .boolean) (cod_219 rfl) rfl rfl rfl ?_
            exact H9
          · have H10 := H8.2 h
            refine x_s (q := (.iload_n 1, 0, 0, 0)) (cod_219 rfl) rfl rfl rfl ?_
            refine x_s (q := (.iload_n 0, 0, 0, 0)) (cod_219 rfl) rfl rfl rfl ?_
            obtain ⟨c11, H12⟩ := H10
            refine x_call (as := [(0, a1), (0, a0)]) (rest := []) (cod_219 rfl) rfl rfl (by decide) (by decide) rfl rfl (Nat.le_of_ble_eq_true rfl) rfl (Nat.le_of_ble_eq_true rfl) ?_
            refine x_pure (p217 c11) ?_
            show X 219 57 [(0, a0), (0, a1)] [(0, bi (asB a1 a0 = true))] m _
            refine x_if (p := ¬ (asB a1 a0 = true)) (tgt := 64) (cod_219 rfl) (by decide) xb_eq (fun h => ?_) (fun h => ?_)
            · have H13 := H12.2 h
              refine x_s (q := (.iconst 0, 0, 0, 0)) (cod_219 rfl) rfl rfl rfl ?_
              refine x_retI (t := .boolean) (cod_219 rfl) rfl rfl rfl ?_
              exact H13
            · have H14 := H12.1 (Classical.not_not.mp h)
              refine x_s (q := (.iconst 1, 0, 0, 0)) (cod_219 rfl) rfl rfl rfl ?_
              refine x_go (tgt := 65) (cod_219 rfl) (by decide) ?_
              refine x_retI (t := .boolean) (cod_219 rfl) rfl rfl rfl ?_
              exact H14
      · have H6 := H3.2 h
        refine x_s (q := (.iload_n 0, 0, 0, 0)) (cod_219 rfl) rfl rfl rfl ?_
        refine x_s (q := (.bipush 30, 0, 0, 0)) (cod_219 rfl) rfl rfl rfl ?_
        refine x_ic (p := ¬ a0 = 30) (tgt := 37) (cod_219 rfl) (by decide) xj_ne (fun h => ?_) (fun h => ?_)
        · have H15 := H6.2 h
          refine x_s (q := (.iconst 0, 0, 0, 0)) (cod_219 rfl) rfl rfl rfl ?_
          refine x_go (tgt := 65) (cod_219 rfl) (by decide) ?_
          refine x_retI (t := .boolean) (cod_219 rfl) rfl rfl rfl ?_
          exact H15
        · have H16 := H6.1 (Classical.not_not.mp h)
          refine x_s (q := (.iconst 1, 0, 0, 0)) (cod_219 rfl) rfl rfl rfl ?_
          refine x_go (tgt := 65) (cod_219 rfl) (by decide) ?_
          refine x_retI (t := .boolean) (cod_219 rfl) rfl rfl rfl ?_
          exact H16
    · have H4 := H1.1 (Classical.not_not.mp h)
      refine x_s (q := (.iload_n 0, 0, 0, 0)) (cod_219 rfl) rfl rfl rfl ?_
      refine x_s (q := (.iconst 1, 0, 0, 0)) (cod_219 rfl) rfl rfl rfl ?_
      refine x_ic (p := ¬ a0 = 1) (tgt := 19) (cod_219 rfl) (by decide) xj_ne (fun h => ?_) (fun h => ?_)
      · have H17 := H4.2 h
        refine x_s (q := (.iconst 0, 0, 0, 0)) (cod_219 rfl) rfl rfl rfl ?_
        refine x_retI (t := .boolean) (cod_219 rfl) rfl rfl rfl ?_
        exact H17
      · have H18 := H4.1 (Classical.not_not.mp h)
        refine x_s (q := (.iconst 1, 0, 0, 0)) (cod_219 rfl) rfl rfl rfl ?_
        refine x_go (tgt := 20) (cod_219 rfl) (by decide) ?_
        refine x_retI (t := .boolean) (cod_219 rfl) rfl rfl rfl ?_
        exact H18
  · have H2 := H.1 (Classical.not_not.mp h)
    refine x_s (q := (.iconst 1, 0, 0, 0)) (cod_219 rfl) rfl rfl rfl ?_
    refine x_retI (t := .boolean) (cod_219 rfl) rfl rfl rfl ?_
    exact H2
theorem e219 {m : Mm} {K : Int → Mm → Prop} (a0 : Int) (a1 : Int) 
  (H : (a0 = 0 → K 1 m) ∧ (¬ a0 = 0 → (a1 < 0 → (a0 = 1 → K 1 m) ∧ (¬ a0 = 1 → K 0 m)) ∧ (¬ a1 < 0 → (a1 < 32 → (a0 > 1 → (a0 = 30 → K 0 m) ∧ (¬ a0 = 30 → (-1000 < a0 ∧ a0 < 1000) ∧ ((asB a1 a0 = true) → K 1 m) ∧ (¬ (asB a1 a0 = true) → K 0 m))) ∧ (¬ a0 > 1 → K 0 m)) ∧ (¬ a1 < 32 → (a0 = 30 → K 1 m) ∧ (¬ a0 = 30 → K 0 m))))) : TrI 219 [(0, a0), (0, a1)] m K := by
  exact w219_0 a0 a1 H
set_option maxRecDepth 100000 in
theorem w216_0 {m : Mm} {K : Int → Mm → Prop} (a1 : Int) (a2 : Int) 
  (H : (m 597 16 = 0 ∧ 0 ≤ (wr ((wr (11 * a1)) + 2)) ∧ (wr ((wr (11 * a1)) + 2)) < 1166) ∧ ((m 602 (wr ((wr (11 * a1)) + 2))) = 0 → K 1 m) ∧ (¬ (m 602 (wr ((wr (11 * a1)) + 2))) = 0 → ((m 602 (wr ((wr (11 * a1)) + 2))) = 1 → (a2 < 0 → K 1 m) ∧ (¬ a2 < 0 → K 0 m)) ∧ (¬ (m 602 (wr ((wr (11 * a1)) + 2))) = 1 → (a2 < 0 → K 0 m) ∧ (¬ a2 < 0 → (-1000 < (m 602 (wr ((wr (11 * a1)) + 2))) ∧ (m 602 (wr ((wr (11 * a1)) + 2))) < 1000) ∧ ((asB a2 (m 602 (wr ((wr (11 * a1)) + 2))) = true) → K 1 m) ∧ (¬ (asB a2 (m 602 (wr ((wr (11 * a1)) + 2))) = true) → K 0 m))))) : X 216 0 [(1, 597), (0, a1), (0, a2), (9, 0)] [] m (qI K) := by
  refine x_s (q := (.aload_n 0, 0, 0, 0)) (cod_216 rfl) rfl rfl rfl ?_
  refine x_s (q := (.bipush 11, 0, 0, 0)) (cod_216 rfl) rfl rfl rfl ?_
  refine x_s (q := (.iload_n 1, 0, 0, 0)) (cod_216 rfl) rfl rfl rfl ?_
  refine x_s (q := (.imul, 0, 0, 0)) (cod_216 rfl) rfl rfl rfl ?_
  refine x_s (q := (.iconst 2, 0, 0, 0)) (cod_216 rfl) rfl rfl rfl ?_
  refine x_s (q := (.iadd, 0, 0, 0)) (cod_216 rfl) rfl rfl rfl ?_
  obtain ⟨c1, H2⟩ := H
  refine x_call (as := [(1, 597), (0, wr ((wr (11 * a1)) + 2))]) (rest := []) (cod_216 rfl) rfl rfl (by decide) (by decide) rfl rfl (Nat.le_of_ble_eq_true rfl) (rcv0 sq_l_597_0 sq_p_597 (by decide)) (Nat.le_of_ble_eq_true rfl) ?_
  refine x_pure (p182ax c1) ?_
  show X 216 10 [(1, 597), (0, a1), (0, a2), (9, 0)] [(0, m 602 (wr ((wr (11 * a1)) + 2)))] m _
  refine x_s (q := (.istore_n 3, 0, 0, 0)) (cod_216 rfl) rfl rfl rfl ?_
  refine x_s (q := (.iload_n 3, 0, 0, 0)) (cod_216 rfl) rfl rfl rfl ?_
  refine x_if (p := (m 602 (wr ((wr (11 * a1)) + 2))) = 0) (tgt := 39) (cod_216 rfl) (by decide) xj_eq (fun h => ?_) (fun h => ?_)
  · have H3 := H2.1 h
    refine x_s (q := (.iconst 1, 0, 0, 0)) (cod_216 rfl) rfl rfl rfl ?_
    refine x_go (tgt := 44) (cod_216 rfl) (by decide) ?_
    refine x_retI (t := .boolean) (cod_216 rfl) rfl rfl rfl ?_
    exact H3
  · have H4 := H2.2 h
    refine x_s (q := (.iload_n 3, 0, 0, 0)) (cod_216 rfl) rfl rfl rfl ?_
    refine x_s (q := (.iconst 1, 0, 0, 0)) (cod_216 rfl) rfl rfl rfl ?_
    refine x_ic (p := ¬ (m 602 (wr ((wr (11 * a1)) + 2))) = 1) (tgt := 27) (cod_216 rfl) (by decide) xj_ne (fun h => ?_) (fun h => ?_)
    · have H5 := H4.2 h
      refine x_s (q := (.iload_n 2, 0, 0, 0)) (cod_216 rfl) rfl rfl rfl ?_
      refine x_if (p := a2 < 0) (tgt := 43) (cod_216 rfl) (by decide) xj_lt (fun h => ?_) (fun h => ?_)
      · have H7 := H5.1 h
        refine x_s (q := (.iconst 0, 0, 0, 0)) (cod_216 rfl) rfl rfl rfl ?_
        refine x_retI (t := .boolean) (cod_216 rfl) rfl rfl rfl ?_
        exact H7
      · have H8 := H5.2 h
        refine x_s (q := (.iload_n 2, 0, 0, 0)) (cod_216 rfl) rfl rfl rfl ?_
        refine x_s (q := (.iload_n 3, 0, 0, 0)) (cod_216 rfl) rfl rfl rfl ?_
        obtain ⟨c9, H10⟩ := H8
        refine x_call (as := [(0, a2), (0, m 602 (wr ((wr (11 * a1)) + 2)))]) (rest := []) (cod_216 rfl) rfl rfl (by decide) (by decide) rfl rfl (Nat.le_of_ble_eq_true rfl) rfl (Nat.le_of_ble_eq_true rfl) ?_
        refine x_pure (p217 c9) ?_
        show X 216 36 [(1, 597), (0, a1), (0, a2), (0, m 602 (wr ((wr (11 * a1)) + 2)))] [(0, bi (asB a2 (m 602 (wr ((wr (11 * a1)) + 2))) = true))] m _
        refine x_if (p := ¬ (asB a2 (m 602 (wr ((wr (11 * a1)) + 2))) = true)) (tgt := 43) (cod_216 rfl) (by decide) xb_eq (fun h => ?_) (fun h => ?_)
        · have H11 := H10.2 h
          refine x_s (q := (.iconst 0, 0, 0, 0)) (cod_216 rfl) rfl rfl rfl ?_
          refine x_retI (t := .boolean) (cod_216 rfl) rfl rfl rfl ?_
          exact H11
        · have H12 := H10.1 (Classical.not_not.mp h)
          refine x_s (q := (.iconst 1, 0, 0, 0)) (cod_216 rfl) rfl rfl rfl ?_
          refine x_go (tgt := 44) (cod_216 rfl) (by decide) ?_
          refine x_retI (t := .boolean) (cod_216 rfl) rfl rfl rfl ?_
          exact H12
    · have H6 := H4.1 (Classical.not_not.mp h)
      refine x_s (q := (.iload_n 2, 0, 0, 0)) (cod_216 rfl) rfl rfl rfl ?_
      refine x_if (p := ¬ a2 < 0) (tgt := 43) (cod_216 rfl) (by decide) xn_ge (fun h => ?_) (fun h => ?_)
      · have H13 := H6.2 h
        refine x_s (q := (.iconst 0, 0, 0, 0)) (cod_216 rfl) rfl rfl rfl ?_
        refine x_retI (t := .boolean) (cod_216 rfl) rfl rfl rfl ?_
        exact H13
      · have H14 := H6.1 (Classical.not_not.mp h)
        refine x_go (tgt := 39) (cod_216 rfl) (by decide) ?_
        refine x_s (q := (.iconst 1, 0, 0, 0)) (cod_216 rfl) rfl rfl rfl ?_
        refine x_go (tgt := 44) (cod_216 rfl) (by decide) ?_
        refine x_retI (t := .boolean) (cod_216 rfl) rfl rfl rfl ?_
        exact H14
theorem e216 {m : Mm} {K : Int → Mm → Prop} (a1 : Int) (a2 : Int) 
  (H : (m 597 16 = 0 ∧ 0 ≤ (wr ((wr (11 * a1)) + 2)) ∧ (wr ((wr (11 * a1)) + 2)) < 1166) ∧ ((m 602 (wr ((wr (11 * a1)) + 2))) = 0 → K 1 m) ∧ (¬ (m 602 (wr ((wr (11 * a1)) + 2))) = 0 → ((m 602 (wr ((wr (11 * a1)) + 2))) = 1 → (a2 < 0 → K 1 m) ∧ (¬ a2 < 0 → K 0 m)) ∧ (¬ (m 602 (wr ((wr (11 * a1)) + 2))) = 1 → (a2 < 0 → K 0 m) ∧ (¬ a2 < 0 → (-1000 < (m 602 (wr ((wr (11 * a1)) + 2))) ∧ (m 602 (wr ((wr (11 * a1)) + 2))) < 1000) ∧ ((asB a2 (m 602 (wr ((wr (11 * a1)) + 2))) = true) → K 1 m) ∧ (¬ (asB a2 (m 602 (wr ((wr (11 * a1)) + 2))) = true) → K 0 m))))) : TrI 216 [(1, 597), (0, a1), (0, a2)] m K := by
  exact w216_0 a1 a2 H
