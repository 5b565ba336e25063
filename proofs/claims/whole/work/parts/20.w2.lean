/-! rules of small methods, second: printed by wip/whole/l2.py -/
theorem sq_c_7_2 {x : Int} (h : shp x = 27) : slot x 2 = some none := (by decide +kernel : ∀ x ∈ cl_27, slot x 2 = some none) x (in_27 h)
theorem sq_c_7_0 {x : Int} (h : shp x = 27) : slot x 0 = some (some (x + 1)) := (by decide +kernel : ∀ x ∈ cl_27, slot x 0 = some (some (x + 1))) x (in_27 h)
theorem sq_ac_7_0 {x : Int} (h : shp x = 27) : isA (x + 1) 0 6 := (by decide +kernel : ∀ x ∈ cl_27, isA (x + 1) 0 6) x (in_27 h)
theorem sq_c_1_1 {x : Int} (h : shp x = 21) : slot x 1 = some none := (by decide +kernel : ∀ x ∈ cl_21, slot x 1 = some none) x (in_21 h)
theorem sq_c_1_0 {x : Int} (h : shp x = 21) : slot x 0 = some (some (x + 1)) := (by decide +kernel : ∀ x ∈ cl_21, slot x 0 = some (some (x + 1))) x (in_21 h)
theorem sq_ac_1_0 {x : Int} (h : shp x = 21) : isA (x + 1) 0 8 := (by decide +kernel : ∀ x ∈ cl_21, isA (x + 1) 0 8) x (in_21 h)
theorem sq_c_10_0 {x : Int} (h : shp x = 30) : slot x 0 = some (some (x + 1)) := (by decide +kernel : ∀ x ∈ cl_30, slot x 0 = some (some (x + 1))) x (in_30 h)
theorem sq_oa_10_0 {x j : Int} (h : shp x = 30) (h0 : 0 ≤ j) (h1 : j < 24) : slot (x + 1) j = some (some (x + 6 + 2 * j)) ∧ shp (x + 1) = 3 ∧ shp (x + 6 + 2 * j) = 27 := by
  obtain ⟨k, rfl⟩ := Int.eq_ofNat_of_zero_le h0
  exact (by decide +kernel : ∀ x ∈ cl_30, ∀ k : Nat, k < 24 → slot (x + 1) (k : Int) = some (some (x + 6 + 2 * (k : Int))) ∧ shp (x + 1) = 3 ∧ shp (x + 6 + 2 * (k : Int)) = 27) x (in_30 h) k (by omega)
theorem sq_c_7_6 {x : Int} (h : shp x = 27) : slot x 6 = some none := (by decide +kernel : ∀ x ∈ cl_27, slot x 6 = some none) x (in_27 h)
theorem sq_l_597_0 : slot 597 0 = some none := by decide +kernel
theorem sq_l_597_24 : slot 597 24 = some (some 607) := by decide +kernel
theorem sq_a_607 : isA 607 0 1276 := ⟨by decide, by decide +kernel⟩
theorem sq_c_2_0 {x : Int} (h : shp x = 22) : slot x 0 = some (some (x + 1)) := (by decide +kernel : ∀ x ∈ cl_22, slot x 0 = some (some (x + 1))) x (in_22 h)
theorem sq_ac_2_0 {x : Int} (h : shp x = 22) : isA (x + 1) 0 24 := (by decide +kernel : ∀ x ∈ cl_22, isA (x + 1) 0 24) x (in_22 h)
theorem sq_c_2_1 {x : Int} (h : shp x = 22) : slot x 1 = some (some (x + 2)) := (by decide +kernel : ∀ x ∈ cl_22, slot x 1 = some (some (x + 2))) x (in_22 h)
theorem sq_ac_2_1 {x : Int} (h : shp x = 22) : isA (x + 2) 0 24 := (by decide +kernel : ∀ x ∈ cl_22, isA (x + 2) 0 24) x (in_22 h)
theorem sq_c_4_0 {x : Int} (h : shp x = 24) : slot x 0 = some (some (x + 1)) := (by decide +kernel : ∀ x ∈ cl_24, slot x 0 = some (some (x + 1))) x (in_24 h)
theorem sq_ac_4_0 {x : Int} (h : shp x = 24) : isA (x + 1) 0 10 := (by decide +kernel : ∀ x ∈ cl_24, isA (x + 1) 0 10) x (in_24 h)
set_option maxRecDepth 100000 in
theorem w217_0 {m : Mm} {K : Int → Mm → Prop} (a0 : Int) (a1 : Int) 
  (H : (a1 = 2 → K (bi (vowB a0 = true)) m) ∧ (¬ a1 = 2 → (a1 = 3 → ((vowB a0 = true) → K 0 m) ∧ (¬ (vowB a0 = true) → K 1 m)) ∧ (¬ a1 = 3 → (a0 = (wr (a1 - 4)) → K 1 m) ∧ (¬ a0 = (wr (a1 - 4)) → K 0 m)))) : X 217 0 [(0, a0), (0, a1)] [] m (qI K) := by
  refine x_s (q := (.iload_n 1, 0, 0, 0)) (cod_217 rfl) rfl rfl rfl ?_
  refine x_s (q := (.iconst 2, 0, 0, 0)) (cod_217 rfl) rfl rfl rfl ?_
  refine x_ic (p := ¬ a1 = 2) (tgt := 12) (cod_217 rfl) (by decide) xj_ne (fun h => ?_) (fun h => ?_)
  · have H1 := H.2 h
    refine x_s (q := (.iload_n 1, 0, 0, 0)) (cod_217 rfl) rfl rfl rfl ?_
    refine x_s (q := (.iconst 3, 0, 0, 0)) (cod_217 rfl) rfl rfl rfl ?_
    refine x_ic (p := ¬ a1 = 3) (tgt := 32) (cod_217 rfl) (by decide) xj_ne (fun h => ?_) (fun h => ?_)
    · have H3 := H1.2 h
      refine x_s (q := (.iload_n 0, 0, 0, 0)) (cod_217 rfl) rfl rfl rfl ?_
      refine x_s (q := (.iload_n 1, 0, 0, 0)) (cod_217 rfl) rfl rfl rfl ?_
      refine x_s (q := (.iconst 4, 0, 0, 0)) (cod_217 rfl) rfl rfl rfl ?_
      refine x_s (q := (.isub, 0, 0, 0)) (cod_217 rfl) rfl rfl rfl ?_
      refine x_ic (p := ¬ a0 = (wr (a1 - 4))) (tgt := 43) (cod_217 rfl) (by decide) xj_ne (fun h => ?_) (fun h => ?_)
      · have H5 := H3.2 h
        refine x_s (q := (.iconst 0, 0, 0, 0)) (cod_217 rfl) rfl rfl rfl ?_
        refine x_retI (t := .boolean) (cod_217 rfl) rfl rfl rfl ?_
        exact H5
      · have H6 := H3.1 (Classical.not_not.mp h)
        refine x_s (q := (.iconst 1, 0, 0, 0)) (cod_217 rfl) rfl rfl rfl ?_
        refine x_go (tgt := 44) (cod_217 rfl) (by decide) ?_
        refine x_retI (t := .boolean) (cod_217 rfl) rfl rfl rfl ?_
        exact H6
    · have H4 := H1.1 (Classical.not_not.mp h)
      refine x_s (q := (.iload_n 0, 0, 0, 0)) (cod_217 rfl) rfl rfl rfl ?_
      refine x_call (as := [(0, a0)]) (rest := []) (cod_217 rfl) rfl rfl (by decide) (by decide) rfl rfl (Nat.le_of_ble_eq_true rfl) rfl (Nat.le_of_ble_eq_true rfl) ?_
      refine x_pure (p218) ?_
      show X 217 21 [(0, a0), (0, a1)] [(0, bi (vowB a0 = true))] m _
      refine x_if (p := vowB a0 = true) (tgt := 28) (cod_217 rfl) (by decide) xb_ne (fun h => ?_) (fun h => ?_)
      · have H7 := H4.1 h
        refine x_s (q := (.iconst 0, 0, 0, 0)) (cod_217 rfl) rfl rfl rfl ?_
        refine x_go (tgt := 44) (cod_217 rfl) (by decide) ?_
        refine x_retI (t := .boolean) (cod_217 rfl) rfl rfl rfl ?_
        exact H7
      · have H8 := H4.2 h
        refine x_s (q := (.iconst 1, 0, 0, 0)) (cod_217 rfl) rfl rfl rfl ?_
        refine x_go (tgt := 44) (cod_217 rfl) (by decide) ?_
        refine x_retI (t := .boolean) (cod_217 rfl) rfl rfl rfl ?_
        exact H8
  · have H2 := H.1 (Classical.not_not.mp h)
    refine x_s (q := (.iload_n 0, 0, 0, 0)) (cod_217 rfl) rfl rfl rfl ?_
    refine x_call (as := [(0, a0)]) (rest := []) (cod_217 rfl) rfl rfl (by decide) (by decide) rfl rfl (Nat.le_of_ble_eq_true rfl) rfl (Nat.le_of_ble_eq_true rfl) ?_
    refine x_pure (p218) ?_
    show X 217 9 [(0, a0), (0, a1)] [(0, bi (vowB a0 = true))] m _
    refine x_go (tgt := 44) (cod_217 rfl) (by decide) ?_
    refine x_retI (t := .boolean) (cod_217 rfl) rfl rfl (bok_b (bi_01 _)) ?_
    exact H2
theorem e217 {m : Mm} {K : Int → Mm → Prop} (a0 : Int) (a1 : Int) 
  (H : (a1 = 2 → K (bi (vowB a0 = true)) m) ∧ (¬ a1 = 2 → (a1 = 3 → ((vowB a0 = true) → K 0 m) ∧ (¬ (vowB a0 = true) → K 1 m)) ∧ (¬ a1 = 3 → (a0 = (wr (a1 - 4)) → K 1 m) ∧ (¬ a0 = (wr (a1 - 4)) → K 0 m)))) : TrI 217 [(0, a0), (0, a1)] m K := by
  exact w217_0 a0 a1 H
set_option maxRecDepth 100000 in
theorem w84_0 {m : Mm} {K : Int → Mm → Prop} (a0 : Int) (a1 : Int) (ta0 : shp a0 = 27)
  (H : ((m a0 2) > 0 → (0 ≤ (wr ((m a0 2) - 1)) ∧ (wr ((m a0 2) - 1)) < 6) ∧ K (wr ((wr ((m (a0 + 1) (wr ((m a0 2) - 1))) - 97)) + 1)) m) ∧ (¬ (m a0 2) > 0 → K a1 m)) : X 84 0 [(1, a0), (0, a1)] [] m (qI K) := by
  refine x_aldn (cod_84 rfl) rfl (pos_of ta0 (by decide)) ?_
  refine x_gf (kk := 2) (t := 0) (cod_84 rfl) ta0 (sq_c_7_2 ta0) rfl rfl ?_
  refine x_if (p := ¬ (m a0 2) > 0) (tgt := 26) (cod_84 rfl) (by decide) xn_le (fun h => ?_) (fun h => ?_)
  · have H1 := H.2 h
    refine x_s (q := (.iload_n 1, 0, 0, 0)) (cod_84 rfl) rfl rfl rfl ?_
    refine x_retI (t := .int) (cod_84 rfl) rfl rfl rfl ?_
    exact H1
  · have H2 := H.1 (Classical.not_not.mp h)
    refine x_aldn (cod_84 rfl) rfl (pos_of ta0 (by decide)) ?_
    refine x_gc (kk := 0) (c := (a0 + 1)) (t := 1) (cod_84 rfl) ta0 (sq_c_7_0 ta0) rfl rfl ?_
    refine x_aldn (cod_84 rfl) rfl (pos_of ta0 (by decide)) ?_
    refine x_gf (kk := 2) (t := 0) (cod_84 rfl) ta0 (sq_c_7_2 ta0) rfl rfl ?_
    refine x_s (q := (.iconst 1, 0, 0, 0)) (cod_84 rfl) rfl rfl rfl ?_
    refine x_s (q := (.isub, 0, 0, 0)) (cod_84 rfl) rfl rfl rfl ?_
    obtain ⟨c3, H4⟩ := H2
    refine x_iald (cod_84 rfl) (sq_ac_7_0 ta0).s ((sq_ac_7_0 ta0).k c3.1 c3.2) ?_
    refine x_s (q := (.bipush 97, 0, 0, 0)) (cod_84 rfl) rfl rfl rfl ?_
    refine x_s (q := (.isub, 0, 0, 0)) (cod_84 rfl) rfl rfl rfl ?_
    refine x_s (q := (.iconst 1, 0, 0, 0)) (cod_84 rfl) rfl rfl rfl ?_
    refine x_s (q := (.iadd, 0, 0, 0)) (cod_84 rfl) rfl rfl rfl ?_
    refine x_go (tgt := 27) (cod_84 rfl) (by decide) ?_
    refine x_retI (t := .int) (cod_84 rfl) rfl rfl rfl ?_
    exact H4
theorem e84 {m : Mm} {K : Int → Mm → Prop} (a0 : Int) (a1 : Int) (ta0 : shp a0 = 27)
  (H : ((m a0 2) > 0 → (0 ≤ (wr ((m a0 2) - 1)) ∧ (wr ((m a0 2) - 1)) < 6) ∧ K (wr ((wr ((m (a0 + 1) (wr ((m a0 2) - 1))) - 97)) + 1)) m) ∧ (¬ (m a0 2) > 0 → K a1 m)) : TrI 84 [(1, a0), (0, a1)] m K := by
  exact w84_0 a0 a1 ta0 H
set_option maxRecDepth 100000 in
theorem w93_0 {m : Mm} {K : Int → Mm → Prop} (a0 : Int) (a1 : Int) (ta0 : shp a0 = 21)
  (H : (a1 < 0 → K 0 m) ∧ (¬ a1 < 0 → (a1 < (m a0 1) → (a1 < 8 → (0 ≤ a1 ∧ a1 < 8) ∧ K (wr ((wr ((m (a0 + 1) a1) - 97)) + 1)) m) ∧ (¬ a1 < 8 → K 0 m)) ∧ (¬ a1 < (m a0 1) → K 0 m))) : X 93 0 [(1, a0), (0, a1)] [] m (qI K) := by
  refine x_s (q := (.iload_n 1, 0, 0, 0)) (cod_93 rfl) rfl rfl rfl ?_
  refine x_if (p := a1 < 0) (tgt := 32) (cod_93 rfl) (by decide) xj_lt (fun h => ?_) (fun h => ?_)
  · have H1 := H.1 h
    refine x_s (q := (.iconst 0, 0, 0, 0)) (cod_93 rfl) rfl rfl rfl ?_
    refine x_retI (t := .int) (cod_93 rfl) rfl rfl rfl ?_
    exact H1
  · have H2 := H.2 h
    refine x_s (q := (.iload_n 1, 0, 0, 0)) (cod_93 rfl) rfl rfl rfl ?_
    refine x_aldn (cod_93 rfl) rfl (pos_of ta0 (by decide)) ?_
    refine x_gf (kk := 1) (t := 0) (cod_93 rfl) ta0 (sq_c_1_1 ta0) rfl rfl ?_
    refine x_ic (p := ¬ a1 < (m a0 1)) (tgt := 32) (cod_93 rfl) (by decide) xn_ge (fun h => ?_) (fun h => ?_)
    · have H3 := H2.2 h
      refine x_s (q := (.iconst 0, 0, 0, 0)) (cod_93 rfl) rfl rfl rfl ?_
      refine x_retI (t := .int) (cod_93 rfl) rfl rfl rfl ?_
      exact H3
    · have H4 := H2.1 (Classical.not_not.mp h)
      refine x_s (q := (.iload_n 1, 0, 0, 0)) (cod_93 rfl) rfl rfl rfl ?_
      refine x_s (q := (.bipush 8, 0, 0, 0)) (cod_93 rfl) rfl rfl rfl ?_
      refine x_ic (p := ¬ a1 < 8) (tgt := 32) (cod_93 rfl) (by decide) xn_ge (fun h => ?_) (fun h => ?_)
      · have H5 := H4.2 h
        refine x_s (q := (.iconst 0, 0, 0, 0)) (cod_93 rfl) rfl rfl rfl ?_
        refine x_retI (t := .int) (cod_93 rfl) rfl rfl rfl ?_
        exact H5
      · have H6 := H4.1 (Classical.not_not.mp h)
        refine x_aldn (cod_93 rfl) rfl (pos_of ta0 (by decide)) ?_
        refine x_gc (kk := 0) (c := (a0 + 1)) (t := 1) (cod_93 rfl) ta0 (sq_c_1_0 ta0) rfl rfl ?_
        refine x_s (q := (.iload_n 1, 0, 0, 0)) (cod_93 rfl) rfl rfl rfl ?_
        obtain ⟨c7, H8⟩ := H6
        refine x_iald (cod_93 rfl) (sq_ac_1_0 ta0).s ((sq_ac_1_0 ta0).k c7.1 c7.2) ?_
        refine x_s (q := (.bipush 97, 0, 0, 0)) (cod_93 rfl) rfl rfl rfl ?_
        refine x_s (q := (.isub, 0, 0, 0)) (cod_93 rfl) rfl rfl rfl ?_
        refine x_s (q := (.iconst 1, 0, 0, 0)) (cod_93 rfl) rfl rfl rfl ?_
        refine x_s (q := (.iadd, 0, 0, 0)) (cod_93 rfl) rfl rfl rfl ?_
        refine x_go (tgt := 33) (cod_93 rfl) (by decide) ?_
        refine x_retI (t := .int) (cod_93 rfl) rfl rfl rfl ?_
        exact H8
theorem e93 {m : Mm} {K : Int → Mm → Prop} (a0 : Int) (a1 : Int) (ta0 : shp a0 = 21)
  (H : (a1 < 0 → K 0 m) ∧ (¬ a1 < 0 → (a1 < (m a0 1) → (a1 < 8 → (0 ≤ a1 ∧ a1 < 8) ∧ K (wr ((wr ((m (a0 + 1) a1) - 97)) + 1)) m) ∧ (¬ a1 < 8 → K 0 m)) ∧ (¬ a1 < (m a0 1) → K 0 m))) : TrI 93 [(1, a0), (0, a1)] m K := by
  exact w93_0 a0 a1 ta0 H
set_option maxRecDepth 100000 in
theorem w71_0 {m : Mm} {K : Int → Mm → Prop} (a0 : Int) (a1 : Int) (ta0 : shp a0 = 27)
  (H : (a1 < 0 → K 0 m) ∧ (¬ a1 < 0 → (a1 < (m a0 2) → (a1 < 6 → (0 ≤ a1 ∧ a1 < 6) ∧ K (m (a0 + 1) a1) m) ∧ (¬ a1 < 6 → K 0 m)) ∧ (¬ a1 < (m a0 2) → K 0 m))) : X 71 0 [(1, a0), (0, a1)] [] m (qI K) := by
  refine x_s (q := (.iload_n 1, 0, 0, 0)) (cod_71 rfl) rfl rfl rfl ?_
  refine x_if (p := a1 < 0) (tgt := 27) (cod_71 rfl) (by decide) xj_lt (fun h => ?_) (fun h => ?_)
  · have H1 := H.1 h
    refine x_s (q := (.iconst 0, 0, 0, 0)) (cod_71 rfl) rfl rfl rfl ?_
    refine x_retI (t := .int) (cod_71 rfl) rfl rfl rfl ?_
    exact H1
  · have H2 := H.2 h
    refine x_s (q := (.iload_n 1, 0, 0, 0)) (cod_71 rfl) rfl rfl rfl ?_
    refine x_aldn (cod_71 rfl) rfl (pos_of ta0 (by decide)) ?_
    refine x_gf (kk := 2) (t := 0) (cod_71 rfl) ta0 (sq_c_7_2 ta0) rfl rfl ?_
    refine x_ic (p := ¬ a1 < (m a0 2)) (tgt := 27) (cod_71 rfl) (by decide) xn_ge (fun h => ?_) (fun h => ?_)
    · have H3 := H2.2 h
      refine x_s (q := (.iconst 0, 0, 0, 0)) (cod_71 rfl) rfl rfl rfl ?_
      refine x_retI (t := .int) (cod_71 rfl) rfl rfl rfl ?_
      exact H3
    · have H4 := H2.1 (Classical.not_not.mp h)
      refine x_s (q := (.iload_n 1, 0, 0, 0)) (cod_71 rfl) rfl rfl rfl ?_
      refine x_s (q := (.bipush 6, 0, 0, 0)) (cod_71 rfl) rfl rfl rfl ?_
      refine x_ic (p := ¬ a1 < 6) (tgt := 27) (cod_71 rfl) (by decide) xn_ge (fun h => ?_) (fun h => ?_)
      · have H5 := H4.2 h
        refine x_s (q := (.iconst 0, 0, 0, 0)) (cod_71 rfl) rfl rfl rfl ?_
        refine x_retI (t := .int) (cod_71 rfl) rfl rfl rfl ?_
        exact H5
      · have H6 := H4.1 (Classical.not_not.mp h)
        refine x_aldn (cod_71 rfl) rfl (pos_of ta0 (by decide)) ?_
        refine x_gc (kk := 0) (c := (a0 + 1)) (t := 1) (cod_71 rfl) ta0 (sq_c_7_0 ta0) rfl rfl ?_
        refine x_s (q := (.iload_n 1, 0, 0, 0)) (cod_71 rfl) rfl rfl rfl ?_
        obtain ⟨c7, H8⟩ := H6
        refine x_iald (cod_71 rfl) (sq_ac_7_0 ta0).s ((sq_ac_7_0 ta0).k c7.1 c7.2) ?_
        refine x_go (tgt := 28) (cod_71 rfl) (by decide) ?_
        refine x_retI (t := .int) (cod_71 rfl) rfl rfl rfl ?_
        exact H8
theorem e71 {m : Mm} {K : Int → Mm → Prop} (a0 : Int) (a1 : Int) (ta0 : shp a0 = 27)
  (H : (a1 < 0 → K 0 m) ∧ (¬ a1 < 0 → (a1 < (m a0 2) → (a1 < 6 → (0 ≤ a1 ∧ a1 < 6) ∧ K (m (a0 + 1) a1) m) ∧ (¬ a1 < 6 → K 0 m)) ∧ (¬ a1 < (m a0 2) → K 0 m))) : TrI 71 [(1, a0), (0, a1)] m K := by
  exact w71_0 a0 a1 ta0 H
set_option maxRecDepth 100000 in
theorem w72_0 {m : Mm} {K : Int → Mm → Prop} (a0 : Int) (a1 : Int) (ta0 : shp a0 = 21)
  (H : (a1 < 0 → K 0 m) ∧ (¬ a1 < 0 → (a1 < (m a0 1) → (a1 < 8 → (0 ≤ a1 ∧ a1 < 8) ∧ K (m (a0 + 1) a1) m) ∧ (¬ a1 < 8 → K 0 m)) ∧ (¬ a1 < (m a0 1) → K 0 m))) : X 72 0 [(1, a0), (0, a1)] [] m (qI K) := by
  refine x_s (q := (.iload_n 1, 0, 0, 0)) (cod_72 rfl) rfl rfl rfl ?_
  refine x_if (p := a1 < 0) (tgt := 27) (cod_72 rfl) (by decide) xj_lt (fun h => ?_) (fun h => ?_)
  · have H1 := H.1 h
    refine x_s (q := (.iconst 0, 0, 0, 0)) (cod_72 rfl) rfl rfl rfl ?_
    refine x_retI (t := .int) (cod_72 rfl) rfl rfl rfl ?_
    exact H1
  · have H2 := H.2 h
    refine x_s (q := (.iload_n 1, 0, 0, 0)) (cod_72 rfl) rfl rfl rfl ?_
    refine x_aldn (cod_72 rfl) rfl (pos_of ta0 (by decide)) ?_
    refine x_gf (kk := 1) (t := 0) (cod_72 rfl) ta0 (sq_c_1_1 ta0) rfl rfl ?_
    refine x_ic (p := ¬ a1 < (m a0 1)) (tgt := 27) (cod_72 rfl) (by decide) xn_ge (fun h => ?_) (fun h => ?_)
    · have H3 := H2.2 h
      refine x_s (q := (.iconst 0, 0, 0, 0)) (cod_72 rfl) rfl rfl rfl ?_
      refine x_retI (t := .int) (cod_72 rfl) rfl rfl rfl ?_
      exact H3
    · have H4 := H2.1 (Classical.not_not.mp h)
      refine x_s (q := (.iload_n 1, 0, 0, 0)) (cod_72 rfl) rfl rfl rfl ?_
      refine x_s (q := (.bipush 8, 0, 0, 0)) (cod_72 rfl) rfl rfl rfl ?_
      refine x_ic (p := ¬ a1 < 8) (tgt := 27) (cod_72 rfl) (by decide) xn_ge (fun h => ?_) (fun h => ?_)
      · have H5 := H4.2 h
        refine x_s (q := (.iconst 0, 0, 0, 0)) (cod_72 rfl) rfl rfl rfl ?_
        refine x_retI (t := .int) (cod_72 rfl) rfl rfl rfl ?_
        exact H5
      · have H6 := H4.1 (Classical.not_not.mp h)
        refine x_aldn (cod_72 rfl) rfl (pos_of ta0 (by decide)) ?_
        refine x_gc (kk := 0) (c := (a0 + 1)) (t := 1) (cod_72 rfl) ta0 (sq_c_1_0 ta0) rfl rfl ?_
        refine x_s (q := (.iload_n 1, 0, 0, 0)) (cod_72 rfl) rfl rfl rfl ?_
        obtain ⟨c7, H8⟩ := H6
        refine x_iald (cod_72 rfl) (sq_ac_1_0 ta0).s ((sq_ac_1_0 ta0).k c7.1 c7.2) ?_
        refine x_go (tgt := 28) (cod_72 rfl) (by decide) ?_
        refine x_retI (t := .int) (cod_72 rfl) rfl rfl rfl ?_
        exact H8
theorem e72 {m : Mm} {K : Int → Mm → Prop} (a0 : Int) (a1 : Int) (ta0 : shp a0 = 21)
  (H : (a1 < 0 → K 0 m) ∧ (¬ a1 < 0 → (a1 < (m a0 1) → (a1 < 8 → (0 ≤ a1 ∧ a1 < 8) ∧ K (m (a0 + 1) a1) m) ∧ (¬ a1 < 8 → K 0 m)) ∧ (¬ a1 < (m a0 1) → K 0 m))) : TrI 72 [(1, a0), (0, a1)] m K := by
  exact w72_0 a0 a1 ta0 H
set_option maxRecDepth 100000 in
theorem w132_0 {m : Mm} {K : Int → Mm → Prop} (a0 : Int) (a1 : Int) (ta0 : shp a0 = 30)
  (H : (a1 = 0 → K 268435455 m) ∧ (¬ a1 = 0 → (0 ≤ (wr (a1 - 1)) ∧ (wr (a1 - 1)) < 24) ∧ K (m (a0 + 6 + 2 * (wr (a1 - 1))) 6) m)) : X 132 0 [(1, a0), (0, a1)] [] m (qI K) := by
  refine x_s (q := (.iload_n 1, 0, 0, 0)) (cod_132 rfl) rfl rfl rfl ?_
  refine x_if (p := ¬ a1 = 0) (tgt := 9) (cod_132 rfl) (by decide) xj_ne (fun h => ?_) (fun h => ?_)
  · have H1 := H.2 h
    refine x_aldn (cod_132 rfl) rfl (pos_of ta0 (by decide)) ?_
    refine x_gc (kk := 0) (c := (a0 + 1)) (t := 1) (cod_132 rfl) ta0 (sq_c_10_0 ta0) rfl rfl ?_
    refine x_s (q := (.iload_n 1, 0, 0, 0)) (cod_132 rfl) rfl rfl rfl ?_
    refine x_s (q := (.iconst 1, 0, 0, 0)) (cod_132 rfl) rfl rfl rfl ?_
    refine x_s (q := (.isub, 0, 0, 0)) (cod_132 rfl) rfl rfl rfl ?_
    obtain ⟨c3, H4⟩ := H1
    refine x_aaldc (c := (a0 + 6 + 2 * (wr (a1 - 1)))) (cod_132 rfl) (by rw [(sq_oa_10_0 ta0 c3.1 c3.2).2.1]; decide) (sq_oa_10_0 ta0 c3.1 c3.2).1 ?_
    refine x_gf (kk := 6) (t := 0) (cod_132 rfl) (sq_oa_10_0 ta0 c3.1 c3.2).2.2 (sq_c_7_6 (sq_oa_10_0 ta0 c3.1 c3.2).2.2) rfl rfl ?_
    refine x_retI (t := .int) (cod_132 rfl) rfl rfl rfl ?_
    exact H4
  · have H2 := H.1 (Classical.not_not.mp h)
    refine x_s (q := (.ldc 118, 268435455, 0, 0)) (cod_132 rfl) rfl rfl rfl ?_
    refine x_go (tgt := 20) (cod_132 rfl) (by decide) ?_
    refine x_retI (t := .int) (cod_132 rfl) rfl rfl rfl ?_
    exact H2
theorem e132 {m : Mm} {K : Int → Mm → Prop} (a0 : Int) (a1 : Int) (ta0 : shp a0 = 30)
  (H : (a1 = 0 → K 268435455 m) ∧ (¬ a1 = 0 → (0 ≤ (wr (a1 - 1)) ∧ (wr (a1 - 1)) < 24) ∧ K (m (a0 + 6 + 2 * (wr (a1 - 1))) 6) m)) : TrI 132 [(1, a0), (0, a1)] m K := by
  exact w132_0 a0 a1 ta0 H
set_option maxRecDepth 100000 in
theorem w203_0 {m : Mm} {K : Int → Mm → Prop} (a1 : Int) 
  (H : (0 ≤ (wr (0 + a1)) ∧ (wr (0 + a1)) < 1276) ∧ m 597 16 = 0 ∧ (0 ≤ (wr (24 + a1)) ∧ (wr (24 + a1)) < 1276) ∧ ((wr ((m 607 (wr (0 + a1))) - (wr ((m 602 581) * (m 607 (wr (24 + a1))))))) < 0 → K 0 m) ∧ (¬ (wr ((m 607 (wr (0 + a1))) - (wr ((m 602 581) * (m 607 (wr (24 + a1))))))) < 0 → K (wr ((m 607 (wr (0 + a1))) - (wr ((m 602 581) * (m 607 (wr (24 + a1))))))) m)) : X 203 0 [(1, 597), (0, a1), (9, 0)] [] m (qI K) := by
  refine x_s (q := (.aload_n 0, 0, 0, 0)) (cod_203 rfl) rfl rfl rfl ?_
  refine x_s (q := (.iconst 0, 0, 0, 0)) (cod_203 rfl) rfl rfl rfl ?_
  refine x_s (q := (.iload_n 1, 0, 0, 0)) (cod_203 rfl) rfl rfl rfl ?_
  refine x_s (q := (.iadd, 0, 0, 0)) (cod_203 rfl) rfl rfl rfl ?_
  refine x_call (as := [(1, 597), (0, wr (0 + a1))]) (rest := []) (cod_203 rfl) rfl rfl (by decide) (by decide) rfl rfl (Nat.le_of_ble_eq_true rfl) (rcv0 sq_l_597_0 sq_p_597 (by decide)) (Nat.le_of_ble_eq_true rfl) ?_
  show X 197 0 [(1, 597), (0, wr (0 + a1))] [] m _
  refine x_s (q := (.aload_n 0, 0, 0, 0)) (cod_197 rfl) rfl rfl rfl ?_
  refine x_gc (kk := 24) (c := 607) (t := 1) (cod_197 rfl) sq_p_597 sq_l_597_24 rfl rfl ?_
  refine x_s (q := (.iload_n 1, 0, 0, 0)) (cod_197 rfl) rfl rfl rfl ?_
  obtain ⟨c1, H2⟩ := H
  refine x_iald (cod_197 rfl) sq_a_607.s (sq_a_607.k c1.1 c1.2) ?_
  refine x_rI (t := .int) (cod_197 rfl) rfl rfl rfl ?_
  show X 203 7 [(1, 597), (0, a1), (9, 0)] [(0, m 607 (wr (0 + a1)))] m _
  refine x_s (q := (.aload_n 0, 0, 0, 0)) (cod_203 rfl) rfl rfl rfl ?_
  refine x_s (q := (.sipush 581, 0, 0, 0)) (cod_203 rfl) rfl rfl rfl ?_
  obtain ⟨c3, H4⟩ := H2
  refine x_call (as := [(1, 597), (0, 581)]) (rest := [(0, m 607 (wr (0 + a1)))]) (cod_203 rfl) rfl rfl (by decide) (by decide) rfl rfl (Nat.le_of_ble_eq_true rfl) (rcv0 sq_l_597_0 sq_p_597 (by decide)) (Nat.le_of_ble_eq_true rfl) ?_
  refine x_pure (p182a (by decide) c3) ?_
  show X 203 14 [(1, 597), (0, a1), (9, 0)] [(0, m 602 581), (0, m 607 (wr (0 + a1)))] m _
  refine x_s (q := (.aload_n 0, 0, 0, 0)) (cod_203 rfl) rfl rfl rfl ?_
  refine x_s (q := (.bipush 24, 0, 0, 0)) (cod_203 rfl) rfl rfl rfl ?_
  refine x_s (q := (.iload_n 1, 0, 0, 0)) (cod_203 rfl) rfl rfl rfl ?_
  refine x_s (q := (.iadd, 0, 0, 0)) (cod_203 rfl) rfl rfl rfl ?_
  refine x_call (as := [(1, 597), (0, wr (24 + a1))]) (rest := [(0, m 602 581), (0, m 607 (wr (0 + a1)))]) (cod_203 rfl) rfl rfl (by decide) (by decide) rfl rfl (Nat.le_of_ble_eq_true rfl) (rcv0 sq_l_597_0 sq_p_597 (by decide)) (Nat.le_of_ble_eq_true rfl) ?_
  show X 197 0 [(1, 597), (0, wr (24 + a1))] [] m _
  refine x_s (q := (.aload_n 0, 0, 0, 0)) (cod_197 rfl) rfl rfl rfl ?_
  refine x_gc (kk := 24) (c := 607) (t := 1) (cod_197 rfl) sq_p_597 sq_l_597_24 rfl rfl ?_
  refine x_s (q := (.iload_n 1, 0, 0, 0)) (cod_197 rfl) rfl rfl rfl ?_
  obtain ⟨c5, H6⟩ := H4
  refine x_iald (cod_197 rfl) sq_a_607.s (sq_a_607.k c5.1 c5.2) ?_
  refine x_rI (t := .int) (cod_197 rfl) rfl rfl rfl ?_
  show X 203 22 [(1, 597), (0, a1), (9, 0)] [(0, m 607 (wr (24 + a1))), (0, m 602 581), (0, m 607 (wr (0 + a1)))] m _
  refine x_s (q := (.imul, 0, 0, 0)) (cod_203 rfl) rfl rfl rfl ?_
  refine x_s (q := (.isub, 0, 0, 0)) (cod_203 rfl) rfl rfl rfl ?_
  refine x_s (q := (.istore_n 2, 0, 0, 0)) (cod_203 rfl) rfl rfl rfl ?_
  refine x_s (q := (.iload_n 2, 0, 0, 0)) (cod_203 rfl) rfl rfl rfl ?_
  refine x_if (p := ¬ (wr ((m 607 (wr (0 + a1))) - (wr ((m 602 581) * (m 607 (wr (24 + a1))))))) < 0) (tgt := 33) (cod_203 rfl) (by decide) xn_ge (fun h => ?_) (fun h => ?_)
  · have H7 := H6.2 h
    refine x_s (q := (.iload_n 2, 0, 0, 0)) (cod_203 rfl) rfl rfl rfl ?_
    refine x_retI (t := .int) (cod_203 rfl) rfl rfl rfl ?_
    exact H7
  · have H8 := H6.1 (Classical.not_not.mp h)
    refine x_s (q := (.iconst 0, 0, 0, 0)) (cod_203 rfl) rfl rfl rfl ?_
    refine x_go (tgt := 34) (cod_203 rfl) (by decide) ?_
    refine x_retI (t := .int) (cod_203 rfl) rfl rfl rfl ?_
    exact H8
theorem e203 {m : Mm} {K : Int → Mm → Prop} (a1 : Int) 
  (H : (0 ≤ (wr (0 + a1)) ∧ (wr (0 + a1)) < 1276) ∧ m 597 16 = 0 ∧ (0 ≤ (wr (24 + a1)) ∧ (wr (24 + a1)) < 1276) ∧ ((wr ((m 607 (wr (0 + a1))) - (wr ((m 602 581) * (m 607 (wr (24 + a1))))))) < 0 → K 0 m) ∧ (¬ (wr ((m 607 (wr (0 + a1))) - (wr ((m 602 581) * (m 607 (wr (24 + a1))))))) < 0 → K (wr ((m 607 (wr (0 + a1))) - (wr ((m 602 581) * (m 607 (wr (24 + a1))))))) m)) : TrI 203 [(1, 597), (0, a1)] m K := by
  exact w203_0 a1 H
set_option maxRecDepth 100000 in
theorem w220_0 {m : Mm} {K : Int → Mm → Prop} (a1 : Int) (a2 : Int) 
  (H : (m 597 16 = 0 ∧ 0 ≤ (wr ((wr (11 * a1)) + 1)) ∧ (wr ((wr (11 * a1)) + 1)) < 1166) ∧ ((m 602 (wr ((wr (11 * a1)) + 1))) = 0 → K a2 m) ∧ (¬ (m 602 (wr ((wr (11 * a1)) + 1))) = 0 → (m 597 16 = 0 ∧ 0 ≤ (wr ((wr ((wr (11 * a1)) + 5)) + (wr ((m 602 (wr ((wr (11 * a1)) + 1))) - 1)))) ∧ (wr ((wr ((wr (11 * a1)) + 5)) + (wr ((m 602 (wr ((wr (11 * a1)) + 1))) - 1)))) < 1166) ∧ K (m 602 (wr ((wr ((wr (11 * a1)) + 5)) + (wr ((m 602 (wr ((wr (11 * a1)) + 1))) - 1))))) m)) : X 220 0 [(1, 597), (0, a1), (0, a2), (9, 0)] [] m (qI K) := by
  refine x_s (q := (.aload_n 0, 0, 0, 0)) (cod_220 rfl) rfl rfl rfl ?_
  refine x_s (q := (.bipush 11, 0, 0, 0)) (cod_220 rfl) rfl rfl rfl ?_
  refine x_s (q := (.iload_n 1, 0, 0, 0)) (cod_220 rfl) rfl rfl rfl ?_
  refine x_s (q := (.imul, 0, 0, 0)) (cod_220 rfl) rfl rfl rfl ?_
  refine x_s (q := (.iconst 1, 0, 0, 0)) (cod_220 rfl) rfl rfl rfl ?_
  refine x_s (q := (.iadd, 0, 0, 0)) (cod_220 rfl) rfl rfl rfl ?_
  obtain ⟨c1, H2⟩ := H
  refine x_call (as := [(1, 597), (0, wr ((wr (11 * a1)) + 1))]) (rest := []) (cod_220 rfl) rfl rfl (by decide) (by decide) rfl rfl (Nat.le_of_ble_eq_true rfl) (rcv0 sq_l_597_0 sq_p_597 (by decide)) (Nat.le_of_ble_eq_true rfl) ?_
  refine x_pure (p182ax c1) ?_
  show X 220 10 [(1, 597), (0, a1), (0, a2), (9, 0)] [(0, m 602 (wr ((wr (11 * a1)) + 1)))] m _
  refine x_s (q := (.istore_n 3, 0, 0, 0)) (cod_220 rfl) rfl rfl rfl ?_
  refine x_s (q := (.iload_n 3, 0, 0, 0)) (cod_220 rfl) rfl rfl rfl ?_
  refine x_if (p := ¬ (m 602 (wr ((wr (11 * a1)) + 1))) = 0) (tgt := 19) (cod_220 rfl) (by decide) xj_ne (fun h => ?_) (fun h => ?_)
  · have H3 := H2.2 h
    refine x_s (q := (.aload_n 0, 0, 0, 0)) (cod_220 rfl) rfl rfl rfl ?_
    refine x_s (q := (.iload_n 1, 0, 0, 0)) (cod_220 rfl) rfl rfl rfl ?_
    refine x_s (q := (.iload_n 3, 0, 0, 0)) (cod_220 rfl) rfl rfl rfl ?_
    refine x_s (q := (.iconst 1, 0, 0, 0)) (cod_220 rfl) rfl rfl rfl ?_
    refine x_s (q := (.isub, 0, 0, 0)) (cod_220 rfl) rfl rfl rfl ?_
    refine x_call (as := [(1, 597), (0, a1), (0, wr ((m 602 (wr ((wr (11 * a1)) + 1))) - 1))]) (rest := []) (cod_220 rfl) rfl rfl (by decide) (by decide) rfl rfl (Nat.le_of_ble_eq_true rfl) (rcv0 sq_l_597_0 sq_p_597 (by decide)) (Nat.le_of_ble_eq_true rfl) ?_
    show X 207 0 [(1, 597), (0, a1), (0, wr ((m 602 (wr ((wr (11 * a1)) + 1))) - 1))] [] m _
    refine x_s (q := (.aload_n 0, 0, 0, 0)) (cod_207 rfl) rfl rfl rfl ?_
    refine x_s (q := (.bipush 11, 0, 0, 0)) (cod_207 rfl) rfl rfl rfl ?_
    refine x_s (q := (.iload_n 1, 0, 0, 0)) (cod_207 rfl) rfl rfl rfl ?_
    refine x_s (q := (.imul, 0, 0, 0)) (cod_207 rfl) rfl rfl rfl ?_
    refine x_s (q := (.iconst 5, 0, 0, 0)) (cod_207 rfl) rfl rfl rfl ?_
    refine x_s (q := (.iadd, 0, 0, 0)) (cod_207 rfl) rfl rfl rfl ?_
    refine x_s (q := (.iload_n 2, 0, 0, 0)) (cod_207 rfl) rfl rfl rfl ?_
    refine x_s (q := (.iadd, 0, 0, 0)) (cod_207 rfl) rfl rfl rfl ?_
    obtain ⟨c5, H6⟩ := H3
    refine x_call (as := [(1, 597), (0, wr ((wr ((wr (11 * a1)) + 5)) + (wr ((m 602 (wr ((wr (11 * a1)) + 1))) - 1))))]) (rest := []) (cod_207 rfl) rfl rfl (by decide) (by decide) rfl rfl (Nat.le_of_ble_eq_true rfl) (rcv0 sq_l_597_0 sq_p_597 (by decide)) (Nat.le_of_ble_eq_true rfl) ?_
    refine x_pure (p182ax c5) ?_
    show X 207 12 [(1, 597), (0, a1), (0, wr ((m 602 (wr ((wr (11 * a1)) + 1))) - 1))] [(0, m 602 (wr ((wr ((wr (11 * a1)) + 5)) + (wr ((m 602 (wr ((wr (11 * a1)) + 1))) - 1)))))] m _
    refine x_rI (t := .int) (cod_207 rfl) rfl rfl rfl ?_
    show X 220 27 [(1, 597), (0, a1), (0, a2), (0, m 602 (wr ((wr (11 * a1)) + 1)))] [(0, m 602 (wr ((wr ((wr (11 * a1)) + 5)) + (wr ((m 602 (wr ((wr (11 * a1)) + 1))) - 1)))))] m _
    refine x_retI (t := .int) (cod_220 rfl) rfl rfl rfl ?_
    exact H6
  · have H4 := H2.1 (Classical.not_not.mp h)
    refine x_s (q := (.iload_n 2, 0, 0, 0)) (cod_220 rfl) rfl rfl rfl ?_
    refine x_go (tgt := 27) (cod_220 rfl) (by decide) ?_
    refine x_retI (t := .int) (cod_220 rfl) rfl rfl rfl ?_
    exact H4
theorem e220 {m : Mm} {K : Int → Mm → Prop} (a1 : Int) (a2 : Int) 
  (H : (m 597 16 = 0 ∧ 0 ≤ (wr ((wr (11 * a1)) + 1)) ∧ (wr ((wr (11 * a1)) + 1)) < 1166) ∧ ((m 602 (wr ((wr (11 * a1)) + 1))) = 0 → K a2 m) ∧ (¬ (m 602 (wr ((wr (11 * a1)) + 1))) = 0 → (m 597 16 = 0 ∧ 0 ≤ (wr ((wr ((wr (11 * a1)) + 5)) + (wr ((m 602 (wr ((wr (11 * a1)) + 1))) - 1)))) ∧ (wr ((wr ((wr (11 * a1)) + 5)) + (wr ((m 602 (wr ((wr (11 * a1)) + 1))) - 1)))) < 1166) ∧ K (m 602 (wr ((wr ((wr (11 * a1)) + 5)) + (wr ((m 602 (wr ((wr (11 * a1)) + 1))) - 1))))) m)) : TrI 220 [(1, 597), (0, a1), (0, a2)] m K := by
  exact w220_0 a1 a2 H
set_option maxRecDepth 100000 in
theorem w230_0 {m : Mm} {K : Int → Mm → Prop} (a1 : Int) (a2 : Int) 
  (H : (a2 = 0 → K (-1) m) ∧ (¬ a2 = 0 → (m 597 16 = 0 ∧ 0 ≤ (wr ((wr ((wr (264 + (wr (11 * a1)))) + 3)) + (wr (a2 - 1)))) ∧ (wr ((wr ((wr (264 + (wr (11 * a1)))) + 3)) + (wr (a2 - 1)))) < 1166) ∧ K (m 602 (wr ((wr ((wr (264 + (wr (11 * a1)))) + 3)) + (wr (a2 - 1))))) m)) : X 230 0 [(1, 597), (0, a1), (0, a2)] [] m (qI K) := by
  refine x_s (q := (.iload_n 2, 0, 0, 0)) (cod_230 rfl) rfl rfl rfl ?_
  refine x_if (p := ¬ a2 = 0) (tgt := 8) (cod_230 rfl) (by decide) xj_ne (fun h => ?_) (fun h => ?_)
  · have H1 := H.2 h
    refine x_s (q := (.aload_n 0, 0, 0, 0)) (cod_230 rfl) rfl rfl rfl ?_
    refine x_s (q := (.iload_n 1, 0, 0, 0)) (cod_230 rfl) rfl rfl rfl ?_
    refine x_s (q := (.iload_n 2, 0, 0, 0)) (cod_230 rfl) rfl rfl rfl ?_
    refine x_s (q := (.iconst 1, 0, 0, 0)) (cod_230 rfl) rfl rfl rfl ?_
    refine x_s (q := (.isub, 0, 0, 0)) (cod_230 rfl) rfl rfl rfl ?_
    refine x_call (as := [(1, 597), (0, a1), (0, wr (a2 - 1))]) (rest := []) (cod_230 rfl) rfl rfl (by decide) (by decide) rfl rfl (Nat.le_of_ble_eq_true rfl) (rcv0 sq_l_597_0 sq_p_597 (by decide)) (Nat.le_of_ble_eq_true rfl) ?_
    show X 208 0 [(1, 597), (0, a1), (0, wr (a2 - 1))] [] m _
    refine x_s (q := (.aload_n 0, 0, 0, 0)) (cod_208 rfl) rfl rfl rfl ?_
    refine x_s (q := (.sipush 264, 0, 0, 0)) (cod_208 rfl) rfl rfl rfl ?_
    refine x_s (q := (.bipush 11, 0, 0, 0)) (cod_208 rfl) rfl rfl rfl ?_
    refine x_s (q := (.iload_n 1, 0, 0, 0)) (cod_208 rfl) rfl rfl rfl ?_
    refine x_s (q := (.imul, 0, 0, 0)) (cod_208 rfl) rfl rfl rfl ?_
    refine x_s (q := (.iadd, 0, 0, 0)) (cod_208 rfl) rfl rfl rfl ?_
    refine x_s (q := (.iconst 3, 0, 0, 0)) (cod_208 rfl) rfl rfl rfl ?_
    refine x_s (q := (.iadd, 0, 0, 0)) (cod_208 rfl) rfl rfl rfl ?_
    refine x_s (q := (.iload_n 2, 0, 0, 0)) (cod_208 rfl) rfl rfl rfl ?_
    refine x_s (q := (.iadd, 0, 0, 0)) (cod_208 rfl) rfl rfl rfl ?_
    obtain ⟨c3, H4⟩ := H1
    refine x_call (as := [(1, 597), (0, wr ((wr ((wr (264 + (wr (11 * a1)))) + 3)) + (wr (a2 - 1))))]) (rest := []) (cod_208 rfl) rfl rfl (by decide) (by decide) rfl rfl (Nat.le_of_ble_eq_true rfl) (rcv0 sq_l_597_0 sq_p_597 (by decide)) (Nat.le_of_ble_eq_true rfl) ?_
    refine x_pure (p182ax c3) ?_
    show X 208 16 [(1, 597), (0, a1), (0, wr (a2 - 1))] [(0, m 602 (wr ((wr ((wr (264 + (wr (11 * a1)))) + 3)) + (wr (a2 - 1)))))] m _
    refine x_rI (t := .int) (cod_208 rfl) rfl rfl rfl ?_
    show X 230 16 [(1, 597), (0, a1), (0, a2)] [(0, m 602 (wr ((wr ((wr (264 + (wr (11 * a1)))) + 3)) + (wr (a2 - 1)))))] m _
    refine x_retI (t := .int) (cod_230 rfl) rfl rfl rfl ?_
    exact H4
  · have H2 := H.1 (Classical.not_not.mp h)
    refine x_s (q := (.iconst (-1), 0, 0, 0)) (cod_230 rfl) rfl rfl rfl ?_
    refine x_go (tgt := 16) (cod_230 rfl) (by decide) ?_
    refine x_retI (t := .int) (cod_230 rfl) rfl rfl rfl ?_
    exact H2
theorem e230 {m : Mm} {K : Int → Mm → Prop} (a1 : Int) (a2 : Int) 
  (H : (a2 = 0 → K (-1) m) ∧ (¬ a2 = 0 → (m 597 16 = 0 ∧ 0 ≤ (wr ((wr ((wr (264 + (wr (11 * a1)))) + 3)) + (wr (a2 - 1)))) ∧ (wr ((wr ((wr (264 + (wr (11 * a1)))) + 3)) + (wr (a2 - 1)))) < 1166) ∧ K (m 602 (wr ((wr ((wr (264 + (wr (11 * a1)))) + 3)) + (wr (a2 - 1))))) m)) : TrI 230 [(1, 597), (0, a1), (0, a2)] m K := by
  exact w230_0 a1 a2 H
set_option maxRecDepth 100000 in
theorem w78_0 {m : Mm} {K : Int → Mm → Prop} (a0 : Int) (a1 : Int) (a2 : Int) (ta0 : shp a0 = 22)
  (H : (0 ≤ a1 ∧ a1 < 24) ∧ K (max 0 (wr ((m (a0 + 1) a1) - (wr (a2 * (m (a0 + 2) a1)))))) m) : X 78 0 [(1, a0), (0, a1), (0, a2)] [] m (qI K) := by
  refine x_s (q := (.iconst 0, 0, 0, 0)) (cod_78 rfl) rfl rfl rfl ?_
  refine x_aldn (cod_78 rfl) rfl (pos_of ta0 (by decide)) ?_
  refine x_gc (kk := 0) (c := (a0 + 1)) (t := 1) (cod_78 rfl) ta0 (sq_c_2_0 ta0) rfl rfl ?_
  refine x_s (q := (.iload_n 1, 0, 0, 0)) (cod_78 rfl) rfl rfl rfl ?_
  obtain ⟨c1, H2⟩ := H
  refine x_iald (cod_78 rfl) (sq_ac_2_0 ta0).s ((sq_ac_2_0 ta0).k c1.1 c1.2) ?_
  refine x_s (q := (.iload_n 2, 0, 0, 0)) (cod_78 rfl) rfl rfl rfl ?_
  refine x_aldn (cod_78 rfl) rfl (pos_of ta0 (by decide)) ?_
  refine x_gc (kk := 1) (c := (a0 + 2)) (t := 1) (cod_78 rfl) ta0 (sq_c_2_1 ta0) rfl rfl ?_
  refine x_s (q := (.iload_n 1, 0, 0, 0)) (cod_78 rfl) rfl rfl rfl ?_
  refine x_iald (cod_78 rfl) (sq_ac_2_1 ta0).s ((sq_ac_2_1 ta0).k c1.1 c1.2) ?_
  refine x_s (q := (.imul, 0, 0, 0)) (cod_78 rfl) rfl rfl rfl ?_
  refine x_s (q := (.isub, 0, 0, 0)) (cod_78 rfl) rfl rfl rfl ?_
  refine x_m8 (cod_78 rfl) rfl rfl (Nat.le_of_ble_eq_true rfl) ?_
  refine x_retI (t := .int) (cod_78 rfl) rfl rfl rfl ?_
  exact H2
theorem e78 {m : Mm} {K : Int → Mm → Prop} (a0 : Int) (a1 : Int) (a2 : Int) (ta0 : shp a0 = 22)
  (H : (0 ≤ a1 ∧ a1 < 24) ∧ K (max 0 (wr ((m (a0 + 1) a1) - (wr (a2 * (m (a0 + 2) a1)))))) m) : TrI 78 [(1, a0), (0, a1), (0, a2)] m K := by
  exact w78_0 a0 a1 a2 ta0 H
set_option maxRecDepth 100000 in
theorem w61_0 {m : Mm} {K : Int → Mm → Prop} (a0 : Int) (ta0 : shp a0 = 24)
  (H : ((m a0 4) > 0 → (0 ≤ (wr ((m a0 4) - 1)) ∧ (wr ((m a0 4) - 1)) < 10) ∧ ((m (a0 + 1) (wr ((m a0 4) - 1))) < 10 → K 0 m) ∧ (¬ (m (a0 + 1) (wr ((m a0 4) - 1))) < 10 → K 1 m)) ∧ (¬ (m a0 4) > 0 → K 0 m)) : X 61 0 [(1, a0)] [] m (qI K) := by
  refine x_aldn (cod_61 rfl) rfl (pos_of ta0 (by decide)) ?_
  refine x_gf (kk := 4) (t := 0) (cod_61 rfl) ta0 (sq_c_4_4 ta0) rfl rfl ?_
  refine x_if (p := ¬ (m a0 4) > 0) (tgt := 27) (cod_61 rfl) (by decide) xn_le (fun h => ?_) (fun h => ?_)
  · have H1 := H.2 h
    refine x_s (q := (.iconst 0, 0, 0, 0)) (cod_61 rfl) rfl rfl rfl ?_
    refine x_retI (t := .boolean) (cod_61 rfl) rfl rfl rfl ?_
    exact H1
  · have H2 := H.1 (Classical.not_not.mp h)
    refine x_aldn (cod_61 rfl) rfl (pos_of ta0 (by decide)) ?_
    refine x_gc (kk := 0) (c := (a0 + 1)) (t := 1) (cod_61 rfl) ta0 (sq_c_4_0 ta0) rfl rfl ?_
    refine x_aldn (cod_61 rfl) rfl (pos_of ta0 (by decide)) ?_
    refine x_gf (kk := 4) (t := 0) (cod_61 rfl) ta0 (sq_c_4_4 ta0) rfl rfl ?_
    refine x_s (q := (.iconst 1, 0, 0, 0)) (cod_61 rfl) rfl rfl rfl ?_
    refine x_s (q := (.isub, 0, 0, 0)) (cod_61 rfl) rfl rfl rfl ?_
    obtain ⟨c3, H4⟩ := H2
    refine x_iald (cod_61 rfl) (sq_ac_4_0 ta0).s ((sq_ac_4_0 ta0).k c3.1 c3.2) ?_
    refine x_s (q := (.bipush 10, 0, 0, 0)) (cod_61 rfl) rfl rfl rfl ?_
    refine x_ic (p := (m (a0 + 1) (wr ((m a0 4) - 1))) < 10) (tgt := 27) (cod_61 rfl) (by decide) xj_lt (fun h => ?_) (fun h => ?_)
    · have H5 := H4.1 h
      refine x_s (q := (.iconst 0, 0, 0, 0)) (cod_61 rfl) rfl rfl rfl ?_
      refine x_retI (t := .boolean) (cod_61 rfl) rfl rfl rfl ?_
      exact H5
    · have H6 := H4.2 h
      refine x_s (q := (.iconst 1, 0, 0, 0)) (cod_61 rfl) rfl rfl rfl ?_
      refine x_go (tgt := 28) (cod_61 rfl) (by decide) ?_
      refine x_retI (t := .boolean) (cod_61 rfl) rfl rfl rfl ?_
      exact H6
theorem e61 {m : Mm} {K : Int → Mm → Prop} (a0 : Int) (ta0 : shp a0 = 24)
  (H : ((m a0 4) > 0 → (0 ≤ (wr ((m a0 4) - 1)) ∧ (wr ((m a0 4) - 1)) < 10) ∧ ((m (a0 + 1) (wr ((m a0 4) - 1))) < 10 → K 0 m) ∧ (¬ (m (a0 + 1) (wr ((m a0 4) - 1))) < 10 → K 1 m)) ∧ (¬ (m a0 4) > 0 → K 0 m)) : TrI 61 [(1, a0)] m K := by
  exact w61_0 a0 ta0 H
set_option maxRecDepth 100000 in
theorem w62_0 {m : Mm} {K : Int → Mm → Prop} (a0 : Int) (ta0 : shp a0 = 24)
  (H : ((m a0 4) < 10 → K 0 m) ∧ (¬ (m a0 4) < 10 → K 1 m)) : X 62 0 [(1, a0)] [] m (qI K) := by
  refine x_aldn (cod_62 rfl) rfl (pos_of ta0 (by decide)) ?_
  refine x_gf (kk := 4) (t := 0) (cod_62 rfl) ta0 (sq_c_4_4 ta0) rfl rfl ?_
  refine x_s (q := (.bipush 10, 0, 0, 0)) (cod_62 rfl) rfl rfl rfl ?_
  refine x_ic (p := (m a0 4) < 10) (tgt := 13) (cod_62 rfl) (by decide) xj_lt (fun h => ?_) (fun h => ?_)
  · have H1 := H.1 h
    refine x_s (q := (.iconst 0, 0, 0, 0)) (cod_62 rfl) rfl rfl rfl ?_
    refine x_retI (t := .boolean) (cod_62 rfl) rfl rfl rfl ?_
    exact H1
  · have H2 := H.2 h
    refine x_s (q := (.iconst 1, 0, 0, 0)) (cod_62 rfl) rfl rfl rfl ?_
    refine x_go (tgt := 14) (cod_62 rfl) (by decide) ?_
    refine x_retI (t := .boolean) (cod_62 rfl) rfl rfl rfl ?_
    exact H2
theorem e62 {m : Mm} {K : Int → Mm → Prop} (a0 : Int) (ta0 : shp a0 = 24)
  (H : ((m a0 4) < 10 → K 0 m) ∧ (¬ (m a0 4) < 10 → K 1 m)) : TrI 62 [(1, a0)] m K := by
  exact w62_0 a0 ta0 H
