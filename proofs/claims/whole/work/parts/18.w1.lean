/-! rules of small methods: printed by wip/whole/l2.py -/
theorem sq_p_1 : shp 1 = 31 := by decide +kernel
theorem sq_l_1_3 : slot 1 3 = some none := by decide +kernel
theorem sq_c_10_5 {x : Int} (h : shp x = 30) : slot x 5 = some none := (by decide +kernel : ∀ x ∈ cl_30, slot x 5 = some none) x (in_30 h)
theorem sq_c_10_6 {x : Int} (h : shp x = 30) : slot x 6 = some none := (by decide +kernel : ∀ x ∈ cl_30, slot x 6 = some none) x (in_30 h)
theorem sq_l_1_5 : slot 1 5 = some none := by decide +kernel
theorem sq_c_4_4 {x : Int} (h : shp x = 24) : slot x 4 = some none := (by decide +kernel : ∀ x ∈ cl_24, slot x 4 = some none) x (in_24 h)
theorem sq_p_597 : shp 597 = 32 := by decide +kernel
theorem sq_l_597_15 : slot 597 15 = some (some 602) := by decide +kernel
theorem sq_l_597_16 : slot 597 16 = some none := by decide +kernel
theorem sq_a_602 : isA 602 0 1166 := ⟨by decide, by decide +kernel⟩
set_option maxRecDepth 100000 in
theorem w20_0 {m : Mm} {K : Int → Mm → Prop} (a0 : Int) 
  (H : (a0 = 10 → K 1 m) ∧ (¬ a0 = 10 → (a0 = 32 → K 1 m) ∧ (¬ a0 = 32 → K 0 m))) : X 20 0 [(0, a0)] [] m (qI K) := by
  refine x_s (q := (.iload_n 0, 0, 0, 0)) (cod_20 rfl) rfl rfl rfl ?_
  refine x_s (q := (.bipush 10, 0, 0, 0)) (cod_20 rfl) rfl rfl rfl ?_
  refine x_ic (p := a0 = 10) (tgt := 12) (cod_20 rfl) (by decide) xj_eq (fun h => ?_) (fun h => ?_)
  · have H1 := H.1 h
    refine x_s (q := (.iconst 1, 0, 0, 0)) (cod_20 rfl) rfl rfl rfl ?_
    refine x_go (tgt := 17) (cod_20 rfl) (by decide) ?_
    refine x_retI (t := .boolean) (cod_20 rfl) rfl rfl rfl ?_
    exact H1
  · have H2 := H.2 h
    refine x_s (q := (.iload_n 0, 0, 0, 0)) (cod_20 rfl) rfl rfl rfl ?_
    refine x_s (q := (.bipush 32, 0, 0, 0)) (cod_20 rfl) rfl rfl rfl ?_
    refine x_ic (p := ¬ a0 = 32) (tgt := 16) (cod_20 rfl) (by decide) xj_ne (fun h => ?_) (fun h => ?_)
    · have H3 := H2.2 h
      refine x_s (q := (.iconst 0, 0, 0, 0)) (cod_20 rfl) rfl rfl rfl ?_
      refine x_retI (t := .boolean) (cod_20 rfl) rfl rfl rfl ?_
      exact H3
    · have H4 := H2.1 (Classical.not_not.mp h)
      refine x_s (q := (.iconst 1, 0, 0, 0)) (cod_20 rfl) rfl rfl rfl ?_
      refine x_go (tgt := 17) (cod_20 rfl) (by decide) ?_
      refine x_retI (t := .boolean) (cod_20 rfl) rfl rfl rfl ?_
      exact H4
theorem e20 {m : Mm} {K : Int → Mm → Prop} (a0 : Int) 
  (H : (a0 = 10 → K 1 m) ∧ (¬ a0 = 10 → (a0 = 32 → K 1 m) ∧ (¬ a0 = 32 → K 0 m))) : TrI 20 [(0, a0)] m K := by
  exact w20_0 a0 H
set_option maxRecDepth 100000 in
theorem w21_0 {m : Mm} {K : Int → Mm → Prop} (a0 : Int) 
  (H : (a0 < 97 → K 0 m) ∧ (¬ a0 < 97 → (a0 > 122 → K 0 m) ∧ (¬ a0 > 122 → K 1 m))) : X 21 0 [(0, a0)] [] m (qI K) := by
  refine x_s (q := (.iload_n 0, 0, 0, 0)) (cod_21 rfl) rfl rfl rfl ?_
  refine x_s (q := (.bipush 97, 0, 0, 0)) (cod_21 rfl) rfl rfl rfl ?_
  refine x_ic (p := a0 < 97) (tgt := 16) (cod_21 rfl) (by decide) xj_lt (fun h => ?_) (fun h => ?_)
  · have H1 := H.1 h
    refine x_s (q := (.iconst 0, 0, 0, 0)) (cod_21 rfl) rfl rfl rfl ?_
    refine x_retI (t := .boolean) (cod_21 rfl) rfl rfl rfl ?_
    exact H1
  · have H2 := H.2 h
    refine x_s (q := (.iload_n 0, 0, 0, 0)) (cod_21 rfl) rfl rfl rfl ?_
    refine x_s (q := (.bipush 122, 0, 0, 0)) (cod_21 rfl) rfl rfl rfl ?_
    refine x_ic (p := a0 > 122) (tgt := 16) (cod_21 rfl) (by decide) xj_gt (fun h => ?_) (fun h => ?_)
    · have H3 := H2.1 h
      refine x_s (q := (.iconst 0, 0, 0, 0)) (cod_21 rfl) rfl rfl rfl ?_
      refine x_retI (t := .boolean) (cod_21 rfl) rfl rfl rfl ?_
      exact H3
    · have H4 := H2.2 h
      refine x_s (q := (.iconst 1, 0, 0, 0)) (cod_21 rfl) rfl rfl rfl ?_
      refine x_go (tgt := 17) (cod_21 rfl) (by decide) ?_
      refine x_retI (t := .boolean) (cod_21 rfl) rfl rfl rfl ?_
      exact H4
theorem e21 {m : Mm} {K : Int → Mm → Prop} (a0 : Int) 
  (H : (a0 < 97 → K 0 m) ∧ (¬ a0 < 97 → (a0 > 122 → K 0 m) ∧ (¬ a0 > 122 → K 1 m))) : TrI 21 [(0, a0)] m K := by
  exact w21_0 a0 H
set_option maxRecDepth 100000 in
theorem w29_0 {m : Mm} {K : Int → Mm → Prop} (a0 : Int) 
  (H : (a0 < 48 → K 0 m) ∧ (¬ a0 < 48 → (a0 > 57 → K 0 m) ∧ (¬ a0 > 57 → K 1 m))) : X 29 0 [(0, a0)] [] m (qI K) := by
  refine x_s (q := (.iload_n 0, 0, 0, 0)) (cod_29 rfl) rfl rfl rfl ?_
  refine x_s (q := (.bipush 48, 0, 0, 0)) (cod_29 rfl) rfl rfl rfl ?_
  refine x_ic (p := a0 < 48) (tgt := 16) (cod_29 rfl) (by decide) xj_lt (fun h => ?_) (fun h => ?_)
  · have H1 := H.1 h
    refine x_s (q := (.iconst 0, 0, 0, 0)) (cod_29 rfl) rfl rfl rfl ?_
    refine x_retI (t := .boolean) (cod_29 rfl) rfl rfl rfl ?_
    exact H1
  · have H2 := H.2 h
    refine x_s (q := (.iload_n 0, 0, 0, 0)) (cod_29 rfl) rfl rfl rfl ?_
    refine x_s (q := (.bipush 57, 0, 0, 0)) (cod_29 rfl) rfl rfl rfl ?_
    refine x_ic (p := a0 > 57) (tgt := 16) (cod_29 rfl) (by decide) xj_gt (fun h => ?_) (fun h => ?_)
    · have H3 := H2.1 h
      refine x_s (q := (.iconst 0, 0, 0, 0)) (cod_29 rfl) rfl rfl rfl ?_
      refine x_retI (t := .boolean) (cod_29 rfl) rfl rfl rfl ?_
      exact H3
    · have H4 := H2.2 h
      refine x_s (q := (.iconst 1, 0, 0, 0)) (cod_29 rfl) rfl rfl rfl ?_
      refine x_go (tgt := 17) (cod_29 rfl) (by decide) ?_
      refine x_retI (t := .boolean) (cod_29 rfl) rfl rfl rfl ?_
      exact H4
theorem e29 {m : Mm} {K : Int → Mm → Prop} (a0 : Int) 
  (H : (a0 < 48 → K 0 m) ∧ (¬ a0 < 48 → (a0 > 57 → K 0 m) ∧ (¬ a0 > 57 → K 1 m))) : TrI 29 [(0, a0)] m K := by
  exact w29_0 a0 H
set_option maxRecDepth 100000 in
theorem w133_0 {m : Mm} {K : Int → Mm → Prop} (a0 : Int) (a1 : Int) 
  (H : ((iand (ishr a0 a1) 1) = 1 → K 1 m) ∧ (¬ (iand (ishr a0 a1) 1) = 1 → K 0 m)) : X 133 0 [(0, a0), (0, a1)] [] m (qI K) := by
  refine x_s (q := (.iload_n 0, 0, 0, 0)) (cod_133 rfl) rfl rfl rfl ?_
  refine x_s (q := (.iload_n 1, 0, 0, 0)) (cod_133 rfl) rfl rfl rfl ?_
  refine x_s (q := (.ishr, 0, 0, 0)) (cod_133 rfl) rfl rfl rfl ?_
  refine x_s (q := (.iconst 1, 0, 0, 0)) (cod_133 rfl) rfl rfl rfl ?_
  refine x_s (q := (.iand, 0, 0, 0)) (cod_133 rfl) rfl rfl rfl ?_
  refine x_s (q := (.iconst 1, 0, 0, 0)) (cod_133 rfl) rfl rfl rfl ?_
  refine x_ic (p := ¬ (iand (ishr a0 a1) 1) = 1) (tgt := 13) (cod_133 rfl) (by decide) xj_ne (fun h => ?_) (fun h => ?_)
  · have H1 := H.2 h
    refine x_s (q := (.iconst 0, 0, 0, 0)) (cod_133 rfl) rfl rfl rfl ?_
    refine x_retI (t := .boolean) (cod_133 rfl) rfl rfl rfl ?_
    exact H1
  · have H2 := H.1 (Classical.not_not.mp h)
    refine x_s (q := (.iconst 1, 0, 0, 0)) (cod_133 rfl) rfl rfl rfl ?_
    refine x_go (tgt := 14) (cod_133 rfl) (by decide) ?_
    refine x_retI (t := .boolean) (cod_133 rfl) rfl rfl rfl ?_
    exact H2
theorem e133 {m : Mm} {K : Int → Mm → Prop} (a0 : Int) (a1 : Int) 
  (H : ((iand (ishr a0 a1) 1) = 1 → K 1 m) ∧ (¬ (iand (ishr a0 a1) 1) = 1 → K 0 m)) : TrI 133 [(0, a0), (0, a1)] m K := by
  exact w133_0 a0 a1 H
set_option maxRecDepth 100000 in
theorem w105_0 {m : Mm} {K : Int → Mm → Prop} (a0 : Int) 
  (H : (a0 < 1000000 → K a0 m) ∧ (¬ a0 < 1000000 → K (-2) m)) : X 105 0 [(0, a0)] [] m (qI K) := by
  refine x_s (q := (.iload_n 0, 0, 0, 0)) (cod_105 rfl) rfl rfl rfl ?_
  refine x_s (q := (.ldc_w 279, 1000000, 0, 0)) (cod_105 rfl) rfl rfl rfl ?_
  refine x_ic (p := ¬ a0 < 1000000) (tgt := 11) (cod_105 rfl) (by decide) xn_ge (fun h => ?_) (fun h => ?_)
  · have H1 := H.2 h
    refine x_s (q := (.bipush (-2), 0, 0, 0)) (cod_105 rfl) rfl rfl rfl ?_
    refine x_retI (t := .int) (cod_105 rfl) rfl rfl rfl ?_
    exact H1
  · have H2 := H.1 (Classical.not_not.mp h)
    refine x_s (q := (.iload_n 0, 0, 0, 0)) (cod_105 rfl) rfl rfl rfl ?_
    refine x_go (tgt := 13) (cod_105 rfl) (by decide) ?_
    refine x_retI (t := .int) (cod_105 rfl) rfl rfl rfl ?_
    exact H2
theorem e105 {m : Mm} {K : Int → Mm → Prop} (a0 : Int) 
  (H : (a0 < 1000000 → K a0 m) ∧ (¬ a0 < 1000000 → K (-2) m)) : TrI 105 [(0, a0)] m K := by
  exact w105_0 a0 H
set_option maxRecDepth 100000 in
theorem w70_0 {m : Mm} {K : Int → Mm → Prop} (a1 : Int) 
  (H : (a1 < 0 → K 0 m) ∧ (¬ a1 < 0 → shp (m 1 3) = 30 ∧ (a1 < (m (m 1 3) 5) → K 1 m) ∧ (¬ a1 < (m (m 1 3) 5) → K 0 m))) : X 70 0 [(1, 1), (0, a1)] [] m (qI K) := by
  refine x_s (q := (.iload_n 1, 0, 0, 0)) (cod_70 rfl) rfl rfl rfl ?_
  refine x_if (p := a1 < 0) (tgt := 19) (cod_70 rfl) (by decide) xj_lt (fun h => ?_) (fun h => ?_)
  · have H1 := H.1 h
    refine x_s (q := (.iconst 0, 0, 0, 0)) (cod_70 rfl) rfl rfl rfl ?_
    refine x_retI (t := .boolean) (cod_70 rfl) rfl rfl rfl ?_
    exact H1
  · have H2 := H.2 h
    refine x_s (q := (.iload_n 1, 0, 0, 0)) (cod_70 rfl) rfl rfl rfl ?_
    refine x_s (q := (.aload_n 0, 0, 0, 0)) (cod_70 rfl) rfl rfl rfl ?_
    refine x_gf (kk := 3) (t := 1) (cod_70 rfl) sq_p_1 sq_l_1_3 rfl rfl ?_
    obtain ⟨c3, H4⟩ := H2
    refine x_gf (kk := 5) (t := 0) (cod_70 rfl) c3 (sq_c_10_5 c3) rfl rfl ?_
    refine x_ic (p := ¬ a1 < (m (m 1 3) 5)) (tgt := 19) (cod_70 rfl) (by decide) xn_ge (fun h => ?_) (fun h => ?_)
    · have H5 := H4.2 h
      refine x_s (q := (.iconst 0, 0, 0, 0)) (cod_70 rfl) rfl rfl rfl ?_
      refine x_retI (t := .boolean) (cod_70 rfl) rfl rfl rfl ?_
      exact H5
    · have H6 := H4.1 (Classical.not_not.mp h)
      refine x_s (q := (.iconst 1, 0, 0, 0)) (cod_70 rfl) rfl rfl rfl ?_
      refine x_go (tgt := 20) (cod_70 rfl) (by decide) ?_
      refine x_retI (t := .boolean) (cod_70 rfl) rfl rfl rfl ?_
      exact H6
theorem e70 {m : Mm} {K : Int → Mm → Prop} (a1 : Int) 
  (H : (a1 < 0 → K 0 m) ∧ (¬ a1 < 0 → shp (m 1 3) = 30 ∧ (a1 < (m (m 1 3) 5) → K 1 m) ∧ (¬ a1 < (m (m 1 3) 5) → K 0 m))) : TrI 70 [(1, 1), (0, a1)] m K := by
  exact w70_0 a1 H
set_option maxRecDepth 100000 in
theorem w68_0 {m : Mm} {K : Int → Mm → Prop} (a1 : Int) 
  (H : (a1 < 0 → K 0 m) ∧ (¬ a1 < 0 → shp (m 1 3) = 30 ∧ (a1 < (m (m 1 3) 6) → K 1 m) ∧ (¬ a1 < (m (m 1 3) 6) → K 0 m))) : X 68 0 [(1, 1), (0, a1)] [] m (qI K) := by
  refine x_s (q := (.iload_n 1, 0, 0, 0)) (cod_68 rfl) rfl rfl rfl ?_
  refine x_if (p := a1 < 0) (tgt := 19) (cod_68 rfl) (by decide) xj_lt (fun h => ?_) (fun h => ?_)
  · have H1 := H.1 h
    refine x_s (q := (.iconst 0, 0, 0, 0)) (cod_68 rfl) rfl rfl rfl ?_
    refine x_retI (t := .boolean) (cod_68 rfl) rfl rfl rfl ?_
    exact H1
  · have H2 := H.2 h
    refine x_s (q := (.iload_n 1, 0, 0, 0)) (cod_68 rfl) rfl rfl rfl ?_
    refine x_s (q := (.aload_n 0, 0, 0, 0)) (cod_68 rfl) rfl rfl rfl ?_
    refine x_gf (kk := 3) (t := 1) (cod_68 rfl) sq_p_1 sq_l_1_3 rfl rfl ?_
    obtain ⟨c3, H4⟩ := H2
    refine x_gf (kk := 6) (t := 0) (cod_68 rfl) c3 (sq_c_10_6 c3) rfl rfl ?_
    refine x_ic (p := ¬ a1 < (m (m 1 3) 6)) (tgt := 19) (cod_68 rfl) (by decide) xn_ge (fun h => ?_) (fun h => ?_)
    · have H5 := H4.2 h
      refine x_s (q := (.iconst 0, 0, 0, 0)) (cod_68 rfl) rfl rfl rfl ?_
      refine x_retI (t := .boolean) (cod_68 rfl) rfl rfl rfl ?_
      exact H5
    · have H6 := H4.1 (Classical.not_not.mp h)
      refine x_s (q := (.iconst 1, 0, 0, 0)) (cod_68 rfl) rfl rfl rfl ?_
      refine x_go (tgt := 20) (cod_68 rfl) (by decide) ?_
      refine x_retI (t := .boolean) (cod_68 rfl) rfl rfl rfl ?_
      exact H6
theorem e68 {m : Mm} {K : Int → Mm → Prop} (a1 : Int) 
  (H : (a1 < 0 → K 0 m) ∧ (¬ a1 < 0 → shp (m 1 3) = 30 ∧ (a1 < (m (m 1 3) 6) → K 1 m) ∧ (¬ a1 < (m (m 1 3) 6) → K 0 m))) : TrI 68 [(1, 1), (0, a1)] m K := by
  exact w68_0 a1 H
set_option maxRecDepth 100000 in
theorem w74_0 {m : Mm} {K : Int → Mm → Prop} (a1 : Int) 
  (H : (a1 < 0 → K 0 m) ∧ (¬ a1 < 0 → shp (m 1 5) = 24 ∧ (a1 < (m (m 1 5) 4) → K 1 m) ∧ (¬ a1 < (m (m 1 5) 4) → K 0 m))) : X 74 0 [(1, 1), (0, a1)] [] m (qI K) := by
  refine x_s (q := (.iload_n 1, 0, 0, 0)) (cod_74 rfl) rfl rfl rfl ?_
  refine x_if (p := a1 < 0) (tgt := 19) (cod_74 rfl) (by decide) xj_lt (fun h => ?_) (fun h => ?_)
  · have H1 := H.1 h
    refine x_s (q := (.iconst 0, 0, 0, 0)) (cod_74 rfl) rfl rfl rfl ?_
    refine x_retI (t := .boolean) (cod_74 rfl) rfl rfl rfl ?_
    exact H1
  · have H2 := H.2 h
    refine x_s (q := (.iload_n 1, 0, 0, 0)) (cod_74 rfl) rfl rfl rfl ?_
    refine x_s (q := (.aload_n 0, 0, 0, 0)) (cod_74 rfl) rfl rfl rfl ?_
    refine x_gf (kk := 5) (t := 1) (cod_74 rfl) sq_p_1 sq_l_1_5 rfl rfl ?_
    obtain ⟨c3, H4⟩ := H2
    refine x_gf (kk := 4) (t := 0) (cod_74 rfl) c3 (sq_c_4_4 c3) rfl rfl ?_
    refine x_ic (p := ¬ a1 < (m (m 1 5) 4)) (tgt := 19) (cod_74 rfl) (by decide) xn_ge (fun h => ?_) (fun h => ?_)
    · have H5 := H4.2 h
      refine x_s (q := (.iconst 0, 0, 0, 0)) (cod_74 rfl) rfl rfl rfl ?_
      refine x_retI (t := .boolean) (cod_74 rfl) rfl rfl rfl ?_
      exact H5
    · have H6 := H4.1 (Classical.not_not.mp h)
      refine x_s (q := (.iconst 1, 0, 0, 0)) (cod_74 rfl) rfl rfl rfl ?_
      refine x_go (tgt := 20) (cod_74 rfl) (by decide) ?_
      refine x_retI (t := .boolean) (cod_74 rfl) rfl rfl rfl ?_
      exact H6
theorem e74 {m : Mm} {K : Int → Mm → Prop} (a1 : Int) 
  (H : (a1 < 0 → K 0 m) ∧ (¬ a1 < 0 → shp (m 1 5) = 24 ∧ (a1 < (m (m 1 5) 4) → K 1 m) ∧ (¬ a1 < (m (m 1 5) 4) → K 0 m))) : TrI 74 [(1, 1), (0, a1)] m K := by
  exact w74_0 a1 H
set_option maxRecDepth 100000 in
theorem w172_0 {m : Mm} {K : Int → Mm → Prop} (a0 : Int) (a1 : Int) (a2 : Int) 
  (H : (a0 < a1 → K 0 m) ∧ (¬ a0 < a1 → (a0 > a2 → K 0 m) ∧ (¬ a0 > a2 → K 1 m))) : X 172 0 [(0, a0), (0, a1), (0, a2)] [] m (qI K) := by
  refine x_s (q := (.iload_n 0, 0, 0, 0)) (cod_172 rfl) rfl rfl rfl ?_
  refine x_s (q := (.iload_n 1, 0, 0, 0)) (cod_172 rfl) rfl rfl rfl ?_
  refine x_ic (p := a0 < a1) (tgt := 14) (cod_172 rfl) (by decide) xj_lt (fun h => ?_) (fun h => ?_)
  · have H1 := H.1 h
    refine x_s (q := (.iconst 0, 0, 0, 0)) (cod_172 rfl) rfl rfl rfl ?_
    refine x_retI (t := .boolean) (cod_172 rfl) rfl rfl rfl ?_
    exact H1
  · have H2 := H.2 h
    refine x_s (q := (.iload_n 0, 0, 0, 0)) (cod_172 rfl) rfl rfl rfl ?_
    refine x_s (q := (.iload_n 2, 0, 0, 0)) (cod_172 rfl) rfl rfl rfl ?_
    refine x_ic (p := a0 > a2) (tgt := 14) (cod_172 rfl) (by decide) xj_gt (fun h => ?_) (fun h => ?_)
    · have H3 := H2.1 h
      refine x_s (q := (.iconst 0, 0, 0, 0)) (cod_172 rfl) rfl rfl rfl ?_
      refine x_retI (t := .boolean) (cod_172 rfl) rfl rfl rfl ?_
      exact H3
    · have H4 := H2.2 h
      refine x_s (q := (.iconst 1, 0, 0, 0)) (cod_172 rfl) rfl rfl rfl ?_
      refine x_go (tgt := 15) (cod_172 rfl) (by decide) ?_
      refine x_retI (t := .boolean) (cod_172 rfl) rfl rfl rfl ?_
      exact H4
theorem e172 {m : Mm} {K : Int → Mm → Prop} (a0 : Int) (a1 : Int) (a2 : Int) 
  (H : (a0 < a1 → K 0 m) ∧ (¬ a0 < a1 → (a0 > a2 → K 0 m) ∧ (¬ a0 > a2 → K 1 m))) : TrI 172 [(0, a0), (0, a1), (0, a2)] m K := by
  exact w172_0 a0 a1 a2 H
set_option maxRecDepth 100000 in
theorem w218_0 {m : Mm} {K : Int → Mm → Prop} (a0 : Int) 
  (H : (a0 = 0 → K 1 m) ∧ (¬ a0 = 0 → (a0 = 4 → K 1 m) ∧ (¬ a0 = 4 → (a0 = 8 → K 1 m) ∧ (¬ a0 = 8 → (a0 = 14 → K 1 m) ∧ (¬ a0 = 14 → (a0 = 20 → K 1 m) ∧ (¬ a0 = 20 → K 0 m)))))) : X 218 0 [(0, a0)] [] m (qI K) := by
  refine x_s (q := (.iload_n 0, 0, 0, 0)) (cod_218 rfl) rfl rfl rfl ?_
  refine x_if (p := a0 = 0) (tgt := 27) (cod_218 rfl) (by decide) xj_eq (fun h => ?_) (fun h => ?_)
  · have H1 := H.1 h
    refine x_s (q := (.iconst 1, 0, 0, 0)) (cod_218 rfl) rfl rfl rfl ?_
    refine x_go (tgt := 32) (cod_218 rfl) (by decide) ?_
    refine x_retI (t := .boolean) (cod_218 rfl) rfl rfl rfl ?_
    exact H1
  · have H2 := H.2 h
    refine x_s (q := (.iload_n 0, 0, 0, 0)) (cod_218 rfl) rfl rfl rfl ?_
    refine x_s (q := (.iconst 4, 0, 0, 0)) (cod_218 rfl) rfl rfl rfl ?_
    refine x_ic (p := a0 = 4) (tgt := 27) (cod_218 rfl) (by decide) xj_eq (fun h => ?_) (fun h => ?_)
    · have H3 := H2.1 h
      refine x_s (q := (.iconst 1, 0, 0, 0)) (cod_218 rfl) rfl rfl rfl ?_
      refine x_go (tgt := 32) (cod_218 rfl) (by decide) ?_
      refine x_retI (t := .boolean) (cod_218 rfl) rfl rfl rfl ?_
      exact H3
    · have H4 := H2.2 h
      refine x_s (q := (.iload_n 0, 0, 0, 0)) (cod_218 rfl) rfl rfl rfl ?_
      refine x_s (q := (.bipush 8, 0, 0, 0)) (cod_218 rfl) rfl rfl rfl ?_
      refine x_ic (p := a0 = 8) (tgt := 27) (cod_218 rfl) (by decide) xj_eq (fun h => ?_) (fun h => ?_)
      · have H5 := H4.1 h
        refine x_s (q := (.iconst 1, 0, 0, 0)) (cod_218 rfl) rfl rfl rfl ?_
        refine x_go (tgt := 32) (cod_218 rfl) (by decide) ?_
        refine x_retI (t := .boolean) (cod_218 rfl) rfl rfl rfl ?_
        exact H5
      · have H6 := H4.2 h
        refine x_s (q := (.iload_n 0, 0, 0, 0)) (cod_218 rfl) rfl rfl rfl ?_
        refine x_s (q := (.bipush 14, 0, 0, 0)) (cod_218 rfl) rfl rfl rfl ?_
        refine x_ic (p := a0 = 14) (tgt := 27) (cod_218 rfl) (by decide) xj_eq (fun h => ?_) (fun h => ?_)
        · have H7 := H6.1 h
          refine x_s (q := (.iconst 1, 0, 0, 0)) (cod_218 rfl) rfl rfl rfl ?_
          refine x_go (tgt := 32) (cod_218 rfl) (by decide) ?_
          refine x_retI (t := .boolean) (cod_218 rfl) rfl rfl rfl ?_
          exact H7
        · have H8 := H6.2 h
          refine x_s (q := (.iload_n 0, 0, 0, 0)) (cod_218 rfl) rfl rfl rfl ?_
          refine x_s (q := (.bipush 20, 0, 0, 0)) (cod_218 rfl) rfl rfl rfl ?_
          refine x_ic (p := ¬ a0 = 20) (tgt := 31) (cod_218 rfl) (by decide) xj_ne (fun h => ?_) (fun h => ?_)
          · have H9 := H8.2 h
            refine x_s (q := (.iconst 0, 0, 0, 0)) (cod_218 rfl) rfl rfl rfl ?_
            refine x_retI (t := .boolean) (cod_218 rfl) rfl rfl rfl ?_
            exact H9
          · have H10 := H8.1 (Classical.not_not.mp h)
            refine x_s (q := (.iconst 1, 0, 0, 0)) (cod_218 rfl) rfl rfl rfl ?_
            refine x_go (tgt := 32) (cod_218 rfl) (by decide) ?_
            refine x_retI (t := .boolean) (cod_218 rfl) rfl rfl rfl ?_
            exact H10
theorem e218 {m : Mm} {K : Int → Mm → Prop} (a0 : Int) 
  (H : (a0 = 0 → K 1 m) ∧ (¬ a0 = 0 → (a0 = 4 → K 1 m) ∧ (¬ a0 = 4 → (a0 = 8 → K 1 m) ∧ (¬ a0 = 8 → (a0 = 14 → K 1 m) ∧ (¬ a0 = 14 → (a0 = 20 → K 1 m) ∧ (¬ a0 = 20 → K 0 m)))))) : TrI 218 [(0, a0)] m K := by
  exact w218_0 a0 H
set_option maxRecDepth 100000 in
theorem w182_0 {m : Mm} {K : Int → Mm → Prop} (a1 : Int) 
  (H : (0 ≤ (wr ((wr (583 * (m 597 16))) + a1)) ∧ (wr ((wr (583 * (m 597 16))) + a1)) < 1166) ∧ K (m 602 (wr ((wr (583 * (m 597 16))) + a1))) m) : X 182 0 [(1, 597), (0, a1)] [] m (qI K) := by
  refine x_s (q := (.aload_n 0, 0, 0, 0)) (cod_182 rfl) rfl rfl rfl ?_
  refine x_gc (kk := 15) (c := 602) (t := 1) (cod_182 rfl) sq_p_597 sq_l_597_15 rfl rfl ?_
  refine x_s (q := (.sipush 583, 0, 0, 0)) (cod_182 rfl) rfl rfl rfl ?_
  refine x_s (q := (.aload_n 0, 0, 0, 0)) (cod_182 rfl) rfl rfl rfl ?_
  refine x_gf (kk := 16) (t := 0) (cod_182 rfl) sq_p_597 sq_l_597_16 rfl rfl ?_
  refine x_s (q := (.imul, 0, 0, 0)) (cod_182 rfl) rfl rfl rfl ?_
  refine x_s (q := (.iload_n 1, 0, 0, 0)) (cod_182 rfl) rfl rfl rfl ?_
  refine x_s (q := (.iadd, 0, 0, 0)) (cod_182 rfl) rfl rfl rfl ?_
  obtain ⟨c1, H2⟩ := H
  refine x_iald (cod_182 rfl) sq_a_602.s (sq_a_602.k c1.1 c1.2) ?_
  refine x_retI (t := .int) (cod_182 rfl) rfl rfl rfl ?_
  exact H2
theorem e182 {m : Mm} {K : Int → Mm → Prop} (a1 : Int) 
  (H : (0 ≤ (wr ((wr (583 * (m 597 16))) + a1)) ∧ (wr ((wr (583 * (m 597 16))) + a1)) < 1166) ∧ K (m 602 (wr ((wr (583 * (m 597 16))) + a1))) m) : TrI 182 [(1, 597), (0, a1)] m K := by
  exact w182_0 a1 H
