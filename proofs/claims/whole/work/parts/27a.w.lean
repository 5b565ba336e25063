/-! rules of the methods: printed by wip/whole/gen26.py -/
theorem sq_l_597_2 : slot 597 2 = some none := by decide +kernel
theorem sq_l_597_1 : slot 597 1 = some (some 598) := by decide +kernel
theorem sq_a_598 : isA 598 0 920 := ⟨by decide, by decide +kernel⟩
theorem sq_l_597_5 : slot 597 5 = some none := by decide +kernel
theorem sq_l_597_4 : slot 597 4 = some none := by decide +kernel
theorem sq_l_597_17 : slot 597 17 = some none := by decide +kernel
theorem sq_l_597_18 : slot 597 18 = some none := by decide +kernel
theorem sq_l_597_9 : slot 597 9 = some none := by decide +kernel
theorem sq_l_597_23 : slot 597 23 = some none := by decide +kernel
theorem sq_l_597_3 : slot 597 3 = some none := by decide +kernel
theorem sq_l_597_8 : slot 597 8 = some none := by decide +kernel
theorem sq_l_597_11 : slot 597 11 = some none := by decide +kernel
theorem sq_l_597_10 : slot 597 10 = some none := by decide +kernel
theorem sq_l_597_13 : slot 597 13 = some none := by decide +kernel
theorem sq_l_597_12 : slot 597 12 = some (some 601) := by decide +kernel
theorem sq_a_601 : isA 601 0 8 := ⟨by decide, by decide +kernel⟩
theorem sq_l_597_6 : slot 597 6 = some (some 599) := by decide +kernel
theorem sq_k_599 {j : Int} (h0 : 0 ≤ j) (h1 : j < 18) : slot 599 j = some (some (cs 599 j)) := by
  obtain ⟨k, rfl⟩ := Int.eq_ofNat_of_zero_le h0
  exact (by decide +kernel : ∀ k : Nat, k < 18 → slot 599 (k : Int) = some (some (cs 599 (k : Int)))) k (by omega)
theorem sq_p_599 : shp 599 = 1 := by decide +kernel
theorem sq_l_597_7 : slot 597 7 = some (some 600) := by decide +kernel
theorem sq_k_600 {j : Int} (h0 : 0 ≤ j) (h1 : j < 10) : slot 600 j = some (some (cs 600 j)) := by
  obtain ⟨k, rfl⟩ := Int.eq_ofNat_of_zero_le h0
  exact (by decide +kernel : ∀ k : Nat, k < 10 → slot 600 (k : Int) = some (some (cs 600 (k : Int)))) k (by omega)
theorem sq_p_600 : shp 600 = 0 := by decide +kernel
theorem sq_l_597_14 : slot 597 14 = some none := by decide +kernel
theorem sq_l_597_25 : slot 597 25 = some none := by decide +kernel
theorem sq_l_597_26 : slot 597 26 = some none := by decide +kernel
theorem sq_l_597_22 : slot 597 22 = some (some 606) := by decide +kernel
theorem sq_a_606 : isA 606 0 10 := ⟨by decide, by decide +kernel⟩
theorem sq_l_597_21 : slot 597 21 = some (some 605) := by decide +kernel
theorem sq_a_605 : isA 605 0 100 := ⟨by decide, by decide +kernel⟩
theorem sq_l_597_28 : slot 597 28 = some (some 608) := by decide +kernel
theorem sq_a_608 : isA 608 1 297 := ⟨by decide, by decide +kernel⟩
theorem sq_l_597_29 : slot 597 29 = some (some 609) := by decide +kernel
theorem sq_a_609 : isA 609 0 297 := ⟨by decide, by decide +kernel⟩
theorem sq_l_597_31 : slot 597 31 = some none := by decide +kernel
theorem sq_l_597_30 : slot 597 30 = some (some 610) := by decide +kernel
theorem sq_a_610 : isA 610 0 80 := ⟨by decide, by decide +kernel⟩
theorem sq_l_597_33 : slot 597 33 = some none := by decide +kernel
theorem sq_l_597_32 : slot 597 32 = some (some 611) := by decide +kernel
theorem sq_a_611 : isA 611 0 10 := ⟨by decide, by decide +kernel⟩
theorem sq_l_597_34 : slot 597 34 = some (some 612) := by decide +kernel
theorem sq_a_612 : isA 612 0 99 := ⟨by decide, by decide +kernel⟩
theorem sq_l_597_37 : slot 597 37 = some (some 615) := by decide +kernel
theorem sq_a_615 : isA 615 0 10 := ⟨by decide, by decide +kernel⟩
theorem sq_l_597_35 : slot 597 35 = some (some 613) := by decide +kernel
theorem sq_a_613 : isA 613 0 240 := ⟨by decide, by decide +kernel⟩
theorem sq_l_597_36 : slot 597 36 = some (some 614) := by decide +kernel
theorem sq_a_614 : isA 614 0 240 := ⟨by decide, by decide +kernel⟩
theorem sq_l_597_41 : slot 597 41 = some (some 616) := by decide +kernel
theorem sq_a_616 : isA 616 0 240 := ⟨by decide, by decide +kernel⟩
theorem sq_l_597_42 : slot 597 42 = some (some 617) := by decide +kernel
theorem sq_a_617 : isA 617 1 240 := ⟨by decide, by decide +kernel⟩
theorem sq_l_597_40 : slot 597 40 = some none := by decide +kernel
theorem sq_l_597_38 : slot 597 38 = some none := by decide +kernel
theorem sq_l_597_39 : slot 597 39 = some none := by decide +kernel
theorem sq_l_597_43 : slot 597 43 = some (some 618) := by decide +kernel
theorem sq_a_618 : isA 618 0 10 := ⟨by decide, by decide +kernel⟩
theorem sq_l_597_44 : slot 597 44 = some (some 619) := by decide +kernel
theorem sq_a_619 : isA 619 0 24 := ⟨by decide, by decide +kernel⟩
theorem sq_l_597_45 : slot 597 45 = some (some 620) := by decide +kernel
theorem sq_a_620 : isA 620 2 2511 := ⟨by decide, by decide +kernel⟩
theorem sq_l_597_48 : slot 597 48 = some (some 623) := by decide +kernel
theorem sq_a_623 : isA 623 2 279 := ⟨by decide, by decide +kernel⟩
theorem sq_l_597_47 : slot 597 47 = some (some 622) := by decide +kernel
theorem sq_a_622 : isA 622 0 8 := ⟨by decide, by decide +kernel⟩
theorem sq_l_597_49 : slot 597 49 = some (some 624) := by decide +kernel
theorem sq_a_624 : isA 624 2 279 := ⟨by decide, by decide +kernel⟩
theorem sq_l_597_46 : slot 597 46 = some (some 621) := by decide +kernel
theorem sq_k_621 {j : Int} (h0 : 0 ≤ j) (h1 : j < 9) : slot 621 j = some (some (cs 621 j)) := by
  obtain ⟨k, rfl⟩ := Int.eq_ofNat_of_zero_le h0
  exact (by decide +kernel : ∀ k : Nat, k < 9 → slot 621 (k : Int) = some (some (cs 621 (k : Int)))) k (by omega)
theorem sq_p_621 : shp 621 = 0 := by decide +kernel
theorem sq_l_597_50 : slot 597 50 = some none := by decide +kernel
theorem sq_l_597_51 : slot 597 51 = some (some 625) := by decide +kernel
theorem sq_a_625 : isA 625 0 10 := ⟨by decide, by decide +kernel⟩
set_option maxRecDepth 100000 in
theorem w164_0 {m : Mm} {K : Int → Mm → Prop}  
  (H : K (m 597 0) m) : X 164 0 [(1, 597)] [] m (qI K) := by
  refine x_s (q := (.aload_n 0, 0, 0, 0)) (cod_164 rfl) rfl rfl rfl ?_
  refine x_gf (kk := 0) (t := 0) (cod_164 rfl) sq_p_597 sq_l_597_0 rfl rfl ?_
  refine x_retI (t := .int) (cod_164 rfl) rfl rfl rfl ?_
  exact H
theorem e164 {m : Mm} {K : Int → Mm → Prop}  
  (H : K (m 597 0) m) : TrI 164 [(1, 597)] m K := by
  exact w164_0  H
set_option maxRecDepth 100000 in
theorem w165_0 {m : Mm} {K : Int → Mm → Prop} (a1 : Int) (a2 : Int) (a3 : Int) (a4 : Int) (a5 : Int) 
  (H : ∀ m1, m1 = umem m 597 0 0 → ((wr ((m1 597 2) + 20)) > 900 → K (-1) m1) ∧ (¬ (wr ((m1 597 2) + 20)) > 900 → TrV 166 [(1, 597), (0, a1)] m1 fun m5 => TrV 166 [(1, 597), (0, a2)] m5 fun m7 => TrV 166 [(1, 597), (0, a3)] m7 fun m9 => TrV 166 [(1, 597), (0, a4)] m9 fun m11 => TrV 166 [(1, 597), (0, a5)] m11 fun m13 => K (m13 597 2) m13)) : X 165 0 [(1, 597), (0, a1), (0, a2), (0, a3), (0, a4), (0, a5)] [] m (qI K) := by
  refine x_s (q := (.aload_n 0, 0, 0, 0)) (cod_165 rfl) rfl rfl rfl ?_
  refine x_s (q := (.iconst 0, 0, 0, 0)) (cod_165 rfl) rfl rfl rfl ?_
  refine x_pf (kk := 0) (t := 0) (cod_165 rfl) sq_p_597 sq_l_597_0 rfl rfl rfl ?_
  have H2 := H _ rfl
  generalize umem m 597 0 0 = m1 at H2 ⊢
  refine x_s (q := (.aload_n 0, 0, 0, 0)) (cod_165 rfl) rfl rfl rfl ?_
  refine x_gf (kk := 2) (t := 0) (cod_165 rfl) sq_p_597 sq_l_597_2 rfl rfl ?_
  refine x_s (q := (.bipush 20, 0, 0, 0)) (cod_165 rfl) rfl rfl rfl ?_
  refine x_s (q := (.iadd, 0, 0, 0)) (cod_165 rfl) rfl rfl rfl ?_
  refine x_s (q := (.sipush 900, 0, 0, 0)) (cod_165 rfl) rfl rfl rfl ?_
  refine x_ic (p := ¬ (wr ((m1 597 2) + 20)) > 900) (tgt := 20) (cod_165 rfl) (by decide) xn_le (fun h => ?_) (fun h => ?_)
  · have H3 := H2.2 h
    refine x_s (q := (.aload_n 0, 0, 0, 0)) (cod_165 rfl) rfl rfl rfl ?_
    refine x_s (q := (.iload_n 1, 0, 0, 0)) (cod_165 rfl) rfl rfl rfl ?_
    refine x_call (as := [(1, 597), (0, a1)]) (rest := []) (cod_165 rfl) rfl rfl (by decide) (by decide) rfl rfl (Nat.le_of_ble_eq_true rfl) (rcv0 sq_l_597_0 sq_p_597 (by decide)) (Nat.le_of_ble_eq_true rfl) ?_
    refine X.imp H3 ?_
    rintro _ m5 ⟨rfl, H6⟩
    show X 165 25 [(1, 597), (0, a1), (0, a2), (0, a3), (0, a4), (0, a5)] [] m5 _
    refine x_s (q := (.aload_n 0, 0, 0, 0)) (cod_165 rfl) rfl rfl rfl ?_
    refine x_s (q := (.iload_n 2, 0, 0, 0)) (cod_165 rfl) rfl rfl rfl ?_
    refine x_call (as := [(1, 597), (0, a2)]) (rest := []) (cod_165 rfl) rfl rfl (by decide) (by decide) rfl rfl (Nat.le_of_ble_eq_true rfl) (rcv0 sq_l_597_0 sq_p_597 (by decide)) (Nat.le_of_ble_eq_true rfl) ?_
    refine X.imp H6 ?_
    rintro _ m7 ⟨rfl, H8⟩
    show X 165 30 [(1, 597), (0, a1), (0, a2), (0, a3), (0, a4), (0, a5)] [] m7 _
    refine x_s (q := (.aload_n 0, 0, 0, 0)) (cod_165 rfl) rfl rfl rfl ?_
    refine x_s (q := (.iload_n 3, 0, 0, 0)) (cod_165 rfl) rfl rfl rfl ?_
    refine x_call (as := [(1, 597), (0, a3)]) (rest := []) (cod_165 rfl) rfl rfl (by decide) (by decide) rfl rfl (Nat.le_of_ble_eq_true rfl) (rcv0 sq_l_597_0 sq_p_597 (by decide)) (Nat.le_of_ble_eq_true rfl) ?_
    refine X.imp H8 ?_
    rintro _ m9 ⟨rfl, H10⟩
    show X 165 35 [(1, 597), (0, a1), (0, a2), (0, a3), (0, a4), (0, a5)] [] m9 _
    refine x_s (q := (.aload_n 0, 0, 0, 0)) (cod_165 rfl) rfl rfl rfl ?_
    refine x_s (q := (.iload 4, 0, 0, 0)) (cod_165 rfl) rfl rfl rfl ?_
    refine x_call (as := [(1, 597), (0, a4)]) (rest := []) (cod_165 rfl) rfl rfl (by decide) (by decide) rfl rfl (Nat.le_of_ble_eq_true rfl) (rcv0 sq_l_597_0 sq_p_597 (by decide)) (Nat.le_of_ble_eq_true rfl) ?_
    refine X.imp H10 ?_
    rintro _ m11 ⟨rfl, H12⟩
    show X 165 41 [(1, 597), (0, a1), (0, a2), (0, a3), (0, a4), (0, a5)] [] m11 _
    refine x_s (q := (.aload_n 0, 0, 0, 0)) (cod_165 rfl) rfl rfl rfl ?_
    refine x_s (q := (.iload 5, 0, 0, 0)) (cod_165 rfl) rfl rfl rfl ?_
    refine x_call (as := [(1, 597), (0, a5)]) (rest := []) (cod_165 rfl) rfl rfl (by decide) (by decide) rfl rfl (Nat.le_of_ble_eq_true rfl) (rcv0 sq_l_597_0 sq_p_597 (by decide)) (Nat.le_of_ble_eq_true rfl) ?_
    refine X.imp H12 ?_
    rintro _ m13 ⟨rfl, H14⟩
    show X 165 47 [(1, 597), (0, a1), (0, a2), (0, a3), (0, a4), (0, a5)] [] m13 _
    refine x_s (q := (.aload_n 0, 0, 0, 0)) (cod_165 rfl) rfl rfl rfl ?_
    refine x_gf (kk := 2) (t := 0) (cod_165 rfl) sq_p_597 sq_l_597_2 rfl rfl ?_
    refine x_retI (t := .int) (cod_165 rfl) rfl rfl rfl ?_
    exact H14
  · have H4 := H2.1 (Classical.not_not.mp h)
    refine x_s (q := (.iconst (-1), 0, 0, 0)) (cod_165 rfl) rfl rfl rfl ?_
    refine x_retI (t := .int) (cod_165 rfl) rfl rfl rfl ?_
    exact H4
theorem e165 {m : Mm} {K : Int → Mm → Prop} (a1 : Int) (a2 : Int) (a3 : Int) (a4 : Int) (a5 : Int) 
  (H : ∀ m1, m1 = umem m 597 0 0 → ((wr ((m1 597 2) + 20)) > 900 → K (-1) m1) ∧ (¬ (wr ((m1 597 2) + 20)) > 900 → TrV 166 [(1, 597), (0, a1)] m1 fun m5 => TrV 166 [(1, 597), (0, a2)] m5 fun m7 => TrV 166 [(1, 597), (0, a3)] m7 fun m9 => TrV 166 [(1, 597), (0, a4)] m9 fun m11 => TrV 166 [(1, 597), (0, a5)] m11 fun m13 => K (m13 597 2) m13)) : TrI 165 [(1, 597), (0, a1), (0, a2), (0, a3), (0, a4), (0, a5)] m K := by
  exact w165_0 a1 a2 a3 a4 a5 H
set_option maxRecDepth 100000 in
theorem w166_0 {m : Mm} {K : Mm → Prop} (a1 : Int) 
  (H : X 166 3 [(1, 597), (0, a1), (0, 24)] [] m (qV K)) : X 166 0 [(1, 597), (0, a1), (9, 0)] [] m (qV K) := by
  refine x_s (q := (.bipush 24, 0, 0, 0)) (cod_166 rfl) rfl rfl rfl ?_
  refine x_s (q := (.istore_n 2, 0, 0, 0)) (cod_166 rfl) rfl rfl rfl ?_
  exact H
theorem e166 {m : Mm} {K : Mm → Prop} (a1 : Int) 
  (H : X 166 3 [(1, 597), (0, a1), (0, 24)] [] m (qV K)) : TrV 166 [(1, 597), (0, a1)] m K := by
  exact w166_0 a1 H
set_option maxRecDepth 100000 in
theorem w166_3 {m : Mm} {K : Mm → Prop} (a1 : Int) (a2 : Int) 
  (H : (a2 < 0 → K m) ∧ (¬ a2 < 0 → (0 ≤ (m 597 2) ∧ (m 597 2) < 920) ∧ ∀ m5, m5 = umem m 598 (m 597 2) (iand (ishr a1 a2) 255) → ∀ m7, m7 = umem m5 597 2 (wr ((m5 597 2) + 1)) → X 166 3 [(1, 597), (0, a1), (0, wr (a2 + (-8)))] [] m7 (qV K))) : X 166 3 [(1, 597), (0, a1), (0, a2)] [] m (qV K) := by
  refine x_s (q := (.iload_n 2, 0, 0, 0)) (cod_166 rfl) rfl rfl rfl ?_
  refine x_if (p := a2 < 0) (tgt := 39) (cod_166 rfl) (by decide) xj_lt (fun h => ?_) (fun h => ?_)
  · have H1 := H.1 h
    refine x_retV (cod_166 rfl) rfl ?_
    exact H1
  · have H2 := H.2 h
    refine x_s (q := (.aload_n 0, 0, 0, 0)) (cod_166 rfl) rfl rfl rfl ?_
    refine x_gc (kk := 1) (c := 598) (t := 1) (cod_166 rfl) sq_p_597 sq_l_597_1 rfl rfl ?_
    refine x_s (q := (.aload_n 0, 0, 0, 0)) (cod_166 rfl) rfl rfl rfl ?_
    refine x_gf (kk := 2) (t := 0) (cod_166 rfl) sq_p_597 sq_l_597_2 rfl rfl ?_
    refine x_s (q := (.iload_n 1, 0, 0, 0)) (cod_166 rfl) rfl rfl rfl ?_
    refine x_s (q := (.iload_n 2, 0, 0, 0)) (cod_166 rfl) rfl rfl rfl ?_
    refine x_s (q := (.ishr, 0, 0, 0)) (cod_166 rfl) rfl rfl rfl ?_
    show X 166 18 [(1, 597), (0, a1), (0, a2)] [(0, ishr a1 a2), (0, m 597 2), (1, 598)] m _
    refine x_s (q := (.sipush 255, 0, 0, 0)) (cod_166 rfl) rfl rfl rfl ?_
    refine x_s (q := (.iand, 0, 0, 0)) (cod_166 rfl) rfl rfl rfl ?_
    show X 166 22 [(1, 597), (0, a1), (0, a2)] [(0, iand (ishr a1 a2) 255), (0, m 597 2), (1, 598)] m _
    obtain ⟨c3, H4⟩ := H2
    refine x_iast (cod_166 rfl) sq_a_598.s (sq_a_598.k c3.1 c3.2) ?_
    have H6 := H4 _ rfl
    generalize umem m 598 (m 597 2) (iand (ishr a1 a2) 255) = m5 at H6 ⊢
    refine x_s (q := (.aload_n 0, 0, 0, 0)) (cod_166 rfl) rfl rfl rfl ?_
    refine x_s (q := (.dup, 0, 0, 0)) (cod_166 rfl) rfl rfl rfl ?_
    refine x_gf (kk := 2) (t := 0) (cod_166 rfl) sq_p_597 sq_l_597_2 rfl rfl ?_
    refine x_s (q := (.iconst 1, 0, 0, 0)) (cod_166 rfl) rfl rfl rfl ?_
    refine x_s (q := (.iadd, 0, 0, 0)) (cod_166 rfl) rfl rfl rfl ?_
    refine x_pf (kk := 2) (t := 0) (cod_166 rfl) sq_p_597 sq_l_597_2 rfl rfl rfl ?_
    have H8 := H6 _ rfl
    generalize umem m5 597 2 (wr ((m5 597 2) + 1)) = m7 at H8 ⊢
    refine x_s (q := (.iinc 2 (-8), 0, 0, 0)) (cod_166 rfl) rfl rfl rfl ?_
    refine x_go (tgt := 3) (cod_166 rfl) (by decide) ?_
    exact H8
set_option maxRecDepth 100000 in
theorem w167_0 {m : Mm} {K : Int → Mm → Prop} (a1 : Int) 
  (H : ∀ m1, m1 = umem m 597 0 0 → (a1 = 0 → K (m1 597 4) m1) ∧ (¬ a1 = 0 → (a1 = 1 → K (m1 597 5) m1) ∧ (¬ a1 = 1 → K (-1) m1))) : X 167 0 [(1, 597), (0, a1)] [] m (qI K) := by
  refine x_s (q := (.aload_n 0, 0, 0, 0)) (cod_167 rfl) rfl rfl rfl ?_
  refine x_s (q := (.iconst 0, 0, 0, 0)) (cod_167 rfl) rfl rfl rfl ?_
  refine x_pf (kk := 0) (t := 0) (cod_167 rfl) sq_p_597 sq_l_597_0 rfl rfl rfl ?_
  have H2 := H _ rfl
  generalize umem m 597 0 0 = m1 at H2 ⊢
  refine x_s (q := (.iload_n 1, 0, 0, 0)) (cod_167 rfl) rfl rfl rfl ?_
  refine x_if (p := ¬ a1 = 0) (tgt := 16) (cod_167 rfl) (by decide) xj_ne (fun h => ?_) (fun h => ?_)
  · have H3 := H2.2 h
    refine x_s (q := (.iload_n 1, 0, 0, 0)) (cod_167 rfl) rfl rfl rfl ?_
    refine x_s (q := (.iconst 1, 0, 0, 0)) (cod_167 rfl) rfl rfl rfl ?_
    refine x_ic (p := ¬ a1 = 1) (tgt := 28) (cod_167 rfl) (by decide) xj_ne (fun h => ?_) (fun h => ?_)
    · have H5 := H3.2 h
      refine x_s (q := (.iconst (-1), 0, 0, 0)) (cod_167 rfl) rfl rfl rfl ?_
      refine x_retI (t := .int) (cod_167 rfl) rfl rfl rfl ?_
      exact H5
    · have H6 := H3.1 (Classical.not_not.mp h)
      refine x_s (q := (.aload_n 0, 0, 0, 0)) (cod_167 rfl) rfl rfl rfl ?_
      refine x_gf (kk := 5) (t := 0) (cod_167 rfl) sq_p_597 sq_l_597_5 rfl rfl ?_
      refine x_go (tgt := 29) (cod_167 rfl) (by decide) ?_
      refine x_retI (t := .int) (cod_167 rfl) rfl rfl rfl ?_
      exact H6
  · have H4 := H2.1 (Classical.not_not.mp h)
    refine x_s (q := (.aload_n 0, 0, 0, 0)) (cod_167 rfl) rfl rfl rfl ?_
    refine x_gf (kk := 4) (t := 0) (cod_167 rfl) sq_p_597 sq_l_597_4 rfl rfl ?_
    refine x_go (tgt := 29) (cod_167 rfl) (by decide) ?_
    refine x_retI (t := .int) (cod_167 rfl) rfl rfl rfl ?_
    exact H4
theorem e167 {m : Mm} {K : Int → Mm → Prop} (a1 : Int) 
  (H : ∀ m1, m1 = umem m 597 0 0 → (a1 = 0 → K (m1 597 4) m1) ∧ (¬ a1 = 0 → (a1 = 1 → K (m1 597 5) m1) ∧ (¬ a1 = 1 → K (-1) m1))) : TrI 167 [(1, 597), (0, a1)] m K := by
  exact w167_0 a1 H
set_option maxRecDepth 100000 in
theorem w168_0 {m : Mm} {K : Int → Mm → Prop} (a1 : Int) 
  (H : ∀ m1, m1 = umem m 597 0 0 → TrI 169 [(1, 597), (0, a1)] m1 fun v5 m3 => (v5 = 0 → K (-2) m3) ∧ (¬ v5 = 0 → ∀ m8, m8 = umem m3 597 16 1 → X 168 23 [(1, 597), (0, a1), (0, 0), (9, 0), (9, 0)] [] m8 (qI K))) : X 168 0 [(1, 597), (0, a1), (9, 0), (9, 0), (9, 0)] [] m (qI K) := by
  refine x_s (q := (.aload_n 0, 0, 0, 0)) (cod_168 rfl) rfl rfl rfl ?_
  refine x_s (q := (.iconst 0, 0, 0, 0)) (cod_168 rfl) rfl rfl rfl ?_
  refine x_pf (kk := 0) (t := 0) (cod_168 rfl) sq_p_597 sq_l_597_0 rfl rfl rfl ?_
  have H2 := H _ rfl
  generalize umem m 597 0 0 = m1 at H2 ⊢
  refine x_s (q := (.aload_n 0, 0, 0, 0)) (cod_168 rfl) rfl rfl rfl ?_
  refine x_s (q := (.iload_n 1, 0, 0, 0)) (cod_168 rfl) rfl rfl rfl ?_
  refine x_call (as := [(1, 597), (0, a1)]) (rest := []) (cod_168 rfl) rfl rfl (by decide) (by decide) rfl rfl (Nat.le_of_ble_eq_true rfl) (rcv0 sq_l_597_0 sq_p_597 (by decide)) (Nat.le_of_ble_eq_true rfl) ?_
  refine X.imp H2 ?_
  rintro _ m3 ⟨v5, rfl, H4⟩
  show X 168 10 [(1, 597), (0, a1), (9, 0), (9, 0), (9, 0)] [(0, v5)] m3 _
  refine x_if (p := ¬ v5 = 0) (tgt := 16) (cod_168 rfl) (by decide) xj_ne (fun h => ?_) (fun h => ?_)
  · have H6 := H4.2 h
    refine x_s (q := (.aload_n 0, 0, 0, 0)) (cod_168 rfl) rfl rfl rfl ?_
    refine x_s (q := (.iconst 1, 0, 0, 0)) (cod_168 rfl) rfl rfl rfl ?_
    refine x_pf (kk := 16) (t := 0) (cod_168 rfl) sq_p_597 sq_l_597_16 rfl rfl rfl ?_
    have H9 := H6 _ rfl
    generalize umem m3 597 16 1 = m8 at H9 ⊢
    refine x_s (q := (.iconst 0, 0, 0, 0)) (cod_168 rfl) rfl rfl rfl ?_
    refine x_s (q := (.istore_n 2, 0, 0, 0)) (cod_168 rfl) rfl rfl rfl ?_
    exact H9
  · have H7 := H4.1 (Classical.not_not.mp h)
    refine x_s (q := (.bipush (-2), 0, 0, 0)) (cod_168 rfl) rfl rfl rfl ?_
    refine x_retI (t := .int) (cod_168 rfl) rfl rfl rfl ?_
    exact H7
theorem e168 {m : Mm} {K : Int → Mm → Prop} (a1 : Int) 
  (H : ∀ m1, m1 = umem m 597 0 0 → TrI 169 [(1, 597), (0, a1)] m1 fun v5 m3 => (v5 = 0 → K (-2) m3) ∧ (¬ v5 = 0 → ∀ m8, m8 = umem m3 597 16 1 → X 168 23 [(1, 597), (0, a1), (0, 0), (9, 0), (9, 0)] [] m8 (qI K))) : TrI 168 [(1, 597), (0, a1)] m K := by
  exact w168_0 a1 H
set_option maxRecDepth 100000 in
theorem w168_23 {m : Mm} {K : Int → Mm → Prop} (ua1 : aV) (a2 : Int) (ua3 : aV) (ua4 : aV) (hua1 : ua1.1 ≠ 2)
  (H : (a2 < 583 → (a2 = 580 → (0 ≤ (wr ((wr (583 * (m 597 16))) + a2)) ∧ (wr ((wr (583 * (m 597 16))) + a2)) < 1166) ∧ ∀ m17, m17 = umem m 602 (wr ((wr (583 * (m 597 16))) + a2)) 500 → X 168 23 [(1, 597), ua1, (0, wr (a2 + 1)), ua3, ua4] [] m17 (qI K)) ∧ (¬ a2 = 580 → (0 ≤ (wr ((wr (583 * (m 597 16))) + a2)) ∧ (wr ((wr (583 * (m 597 16))) + a2)) < 1166) ∧ ∀ m13, m13 = umem m 602 (wr ((wr (583 * (m 597 16))) + a2)) 0 → X 168 23 [(1, 597), ua1, (0, wr (a2 + 1)), ua3, ua4] [] m13 (qI K))) ∧ (¬ a2 < 583 → ∀ m3, m3 = umem m 597 17 0 → ∀ m5, m5 = umem m3 597 18 0 → TrV 170 [(1, 597)] m5 fun m7 => X 168 73 [(1, 597), ua1, (0, 0), (0, 1), ua4] [] m7 (qI K))) : X 168 23 [(1, 597), ua1, (0, a2), ua3, ua4] [] m (qI K) := by
  refine x_s (q := (.iload_n 2, 0, 0, 0)) (cod_168 rfl) rfl rfl rfl ?_
  refine x_s (q := (.sipush 583, 0, 0, 0)) (cod_168 rfl) rfl rfl rfl ?_
  refine x_ic (p := ¬ a2 < 583) (tgt := 55) (cod_168 rfl) (by decide) xn_ge (fun h => ?_) (fun h => ?_)
  · have H1 := H.2 h
    refine x_s (q := (.aload_n 0, 0, 0, 0)) (cod_168 rfl) rfl rfl rfl ?_
    refine x_s (q := (.iconst 0, 0, 0, 0)) (cod_168 rfl) rfl rfl rfl ?_
    refine x_pf (kk := 17) (t := 0) (cod_168 rfl) sq_p_597 sq_l_597_17 rfl rfl rfl ?_
    have H4 := H1 _ rfl
    generalize umem m 597 17 0 = m3 at H4 ⊢
    refine x_s (q := (.aload_n 0, 0, 0, 0)) (cod_168 rfl) rfl rfl rfl ?_
    refine x_s (q := (.iconst 0, 0, 0, 0)) (cod_168 rfl) rfl rfl rfl ?_
    refine x_pf (kk := 18) (t := 0) (cod_168 rfl) sq_p_597 sq_l_597_18 rfl rfl rfl ?_
    have H6 := H4 _ rfl
    generalize umem m3 597 18 0 = m5 at H6 ⊢
    refine x_s (q := (.aload_n 0, 0, 0, 0)) (cod_168 rfl) rfl rfl rfl ?_
    refine x_call (as := [(1, 597)]) (rest := []) (cod_168 rfl) rfl rfl (by decide) (by decide) rfl rfl (Nat.le_of_ble_eq_true rfl) (rcv0 sq_l_597_0 sq_p_597 (by decide)) (Nat.le_of_ble_eq_true rfl) ?_
    refine X.imp H6 ?_
    rintro _ m7 ⟨rfl, H8⟩
    show X 168 69 [(1, 597), ua1, (0, a2), ua3, ua4] [] m7 _
    refine x_s (q := (.iconst 0, 0, 0, 0)) (cod_168 rfl) rfl rfl rfl ?_
    show X 168 70 [(1, 597), ua1, (0, a2), ua3, ua4] [(0, 0)] m7 _
    refine x_s (q := (.istore_n 2, 0, 0, 0)) (np := 71) (ls' := [(1, 597), ua1, (0, 0), ua3, ua4]) (st' := []) (cod_168 rfl) rfl rfl (by simp [stp1, stS, tok, lsok, oif, hua1]) ?_
    refine x_s (q := (.iconst 1, 0, 0, 0)) (cod_168 rfl) rfl rfl rfl ?_
    refine x_s (q := (.istore_n 3, 0, 0, 0)) (cod_168 rfl) rfl rfl rfl ?_
    exact H8
  · have H2 := H.1 (Classical.not_not.mp h)
    refine x_s (q := (.aload_n 0, 0, 0, 0)) (cod_168 rfl) rfl rfl rfl ?_
    refine x_s (q := (.iload_n 2, 0, 0, 0)) (cod_168 rfl) rfl rfl rfl ?_
    refine x_s (q := (.iload_n 2, 0, 0, 0)) (cod_168 rfl) rfl rfl rfl ?_
    refine x_s (q := (.sipush 580, 0, 0, 0)) (cod_168 rfl) rfl rfl rfl ?_
    refine x_ic (p := ¬ a2 = 580) (tgt := 45) (cod_168 rfl) (by decide) xj_ne (fun h => ?_) (fun h => ?_)
    · have H9 := H2.2 h
      refine x_s (q := (.iconst 0, 0, 0, 0)) (cod_168 rfl) rfl rfl rfl ?_
      refine x_call (as := [(1, 597), (0, a2), (0, 0)]) (rest := []) (cod_168 rfl) rfl rfl (by decide) (by decide) rfl rfl (Nat.le_of_ble_eq_true rfl) (rcv0 sq_l_597_0 sq_p_597 (by decide)) (Nat.le_of_ble_eq_true rfl) ?_
      show X 163 0 [(1, 597), (0, a2), (0, 0)] [] m _
      refine x_s (q := (.aload_n 0, 0, 0, 0)) (cod_163 rfl) rfl rfl rfl ?_
      refine x_gc (kk := 15) (c := 602) (t := 1) (cod_163 rfl) sq_p_597 sq_l_597_15 rfl rfl ?_
      refine x_s (q := (.sipush 583, 0, 0, 0)) (cod_163 rfl) rfl rfl rfl ?_
      refine x_s (q := (.aload_n 0, 0, 0, 0)) (cod_163 rfl) rfl rfl rfl ?_
      refine x_gf (kk := 16) (t := 0) (cod_163 rfl) sq_p_597 sq_l_597_16 rfl rfl ?_
      refine x_s (q := (.imul, 0, 0, 0)) (cod_163 rfl) rfl rfl rfl ?_
      refine x_s (q := (.iload_n 1, 0, 0, 0)) (cod_163 rfl) rfl rfl rfl ?_
      refine x_s (q := (.iadd, 0, 0, 0)) (cod_163 rfl) rfl rfl rfl ?_
      refine x_s (q := (.iload_n 2, 0, 0, 0)) (cod_163 rfl) rfl rfl rfl ?_
      obtain ⟨c11, H12⟩ := H9
      refine x_iast (cod_163 rfl) sq_a_602.s (sq_a_602.k c11.1 c11.2) ?_
      have H14 := H12 _ rfl
      generalize umem m 602 (wr ((wr (583 * (m 597 16))) + a2)) 0 = m13 at H14 ⊢
      refine x_rV (cod_163 rfl) rfl ?_
      show X 168 49 [(1, 597), ua1, (0, a2), ua3, ua4] [] m13 _
      show X 168 49 [(1, 597), ua1, (0, a2), ua3, ua4] [] m13 _
      refine x_s (q := (.iinc 2 1, 0, 0, 0)) (np := 52) (ls' := [(1, 597), ua1, (0, wr (a2 + 1)), ua3, ua4]) (st' := []) (cod_168 rfl) rfl rfl (by simp [stp1, stS, tok, lsok, oif, hua1]) ?_
      refine x_go (tgt := 23) (cod_168 rfl) (by decide) ?_
      exact H14
    · have H10 := H2.1 (Classical.not_not.mp h)
      refine x_s (q := (.sipush 500, 0, 0, 0)) (cod_168 rfl) rfl rfl rfl ?_
      refine x_go (tgt := 46) (cod_168 rfl) (by decide) ?_
      refine x_call (as := [(1, 597), (0, a2), (0, 500)]) (rest := []) (cod_168 rfl) rfl rfl (by decide) (by decide) rfl rfl (Nat.le_of_ble_eq_true rfl) (rcv0 sq_l_597_0 sq_p_597 (by decide)) (Nat.le_of_ble_eq_true rfl) ?_
      show X 163 0 [(1, 597), (0, a2), (0, 500)] [] m _
      refine x_s (q := (.aload_n 0, 0, 0, 0)) (cod_163 rfl) rfl rfl rfl ?_
      refine x_gc (kk := 15) (c := 602) (t := 1) (cod_163 rfl) sq_p_597 sq_l_597_15 rfl rfl ?_
      refine x_s (q := (.sipush 583, 0, 0, 0)) (cod_163 rfl) rfl rfl rfl ?_
      refine x_s (q := (.aload_n 0, 0, 0, 0)) (cod_163 rfl) rfl rfl rfl ?_
      refine x_gf (kk := 16) (t := 0) (cod_163 rfl) sq_p_597 sq_l_597_16 rfl rfl ?_
      refine x_s (q := (.imul, 0, 0, 0)) (cod_163 rfl) rfl rfl rfl ?_
      refine x_s (q := (.iload_n 1, 0, 0, 0)) (cod_163 rfl) rfl rfl rfl ?_
      refine x_s (q := (.iadd, 0, 0, 0)) (cod_163 rfl) rfl rfl rfl ?_
      refine x_s (q := (.iload_n 2, 0, 0, 0)) (cod_163 rfl) rfl rfl rfl ?_
      obtain ⟨c15, H16⟩ := H10
      refine x_iast (cod_163 rfl) sq_a_602.s (sq_a_602.k c15.1 c15.2) ?_
      have H18 := H16 _ rfl
      generalize umem m 602 (wr ((wr (583 * (m 597 16))) + a2)) 500 = m17 at H18 ⊢
      refine x_rV (cod_163 rfl) rfl ?_
      show X 168 49 [(1, 597), ua1, (0, a2), ua3, ua4] [] m17 _
      show X 168 49 [(1, 597), ua1, (0, a2), ua3, ua4] [] m17 _
      refine x_s (q := (.iinc 2 1, 0, 0, 0)) (np := 52) (ls' := [(1, 597), ua1, (0, wr (a2 + 1)), ua3, ua4]) (st' := []) (cod_168 rfl) rfl rfl (by simp [stp1, stS, tok, lsok, oif, hua1]) ?_
      refine x_go (tgt := 23) (cod_168 rfl) (by decide) ?_
      exact H18
set_option maxRecDepth 100000 in
theorem w168_73 {m : Mm} {K : Int → Mm → Prop} (ua1 : aV) (a2 : Int) (a3 : Int) (ua4 : aV) (hua1 : ua1.1 ≠ 2)
  (H : (a3 = 0 → ∀ m3, m3 = umem m 597 16 0 → (a3 = 0 → K (-1) m3) ∧ (¬ a3 = 0 → X 168 109 [(1, 597), ua1, (0, a2), (0, a3), (0, 0)] [] m3 (qI K))) ∧ (¬ a3 = 0 → ((m 597 9) = 0 → ∀ m9, m9 = umem m 597 16 0 → (a3 = 0 → K (-1) m9) ∧ (¬ a3 = 0 → X 168 109 [(1, 597), ua1, (0, a2), (0, a3), (0, 0)] [] m9 (qI K))) ∧ (¬ (m 597 9) = 0 → TrI 177 [(1, 597)] m fun v15 m13 => X 168 73 [(1, 597), ua1, (0, wr (a2 + 1)), (0, v15), ua4] [] m13 (qI K)))) : X 168 73 [(1, 597), ua1, (0, a2), (0, a3), ua4] [] m (qI K) := by
  refine x_s (q := (.iload_n 3, 0, 0, 0)) (cod_168 rfl) rfl rfl rfl ?_
  refine x_if (p := a3 = 0) (tgt := 95) (cod_168 rfl) (by decide) xj_eq (fun h => ?_) (fun h => ?_)
  · have H1 := H.1 h
    refine x_s (q := (.aload_n 0, 0, 0, 0)) (cod_168 rfl) rfl rfl rfl ?_
    refine x_s (q := (.iconst 0, 0, 0, 0)) (cod_168 rfl) rfl rfl rfl ?_
    refine x_pf (kk := 16) (t := 0) (cod_168 rfl) sq_p_597 sq_l_597_16 rfl rfl rfl ?_
    have H4 := H1 _ rfl
    generalize umem m 597 16 0 = m3 at H4 ⊢
    refine x_s (q := (.iload_n 3, 0, 0, 0)) (cod_168 rfl) rfl rfl rfl ?_
    refine x_if (p := ¬ a3 = 0) (tgt := 106) (cod_168 rfl) (by decide) xj_ne (fun h => ?_) (fun h => ?_)
    · have H5 := H4.2 h
      refine x_s (q := (.iconst 0, 0, 0, 0)) (cod_168 rfl) rfl rfl rfl ?_
      refine x_s (q := (.istore 4, 0, 0, 0)) (cod_168 rfl) rfl rfl rfl ?_
      exact H5
    · have H6 := H4.1 (Classical.not_not.mp h)
      refine x_s (q := (.iconst (-1), 0, 0, 0)) (cod_168 rfl) rfl rfl rfl ?_
      refine x_retI (t := .int) (cod_168 rfl) rfl rfl rfl ?_
      exact H6
  · have H2 := H.2 h
    refine x_s (q := (.aload_n 0, 0, 0, 0)) (cod_168 rfl) rfl rfl rfl ?_
    refine x_gf (kk := 9) (t := 0) (cod_168 rfl) sq_p_597 sq_l_597_9 rfl rfl ?_
    refine x_if (p := (m 597 9) = 0) (tgt := 95) (cod_168 rfl) (by decide) xj_eq (fun h => ?_) (fun h => ?_)
    · have H7 := H2.1 h
      refine x_s (q := (.aload_n 0, 0, 0, 0)) (cod_168 rfl) rfl rfl rfl ?_
      refine x_s (q := (.iconst 0, 0, 0, 0)) (cod_168 rfl) rfl rfl rfl ?_
      refine x_pf (kk := 16) (t := 0) (cod_168 rfl) sq_p_597 sq_l_597_16 rfl rfl rfl ?_
      have H10 := H7 _ rfl
      generalize umem m 597 16 0 = m9 at H10 ⊢
      refine x_s (q := (.iload_n 3, 0, 0, 0)) (cod_168 rfl) rfl rfl rfl ?_
      refine x_if (p := ¬ a3 = 0) (tgt := 106) (cod_168 rfl) (by decide) xj_ne (fun h => ?_) (fun h => ?_)
      · have H11 := H10.2 h
        refine x_s (q := (.iconst 0, 0, 0, 0)) (cod_168 rfl) rfl rfl rfl ?_
        refine x_s (q := (.istore 4, 0, 0, 0)) (cod_168 rfl) rfl rfl rfl ?_
        exact H11
      · have H12 := H10.1 (Classical.not_not.mp h)
        refine x_s (q := (.iconst (-1), 0, 0, 0)) (cod_168 rfl) rfl rfl rfl ?_
        refine x_retI (t := .int) (cod_168 rfl) rfl rfl rfl ?_
        exact H12
    · have H8 := H2.2 h
      refine x_s (q := (.aload_n 0, 0, 0, 0)) (cod_168 rfl) rfl rfl rfl ?_
      refine x_call (as := [(1, 597)]) (rest := []) (cod_168 rfl) rfl rfl (by decide) (by decide) rfl rfl (Nat.le_of_ble_eq_true rfl) (rcv0 sq_l_597_0 sq_p_597 (by decide)) (Nat.le_of_ble_eq_true rfl) ?_
      refine X.imp H8 ?_
      rintro _ m13 ⟨v15, rfl, H14⟩
      show X 168 88 [(1, 597), ua1, (0, a2), (0, a3), ua4] [(0, v15)] m13 _
      refine x_s (q := (.istore_n 3, 0, 0, 0)) (cod_168 rfl) rfl rfl rfl ?_
      show X 168 89 [(1, 597), ua1, (0, a2), (0, v15), ua4] [] m13 _
      refine x_s (q := (.iinc 2 1, 0, 0, 0)) (np := 92) (ls' := [(1, 597), ua1, (0, wr (a2 + 1)), (0, v15), ua4]) (st' := []) (cod_168 rfl) rfl rfl (by simp [stp1, stS, tok, lsok, oif, hua1]) ?_
      refine x_go (tgt := 73) (cod_168 rfl) (by decide) ?_
      exact H14
set_option maxRecDepth 100000 in
theorem w168_109 {m : Mm} {K : Int → Mm → Prop} (ua1 : aV) (a2 : Int) (ua3 : aV) (a4 : Int) (hua3 : ua3.1 ≠ 2)
  (H : (a4 < 583 → (0 ≤ (wr (583 + a4)) ∧ (wr (583 + a4)) < 1166) ∧ (0 ≤ a4 ∧ a4 < 1166) ∧ ∀ m11, m11 = umem m 602 a4 (m 602 (wr (583 + a4))) → X 168 109 [(1, 597), ua1, (0, a2), ua3, (0, wr (a4 + 1))] [] m11 (qI K)) ∧ (¬ a4 < 583 → ∀ m3, m3 = umem m 597 23 0 → TrV 190 [(1, 597)] m3 fun m5 => X 168 153 [(1, 597), ua1, (0, a2), ua3, (0, 0)] [] m5 (qI K))) : X 168 109 [(1, 597), ua1, (0, a2), ua3, (0, a4)] [] m (qI K) := by
  refine x_s (q := (.iload 4, 0, 0, 0)) (cod_168 rfl) rfl rfl rfl ?_
  refine x_s (q := (.sipush 583, 0, 0, 0)) (cod_168 rfl) rfl rfl rfl ?_
  refine x_ic (p := ¬ a4 < 583) (tgt := 141) (cod_168 rfl) (by decide) xn_ge (fun h => ?_) (fun h => ?_)
  · have H1 := H.2 h
    refine x_s (q := (.aload_n 0, 0, 0, 0)) (cod_168 rfl) rfl rfl rfl ?_
    refine x_s (q := (.iconst 0, 0, 0, 0)) (cod_168 rfl) rfl rfl rfl ?_
    refine x_pf (kk := 23) (t := 0) (cod_168 rfl) sq_p_597 sq_l_597_23 rfl rfl rfl ?_
    have H4 := H1 _ rfl
    generalize umem m 597 23 0 = m3 at H4 ⊢
    refine x_s (q := (.aload_n 0, 0, 0, 0)) (cod_168 rfl) rfl rfl rfl ?_
    refine x_call (as := [(1, 597)]) (rest := []) (cod_168 rfl) rfl rfl (by decide) (by decide) rfl rfl (Nat.le_of_ble_eq_true rfl) (rcv0 sq_l_597_0 sq_p_597 (by decide)) (Nat.le_of_ble_eq_true rfl) ?_
    refine X.imp H4 ?_
    rintro _ m5 ⟨rfl, H6⟩
    show X 168 150 [(1, 597), ua1, (0, a2), ua3, (0, a4)] [] m5 _
    refine x_s (q := (.iconst 0, 0, 0, 0)) (cod_168 rfl) rfl rfl rfl ?_
    show X 168 151 [(1, 597), ua1, (0, a2), ua3, (0, a4)] [(0, 0)] m5 _
    refine x_s (q := (.istore 4, 0, 0, 0)) (np := 153) (ls' := [(1, 597), ua1, (0, a2), ua3, (0, 0)]) (st' := []) (cod_168 rfl) rfl rfl (by simp [stp1, stS, tok, lsok, oif, hua3]) ?_
    exact H6
  · have H2 := H.1 (Classical.not_not.mp h)
    refine x_s (q := (.aload_n 0, 0, 0, 0)) (cod_168 rfl) rfl rfl rfl ?_
    refine x_gc (kk := 15) (c := 602) (t := 1) (cod_168 rfl) sq_p_597 sq_l_597_15 rfl rfl ?_
    refine x_s (q := (.iload 4, 0, 0, 0)) (cod_168 rfl) rfl rfl rfl ?_
    refine x_s (q := (.aload_n 0, 0, 0, 0)) (cod_168 rfl) rfl rfl rfl ?_
    refine x_gc (kk := 15) (c := 602) (t := 1) (cod_168 rfl) sq_p_597 sq_l_597_15 rfl rfl ?_
    refine x_s (q := (.sipush 583, 0, 0, 0)) (cod_168 rfl) rfl rfl rfl ?_
    refine x_s (q := (.iload 4, 0, 0, 0)) (cod_168 rfl) rfl rfl rfl ?_
    refine x_s (q := (.iadd, 0, 0, 0)) (cod_168 rfl) rfl rfl rfl ?_
    obtain ⟨c7, H8⟩ := H2
    refine x_iald (cod_168 rfl) sq_a_602.s (sq_a_602.k c7.1 c7.2) ?_
    obtain ⟨c9, H10⟩ := H8
    refine x_iast (cod_168 rfl) sq_a_602.s (sq_a_602.k c9.1 c9.2) ?_
    have H12 := H10 _ rfl
    generalize umem m 602 a4 (m 602 (wr (583 + a4))) = m11 at H12 ⊢
    show X 168 135 [(1, 597), ua1, (0, a2), ua3, (0, a4)] [] m11 _
    refine x_s (q := (.iinc 4 1, 0, 0, 0)) (np := 138) (ls' := [(1, 597), ua1, (0, a2), ua3, (0, wr (a4 + 1))]) (st' := []) (cod_168 rfl) rfl rfl (by simp [stp1, stS, tok, lsok, oif, hua3]) ?_
    refine x_go (tgt := 109) (cod_168 rfl) (by decide) ?_
    exact H12
set_option maxRecDepth 100000 in
theorem w168_153 {m : Mm} {K : Int → Mm → Prop} (ua1 : aV) (a2 : Int) (ua3 : aV) (a4 : Int) (hua3 : ua3.1 ≠ 2)
  (H : m 597 16 = 1 ∧ (a4 < (m 602 1161) → (m 597 16 = 1 ∧ 0 ≤ (wr ((wr (11 * a4)) + 4)) ∧ (wr ((wr (11 * a4)) + 4)) < 583) ∧ (0 ≤ (wr (0 + a4)) ∧ (wr (0 + a4)) < 1276) ∧ ∀ m9, m9 = umem m 607 (wr (0 + a4)) (m 602 (583 + (wr ((wr (11 * a4)) + 4)))) → X 168 153 [(1, 597), ua1, (0, a2), ua3, (0, wr (a4 + 1))] [] m9 (qI K)) ∧ (¬ a4 < (m 602 1161) → K a2 m)) : X 168 153 [(1, 597), ua1, (0, a2), ua3, (0, a4)] [] m (qI K) := by
  refine x_s (q := (.iload 4, 0, 0, 0)) (cod_168 rfl) rfl rfl rfl ?_
  refine x_s (q := (.aload_n 0, 0, 0, 0)) (cod_168 rfl) rfl rfl rfl ?_
  refine x_call (as := [(1, 597)]) (rest := [(0, a4)]) (cod_168 rfl) rfl rfl (by decide) (by decide) rfl rfl (Nat.le_of_ble_eq_true rfl) (rcv0 sq_l_597_0 sq_p_597 (by decide)) (Nat.le_of_ble_eq_true rfl) ?_
  show X 181 0 [(1, 597)] [] m _
  refine x_s (q := (.aload_n 0, 0, 0, 0)) (cod_181 rfl) rfl rfl rfl ?_
  refine x_s (q := (.sipush 578, 0, 0, 0)) (cod_181 rfl) rfl rfl rfl ?_
  obtain ⟨c1, H2⟩ := H
  refine x_call (as := [(1, 597), (0, 578)]) (rest := []) (cod_181 rfl) rfl rfl (by decide) (by decide) rfl rfl (Nat.le_of_ble_eq_true rfl) (rcv0 sq_l_597_0 sq_p_597 (by decide)) (Nat.le_of_ble_eq_true rfl) ?_
  refine x_pure (p182b (by decide) c1) ?_
  show X 181 7 [(1, 597)] [(0, m 602 1161)] m _
  refine x_rI (t := .int) (cod_181 rfl) rfl rfl rfl ?_
  show X 168 159 [(1, 597), ua1, (0, a2), ua3, (0, a4)] [(0, m 602 1161), (0, a4)] m _
  refine x_ic (p := ¬ a4 < (m 602 1161)) (tgt := 187) (cod_168 rfl) (by decide) xn_ge (fun h => ?_) (fun h => ?_)
  · have H3 := H2.2 h
    refine x_s (q := (.iload_n 2, 0, 0, 0)) (cod_168 rfl) rfl rfl rfl ?_
    refine x_retI (t := .int) (cod_168 rfl) rfl rfl rfl ?_
    exact H3
  · have H4 := H2.1 (Classical.not_not.mp h)
    refine x_s (q := (.aload_n 0, 0, 0, 0)) (cod_168 rfl) rfl rfl rfl ?_
    refine x_s (q := (.iconst 0, 0, 0, 0)) (cod_168 rfl) rfl rfl rfl ?_
    refine x_s (q := (.iload 4, 0, 0, 0)) (cod_168 rfl) rfl rfl rfl ?_
    refine x_s (q := (.iadd, 0, 0, 0)) (cod_168 rfl) rfl rfl rfl ?_
    refine x_s (q := (.aload_n 0, 0, 0, 0)) (cod_168 rfl) rfl rfl rfl ?_
    refine x_s (q := (.bipush 11, 0, 0, 0)) (cod_168 rfl) rfl rfl rfl ?_
    refine x_s (q := (.iload 4, 0, 0, 0)) (cod_168 rfl) rfl rfl rfl ?_
    refine x_s (q := (.imul, 0, 0, 0)) (cod_168 rfl) rfl rfl rfl ?_
    refine x_s (q := (.iconst 4, 0, 0, 0)) (cod_168 rfl) rfl rfl rfl ?_
    refine x_s (q := (.iadd, 0, 0, 0)) (cod_168 rfl) rfl rfl rfl ?_
    obtain ⟨c5, H6⟩ := H4
    refine x_call (as := [(1, 597), (0, wr ((wr (11 * a4)) + 4))]) (rest := [(0, wr (0 + a4)), (1, 597)]) (cod_168 rfl) rfl rfl (by decide) (by decide) rfl rfl (Nat.le_of_ble_eq_true rfl) (rcv0 sq_l_597_0 sq_p_597 (by decide)) (Nat.le_of_ble_eq_true rfl) ?_
    refine x_pure (p182bx c5) ?_
    show X 168 178 [(1, 597), ua1, (0, a2), ua3, (0, a4)] [(0, m 602 (583 + (wr ((wr (11 * a4)) + 4)))), (0, wr (0 + a4)), (1, 597)] m _
    refine x_call (as := [(1, 597), (0, wr (0 + a4)), (0, m 602 (583 + (wr ((wr (11 * a4)) + 4))))]) (rest := []) (cod_168 rfl) rfl rfl (by decide) (by decide) rfl rfl (Nat.le_of_ble_eq_true rfl) (rcv0 sq_l_597_0 sq_p_597 (by decide)) (Nat.le_of_ble_eq_true rfl) ?_
    show X 191 0 [(1, 597), (0, wr (0 + a4)), (0, m 602 (583 + (wr ((wr (11 * a4)) + 4))))] [] m _
    refine x_s (q := (.aload_n 0, 0, 0, 0)) (cod_191 rfl) rfl rfl rfl ?_
    refine x_gc (kk := 24) (c := 607) (t := 1) (cod_191 rfl) sq_p_597 sq_l_597_24 rfl rfl ?_
    refine x_s (q := (.iload_n 1, 0, 0, 0)) (cod_191 rfl) rfl rfl rfl ?_
    refine x_s (q := (.iload_n 2, 0, 0, 0)) (cod_191 rfl) rfl rfl rfl ?_
    obtain ⟨c7, H8⟩ := H6
    refine x_iast (cod_191 rfl) sq_a_607.s (sq_a_607.k c7.1 c7.2) ?_
    have H10 := H8 _ rfl
    generalize umem m 607 (wr (0 + a4)) (m 602 (583 + (wr ((wr (11 * a4)) + 4)))) = m9 at H10 ⊢
    refine x_rV (cod_191 rfl) rfl ?_
    show X 168 181 [(1, 597), ua1, (0, a2), ua3, (0, a4)] [] m9 _
    show X 168 181 [(1, 597), ua1, (0, a2), ua3, (0, a4)] [] m9 _
    refine x_s (q := (.iinc 4 1, 0, 0, 0)) (np := 184) (ls' := [(1, 597), ua1, (0, a2), ua3, (0, wr (a4 + 1))]) (st' := []) (cod_168 rfl) rfl rfl (by simp [stp1, stS, tok, lsok, oif, hua3]) ?_
    refine x_go (tgt := 153) (cod_168 rfl) (by decide) ?_
    exact H10
set_option maxRecDepth 100000 in
theorem w169_0 {m : Mm} {K : Int → Mm → Prop} (a1 : Int) 
  (H : (a1 < 0 → K 0 m) ∧ (¬ a1 < 0 → (a1 > (m 597 2) → K 0 m) ∧ (¬ a1 > (m 597 2) → ∀ m5, m5 = umem m 597 3 a1 → ∀ m7, m7 = umem m5 597 2 0 → ∀ m9, m9 = umem m7 597 4 0 → ∀ m11, m11 = umem m9 597 5 (-1) → ∀ m13, m13 = umem m11 597 8 0 → K 1 m13))) : X 169 0 [(1, 597), (0, a1)] [] m (qI K) := by
  refine x_s (q := (.iload_n 1, 0, 0, 0)) (cod_169 rfl) rfl rfl rfl ?_
  refine x_if (p := a1 < 0) (tgt := 12) (cod_169 rfl) (by decide) xj_lt (fun h => ?_) (fun h => ?_)
  · have H1 := H.1 h
    refine x_s (q := (.iconst 0, 0, 0, 0)) (cod_169 rfl) rfl rfl rfl ?_
    refine x_retI (t := .boolean) (cod_169 rfl) rfl rfl rfl ?_
    exact H1
  · have H2 := H.2 h
    refine x_s (q := (.iload_n 1, 0, 0, 0)) (cod_169 rfl) rfl rfl rfl ?_
    refine x_s (q := (.aload_n 0, 0, 0, 0)) (cod_169 rfl) rfl rfl rfl ?_
    refine x_gf (kk := 2) (t := 0) (cod_169 rfl) sq_p_597 sq_l_597_2 rfl rfl ?_
    refine x_ic (p := ¬ a1 > (m 597 2)) (tgt := 14) (cod_169 rfl) (by decide) xn_le (fun h => ?_) (fun h => ?_)
    · have H3 := H2.2 h
      refine x_s (q := (.aload_n 0, 0, 0, 0)) (cod_169 rfl) rfl rfl rfl ?_
      refine x_s (q := (.iload_n 1, 0, 0, 0)) (cod_169 rfl) rfl rfl rfl ?_
      refine x_pf (kk := 3) (t := 0) (cod_169 rfl) sq_p_597 sq_l_597_3 rfl rfl rfl ?_
      have H6 := H3 _ rfl
      generalize umem m 597 3 a1 = m5 at H6 ⊢
      refine x_s (q := (.aload_n 0, 0, 0, 0)) (cod_169 rfl) rfl rfl rfl ?_
      refine x_s (q := (.iconst 0, 0, 0, 0)) (cod_169 rfl) rfl rfl rfl ?_
      refine x_pf (kk := 2) (t := 0) (cod_169 rfl) sq_p_597 sq_l_597_2 rfl rfl rfl ?_
      have H8 := H6 _ rfl
      generalize umem m5 597 2 0 = m7 at H8 ⊢
      refine x_s (q := (.aload_n 0, 0, 0, 0)) (cod_169 rfl) rfl rfl rfl ?_
      refine x_s (q := (.iconst 0, 0, 0, 0)) (cod_169 rfl) rfl rfl rfl ?_
      refine x_pf (kk := 4) (t := 0) (cod_169 rfl) sq_p_597 sq_l_597_4 rfl rfl rfl ?_
      have H10 := H8 _ rfl
      generalize umem m7 597 4 0 = m9 at H10 ⊢
      refine x_s (q := (.aload_n 0, 0, 0, 0)) (cod_169 rfl) rfl rfl rfl ?_
      refine x_s (q := (.iconst (-1), 0, 0, 0)) (cod_169 rfl) rfl rfl rfl ?_
      refine x_pf (kk := 5) (t := 0) (cod_169 rfl) sq_p_597 sq_l_597_5 rfl rfl rfl ?_
      have H12 := H10 _ rfl
      generalize umem m9 597 5 (-1) = m11 at H12 ⊢
      refine x_s (q := (.aload_n 0, 0, 0, 0)) (cod_169 rfl) rfl rfl rfl ?_
      refine x_s (q := (.iconst 0, 0, 0, 0)) (cod_169 rfl) rfl rfl rfl ?_
      refine x_pf (kk := 8) (t := 0) (cod_169 rfl) sq_p_597 sq_l_597_8 rfl rfl rfl ?_
      have H14 := H12 _ rfl
      generalize umem m11 597 8 0 = m13 at H14 ⊢
      refine x_s (q := (.iconst 1, 0, 0, 0)) (cod_169 rfl) rfl rfl rfl ?_
      refine x_retI (t := .boolean) (cod_169 rfl) rfl rfl rfl ?_
      exact H14
    · have H4 := H2.1 (Classical.not_not.mp h)
      refine x_s (q := (.iconst 0, 0, 0, 0)) (cod_169 rfl) rfl rfl rfl ?_
      refine x_retI (t := .boolean) (cod_169 rfl) rfl rfl rfl ?_
      exact H4
theorem e169 {m : Mm} {K : Int → Mm → Prop} (a1 : Int) 
  (H : (a1 < 0 → K 0 m) ∧ (¬ a1 < 0 → (a1 > (m 597 2) → K 0 m) ∧ (¬ a1 > (m 597 2) → ∀ m5, m5 = umem m 597 3 a1 → ∀ m7, m7 = umem m5 597 2 0 → ∀ m9, m9 = umem m7 597 4 0 → ∀ m11, m11 = umem m9 597 5 (-1) → ∀ m13, m13 = umem m11 597 8 0 → K 1 m13))) : TrI 169 [(1, 597), (0, a1)] m K := by
  exact w169_0 a1 H
set_option maxRecDepth 100000 in
theorem w170_0 {m : Mm} {K : Mm → Prop}  
  (H : ((m 597 8) < (m 597 3) → (0 ≤ (m 597 8) ∧ (m 597 8) < 920) ∧ ((m 598 (m 597 8)) = 10 → ∀ m7, m7 = umem m 597 8 (wr ((m 597 8) + 1)) → X 170 0 [(1, 597)] [] m7 (qV K)) ∧ (¬ (m 598 (m 597 8)) = 10 → ((m 598 (m 597 8)) = 32 → ∀ m11, m11 = umem m 597 8 (wr ((m 597 8) + 1)) → X 170 0 [(1, 597)] [] m11 (qV K)) ∧ (¬ (m 598 (m 597 8)) = 32 → X 170 52 [(1, 597)] [] m (qV K)))) ∧ (¬ (m 597 8) < (m 597 3) → X 170 52 [(1, 597)] [] m (qV K))) : X 170 0 [(1, 597)] [] m (qV K) := by
  refine x_s (q := (.aload_n 0, 0, 0, 0)) (cod_170 rfl) rfl rfl rfl ?_
  refine x_gf (kk := 8) (t := 0) (cod_170 rfl) sq_p_597 sq_l_597_8 rfl rfl ?_
  refine x_s (q := (.aload_n 0, 0, 0, 0)) (cod_170 rfl) rfl rfl rfl ?_
  refine x_gf (kk := 3) (t := 0) (cod_170 rfl) sq_p_597 sq_l_597_3 rfl rfl ?_
  refine x_ic (p := ¬ (m 597 8) < (m 597 3)) (tgt := 52) (cod_170 rfl) (by decide) xn_ge (fun h => ?_) (fun h => ?_)
  · have H1 := H.2 h
    exact H1
  · have H2 := H.1 (Classical.not_not.mp h)
    refine x_s (q := (.aload_n 0, 0, 0, 0)) (cod_170 rfl) rfl rfl rfl ?_
    refine x_gc (kk := 1) (c := 598) (t := 1) (cod_170 rfl) sq_p_597 sq_l_597_1 rfl rfl ?_
    refine x_s (q := (.aload_n 0, 0, 0, 0)) (cod_170 rfl) rfl rfl rfl ?_
    refine x_gf (kk := 8) (t := 0) (cod_170 rfl) sq_p_597 sq_l_597_8 rfl rfl ?_
    obtain ⟨c3, H4⟩ := H2
    refine x_iald (cod_170 rfl) sq_a_598.s (sq_a_598.k c3.1 c3.2) ?_
    refine x_s (q := (.bipush 10, 0, 0, 0)) (cod_170 rfl) rfl rfl rfl ?_
    refine x_ic (p := (m 598 (m 597 8)) = 10) (tgt := 39) (cod_170 rfl) (by decide) xj_eq (fun h => ?_) (fun h => ?_)
    · have H5 := H4.1 h
      refine x_s (q := (.aload_n 0, 0, 0, 0)) (cod_170 rfl) rfl rfl rfl ?_
      refine x_s (q := (.dup, 0, 0, 0)) (cod_170 rfl) rfl rfl rfl ?_
      refine x_gf (kk := 8) (t := 0) (cod_170 rfl) sq_p_597 sq_l_597_8 rfl rfl ?_
      refine x_s (q := (.iconst 1, 0, 0, 0)) (cod_170 rfl) rfl rfl rfl ?_
      refine x_s (q := (.iadd, 0, 0, 0)) (cod_170 rfl) rfl rfl rfl ?_
      refine x_pf (kk := 8) (t := 0) (cod_170 rfl) sq_p_597 sq_l_597_8 rfl rfl rfl ?_
      have H8 := H5 _ rfl
      generalize umem m 597 8 (wr ((m 597 8) + 1)) = m7 at H8 ⊢
      refine x_go (tgt := 0) (cod_170 rfl) (by decide) ?_
      exact H8
    · have H6 := H4.2 h
      refine x_s (q := (.aload_n 0, 0, 0, 0)) (cod_170 rfl) rfl rfl rfl ?_
      refine x_gc (kk := 1) (c := 598) (t := 1) (cod_170 rfl) sq_p_597 sq_l_597_1 rfl rfl ?_
      refine x_s (q := (.aload_n 0, 0, 0, 0)) (cod_170 rfl) rfl rfl rfl ?_
      refine x_gf (kk := 8) (t := 0) (cod_170 rfl) sq_p_597 sq_l_597_8 rfl rfl ?_
      refine x_iald (cod_170 rfl) sq_a_598.s (sq_a_598.k c3.1 c3.2) ?_
      refine x_s (q := (.bipush 32, 0, 0, 0)) (cod_170 rfl) rfl rfl rfl ?_
      refine x_ic (p := ¬ (m 598 (m 597 8)) = 32) (tgt := 52) (cod_170 rfl) (by decide) xj_ne (fun h => ?_) (fun h => ?_)
      · have H9 := H6.2 h
        exact H9
      · have H10 := H6.1 (Classical.not_not.mp h)
        refine x_s (q := (.aload_n 0, 0, 0, 0)) (cod_170 rfl) rfl rfl rfl ?_
        refine x_s (q := (.dup, 0, 0, 0)) (cod_170 rfl) rfl rfl rfl ?_
        refine x_gf (kk := 8) (t := 0) (cod_170 rfl) sq_p_597 sq_l_597_8 rfl rfl ?_
        refine x_s (q := (.iconst 1, 0, 0, 0)) (cod_170 rfl) rfl rfl rfl ?_
        refine x_s (q := (.iadd, 0, 0, 0)) (cod_170 rfl) rfl rfl rfl ?_
        refine x_pf (kk := 8) (t := 0) (cod_170 rfl) sq_p_597 sq_l_597_8 rfl rfl rfl ?_
        have H12 := H10 _ rfl
        generalize umem m 597 8 (wr ((m 597 8) + 1)) = m11 at H12 ⊢
        refine x_go (tgt := 0) (cod_170 rfl) (by decide) ?_
        exact H12
theorem e170 {m : Mm} {K : Mm → Prop}  
  (H : ((m 597 8) < (m 597 3) → (0 ≤ (m 597 8) ∧ (m 597 8) < 920) ∧ ((m 598 (m 597 8)) = 10 → ∀ m7, m7 = umem m 597 8 (wr ((m 597 8) + 1)) → X 170 0 [(1, 597)] [] m7 (qV K)) ∧ (¬ (m 598 (m 597 8)) = 10 → ((m 598 (m 597 8)) = 32 → ∀ m11, m11 = umem m 597 8 (wr ((m 597 8) + 1)) → X 170 0 [(1, 597)] [] m11 (qV K)) ∧ (¬ (m 598 (m 597 8)) = 32 → X 170 52 [(1, 597)] [] m (qV K)))) ∧ (¬ (m 597 8) < (m 597 3) → X 170 52 [(1, 597)] [] m (qV K))) : TrV 170 [(1, 597)] m K := by
  exact w170_0  H
set_option maxRecDepth 100000 in
theorem w170_52 {m : Mm} {K : Mm → Prop}  
  (H : ∀ m1, m1 = umem m 597 11 (m 597 8) → ((m1 597 8) < (m1 597 3) → ((m1 597 8) < (m1 597 3) → (0 ≤ (m1 597 8) ∧ (m1 597 8) < 920) ∧ ((97 ≤ (m1 598 (m1 597 8)) ∧ (m1 598 (m1 597 8)) ≤ 122) → TrV 173 [(1, 597)] m1 fun m147 => K m147) ∧ (¬ (97 ≤ (m1 598 (m1 597 8)) ∧ (m1 598 (m1 597 8)) ≤ 122) → ((m1 597 8) < (m1 597 3) → ((48 ≤ (m1 598 (m1 597 8)) ∧ (m1 598 (m1 597 8)) ≤ 57) → ∀ m143, m143 = umem m1 597 9 3 → ∀ m145, m145 = umem m143 597 10 0 → X 170 118 [(1, 597)] [] m145 (qV K)) ∧ (¬ (48 ≤ (m1 598 (m1 597 8)) ∧ (m1 598 (m1 597 8)) ≤ 57) → TrI 176 [(1, 597), (0, m1 598 (m1 597 8))] m1 fun v116 m114 => ∀ m117, m117 = umem m114 597 10 v116 → (0 ≤ (m117 597 8) ∧ (m117 597 8) < 920) ∧ ((m117 598 (m117 597 8)) = 59 → ∀ m139, m139 = umem m117 597 9 4 → ∀ m141, m141 = umem m139 597 8 (wr ((m139 597 8) + 1)) → K m141) ∧ (¬ (m117 598 (m117 597 8)) = 59 → ((m117 598 (m117 597 8)) = 45 → ∀ m135, m135 = umem m117 597 9 6 → ∀ m137, m137 = umem m135 597 8 (wr ((m135 597 8) + 1)) → K m137) ∧ (¬ (m117 598 (m117 597 8)) = 45 → ((m117 597 10) < 0 → ∀ m127, m127 = umem m117 597 9 7 → ∀ m129, m129 = umem m127 597 8 (wr ((m127 597 8) + 1)) → K m129) ∧ (¬ (m117 597 10) < 0 → ∀ m131, m131 = umem m117 597 9 5 → ∀ m133, m133 = umem m131 597 8 (wr ((m131 597 8) + 1)) → K m133))))) ∧ (¬ (m1 597 8) < (m1 597 3) → TrI 176 [(1, 597), (0, m1 598 (m1 597 8))] m1 fun v85 m83 => ∀ m86, m86 = umem m83 597 10 v85 → (0 ≤ (m86 597 8) ∧ (m86 597 8) < 920) ∧ ((m86 598 (m86 597 8)) = 59 → ∀ m108, m108 = umem m86 597 9 4 → ∀ m110, m110 = umem m108 597 8 (wr ((m108 597 8) + 1)) → K m110) ∧ (¬ (m86 598 (m86 597 8)) = 59 → ((m86 598 (m86 597 8)) = 45 → ∀ m104, m104 = umem m86 597 9 6 → ∀ m106, m106 = umem m104 597 8 (wr ((m104 597 8) + 1)) → K m106) ∧ (¬ (m86 598 (m86 597 8)) = 45 → ((m86 597 10) < 0 → ∀ m96, m96 = umem m86 597 9 7 → ∀ m98, m98 = umem m96 597 8 (wr ((m96 597 8) + 1)) → K m98) ∧ (¬ (m86 597 10) < 0 → ∀ m100, m100 = umem m86 597 9 5 → ∀ m102, m102 = umem m100 597 8 (wr ((m100 597 8) + 1)) → K m102)))))) ∧ (¬ (m1 597 8) < (m1 597 3) → ((m1 597 8) < (m1 597 3) → (0 ≤ (m1 597 8) ∧ (m1 597 8) < 920) ∧ ((48 ≤ (m1 598 (m1 597 8)) ∧ (m1 598 (m1 597 8)) ≤ 57) → ∀ m73, m73 = umem m1 597 9 3 → ∀ m75, m75 = umem m73 597 10 0 → X 170 118 [(1, 597)] [] m75 (qV K)) ∧ (¬ (48 ≤ (m1 598 (m1 597 8)) ∧ (m1 598 (m1 597 8)) ≤ 57) → TrI 176 [(1, 597), (0, m1 598 (m1 597 8))] m1 fun v46 m44 => ∀ m47, m47 = umem m44 597 10 v46 → (0 ≤ (m47 597 8) ∧ (m47 597 8) < 920) ∧ ((m47 598 (m47 597 8)) = 59 → ∀ m69, m69 = umem m47 597 9 4 → ∀ m71, m71 = umem m69 597 8 (wr ((m69 597 8) + 1)) → K m71) ∧ (¬ (m47 598 (m47 597 8)) = 59 → ((m47 598 (m47 597 8)) = 45 → ∀ m65, m65 = umem m47 597 9 6 → ∀ m67, m67 = umem m65 597 8 (wr ((m65 597 8) + 1)) → K m67) ∧ (¬ (m47 598 (m47 597 8)) = 45 → ((m47 597 10) < 0 → ∀ m57, m57 = umem m47 597 9 7 → ∀ m59, m59 = umem m57 597 8 (wr ((m57 597 8) + 1)) → K m59) ∧ (¬ (m47 597 10) < 0 → ∀ m61, m61 = umem m47 597 9 5 → ∀ m63, m63 = umem m61 597 8 (wr ((m61 597 8) + 1)) → K m63))))) ∧ (¬ (m1 597 8) < (m1 597 3) → (0 ≤ (m1 597 8) ∧ (m1 597 8) < 920) ∧ TrI 176 [(1, 597), (0, m1 598 (m1 597 8))] m1 fun v13 m11 => ∀ m14, m14 = umem m11 597 10 v13 → (0 ≤ (m14 597 8) ∧ (m14 597 8) < 920) ∧ ((m14 598 (m14 597 8)) = 59 → ∀ m36, m36 = umem m14 597 9 4 → ∀ m38, m38 = umem m36 597 8 (wr ((m36 597 8) + 1)) → K m38) ∧ (¬ (m14 598 (m14 597 8)) = 59 → ((m14 598 (m14 597 8)) = 45 → ∀ m32, m32 = umem m14 597 9 6 → ∀ m34, m34 = umem m32 597 8 (wr ((m32 597 8) + 1)) → K m34) ∧ (¬ (m14 598 (m14 597 8)) = 45 → ((m14 597 10) < 0 → ∀ m24, m24 = umem m14 597 9 7 → ∀ m26, m26 = umem m24 597 8 (wr ((m24 597 8) + 1)) → K m26) ∧ (¬ (m14 597 10) < 0 → ∀ m28, m28 = umem m14 597 9 5 → ∀ m30, m30 = umem m28 597 8 (wr ((m28 597 8) + 1)) → K m30)))))) ∧ (¬ (m1 597 8) < (m1 597 3) → ∀ m149, m149 = umem m1 597 9 0 → K m149)) : X 170 52 [(1, 597)] [] m (qV K) := by
  refine x_s (q := (.aload_n 0, 0, 0, 0)) (cod_170 rfl) rfl rfl rfl ?_
  refine x_s (q := (.aload_n 0, 0, 0, 0)) (cod_170 rfl) rfl rfl rfl ?_
  refine x_gf (kk := 8) (t := 0) (cod_170 rfl) sq_p_597 sq_l_597_8 rfl rfl ?_
  refine x_pf (kk := 11) (t := 0) (cod_170 rfl) sq_p_597 sq_l_597_11 rfl rfl rfl ?_
  have H2 := H _ rfl
  generalize umem m 597 11 (m 597 8) = m1 at H2 ⊢
  refine x_s (q := (.aload_n 0, 0, 0, 0)) (cod_170 rfl) rfl rfl rfl ?_
  refine x_gf (kk := 8) (t := 0) (cod_170 rfl) sq_p_597 sq_l_597_8 rfl rfl ?_
  refine x_s (q := (.aload_n 0, 0, 0, 0)) (cod_170 rfl) rfl rfl rfl ?_
  refine x_gf (kk := 3) (t := 0) (cod_170 rfl) sq_p_597 sq_l_597_3 rfl rfl ?_
  refine x_ic (p := (m1 597 8) < (m1 597 3)) (tgt := 79) (cod_170 rfl) (by decide) xj_lt (fun h => ?_) (fun h => ?_)
  · have H3 := H2.1 h
    refine x_s (q := (.aload_n 0, 0, 0, 0)) (cod_170 rfl) rfl rfl rfl ?_
    refine x_s (q := (.aload_n 0, 0, 0, 0)) (cod_170 rfl) rfl rfl rfl ?_
    refine x_gf (kk := 8) (t := 0) (cod_170 rfl) sq_p_597 sq_l_597_8 rfl rfl ?_
    refine x_call (as := [(1, 597), (0, m1 597 8)]) (rest := []) (cod_170 rfl) rfl rfl (by decide) (by decide) rfl rfl (Nat.le_of_ble_eq_true rfl) (rcv0 sq_l_597_0 sq_p_597 (by decide)) (Nat.le_of_ble_eq_true rfl) ?_
    show X 171 0 [(1, 597), (0, m1 597 8)] [] m1 _
    refine x_s (q := (.iload_n 1, 0, 0, 0)) (cod_171 rfl) rfl rfl rfl ?_
    refine x_s (q := (.aload_n 0, 0, 0, 0)) (cod_171 rfl) rfl rfl rfl ?_
    refine x_gf (kk := 3) (t := 0) (cod_171 rfl) sq_p_597 sq_l_597_3 rfl rfl ?_
    refine x_ic (p := ¬ (m1 597 8) < (m1 597 3)) (tgt := 28) (cod_171 rfl) (by decide) xn_ge (fun h => ?_) (fun h => ?_)
    · have H5 := H3.2 h
      refine x_s (q := (.iconst 0, 0, 0, 0)) (cod_171 rfl) rfl rfl rfl ?_
      refine x_rI (t := .boolean) (cod_171 rfl) rfl rfl rfl ?_
      show X 170 87 [(1, 597)] [(0, 0)] m1 _
      refine x_ift (tgt := 97) (cod_170 rfl) (by decide) (by decide) ?_
      refine x_s (q := (.aload_n 0, 0, 0, 0)) (cod_170 rfl) rfl rfl rfl ?_
      refine x_s (q := (.aload_n 0, 0, 0, 0)) (cod_170 rfl) rfl rfl rfl ?_
      refine x_gf (kk := 8) (t := 0) (cod_170 rfl) sq_p_597 sq_l_597_8 rfl rfl ?_
      refine x_call (as := [(1, 597), (0, m1 597 8)]) (rest := []) (cod_170 rfl) rfl rfl (by decide) (by decide) rfl rfl (Nat.le_of_ble_eq_true rfl) (rcv0 sq_l_597_0 sq_p_597 (by decide)) (Nat.le_of_ble_eq_true rfl) ?_
      show X 175 0 [(1, 597), (0, m1 597 8)] [] m1 _
      refine x_s (q := (.iload_n 1, 0, 0, 0)) (cod_175 rfl) rfl rfl rfl ?_
      refine x_s (q := (.aload_n 0, 0, 0, 0)) (cod_175 rfl) rfl rfl rfl ?_
      refine x_gf (kk := 3) (t := 0) (cod_175 rfl) sq_p_597 sq_l_597_3 rfl rfl ?_
      refine x_ic (p := ¬ (m1 597 8) < (m1 597 3)) (tgt := 28) (cod_175 rfl) (by decide) xn_ge (fun h => ?_) (fun h => ?_)
      · have H7 := H5.2 h
        refine x_s (q := (.iconst 0, 0, 0, 0)) (cod_175 rfl) rfl rfl rfl ?_
        refine x_rI (t := .boolean) (cod_175 rfl) rfl rfl rfl ?_
        show X 170 105 [(1, 597)] [(0, 0)] m1 _
        refine x_ift (tgt := 182) (cod_170 rfl) (by decide) (by decide) ?_
        refine x_s (q := (.aload_n 0, 0, 0, 0)) (cod_170 rfl) rfl rfl rfl ?_
        refine x_s (q := (.aload_n 0, 0, 0, 0)) (cod_170 rfl) rfl rfl rfl ?_
        refine x_s (q := (.aload_n 0, 0, 0, 0)) (cod_170 rfl) rfl rfl rfl ?_
        refine x_gc (kk := 1) (c := 598) (t := 1) (cod_170 rfl) sq_p_597 sq_l_597_1 rfl rfl ?_
        refine x_s (q := (.aload_n 0, 0, 0, 0)) (cod_170 rfl) rfl rfl rfl ?_
        refine x_gf (kk := 8) (t := 0) (cod_170 rfl) sq_p_597 sq_l_597_8 rfl rfl ?_
        obtain ⟨c9, H10⟩ := H7
        refine x_iald (cod_170 rfl) sq_a_598.s (sq_a_598.k c9.1 c9.2) ?_
        refine x_call (as := [(1, 597), (0, m1 598 (m1 597 8))]) (rest := [(1, 597)]) (cod_170 rfl) rfl rfl (by decide) (by decide) rfl rfl (Nat.le_of_ble_eq_true rfl) (rcv0 sq_l_597_0 sq_p_597 (by decide)) (Nat.le_of_ble_eq_true rfl) ?_
        refine X.imp H10 ?_
        rintro _ m11 ⟨v13, rfl, H12⟩
        show X 170 196 [(1, 597)] [(0, v13), (1, 597)] m11 _
        refine x_pf (kk := 10) (t := 0) (cod_170 rfl) sq_p_597 sq_l_597_10 rfl rfl rfl ?_
        have H15 := H12 _ rfl
        generalize umem m11 597 10 v13 = m14 at H15 ⊢
        refine x_s (q := (.aload_n 0, 0, 0, 0)) (cod_170 rfl) rfl rfl rfl ?_
        refine x_s (q := (.aload_n 0, 0, 0, 0)) (cod_170 rfl) rfl rfl rfl ?_
        refine x_gc (kk := 1) (c := 598) (t := 1) (cod_170 rfl) sq_p_597 sq_l_597_1 rfl rfl ?_
        refine x_s (q := (.aload_n 0, 0, 0, 0)) (cod_170 rfl) rfl rfl rfl ?_
        refine x_gf (kk := 8) (t := 0) (cod_170 rfl) sq_p_597 sq_l_597_8 rfl rfl ?_
        obtain ⟨c16, H17⟩ := H15
        refine x_iald (cod_170 rfl) sq_a_598.s (sq_a_598.k c16.1 c16.2) ?_
        refine x_s (q := (.bipush 59, 0, 0, 0)) (cod_170 rfl) rfl rfl rfl ?_
        refine x_ic (p := ¬ (m14 598 (m14 597 8)) = 59) (tgt := 218) (cod_170 rfl) (by decide) xj_ne (fun h => ?_) (fun h => ?_)
        · have H18 := H17.2 h
          refine x_s (q := (.aload_n 0, 0, 0, 0)) (cod_170 rfl) rfl rfl rfl ?_
          refine x_gc (kk := 1) (c := 598) (t := 1) (cod_170 rfl) sq_p_597 sq_l_597_1 rfl rfl ?_
          refine x_s (q := (.aload_n 0, 0, 0, 0)) (cod_170 rfl) rfl rfl rfl ?_
          refine x_gf (kk := 8) (t := 0) (cod_170 rfl) sq_p_597 sq_l_597_8 rfl rfl ?_
          refine x_iald (cod_170 rfl) sq_a_598.s (sq_a_598.k c16.1 c16.2) ?_
          refine x_s (q := (.bipush 45, 0, 0, 0)) (cod_170 rfl) rfl rfl rfl ?_
          refine x_ic (p := ¬ (m14 598 (m14 597 8)) = 45) (tgt := 237) (cod_170 rfl) (by decide) xj_ne (fun h => ?_) (fun h => ?_)
          · have H20 := H18.2 h
            refine x_s (q := (.aload_n 0, 0, 0, 0)) (cod_170 rfl) rfl rfl rfl ?_
            refine x_gf (kk := 10) (t := 0) (cod_170 rfl) sq_p_597 sq_l_597_10 rfl rfl ?_
            refine x_if (p := (m14 597 10) < 0) (tgt := 248) (cod_170 rfl) (by decide) xj_lt (fun h => ?_) (fun h => ?_)
            · have H22 := H20.1 h
              refine x_s (q := (.bipush 7, 0, 0, 0)) (cod_170 rfl) rfl rfl rfl ?_
              refine x_pf (kk := 9) (t := 0) (cod_170 rfl) sq_p_597 sq_l_597_9 rfl rfl rfl ?_
              have H25 := H22 _ rfl
              generalize umem m14 597 9 7 = m24 at H25 ⊢
              refine x_s (q := (.aload_n 0, 0, 0, 0)) (cod_170 rfl) rfl rfl rfl ?_
              refine x_s (q := (.dup, 0, 0, 0)) (cod_170 rfl) rfl rfl rfl ?_
              refine x_gf (kk := 8) (t := 0) (cod_170 rfl) sq_p_597 sq_l_597_8 rfl rfl ?_
              refine x_s (q := (.iconst 1, 0, 0, 0)) (cod_170 rfl) rfl rfl rfl ?_
              refine x_s (q := (.iadd, 0, 0, 0)) (cod_170 rfl) rfl rfl rfl ?_
              refine x_pf (kk := 8) (t := 0) (cod_170 rfl) sq_p_597 sq_l_597_8 rfl rfl rfl ?_
              have H27 := H25 _ rfl
              generalize umem m24 597 8 (wr ((m24 597 8) + 1)) = m26 at H27 ⊢
              refine x_retV (cod_170 rfl) rfl ?_
              exact H27
            · have H23 := H20.2 h
              refine x_s (q := (.iconst 5, 0, 0, 0)) (cod_170 rfl) rfl rfl rfl ?_
              refine x_go (tgt := 250) (cod_170 rfl) (by decide) ?_
              refine x_pf (kk := 9) (t := 0) (cod_170 rfl) sq_p_597 sq_l_597_9 rfl rfl rfl ?_
              have H29 := H23 _ rfl
              generalize umem m14 597 9 5 = m28 at H29 ⊢
              refine x_s (q := (.aload_n 0, 0, 0, 0)) (cod_170 rfl) rfl rfl rfl ?_
              refine x_s (q := (.dup, 0, 0, 0)) (cod_170 rfl) rfl rfl rfl ?_
              refine x_gf (kk := 8) (t := 0) (cod_170 rfl) sq_p_597 sq_l_597_8 rfl rfl ?_
              refine x_s (q := (.iconst 1, 0, 0, 0)) (cod_170 rfl) rfl rfl rfl ?_
              refine x_s (q := (.iadd, 0, 0, 0)) (cod_170 rfl) rfl rfl rfl ?_
              refine x_pf (kk := 8) (t := 0) (cod_170 rfl) sq_p_597 sq_l_597_8 rfl rfl rfl ?_
              have H31 := H29 _ rfl
              generalize umem m28 597 8 (wr ((m28 597 8) + 1)) = m30 at H31 ⊢
              refine x_retV (cod_170 rfl) rfl ?_
              exact H31
          · have H21 := H18.1 (Classical.not_not.mp h)
            refine x_s (q := (.bipush 6, 0, 0, 0)) (cod_170 rfl) rfl rfl rfl ?_
            refine x_go (tgt := 250) (cod_170 rfl) (by decide) ?_
            refine x_pf (kk := 9) (t := 0) (cod_170 rfl) sq_p_597 sq_l_597_9 rfl rfl rfl ?_
            have H33 := H21 _ rfl
            generalize umem m14 597 9 6 = m32 at H33 ⊢
            refine x_s (q := (.aload_n 0, 0, 0, 0)) (cod_170 rfl) rfl rfl rfl ?_
            refine x_s (q := (.dup, 0, 0, 0)) (cod_170 rfl) rfl rfl rfl ?_
            refine x_gf (kk := 8) (t := 0) (cod_170 rfl) sq_p_597 sq_l_597_8 rfl rfl ?_
            refine x_s (q := (.iconst 1, 0, 0, 0)) (cod_170 rfl) rfl rfl rfl ?_
            refine x_s (q := (.iadd, 0, 0, 0)) (cod_170 rfl) rfl rfl rfl ?_
            refine x_pf (kk := 8) (t := 0) (cod_170 rfl) sq_p_597 sq_l_597_8 rfl rfl rfl ?_
            have H35 := H33 _ rfl
            generalize umem m32 597 8 (wr ((m32 597 8) + 1)) = m34 at H35 ⊢
            refine x_retV (cod_170 rfl) rfl ?_
            exact H35
        · have H19 := H17.1 (Classical.not_not.mp h)
          refine x_s (q := (.iconst 4, 0, 0, 0)) (cod_170 rfl) rfl rfl rfl ?_
          refine x_go (tgt := 250) (cod_170 rfl) (by decide) ?_
          refine x_pf (kk := 9) (t := 0) (cod_170 rfl) sq_p_597 sq_l_597_9 rfl rfl rfl ?_
          have H37 := H19 _ rfl
          generalize umem m14 597 9 4 = m36 at H37 ⊢
          refine x_s (q := (.aload_n 0, 0, 0, 0)) (cod_170 rfl) rfl rfl rfl ?_
          refine x_s (q := (.dup, 0, 0, 0)) (cod_170 rfl) rfl rfl rfl ?_
          refine x_gf (kk := 8) (t := 0) (cod_170 rfl) sq_p_597 sq_l_597_8 rfl rfl ?_
          refine x_s (q := (.iconst 1, 0, 0, 0)) (cod_170 rfl) rfl rfl rfl ?_
          refine x_s (q := (.iadd, 0, 0, 0)) (cod_170 rfl) rfl rfl rfl ?_
          refine x_pf (kk := 8) (t := 0) (cod_170 rfl) sq_p_597 sq_l_597_8 rfl rfl rfl ?_
          have H39 := H37 _ rfl
          generalize umem m36 597 8 (wr ((m36 597 8) + 1)) = m38 at H39 ⊢
          refine x_retV (cod_170 rfl) rfl ?_
          exact H39
      · have H8 := H5.1 (Classical.not_not.mp h)
        refine x_s (q := (.aload_n 0, 0, 0, 0)) (cod_175 rfl) rfl rfl rfl ?_
        refine x_gc (kk := 1) (c := 598) (t := 1) (cod_175 rfl) sq_p_597 sq_l_597_1 rfl rfl ?_
        refine x_s (q := (.iload_n 1, 0, 0, 0)) (cod_175 rfl) rfl rfl rfl ?_
        obtain ⟨c40, H41⟩ := H8
        refine x_iald (cod_175 rfl) sq_a_598.s (sq_a_598.k c40.1 c40.2) ?_
        refine x_s (q := (.bipush 48, 0, 0, 0)) (cod_175 rfl) rfl rfl rfl ?_
        refine x_s (q := (.bipush 57, 0, 0, 0)) (cod_175 rfl) rfl rfl rfl ?_
        refine x_call (as := [(0, m1 598 (m1 597 8)), (0, 48), (0, 57)]) (rest := []) (cod_175 rfl) rfl rfl (by decide) (by decide) rfl rfl (Nat.le_of_ble_eq_true rfl) rfl (Nat.le_of_ble_eq_true rfl) ?_
        refine x_pure (p172) ?_
        show X 175 21 [(1, 597), (0, m1 597 8)] [(0, bi (48 ≤ (m1 598 (m1 597 8)) ∧ (m1 598 (m1 597 8)) ≤ 57))] m1 _
        refine x_if (p := ¬ (48 ≤ (m1 598 (m1 597 8)) ∧ (m1 598 (m1 597 8)) ≤ 57)) (tgt := 28) (cod_175 rfl) (by decide) xb_eq (fun h => ?_) (fun h => ?_)
        · have H42 := H41.2 h
          refine x_s (q := (.iconst 0, 0, 0, 0)) (cod_175 rfl) rfl rfl rfl ?_
          refine x_rI (t := .boolean) (cod_175 rfl) rfl rfl rfl ?_
          show X 170 105 [(1, 597)] [(0, 0)] m1 _
          refine x_ift (tgt := 182) (cod_170 rfl) (by decide) (by decide) ?_
          refine x_s (q := (.aload_n 0, 0, 0, 0)) (cod_170 rfl) rfl rfl rfl ?_
          refine x_s (q := (.aload_n 0, 0, 0, 0)) (cod_170 rfl) rfl rfl rfl ?_
          refine x_s (q := (.aload_n 0, 0, 0, 0)) (cod_170 rfl) rfl rfl rfl ?_
          refine x_gc (kk := 1) (c := 598) (t := 1) (cod_170 rfl) sq_p_597 sq_l_597_1 rfl rfl ?_
          refine x_s (q := (.aload_n 0, 0, 0, 0)) (cod_170 rfl) rfl rfl rfl ?_
          refine x_gf (kk := 8) (t := 0) (cod_170 rfl) sq_p_597 sq_l_597_8 rfl rfl ?_
          refine x_iald (cod_170 rfl) sq_a_598.s (sq_a_598.k c40.1 c40.2) ?_
          refine x_call (as := [(1, 597), (0, m1 598 (m1 597 8))]) (rest := [(1, 597)]) (cod_170 rfl) rfl rfl (by decide) (by decide) rfl rfl (Nat.le_of_ble_eq_true rfl) (rcv0 sq_l_597_0 sq_p_597 (by decide)) (Nat.le_of_ble_eq_true rfl) ?_
          refine X.imp H42 ?_
          rintro _ m44 ⟨v46, rfl, H45⟩
          show X 170 196 [(1, 597)] [(0, v46), (1, 597)] m44 _
          refine x_pf (kk := 10) (t := 0) (cod_170 rfl) sq_p_597 sq_l_597_10 rfl rfl rfl ?_
          have H48 := H45 _ rfl
          generalize umem m44 597 10 v46 = m47 at H48 ⊢
          refine x_s (q := (.aload_n 0, 0, 0, 0)) (cod_170 rfl) rfl rfl rfl ?_
          refine x_s (q := (.aload_n 0, 0, 0, 0)) (cod_170 rfl) rfl rfl rfl ?_
          refine x_gc (kk := 1) (c := 598) (t := 1) (cod_170 rfl) sq_p_597 sq_l_597_1 rfl rfl ?_
          refine x_s (q := (.aload_n 0, 0, 0, 0)) (cod_170 rfl) rfl rfl rfl ?_
          refine x_gf (kk := 8) (t := 0) (cod_170 rfl) sq_p_597 sq_l_597_8 rfl rfl ?_
          obtain ⟨c49, H50⟩ := H48
          refine x_iald (cod_170 rfl) sq_a_598.s (sq_a_598.k c49.1 c49.2) ?_
          refine x_s (q := (.bipush 59, 0, 0, 0)) (cod_170 rfl) rfl rfl rfl ?_
          refine x_ic (p := ¬ (m47 598 (m47 597 8)) = 59) (tgt := 218) (cod_170 rfl) (by decide) xj_ne (fun h => ?_) (fun h => ?_)
          · have H51 := H50.2 h
            refine x_s (q := (.aload_n 0, 0, 0, 0)) (cod_170 rfl) rfl rfl rfl ?_
            refine x_gc (kk := 1) (c := 598) (t := 1) (cod_170 rfl) sq_p_597 sq_l_597_1 rfl rfl ?_
            refine x_s (q := (.aload_n 0, 0, 0, 0)) (cod_170 rfl) rfl rfl rfl ?_
            refine x_gf (kk := 8) (t := 0) (cod_170 rfl) sq_p_597 sq_l_597_8 rfl rfl ?_
            refine x_iald (cod_170 rfl) sq_a_598.s (sq_a_598.k c49.1 c49.2) ?_
            refine x_s (q := (.bipush 45, 0, 0, 0)) (cod_170 rfl) rfl rfl rfl ?_
            refine x_ic (p := ¬ (m47 598 (m47 597 8)) = 45) (tgt := 237) (cod_170 rfl) (by decide) xj_ne (fun h => ?_) (fun h => ?_)
            · have H53 := H51.2 h
              refine x_s (q := (.aload_n 0, 0, 0, 0)) (cod_170 rfl) rfl rfl rfl ?_
              refine x_gf (kk := 10) (t := 0) (cod_170 rfl) sq_p_597 sq_l_597_10 rfl rfl ?_
              refine x_if (p := (m47 597 10) < 0) (tgt := 248) (cod_170 rfl) (by decide) xj_lt (fun h => ?_) (fun h => ?_)
              · have H55 := H53.1 h
                refine x_s (q := (.bipush 7, 0, 0, 0)) (cod_170 rfl) rfl rfl rfl ?_
                refine x_pf (kk := 9) (t := 0) (cod_170 rfl) sq_p_597 sq_l_597_9 rfl rfl rfl ?_
                have H58 := H55 _ rfl
                generalize umem m47 597 9 7 = m57 at H58 ⊢
                refine x_s (q := (.aload_n 0, 0, 0, 0)) (cod_170 rfl) rfl rfl rfl ?_
                refine x_s (q := (.dup, 0, 0, 0)) (cod_170 rfl) rfl rfl rfl ?_
                refine x_gf (kk := 8) (t := 0) (cod_170 rfl) sq_p_597 sq_l_597_8 rfl rfl ?_
                refine x_s (q := (.iconst 1, 0, 0, 0)) (cod_170 rfl) rfl rfl rfl ?_
                refine x_s (q := (.iadd, 0, 0, 0)) (cod_170 rfl) rfl rfl rfl ?_
                refine x_pf (kk := 8) (t := 0) (cod_170 rfl) sq_p_597 sq_l_597_8 rfl rfl rfl ?_
                have H60 := H58 _ rfl
                generalize umem m57 597 8 (wr ((m57 597 8) + 1)) = m59 at H60 ⊢
                refine x_retV (cod_170 rfl) rfl ?_
                exact H60
              · have H56 := H53.2 h
                refine x_s (q := (.iconst 5, 0, 0, 0)) (cod_170 rfl) rfl rfl rfl ?_
                refine x_go (tgt := 250) (cod_170 rfl) (by decide) ?_
                refine x_pf (kk := 9) (t := 0) (cod_170 rfl) sq_p_597 sq_l_597_9 rfl rfl rfl ?_
                have H62 := H56 _ rfl
                generalize umem m47 597 9 5 = m61 at H62 ⊢
                refine x_s (q := (.aload_n 0, 0, 0, 0)) (cod_170 rfl) rfl rfl rfl ?_
                refine x_s (q := (.dup, 0, 0, 0)) (cod_170 rfl) rfl rfl rfl ?_
                refine x_gf (kk := 8) (t := 0) (cod_170 rfl) sq_p_597 sq_l_597_8 rfl rfl ?_
                refine x_s (q := (.iconst 1, 0, 0, 0)) (cod_170 rfl) rfl rfl rfl ?_
                refine x_s (q := (.iadd, 0, 0, 0)) (cod_170 rfl) rfl rfl rfl ?_
                refine x_pf (kk := 8) (t := 0) (cod_170 rfl) sq_p_597 sq_l_597_8 rfl rfl rfl ?_
                have H64 := H62 _ rfl
                generalize umem m61 597 8 (wr ((m61 597 8) + 1)) = m63 at H64 ⊢
                refine x_retV (cod_170 rfl) rfl ?_
                exact H64
            · have H54 := H51.1 (Classical.not_not.mp h)
              refine x_s (q := (.bipush 6, 0, 0, 0)) (cod_170 rfl) rfl rfl rfl ?_
              refine x_go (tgt := 250) (cod_170 rfl) (by decide) ?_
              refine x_pf (kk := 9) (t := 0) (cod_170 rfl) sq_p_597 sq_l_597_9 rfl rfl rfl ?_
              have H66 := H54 _ rfl
              generalize umem m47 597 9 6 = m65 at H66 ⊢
              refine x_s (q := (.aload_n 0, 0, 0, 0)) (cod_170 rfl) rfl rfl rfl ?_
              refine x_s (q := (.dup, 0, 0, 0)) (cod_170 rfl) rfl rfl rfl ?_
              refine x_gf (kk := 8) (t := 0) (cod_170 rfl) sq_p_597 sq_l_597_8 rfl rfl ?_
              refine x_s (q := (.iconst 1, 0, 0, 0)) (cod_170 rfl) rfl rfl rfl ?_
              refine x_s (q := (.iadd, 0, 0, 0)) (cod_170 rfl) rfl rfl rfl ?_
              refine x_pf (kk := 8) (t := 0) (cod_170 rfl) sq_p_597 sq_l_597_8 rfl rfl rfl ?_
              have H68 := H66 _ rfl
              generalize umem m65 597 8 (wr ((m65 597 8) + 1)) = m67 at H68 ⊢
              refine x_retV (cod_170 rfl) rfl ?_
              exact H68
          · have H52 := H50.1 (Classical.not_not.mp h)
            refine x_s (q := (.iconst 4, 0, 0, 0)) (cod_170 rfl) rfl rfl rfl ?_
            refine x_go (tgt := 250) (cod_170 rfl) (by decide) ?_
            refine x_pf (kk := 9) (t := 0) (cod_170 rfl) sq_p_597 sq_l_597_9 rfl rfl rfl ?_
            have H70 := H52 _ rfl
            generalize umem m47 597 9 4 = m69 at H70 ⊢
            refine x_s (q := (.aload_n 0, 0, 0, 0)) (cod_170 rfl) rfl rfl rfl ?_
            refine x_s (q := (.dup, 0, 0, 0)) (cod_170 rfl) rfl rfl rfl ?_
            refine x_gf (kk := 8) (t := 0) (cod_170 rfl) sq_p_597 sq_l_597_8 rfl rfl ?_
            refine x_s (q := (.iconst 1, 0, 0, 0)) (cod_170 rfl) rfl rfl rfl ?_
            refine x_s (q := (.iadd, 0, 0, 0)) (cod_170 rfl) rfl rfl rfl ?_
            refine x_pf (kk := 8) (t := 0) (cod_170 rfl) sq_p_597 sq_l_597_8 rfl rfl rfl ?_
            have H72 := H70 _ rfl
            generalize umem m69 597 8 (wr ((m69 597 8) + 1)) = m71 at H72 ⊢
            refine x_retV (cod_170 rfl) rfl ?_
            exact H72
        · have H43 := H41.1 (Classical.not_not.mp h)
          refine x_s (q := (.iconst 1, 0, 0, 0)) (cod_175 rfl) rfl rfl rfl ?_
          refine x_go (tgt := 29) (cod_175 rfl) (by decide) ?_
          refine x_rI (t := .boolean) (cod_175 rfl) rfl rfl rfl ?_
          show X 170 105 [(1, 597)] [(0, 1)] m1 _
          refine x_iff (cod_170 rfl) (by decide) (by decide) ?_
          refine x_s (q := (.aload_n 0, 0, 0, 0)) (cod_170 rfl) rfl rfl rfl ?_
          refine x_s (q := (.iconst 3, 0, 0, 0)) (cod_170 rfl) rfl rfl rfl ?_
          refine x_pf (kk := 9) (t := 0) (cod_170 rfl) sq_p_597 sq_l_597_9 rfl rfl rfl ?_
          have H74 := H43 _ rfl
          generalize umem m1 597 9 3 = m73 at H74 ⊢
          refine x_s (q := (.aload_n 0, 0, 0, 0)) (cod_170 rfl) rfl rfl rfl ?_
          refine x_s (q := (.iconst 0, 0, 0, 0)) (cod_170 rfl) rfl rfl rfl ?_
          refine x_pf (kk := 10) (t := 0) (cod_170 rfl) sq_p_597 sq_l_597_10 rfl rfl rfl ?_
          have H76 := H74 _ rfl
          generalize umem m73 597 10 0 = m75 at H76 ⊢
          exact H76
    · have H6 := H3.1 (Classical.not_not.mp h)
      refine x_s (q := (.aload_n 0, 0, 0, 0)) (cod_171 rfl) rfl rfl rfl ?_
      refine x_gc (kk := 1) (c := 598) (t := 1) (cod_171 rfl) sq_p_597 sq_l_597_1 rfl rfl ?_
      refine x_s (q := (.iload_n 1, 0, 0, 0)) (cod_171 rfl) rfl rfl rfl ?_
      obtain ⟨c77, H78⟩ := H6
      refine x_iald (cod_171 rfl) sq_a_598.s (sq_a_598.k c77.1 c77.2) ?_
      refine x_s (q := (.bipush 97, 0, 0, 0)) (cod_171 rfl) rfl rfl rfl ?_
      refine x_s (q := (.bipush 122, 0, 0, 0)) (cod_171 rfl) rfl rfl rfl ?_
      refine x_call (as := [(0, m1 598 (m1 597 8)), (0, 97), (0, 122)]) (rest := []) (cod_171 rfl) rfl rfl (by decide) (by decide) rfl rfl (Nat.le_of_ble_eq_true rfl) rfl (Nat.le_of_ble_eq_true rfl) ?_
      refine x_pure (p172) ?_
      show X 171 21 [(1, 597), (0, m1 597 8)] [(0, bi (97 ≤ (m1 598 (m1 597 8)) ∧ (m1 598 (m1 597 8)) ≤ 122))] m1 _
      refine x_if (p := ¬ (97 ≤ (m1 598 (m1 597 8)) ∧ (m1 598 (m1 597 8)) ≤ 122)) (tgt := 28) (cod_171 rfl) (by decide) xb_eq (fun h => ?_) (fun h => ?_)
      · have H79 := H78.2 h
        refine x_s (q := (.iconst 0, 0, 0, 0)) (cod_171 rfl) rfl rfl rfl ?_
        refine x_rI (t := .boolean) (cod_171 rfl) rfl rfl rfl ?_
        show X 170 87 [(1, 597)] [(0, 0)] m1 _
        refine x_ift (tgt := 97) (cod_170 rfl) (by decide) (by decide) ?_
        refine x_s (q := (.aload_n 0, 0, 0, 0)) (cod_170 rfl) rfl rfl rfl ?_
        refine x_s (q := (.aload_n 0, 0, 0, 0)) (cod_170 rfl) rfl rfl rfl ?_
        refine x_gf (kk := 8) (t := 0) (cod_170 rfl) sq_p_597 sq_l_597_8 rfl rfl ?_
        refine x_call (as := [(1, 597), (0, m1 597 8)]) (rest := []) (cod_170 rfl) rfl rfl (by decide) (by decide) rfl rfl (Nat.le_of_ble_eq_true rfl) (rcv0 sq_l_597_0 sq_p_597 (by decide)) (Nat.le_of_ble_eq_true rfl) ?_
        show X 175 0 [(1, 597), (0, m1 597 8)] [] m1 _
        refine x_s (q := (.iload_n 1, 0, 0, 0)) (cod_175 rfl) rfl rfl rfl ?_
        refine x_s (q := (.aload_n 0, 0, 0, 0)) (cod_175 rfl) rfl rfl rfl ?_
        refine x_gf (kk := 3) (t := 0) (cod_175 rfl) sq_p_597 sq_l_597_3 rfl rfl ?_
        refine x_ic (p := ¬ (m1 597 8) < (m1 597 3)) (tgt := 28) (cod_175 rfl) (by decide) xn_ge (fun h => ?_) (fun h => ?_)
        · have H81 := H79.2 h
          refine x_s (q := (.iconst 0, 0, 0, 0)) (cod_175 rfl) rfl rfl rfl ?_
          refine x_rI (t := .boolean) (cod_175 rfl) rfl rfl rfl ?_
          show X 170 105 [(1, 597)] [(0, 0)] m1 _
          refine x_ift (tgt := 182) (cod_170 rfl) (by decide) (by decide) ?_
          refine x_s (q := (.aload_n 0, 0, 0, 0)) (cod_170 rfl) rfl rfl rfl ?_
          refine x_s (q := (.aload_n 0, 0, 0, 0)) (cod_170 rfl) rfl rfl rfl ?_
          refine x_s (q := (.aload_n 0, 0, 0, 0)) (cod_170 rfl) rfl rfl rfl ?_
          refine x_gc (kk := 1) (c := 598) (t := 1) (cod_170 rfl) sq_p_597 sq_l_597_1 rfl rfl ?_
          refine x_s (q := (.aload_n 0, 0, 0, 0)) (cod_170 rfl) rfl rfl rfl ?_
          refine x_gf (kk := 8) (t := 0) (cod_170 rfl) sq_p_597 sq_l_597_8 rfl rfl ?_
          refine x_iald (cod_170 rfl) sq_a_598.s (sq_a_598.k c77.1 c77.2) ?_
          refine x_call (as := [(1, 597), (0, m1 598 (m1 597 8))]) (rest := [(1, 597)]) (cod_170 rfl) rfl rfl (by decide) (by decide) rfl rfl (Nat.le_of_ble_eq_true rfl) (rcv0 sq_l_597_0 sq_p_597 (by decide)) (Nat.le_of_ble_eq_true rfl) ?_
          refine X.imp H81 ?_
          rintro _ m83 ⟨v85, rfl, H84⟩
          show X 170 196 [(1, 597)] [(0, v85), (1, 597)] m83 _
          refine x_pf (kk := 10) (t := 0) (cod_170 rfl) sq_p_597 sq_l_597_10 rfl rfl rfl ?_
          have H87 := H84 _ rfl
          generalize umem m83 597 10 v85 = m86 at H87 ⊢
          refine x_s (q := (.aload_n 0, 0, 0, 0)) (cod_170 rfl) rfl rfl rfl ?_
          refine x_s (q := (.aload_n 0, 0, 0, 0)) (cod_170 rfl) rfl rfl rfl ?_
          refine x_gc (kk := 1) (c := 598) (t := 1) (cod_170 rfl) sq_p_597 sq_l_597_1 rfl rfl ?_
          refine x_s (q := (.aload_n 0, 0, 0, 0)) (cod_170 rfl) rfl rfl rfl ?_
          refine x_gf (kk := 8) (t := 0) (cod_170 rfl) sq_p_597 sq_l_597_8 rfl rfl ?_
          obtain ⟨c88, H89⟩ := H87
          refine x_iald (cod_170 rfl) sq_a_598.s (sq_a_598.k c88.1 c88.2) ?_
          refine x_s (q := (.bipush 59, 0, 0, 0)) (cod_170 rfl) rfl rfl rfl ?_
          refine x_ic (p := ¬ (m86 598 (m86 597 8)) = 59) (tgt := 218) (cod_170 rfl) (by decide) xj_ne (fun h => ?_) (fun h => ?_)
          · have H90 := H89.2 h
            refine x_s (q := (.aload_n 0, 0, 0, 0)) (cod_170 rfl) rfl rfl rfl ?_
            refine x_gc (kk := 1) (c := 598) (t := 1) (cod_170 rfl) sq_p_597 sq_l_597_1 rfl rfl ?_
            refine x_s (q := (.aload_n 0, 0, 0, 0)) (cod_170 rfl) rfl rfl rfl ?_
            refine x_gf (kk := 8) (t := 0) (cod_170 rfl) sq_p_597 sq_l_597_8 rfl rfl ?_
            refine x_iald (cod_170 rfl) sq_a_598.s (sq_a_598.k c88.1 c88.2) ?_
            refine x_s (q := (.bipush 45, 0, 0, 0)) (cod_170 rfl) rfl rfl rfl ?_
            refine x_ic (p := ¬ (m86 598 (m86 597 8)) = 45) (tgt := 237) (cod_170 rfl) (by decide) xj_ne (fun h => ?_) (fun h => ?_)
            · have H92 := H90.2 h
              refine x_s (q := (.aload_n 0, 0, 0, 0)) (cod_170 rfl) rfl rfl rfl ?_
              refine x_gf (kk := 10) (t := 0) (cod_170 rfl) sq_p_597 sq_l_597_10 rfl rfl ?_
              refine x_if (p := (m86 597 10) < 0) (tgt := 248) (cod_170 rfl) (by decide) xj_lt (fun h => ?_) (fun h => ?_)
              · have H94 := H92.1 h
                refine x_s (q := (.bipush 7, 0, 0, 0)) (cod_170 rfl) rfl rfl rfl ?_
                refine x_pf (kk := 9) (t := 0) (cod_170 rfl) sq_p_597 sq_l_597_9 rfl rfl rfl ?_
                have H97 := H94 _ rfl
                generalize umem m86 597 9 7 = m96 at H97 ⊢
                refine x_s (q := (.aload_n 0, 0, 0, 0)) (cod_170 rfl) rfl rfl rfl ?_
                refine x_s (q := (.dup, 0, 0, 0)) (cod_170 rfl) rfl rfl rfl ?_
                refine x_gf (kk := 8) (t := 0) (cod_170 rfl) sq_p_597 sq_l_597_8 rfl rfl ?_
                refine x_s (q := (.iconst 1, 0, 0, 0)) (cod_170 rfl) rfl rfl rfl ?_
                refine x_s (q := (.iadd, 0, 0, 0)) (cod_170 rfl) rfl rfl rfl ?_
                refine x_pf (kk := 8) (t := 0) (cod_170 rfl) sq_p_597 sq_l_597_8 rfl rfl rfl ?_
                have H99 := H97 _ rfl
                generalize umem m96 597 8 (wr ((m96 597 8) + 1)) = m98 at H99 ⊢
                refine x_retV (cod_170 rfl) rfl ?_
                exact H99
              · have H95 := H92.2 h
                refine x_s (q := (.iconst 5, 0, 0, 0)) (cod_170 rfl) rfl rfl rfl ?_
                refine x_go (tgt := 250) (cod_170 rfl) (by decide) ?_
                refine x_pf (kk := 9) (t := 0) (cod_170 rfl) sq_p_597 sq_l_597_9 rfl rfl rfl ?_
                have H101 := H95 _ rfl
                generalize umem m86 597 9 5 = m100 at H101 ⊢
                refine x_s (q := (.aload_n 0, 0, 0, 0)) (cod_170 rfl) rfl rfl rfl ?_
                refine x_s (q := (.dup, 0, 0, 0)) (cod_170 rfl) rfl rfl rfl ?_
                refine x_gf (kk := 8) (t := 0) (cod_170 rfl) sq_p_597 sq_l_597_8 rfl rfl ?_
                refine x_s (q := (.iconst 1, 0, 0, 0)) (cod_170 rfl) rfl rfl rfl ?_
                refine x_s (q := (.iadd, 0, 0, 0)) (cod_170 rfl) rfl rfl rfl ?_
                refine x_pf (kk := 8) (t := 0) (cod_170 rfl) sq_p_597 sq_l_597_8 rfl rfl rfl ?_
                have H103 := H101 _ rfl
                generalize umem m100 597 8 (wr ((m100 597 8) + 1)) = m102 at H103 ⊢
                refine x_retV (cod_170 rfl) rfl ?_
                exact H103
            · have H93 := H90.1 (Classical.not_not.mp h)
              refine x_s (q := (.bipush 6, 0, 0, 0)) (cod_170 rfl) rfl rfl rfl ?_
              refine x_go (tgt := 250) (cod_170 rfl) (by decide) ?_
              refine x_pf (kk := 9) (t := 0) (cod_170 rfl) sq_p_597 sq_l_597_9 rfl rfl rfl ?_
              have H105 := H93 _ rfl
              generalize umem m86 597 9 6 = m104 at H105 ⊢
              refine x_s (q := (.aload_n 0, 0, 0, 0)) (cod_170 rfl) rfl rfl rfl ?_
              refine x_s (q := (.dup, 0, 0, 0)) (cod_170 rfl) rfl rfl rfl ?_
              refine x_gf (kk := 8) (t := 0) (cod_170 rfl) sq_p_597 sq_l_597_8 rfl rfl ?_
              refine x_s (q := (.iconst 1, 0, 0, 0)) (cod_170 rfl) rfl rfl rfl ?_
              refine x_s (q := (.iadd, 0, 0, 0)) (cod_170 rfl) rfl rfl rfl ?_
              refine x_pf (kk := 8) (t := 0) (cod_170 rfl) sq_p_597 sq_l_597_8 rfl rfl rfl ?_
              have H107 := H105 _ rfl
              generalize umem m104 597 8 (wr ((m104 597 8) + 1)) = m106 at H107 ⊢
              refine x_retV (cod_170 rfl) rfl ?_
              exact H107
          · have H91 := H89.1 (Classical.not_not.mp h)
            refine x_s (q := (.iconst 4, 0, 0, 0)) (cod_170 rfl) rfl rfl rfl ?_
            refine x_go (tgt := 250) (cod_170 rfl) (by decide) ?_
            refine x_pf (kk := 9) (t := 0) (cod_170 rfl) sq_p_597 sq_l_597_9 rfl rfl rfl ?_
            have H109 := H91 _ rfl
            generalize umem m86 597 9 4 = m108 at H109 ⊢
            refine x_s (q := (.aload_n 0, 0, 0, 0)) (cod_170 rfl) rfl rfl rfl ?_
            refine x_s (q := (.dup, 0, 0, 0)) (cod_170 rfl) rfl rfl rfl ?_
            refine x_gf (kk := 8) (t := 0) (cod_170 rfl) sq_p_597 sq_l_597_8 rfl rfl ?_
            refine x_s (q := (.iconst 1, 0, 0, 0)) (cod_170 rfl) rfl rfl rfl ?_
            refine x_s (q := (.iadd, 0, 0, 0)) (cod_170 rfl) rfl rfl rfl ?_
            refine x_pf (kk := 8) (t := 0) (cod_170 rfl) sq_p_597 sq_l_597_8 rfl rfl rfl ?_
            have H111 := H109 _ rfl
            generalize umem m108 597 8 (wr ((m108 597 8) + 1)) = m110 at H111 ⊢
            refine x_retV (cod_170 rfl) rfl ?_
            exact H111
        · have H82 := H79.1 (Classical.not_not.mp h)
          refine x_s (q := (.aload_n 0, 0, 0, 0)) (cod_175 rfl) rfl rfl rfl ?_
          refine x_gc (kk := 1) (c := 598) (t := 1) (cod_175 rfl) sq_p_597 sq_l_597_1 rfl rfl ?_
          refine x_s (q := (.iload_n 1, 0, 0, 0)) (cod_175 rfl) rfl rfl rfl ?_
          refine x_iald (cod_175 rfl) sq_a_598.s (sq_a_598.k c77.1 c77.2) ?_
          refine x_s (q := (.bipush 48, 0, 0, 0)) (cod_175 rfl) rfl rfl rfl ?_
          refine x_s (q := (.bipush 57, 0, 0, 0)) (cod_175 rfl) rfl rfl rfl ?_
          refine x_call (as := [(0, m1 598 (m1 597 8)), (0, 48), (0, 57)]) (rest := []) (cod_175 rfl) rfl rfl (by decide) (by decide) rfl rfl (Nat.le_of_ble_eq_true rfl) rfl (Nat.le_of_ble_eq_true rfl) ?_
          refine x_pure (p172) ?_
          show X 175 21 [(1, 597), (0, m1 597 8)] [(0, bi (48 ≤ (m1 598 (m1 597 8)) ∧ (m1 598 (m1 597 8)) ≤ 57))] m1 _
          refine x_if (p := ¬ (48 ≤ (m1 598 (m1 597 8)) ∧ (m1 598 (m1 597 8)) ≤ 57)) (tgt := 28) (cod_175 rfl) (by decide) xb_eq (fun h => ?_) (fun h => ?_)
          · have H112 := H82.2 h
            refine x_s (q := (.iconst 0, 0, 0, 0)) (cod_175 rfl) rfl rfl rfl ?_
            refine x_rI (t := .boolean) (cod_175 rfl) rfl rfl rfl ?_
            show X 170 105 [(1, 597)] [(0, 0)] m1 _
            refine x_ift (tgt := 182) (cod_170 rfl) (by decide) (by decide) ?_
            refine x_s (q := (.aload_n 0, 0, 0, 0)) (cod_170 rfl) rfl rfl rfl ?_
            refine x_s (q := (.aload_n 0, 0, 0, 0)) (cod_170 rfl) rfl rfl rfl ?_
            refine x_s (q := (.aload_n 0, 0, 0, 0)) (cod_170 rfl) rfl rfl rfl ?_
            refine x_gc (kk := 1) (c := 598) (t := 1) (cod_170 rfl) sq_p_597 sq_l_597_1 rfl rfl ?_
            refine x_s (q := (.aload_n 0, 0, 0, 0)) (cod_170 rfl) rfl rfl rfl ?_
            refine x_gf (kk := 8) (t := 0) (cod_170 rfl) sq_p_597 sq_l_597_8 rfl rfl ?_
            refine x_iald (cod_170 rfl) sq_a_598.s (sq_a_598.k c77.1 c77.2) ?_
            refine x_call (as := [(1, 597), (0, m1 598 (m1 597 8))]) (rest := [(1, 597)]) (cod_170 rfl) rfl rfl (by decide) (by decide) rfl rfl (Nat.le_of_ble_eq_true rfl) (rcv0 sq_l_597_0 sq_p_597 (by decide)) (Nat.le_of_ble_eq_true rfl) ?_
            refine X.imp H112 ?_
            rintro _ m114 ⟨v116, rfl, H115⟩
            show X 170 196 [(1, 597)] [(0, v116), (1, 597)] m114 _
            refine x_pf (kk := 10) (t := 0) (cod_170 rfl) sq_p_597 sq_l_597_10 rfl rfl rfl ?_
            have H118 := H115 _ rfl
            generalize umem m114 597 10 v116 = m117 at H118 ⊢
            refine x_s (q := (.aload_n 0, 0, 0, 0)) (cod_170 rfl) rfl rfl rfl ?_
            refine x_s (q := (.aload_n 0, 0, 0, 0)) (cod_170 rfl) rfl rfl rfl ?_
            refine x_gc (kk := 1) (c := 598) (t := 1) (cod_170 rfl) sq_p_597 sq_l_597_1 rfl rfl ?_
            refine x_s (q := (.aload_n 0, 0, 0, 0)) (cod_170 rfl) rfl rfl rfl ?_
            refine x_gf (kk := 8) (t := 0) (cod_170 rfl) sq_p_597 sq_l_597_8 rfl rfl ?_
            obtain ⟨c119, H120⟩ := H118
            refine x_iald (cod_170 rfl) sq_a_598.s (sq_a_598.k c119.1 c119.2) ?_
            refine x_s (q := (.bipush 59, 0, 0, 0)) (cod_170 rfl) rfl rfl rfl ?_
            refine x_ic (p := ¬ (m117 598 (m117 597 8)) = 59) (tgt := 218) (cod_170 rfl) (by decide) xj_ne (fun h => ?_) (fun h => ?_)
            · have H121 := H120.2 h
              refine x_s (q := (.aload_n 0, 0, 0, 0)) (cod_170 rfl) rfl rfl rfl ?_
              refine x_gc (kk := 1) (c := 598) (t := 1) (cod_170 rfl) sq_p_597 sq_l_597_1 rfl rfl ?_
              refine x_s (q := (.aload_n 0, 0, 0, 0)) (cod_170 rfl) rfl rfl rfl ?_
              refine x_gf (kk := 8) (t := 0) (cod_170 rfl) sq_p_597 sq_l_597_8 rfl rfl ?_
              refine x_iald (cod_170 rfl) sq_a_598.s (sq_a_598.k c119.1 c119.2) ?_
              refine x_s (q := (.bipush 45, 0, 0, 0)) (cod_170 rfl) rfl rfl rfl ?_
              refine x_ic (p := ¬ (m117 598 (m117 597 8)) = 45) (tgt := 237) (cod_170 rfl) (by decide) xj_ne (fun h => ?_) (fun h => ?_)
              · have H123 := H121.2 h
                refine x_s (q := (.aload_n 0, 0, 0, 0)) (cod_170 rfl) rfl rfl rfl ?_
                refine x_gf (kk := 10) (t := 0) (cod_170 rfl) sq_p_597 sq_l_597_10 rfl rfl ?_
                refine x_if (p := (m117 597 10) < 0) (tgt := 248) (cod_170 rfl) (by decide) xj_lt (fun h => ?_) (fun h => ?_)
                · have H125 := H123.1 h
                  refine x_s (q := (.bipush 7, 0, 0, 0)) (cod_170 rfl) rfl rfl rfl ?_
                  refine x_pf (kk := 9) (t := 0) (cod_170 rfl) sq_p_597 sq_l_597_9 rfl rfl rfl ?_
                  have H128 := H125 _ rfl
                  generalize umem m117 597 9 7 = m127 at H128 ⊢
                  refine x_s (q := (.aload_n 0, 0, 0, 0)) (cod_170 rfl) rfl rfl rfl ?_
                  refine x_s (q := (.dup, 0, 0, 0)) (cod_170 rfl) rfl rfl rfl ?_
                  refine x_gf (kk := 8) (t := 0) (cod_170 rfl) sq_p_597 sq_l_597_8 rfl rfl ?_
                  refine x_s (q := (.iconst 1, 0, 0, 0)) (cod_170 rfl) rfl rfl rfl ?_
                  refine x_s (q := (.iadd, 0, 0, 0)) (cod_170 rfl) rfl rfl rfl ?_
                  refine x_pf (kk := 8) (t := 0) (cod_170 rfl) sq_p_597 sq_l_597_8 rfl rfl rfl ?_
                  have H130 := H128 _ rfl
                  generalize umem m127 597 8 (wr ((m127 597 8) + 1)) = m129 at H130 ⊢
                  refine x_retV (cod_170 rfl) rfl ?_
                  exact H130
                · have H126 := H123.2 h
                  refine x_s (q := (.iconst 5, 0, 0, 0)) (cod_170 rfl) rfl rfl rfl ?_
                  refine x_go (tgt := 250) (cod_170 rfl) (by decide) ?_
                  refine x_pf (kk := 9) (t := 0) (cod_170 rfl) sq_p_597 sq_l_597_9 rfl rfl rfl ?_
                  have H132 := H126 _ rfl
                  generalize umem m117 597 9 5 = m131 at H132 ⊢
                  refine x_s (q := (.aload_n 0, 0, 0, 0)) (cod_170 rfl) rfl rfl rfl ?_
                  refine x_s (q := (.dup, 0, 0, 0)) (cod_170 rfl) rfl rfl rfl ?_
                  refine x_gf (kk := 8) (t := 0) (cod_170 rfl) sq_p_597 sq_l_597_8 rfl rfl ?_
                  refine x_s (q := (.iconst 1, 0, 0, 0)) (cod_170 rfl) rfl rfl rfl ?_
                  refine x_s (q := (.iadd, 0, 0, 0)) (cod_170 rfl) rfl rfl rfl ?_
                  refine x_pf (kk := 8) (t := 0) (cod_170 rfl) sq_p_597 sq_l_597_8 rfl rfl rfl ?_
                  have H134 := H132 _ rfl
                  generalize umem m131 597 8 (wr ((m131 597 8) + 1)) = m133 at H134 ⊢
                  refine x_retV (cod_170 rfl) rfl ?_
                  exact H134
              · have H124 := H121.1 (Classical.not_not.mp h)
                refine x_s (q := (.bipush 6, 0, 0, 0)) (cod_170 rfl) rfl rfl rfl ?_
                refine x_go (tgt := 250) (cod_170 rfl) (by decide) ?_
                refine x_pf (kk := 9) (t := 0) (cod_170 rfl) sq_p_597 sq_l_597_9 rfl rfl rfl ?_
                have H136 := H124 _ rfl
                generalize umem m117 597 9 6 = m135 at H136 ⊢
                refine x_s (q := (.aload_n 0, 0, 0, 0)) (cod_170 rfl) rfl rfl rfl ?_
                refine x_s (q := (.dup, 0, 0, 0)) (cod_170 rfl) rfl rfl rfl ?_
                refine x_gf (kk := 8) (t := 0) (cod_170 rfl) sq_p_597 sq_l_597_8 rfl rfl ?_
                refine x_s (q := (.iconst 1, 0, 0, 0)) (cod_170 rfl) rfl rfl rfl ?_
                refine x_s (q := (.iadd, 0, 0, 0)) (cod_170 rfl) rfl rfl rfl ?_
                refine x_pf (kk := 8) (t := 0) (cod_170 rfl) sq_p_597 sq_l_597_8 rfl rfl rfl ?_
                have H138 := H136 _ rfl
                generalize umem m135 597 8 (wr ((m135 597 8) + 1)) = m137 at H138 ⊢
                refine x_retV (cod_170 rfl) rfl ?_
                exact H138
            · have H122 := H120.1 (Classical.not_not.mp h)
              refine x_s (q := (.iconst 4, 0, 0, 0)) (cod_170 rfl) rfl rfl rfl ?_
              refine x_go (tgt := 250) (cod_170 rfl) (by decide) ?_
              refine x_pf (kk := 9) (t := 0) (cod_170 rfl) sq_p_597 sq_l_597_9 rfl rfl rfl ?_
              have H140 := H122 _ rfl
              generalize umem m117 597 9 4 = m139 at H140 ⊢
              refine x_s (q := (.aload_n 0, 0, 0, 0)) (cod_170 rfl) rfl rfl rfl ?_
              refine x_s (q := (.dup, 0, 0, 0)) (cod_170 rfl) rfl rfl rfl ?_
              refine x_gf (kk := 8) (t := 0) (cod_170 rfl) sq_p_597 sq_l_597_8 rfl rfl ?_
              refine x_s (q := (.iconst 1, 0, 0, 0)) (cod_170 rfl) rfl rfl rfl ?_
              refine x_s (q := (.iadd, 0, 0, 0)) (cod_170 rfl) rfl rfl rfl ?_
              refine x_pf (kk := 8) (t := 0) (cod_170 rfl) sq_p_597 sq_l_597_8 rfl rfl rfl ?_
              have H142 := H140 _ rfl
              generalize umem m139 597 8 (wr ((m139 597 8) + 1)) = m141 at H142 ⊢
              refine x_retV (cod_170 rfl) rfl ?_
              exact H142
          · have H113 := H82.1 (Classical.not_not.mp h)
            refine x_s (q := (.iconst 1, 0, 0, 0)) (cod_175 rfl) rfl rfl rfl ?_
            refine x_go (tgt := 29) (cod_175 rfl) (by decide) ?_
            refine x_rI (t := .boolean) (cod_175 rfl) rfl rfl rfl ?_
            show X 170 105 [(1, 597)] [(0, 1)] m1 _
            refine x_iff (cod_170 rfl) (by decide) (by decide) ?_
            refine x_s (q := (.aload_n 0, 0, 0, 0)) (cod_170 rfl) rfl rfl rfl ?_
            refine x_s (q := (.iconst 3, 0, 0, 0)) (cod_170 rfl) rfl rfl rfl ?_
            refine x_pf (kk := 9) (t := 0) (cod_170 rfl) sq_p_597 sq_l_597_9 rfl rfl rfl ?_
            have H144 := H113 _ rfl
            generalize umem m1 597 9 3 = m143 at H144 ⊢
            refine x_s (q := (.aload_n 0, 0, 0, 0)) (cod_170 rfl) rfl rfl rfl ?_
            refine x_s (q := (.iconst 0, 0, 0, 0)) (cod_170 rfl) rfl rfl rfl ?_
            refine x_pf (kk := 10) (t := 0) (cod_170 rfl) sq_p_597 sq_l_597_10 rfl rfl rfl ?_
            have H146 := H144 _ rfl
            generalize umem m143 597 10 0 = m145 at H146 ⊢
            exact H146
      · have H80 := H78.1 (Classical.not_not.mp h)
        refine x_s (q := (.iconst 1, 0, 0, 0)) (cod_171 rfl) rfl rfl rfl ?_
        refine x_go (tgt := 29) (cod_171 rfl) (by decide) ?_
        refine x_rI (t := .boolean) (cod_171 rfl) rfl rfl rfl ?_
        show X 170 87 [(1, 597)] [(0, 1)] m1 _
        refine x_iff (cod_170 rfl) (by decide) (by decide) ?_
        refine x_s (q := (.aload_n 0, 0, 0, 0)) (cod_170 rfl) rfl rfl rfl ?_
        refine x_call (as := [(1, 597)]) (rest := []) (cod_170 rfl) rfl rfl (by decide) (by decide) rfl rfl (Nat.le_of_ble_eq_true rfl) (rcv0 sq_l_597_0 sq_p_597 (by decide)) (Nat.le_of_ble_eq_true rfl) ?_
        refine X.imp H80 ?_
        rintro _ m147 ⟨rfl, H148⟩
        show X 170 94 [(1, 597)] [] m147 _
        refine x_go (tgt := 263) (cod_170 rfl) (by decide) ?_
        refine x_retV (cod_170 rfl) rfl ?_
        exact H148
  · have H4 := H2.2 h
    refine x_s (q := (.aload_n 0, 0, 0, 0)) (cod_170 rfl) rfl rfl rfl ?_
    refine x_s (q := (.iconst 0, 0, 0, 0)) (cod_170 rfl) rfl rfl rfl ?_
    refine x_pf (kk := 9) (t := 0) (cod_170 rfl) sq_p_597 sq_l_597_9 rfl rfl rfl ?_
    have H150 := H4 _ rfl
    generalize umem m1 597 9 0 = m149 at H150 ⊢
    refine x_go (tgt := 263) (cod_170 rfl) (by decide) ?_
    refine x_retV (cod_170 rfl) rfl ?_
    exact H150
set_option maxRecDepth 100000 in
theorem w170_118 {m : Mm} {K : Mm → Prop}  
  (H : ((m 597 8) < (m 597 3) → (0 ≤ (m 597 8) ∧ (m 597 8) < 920) ∧ ((48 ≤ (m 598 (m 597 8)) ∧ (m 598 (m 597 8)) ≤ 57) → ((m 597 10) > 99999 → ∀ m13, m13 = umem m 597 10 (m 597 10) → ∀ m15, m15 = umem m13 597 8 (wr ((m13 597 8) + 1)) → X 170 118 [(1, 597)] [] m15 (qV K)) ∧ (¬ (m 597 10) > 99999 → ∀ m9, m9 = umem m 597 10 (wr ((wr ((wr (10 * (m 597 10))) + (m 598 (m 597 8)))) - 48)) → ∀ m11, m11 = umem m9 597 8 (wr ((m9 597 8) + 1)) → X 170 118 [(1, 597)] [] m11 (qV K))) ∧ (¬ (48 ≤ (m 598 (m 597 8)) ∧ (m 598 (m 597 8)) ≤ 57) → K m)) ∧ (¬ (m 597 8) < (m 597 3) → K m)) : X 170 118 [(1, 597)] [] m (qV K) := by
  refine x_s (q := (.aload_n 0, 0, 0, 0)) (cod_170 rfl) rfl rfl rfl ?_
  refine x_s (q := (.aload_n 0, 0, 0, 0)) (cod_170 rfl) rfl rfl rfl ?_
  refine x_gf (kk := 8) (t := 0) (cod_170 rfl) sq_p_597 sq_l_597_8 rfl rfl ?_
  refine x_call (as := [(1, 597), (0, m 597 8)]) (rest := []) (cod_170 rfl) rfl rfl (by decide) (by decide) rfl rfl (Nat.le_of_ble_eq_true rfl) (rcv0 sq_l_597_0 sq_p_597 (by decide)) (Nat.le_of_ble_eq_true rfl) ?_
  show X 175 0 [(1, 597), (0, m 597 8)] [] m _
  refine x_s (q := (.iload_n 1, 0, 0, 0)) (cod_175 rfl) rfl rfl rfl ?_
  refine x_s (q := (.aload_n 0, 0, 0, 0)) (cod_175 rfl) rfl rfl rfl ?_
  refine x_gf (kk := 3) (t := 0) (cod_175 rfl) sq_p_597 sq_l_597_3 rfl rfl ?_
  refine x_ic (p := ¬ (m 597 8) < (m 597 3)) (tgt := 28) (cod_175 rfl) (by decide) xn_ge (fun h => ?_) (fun h => ?_)
  · have H1 := H.2 h
    refine x_s (q := (.iconst 0, 0, 0, 0)) (cod_175 rfl) rfl rfl rfl ?_
    refine x_rI (t := .boolean) (cod_175 rfl) rfl rfl rfl ?_
    show X 170 126 [(1, 597)] [(0, 0)] m _
    refine x_ift (tgt := 263) (cod_170 rfl) (by decide) (by decide) ?_
    refine x_retV (cod_170 rfl) rfl ?_
    exact H1
  · have H2 := H.1 (Classical.not_not.mp h)
    refine x_s (q := (.aload_n 0, 0, 0, 0)) (cod_175 rfl) rfl rfl rfl ?_
    refine x_gc (kk := 1) (c := 598) (t := 1) (cod_175 rfl) sq_p_597 sq_l_597_1 rfl rfl ?_
    refine x_s (q := (.iload_n 1, 0, 0, 0)) (cod_175 rfl) rfl rfl rfl ?_
    obtain ⟨c3, H4⟩ := H2
    refine x_iald (cod_175 rfl) sq_a_598.s (sq_a_598.k c3.1 c3.2) ?_
    refine x_s (q := (.bipush 48, 0, 0, 0)) (cod_175 rfl) rfl rfl rfl ?_
    refine x_s (q := (.bipush 57, 0, 0, 0)) (cod_175 rfl) rfl rfl rfl ?_
    refine x_call (as := [(0, m 598 (m 597 8)), (0, 48), (0, 57)]) (rest := []) (cod_175 rfl) rfl rfl (by decide) (by decide) rfl rfl (Nat.le_of_ble_eq_true rfl) rfl (Nat.le_of_ble_eq_true rfl) ?_
    refine x_pure (p172) ?_
    show X 175 21 [(1, 597), (0, m 597 8)] [(0, bi (48 ≤ (m 598 (m 597 8)) ∧ (m 598 (m 597 8)) ≤ 57))] m _
    refine x_if (p := ¬ (48 ≤ (m 598 (m 597 8)) ∧ (m 598 (m 597 8)) ≤ 57)) (tgt := 28) (cod_175 rfl) (by decide) xb_eq (fun h => ?_) (fun h => ?_)
    · have H5 := H4.2 h
      refine x_s (q := (.iconst 0, 0, 0, 0)) (cod_175 rfl) rfl rfl rfl ?_
      refine x_rI (t := .boolean) (cod_175 rfl) rfl rfl rfl ?_
      show X 170 126 [(1, 597)] [(0, 0)] m _
      refine x_ift (tgt := 263) (cod_170 rfl) (by decide) (by decide) ?_
      refine x_retV (cod_170 rfl) rfl ?_
      exact H5
    · have H6 := H4.1 (Classical.not_not.mp h)
      refine x_s (q := (.iconst 1, 0, 0, 0)) (cod_175 rfl) rfl rfl rfl ?_
      refine x_go (tgt := 29) (cod_175 rfl) (by decide) ?_
      refine x_rI (t := .boolean) (cod_175 rfl) rfl rfl rfl ?_
      show X 170 126 [(1, 597)] [(0, 1)] m _
      refine x_iff (cod_170 rfl) (by decide) (by decide) ?_
      refine x_s (q := (.aload_n 0, 0, 0, 0)) (cod_170 rfl) rfl rfl rfl ?_
      refine x_s (q := (.aload_n 0, 0, 0, 0)) (cod_170 rfl) rfl rfl rfl ?_
      refine x_gf (kk := 10) (t := 0) (cod_170 rfl) sq_p_597 sq_l_597_10 rfl rfl ?_
      refine x_s (q := (.ldc 196, 99999, 0, 0)) (cod_170 rfl) rfl rfl rfl ?_
      refine x_ic (p := ¬ (m 597 10) > 99999) (tgt := 146) (cod_170 rfl) (by decide) xn_le (fun h => ?_) (fun h => ?_)
      · have H7 := H6.2 h
        refine x_s (q := (.bipush 10, 0, 0, 0)) (cod_170 rfl) rfl rfl rfl ?_
        refine x_s (q := (.aload_n 0, 0, 0, 0)) (cod_170 rfl) rfl rfl rfl ?_
        refine x_gf (kk := 10) (t := 0) (cod_170 rfl) sq_p_597 sq_l_597_10 rfl rfl ?_
        refine x_s (q := (.imul, 0, 0, 0)) (cod_170 rfl) rfl rfl rfl ?_
        refine x_s (q := (.aload_n 0, 0, 0, 0)) (cod_170 rfl) rfl rfl rfl ?_
        refine x_gc (kk := 1) (c := 598) (t := 1) (cod_170 rfl) sq_p_597 sq_l_597_1 rfl rfl ?_
        refine x_s (q := (.aload_n 0, 0, 0, 0)) (cod_170 rfl) rfl rfl rfl ?_
        refine x_gf (kk := 8) (t := 0) (cod_170 rfl) sq_p_597 sq_l_597_8 rfl rfl ?_
        refine x_iald (cod_170 rfl) sq_a_598.s (sq_a_598.k c3.1 c3.2) ?_
        refine x_s (q := (.iadd, 0, 0, 0)) (cod_170 rfl) rfl rfl rfl ?_
        refine x_s (q := (.bipush 48, 0, 0, 0)) (cod_170 rfl) rfl rfl rfl ?_
        refine x_s (q := (.isub, 0, 0, 0)) (cod_170 rfl) rfl rfl rfl ?_
        refine x_pf (kk := 10) (t := 0) (cod_170 rfl) sq_p_597 sq_l_597_10 rfl rfl rfl ?_
        have H10 := H7 _ rfl
        generalize umem m 597 10 (wr ((wr ((wr (10 * (m 597 10))) + (m 598 (m 597 8)))) - 48)) = m9 at H10 ⊢
        refine x_s (q := (.aload_n 0, 0, 0, 0)) (cod_170 rfl) rfl rfl rfl ?_
        refine x_s (q := (.dup, 0, 0, 0)) (cod_170 rfl) rfl rfl rfl ?_
        refine x_gf (kk := 8) (t := 0) (cod_170 rfl) sq_p_597 sq_l_597_8 rfl rfl ?_
        refine x_s (q := (.iconst 1, 0, 0, 0)) (cod_170 rfl) rfl rfl rfl ?_
        refine x_s (q := (.iadd, 0, 0, 0)) (cod_170 rfl) rfl rfl rfl ?_
        refine x_pf (kk := 8) (t := 0) (cod_170 rfl) sq_p_597 sq_l_597_8 rfl rfl rfl ?_
        have H12 := H10 _ rfl
        generalize umem m9 597 8 (wr ((m9 597 8) + 1)) = m11 at H12 ⊢
        refine x_go (tgt := 118) (cod_170 rfl) (by decide) ?_
        exact H12
      · have H8 := H6.1 (Classical.not_not.mp h)
        refine x_s (q := (.aload_n 0, 0, 0, 0)) (cod_170 rfl) rfl rfl rfl ?_
        refine x_gf (kk := 10) (t := 0) (cod_170 rfl) sq_p_597 sq_l_597_10 rfl rfl ?_
        refine x_go (tgt := 166) (cod_170 rfl) (by decide) ?_
        refine x_pf (kk := 10) (t := 0) (cod_170 rfl) sq_p_597 sq_l_597_10 rfl rfl rfl ?_
        have H14 := H8 _ rfl
        generalize umem m 597 10 (m 597 10) = m13 at H14 ⊢
        refine x_s (q := (.aload_n 0, 0, 0, 0)) (cod_170 rfl) rfl rfl rfl ?_
        refine x_s (q := (.dup, 0, 0, 0)) (cod_170 rfl) rfl rfl rfl ?_
        refine x_gf (kk := 8) (t := 0) (cod_170 rfl) sq_p_597 sq_l_597_8 rfl rfl ?_
        refine x_s (q := (.iconst 1, 0, 0, 0)) (cod_170 rfl) rfl rfl rfl ?_
        refine x_s (q := (.iadd, 0, 0, 0)) (cod_170 rfl) rfl rfl rfl ?_
        refine x_pf (kk := 8) (t := 0) (cod_170 rfl) sq_p_597 sq_l_597_8 rfl rfl rfl ?_
        have H16 := H14 _ rfl
        generalize umem m13 597 8 (wr ((m13 597 8) + 1)) = m15 at H16 ⊢
        refine x_go (tgt := 118) (cod_170 rfl) (by decide) ?_
        exact H16
set_option maxRecDepth 100000 in
theorem w173_0 {m : Mm} {K : Mm → Prop}  
  (H : ((m 597 8) < (m 597 3) → (0 ≤ (m 597 8) ∧ (m 597 8) < 920) ∧ ((97 ≤ (m 598 (m 597 8)) ∧ (m 598 (m 597 8)) ≤ 122) → ∀ m25, m25 = umem m 597 8 (wr ((m 597 8) + 1)) → X 173 0 [(1, 597), (9, 0)] [] m25 (qV K)) ∧ (¬ (97 ≤ (m 598 (m 597 8)) ∧ (m 598 (m 597 8)) ≤ 122) → TrI 174 [(1, 597), (0, m 597 11), (0, m 597 8)] m fun v18 m16 => ∀ m19, m19 = umem m16 597 10 v18 → ((m19 597 10) < 0 → ((wr ((m19 597 8) - (m19 597 11))) > 8 → X 173 72 [(1, 597), (9, 0)] [(0, 7), (1, 597)] m19 (qV K)) ∧ (¬ (wr ((m19 597 8) - (m19 597 11))) > 8 → X 173 72 [(1, 597), (9, 0)] [(0, 2), (1, 597)] m19 (qV K))) ∧ (¬ (m19 597 10) < 0 → X 173 72 [(1, 597), (9, 0)] [(0, 1), (1, 597)] m19 (qV K)))) ∧ (¬ (m 597 8) < (m 597 3) → TrI 174 [(1, 597), (0, m 597 11), (0, m 597 8)] m fun v5 m3 => ∀ m6, m6 = umem m3 597 10 v5 → ((m6 597 10) < 0 → ((wr ((m6 597 8) - (m6 597 11))) > 8 → X 173 72 [(1, 597), (9, 0)] [(0, 7), (1, 597)] m6 (qV K)) ∧ (¬ (wr ((m6 597 8) - (m6 597 11))) > 8 → X 173 72 [(1, 597), (9, 0)] [(0, 2), (1, 597)] m6 (qV K))) ∧ (¬ (m6 597 10) < 0 → X 173 72 [(1, 597), (9, 0)] [(0, 1), (1, 597)] m6 (qV K)))) : X 173 0 [(1, 597), (9, 0)] [] m (qV K) := by
  refine x_s (q := (.aload_n 0, 0, 0, 0)) (cod_173 rfl) rfl rfl rfl ?_
  refine x_s (q := (.aload_n 0, 0, 0, 0)) (cod_173 rfl) rfl rfl rfl ?_
  refine x_gf (kk := 8) (t := 0) (cod_173 rfl) sq_p_597 sq_l_597_8 rfl rfl ?_
  refine x_call (as := [(1, 597), (0, m 597 8)]) (rest := []) (cod_173 rfl) rfl rfl (by decide) (by decide) rfl rfl (Nat.le_of_ble_eq_true rfl) (rcv0 sq_l_597_0 sq_p_597 (by decide)) (Nat.le_of_ble_eq_true rfl) ?_
  show X 171 0 [(1, 597), (0, m 597 8)] [] m _
  refine x_s (q := (.iload_n 1, 0, 0, 0)) (cod_171 rfl) rfl rfl rfl ?_
  refine x_s (q := (.aload_n 0, 0, 0, 0)) (cod_171 rfl) rfl rfl rfl ?_
  refine x_gf (kk := 3) (t := 0) (cod_171 rfl) sq_p_597 sq_l_597_3 rfl rfl ?_
  refine x_ic (p := ¬ (m 597 8) < (m 597 3)) (tgt := 28) (cod_171 rfl) (by decide) xn_ge (fun h => ?_) (fun h => ?_)
  · have H1 := H.2 h
    refine x_s (q := (.iconst 0, 0, 0, 0)) (cod_171 rfl) rfl rfl rfl ?_
    refine x_rI (t := .boolean) (cod_171 rfl) rfl rfl rfl ?_
    show X 173 8 [(1, 597), (9, 0)] [(0, 0)] m _
    refine x_ift (tgt := 24) (cod_173 rfl) (by decide) (by decide) ?_
    refine x_s (q := (.aload_n 0, 0, 0, 0)) (cod_173 rfl) rfl rfl rfl ?_
    refine x_s (q := (.aload_n 0, 0, 0, 0)) (cod_173 rfl) rfl rfl rfl ?_
    refine x_s (q := (.aload_n 0, 0, 0, 0)) (cod_173 rfl) rfl rfl rfl ?_
    refine x_gf (kk := 11) (t := 0) (cod_173 rfl) sq_p_597 sq_l_597_11 rfl rfl ?_
    refine x_s (q := (.aload_n 0, 0, 0, 0)) (cod_173 rfl) rfl rfl rfl ?_
    refine x_gf (kk := 8) (t := 0) (cod_173 rfl) sq_p_597 sq_l_597_8 rfl rfl ?_
    refine x_call (as := [(1, 597), (0, m 597 11), (0, m 597 8)]) (rest := [(1, 597)]) (cod_173 rfl) rfl rfl (by decide) (by decide) rfl rfl (Nat.le_of_ble_eq_true rfl) (rcv0 sq_l_597_0 sq_p_597 (by decide)) (Nat.le_of_ble_eq_true rfl) ?_
    refine X.imp H1 ?_
    rintro _ m3 ⟨v5, rfl, H4⟩
    show X 173 37 [(1, 597), (9, 0)] [(0, v5), (1, 597)] m3 _
    refine x_pf (kk := 10) (t := 0) (cod_173 rfl) sq_p_597 sq_l_597_10 rfl rfl rfl ?_
    have H7 := H4 _ rfl
    generalize umem m3 597 10 v5 = m6 at H7 ⊢
    refine x_s (q := (.aload_n 0, 0, 0, 0)) (cod_173 rfl) rfl rfl rfl ?_
    refine x_s (q := (.aload_n 0, 0, 0, 0)) (cod_173 rfl) rfl rfl rfl ?_
    refine x_gf (kk := 10) (t := 0) (cod_173 rfl) sq_p_597 sq_l_597_10 rfl rfl ?_
    refine x_if (p := (m6 597 10) < 0) (tgt := 52) (cod_173 rfl) (by decide) xj_lt (fun h => ?_) (fun h => ?_)
    · have H8 := H7.1 h
      refine x_s (q := (.aload_n 0, 0, 0, 0)) (cod_173 rfl) rfl rfl rfl ?_
      refine x_gf (kk := 8) (t := 0) (cod_173 rfl) sq_p_597 sq_l_597_8 rfl rfl ?_
      refine x_s (q := (.aload_n 0, 0, 0, 0)) (cod_173 rfl) rfl rfl rfl ?_
      refine x_gf (kk := 11) (t := 0) (cod_173 rfl) sq_p_597 sq_l_597_11 rfl rfl ?_
      refine x_s (q := (.isub, 0, 0, 0)) (cod_173 rfl) rfl rfl rfl ?_
      refine x_s (q := (.bipush 8, 0, 0, 0)) (cod_173 rfl) rfl rfl rfl ?_
      refine x_ic (p := ¬ (wr ((m6 597 8) - (m6 597 11))) > 8) (tgt := 71) (cod_173 rfl) (by decide) xn_le (fun h => ?_) (fun h => ?_)
      · have H10 := H8.2 h
        refine x_s (q := (.iconst 2, 0, 0, 0)) (cod_173 rfl) rfl rfl rfl ?_
        exact H10
      · have H11 := H8.1 (Classical.not_not.mp h)
        refine x_s (q := (.bipush 7, 0, 0, 0)) (cod_173 rfl) rfl rfl rfl ?_
        refine x_go (tgt := 72) (cod_173 rfl) (by decide) ?_
        exact H11
    · have H9 := H7.2 h
      refine x_s (q := (.iconst 1, 0, 0, 0)) (cod_173 rfl) rfl rfl rfl ?_
      refine x_go (tgt := 72) (cod_173 rfl) (by decide) ?_
      exact H9
  · have H2 := H.1 (Classical.not_not.mp h)
    refine x_s (q := (.aload_n 0, 0, 0, 0)) (cod_171 rfl) rfl rfl rfl ?_
    refine x_gc (kk := 1) (c := 598) (t := 1) (cod_171 rfl) sq_p_597 sq_l_597_1 rfl rfl ?_
    refine x_s (q := (.iload_n 1, 0, 0, 0)) (cod_171 rfl) rfl rfl rfl ?_
    obtain ⟨c12, H13⟩ := H2
    refine x_iald (cod_171 rfl) sq_a_598.s (sq_a_598.k c12.1 c12.2) ?_
    refine x_s (q := (.bipush 97, 0, 0, 0)) (cod_171 rfl) rfl rfl rfl ?_
    refine x_s (q := (.bipush 122, 0, 0, 0)) (cod_171 rfl) rfl rfl rfl ?_
    refine x_call (as := [(0, m 598 (m 597 8)), (0, 97), (0, 122)]) (rest := []) (cod_171 rfl) rfl rfl (by decide) (by decide) rfl rfl (Nat.le_of_ble_eq_true rfl) rfl (Nat.le_of_ble_eq_true rfl) ?_
    refine x_pure (p172) ?_
    show X 171 21 [(1, 597), (0, m 597 8)] [(0, bi (97 ≤ (m 598 (m 597 8)) ∧ (m 598 (m 597 8)) ≤ 122))] m _
    refine x_if (p := ¬ (97 ≤ (m 598 (m 597 8)) ∧ (m 598 (m 597 8)) ≤ 122)) (tgt := 28) (cod_171 rfl) (by decide) xb_eq (fun h => ?_) (fun h => ?_)
    · have H14 := H13.2 h
      refine x_s (q := (.iconst 0, 0, 0, 0)) (cod_171 rfl) rfl rfl rfl ?_
      refine x_rI (t := .boolean) (cod_171 rfl) rfl rfl rfl ?_
      show X 173 8 [(1, 597), (9, 0)] [(0, 0)] m _
      refine x_ift (tgt := 24) (cod_173 rfl) (by decide) (by decide) ?_
      refine x_s (q := (.aload_n 0, 0, 0, 0)) (cod_173 rfl) rfl rfl rfl ?_
      refine x_s (q := (.aload_n 0, 0, 0, 0)) (cod_173 rfl) rfl rfl rfl ?_
      refine x_s (q := (.aload_n 0, 0, 0, 0)) (cod_173 rfl) rfl rfl rfl ?_
      refine x_gf (kk := 11) (t := 0) (cod_173 rfl) sq_p_597 sq_l_597_11 rfl rfl ?_
      refine x_s (q := (.aload_n 0, 0, 0, 0)) (cod_173 rfl) rfl rfl rfl ?_
      refine x_gf (kk := 8) (t := 0) (cod_173 rfl) sq_p_597 sq_l_597_8 rfl rfl ?_
      refine x_call (as := [(1, 597), (0, m 597 11), (0, m 597 8)]) (rest := [(1, 597)]) (cod_173 rfl) rfl rfl (by decide) (by decide) rfl rfl (Nat.le_of_ble_eq_true rfl) (rcv0 sq_l_597_0 sq_p_597 (by decide)) (Nat.le_of_ble_eq_true rfl) ?_
      refine X.imp H14 ?_
      rintro _ m16 ⟨v18, rfl, H17⟩
      show X 173 37 [(1, 597), (9, 0)] [(0, v18), (1, 597)] m16 _
      refine x_pf (kk := 10) (t := 0) (cod_173 rfl) sq_p_597 sq_l_597_10 rfl rfl rfl ?_
      have H20 := H17 _ rfl
      generalize umem m16 597 10 v18 = m19 at H20 ⊢
      refine x_s (q := (.aload_n 0, 0, 0, 0)) (cod_173 rfl) rfl rfl rfl ?_
      refine x_s (q := (.aload_n 0, 0, 0, 0)) (cod_173 rfl) rfl rfl rfl ?_
      refine x_gf (kk := 10) (t := 0) (cod_173 rfl) sq_p_597 sq_l_597_10 rfl rfl ?_
      refine x_if (p := (m19 597 10) < 0) (tgt := 52) (cod_173 rfl) (by decide) xj_lt (fun h => ?_) (fun h => ?_)
      · have H21 := H20.1 h
        refine x_s (q := (.aload_n 0, 0, 0, 0)) (cod_173 rfl) rfl rfl rfl ?_
        refine x_gf (kk := 8) (t := 0) (cod_173 rfl) sq_p_597 sq_l_597_8 rfl rfl ?_
        refine x_s (q := (.aload_n 0, 0, 0, 0)) (cod_173 rfl) rfl rfl rfl ?_
        refine x_gf (kk := 11) (t := 0) (cod_173 rfl) sq_p_597 sq_l_597_11 rfl rfl ?_
        refine x_s (q := (.isub, 0, 0, 0)) (cod_173 rfl) rfl rfl rfl ?_
        refine x_s (q := (.bipush 8, 0, 0, 0)) (cod_173 rfl) rfl rfl rfl ?_
        refine x_ic (p := ¬ (wr ((m19 597 8) - (m19 597 11))) > 8) (tgt := 71) (cod_173 rfl) (by decide) xn_le (fun h => ?_) (fun h => ?_)
        · have H23 := H21.2 h
          refine x_s (q := (.iconst 2, 0, 0, 0)) (cod_173 rfl) rfl rfl rfl ?_
          exact H23
        · have H24 := H21.1 (Classical.not_not.mp h)
          refine x_s (q := (.bipush 7, 0, 0, 0)) (cod_173 rfl) rfl rfl rfl ?_
          refine x_go (tgt := 72) (cod_173 rfl) (by decide) ?_
          exact H24
      · have H22 := H20.2 h
        refine x_s (q := (.iconst 1, 0, 0, 0)) (cod_173 rfl) rfl rfl rfl ?_
        refine x_go (tgt := 72) (cod_173 rfl) (by decide) ?_
        exact H22
    · have H15 := H13.1 (Classical.not_not.mp h)
      refine x_s (q := (.iconst 1, 0, 0, 0)) (cod_171 rfl) rfl rfl rfl ?_
      refine x_go (tgt := 29) (cod_171 rfl) (by decide) ?_
      refine x_rI (t := .boolean) (cod_171 rfl) rfl rfl rfl ?_
      show X 173 8 [(1, 597), (9, 0)] [(0, 1)] m _
      refine x_iff (cod_173 rfl) (by decide) (by decide) ?_
      refine x_s (q := (.aload_n 0, 0, 0, 0)) (cod_173 rfl) rfl rfl rfl ?_
      refine x_s (q := (.dup, 0, 0, 0)) (cod_173 rfl) rfl rfl rfl ?_
      refine x_gf (kk := 8) (t := 0) (cod_173 rfl) sq_p_597 sq_l_597_8 rfl rfl ?_
      refine x_s (q := (.iconst 1, 0, 0, 0)) (cod_173 rfl) rfl rfl rfl ?_
      refine x_s (q := (.iadd, 0, 0, 0)) (cod_173 rfl) rfl rfl rfl ?_
      refine x_pf (kk := 8) (t := 0) (cod_173 rfl) sq_p_597 sq_l_597_8 rfl rfl rfl ?_
      have H26 := H15 _ rfl
      generalize umem m 597 8 (wr ((m 597 8) + 1)) = m25 at H26 ⊢
      refine x_go (tgt := 0) (cod_173 rfl) (by decide) ?_
      exact H26
theorem e173 {m : Mm} {K : Mm → Prop}  
  (H : ((m 597 8) < (m 597 3) → (0 ≤ (m 597 8) ∧ (m 597 8) < 920) ∧ ((97 ≤ (m 598 (m 597 8)) ∧ (m 598 (m 597 8)) ≤ 122) → ∀ m25, m25 = umem m 597 8 (wr ((m 597 8) + 1)) → X 173 0 [(1, 597), (9, 0)] [] m25 (qV K)) ∧ (¬ (97 ≤ (m 598 (m 597 8)) ∧ (m 598 (m 597 8)) ≤ 122) → TrI 174 [(1, 597), (0, m 597 11), (0, m 597 8)] m fun v18 m16 => ∀ m19, m19 = umem m16 597 10 v18 → ((m19 597 10) < 0 → ((wr ((m19 597 8) - (m19 597 11))) > 8 → X 173 72 [(1, 597), (9, 0)] [(0, 7), (1, 597)] m19 (qV K)) ∧ (¬ (wr ((m19 597 8) - (m19 597 11))) > 8 → X 173 72 [(1, 597), (9, 0)] [(0, 2), (1, 597)] m19 (qV K))) ∧ (¬ (m19 597 10) < 0 → X 173 72 [(1, 597), (9, 0)] [(0, 1), (1, 597)] m19 (qV K)))) ∧ (¬ (m 597 8) < (m 597 3) → TrI 174 [(1, 597), (0, m 597 11), (0, m 597 8)] m fun v5 m3 => ∀ m6, m6 = umem m3 597 10 v5 → ((m6 597 10) < 0 → ((wr ((m6 597 8) - (m6 597 11))) > 8 → X 173 72 [(1, 597), (9, 0)] [(0, 7), (1, 597)] m6 (qV K)) ∧ (¬ (wr ((m6 597 8) - (m6 597 11))) > 8 → X 173 72 [(1, 597), (9, 0)] [(0, 2), (1, 597)] m6 (qV K))) ∧ (¬ (m6 597 10) < 0 → X 173 72 [(1, 597), (9, 0)] [(0, 1), (1, 597)] m6 (qV K)))) : TrV 173 [(1, 597)] m K := by
  exact w173_0  H
set_option maxRecDepth 100000 in
theorem w173_72 {m : Mm} {K : Mm → Prop} (ua1 : aV) (s1 : Int) 
  (H : ∀ m1, m1 = umem m 597 9 s1 → ((m1 597 9) = 2 → ∀ m5, m5 = umem m1 597 13 (wr ((m1 597 8) - (m1 597 11))) → X 173 99 [(1, 597), (0, 0)] [] m5 (qV K)) ∧ (¬ (m1 597 9) = 2 → K m1)) : X 173 72 [(1, 597), ua1] [(0, s1), (1, 597)] m (qV K) := by
  refine x_pf (kk := 9) (t := 0) (cod_173 rfl) sq_p_597 sq_l_597_9 rfl rfl rfl ?_
  have H2 := H _ rfl
  generalize umem m 597 9 s1 = m1 at H2 ⊢
  refine x_s (q := (.aload_n 0, 0, 0, 0)) (cod_173 rfl) rfl rfl rfl ?_
  refine x_gf (kk := 9) (t := 0) (cod_173 rfl) sq_p_597 sq_l_597_9 rfl rfl ?_
  refine x_s (q := (.iconst 2, 0, 0, 0)) (cod_173 rfl) rfl rfl rfl ?_
  refine x_ic (p := (m1 597 9) = 2) (tgt := 84) (cod_173 rfl) (by decide) xj_eq (fun h => ?_) (fun h => ?_)
  · have H3 := H2.1 h
    refine x_s (q := (.aload_n 0, 0, 0, 0)) (cod_173 rfl) rfl rfl rfl ?_
    refine x_s (q := (.aload_n 0, 0, 0, 0)) (cod_173 rfl) rfl rfl rfl ?_
    refine x_gf (kk := 8) (t := 0) (cod_173 rfl) sq_p_597 sq_l_597_8 rfl rfl ?_
    refine x_s (q := (.aload_n 0, 0, 0, 0)) (cod_173 rfl) rfl rfl rfl ?_
    refine x_gf (kk := 11) (t := 0) (cod_173 rfl) sq_p_597 sq_l_597_11 rfl rfl ?_
    refine x_s (q := (.isub, 0, 0, 0)) (cod_173 rfl) rfl rfl rfl ?_
    refine x_pf (kk := 13) (t := 0) (cod_173 rfl) sq_p_597 sq_l_597_13 rfl rfl rfl ?_
    have H6 := H3 _ rfl
    generalize umem m1 597 13 (wr ((m1 597 8) - (m1 597 11))) = m5 at H6 ⊢
    refine x_s (q := (.iconst 0, 0, 0, 0)) (cod_173 rfl) rfl rfl rfl ?_
    refine x_s (q := (.istore_n 1, 0, 0, 0)) (cod_173 rfl) rfl rfl rfl ?_
    exact H6
  · have H4 := H2.2 h
    refine x_retV (cod_173 rfl) rfl ?_
    exact H4
set_option maxRecDepth 100000 in
theorem w173_99 {m : Mm} {K : Mm → Prop} (a1 : Int) 
  (H : (a1 < (m 597 13) → (0 ≤ (wr ((m 597 11) + a1)) ∧ (wr ((m 597 11) + a1)) < 920) ∧ (0 ≤ a1 ∧ a1 < 8) ∧ ∀ m7, m7 = umem m 601 a1 (wr ((m 598 (wr ((m 597 11) + a1))) - 97)) → X 173 99 [(1, 597), (0, wr (a1 + 1))] [] m7 (qV K)) ∧ (¬ a1 < (m 597 13) → K m)) : X 173 99 [(1, 597), (0, a1)] [] m (qV K) := by
  refine x_s (q := (.iload_n 1, 0, 0, 0)) (cod_173 rfl) rfl rfl rfl ?_
  refine x_s (q := (.aload_n 0, 0, 0, 0)) (cod_173 rfl) rfl rfl rfl ?_
  refine x_gf (kk := 13) (t := 0) (cod_173 rfl) sq_p_597 sq_l_597_13 rfl rfl ?_
  refine x_ic (p := ¬ a1 < (m 597 13)) (tgt := 133) (cod_173 rfl) (by decide) xn_ge (fun h => ?_) (fun h => ?_)
  · have H1 := H.2 h
    refine x_retV (cod_173 rfl) rfl ?_
    exact H1
  · have H2 := H.1 (Classical.not_not.mp h)
    refine x_s (q := (.aload_n 0, 0, 0, 0)) (cod_173 rfl) rfl rfl rfl ?_
    refine x_gc (kk := 12) (c := 601) (t := 1) (cod_173 rfl) sq_p_597 sq_l_597_12 rfl rfl ?_
    refine x_s (q := (.iload_n 1, 0, 0, 0)) (cod_173 rfl) rfl rfl rfl ?_
    refine x_s (q := (.aload_n 0, 0, 0, 0)) (cod_173 rfl) rfl rfl rfl ?_
    refine x_gc (kk := 1) (c := 598) (t := 1) (cod_173 rfl) sq_p_597 sq_l_597_1 rfl rfl ?_
    refine x_s (q := (.aload_n 0, 0, 0, 0)) (cod_173 rfl) rfl rfl rfl ?_
    refine x_gf (kk := 11) (t := 0) (cod_173 rfl) sq_p_597 sq_l_597_11 rfl rfl ?_
    refine x_s (q := (.iload_n 1, 0, 0, 0)) (cod_173 rfl) rfl rfl rfl ?_
    refine x_s (q := (.iadd, 0, 0, 0)) (cod_173 rfl) rfl rfl rfl ?_
    obtain ⟨c3, H4⟩ := H2
    refine x_iald (cod_173 rfl) sq_a_598.s (sq_a_598.k c3.1 c3.2) ?_
    refine x_s (q := (.bipush 97, 0, 0, 0)) (cod_173 rfl) rfl rfl rfl ?_
    refine x_s (q := (.isub, 0, 0, 0)) (cod_173 rfl) rfl rfl rfl ?_
    obtain ⟨c5, H6⟩ := H4
    refine x_iast (cod_173 rfl) sq_a_601.s (sq_a_601.k c5.1 c5.2) ?_
    have H8 := H6 _ rfl
    generalize umem m 601 a1 (wr ((m 598 (wr ((m 597 11) + a1))) - 97)) = m7 at H8 ⊢
    refine x_s (q := (.iinc 1 1, 0, 0, 0)) (cod_173 rfl) rfl rfl rfl ?_
    refine x_go (tgt := 99) (cod_173 rfl) (by decide) ?_
    exact H8
set_option maxRecDepth 100000 in
theorem w174_0 {m : Mm} {K : Int → Mm → Prop} (a1 : Int) (a2 : Int) 
  (H : X 174 5 [(1, 597), (0, a1), (0, a2), (2, 0), (9, 0), (0, a1)] [] m (qI K)) : X 174 0 [(1, 597), (0, a1), (0, a2), (9, 0), (9, 0), (9, 0)] [] m (qI K) := by
  refine x_s (q := (.lconst 0, 0, 0, 0)) (cod_174 rfl) rfl rfl rfl ?_
  show X 174 1 [(1, 597), (0, a1), (0, a2), (9, 0), (9, 0), (9, 0)] [(2, 0)] m _
  refine x_s (q := (.lstore_n 3, 0, 0, 0)) (cod_174 rfl) rfl rfl rfl ?_
  refine x_s (q := (.iload_n 1, 0, 0, 0)) (cod_174 rfl) rfl rfl rfl ?_
  refine x_s (q := (.istore 5, 0, 0, 0)) (cod_174 rfl) rfl rfl rfl ?_
  exact H
theorem e174 {m : Mm} {K : Int → Mm → Prop} (a1 : Int) (a2 : Int) 
  (H : X 174 5 [(1, 597), (0, a1), (0, a2), (2, 0), (9, 0), (0, a1)] [] m (qI K)) : TrI 174 [(1, 597), (0, a1), (0, a2)] m K := by
  exact w174_0 a1 a2 H
set_option maxRecDepth 100000 in
theorem w174_5 {m : Mm} {K : Int → Mm → Prop} (a1 : Int) (a2 : Int) (a3 : Int) (a5 : Int) 
  (H : (a5 < a2 → ((wr (a2 - a1)) < 8 → (0 ≤ a5 ∧ a5 < 920) ∧ X 174 5 [(1, 597), (0, a1), (0, a2), (2, wl ((wl ((wl (a3 * 32)) + (m 598 a5))) - 96)), (9, 0), (0, wr (a5 + 1))] [] m (qI K)) ∧ (¬ (wr (a2 - a1)) < 8 → X 174 47 [(1, 597), (0, a1), (0, a2), (2, a3), (9, 0), (0, 0)] [] m (qI K))) ∧ (¬ a5 < a2 → X 174 47 [(1, 597), (0, a1), (0, a2), (2, a3), (9, 0), (0, 0)] [] m (qI K))) : X 174 5 [(1, 597), (0, a1), (0, a2), (2, a3), (9, 0), (0, a5)] [] m (qI K) := by
  refine x_s (q := (.iload 5, 0, 0, 0)) (cod_174 rfl) rfl rfl rfl ?_
  refine x_s (q := (.iload_n 2, 0, 0, 0)) (cod_174 rfl) rfl rfl rfl ?_
  refine x_ic (p := ¬ a5 < a2) (tgt := 44) (cod_174 rfl) (by decide) xn_ge (fun h => ?_) (fun h => ?_)
  · have H1 := H.2 h
    refine x_s (q := (.iconst 0, 0, 0, 0)) (cod_174 rfl) rfl rfl rfl ?_
    refine x_s (q := (.istore 5, 0, 0, 0)) (cod_174 rfl) rfl rfl rfl ?_
    exact H1
  · have H2 := H.1 (Classical.not_not.mp h)
    refine x_s (q := (.iload_n 2, 0, 0, 0)) (cod_174 rfl) rfl rfl rfl ?_
    refine x_s (q := (.iload_n 1, 0, 0, 0)) (cod_174 rfl) rfl rfl rfl ?_
    refine x_s (q := (.isub, 0, 0, 0)) (cod_174 rfl) rfl rfl rfl ?_
    refine x_s (q := (.bipush 8, 0, 0, 0)) (cod_174 rfl) rfl rfl rfl ?_
    refine x_ic (p := ¬ (wr (a2 - a1)) < 8) (tgt := 44) (cod_174 rfl) (by decide) xn_ge (fun h => ?_) (fun h => ?_)
    · have H3 := H2.2 h
      refine x_s (q := (.iconst 0, 0, 0, 0)) (cod_174 rfl) rfl rfl rfl ?_
      refine x_s (q := (.istore 5, 0, 0, 0)) (cod_174 rfl) rfl rfl rfl ?_
      exact H3
    · have H4 := H2.1 (Classical.not_not.mp h)
      refine x_s (q := (.lload_n 3, 0, 0, 0)) (cod_174 rfl) rfl rfl rfl ?_
      refine x_s (q := (.ldc2_w 166, 32, 0, 0)) (cod_174 rfl) rfl rfl rfl ?_
      show X 174 23 [(1, 597), (0, a1), (0, a2), (2, a3), (9, 0), (0, a5)] [(2, 32), (2, a3)] m _
      refine x_s (q := (.lmul, 0, 0, 0)) (cod_174 rfl) rfl rfl rfl ?_
      refine x_s (q := (.aload_n 0, 0, 0, 0)) (cod_174 rfl) rfl rfl rfl ?_
      refine x_gc (kk := 1) (c := 598) (t := 1) (cod_174 rfl) sq_p_597 sq_l_597_1 rfl rfl ?_
      refine x_s (q := (.iload 5, 0, 0, 0)) (cod_174 rfl) rfl rfl rfl ?_
      obtain ⟨c5, H6⟩ := H4
      refine x_iald (cod_174 rfl) sq_a_598.s (sq_a_598.k c5.1 c5.2) ?_
      refine x_s (q := (.i2l, 0, 0, 0)) (cod_174 rfl) rfl rfl rfl ?_
      refine x_s (q := (.ladd, 0, 0, 0)) (cod_174 rfl) rfl rfl rfl ?_
      refine x_s (q := (.ldc2_w 168, 96, 0, 0)) (cod_174 rfl) rfl rfl rfl ?_
      show X 174 36 [(1, 597), (0, a1), (0, a2), (2, a3), (9, 0), (0, a5)] [(2, 96), (2, wl ((wl (a3 * 32)) + (m 598 a5)))] m _
      refine x_s (q := (.lsub, 0, 0, 0)) (cod_174 rfl) rfl rfl rfl ?_
      refine x_s (q := (.lstore_n 3, 0, 0, 0)) (cod_174 rfl) rfl rfl rfl ?_
      refine x_s (q := (.iinc 5 1, 0, 0, 0)) (cod_174 rfl) rfl rfl rfl ?_
      refine x_go (tgt := 5) (cod_174 rfl) (by decide) ?_
      exact H6
set_option maxRecDepth 100000 in
theorem w174_47 {m : Mm} {K : Int → Mm → Prop} (ua1 : aV) (ua2 : aV) (a3 : Int) (a5 : Int) 
  (H : (a5 > 17 → K (-1) m) ∧ (¬ a5 > 17 → (0 ≤ a5 ∧ a5 < 18) ∧ ((lcmp (cs 599 a5) a3) = 0 → K a5 m) ∧ (¬ (lcmp (cs 599 a5) a3) = 0 → X 174 47 [(1, 597), ua1, ua2, (2, a3), (9, 0), (0, wr (a5 + 1))] [] m (qI K)))) : X 174 47 [(1, 597), ua1, ua2, (2, a3), (9, 0), (0, a5)] [] m (qI K) := by
  refine x_s (q := (.iload 5, 0, 0, 0)) (cod_174 rfl) rfl rfl rfl ?_
  refine x_s (q := (.bipush 17, 0, 0, 0)) (cod_174 rfl) rfl rfl rfl ?_
  refine x_ic (p := a5 > 17) (tgt := 75) (cod_174 rfl) (by decide) xj_gt (fun h => ?_) (fun h => ?_)
  · have H1 := H.1 h
    refine x_s (q := (.iconst (-1), 0, 0, 0)) (cod_174 rfl) rfl rfl rfl ?_
    refine x_retI (t := .int) (cod_174 rfl) rfl rfl rfl ?_
    exact H1
  · have H2 := H.2 h
    refine x_s (q := (.aload_n 0, 0, 0, 0)) (cod_174 rfl) rfl rfl rfl ?_
    refine x_gc (kk := 6) (c := 599) (t := 1) (cod_174 rfl) sq_p_597 sq_l_597_6 rfl rfl ?_
    refine x_s (q := (.iload 5, 0, 0, 0)) (cod_174 rfl) rfl rfl rfl ?_
    obtain ⟨c3, H4⟩ := H2
    refine x_laldc (cod_174 rfl) sq_p_599 (sq_k_599 (j := a5) c3.1 c3.2) ?_
    refine x_s (q := (.lload_n 3, 0, 0, 0)) (cod_174 rfl) rfl rfl rfl ?_
    refine x_s (q := (.lcmp, 0, 0, 0)) (cod_174 rfl) rfl rfl rfl ?_
    show X 174 63 [(1, 597), ua1, ua2, (2, a3), (9, 0), (0, a5)] [(0, lcmp (cs 599 a5) a3)] m _
    refine x_if (p := ¬ (lcmp (cs 599 a5) a3) = 0) (tgt := 69) (cod_174 rfl) (by decide) xj_ne (fun h => ?_) (fun h => ?_)
    · have H5 := H4.2 h
      refine x_s (q := (.iinc 5 1, 0, 0, 0)) (cod_174 rfl) rfl rfl rfl ?_
      refine x_go (tgt := 47) (cod_174 rfl) (by decide) ?_
      exact H5
    · have H6 := H4.1 (Classical.not_not.mp h)
      refine x_s (q := (.iload 5, 0, 0, 0)) (cod_174 rfl) rfl rfl rfl ?_
      refine x_retI (t := .int) (cod_174 rfl) rfl rfl rfl ?_
      exact H6
set_option maxRecDepth 100000 in
theorem w176_0 {m : Mm} {K : Int → Mm → Prop} (a1 : Int) 
  (H : X 176 2 [(1, 597), (0, a1), (0, 0)] [] m (qI K)) : X 176 0 [(1, 597), (0, a1), (9, 0)] [] m (qI K) := by
  refine x_s (q := (.iconst 0, 0, 0, 0)) (cod_176 rfl) rfl rfl rfl ?_
  refine x_s (q := (.istore_n 2, 0, 0, 0)) (cod_176 rfl) rfl rfl rfl ?_
  exact H
theorem e176 {m : Mm} {K : Int → Mm → Prop} (a1 : Int) 
  (H : X 176 2 [(1, 597), (0, a1), (0, 0)] [] m (qI K)) : TrI 176 [(1, 597), (0, a1)] m K := by
  exact w176_0 a1 H
set_option maxRecDepth 100000 in
theorem w176_2 {m : Mm} {K : Int → Mm → Prop} (a1 : Int) (a2 : Int) 
  (H : (a2 < 10 → (0 ≤ a2 ∧ a2 < 10) ∧ ((cs 600 a2) = a1 → K a2 m) ∧ (¬ (cs 600 a2) = a1 → X 176 2 [(1, 597), (0, a1), (0, wr (a2 + 1))] [] m (qI K))) ∧ (¬ a2 < 10 → K (-1) m)) : X 176 2 [(1, 597), (0, a1), (0, a2)] [] m (qI K) := by
  refine x_s (q := (.iload_n 2, 0, 0, 0)) (cod_176 rfl) rfl rfl rfl ?_
  refine x_s (q := (.bipush 10, 0, 0, 0)) (cod_176 rfl) rfl rfl rfl ?_
  refine x_ic (p := ¬ a2 < 10) (tgt := 26) (cod_176 rfl) (by decide) xn_ge (fun h => ?_) (fun h => ?_)
  · have H1 := H.2 h
    refine x_s (q := (.iconst (-1), 0, 0, 0)) (cod_176 rfl) rfl rfl rfl ?_
    refine x_retI (t := .int) (cod_176 rfl) rfl rfl rfl ?_
    exact H1
  · have H2 := H.1 (Classical.not_not.mp h)
    refine x_s (q := (.aload_n 0, 0, 0, 0)) (cod_176 rfl) rfl rfl rfl ?_
    refine x_gc (kk := 7) (c := 600) (t := 1) (cod_176 rfl) sq_p_597 sq_l_597_7 rfl rfl ?_
    refine x_s (q := (.iload_n 2, 0, 0, 0)) (cod_176 rfl) rfl rfl rfl ?_
    obtain ⟨c3, H4⟩ := H2
    refine x_ialdc (cod_176 rfl) sq_p_600 (sq_k_600 (j := a2) c3.1 c3.2) ?_
    refine x_s (q := (.iload_n 1, 0, 0, 0)) (cod_176 rfl) rfl rfl rfl ?_
    refine x_ic (p := ¬ (cs 600 a2) = a1) (tgt := 20) (cod_176 rfl) (by decide) xj_ne (fun h => ?_) (fun h => ?_)
    · have H5 := H4.2 h
      refine x_s (q := (.iinc 2 1, 0, 0, 0)) (cod_176 rfl) rfl rfl rfl ?_
      refine x_go (tgt := 2) (cod_176 rfl) (by decide) ?_
      exact H5
    · have H6 := H4.1 (Classical.not_not.mp h)
      refine x_s (q := (.iload_n 2, 0, 0, 0)) (cod_176 rfl) rfl rfl rfl ?_
      refine x_retI (t := .int) (cod_176 rfl) rfl rfl rfl ?_
      exact H6
set_option maxRecDepth 100000 in
theorem w177_0 {m : Mm} {K : Int → Mm → Prop}  
  (H : ((m 597 9) = 1 → ((m 597 10) > 6 → ∀ m32, m32 = umem m 597 4 1 → ∀ m34, m34 = umem m32 597 5 (m 597 11) → K 0 m34) ∧ (¬ (m 597 10) > 6 → ((m 597 10) = 0 → TrI 180 [(1, 597)] m fun v31 m29 => X 177 84 [(1, 597), (9, 0)] [(0, v31)] m29 (qI K)) ∧ (¬ (m 597 10) = 0 → ((m 597 10) = 1 → TrI 185 [(1, 597)] m fun v28 m26 => X 177 84 [(1, 597), (9, 0)] [(0, v28)] m26 (qI K)) ∧ (¬ (m 597 10) = 1 → ((m 597 10) < 4 → ((m 597 10) = 2 → TrI 188 [(1, 597), (0, 1)] m fun v25 m23 => X 177 84 [(1, 597), (9, 0)] [(0, v25)] m23 (qI K)) ∧ (¬ (m 597 10) = 2 → TrI 188 [(1, 597), (0, 0)] m fun v22 m20 => X 177 84 [(1, 597), (9, 0)] [(0, v22)] m20 (qI K))) ∧ (¬ (m 597 10) < 4 → TrI 189 [(1, 597)] m fun v17 m15 => X 177 84 [(1, 597), (9, 0)] [(0, v17)] m15 (qI K)))))) ∧ (¬ (m 597 9) = 1 → ∀ m3, m3 = umem m 597 4 1 → ∀ m5, m5 = umem m3 597 5 (m 597 11) → K 0 m5)) : X 177 0 [(1, 597), (9, 0)] [] m (qI K) := by
  refine x_s (q := (.aload_n 0, 0, 0, 0)) (cod_177 rfl) rfl rfl rfl ?_
  refine x_gf (kk := 9) (t := 0) (cod_177 rfl) sq_p_597 sq_l_597_9 rfl rfl ?_
  refine x_s (q := (.iconst 1, 0, 0, 0)) (cod_177 rfl) rfl rfl rfl ?_
  refine x_ic (p := ¬ (m 597 9) = 1) (tgt := 17) (cod_177 rfl) (by decide) xj_ne (fun h => ?_) (fun h => ?_)
  · have H1 := H.2 h
    refine x_s (q := (.aload_n 0, 0, 0, 0)) (cod_177 rfl) rfl rfl rfl ?_
    refine x_s (q := (.iconst 1, 0, 0, 0)) (cod_177 rfl) rfl rfl rfl ?_
    refine x_call (as := [(1, 597), (0, 1)]) (rest := []) (cod_177 rfl) rfl rfl (by decide) (by decide) rfl rfl (Nat.le_of_ble_eq_true rfl) (rcv0 sq_l_597_0 sq_p_597 (by decide)) (Nat.le_of_ble_eq_true rfl) ?_
    show X 178 0 [(1, 597), (0, 1)] [] m _
    refine x_s (q := (.aload_n 0, 0, 0, 0)) (cod_178 rfl) rfl rfl rfl ?_
    refine x_s (q := (.iload_n 1, 0, 0, 0)) (cod_178 rfl) rfl rfl rfl ?_
    refine x_s (q := (.aload_n 0, 0, 0, 0)) (cod_178 rfl) rfl rfl rfl ?_
    refine x_gf (kk := 11) (t := 0) (cod_178 rfl) sq_p_597 sq_l_597_11 rfl rfl ?_
    refine x_call (as := [(1, 597), (0, 1), (0, m 597 11)]) (rest := []) (cod_178 rfl) rfl rfl (by decide) (by decide) rfl rfl (Nat.le_of_ble_eq_true rfl) (rcv0 sq_l_597_0 sq_p_597 (by decide)) (Nat.le_of_ble_eq_true rfl) ?_
    show X 179 0 [(1, 597), (0, 1), (0, m 597 11)] [] m _
    refine x_s (q := (.aload_n 0, 0, 0, 0)) (cod_179 rfl) rfl rfl rfl ?_
    refine x_s (q := (.iload_n 1, 0, 0, 0)) (cod_179 rfl) rfl rfl rfl ?_
    refine x_pf (kk := 4) (t := 0) (cod_179 rfl) sq_p_597 sq_l_597_4 rfl rfl rfl ?_
    have H4 := H1 _ rfl
    generalize umem m 597 4 1 = m3 at H4 ⊢
    refine x_s (q := (.aload_n 0, 0, 0, 0)) (cod_179 rfl) rfl rfl rfl ?_
    refine x_s (q := (.iload_n 2, 0, 0, 0)) (cod_179 rfl) rfl rfl rfl ?_
    refine x_pf (kk := 5) (t := 0) (cod_179 rfl) sq_p_597 sq_l_597_5 rfl rfl rfl ?_
    have H6 := H4 _ rfl
    generalize umem m3 597 5 (m 597 11) = m5 at H6 ⊢
    refine x_s (q := (.iconst 0, 0, 0, 0)) (cod_179 rfl) rfl rfl rfl ?_
    refine x_rI (t := .boolean) (cod_179 rfl) rfl rfl rfl ?_
    show X 178 9 [(1, 597), (0, 1)] [(0, 0)] m5 _
    refine x_rI (t := .boolean) (cod_178 rfl) rfl rfl rfl ?_
    show X 177 22 [(1, 597), (9, 0)] [(0, 0)] m5 _
    refine x_retI (t := .boolean) (cod_177 rfl) rfl rfl rfl ?_
    exact H6
  · have H2 := H.1 (Classical.not_not.mp h)
    refine x_s (q := (.aload_n 0, 0, 0, 0)) (cod_177 rfl) rfl rfl rfl ?_
    refine x_gf (kk := 10) (t := 0) (cod_177 rfl) sq_p_597 sq_l_597_10 rfl rfl ?_
    refine x_s (q := (.bipush 6, 0, 0, 0)) (cod_177 rfl) rfl rfl rfl ?_
    refine x_ic (p := ¬ (m 597 10) > 6) (tgt := 23) (cod_177 rfl) (by decide) xn_le (fun h => ?_) (fun h => ?_)
    · have H7 := H2.2 h
      refine x_s (q := (.aload_n 0, 0, 0, 0)) (cod_177 rfl) rfl rfl rfl ?_
      refine x_gf (kk := 10) (t := 0) (cod_177 rfl) sq_p_597 sq_l_597_10 rfl rfl ?_
      refine x_if (p := ¬ (m 597 10) = 0) (tgt := 37) (cod_177 rfl) (by decide) xj_ne (fun h => ?_) (fun h => ?_)
      · have H9 := H7.2 h
        refine x_s (q := (.aload_n 0, 0, 0, 0)) (cod_177 rfl) rfl rfl rfl ?_
        refine x_gf (kk := 10) (t := 0) (cod_177 rfl) sq_p_597 sq_l_597_10 rfl rfl ?_
        refine x_s (q := (.iconst 1, 0, 0, 0)) (cod_177 rfl) rfl rfl rfl ?_
        refine x_ic (p := ¬ (m 597 10) = 1) (tgt := 52) (cod_177 rfl) (by decide) xj_ne (fun h => ?_) (fun h => ?_)
        · have H11 := H9.2 h
          refine x_s (q := (.aload_n 0, 0, 0, 0)) (cod_177 rfl) rfl rfl rfl ?_
          refine x_gf (kk := 10) (t := 0) (cod_177 rfl) sq_p_597 sq_l_597_10 rfl rfl ?_
          refine x_s (q := (.iconst 4, 0, 0, 0)) (cod_177 rfl) rfl rfl rfl ?_
          refine x_ic (p := ¬ (m 597 10) < 4) (tgt := 80) (cod_177 rfl) (by decide) xn_ge (fun h => ?_) (fun h => ?_)
          · have H13 := H11.2 h
            refine x_s (q := (.aload_n 0, 0, 0, 0)) (cod_177 rfl) rfl rfl rfl ?_
            refine x_call (as := [(1, 597)]) (rest := []) (cod_177 rfl) rfl rfl (by decide) (by decide) rfl rfl (Nat.le_of_ble_eq_true rfl) (rcv0 sq_l_597_0 sq_p_597 (by decide)) (Nat.le_of_ble_eq_true rfl) ?_
            refine X.imp H13 ?_
            rintro _ m15 ⟨v17, rfl, H16⟩
            show X 177 84 [(1, 597), (9, 0)] [(0, v17)] m15 _
            exact H16
          · have H14 := H11.1 (Classical.not_not.mp h)
            refine x_s (q := (.aload_n 0, 0, 0, 0)) (cod_177 rfl) rfl rfl rfl ?_
            refine x_s (q := (.aload_n 0, 0, 0, 0)) (cod_177 rfl) rfl rfl rfl ?_
            refine x_gf (kk := 10) (t := 0) (cod_177 rfl) sq_p_597 sq_l_597_10 rfl rfl ?_
            refine x_s (q := (.iconst 2, 0, 0, 0)) (cod_177 rfl) rfl rfl rfl ?_
            refine x_ic (p := ¬ (m 597 10) = 2) (tgt := 73) (cod_177 rfl) (by decide) xj_ne (fun h => ?_) (fun h => ?_)
            · have H18 := H14.2 h
              refine x_s (q := (.iconst 0, 0, 0, 0)) (cod_177 rfl) rfl rfl rfl ?_
              refine x_call (as := [(1, 597), (0, 0)]) (rest := []) (cod_177 rfl) rfl rfl (by decide) (by decide) rfl rfl (Nat.le_of_ble_eq_true rfl) (rcv0 sq_l_597_0 sq_p_597 (by decide)) (Nat.le_of_ble_eq_true rfl) ?_
              refine X.imp H18 ?_
              rintro _ m20 ⟨v22, rfl, H21⟩
              show X 177 77 [(1, 597), (9, 0)] [(0, v22)] m20 _
              refine x_go (tgt := 84) (cod_177 rfl) (by decide) ?_
              exact H21
            · have H19 := H14.1 (Classical.not_not.mp h)
              refine x_s (q := (.iconst 1, 0, 0, 0)) (cod_177 rfl) rfl rfl rfl ?_
              refine x_go (tgt := 74) (cod_177 rfl) (by decide) ?_
              refine x_call (as := [(1, 597), (0, 1)]) (rest := []) (cod_177 rfl) rfl rfl (by decide) (by decide) rfl rfl (Nat.le_of_ble_eq_true rfl) (rcv0 sq_l_597_0 sq_p_597 (by decide)) (Nat.le_of_ble_eq_true rfl) ?_
              refine X.imp H19 ?_
              rintro _ m23 ⟨v25, rfl, H24⟩
              show X 177 77 [(1, 597), (9, 0)] [(0, v25)] m23 _
              refine x_go (tgt := 84) (cod_177 rfl) (by decide) ?_
              exact H24
        · have H12 := H9.1 (Classical.not_not.mp h)
          refine x_s (q := (.aload_n 0, 0, 0, 0)) (cod_177 rfl) rfl rfl rfl ?_
          refine x_call (as := [(1, 597)]) (rest := []) (cod_177 rfl) rfl rfl (by decide) (by decide) rfl rfl (Nat.le_of_ble_eq_true rfl) (rcv0 sq_l_597_0 sq_p_597 (by decide)) (Nat.le_of_ble_eq_true rfl) ?_
          refine X.imp H12 ?_
          rintro _ m26 ⟨v28, rfl, H27⟩
          show X 177 49 [(1, 597), (9, 0)] [(0, v28)] m26 _
          refine x_go (tgt := 84) (cod_177 rfl) (by decide) ?_
          exact H27
      · have H10 := H7.1 (Classical.not_not.mp h)
        refine x_s (q := (.aload_n 0, 0, 0, 0)) (cod_177 rfl) rfl rfl rfl ?_
        refine x_call (as := [(1, 597)]) (rest := []) (cod_177 rfl) rfl rfl (by decide) (by decide) rfl rfl (Nat.le_of_ble_eq_true rfl) (rcv0 sq_l_597_0 sq_p_597 (by decide)) (Nat.le_of_ble_eq_true rfl) ?_
        refine X.imp H10 ?_
        rintro _ m29 ⟨v31, rfl, H30⟩
        show X 177 34 [(1, 597), (9, 0)] [(0, v31)] m29 _
        refine x_go (tgt := 84) (cod_177 rfl) (by decide) ?_
        exact H30
    · have H8 := H2.1 (Classical.not_not.mp h)
      refine x_s (q := (.aload_n 0, 0, 0, 0)) (cod_177 rfl) rfl rfl rfl ?_
      refine x_s (q := (.iconst 1, 0, 0, 0)) (cod_177 rfl) rfl rfl rfl ?_
      refine x_call (as := [(1, 597), (0, 1)]) (rest := []) (cod_177 rfl) rfl rfl (by decide) (by decide) rfl rfl (Nat.le_of_ble_eq_true rfl) (rcv0 sq_l_597_0 sq_p_597 (by decide)) (Nat.le_of_ble_eq_true rfl) ?_
      show X 178 0 [(1, 597), (0, 1)] [] m _
      refine x_s (q := (.aload_n 0, 0, 0, 0)) (cod_178 rfl) rfl rfl rfl ?_
      refine x_s (q := (.iload_n 1, 0, 0, 0)) (cod_178 rfl) rfl rfl rfl ?_
      refine x_s (q := (.aload_n 0, 0, 0, 0)) (cod_178 rfl) rfl rfl rfl ?_
      refine x_gf (kk := 11) (t := 0) (cod_178 rfl) sq_p_597 sq_l_597_11 rfl rfl ?_
      refine x_call (as := [(1, 597), (0, 1), (0, m 597 11)]) (rest := []) (cod_178 rfl) rfl rfl (by decide) (by decide) rfl rfl (Nat.le_of_ble_eq_true rfl) (rcv0 sq_l_597_0 sq_p_597 (by decide)) (Nat.le_of_ble_eq_true rfl) ?_
      show X 179 0 [(1, 597), (0, 1), (0, m 597 11)] [] m _
      refine x_s (q := (.aload_n 0, 0, 0, 0)) (cod_179 rfl) rfl rfl rfl ?_
      refine x_s (q := (.iload_n 1, 0, 0, 0)) (cod_179 rfl) rfl rfl rfl ?_
      refine x_pf (kk := 4) (t := 0) (cod_179 rfl) sq_p_597 sq_l_597_4 rfl rfl rfl ?_
      have H33 := H8 _ rfl
      generalize umem m 597 4 1 = m32 at H33 ⊢
      refine x_s (q := (.aload_n 0, 0, 0, 0)) (cod_179 rfl) rfl rfl rfl ?_
      refine x_s (q := (.iload_n 2, 0, 0, 0)) (cod_179 rfl) rfl rfl rfl ?_
      refine x_pf (kk := 5) (t := 0) (cod_179 rfl) sq_p_597 sq_l_597_5 rfl rfl rfl ?_
      have H35 := H33 _ rfl
      generalize umem m32 597 5 (m 597 11) = m34 at H35 ⊢
      refine x_s (q := (.iconst 0, 0, 0, 0)) (cod_179 rfl) rfl rfl rfl ?_
      refine x_rI (t := .boolean) (cod_179 rfl) rfl rfl rfl ?_
      show X 178 9 [(1, 597), (0, 1)] [(0, 0)] m34 _
      refine x_rI (t := .boolean) (cod_178 rfl) rfl rfl rfl ?_
      show X 177 22 [(1, 597), (9, 0)] [(0, 0)] m34 _
      refine x_retI (t := .boolean) (cod_177 rfl) rfl rfl rfl ?_
      exact H35
theorem e177 {m : Mm} {K : Int → Mm → Prop}  
  (H : ((m 597 9) = 1 → ((m 597 10) > 6 → ∀ m32, m32 = umem m 597 4 1 → ∀ m34, m34 = umem m32 597 5 (m 597 11) → K 0 m34) ∧ (¬ (m 597 10) > 6 → ((m 597 10) = 0 → TrI 180 [(1, 597)] m fun v31 m29 => X 177 84 [(1, 597), (9, 0)] [(0, v31)] m29 (qI K)) ∧ (¬ (m 597 10) = 0 → ((m 597 10) = 1 → TrI 185 [(1, 597)] m fun v28 m26 => X 177 84 [(1, 597), (9, 0)] [(0, v28)] m26 (qI K)) ∧ (¬ (m 597 10) = 1 → ((m 597 10) < 4 → ((m 597 10) = 2 → TrI 188 [(1, 597), (0, 1)] m fun v25 m23 => X 177 84 [(1, 597), (9, 0)] [(0, v25)] m23 (qI K)) ∧ (¬ (m 597 10) = 2 → TrI 188 [(1, 597), (0, 0)] m fun v22 m20 => X 177 84 [(1, 597), (9, 0)] [(0, v22)] m20 (qI K))) ∧ (¬ (m 597 10) < 4 → TrI 189 [(1, 597)] m fun v17 m15 => X 177 84 [(1, 597), (9, 0)] [(0, v17)] m15 (qI K)))))) ∧ (¬ (m 597 9) = 1 → ∀ m3, m3 = umem m 597 4 1 → ∀ m5, m5 = umem m3 597 5 (m 597 11) → K 0 m5)) : TrI 177 [(1, 597)] m K := by
  exact w177_0  H
set_option maxRecDepth 100000 in
theorem w177_84 {m : Mm} {K : Int → Mm → Prop} (ua1 : aV) (s0 : Int) 
  (H : (s0 = 0 → K 0 m) ∧ (¬ s0 = 0 → ((m 597 9) = 4 → TrV 170 [(1, 597)] m fun m5 => K 1 m5) ∧ (¬ (m 597 9) = 4 → ∀ m7, m7 = umem m 597 4 1 → ∀ m9, m9 = umem m7 597 5 (m 597 11) → K 0 m9))) : X 177 84 [(1, 597), ua1] [(0, s0)] m (qI K) := by
  refine x_s (q := (.istore_n 1, 0, 0, 0)) (cod_177 rfl) rfl rfl rfl ?_
  refine x_s (q := (.iload_n 1, 0, 0, 0)) (cod_177 rfl) rfl rfl rfl ?_
  refine x_if (p := ¬ s0 = 0) (tgt := 91) (cod_177 rfl) (by decide) xj_ne (fun h => ?_) (fun h => ?_)
  · have H1 := H.2 h
    refine x_s (q := (.aload_n 0, 0, 0, 0)) (cod_177 rfl) rfl rfl rfl ?_
    refine x_gf (kk := 9) (t := 0) (cod_177 rfl) sq_p_597 sq_l_597_9 rfl rfl ?_
    refine x_s (q := (.iconst 4, 0, 0, 0)) (cod_177 rfl) rfl rfl rfl ?_
    refine x_ic (p := (m 597 9) = 4) (tgt := 105) (cod_177 rfl) (by decide) xj_eq (fun h => ?_) (fun h => ?_)
    · have H3 := H1.1 h
      refine x_s (q := (.aload_n 0, 0, 0, 0)) (cod_177 rfl) rfl rfl rfl ?_
      refine x_call (as := [(1, 597)]) (rest := []) (cod_177 rfl) rfl rfl (by decide) (by decide) rfl rfl (Nat.le_of_ble_eq_true rfl) (rcv0 sq_l_597_0 sq_p_597 (by decide)) (Nat.le_of_ble_eq_true rfl) ?_
      refine X.imp H3 ?_
      rintro _ m5 ⟨rfl, H6⟩
      show X 177 109 [(1, 597), (0, s0)] [] m5 _
      refine x_s (q := (.iconst 1, 0, 0, 0)) (cod_177 rfl) rfl rfl rfl ?_
      refine x_retI (t := .boolean) (cod_177 rfl) rfl rfl rfl ?_
      exact H6
    · have H4 := H1.2 h
      refine x_s (q := (.aload_n 0, 0, 0, 0)) (cod_177 rfl) rfl rfl rfl ?_
      refine x_s (q := (.iconst 1, 0, 0, 0)) (cod_177 rfl) rfl rfl rfl ?_
      refine x_call (as := [(1, 597), (0, 1)]) (rest := []) (cod_177 rfl) rfl rfl (by decide) (by decide) rfl rfl (Nat.le_of_ble_eq_true rfl) (rcv0 sq_l_597_0 sq_p_597 (by decide)) (Nat.le_of_ble_eq_true rfl) ?_
      show X 178 0 [(1, 597), (0, 1)] [] m _
      refine x_s (q := (.aload_n 0, 0, 0, 0)) (cod_178 rfl) rfl rfl rfl ?_
      refine x_s (q := (.iload_n 1, 0, 0, 0)) (cod_178 rfl) rfl rfl rfl ?_
      refine x_s (q := (.aload_n 0, 0, 0, 0)) (cod_178 rfl) rfl rfl rfl ?_
      refine x_gf (kk := 11) (t := 0) (cod_178 rfl) sq_p_597 sq_l_597_11 rfl rfl ?_
      refine x_call (as := [(1, 597), (0, 1), (0, m 597 11)]) (rest := []) (cod_178 rfl) rfl rfl (by decide) (by decide) rfl rfl (Nat.le_of_ble_eq_true rfl) (rcv0 sq_l_597_0 sq_p_597 (by decide)) (Nat.le_of_ble_eq_true rfl) ?_
      show X 179 0 [(1, 597), (0, 1), (0, m 597 11)] [] m _
      refine x_s (q := (.aload_n 0, 0, 0, 0)) (cod_179 rfl) rfl rfl rfl ?_
      refine x_s (q := (.iload_n 1, 0, 0, 0)) (cod_179 rfl) rfl rfl rfl ?_
      refine x_pf (kk := 4) (t := 0) (cod_179 rfl) sq_p_597 sq_l_597_4 rfl rfl rfl ?_
      have H8 := H4 _ rfl
      generalize umem m 597 4 1 = m7 at H8 ⊢
      refine x_s (q := (.aload_n 0, 0, 0, 0)) (cod_179 rfl) rfl rfl rfl ?_
      refine x_s (q := (.iload_n 2, 0, 0, 0)) (cod_179 rfl) rfl rfl rfl ?_
      refine x_pf (kk := 5) (t := 0) (cod_179 rfl) sq_p_597 sq_l_597_5 rfl rfl rfl ?_
      have H10 := H8 _ rfl
      generalize umem m7 597 5 (m 597 11) = m9 at H10 ⊢
      refine x_s (q := (.iconst 0, 0, 0, 0)) (cod_179 rfl) rfl rfl rfl ?_
      refine x_rI (t := .boolean) (cod_179 rfl) rfl rfl rfl ?_
      show X 178 9 [(1, 597), (0, 1)] [(0, 0)] m9 _
      refine x_rI (t := .boolean) (cod_178 rfl) rfl rfl rfl ?_
      show X 177 104 [(1, 597), (0, s0)] [(0, 0)] m9 _
      refine x_retI (t := .boolean) (cod_177 rfl) rfl rfl rfl ?_
      exact H10
  · have H2 := H.1 (Classical.not_not.mp h)
    refine x_s (q := (.iconst 0, 0, 0, 0)) (cod_177 rfl) rfl rfl rfl ?_
    refine x_retI (t := .boolean) (cod_177 rfl) rfl rfl rfl ?_
    exact H2
set_option maxRecDepth 100000 in
theorem w180_0 {m : Mm} {K : Int → Mm → Prop}  
  (H : m 597 16 = 1 ∧ ((m 602 1161) = 24 → ∀ m35, m35 = umem m 597 4 2 → ∀ m37, m37 = umem m35 597 5 (m 597 11) → K 0 m37) ∧ (¬ (m 602 1161) = 24 → m 597 16 = 1 ∧ TrV 170 [(1, 597)] m fun m7 => ((m7 597 9) = 5 → (0 ≤ (wr ((wr (583 * (m7 597 16))) + (wr (11 * (m 602 1161))))) ∧ (wr ((wr (583 * (m7 597 16))) + (wr (11 * (m 602 1161))))) < 1166) ∧ ∀ m13, m13 = umem m7 602 (wr ((wr (583 * (m7 597 16))) + (wr (11 * (m 602 1161))))) (m7 597 10) → TrV 170 [(1, 597)] m13 fun m15 => ((m15 597 9) = 6 → X 180 86 [(1, 597), (0, wr (11 * (m 602 1161))), (9, 0)] [] m15 (qI K)) ∧ (¬ (m15 597 9) = 6 → ((m15 597 9) = 2 → ((m15 597 13) > 6 → ∀ m27, m27 = umem m15 597 4 1 → ∀ m29, m29 = umem m27 597 5 (m15 597 11) → K 0 m29) ∧ (¬ (m15 597 13) > 6 → X 180 86 [(1, 597), (0, wr (11 * (m 602 1161))), (9, 0)] [] m15 (qI K))) ∧ (¬ (m15 597 9) = 2 → ∀ m21, m21 = umem m15 597 4 1 → ∀ m23, m23 = umem m21 597 5 (m15 597 11) → K 0 m23))) ∧ (¬ (m7 597 9) = 5 → ∀ m31, m31 = umem m7 597 4 1 → ∀ m33, m33 = umem m31 597 5 (m7 597 11) → K 0 m33))) : X 180 0 [(1, 597), (9, 0), (9, 0)] [] m (qI K) := by
  refine x_s (q := (.aload_n 0, 0, 0, 0)) (cod_180 rfl) rfl rfl rfl ?_
  refine x_call (as := [(1, 597)]) (rest := []) (cod_180 rfl) rfl rfl (by decide) (by decide) rfl rfl (Nat.le_of_ble_eq_true rfl) (rcv0 sq_l_597_0 sq_p_597 (by decide)) (Nat.le_of_ble_eq_true rfl) ?_
  show X 181 0 [(1, 597)] [] m _
  refine x_s (q := (.aload_n 0, 0, 0, 0)) (cod_181 rfl) rfl rfl rfl ?_
  refine x_s (q := (.sipush 578, 0, 0, 0)) (cod_181 rfl) rfl rfl rfl ?_
  obtain ⟨c1, H2⟩ := H
  refine x_call (as := [(1, 597), (0, 578)]) (rest := []) (cod_181 rfl) rfl rfl (by decide) (by decide) rfl rfl (Nat.le_of_ble_eq_true rfl) (rcv0 sq_l_597_0 sq_p_597 (by decide)) (Nat.le_of_ble_eq_true rfl) ?_
  refine x_pure (p182b (by decide) c1) ?_
  show X 181 7 [(1, 597)] [(0, m 602 1161)] m _
  refine x_rI (t := .int) (cod_181 rfl) rfl rfl rfl ?_
  show X 180 4 [(1, 597), (9, 0), (9, 0)] [(0, m 602 1161)] m _
  refine x_s (q := (.bipush 24, 0, 0, 0)) (cod_180 rfl) rfl rfl rfl ?_
  refine x_ic (p := ¬ (m 602 1161) = 24) (tgt := 15) (cod_180 rfl) (by decide) xj_ne (fun h => ?_) (fun h => ?_)
  · have H3 := H2.2 h
    refine x_s (q := (.bipush 11, 0, 0, 0)) (cod_180 rfl) rfl rfl rfl ?_
    refine x_s (q := (.aload_n 0, 0, 0, 0)) (cod_180 rfl) rfl rfl rfl ?_
    refine x_call (as := [(1, 597)]) (rest := [(0, 11)]) (cod_180 rfl) rfl rfl (by decide) (by decide) rfl rfl (Nat.le_of_ble_eq_true rfl) (rcv0 sq_l_597_0 sq_p_597 (by decide)) (Nat.le_of_ble_eq_true rfl) ?_
    show X 181 0 [(1, 597)] [] m _
    refine x_s (q := (.aload_n 0, 0, 0, 0)) (cod_181 rfl) rfl rfl rfl ?_
    refine x_s (q := (.sipush 578, 0, 0, 0)) (cod_181 rfl) rfl rfl rfl ?_
    obtain ⟨c5, H6⟩ := H3
    refine x_call (as := [(1, 597), (0, 578)]) (rest := []) (cod_181 rfl) rfl rfl (by decide) (by decide) rfl rfl (Nat.le_of_ble_eq_true rfl) (rcv0 sq_l_597_0 sq_p_597 (by decide)) (Nat.le_of_ble_eq_true rfl) ?_
    refine x_pure (p182b (by decide) c5) ?_
    show X 181 7 [(1, 597)] [(0, m 602 1161)] m _
    refine x_rI (t := .int) (cod_181 rfl) rfl rfl rfl ?_
    show X 180 21 [(1, 597), (9, 0), (9, 0)] [(0, m 602 1161), (0, 11)] m _
    refine x_s (q := (.imul, 0, 0, 0)) (cod_180 rfl) rfl rfl rfl ?_
    refine x_s (q := (.istore_n 1, 0, 0, 0)) (cod_180 rfl) rfl rfl rfl ?_
    refine x_s (q := (.aload_n 0, 0, 0, 0)) (cod_180 rfl) rfl rfl rfl ?_
    refine x_call (as := [(1, 597)]) (rest := []) (cod_180 rfl) rfl rfl (by decide) (by decide) rfl rfl (Nat.le_of_ble_eq_true rfl) (rcv0 sq_l_597_0 sq_p_597 (by decide)) (Nat.le_of_ble_eq_true rfl) ?_
    refine X.imp H6 ?_
    rintro _ m7 ⟨rfl, H8⟩
    show X 180 27 [(1, 597), (0, wr (11 * (m 602 1161))), (9, 0)] [] m7 _
    refine x_s (q := (.aload_n 0, 0, 0, 0)) (cod_180 rfl) rfl rfl rfl ?_
    refine x_gf (kk := 9) (t := 0) (cod_180 rfl) sq_p_597 sq_l_597_9 rfl rfl ?_
    refine x_s (q := (.iconst 5, 0, 0, 0)) (cod_180 rfl) rfl rfl rfl ?_
    refine x_ic (p := (m7 597 9) = 5) (tgt := 41) (cod_180 rfl) (by decide) xj_eq (fun h => ?_) (fun h => ?_)
    · have H9 := H8.1 h
      refine x_s (q := (.aload_n 0, 0, 0, 0)) (cod_180 rfl) rfl rfl rfl ?_
      refine x_s (q := (.iload_n 1, 0, 0, 0)) (cod_180 rfl) rfl rfl rfl ?_
      refine x_s (q := (.aload_n 0, 0, 0, 0)) (cod_180 rfl) rfl rfl rfl ?_
      refine x_gf (kk := 10) (t := 0) (cod_180 rfl) sq_p_597 sq_l_597_10 rfl rfl ?_
      refine x_call (as := [(1, 597), (0, wr (11 * (m 602 1161))), (0, m7 597 10)]) (rest := []) (cod_180 rfl) rfl rfl (by decide) (by decide) rfl rfl (Nat.le_of_ble_eq_true rfl) (rcv0 sq_l_597_0 sq_p_597 (by decide)) (Nat.le_of_ble_eq_true rfl) ?_
      show X 163 0 [(1, 597), (0, wr (11 * (m 602 1161))), (0, m7 597 10)] [] m7 _
      refine x_s (q := (.aload_n 0, 0, 0, 0)) (cod_163 rfl) rfl rfl rfl ?_
      refine x_gc (kk := 15) (c := 602) (t := 1) (cod_163 rfl) sq_p_597 sq_l_597_15 rfl rfl ?_
      refine x_s (q := (.sipush 583, 0, 0, 0)) (cod_163 rfl) rfl rfl rfl ?_
      refine x_s (q := (.aload_n 0, 0, 0, 0)) (cod_163 rfl) rfl rfl rfl ?_
      refine x_gf (kk := 16) (t := 0) (cod_163 rfl) sq_p_597 sq_l_597_16 rfl rfl ?_
      refine x_s (q := (.imul, 0, 0, 0)) (cod_163 rfl) rfl rfl rfl ?_
      refine x_s (q := (.iload_n 1, 0, 0, 0)) (cod_163 rfl) rfl rfl rfl ?_
      refine x_s (q := (.iadd, 0, 0, 0)) (cod_163 rfl) rfl rfl rfl ?_
      refine x_s (q := (.iload_n 2, 0, 0, 0)) (cod_163 rfl) rfl rfl rfl ?_
      obtain ⟨c11, H12⟩ := H9
      refine x_iast (cod_163 rfl) sq_a_602.s (sq_a_602.k c11.1 c11.2) ?_
      have H14 := H12 _ rfl
      generalize umem m7 602 (wr ((wr (583 * (m7 597 16))) + (wr (11 * (m 602 1161))))) (m7 597 10) = m13 at H14 ⊢
      refine x_rV (cod_163 rfl) rfl ?_
      show X 180 50 [(1, 597), (0, wr (11 * (m 602 1161))), (9, 0)] [] m13 _
      refine x_s (q := (.aload_n 0, 0, 0, 0)) (cod_180 rfl) rfl rfl rfl ?_
      refine x_call (as := [(1, 597)]) (rest := []) (cod_180 rfl) rfl rfl (by decide) (by decide) rfl rfl (Nat.le_of_ble_eq_true rfl) (rcv0 sq_l_597_0 sq_p_597 (by decide)) (Nat.le_of_ble_eq_true rfl) ?_
      refine X.imp H14 ?_
      rintro _ m15 ⟨rfl, H16⟩
      show X 180 54 [(1, 597), (0, wr (11 * (m 602 1161))), (9, 0)] [] m15 _
      refine x_s (q := (.aload_n 0, 0, 0, 0)) (cod_180 rfl) rfl rfl rfl ?_
      refine x_gf (kk := 9) (t := 0) (cod_180 rfl) sq_p_597 sq_l_597_9 rfl rfl ?_
      refine x_s (q := (.bipush 6, 0, 0, 0)) (cod_180 rfl) rfl rfl rfl ?_
      refine x_ic (p := (m15 597 9) = 6) (tgt := 86) (cod_180 rfl) (by decide) xj_eq (fun h => ?_) (fun h => ?_)
      · have H17 := H16.1 h
        exact H17
      · have H18 := H16.2 h
        refine x_s (q := (.aload_n 0, 0, 0, 0)) (cod_180 rfl) rfl rfl rfl ?_
        refine x_gf (kk := 9) (t := 0) (cod_180 rfl) sq_p_597 sq_l_597_9 rfl rfl ?_
        refine x_s (q := (.iconst 2, 0, 0, 0)) (cod_180 rfl) rfl rfl rfl ?_
        refine x_ic (p := ¬ (m15 597 9) = 2) (tgt := 80) (cod_180 rfl) (by decide) xj_ne (fun h => ?_) (fun h => ?_)
        · have H19 := H18.2 h
          refine x_s (q := (.aload_n 0, 0, 0, 0)) (cod_180 rfl) rfl rfl rfl ?_
          refine x_s (q := (.iconst 1, 0, 0, 0)) (cod_180 rfl) rfl rfl rfl ?_
          refine x_call (as := [(1, 597), (0, 1)]) (rest := []) (cod_180 rfl) rfl rfl (by decide) (by decide) rfl rfl (Nat.le_of_ble_eq_true rfl) (rcv0 sq_l_597_0 sq_p_597 (by decide)) (Nat.le_of_ble_eq_true rfl) ?_
          show X 178 0 [(1, 597), (0, 1)] [] m15 _
          refine x_s (q := (.aload_n 0, 0, 0, 0)) (cod_178 rfl) rfl rfl rfl ?_
          refine x_s (q := (.iload_n 1, 0, 0, 0)) (cod_178 rfl) rfl rfl rfl ?_
          refine x_s (q := (.aload_n 0, 0, 0, 0)) (cod_178 rfl) rfl rfl rfl ?_
          refine x_gf (kk := 11) (t := 0) (cod_178 rfl) sq_p_597 sq_l_597_11 rfl rfl ?_
          refine x_call (as := [(1, 597), (0, 1), (0, m15 597 11)]) (rest := []) (cod_178 rfl) rfl rfl (by decide) (by decide) rfl rfl (Nat.le_of_ble_eq_true rfl) (rcv0 sq_l_597_0 sq_p_597 (by decide)) (Nat.le_of_ble_eq_true rfl) ?_
          show X 179 0 [(1, 597), (0, 1), (0, m15 597 11)] [] m15 _
          refine x_s (q := (.aload_n 0, 0, 0, 0)) (cod_179 rfl) rfl rfl rfl ?_
          refine x_s (q := (.iload_n 1, 0, 0, 0)) (cod_179 rfl) rfl rfl rfl ?_
          refine x_pf (kk := 4) (t := 0) (cod_179 rfl) sq_p_597 sq_l_597_4 rfl rfl rfl ?_
          have H22 := H19 _ rfl
          generalize umem m15 597 4 1 = m21 at H22 ⊢
          refine x_s (q := (.aload_n 0, 0, 0, 0)) (cod_179 rfl) rfl rfl rfl ?_
          refine x_s (q := (.iload_n 2, 0, 0, 0)) (cod_179 rfl) rfl rfl rfl ?_
          refine x_pf (kk := 5) (t := 0) (cod_179 rfl) sq_p_597 sq_l_597_5 rfl rfl rfl ?_
          have H24 := H22 _ rfl
          generalize umem m21 597 5 (m15 597 11) = m23 at H24 ⊢
          refine x_s (q := (.iconst 0, 0, 0, 0)) (cod_179 rfl) rfl rfl rfl ?_
          refine x_rI (t := .boolean) (cod_179 rfl) rfl rfl rfl ?_
          show X 178 9 [(1, 597), (0, 1)] [(0, 0)] m23 _
          refine x_rI (t := .boolean) (cod_178 rfl) rfl rfl rfl ?_
          show X 180 85 [(1, 597), (0, wr (11 * (m 602 1161))), (9, 0)] [(0, 0)] m23 _
          refine x_retI (t := .boolean) (cod_180 rfl) rfl rfl rfl ?_
          exact H24
        · have H20 := H18.1 (Classical.not_not.mp h)
          refine x_s (q := (.aload_n 0, 0, 0, 0)) (cod_180 rfl) rfl rfl rfl ?_
          refine x_gf (kk := 13) (t := 0) (cod_180 rfl) sq_p_597 sq_l_597_13 rfl rfl ?_
          refine x_s (q := (.bipush 6, 0, 0, 0)) (cod_180 rfl) rfl rfl rfl ?_
          refine x_ic (p := ¬ (m15 597 13) > 6) (tgt := 86) (cod_180 rfl) (by decide) xn_le (fun h => ?_) (fun h => ?_)
          · have H25 := H20.2 h
            exact H25
          · have H26 := H20.1 (Classical.not_not.mp h)
            refine x_s (q := (.aload_n 0, 0, 0, 0)) (cod_180 rfl) rfl rfl rfl ?_
            refine x_s (q := (.iconst 1, 0, 0, 0)) (cod_180 rfl) rfl rfl rfl ?_
            refine x_call (as := [(1, 597), (0, 1)]) (rest := []) (cod_180 rfl) rfl rfl (by decide) (by decide) rfl rfl (Nat.le_of_ble_eq_true rfl) (rcv0 sq_l_597_0 sq_p_597 (by decide)) (Nat.le_of_ble_eq_true rfl) ?_
            show X 178 0 [(1, 597), (0, 1)] [] m15 _
            refine x_s (q := (.aload_n 0, 0, 0, 0)) (cod_178 rfl) rfl rfl rfl ?_
            refine x_s (q := (.iload_n 1, 0, 0, 0)) (cod_178 rfl) rfl rfl rfl ?_
            refine x_s (q := (.aload_n 0, 0, 0, 0)) (cod_178 rfl) rfl rfl rfl ?_
            refine x_gf (kk := 11) (t := 0) (cod_178 rfl) sq_p_597 sq_l_597_11 rfl rfl ?_
            refine x_call (as := [(1, 597), (0, 1), (0, m15 597 11)]) (rest := []) (cod_178 rfl) rfl rfl (by decide) (by decide) rfl rfl (Nat.le_of_ble_eq_true rfl) (rcv0 sq_l_597_0 sq_p_597 (by decide)) (Nat.le_of_ble_eq_true rfl) ?_
            show X 179 0 [(1, 597), (0, 1), (0, m15 597 11)] [] m15 _
            refine x_s (q := (.aload_n 0, 0, 0, 0)) (cod_179 rfl) rfl rfl rfl ?_
            refine x_s (q := (.iload_n 1, 0, 0, 0)) (cod_179 rfl) rfl rfl rfl ?_
            refine x_pf (kk := 4) (t := 0) (cod_179 rfl) sq_p_597 sq_l_597_4 rfl rfl rfl ?_
            have H28 := H26 _ rfl
            generalize umem m15 597 4 1 = m27 at H28 ⊢
            refine x_s (q := (.aload_n 0, 0, 0, 0)) (cod_179 rfl) rfl rfl rfl ?_
            refine x_s (q := (.iload_n 2, 0, 0, 0)) (cod_179 rfl) rfl rfl rfl ?_
            refine x_pf (kk := 5) (t := 0) (cod_179 rfl) sq_p_597 sq_l_597_5 rfl rfl rfl ?_
            have H30 := H28 _ rfl
            generalize umem m27 597 5 (m15 597 11) = m29 at H30 ⊢
            refine x_s (q := (.iconst 0, 0, 0, 0)) (cod_179 rfl) rfl rfl rfl ?_
            refine x_rI (t := .boolean) (cod_179 rfl) rfl rfl rfl ?_
            show X 178 9 [(1, 597), (0, 1)] [(0, 0)] m29 _
            refine x_rI (t := .boolean) (cod_178 rfl) rfl rfl rfl ?_
            show X 180 85 [(1, 597), (0, wr (11 * (m 602 1161))), (9, 0)] [(0, 0)] m29 _
            refine x_retI (t := .boolean) (cod_180 rfl) rfl rfl rfl ?_
            exact H30
    · have H10 := H8.2 h
      refine x_s (q := (.aload_n 0, 0, 0, 0)) (cod_180 rfl) rfl rfl rfl ?_
      refine x_s (q := (.iconst 1, 0, 0, 0)) (cod_180 rfl) rfl rfl rfl ?_
      refine x_call (as := [(1, 597), (0, 1)]) (rest := []) (cod_180 rfl) rfl rfl (by decide) (by decide) rfl rfl (Nat.le_of_ble_eq_true rfl) (rcv0 sq_l_597_0 sq_p_597 (by decide)) (Nat.le_of_ble_eq_true rfl) ?_
      show X 178 0 [(1, 597), (0, 1)] [] m7 _
      refine x_s (q := (.aload_n 0, 0, 0, 0)) (cod_178 rfl) rfl rfl rfl ?_
      refine x_s (q := (.iload_n 1, 0, 0, 0)) (cod_178 rfl) rfl rfl rfl ?_
      refine x_s (q := (.aload_n 0, 0, 0, 0)) (cod_178 rfl) rfl rfl rfl ?_
      refine x_gf (kk := 11) (t := 0) (cod_178 rfl) sq_p_597 sq_l_597_11 rfl rfl ?_
      refine x_call (as := [(1, 597), (0, 1), (0, m7 597 11)]) (rest := []) (cod_178 rfl) rfl rfl (by decide) (by decide) rfl rfl (Nat.le_of_ble_eq_true rfl) (rcv0 sq_l_597_0 sq_p_597 (by decide)) (Nat.le_of_ble_eq_true rfl) ?_
      show X 179 0 [(1, 597), (0, 1), (0, m7 597 11)] [] m7 _
      refine x_s (q := (.aload_n 0, 0, 0, 0)) (cod_179 rfl) rfl rfl rfl ?_
      refine x_s (q := (.iload_n 1, 0, 0, 0)) (cod_179 rfl) rfl rfl rfl ?_
      refine x_pf (kk := 4) (t := 0) (cod_179 rfl) sq_p_597 sq_l_597_4 rfl rfl rfl ?_
      have H32 := H10 _ rfl
      generalize umem m7 597 4 1 = m31 at H32 ⊢
      refine x_s (q := (.aload_n 0, 0, 0, 0)) (cod_179 rfl) rfl rfl rfl ?_
      refine x_s (q := (.iload_n 2, 0, 0, 0)) (cod_179 rfl) rfl rfl rfl ?_
      refine x_pf (kk := 5) (t := 0) (cod_179 rfl) sq_p_597 sq_l_597_5 rfl rfl rfl ?_
      have H34 := H32 _ rfl
      generalize umem m31 597 5 (m7 597 11) = m33 at H34 ⊢
      refine x_s (q := (.iconst 0, 0, 0, 0)) (cod_179 rfl) rfl rfl rfl ?_
      refine x_rI (t := .boolean) (cod_179 rfl) rfl rfl rfl ?_
      show X 178 9 [(1, 597), (0, 1)] [(0, 0)] m33 _
      refine x_rI (t := .boolean) (cod_178 rfl) rfl rfl rfl ?_
      show X 180 40 [(1, 597), (0, wr (11 * (m 602 1161))), (9, 0)] [(0, 0)] m33 _
      refine x_retI (t := .boolean) (cod_180 rfl) rfl rfl rfl ?_
      exact H34
  · have H4 := H2.1 (Classical.not_not.mp h)
    refine x_s (q := (.aload_n 0, 0, 0, 0)) (cod_180 rfl) rfl rfl rfl ?_
    refine x_s (q := (.iconst 2, 0, 0, 0)) (cod_180 rfl) rfl rfl rfl ?_
    refine x_call (as := [(1, 597), (0, 2)]) (rest := []) (cod_180 rfl) rfl rfl (by decide) (by decide) rfl rfl (Nat.le_of_ble_eq_true rfl) (rcv0 sq_l_597_0 sq_p_597 (by decide)) (Nat.le_of_ble_eq_true rfl) ?_
    show X 178 0 [(1, 597), (0, 2)] [] m _
    refine x_s (q := (.aload_n 0, 0, 0, 0)) (cod_178 rfl) rfl rfl rfl ?_
    refine x_s (q := (.iload_n 1, 0, 0, 0)) (cod_178 rfl) rfl rfl rfl ?_
    refine x_s (q := (.aload_n 0, 0, 0, 0)) (cod_178 rfl) rfl rfl rfl ?_
    refine x_gf (kk := 11) (t := 0) (cod_178 rfl) sq_p_597 sq_l_597_11 rfl rfl ?_
    refine x_call (as := [(1, 597), (0, 2), (0, m 597 11)]) (rest := []) (cod_178 rfl) rfl rfl (by decide) (by decide) rfl rfl (Nat.le_of_ble_eq_true rfl) (rcv0 sq_l_597_0 sq_p_597 (by decide)) (Nat.le_of_ble_eq_true rfl) ?_
    show X 179 0 [(1, 597), (0, 2), (0, m 597 11)] [] m _
    refine x_s (q := (.aload_n 0, 0, 0, 0)) (cod_179 rfl) rfl rfl rfl ?_
    refine x_s (q := (.iload_n 1, 0, 0, 0)) (cod_179 rfl) rfl rfl rfl ?_
    refine x_pf (kk := 4) (t := 0) (cod_179 rfl) sq_p_597 sq_l_597_4 rfl rfl rfl ?_
    have H36 := H4 _ rfl
    generalize umem m 597 4 2 = m35 at H36 ⊢
    refine x_s (q := (.aload_n 0, 0, 0, 0)) (cod_179 rfl) rfl rfl rfl ?_
    refine x_s (q := (.iload_n 2, 0, 0, 0)) (cod_179 rfl) rfl rfl rfl ?_
    refine x_pf (kk := 5) (t := 0) (cod_179 rfl) sq_p_597 sq_l_597_5 rfl rfl rfl ?_
    have H38 := H36 _ rfl
    generalize umem m35 597 5 (m 597 11) = m37 at H38 ⊢
    refine x_s (q := (.iconst 0, 0, 0, 0)) (cod_179 rfl) rfl rfl rfl ?_
    refine x_rI (t := .boolean) (cod_179 rfl) rfl rfl rfl ?_
    show X 178 9 [(1, 597), (0, 2)] [(0, 0)] m37 _
    refine x_rI (t := .boolean) (cod_178 rfl) rfl rfl rfl ?_
    show X 180 14 [(1, 597), (9, 0), (9, 0)] [(0, 0)] m37 _
    refine x_retI (t := .boolean) (cod_180 rfl) rfl rfl rfl ?_
    exact H38
theorem e180 {m : Mm} {K : Int → Mm → Prop}  
  (H : m 597 16 = 1 ∧ ((m 602 1161) = 24 → ∀ m35, m35 = umem m 597 4 2 → ∀ m37, m37 = umem m35 597 5 (m 597 11) → K 0 m37) ∧ (¬ (m 602 1161) = 24 → m 597 16 = 1 ∧ TrV 170 [(1, 597)] m fun m7 => ((m7 597 9) = 5 → (0 ≤ (wr ((wr (583 * (m7 597 16))) + (wr (11 * (m 602 1161))))) ∧ (wr ((wr (583 * (m7 597 16))) + (wr (11 * (m 602 1161))))) < 1166) ∧ ∀ m13, m13 = umem m7 602 (wr ((wr (583 * (m7 597 16))) + (wr (11 * (m 602 1161))))) (m7 597 10) → TrV 170 [(1, 597)] m13 fun m15 => ((m15 597 9) = 6 → X 180 86 [(1, 597), (0, wr (11 * (m 602 1161))), (9, 0)] [] m15 (qI K)) ∧ (¬ (m15 597 9) = 6 → ((m15 597 9) = 2 → ((m15 597 13) > 6 → ∀ m27, m27 = umem m15 597 4 1 → ∀ m29, m29 = umem m27 597 5 (m15 597 11) → K 0 m29) ∧ (¬ (m15 597 13) > 6 → X 180 86 [(1, 597), (0, wr (11 * (m 602 1161))), (9, 0)] [] m15 (qI K))) ∧ (¬ (m15 597 9) = 2 → ∀ m21, m21 = umem m15 597 4 1 → ∀ m23, m23 = umem m21 597 5 (m15 597 11) → K 0 m23))) ∧ (¬ (m7 597 9) = 5 → ∀ m31, m31 = umem m7 597 4 1 → ∀ m33, m33 = umem m31 597 5 (m7 597 11) → K 0 m33))) : TrI 180 [(1, 597)] m K := by
  exact w180_0  H
set_option maxRecDepth 100000 in
theorem w180_86 {m : Mm} {K : Int → Mm → Prop} (a1 : Int) (ua2 : aV) 
  (H : ((m 597 9) = 6 → (0 ≤ (wr ((wr (583 * (m 597 16))) + (wr (a1 + 1)))) ∧ (wr ((wr (583 * (m 597 16))) + (wr (a1 + 1)))) < 1166) ∧ ∀ m9, m9 = umem m 602 (wr ((wr (583 * (m 597 16))) + (wr (a1 + 1)))) 0 → X 180 112 [(1, 597), (0, a1), (0, 0)] [] m9 (qI K)) ∧ (¬ (m 597 9) = 6 → (0 ≤ (wr ((wr (583 * (m 597 16))) + (wr (a1 + 1)))) ∧ (wr ((wr (583 * (m 597 16))) + (wr (a1 + 1)))) < 1166) ∧ ∀ m5, m5 = umem m 602 (wr ((wr (583 * (m 597 16))) + (wr (a1 + 1)))) (m 597 13) → X 180 112 [(1, 597), (0, a1), (0, 0)] [] m5 (qI K))) : X 180 86 [(1, 597), (0, a1), ua2] [] m (qI K) := by
  refine x_s (q := (.aload_n 0, 0, 0, 0)) (cod_180 rfl) rfl rfl rfl ?_
  refine x_s (q := (.iload_n 1, 0, 0, 0)) (cod_180 rfl) rfl rfl rfl ?_
  refine x_s (q := (.iconst 1, 0, 0, 0)) (cod_180 rfl) rfl rfl rfl ?_
  refine x_s (q := (.iadd, 0, 0, 0)) (cod_180 rfl) rfl rfl rfl ?_
  refine x_s (q := (.aload_n 0, 0, 0, 0)) (cod_180 rfl) rfl rfl rfl ?_
  refine x_gf (kk := 9) (t := 0) (cod_180 rfl) sq_p_597 sq_l_597_9 rfl rfl ?_
  refine x_s (q := (.bipush 6, 0, 0, 0)) (cod_180 rfl) rfl rfl rfl ?_
  refine x_ic (p := ¬ (m 597 9) = 6) (tgt := 103) (cod_180 rfl) (by decide) xj_ne (fun h => ?_) (fun h => ?_)
  · have H1 := H.2 h
    refine x_s (q := (.aload_n 0, 0, 0, 0)) (cod_180 rfl) rfl rfl rfl ?_
    refine x_gf (kk := 13) (t := 0) (cod_180 rfl) sq_p_597 sq_l_597_13 rfl rfl ?_
    refine x_call (as := [(1, 597), (0, wr (a1 + 1)), (0, m 597 13)]) (rest := []) (cod_180 rfl) rfl rfl (by decide) (by decide) rfl rfl (Nat.le_of_ble_eq_true rfl) (rcv0 sq_l_597_0 sq_p_597 (by decide)) (Nat.le_of_ble_eq_true rfl) ?_
    show X 163 0 [(1, 597), (0, wr (a1 + 1)), (0, m 597 13)] [] m _
    refine x_s (q := (.aload_n 0, 0, 0, 0)) (cod_163 rfl) rfl rfl rfl ?_
    refine x_gc (kk := 15) (c := 602) (t := 1) (cod_163 rfl) sq_p_597 sq_l_597_15 rfl rfl ?_
    refine x_s (q := (.sipush 583, 0, 0, 0)) (cod_163 rfl) rfl rfl rfl ?_
    refine x_s (q := (.aload_n 0, 0, 0, 0)) (cod_163 rfl) rfl rfl rfl ?_
    refine x_gf (kk := 16) (t := 0) (cod_163 rfl) sq_p_597 sq_l_597_16 rfl rfl ?_
    refine x_s (q := (.imul, 0, 0, 0)) (cod_163 rfl) rfl rfl rfl ?_
    refine x_s (q := (.iload_n 1, 0, 0, 0)) (cod_163 rfl) rfl rfl rfl ?_
    refine x_s (q := (.iadd, 0, 0, 0)) (cod_163 rfl) rfl rfl rfl ?_
    refine x_s (q := (.iload_n 2, 0, 0, 0)) (cod_163 rfl) rfl rfl rfl ?_
    obtain ⟨c3, H4⟩ := H1
    refine x_iast (cod_163 rfl) sq_a_602.s (sq_a_602.k c3.1 c3.2) ?_
    have H6 := H4 _ rfl
    generalize umem m 602 (wr ((wr (583 * (m 597 16))) + (wr (a1 + 1)))) (m 597 13) = m5 at H6 ⊢
    refine x_rV (cod_163 rfl) rfl ?_
    show X 180 110 [(1, 597), (0, a1), ua2] [] m5 _
    refine x_s (q := (.iconst 0, 0, 0, 0)) (cod_180 rfl) rfl rfl rfl ?_
    refine x_s (q := (.istore_n 2, 0, 0, 0)) (cod_180 rfl) rfl rfl rfl ?_
    exact H6
  · have H2 := H.1 (Classical.not_not.mp h)
    refine x_s (q := (.iconst 0, 0, 0, 0)) (cod_180 rfl) rfl rfl rfl ?_
    refine x_go (tgt := 107) (cod_180 rfl) (by decide) ?_
    refine x_call (as := [(1, 597), (0, wr (a1 + 1)), (0, 0)]) (rest := []) (cod_180 rfl) rfl rfl (by decide) (by decide) rfl rfl (Nat.le_of_ble_eq_true rfl) (rcv0 sq_l_597_0 sq_p_597 (by decide)) (Nat.le_of_ble_eq_true rfl) ?_
    show X 163 0 [(1, 597), (0, wr (a1 + 1)), (0, 0)] [] m _
    refine x_s (q := (.aload_n 0, 0, 0, 0)) (cod_163 rfl) rfl rfl rfl ?_
    refine x_gc (kk := 15) (c := 602) (t := 1) (cod_163 rfl) sq_p_597 sq_l_597_15 rfl rfl ?_
    refine x_s (q := (.sipush 583, 0, 0, 0)) (cod_163 rfl) rfl rfl rfl ?_
    refine x_s (q := (.aload_n 0, 0, 0, 0)) (cod_163 rfl) rfl rfl rfl ?_
    refine x_gf (kk := 16) (t := 0) (cod_163 rfl) sq_p_597 sq_l_597_16 rfl rfl ?_
    refine x_s (q := (.imul, 0, 0, 0)) (cod_163 rfl) rfl rfl rfl ?_
    refine x_s (q := (.iload_n 1, 0, 0, 0)) (cod_163 rfl) rfl rfl rfl ?_
    refine x_s (q := (.iadd, 0, 0, 0)) (cod_163 rfl) rfl rfl rfl ?_
    refine x_s (q := (.iload_n 2, 0, 0, 0)) (cod_163 rfl) rfl rfl rfl ?_
    obtain ⟨c7, H8⟩ := H2
    refine x_iast (cod_163 rfl) sq_a_602.s (sq_a_602.k c7.1 c7.2) ?_
    have H10 := H8 _ rfl
    generalize umem m 602 (wr ((wr (583 * (m 597 16))) + (wr (a1 + 1)))) 0 = m9 at H10 ⊢
    refine x_rV (cod_163 rfl) rfl ?_
    show X 180 110 [(1, 597), (0, a1), ua2] [] m9 _
    refine x_s (q := (.iconst 0, 0, 0, 0)) (cod_180 rfl) rfl rfl rfl ?_
    refine x_s (q := (.istore_n 2, 0, 0, 0)) (cod_180 rfl) rfl rfl rfl ?_
    exact H10
set_option maxRecDepth 100000 in
theorem w180_112 {m : Mm} {K : Int → Mm → Prop} (a1 : Int) (a2 : Int) 
  (H : (m 597 16 = 1 ∧ 0 ≤ (wr (a1 + 1)) ∧ (wr (a1 + 1)) < 583) ∧ (a2 < (m 602 (583 + (wr (a1 + 1)))) → (0 ≤ a2 ∧ a2 < 8) ∧ (0 ≤ (wr ((wr (583 * (m 597 16))) + (wr ((wr (a1 + 5)) + a2)))) ∧ (wr ((wr (583 * (m 597 16))) + (wr ((wr (a1 + 5)) + a2)))) < 1166) ∧ ∀ m44, m44 = umem m 602 (wr ((wr (583 * (m 597 16))) + (wr ((wr (a1 + 5)) + a2)))) (m 601 a2) → X 180 112 [(1, 597), (0, a1), (0, wr (a2 + 1))] [] m44 (qI K)) ∧ (¬ a2 < (m 602 (583 + (wr (a1 + 1)))) → TrV 170 [(1, 597)] m fun m5 => TrI 183 [(1, 597), (0, 8), (0, (-1))] m5 fun v9 m7 => (v9 = 0 → K 0 m7) ∧ (¬ v9 = 0 → (0 ≤ (wr ((wr (583 * (m7 597 16))) + (wr (a1 + 2)))) ∧ (wr ((wr (583 * (m7 597 16))) + (wr (a1 + 2)))) < 1166) ∧ ∀ m14, m14 = umem m7 602 (wr ((wr (583 * (m7 597 16))) + (wr (a1 + 2)))) (m7 597 14) → TrI 183 [(1, 597), (0, 11), (0, 12)] m14 fun v18 m16 => (v18 = 0 → K 0 m16) ∧ (¬ v18 = 0 → (0 ≤ (wr ((wr (583 * (m16 597 16))) + (wr (a1 + 3)))) ∧ (wr ((wr (583 * (m16 597 16))) + (wr (a1 + 3)))) < 1166) ∧ ∀ m23, m23 = umem m16 602 (wr ((wr (583 * (m16 597 16))) + (wr (a1 + 3)))) (m16 597 14) → TrI 184 [(1, 597), (0, 999)] m23 fun v27 m25 => (v27 = 0 → K 0 m25) ∧ (¬ v27 = 0 → (0 ≤ (wr ((wr (583 * (m25 597 16))) + (wr (a1 + 4)))) ∧ (wr ((wr (583 * (m25 597 16))) + (wr (a1 + 4)))) < 1166) ∧ ∀ m32, m32 = umem m25 602 (wr ((wr (583 * (m25 597 16))) + (wr (a1 + 4)))) (m25 597 14) → m32 597 16 = 1 ∧ (0 ≤ (wr ((wr (583 * (m32 597 16))) + 578)) ∧ (wr ((wr (583 * (m32 597 16))) + 578)) < 1166) ∧ ∀ m38, m38 = umem m32 602 (wr ((wr (583 * (m32 597 16))) + 578)) (wr ((m32 602 1161) + 1)) → K 1 m38))))) : X 180 112 [(1, 597), (0, a1), (0, a2)] [] m (qI K) := by
  refine x_s (q := (.iload_n 2, 0, 0, 0)) (cod_180 rfl) rfl rfl rfl ?_
  refine x_s (q := (.aload_n 0, 0, 0, 0)) (cod_180 rfl) rfl rfl rfl ?_
  refine x_s (q := (.iload_n 1, 0, 0, 0)) (cod_180 rfl) rfl rfl rfl ?_
  refine x_s (q := (.iconst 1, 0, 0, 0)) (cod_180 rfl) rfl rfl rfl ?_
  refine x_s (q := (.iadd, 0, 0, 0)) (cod_180 rfl) rfl rfl rfl ?_
  obtain ⟨c1, H2⟩ := H
  refine x_call (as := [(1, 597), (0, wr (a1 + 1))]) (rest := [(0, a2)]) (cod_180 rfl) rfl rfl (by decide) (by decide) rfl rfl (Nat.le_of_ble_eq_true rfl) (rcv0 sq_l_597_0 sq_p_597 (by decide)) (Nat.le_of_ble_eq_true rfl) ?_
  refine x_pure (p182bx c1) ?_
  show X 180 120 [(1, 597), (0, a1), (0, a2)] [(0, m 602 (583 + (wr (a1 + 1)))), (0, a2)] m _
  refine x_ic (p := ¬ a2 < (m 602 (583 + (wr (a1 + 1))))) (tgt := 144) (cod_180 rfl) (by decide) xn_ge (fun h => ?_) (fun h => ?_)
  · have H3 := H2.2 h
    refine x_s (q := (.aload_n 0, 0, 0, 0)) (cod_180 rfl) rfl rfl rfl ?_
    refine x_call (as := [(1, 597)]) (rest := []) (cod_180 rfl) rfl rfl (by decide) (by decide) rfl rfl (Nat.le_of_ble_eq_true rfl) (rcv0 sq_l_597_0 sq_p_597 (by decide)) (Nat.le_of_ble_eq_true rfl) ?_
    refine X.imp H3 ?_
    rintro _ m5 ⟨rfl, H6⟩
    show X 180 148 [(1, 597), (0, a1), (0, a2)] [] m5 _
    refine x_s (q := (.aload_n 0, 0, 0, 0)) (cod_180 rfl) rfl rfl rfl ?_
    refine x_s (q := (.bipush 8, 0, 0, 0)) (cod_180 rfl) rfl rfl rfl ?_
    refine x_s (q := (.iconst (-1), 0, 0, 0)) (cod_180 rfl) rfl rfl rfl ?_
    refine x_call (as := [(1, 597), (0, 8), (0, (-1))]) (rest := []) (cod_180 rfl) rfl rfl (by decide) (by decide) rfl rfl (Nat.le_of_ble_eq_true rfl) (rcv0 sq_l_597_0 sq_p_597 (by decide)) (Nat.le_of_ble_eq_true rfl) ?_
    refine X.imp H6 ?_
    rintro _ m7 ⟨v9, rfl, H8⟩
    show X 180 155 [(1, 597), (0, a1), (0, a2)] [(0, v9)] m7 _
    refine x_if (p := ¬ v9 = 0) (tgt := 160) (cod_180 rfl) (by decide) xj_ne (fun h => ?_) (fun h => ?_)
    · have H10 := H8.2 h
      refine x_s (q := (.aload_n 0, 0, 0, 0)) (cod_180 rfl) rfl rfl rfl ?_
      refine x_s (q := (.iload_n 1, 0, 0, 0)) (cod_180 rfl) rfl rfl rfl ?_
      refine x_s (q := (.iconst 2, 0, 0, 0)) (cod_180 rfl) rfl rfl rfl ?_
      refine x_s (q := (.iadd, 0, 0, 0)) (cod_180 rfl) rfl rfl rfl ?_
      refine x_s (q := (.aload_n 0, 0, 0, 0)) (cod_180 rfl) rfl rfl rfl ?_
      refine x_gf (kk := 14) (t := 0) (cod_180 rfl) sq_p_597 sq_l_597_14 rfl rfl ?_
      refine x_call (as := [(1, 597), (0, wr (a1 + 2)), (0, m7 597 14)]) (rest := []) (cod_180 rfl) rfl rfl (by decide) (by decide) rfl rfl (Nat.le_of_ble_eq_true rfl) (rcv0 sq_l_597_0 sq_p_597 (by decide)) (Nat.le_of_ble_eq_true rfl) ?_
      show X 163 0 [(1, 597), (0, wr (a1 + 2)), (0, m7 597 14)] [] m7 _
      refine x_s (q := (.aload_n 0, 0, 0, 0)) (cod_163 rfl) rfl rfl rfl ?_
      refine x_gc (kk := 15) (c := 602) (t := 1) (cod_163 rfl) sq_p_597 sq_l_597_15 rfl rfl ?_
      refine x_s (q := (.sipush 583, 0, 0, 0)) (cod_163 rfl) rfl rfl rfl ?_
      refine x_s (q := (.aload_n 0, 0, 0, 0)) (cod_163 rfl) rfl rfl rfl ?_
      refine x_gf (kk := 16) (t := 0) (cod_163 rfl) sq_p_597 sq_l_597_16 rfl rfl ?_
      refine x_s (q := (.imul, 0, 0, 0)) (cod_163 rfl) rfl rfl rfl ?_
      refine x_s (q := (.iload_n 1, 0, 0, 0)) (cod_163 rfl) rfl rfl rfl ?_
      refine x_s (q := (.iadd, 0, 0, 0)) (cod_163 rfl) rfl rfl rfl ?_
      refine x_s (q := (.iload_n 2, 0, 0, 0)) (cod_163 rfl) rfl rfl rfl ?_
      obtain ⟨c12, H13⟩ := H10
      refine x_iast (cod_163 rfl) sq_a_602.s (sq_a_602.k c12.1 c12.2) ?_
      have H15 := H13 _ rfl
      generalize umem m7 602 (wr ((wr (583 * (m7 597 16))) + (wr (a1 + 2)))) (m7 597 14) = m14 at H15 ⊢
      refine x_rV (cod_163 rfl) rfl ?_
      show X 180 171 [(1, 597), (0, a1), (0, a2)] [] m14 _
      refine x_s (q := (.aload_n 0, 0, 0, 0)) (cod_180 rfl) rfl rfl rfl ?_
      refine x_s (q := (.bipush 11, 0, 0, 0)) (cod_180 rfl) rfl rfl rfl ?_
      refine x_s (q := (.bipush 12, 0, 0, 0)) (cod_180 rfl) rfl rfl rfl ?_
      refine x_call (as := [(1, 597), (0, 11), (0, 12)]) (rest := []) (cod_180 rfl) rfl rfl (by decide) (by decide) rfl rfl (Nat.le_of_ble_eq_true rfl) (rcv0 sq_l_597_0 sq_p_597 (by decide)) (Nat.le_of_ble_eq_true rfl) ?_
      refine X.imp H15 ?_
      rintro _ m16 ⟨v18, rfl, H17⟩
      show X 180 179 [(1, 597), (0, a1), (0, a2)] [(0, v18)] m16 _
      refine x_if (p := ¬ v18 = 0) (tgt := 184) (cod_180 rfl) (by decide) xj_ne (fun h => ?_) (fun h => ?_)
      · have H19 := H17.2 h
        refine x_s (q := (.aload_n 0, 0, 0, 0)) (cod_180 rfl) rfl rfl rfl ?_
        refine x_s (q := (.iload_n 1, 0, 0, 0)) (cod_180 rfl) rfl rfl rfl ?_
        refine x_s (q := (.iconst 3, 0, 0, 0)) (cod_180 rfl) rfl rfl rfl ?_
        refine x_s (q := (.iadd, 0, 0, 0)) (cod_180 rfl) rfl rfl rfl ?_
        refine x_s (q := (.aload_n 0, 0, 0, 0)) (cod_180 rfl) rfl rfl rfl ?_
        refine x_gf (kk := 14) (t := 0) (cod_180 rfl) sq_p_597 sq_l_597_14 rfl rfl ?_
        refine x_call (as := [(1, 597), (0, wr (a1 + 3)), (0, m16 597 14)]) (rest := []) (cod_180 rfl) rfl rfl (by decide) (by decide) rfl rfl (Nat.le_of_ble_eq_true rfl) (rcv0 sq_l_597_0 sq_p_597 (by decide)) (Nat.le_of_ble_eq_true rfl) ?_
        show X 163 0 [(1, 597), (0, wr (a1 + 3)), (0, m16 597 14)] [] m16 _
        refine x_s (q := (.aload_n 0, 0, 0, 0)) (cod_163 rfl) rfl rfl rfl ?_
        refine x_gc (kk := 15) (c := 602) (t := 1) (cod_163 rfl) sq_p_597 sq_l_597_15 rfl rfl ?_
        refine x_s (q := (.sipush 583, 0, 0, 0)) (cod_163 rfl) rfl rfl rfl ?_
        refine x_s (q := (.aload_n 0, 0, 0, 0)) (cod_163 rfl) rfl rfl rfl ?_
        refine x_gf (kk := 16) (t := 0) (cod_163 rfl) sq_p_597 sq_l_597_16 rfl rfl ?_
        refine x_s (q := (.imul, 0, 0, 0)) (cod_163 rfl) rfl rfl rfl ?_
        refine x_s (q := (.iload_n 1, 0, 0, 0)) (cod_163 rfl) rfl rfl rfl ?_
        refine x_s (q := (.iadd, 0, 0, 0)) (cod_163 rfl) rfl rfl rfl ?_
        refine x_s (q := (.iload_n 2, 0, 0, 0)) (cod_163 rfl) rfl rfl rfl ?_
        obtain ⟨c21, H22⟩ := H19
        refine x_iast (cod_163 rfl) sq_a_602.s (sq_a_602.k c21.1 c21.2) ?_
        have H24 := H22 _ rfl
        generalize umem m16 602 (wr ((wr (583 * (m16 597 16))) + (wr (a1 + 3)))) (m16 597 14) = m23 at H24 ⊢
        refine x_rV (cod_163 rfl) rfl ?_
        show X 180 195 [(1, 597), (0, a1), (0, a2)] [] m23 _
        refine x_s (q := (.aload_n 0, 0, 0, 0)) (cod_180 rfl) rfl rfl rfl ?_
        refine x_s (q := (.sipush 999, 0, 0, 0)) (cod_180 rfl) rfl rfl rfl ?_
        refine x_call (as := [(1, 597), (0, 999)]) (rest := []) (cod_180 rfl) rfl rfl (by decide) (by decide) rfl rfl (Nat.le_of_ble_eq_true rfl) (rcv0 sq_l_597_0 sq_p_597 (by decide)) (Nat.le_of_ble_eq_true rfl) ?_
        refine X.imp H24 ?_
        rintro _ m25 ⟨v27, rfl, H26⟩
        show X 180 202 [(1, 597), (0, a1), (0, a2)] [(0, v27)] m25 _
        refine x_if (p := ¬ v27 = 0) (tgt := 207) (cod_180 rfl) (by decide) xj_ne (fun h => ?_) (fun h => ?_)
        · have H28 := H26.2 h
          refine x_s (q := (.aload_n 0, 0, 0, 0)) (cod_180 rfl) rfl rfl rfl ?_
          refine x_s (q := (.iload_n 1, 0, 0, 0)) (cod_180 rfl) rfl rfl rfl ?_
          refine x_s (q := (.iconst 4, 0, 0, 0)) (cod_180 rfl) rfl rfl rfl ?_
          refine x_s (q := (.iadd, 0, 0, 0)) (cod_180 rfl) rfl rfl rfl ?_
          refine x_s (q := (.aload_n 0, 0, 0, 0)) (cod_180 rfl) rfl rfl rfl ?_
          refine x_gf (kk := 14) (t := 0) (cod_180 rfl) sq_p_597 sq_l_597_14 rfl rfl ?_
          refine x_call (as := [(1, 597), (0, wr (a1 + 4)), (0, m25 597 14)]) (rest := []) (cod_180 rfl) rfl rfl (by decide) (by decide) rfl rfl (Nat.le_of_ble_eq_true rfl) (rcv0 sq_l_597_0 sq_p_597 (by decide)) (Nat.le_of_ble_eq_true rfl) ?_
          show X 163 0 [(1, 597), (0, wr (a1 + 4)), (0, m25 597 14)] [] m25 _
          refine x_s (q := (.aload_n 0, 0, 0, 0)) (cod_163 rfl) rfl rfl rfl ?_
          refine x_gc (kk := 15) (c := 602) (t := 1) (cod_163 rfl) sq_p_597 sq_l_597_15 rfl rfl ?_
          refine x_s (q := (.sipush 583, 0, 0, 0)) (cod_163 rfl) rfl rfl rfl ?_
          refine x_s (q := (.aload_n 0, 0, 0, 0)) (cod_163 rfl) rfl rfl rfl ?_
          refine x_gf (kk := 16) (t := 0) (cod_163 rfl) sq_p_597 sq_l_597_16 rfl rfl ?_
          refine x_s (q := (.imul, 0, 0, 0)) (cod_163 rfl) rfl rfl rfl ?_
          refine x_s (q := (.iload_n 1, 0, 0, 0)) (cod_163 rfl) rfl rfl rfl ?_
          refine x_s (q := (.iadd, 0, 0, 0)) (cod_163 rfl) rfl rfl rfl ?_
          refine x_s (q := (.iload_n 2, 0, 0, 0)) (cod_163 rfl) rfl rfl rfl ?_
          obtain ⟨c30, H31⟩ := H28
          refine x_iast (cod_163 rfl) sq_a_602.s (sq_a_602.k c30.1 c30.2) ?_
          have H33 := H31 _ rfl
          generalize umem m25 602 (wr ((wr (583 * (m25 597 16))) + (wr (a1 + 4)))) (m25 597 14) = m32 at H33 ⊢
          refine x_rV (cod_163 rfl) rfl ?_
          show X 180 218 [(1, 597), (0, a1), (0, a2)] [] m32 _
          refine x_s (q := (.aload_n 0, 0, 0, 0)) (cod_180 rfl) rfl rfl rfl ?_
          refine x_s (q := (.sipush 578, 0, 0, 0)) (cod_180 rfl) rfl rfl rfl ?_
          refine x_s (q := (.aload_n 0, 0, 0, 0)) (cod_180 rfl) rfl rfl rfl ?_
          refine x_call (as := [(1, 597)]) (rest := [(0, 578), (1, 597)]) (cod_180 rfl) rfl rfl (by decide) (by decide) rfl rfl (Nat.le_of_ble_eq_true rfl) (rcv0 sq_l_597_0 sq_p_597 (by decide)) (Nat.le_of_ble_eq_true rfl) ?_
          show X 181 0 [(1, 597)] [] m32 _
          refine x_s (q := (.aload_n 0, 0, 0, 0)) (cod_181 rfl) rfl rfl rfl ?_
          refine x_s (q := (.sipush 578, 0, 0, 0)) (cod_181 rfl) rfl rfl rfl ?_
          obtain ⟨c34, H35⟩ := H33
          refine x_call (as := [(1, 597), (0, 578)]) (rest := []) (cod_181 rfl) rfl rfl (by decide) (by decide) rfl rfl (Nat.le_of_ble_eq_true rfl) (rcv0 sq_l_597_0 sq_p_597 (by decide)) (Nat.le_of_ble_eq_true rfl) ?_
          refine x_pure (p182b (by decide) c34) ?_
          show X 181 7 [(1, 597)] [(0, m32 602 1161)] m32 _
          refine x_rI (t := .int) (cod_181 rfl) rfl rfl rfl ?_
          show X 180 226 [(1, 597), (0, a1), (0, a2)] [(0, m32 602 1161), (0, 578), (1, 597)] m32 _
          refine x_s (q := (.iconst 1, 0, 0, 0)) (cod_180 rfl) rfl rfl rfl ?_
          refine x_s (q := (.iadd, 0, 0, 0)) (cod_180 rfl) rfl rfl rfl ?_
          refine x_call (as := [(1, 597), (0, 578), (0, wr ((m32 602 1161) + 1))]) (rest := []) (cod_180 rfl) rfl rfl (by decide) (by decide) rfl rfl (Nat.le_of_ble_eq_true rfl) (rcv0 sq_l_597_0 sq_p_597 (by decide)) (Nat.le_of_ble_eq_true rfl) ?_
          show X 163 0 [(1, 597), (0, 578), (0, wr ((m32 602 1161) + 1))] [] m32 _
          refine x_s (q := (.aload_n 0, 0, 0, 0)) (cod_163 rfl) rfl rfl rfl ?_
          refine x_gc (kk := 15) (c := 602) (t := 1) (cod_163 rfl) sq_p_597 sq_l_597_15 rfl rfl ?_
          refine x_s (q := (.sipush 583, 0, 0, 0)) (cod_163 rfl) rfl rfl rfl ?_
          refine x_s (q := (.aload_n 0, 0, 0, 0)) (cod_163 rfl) rfl rfl rfl ?_
          refine x_gf (kk := 16) (t := 0) (cod_163 rfl) sq_p_597 sq_l_597_16 rfl rfl ?_
          refine x_s (q := (.imul, 0, 0, 0)) (cod_163 rfl) rfl rfl rfl ?_
          refine x_s (q := (.iload_n 1, 0, 0, 0)) (cod_163 rfl) rfl rfl rfl ?_
          refine x_s (q := (.iadd, 0, 0, 0)) (cod_163 rfl) rfl rfl rfl ?_
          refine x_s (q := (.iload_n 2, 0, 0, 0)) (cod_163 rfl) rfl rfl rfl ?_
          obtain ⟨c36, H37⟩ := H35
          refine x_iast (cod_163 rfl) sq_a_602.s (sq_a_602.k c36.1 c36.2) ?_
          have H39 := H37 _ rfl
          generalize umem m32 602 (wr ((wr (583 * (m32 597 16))) + 578)) (wr ((m32 602 1161) + 1)) = m38 at H39 ⊢
          refine x_rV (cod_163 rfl) rfl ?_
          show X 180 231 [(1, 597), (0, a1), (0, a2)] [] m38 _
          refine x_s (q := (.iconst 1, 0, 0, 0)) (cod_180 rfl) rfl rfl rfl ?_
          refine x_retI (t := .boolean) (cod_180 rfl) rfl rfl rfl ?_
          exact H39
        · have H29 := H26.1 (Classical.not_not.mp h)
          refine x_s (q := (.iconst 0, 0, 0, 0)) (cod_180 rfl) rfl rfl rfl ?_
          refine x_retI (t := .boolean) (cod_180 rfl) rfl rfl rfl ?_
          exact H29
      · have H20 := H17.1 (Classical.not_not.mp h)
        refine x_s (q := (.iconst 0, 0, 0, 0)) (cod_180 rfl) rfl rfl rfl ?_
        refine x_retI (t := .boolean) (cod_180 rfl) rfl rfl rfl ?_
        exact H20
    · have H11 := H8.1 (Classical.not_not.mp h)
      refine x_s (q := (.iconst 0, 0, 0, 0)) (cod_180 rfl) rfl rfl rfl ?_
      refine x_retI (t := .boolean) (cod_180 rfl) rfl rfl rfl ?_
      exact H11
  · have H4 := H2.1 (Classical.not_not.mp h)
    refine x_s (q := (.aload_n 0, 0, 0, 0)) (cod_180 rfl) rfl rfl rfl ?_
    refine x_s (q := (.iload_n 1, 0, 0, 0)) (cod_180 rfl) rfl rfl rfl ?_
    refine x_s (q := (.iconst 5, 0, 0, 0)) (cod_180 rfl) rfl rfl rfl ?_
    refine x_s (q := (.iadd, 0, 0, 0)) (cod_180 rfl) rfl rfl rfl ?_
    refine x_s (q := (.iload_n 2, 0, 0, 0)) (cod_180 rfl) rfl rfl rfl ?_
    refine x_s (q := (.iadd, 0, 0, 0)) (cod_180 rfl) rfl rfl rfl ?_
    refine x_s (q := (.aload_n 0, 0, 0, 0)) (cod_180 rfl) rfl rfl rfl ?_
    refine x_gc (kk := 12) (c := 601) (t := 1) (cod_180 rfl) sq_p_597 sq_l_597_12 rfl rfl ?_
    refine x_s (q := (.iload_n 2, 0, 0, 0)) (cod_180 rfl) rfl rfl rfl ?_
    obtain ⟨c40, H41⟩ := H4
    refine x_iald (cod_180 rfl) sq_a_601.s (sq_a_601.k c40.1 c40.2) ?_
    refine x_call (as := [(1, 597), (0, wr ((wr (a1 + 5)) + a2)), (0, m 601 a2)]) (rest := []) (cod_180 rfl) rfl rfl (by decide) (by decide) rfl rfl (Nat.le_of_ble_eq_true rfl) (rcv0 sq_l_597_0 sq_p_597 (by decide)) (Nat.le_of_ble_eq_true rfl) ?_
    show X 163 0 [(1, 597), (0, wr ((wr (a1 + 5)) + a2)), (0, m 601 a2)] [] m _
    refine x_s (q := (.aload_n 0, 0, 0, 0)) (cod_163 rfl) rfl rfl rfl ?_
    refine x_gc (kk := 15) (c := 602) (t := 1) (cod_163 rfl) sq_p_597 sq_l_597_15 rfl rfl ?_
    refine x_s (q := (.sipush 583, 0, 0, 0)) (cod_163 rfl) rfl rfl rfl ?_
    refine x_s (q := (.aload_n 0, 0, 0, 0)) (cod_163 rfl) rfl rfl rfl ?_
    refine x_gf (kk := 16) (t := 0) (cod_163 rfl) sq_p_597 sq_l_597_16 rfl rfl ?_
    refine x_s (q := (.imul, 0, 0, 0)) (cod_163 rfl) rfl rfl rfl ?_
    refine x_s (q := (.iload_n 1, 0, 0, 0)) (cod_163 rfl) rfl rfl rfl ?_
    refine x_s (q := (.iadd, 0, 0, 0)) (cod_163 rfl) rfl rfl rfl ?_
    refine x_s (q := (.iload_n 2, 0, 0, 0)) (cod_163 rfl) rfl rfl rfl ?_
    obtain ⟨c42, H43⟩ := H41
    refine x_iast (cod_163 rfl) sq_a_602.s (sq_a_602.k c42.1 c42.2) ?_
    have H45 := H43 _ rfl
    generalize umem m 602 (wr ((wr (583 * (m 597 16))) + (wr ((wr (a1 + 5)) + a2)))) (m 601 a2) = m44 at H45 ⊢
    refine x_rV (cod_163 rfl) rfl ?_
    show X 180 138 [(1, 597), (0, a1), (0, a2)] [] m44 _
    refine x_s (q := (.iinc 2 1, 0, 0, 0)) (cod_180 rfl) rfl rfl rfl ?_
    refine x_go (tgt := 112) (cod_180 rfl) (by decide) ?_
    exact H45
