/-! rules of the methods: printed by wip/whole/gen26.py -/
theorem sq_l_1_1 : slot 1 1 = some none := by decide +kernel
theorem sq_l_1_0 : slot 1 0 = some (some 2) := by decide +kernel
theorem sq_a_2 : isA 2 0 900 := ⟨by decide, by decide +kernel⟩
theorem sq_l_1_2 : slot 1 2 = some (some 3) := by decide +kernel
theorem sq_l_1_4 : slot 1 4 = some none := by decide +kernel
theorem sq_l_3_0 : slot 3 0 = some none := by decide +kernel
theorem sq_p_3 : shp 3 = 28 := by decide +kernel
theorem sq_l_1_7 : slot 1 7 = some (some 280) := by decide +kernel
theorem sq_l_280_0 : slot 280 0 = some (some 281) := by decide +kernel
theorem sq_p_280 : shp 280 = 22 := by decide +kernel
theorem sq_l_1_8 : slot 1 8 = some (some 284) := by decide +kernel
theorem sq_l_284_0 : slot 284 0 = some (some 285) := by decide +kernel
theorem sq_p_284 : shp 284 = 25 := by decide +kernel
theorem sq_l_284_2 : slot 284 2 = some none := by decide +kernel
theorem sq_l_284_3 : slot 284 3 = some none := by decide +kernel
theorem sq_l_1_14 : slot 1 14 = some (some 581) := by decide +kernel
theorem sq_p_581 : shp 581 = 29 := by decide +kernel
theorem sq_l_581_2 : slot 581 2 = some none := by decide +kernel
theorem sq_l_3_2 : slot 3 2 = some (some 4) := by decide +kernel
theorem sq_a_4 : isA 4 2 3 := ⟨by decide, by decide +kernel⟩
theorem sq_l_3_4 : slot 3 4 = some none := by decide +kernel
theorem sq_l_3_6 : slot 3 6 = some none := by decide +kernel
theorem sq_l_3_3 : slot 3 3 = some none := by decide +kernel
theorem sq_l_3_5 : slot 3 5 = some none := by decide +kernel
theorem sq_l_3_1 : slot 3 1 = some none := by decide +kernel
theorem sq_c_10_7 {x : Int} (h : shp x = 30) : slot x 7 = some none := (by decide +kernel : ∀ x ∈ cl_30, slot x 7 = some none) x (in_30 h)
theorem sq_c_10_8 {x : Int} (h : shp x = 30) : slot x 8 = some none := (by decide +kernel : ∀ x ∈ cl_30, slot x 8 = some none) x (in_30 h)
theorem sq_c_10_9 {x : Int} (h : shp x = 30) : slot x 9 = some none := (by decide +kernel : ∀ x ∈ cl_30, slot x 9 = some none) x (in_30 h)
theorem sq_c_10_3 {x : Int} (h : shp x = 30) : slot x 3 = some (some (x + 4)) := (by decide +kernel : ∀ x ∈ cl_30, slot x 3 = some (some (x + 4))) x (in_30 h)
theorem sq_ac_10_3 {x : Int} (h : shp x = 30) : isA (x + 4) 2 25 := (by decide +kernel : ∀ x ∈ cl_30, isA (x + 4) 2 25) x (in_30 h)
theorem sq_l_3_7 : slot 3 7 = some none := by decide +kernel
theorem sq_l_3_8 : slot 3 8 = some none := by decide +kernel
theorem sq_l_3_9 : slot 3 9 = some none := by decide +kernel
theorem sq_c_7_7 {x : Int} (h : shp x = 27) : slot x 7 = some none := (by decide +kernel : ∀ x ∈ cl_27, slot x 7 = some none) x (in_27 h)
theorem sq_c_7_3 {x : Int} (h : shp x = 27) : slot x 3 = some none := (by decide +kernel : ∀ x ∈ cl_27, slot x 3 = some none) x (in_27 h)
theorem sq_c_7_4 {x : Int} (h : shp x = 27) : slot x 4 = some none := (by decide +kernel : ∀ x ∈ cl_27, slot x 4 = some none) x (in_27 h)
theorem sq_c_2_2 {x : Int} (h : shp x = 22) : slot x 2 = some (some (x + 3)) := (by decide +kernel : ∀ x ∈ cl_22, slot x 2 = some (some (x + 3))) x (in_22 h)
theorem sq_ac_2_2 {x : Int} (h : shp x = 22) : isA (x + 3) 0 10 := (by decide +kernel : ∀ x ∈ cl_22, isA (x + 3) 0 10) x (in_22 h)
theorem sq_l_1_17 : slot 1 17 = some none := by decide +kernel
theorem sq_l_1_15 : slot 1 15 = some (some 595) := by decide +kernel
theorem sq_a_595 : isA 595 0 10 := ⟨by decide, by decide +kernel⟩
theorem sq_l_1_6 : slot 1 6 = some none := by decide +kernel
theorem sq_c_4_3 {x : Int} (h : shp x = 24) : slot x 3 = some (some (x + 24)) := (by decide +kernel : ∀ x ∈ cl_24, slot x 3 = some (some (x + 24))) x (in_24 h)
theorem sq_roc_4_3 {x j : Int} (h : shp x = 24) (h0 : 0 ≤ j) (h1 : j < 10) : slot (x + 24) j = some (some (x + 25 + j)) ∧ shp (x + 24) = 6 := by
  obtain ⟨k, rfl⟩ := Int.eq_ofNat_of_zero_le h0
  exact (by decide +kernel : ∀ x ∈ cl_24, ∀ k : Nat, k < 10 → slot (x + 24) (k : Int) = some (some (x + 25 + (k : Int))) ∧ shp (x + 24) = 6) x (in_24 h) k (by omega)
theorem sq_rwc_4_3 {x j : Int} (h : shp x = 24) (h0 : 0 ≤ j) (h1 : j < 10) : isA (x + 25 + j) 0 11 := by
  obtain ⟨k, rfl⟩ := Int.eq_ofNat_of_zero_le h0
  exact (by decide +kernel : ∀ x ∈ cl_24, ∀ k : Nat, k < 10 → isA (x + 25 + (k : Int)) 0 11) x (in_24 h) k (by omega)
theorem sq_c_4_1 {x : Int} (h : shp x = 24) : slot x 1 = some (some (x + 2)) := (by decide +kernel : ∀ x ∈ cl_24, slot x 1 = some (some (x + 2))) x (in_24 h)
theorem sq_roc_4_1 {x j : Int} (h : shp x = 24) (h0 : 0 ≤ j) (h1 : j < 10) : slot (x + 2) j = some (some (x + 3 + j)) ∧ shp (x + 2) = 6 := by
  obtain ⟨k, rfl⟩ := Int.eq_ofNat_of_zero_le h0
  exact (by decide +kernel : ∀ x ∈ cl_24, ∀ k : Nat, k < 10 → slot (x + 2) (k : Int) = some (some (x + 3 + (k : Int))) ∧ shp (x + 2) = 6) x (in_24 h) k (by omega)
theorem sq_rwc_4_1 {x j : Int} (h : shp x = 24) (h0 : 0 ≤ j) (h1 : j < 10) : isA (x + 3 + j) 0 10 := by
  obtain ⟨k, rfl⟩ := Int.eq_ofNat_of_zero_le h0
  exact (by decide +kernel : ∀ x ∈ cl_24, ∀ k : Nat, k < 10 → isA (x + 3 + (k : Int)) 0 10) x (in_24 h) k (by omega)
theorem sq_c_4_2 {x : Int} (h : shp x = 24) : slot x 2 = some (some (x + 13)) := (by decide +kernel : ∀ x ∈ cl_24, slot x 2 = some (some (x + 13))) x (in_24 h)
theorem sq_roc_4_2 {x j : Int} (h : shp x = 24) (h0 : 0 ≤ j) (h1 : j < 10) : slot (x + 13) j = some (some (x + 14 + j)) ∧ shp (x + 13) = 6 := by
  obtain ⟨k, rfl⟩ := Int.eq_ofNat_of_zero_le h0
  exact (by decide +kernel : ∀ x ∈ cl_24, ∀ k : Nat, k < 10 → slot (x + 13) (k : Int) = some (some (x + 14 + (k : Int))) ∧ shp (x + 13) = 6) x (in_24 h) k (by omega)
theorem sq_rwc_4_2 {x j : Int} (h : shp x = 24) (h0 : 0 ≤ j) (h1 : j < 10) : isA (x + 14 + j) 0 10 := by
  obtain ⟨k, rfl⟩ := Int.eq_ofNat_of_zero_le h0
  exact (by decide +kernel : ∀ x ∈ cl_24, ∀ k : Nat, k < 10 → isA (x + 14 + (k : Int)) 0 10) x (in_24 h) k (by omega)
theorem sq_l_1_10 : slot 1 10 = some (some 411) := by decide +kernel
theorem sq_p_411 : shp 411 = 20 := by decide +kernel
theorem sq_l_411_0 : slot 411 0 = some (some 412) := by decide +kernel
theorem sq_a_412 : isA 412 1 10 := ⟨by decide, by decide +kernel⟩
theorem sq_l_1_9 : slot 1 9 = some (some 370) := by decide +kernel
theorem sq_l_370_0 : slot 370 0 = some (some 371) := by decide +kernel
theorem sq_l_1_12 : slot 1 12 = some (some 511) := by decide +kernel
theorem sq_l_280_2 : slot 280 2 = some (some 283) := by decide +kernel
theorem sq_l_511_0 : slot 511 0 = some (some 512) := by decide +kernel
theorem sq_p_511 : shp 511 = 26 := by decide +kernel
theorem sq_l_411_5 : slot 411 5 = some (some 437) := by decide +kernel
theorem sq_a_437 : isA 437 0 10 := ⟨by decide, by decide +kernel⟩
theorem sq_l_370_9 : slot 370 9 = some none := by decide +kernel
theorem sq_l_370_5 : slot 370 5 = some (some 374) := by decide +kernel
theorem sq_a_374 : isA 374 0 24 := ⟨by decide, by decide +kernel⟩
theorem sq_c_0_9 {x : Int} (h : shp x = 20) : slot x 9 = some none := (by decide +kernel : ∀ x ∈ cl_20, slot x 9 = some none) x (in_20 h)
theorem sq_c_0_0 {x : Int} (h : shp x = 20) : slot x 0 = some (some (x + 1)) := (by decide +kernel : ∀ x ∈ cl_20, slot x 0 = some (some (x + 1))) x (in_20 h)
theorem sq_c_0_1 {x : Int} (h : shp x = 20) : slot x 1 = some (some (x + 2)) := (by decide +kernel : ∀ x ∈ cl_20, slot x 1 = some (some (x + 2))) x (in_20 h)
theorem sq_ac_0_1 {x : Int} (h : shp x = 20) : isA (x + 2) 0 10 := (by decide +kernel : ∀ x ∈ cl_20, isA (x + 2) 0 10) x (in_20 h)
theorem sq_l_370_6 : slot 370 6 = some (some 375) := by decide +kernel
theorem sq_ro_375 {j : Int} (h0 : 0 ≤ j) (h1 : j < 11) : slot 375 j = some (some (376 + j)) ∧ shp 375 = 6 := by
  obtain ⟨k, rfl⟩ := Int.eq_ofNat_of_zero_le h0
  exact ⟨(by decide +kernel : ∀ k : Nat, k < 11 → slot 375 (k : Int) = some (some (376 + (k : Int)))) k (by omega), by decide +kernel⟩
theorem sq_rw_375 {j : Int} (h0 : 0 ≤ j) (h1 : j < 11) : isA (376 + j) 0 27 := by
  obtain ⟨k, rfl⟩ := Int.eq_ofNat_of_zero_le h0
  exact (by decide +kernel : ∀ k : Nat, k < 11 → isA (376 + (k : Int)) 0 27) k (by omega)
theorem sq_l_370_7 : slot 370 7 = some (some 387) := by decide +kernel
theorem sq_ro_387 {j : Int} (h0 : 0 ≤ j) (h1 : j < 11) : slot 387 j = some (some (388 + j)) ∧ shp 387 = 7 := by
  obtain ⟨k, rfl⟩ := Int.eq_ofNat_of_zero_le h0
  exact ⟨(by decide +kernel : ∀ k : Nat, k < 11 → slot 387 (k : Int) = some (some (388 + (k : Int)))) k (by omega), by decide +kernel⟩
theorem sq_rw_387 {j : Int} (h0 : 0 ≤ j) (h1 : j < 11) : isA (388 + j) 1 27 := by
  obtain ⟨k, rfl⟩ := Int.eq_ofNat_of_zero_le h0
  exact (by decide +kernel : ∀ k : Nat, k < 11 → isA (388 + (k : Int)) 1 27) k (by omega)
theorem sq_ac_0_0 {x : Int} (h : shp x = 20) : isA (x + 1) 1 10 := (by decide +kernel : ∀ x ∈ cl_20, isA (x + 1) 1 10) x (in_20 h)
theorem sq_c_0_2 {x : Int} (h : shp x = 20) : slot x 2 = some (some (x + 3)) := (by decide +kernel : ∀ x ∈ cl_20, slot x 2 = some (some (x + 3))) x (in_20 h)
theorem sq_l_370_3 : slot 370 3 = some none := by decide +kernel
theorem sq_ac_0_2 {x : Int} (h : shp x = 20) : isA (x + 3) 0 10 := (by decide +kernel : ∀ x ∈ cl_20, isA (x + 3) 0 10) x (in_20 h)
theorem sq_c_0_3 {x : Int} (h : shp x = 20) : slot x 3 = some (some (x + 4)) := (by decide +kernel : ∀ x ∈ cl_20, slot x 3 = some (some (x + 4))) x (in_20 h)
theorem sq_roc_0_3 {x j : Int} (h : shp x = 20) (h0 : 0 ≤ j) (h1 : j < 10) : slot (x + 4) j = some (some (x + 5 + j)) ∧ shp (x + 4) = 6 := by
  obtain ⟨k, rfl⟩ := Int.eq_ofNat_of_zero_le h0
  exact (by decide +kernel : ∀ x ∈ cl_20, ∀ k : Nat, k < 10 → slot (x + 4) (k : Int) = some (some (x + 5 + (k : Int))) ∧ shp (x + 4) = 6) x (in_20 h) k (by omega)
theorem sq_rwc_0_3 {x j : Int} (h : shp x = 20) (h0 : 0 ≤ j) (h1 : j < 10) : isA (x + 5 + j) 0 60 := by
  obtain ⟨k, rfl⟩ := Int.eq_ofNat_of_zero_le h0
  exact (by decide +kernel : ∀ x ∈ cl_20, ∀ k : Nat, k < 10 → isA (x + 5 + (k : Int)) 0 60) x (in_20 h) k (by omega)
theorem sq_l_370_1 : slot 370 1 = some (some 372) := by decide +kernel
theorem sq_a_372 : isA 372 0 60 := ⟨by decide, by decide +kernel⟩
theorem sq_l_370_2 : slot 370 2 = some none := by decide +kernel
theorem sq_a_371 : isA 371 0 10 := ⟨by decide, by decide +kernel⟩
theorem sq_c_0_5 {x : Int} (h : shp x = 20) : slot x 5 = some (some (x + 26)) := (by decide +kernel : ∀ x ∈ cl_20, slot x 5 = some (some (x + 26))) x (in_20 h)
theorem sq_ac_0_5 {x : Int} (h : shp x = 20) : isA (x + 26) 0 10 := (by decide +kernel : ∀ x ∈ cl_20, isA (x + 26) 0 10) x (in_20 h)
theorem sq_c_0_4 {x : Int} (h : shp x = 20) : slot x 4 = some (some (x + 15)) := (by decide +kernel : ∀ x ∈ cl_20, slot x 4 = some (some (x + 15))) x (in_20 h)
theorem sq_roc_0_4 {x j : Int} (h : shp x = 20) (h0 : 0 ≤ j) (h1 : j < 10) : slot (x + 15) j = some (some (x + 16 + j)) ∧ shp (x + 15) = 6 := by
  obtain ⟨k, rfl⟩ := Int.eq_ofNat_of_zero_le h0
  exact (by decide +kernel : ∀ x ∈ cl_20, ∀ k : Nat, k < 10 → slot (x + 15) (k : Int) = some (some (x + 16 + (k : Int))) ∧ shp (x + 15) = 6) x (in_20 h) k (by omega)
theorem sq_rwc_0_4 {x j : Int} (h : shp x = 20) (h0 : 0 ≤ j) (h1 : j < 10) : isA (x + 16 + j) 0 24 := by
  obtain ⟨k, rfl⟩ := Int.eq_ofNat_of_zero_le h0
  exact (by decide +kernel : ∀ x ∈ cl_20, ∀ k : Nat, k < 10 → isA (x + 16 + (k : Int)) 0 24) x (in_20 h) k (by omega)
theorem sq_l_370_8 : slot 370 8 = some (some 399) := by decide +kernel
theorem sq_ro_399 {j : Int} (h0 : 0 ≤ j) (h1 : j < 11) : slot 399 j = some (some (400 + j)) ∧ shp 399 = 6 := by
  obtain ⟨k, rfl⟩ := Int.eq_ofNat_of_zero_le h0
  exact ⟨(by decide +kernel : ∀ k : Nat, k < 11 → slot 399 (k : Int) = some (some (400 + (k : Int)))) k (by omega), by decide +kernel⟩
theorem sq_rw_399 {j : Int} (h0 : 0 ≤ j) (h1 : j < 11) : isA (400 + j) 0 9 := by
  obtain ⟨k, rfl⟩ := Int.eq_ofNat_of_zero_le h0
  exact (by decide +kernel : ∀ k : Nat, k < 11 → isA (400 + (k : Int)) 0 9) k (by omega)
theorem sq_c_0_8 {x : Int} (h : shp x = 20) : slot x 8 = some (some (x + 39)) := (by decide +kernel : ∀ x ∈ cl_20, slot x 8 = some (some (x + 39))) x (in_20 h)
theorem sq_roc_0_8 {x j : Int} (h : shp x = 20) (h0 : 0 ≤ j) (h1 : j < 10) : slot (x + 39) j = some (some (x + 40 + j)) ∧ shp (x + 39) = 6 := by
  obtain ⟨k, rfl⟩ := Int.eq_ofNat_of_zero_le h0
  exact (by decide +kernel : ∀ x ∈ cl_20, ∀ k : Nat, k < 10 → slot (x + 39) (k : Int) = some (some (x + 40 + (k : Int))) ∧ shp (x + 39) = 6) x (in_20 h) k (by omega)
theorem sq_rwc_0_8 {x j : Int} (h : shp x = 20) (h0 : 0 ≤ j) (h1 : j < 10) : isA (x + 40 + j) 0 24 := by
  obtain ⟨k, rfl⟩ := Int.eq_ofNat_of_zero_le h0
  exact (by decide +kernel : ∀ x ∈ cl_20, ∀ k : Nat, k < 10 → isA (x + 40 + (k : Int)) 0 24) x (in_20 h) k (by omega)
theorem sq_c_6_0 {x : Int} (h : shp x = 26) : slot x 0 = some (some (x + 1)) := (by decide +kernel : ∀ x ∈ cl_26, slot x 0 = some (some (x + 1))) x (in_26 h)
theorem sq_c_6_4 {x : Int} (h : shp x = 26) : slot x 4 = some (some (x + 13)) := (by decide +kernel : ∀ x ∈ cl_26, slot x 4 = some (some (x + 13))) x (in_26 h)
theorem sq_roc_6_4 {x j : Int} (h : shp x = 26) (h0 : 0 ≤ j) (h1 : j < 10) : slot (x + 13) j = some (some (x + 14 + j)) ∧ shp (x + 13) = 6 := by
  obtain ⟨k, rfl⟩ := Int.eq_ofNat_of_zero_le h0
  exact (by decide +kernel : ∀ x ∈ cl_26, ∀ k : Nat, k < 10 → slot (x + 13) (k : Int) = some (some (x + 14 + (k : Int))) ∧ shp (x + 13) = 6) x (in_26 h) k (by omega)
theorem sq_rwc_6_4 {x j : Int} (h : shp x = 26) (h0 : 0 ≤ j) (h1 : j < 10) : isA (x + 14 + j) 0 24 := by
  obtain ⟨k, rfl⟩ := Int.eq_ofNat_of_zero_le h0
  exact (by decide +kernel : ∀ x ∈ cl_26, ∀ k : Nat, k < 10 → isA (x + 14 + (k : Int)) 0 24) x (in_26 h) k (by omega)
theorem sq_c_6_5 {x : Int} (h : shp x = 26) : slot x 5 = some (some (x + 24)) := (by decide +kernel : ∀ x ∈ cl_26, slot x 5 = some (some (x + 24))) x (in_26 h)
theorem sq_roc_6_5 {x j : Int} (h : shp x = 26) (h0 : 0 ≤ j) (h1 : j < 10) : slot (x + 24) j = some (some (x + 25 + j)) ∧ shp (x + 24) = 7 := by
  obtain ⟨k, rfl⟩ := Int.eq_ofNat_of_zero_le h0
  exact (by decide +kernel : ∀ x ∈ cl_26, ∀ k : Nat, k < 10 → slot (x + 24) (k : Int) = some (some (x + 25 + (k : Int))) ∧ shp (x + 24) = 7) x (in_26 h) k (by omega)
theorem sq_rwc_6_5 {x j : Int} (h : shp x = 26) (h0 : 0 ≤ j) (h1 : j < 10) : isA (x + 25 + j) 1 24 := by
  obtain ⟨k, rfl⟩ := Int.eq_ofNat_of_zero_le h0
  exact (by decide +kernel : ∀ x ∈ cl_26, ∀ k : Nat, k < 10 → isA (x + 25 + (k : Int)) 1 24) x (in_26 h) k (by omega)
theorem sq_c_6_3 {x : Int} (h : shp x = 26) : slot x 3 = some (some (x + 2)) := (by decide +kernel : ∀ x ∈ cl_26, slot x 3 = some (some (x + 2))) x (in_26 h)
theorem sq_roc_6_3 {x j : Int} (h : shp x = 26) (h0 : 0 ≤ j) (h1 : j < 10) : slot (x + 2) j = some (some (x + 3 + j)) ∧ shp (x + 2) = 6 := by
  obtain ⟨k, rfl⟩ := Int.eq_ofNat_of_zero_le h0
  exact (by decide +kernel : ∀ x ∈ cl_26, ∀ k : Nat, k < 10 → slot (x + 2) (k : Int) = some (some (x + 3 + (k : Int))) ∧ shp (x + 2) = 6) x (in_26 h) k (by omega)
theorem sq_rwc_6_3 {x j : Int} (h : shp x = 26) (h0 : 0 ≤ j) (h1 : j < 10) : isA (x + 3 + j) 0 24 := by
  obtain ⟨k, rfl⟩ := Int.eq_ofNat_of_zero_le h0
  exact (by decide +kernel : ∀ x ∈ cl_26, ∀ k : Nat, k < 10 → isA (x + 3 + (k : Int)) 0 24) x (in_26 h) k (by omega)
theorem sq_c_6_1 {x : Int} (h : shp x = 26) : slot x 1 = some none := (by decide +kernel : ∀ x ∈ cl_26, slot x 1 = some none) x (in_26 h)
theorem sq_c_6_2 {x : Int} (h : shp x = 26) : slot x 2 = some none := (by decide +kernel : ∀ x ∈ cl_26, slot x 2 = some none) x (in_26 h)
theorem sq_ac_6_0 {x : Int} (h : shp x = 26) : isA (x + 1) 0 10 := (by decide +kernel : ∀ x ∈ cl_26, isA (x + 1) 0 10) x (in_26 h)
theorem sq_l_411_1 : slot 411 1 = some (some 413) := by decide +kernel
theorem sq_a_413 : isA 413 0 10 := ⟨by decide, by decide +kernel⟩
theorem sq_l_411_2 : slot 411 2 = some (some 414) := by decide +kernel
theorem sq_a_414 : isA 414 0 10 := ⟨by decide, by decide +kernel⟩
theorem sq_l_411_3 : slot 411 3 = some (some 415) := by decide +kernel
theorem sq_ro_415 {j : Int} (h0 : 0 ≤ j) (h1 : j < 10) : slot 415 j = some (some (416 + j)) ∧ shp 415 = 6 := by
  obtain ⟨k, rfl⟩ := Int.eq_ofNat_of_zero_le h0
  exact ⟨(by decide +kernel : ∀ k : Nat, k < 10 → slot 415 (k : Int) = some (some (416 + (k : Int)))) k (by omega), by decide +kernel⟩
theorem sq_rw_415 {j : Int} (h0 : 0 ≤ j) (h1 : j < 10) : isA (416 + j) 0 60 := by
  obtain ⟨k, rfl⟩ := Int.eq_ofNat_of_zero_le h0
  exact (by decide +kernel : ∀ k : Nat, k < 10 → isA (416 + (k : Int)) 0 60) k (by omega)
theorem sq_l_411_4 : slot 411 4 = some (some 426) := by decide +kernel
theorem sq_ro_426 {j : Int} (h0 : 0 ≤ j) (h1 : j < 10) : slot 426 j = some (some (427 + j)) ∧ shp 426 = 6 := by
  obtain ⟨k, rfl⟩ := Int.eq_ofNat_of_zero_le h0
  exact ⟨(by decide +kernel : ∀ k : Nat, k < 10 → slot 426 (k : Int) = some (some (427 + (k : Int)))) k (by omega), by decide +kernel⟩
theorem sq_rw_426 {j : Int} (h0 : 0 ≤ j) (h1 : j < 10) : isA (427 + j) 0 24 := by
  obtain ⟨k, rfl⟩ := Int.eq_ofNat_of_zero_le h0
  exact (by decide +kernel : ∀ k : Nat, k < 10 → isA (427 + (k : Int)) 0 24) k (by omega)
theorem sq_l_411_6 : slot 411 6 = some (some 438) := by decide +kernel
theorem sq_a_438 : isA 438 0 10 := ⟨by decide, by decide +kernel⟩
theorem sq_l_411_7 : slot 411 7 = some (some 439) := by decide +kernel
theorem sq_ro_439 {j : Int} (h0 : 0 ≤ j) (h1 : j < 10) : slot 439 j = some (some (440 + j)) ∧ shp 439 = 6 := by
  obtain ⟨k, rfl⟩ := Int.eq_ofNat_of_zero_le h0
  exact ⟨(by decide +kernel : ∀ k : Nat, k < 10 → slot 439 (k : Int) = some (some (440 + (k : Int)))) k (by omega), by decide +kernel⟩
theorem sq_rw_439 {j : Int} (h0 : 0 ≤ j) (h1 : j < 10) : isA (440 + j) 0 24 := by
  obtain ⟨k, rfl⟩ := Int.eq_ofNat_of_zero_le h0
  exact (by decide +kernel : ∀ k : Nat, k < 10 → isA (440 + (k : Int)) 0 24) k (by omega)
theorem sq_l_411_8 : slot 411 8 = some (some 450) := by decide +kernel
theorem sq_ro_450 {j : Int} (h0 : 0 ≤ j) (h1 : j < 10) : slot 450 j = some (some (451 + j)) ∧ shp 450 = 6 := by
  obtain ⟨k, rfl⟩ := Int.eq_ofNat_of_zero_le h0
  exact ⟨(by decide +kernel : ∀ k : Nat, k < 10 → slot 450 (k : Int) = some (some (451 + (k : Int)))) k (by omega), by decide +kernel⟩
theorem sq_rw_450 {j : Int} (h0 : 0 ≤ j) (h1 : j < 10) : isA (451 + j) 0 24 := by
  obtain ⟨k, rfl⟩ := Int.eq_ofNat_of_zero_le h0
  exact (by decide +kernel : ∀ k : Nat, k < 10 → isA (451 + (k : Int)) 0 24) k (by omega)
theorem sq_l_511_1 : slot 511 1 = some none := by decide +kernel
theorem sq_a_512 : isA 512 0 10 := ⟨by decide, by decide +kernel⟩
theorem sq_l_1_16 : slot 1 16 = some (some 596) := by decide +kernel
theorem sq_a_596 : isA 596 0 24 := ⟨by decide, by decide +kernel⟩
theorem sq_l_511_2 : slot 511 2 = some none := by decide +kernel
theorem sq_l_1_11 : slot 1 11 = some (some 461) := by decide +kernel
theorem sq_l_461_0 : slot 461 0 = some (some 462) := by decide +kernel
theorem sq_p_461 : shp 461 = 20 := by decide +kernel
theorem sq_l_1_13 : slot 1 13 = some (some 546) := by decide +kernel
theorem sq_l_546_0 : slot 546 0 = some (some 547) := by decide +kernel
theorem sq_p_546 : shp 546 = 26 := by decide +kernel
theorem sq_l_546_1 : slot 546 1 = some none := by decide +kernel
theorem sq_l_581_0 : slot 581 0 = some (some 582) := by decide +kernel
theorem sq_l_581_1 : slot 581 1 = some none := by decide +kernel
theorem sq_l_581_3 : slot 581 3 = some (some 583) := by decide +kernel
theorem sq_ro_583 {j : Int} (h0 : 0 ≤ j) (h1 : j < 9) : slot 583 j = some (some (584 + j)) ∧ shp 583 = 6 := by
  obtain ⟨k, rfl⟩ := Int.eq_ofNat_of_zero_le h0
  exact ⟨(by decide +kernel : ∀ k : Nat, k < 9 → slot 583 (k : Int) = some (some (584 + (k : Int)))) k (by omega), by decide +kernel⟩
theorem sq_rw_583 {j : Int} (h0 : 0 ≤ j) (h1 : j < 9) : isA (584 + j) 0 225 := by
  obtain ⟨k, rfl⟩ := Int.eq_ofNat_of_zero_le h0
  exact (by decide +kernel : ∀ k : Nat, k < 9 → isA (584 + (k : Int)) 0 225) k (by omega)
theorem sq_l_581_4 : slot 581 4 = some none := by decide +kernel
theorem sq_a_582 : isA 582 0 8 := ⟨by decide, by decide +kernel⟩
theorem sq_l_581_5 : slot 581 5 = some none := by decide +kernel
theorem sq_l_280_1 : slot 280 1 = some (some 282) := by decide +kernel
theorem sq_a_282 : isA 282 0 24 := ⟨by decide, by decide +kernel⟩
theorem sq_a_285 : isA 285 5 20 := ⟨by decide, by decide +kernel⟩
theorem sq_a_281 : isA 281 0 24 := ⟨by decide, by decide +kernel⟩
theorem sq_a_283 : isA 283 0 10 := ⟨by decide, by decide +kernel⟩
theorem sq_l_284_1 : slot 284 1 = some (some 286) := by decide +kernel
theorem sq_l_286_0 : slot 286 0 = some (some 287) := by decide +kernel
theorem sq_p_286 : shp 286 = 22 := by decide +kernel
set_option maxRecDepth 100000 in
theorem w12_0 {m : Mm} {K : Int → Mm → Prop} (a1 : Int) (a2 : Int) (a3 : Int) (a4 : Int) (a5 : Int) 
  (H : ((m 1 1) > 880 → K (-1) m) ∧ (¬ (m 1 1) > 880 → TrV 13 [(1, 1), (0, a1)] m fun m3 => TrV 13 [(1, 1), (0, a2)] m3 fun m5 => TrV 13 [(1, 1), (0, a3)] m5 fun m7 => TrV 13 [(1, 1), (0, a4)] m7 fun m9 => TrV 13 [(1, 1), (0, a5)] m9 fun m11 => K (m11 1 1) m11)) : X 12 0 [(1, 1), (0, a1), (0, a2), (0, a3), (0, a4), (0, a5)] [] m (qI K) := by
  refine x_s (q := (.aload_n 0, 0, 0, 0)) (cod_12 rfl) rfl rfl rfl ?_
  refine x_gf (kk := 1) (t := 0) (cod_12 rfl) sq_p_1 sq_l_1_1 rfl rfl ?_
  refine x_s (q := (.sipush 880, 0, 0, 0)) (cod_12 rfl) rfl rfl rfl ?_
  refine x_ic (p := ¬ (m 1 1) > 880) (tgt := 12) (cod_12 rfl) (by decide) xn_le (fun h => ?_) (fun h => ?_)
  · have H1 := H.2 h
    refine x_s (q := (.aload_n 0, 0, 0, 0)) (cod_12 rfl) rfl rfl rfl ?_
    refine x_s (q := (.iload_n 1, 0, 0, 0)) (cod_12 rfl) rfl rfl rfl ?_
    refine x_call (as := [(1, 1), (0, a1)]) (rest := []) (cod_12 rfl) rfl rfl (by decide) (by decide) rfl rfl (Nat.le_of_ble_eq_true rfl) (rcv0 sq_l_1_0 sq_p_1 (by decide)) (Nat.le_of_ble_eq_true rfl) ?_
    refine X.imp H1 ?_
    rintro _ m3 ⟨rfl, H4⟩
    show X 12 17 [(1, 1), (0, a1), (0, a2), (0, a3), (0, a4), (0, a5)] [] m3 _
    refine x_s (q := (.aload_n 0, 0, 0, 0)) (cod_12 rfl) rfl rfl rfl ?_
    refine x_s (q := (.iload_n 2, 0, 0, 0)) (cod_12 rfl) rfl rfl rfl ?_
    refine x_call (as := [(1, 1), (0, a2)]) (rest := []) (cod_12 rfl) rfl rfl (by decide) (by decide) rfl rfl (Nat.le_of_ble_eq_true rfl) (rcv0 sq_l_1_0 sq_p_1 (by decide)) (Nat.le_of_ble_eq_true rfl) ?_
    refine X.imp H4 ?_
    rintro _ m5 ⟨rfl, H6⟩
    show X 12 22 [(1, 1), (0, a1), (0, a2), (0, a3), (0, a4), (0, a5)] [] m5 _
    refine x_s (q := (.aload_n 0, 0, 0, 0)) (cod_12 rfl) rfl rfl rfl ?_
    refine x_s (q := (.iload_n 3, 0, 0, 0)) (cod_12 rfl) rfl rfl rfl ?_
    refine x_call (as := [(1, 1), (0, a3)]) (rest := []) (cod_12 rfl) rfl rfl (by decide) (by decide) rfl rfl (Nat.le_of_ble_eq_true rfl) (rcv0 sq_l_1_0 sq_p_1 (by decide)) (Nat.le_of_ble_eq_true rfl) ?_
    refine X.imp H6 ?_
    rintro _ m7 ⟨rfl, H8⟩
    show X 12 27 [(1, 1), (0, a1), (0, a2), (0, a3), (0, a4), (0, a5)] [] m7 _
    refine x_s (q := (.aload_n 0, 0, 0, 0)) (cod_12 rfl) rfl rfl rfl ?_
    refine x_s (q := (.iload 4, 0, 0, 0)) (cod_12 rfl) rfl rfl rfl ?_
    refine x_call (as := [(1, 1), (0, a4)]) (rest := []) (cod_12 rfl) rfl rfl (by decide) (by decide) rfl rfl (Nat.le_of_ble_eq_true rfl) (rcv0 sq_l_1_0 sq_p_1 (by decide)) (Nat.le_of_ble_eq_true rfl) ?_
    refine X.imp H8 ?_
    rintro _ m9 ⟨rfl, H10⟩
    show X 12 33 [(1, 1), (0, a1), (0, a2), (0, a3), (0, a4), (0, a5)] [] m9 _
    refine x_s (q := (.aload_n 0, 0, 0, 0)) (cod_12 rfl) rfl rfl rfl ?_
    refine x_s (q := (.iload 5, 0, 0, 0)) (cod_12 rfl) rfl rfl rfl ?_
    refine x_call (as := [(1, 1), (0, a5)]) (rest := []) (cod_12 rfl) rfl rfl (by decide) (by decide) rfl rfl (Nat.le_of_ble_eq_true rfl) (rcv0 sq_l_1_0 sq_p_1 (by decide)) (Nat.le_of_ble_eq_true rfl) ?_
    refine X.imp H10 ?_
    rintro _ m11 ⟨rfl, H12⟩
    show X 12 39 [(1, 1), (0, a1), (0, a2), (0, a3), (0, a4), (0, a5)] [] m11 _
    refine x_s (q := (.aload_n 0, 0, 0, 0)) (cod_12 rfl) rfl rfl rfl ?_
    refine x_gf (kk := 1) (t := 0) (cod_12 rfl) sq_p_1 sq_l_1_1 rfl rfl ?_
    refine x_retI (t := .int) (cod_12 rfl) rfl rfl rfl ?_
    exact H12
  · have H2 := H.1 (Classical.not_not.mp h)
    refine x_s (q := (.iconst (-1), 0, 0, 0)) (cod_12 rfl) rfl rfl rfl ?_
    refine x_retI (t := .int) (cod_12 rfl) rfl rfl rfl ?_
    exact H2
theorem e12 {m : Mm} {K : Int → Mm → Prop} (a1 : Int) (a2 : Int) (a3 : Int) (a4 : Int) (a5 : Int) 
  (H : ((m 1 1) > 880 → K (-1) m) ∧ (¬ (m 1 1) > 880 → TrV 13 [(1, 1), (0, a1)] m fun m3 => TrV 13 [(1, 1), (0, a2)] m3 fun m5 => TrV 13 [(1, 1), (0, a3)] m5 fun m7 => TrV 13 [(1, 1), (0, a4)] m7 fun m9 => TrV 13 [(1, 1), (0, a5)] m9 fun m11 => K (m11 1 1) m11)) : TrI 12 [(1, 1), (0, a1), (0, a2), (0, a3), (0, a4), (0, a5)] m K := by
  exact w12_0 a1 a2 a3 a4 a5 H
set_option maxRecDepth 100000 in
theorem w13_0 {m : Mm} {K : Mm → Prop} (a1 : Int) 
  (H : X 13 3 [(1, 1), (0, a1), (0, 24)] [] m (qV K)) : X 13 0 [(1, 1), (0, a1), (9, 0)] [] m (qV K) := by
  refine x_s (q := (.bipush 24, 0, 0, 0)) (cod_13 rfl) rfl rfl rfl ?_
  refine x_s (q := (.istore_n 2, 0, 0, 0)) (cod_13 rfl) rfl rfl rfl ?_
  exact H
theorem e13 {m : Mm} {K : Mm → Prop} (a1 : Int) 
  (H : X 13 3 [(1, 1), (0, a1), (0, 24)] [] m (qV K)) : TrV 13 [(1, 1), (0, a1)] m K := by
  exact w13_0 a1 H
set_option maxRecDepth 100000 in
theorem w13_3 {m : Mm} {K : Mm → Prop} (a1 : Int) (a2 : Int) 
  (H : (a2 < 0 → K m) ∧ (¬ a2 < 0 → ((m 1 1) < 900 → (0 ≤ (m 1 1) ∧ (m 1 1) < 900) ∧ ∀ m7, m7 = umem m 2 (m 1 1) (iand (iushr a1 a2) 255) → ∀ m9, m9 = umem m7 1 1 (wr ((m7 1 1) + 1)) → X 13 3 [(1, 1), (0, a1), (0, wr (a2 + (-8)))] [] m9 (qV K)) ∧ (¬ (m 1 1) < 900 → X 13 3 [(1, 1), (0, a1), (0, wr (a2 + (-8)))] [] m (qV K)))) : X 13 3 [(1, 1), (0, a1), (0, a2)] [] m (qV K) := by
  refine x_s (q := (.iload_n 2, 0, 0, 0)) (cod_13 rfl) rfl rfl rfl ?_
  refine x_if (p := a2 < 0) (tgt := 49) (cod_13 rfl) (by decide) xj_lt (fun h => ?_) (fun h => ?_)
  · have H1 := H.1 h
    refine x_retV (cod_13 rfl) rfl ?_
    exact H1
  · have H2 := H.2 h
    refine x_s (q := (.aload_n 0, 0, 0, 0)) (cod_13 rfl) rfl rfl rfl ?_
    refine x_gf (kk := 1) (t := 0) (cod_13 rfl) sq_p_1 sq_l_1_1 rfl rfl ?_
    refine x_s (q := (.sipush 900, 0, 0, 0)) (cod_13 rfl) rfl rfl rfl ?_
    refine x_ic (p := ¬ (m 1 1) < 900) (tgt := 43) (cod_13 rfl) (by decide) xn_ge (fun h => ?_) (fun h => ?_)
    · have H3 := H2.2 h
      refine x_s (q := (.iinc 2 (-8), 0, 0, 0)) (cod_13 rfl) rfl rfl rfl ?_
      refine x_go (tgt := 3) (cod_13 rfl) (by decide) ?_
      exact H3
    · have H4 := H2.1 (Classical.not_not.mp h)
      refine x_s (q := (.aload_n 0, 0, 0, 0)) (cod_13 rfl) rfl rfl rfl ?_
      refine x_gc (kk := 0) (c := 2) (t := 1) (cod_13 rfl) sq_p_1 sq_l_1_0 rfl rfl ?_
      refine x_s (q := (.aload_n 0, 0, 0, 0)) (cod_13 rfl) rfl rfl rfl ?_
      refine x_gf (kk := 1) (t := 0) (cod_13 rfl) sq_p_1 sq_l_1_1 rfl rfl ?_
      refine x_s (q := (.iload_n 1, 0, 0, 0)) (cod_13 rfl) rfl rfl rfl ?_
      refine x_s (q := (.iload_n 2, 0, 0, 0)) (cod_13 rfl) rfl rfl rfl ?_
      refine x_s (q := (.iushr, 0, 0, 0)) (cod_13 rfl) rfl rfl rfl ?_
      show X 13 28 [(1, 1), (0, a1), (0, a2)] [(0, iushr a1 a2), (0, m 1 1), (1, 2)] m _
      refine x_s (q := (.sipush 255, 0, 0, 0)) (cod_13 rfl) rfl rfl rfl ?_
      refine x_s (q := (.iand, 0, 0, 0)) (cod_13 rfl) rfl rfl rfl ?_
      show X 13 32 [(1, 1), (0, a1), (0, a2)] [(0, iand (iushr a1 a2) 255), (0, m 1 1), (1, 2)] m _
      obtain ⟨c5, H6⟩ := H4
      refine x_iast (cod_13 rfl) sq_a_2.s (sq_a_2.k c5.1 c5.2) ?_
      have H8 := H6 _ rfl
      generalize umem m 2 (m 1 1) (iand (iushr a1 a2) 255) = m7 at H8 ⊢
      refine x_s (q := (.aload_n 0, 0, 0, 0)) (cod_13 rfl) rfl rfl rfl ?_
      refine x_s (q := (.dup, 0, 0, 0)) (cod_13 rfl) rfl rfl rfl ?_
      refine x_gf (kk := 1) (t := 0) (cod_13 rfl) sq_p_1 sq_l_1_1 rfl rfl ?_
      refine x_s (q := (.iconst 1, 0, 0, 0)) (cod_13 rfl) rfl rfl rfl ?_
      refine x_s (q := (.iadd, 0, 0, 0)) (cod_13 rfl) rfl rfl rfl ?_
      refine x_pf (kk := 1) (t := 0) (cod_13 rfl) sq_p_1 sq_l_1_1 rfl rfl rfl ?_
      have H10 := H8 _ rfl
      generalize umem m7 1 1 (wr ((m7 1 1) + 1)) = m9 at H10 ⊢
      refine x_s (q := (.iinc 2 (-8), 0, 0, 0)) (cod_13 rfl) rfl rfl rfl ?_
      refine x_go (tgt := 3) (cod_13 rfl) (by decide) ?_
      exact H10
set_option maxRecDepth 100000 in
theorem w14_0 {m : Mm} {K : Int → Mm → Prop} (a1 : Int) 
  (H : (a1 < 0 → K (-2) m) ∧ (¬ a1 < 0 → (a1 > (m 1 1) → K (-2) m) ∧ (¬ a1 > (m 1 1) → TrI 15 [(1, 3), (1, 2), (0, a1), (1, (m 1 4))] m fun v7 m5 => ∀ m8, m8 = umem m5 1 1 0 → (v7 < 0 → K (-1) m8) ∧ (¬ v7 < 0 → shp (m8 1 4) = 30 ∧ ∀ m14, m14 = umem m8 1 4 (m8 1 3) → ∀ m16, m16 = umem m14 1 3 (m8 1 4) → shp (m16 1 5) = 24 ∧ ∀ m20, m20 = umem m16 (m16 1 5) 4 0 → TrV 54 [(1, 280), (1, (m20 1 3))] m20 fun m22 => ∀ m24, m24 = umem m22 284 2 0 → ∀ m26, m26 = umem m24 284 3 0 → ∀ m28, m28 = umem m26 581 2 (-1) → TrV 58 [(1, 1)] m28 fun m30 => K v7 m30)))) : X 14 0 [(1, 1), (0, a1), (9, 0), (9, 0)] [] m (qI K) := by
  refine x_s (q := (.iload_n 1, 0, 0, 0)) (cod_14 rfl) rfl rfl rfl ?_
  refine x_if (p := a1 < 0) (tgt := 12) (cod_14 rfl) (by decide) xj_lt (fun h => ?_) (fun h => ?_)
  · have H1 := H.1 h
    refine x_s (q := (.bipush (-2), 0, 0, 0)) (cod_14 rfl) rfl rfl rfl ?_
    refine x_retI (t := .int) (cod_14 rfl) rfl rfl rfl ?_
    exact H1
  · have H2 := H.2 h
    refine x_s (q := (.iload_n 1, 0, 0, 0)) (cod_14 rfl) rfl rfl rfl ?_
    refine x_s (q := (.aload_n 0, 0, 0, 0)) (cod_14 rfl) rfl rfl rfl ?_
    refine x_gf (kk := 1) (t := 0) (cod_14 rfl) sq_p_1 sq_l_1_1 rfl rfl ?_
    refine x_ic (p := ¬ a1 > (m 1 1)) (tgt := 15) (cod_14 rfl) (by decide) xn_le (fun h => ?_) (fun h => ?_)
    · have H3 := H2.2 h
      refine x_s (q := (.aload_n 0, 0, 0, 0)) (cod_14 rfl) rfl rfl rfl ?_
      refine x_gc (kk := 2) (c := 3) (t := 1) (cod_14 rfl) sq_p_1 sq_l_1_2 rfl rfl ?_
      refine x_s (q := (.aload_n 0, 0, 0, 0)) (cod_14 rfl) rfl rfl rfl ?_
      refine x_gc (kk := 0) (c := 2) (t := 1) (cod_14 rfl) sq_p_1 sq_l_1_0 rfl rfl ?_
      refine x_s (q := (.iload_n 1, 0, 0, 0)) (cod_14 rfl) rfl rfl rfl ?_
      refine x_s (q := (.aload_n 0, 0, 0, 0)) (cod_14 rfl) rfl rfl rfl ?_
      refine x_gf (kk := 4) (t := 1) (cod_14 rfl) sq_p_1 sq_l_1_4 rfl rfl ?_
      refine x_call (as := [(1, 3), (1, 2), (0, a1), (1, (m 1 4))]) (rest := []) (cod_14 rfl) rfl rfl (by decide) (by decide) rfl rfl (Nat.le_of_ble_eq_true rfl) (rcv0 sq_l_3_0 sq_p_3 (by decide)) (Nat.le_of_ble_eq_true rfl) ?_
      refine X.imp H3 ?_
      rintro _ m5 ⟨v7, rfl, H6⟩
      show X 14 31 [(1, 1), (0, a1), (9, 0), (9, 0)] [(0, v7)] m5 _
      refine x_s (q := (.istore_n 2, 0, 0, 0)) (cod_14 rfl) rfl rfl rfl ?_
      refine x_s (q := (.aload_n 0, 0, 0, 0)) (cod_14 rfl) rfl rfl rfl ?_
      refine x_s (q := (.iconst 0, 0, 0, 0)) (cod_14 rfl) rfl rfl rfl ?_
      refine x_pf (kk := 1) (t := 0) (cod_14 rfl) sq_p_1 sq_l_1_1 rfl rfl rfl ?_
      have H9 := H6 _ rfl
      generalize umem m5 1 1 0 = m8 at H9 ⊢
      refine x_s (q := (.iload_n 2, 0, 0, 0)) (cod_14 rfl) rfl rfl rfl ?_
      refine x_if (p := ¬ v7 < 0) (tgt := 43) (cod_14 rfl) (by decide) xn_ge (fun h => ?_) (fun h => ?_)
      · have H10 := H9.2 h
        refine x_s (q := (.aload_n 0, 0, 0, 0)) (cod_14 rfl) rfl rfl rfl ?_
        refine x_gf (kk := 4) (t := 1) (cod_14 rfl) sq_p_1 sq_l_1_4 rfl rfl ?_
        obtain ⟨c12, H13⟩ := H10
        refine x_astn (ls' := [(1, 1), (0, a1), (0, v7), (1, (m8 1 4))]) (cod_14 rfl) (pos_of c12 (by decide)) rfl rfl ?_
        refine x_s (q := (.aload_n 0, 0, 0, 0)) (cod_14 rfl) rfl rfl rfl ?_
        refine x_s (q := (.aload_n 0, 0, 0, 0)) (cod_14 rfl) rfl rfl rfl ?_
        refine x_gf (kk := 3) (t := 1) (cod_14 rfl) sq_p_1 sq_l_1_3 rfl rfl ?_
        refine x_pf (kk := 4) (t := 1) (cod_14 rfl) sq_p_1 sq_l_1_4 rfl rfl rfl ?_
        have H15 := H13 _ rfl
        generalize umem m8 1 4 (m8 1 3) = m14 at H15 ⊢
        refine x_s (q := (.aload_n 0, 0, 0, 0)) (cod_14 rfl) rfl rfl rfl ?_
        refine x_aldn (cod_14 rfl) rfl (pos_of c12 (by decide)) ?_
        refine x_pf (kk := 3) (t := 1) (cod_14 rfl) sq_p_1 sq_l_1_3 rfl rfl rfl ?_
        have H17 := H15 _ rfl
        generalize umem m14 1 3 (m8 1 4) = m16 at H17 ⊢
        refine x_s (q := (.aload_n 0, 0, 0, 0)) (cod_14 rfl) rfl rfl rfl ?_
        refine x_gf (kk := 5) (t := 1) (cod_14 rfl) sq_p_1 sq_l_1_5 rfl rfl ?_
        refine x_s (q := (.iconst 0, 0, 0, 0)) (cod_14 rfl) rfl rfl rfl ?_
        obtain ⟨c18, H19⟩ := H17
        refine x_pf (kk := 4) (t := 0) (cod_14 rfl) c18 (sq_c_4_4 c18) rfl rfl rfl ?_
        have H21 := H19 _ rfl
        generalize umem m16 (m16 1 5) 4 0 = m20 at H21 ⊢
        refine x_s (q := (.aload_n 0, 0, 0, 0)) (cod_14 rfl) rfl rfl rfl ?_
        refine x_gc (kk := 7) (c := 280) (t := 1) (cod_14 rfl) sq_p_1 sq_l_1_7 rfl rfl ?_
        refine x_s (q := (.aload_n 0, 0, 0, 0)) (cod_14 rfl) rfl rfl rfl ?_
        refine x_gf (kk := 3) (t := 1) (cod_14 rfl) sq_p_1 sq_l_1_3 rfl rfl ?_
        refine x_call (as := [(1, 280), (1, (m20 1 3))]) (rest := []) (cod_14 rfl) rfl rfl (by decide) (by decide) rfl rfl (Nat.le_of_ble_eq_true rfl) (rcv0 sq_l_280_0 sq_p_280 (by decide)) (Nat.le_of_ble_eq_true rfl) ?_
        refine X.imp H21 ?_
        rintro _ m22 ⟨rfl, H23⟩
        show X 14 80 [(1, 1), (0, a1), (0, v7), (1, (m8 1 4))] [] m22 _
        refine x_s (q := (.aload_n 0, 0, 0, 0)) (cod_14 rfl) rfl rfl rfl ?_
        refine x_gc (kk := 8) (c := 284) (t := 1) (cod_14 rfl) sq_p_1 sq_l_1_8 rfl rfl ?_
        refine x_call (as := [(1, 284)]) (rest := []) (cod_14 rfl) rfl rfl (by decide) (by decide) rfl rfl (Nat.le_of_ble_eq_true rfl) (rcv0 sq_l_284_0 sq_p_284 (by decide)) (Nat.le_of_ble_eq_true rfl) ?_
        show X 57 0 [(1, 284)] [] m22 _
        refine x_s (q := (.aload_n 0, 0, 0, 0)) (cod_57 rfl) rfl rfl rfl ?_
        refine x_s (q := (.iconst 0, 0, 0, 0)) (cod_57 rfl) rfl rfl rfl ?_
        refine x_pf (kk := 2) (t := 0) (cod_57 rfl) sq_p_284 sq_l_284_2 rfl rfl rfl ?_
        have H25 := H23 _ rfl
        generalize umem m22 284 2 0 = m24 at H25 ⊢
        refine x_s (q := (.aload_n 0, 0, 0, 0)) (cod_57 rfl) rfl rfl rfl ?_
        refine x_s (q := (.iconst 0, 0, 0, 0)) (cod_57 rfl) rfl rfl rfl ?_
        refine x_pf (kk := 3) (t := 0) (cod_57 rfl) sq_p_284 sq_l_284_3 rfl rfl rfl ?_
        have H27 := H25 _ rfl
        generalize umem m24 284 3 0 = m26 at H27 ⊢
        refine x_rV (cod_57 rfl) rfl ?_
        show X 14 87 [(1, 1), (0, a1), (0, v7), (1, (m8 1 4))] [] m26 _
        refine x_s (q := (.aload_n 0, 0, 0, 0)) (cod_14 rfl) rfl rfl rfl ?_
        refine x_gc (kk := 14) (c := 581) (t := 1) (cod_14 rfl) sq_p_1 sq_l_1_14 rfl rfl ?_
        refine x_s (q := (.iconst (-1), 0, 0, 0)) (cod_14 rfl) rfl rfl rfl ?_
        refine x_pf (kk := 2) (t := 0) (cod_14 rfl) sq_p_581 sq_l_581_2 rfl rfl rfl ?_
        have H29 := H27 _ rfl
        generalize umem m26 581 2 (-1) = m28 at H29 ⊢
        refine x_s (q := (.aload_n 0, 0, 0, 0)) (cod_14 rfl) rfl rfl rfl ?_
        refine x_call (as := [(1, 1)]) (rest := []) (cod_14 rfl) rfl rfl (by decide) (by decide) rfl rfl (Nat.le_of_ble_eq_true rfl) (rcv0 sq_l_1_0 sq_p_1 (by decide)) (Nat.le_of_ble_eq_true rfl) ?_
        refine X.imp H29 ?_
        rintro _ m30 ⟨rfl, H31⟩
        show X 14 99 [(1, 1), (0, a1), (0, v7), (1, (m8 1 4))] [] m30 _
        refine x_s (q := (.iload_n 2, 0, 0, 0)) (cod_14 rfl) rfl rfl rfl ?_
        refine x_retI (t := .int) (cod_14 rfl) rfl rfl rfl ?_
        exact H31
      · have H11 := H9.1 (Classical.not_not.mp h)
        refine x_s (q := (.iconst (-1), 0, 0, 0)) (cod_14 rfl) rfl rfl rfl ?_
        refine x_retI (t := .int) (cod_14 rfl) rfl rfl rfl ?_
        exact H11
    · have H4 := H2.1 (Classical.not_not.mp h)
      refine x_s (q := (.bipush (-2), 0, 0, 0)) (cod_14 rfl) rfl rfl rfl ?_
      refine x_retI (t := .int) (cod_14 rfl) rfl rfl rfl ?_
      exact H4
theorem e14 {m : Mm} {K : Int → Mm → Prop} (a1 : Int) 
  (H : (a1 < 0 → K (-2) m) ∧ (¬ a1 < 0 → (a1 > (m 1 1) → K (-2) m) ∧ (¬ a1 > (m 1 1) → TrI 15 [(1, 3), (1, 2), (0, a1), (1, (m 1 4))] m fun v7 m5 => ∀ m8, m8 = umem m5 1 1 0 → (v7 < 0 → K (-1) m8) ∧ (¬ v7 < 0 → shp (m8 1 4) = 30 ∧ ∀ m14, m14 = umem m8 1 4 (m8 1 3) → ∀ m16, m16 = umem m14 1 3 (m8 1 4) → shp (m16 1 5) = 24 ∧ ∀ m20, m20 = umem m16 (m16 1 5) 4 0 → TrV 54 [(1, 280), (1, (m20 1 3))] m20 fun m22 => ∀ m24, m24 = umem m22 284 2 0 → ∀ m26, m26 = umem m24 284 3 0 → ∀ m28, m28 = umem m26 581 2 (-1) → TrV 58 [(1, 1)] m28 fun m30 => K v7 m30)))) : TrI 14 [(1, 1), (0, a1)] m K := by
  exact w14_0 a1 H
set_option maxRecDepth 100000 in
theorem w15_0 {m : Mm} {K : Int → Mm → Prop} (a1 : Int) (a2 : Int) (a3 : Int) (ta3 : shp a3 = 30)
  (H : 1 ≤ a1 ∧ TrV 16 [(1, 3), (1, a1), (0, a2)] m fun m3 => TrV 18 [(1, a3)] m3 fun m5 => X 15 13 [(1, 3), (1, a1), (0, a2), (1, a3), (0, 0)] [] m5 (qI K)) : X 15 0 [(1, 3), (1, a1), (0, a2), (1, a3), (9, 0)] [] m (qI K) := by
  refine x_s (q := (.aload_n 0, 0, 0, 0)) (cod_15 rfl) rfl rfl rfl ?_
  obtain ⟨c1, H2⟩ := H
  refine x_aldn (cod_15 rfl) rfl c1 ?_
  refine x_s (q := (.iload_n 2, 0, 0, 0)) (cod_15 rfl) rfl rfl rfl ?_
  refine x_call (as := [(1, 3), (1, a1), (0, a2)]) (rest := []) (cod_15 rfl) rfl rfl (by decide) (by decide) rfl rfl (Nat.le_of_ble_eq_true rfl) (rcv0 sq_l_3_0 sq_p_3 (by decide)) (Nat.le_of_ble_eq_true rfl) ?_
  refine X.imp H2 ?_
  rintro _ m3 ⟨rfl, H4⟩
  show X 15 6 [(1, 3), (1, a1), (0, a2), (1, a3), (9, 0)] [] m3 _
  refine x_aldn (cod_15 rfl) rfl (pos_of ta3 (by decide)) ?_
  refine x_call (as := [(1, a3)]) (rest := []) (cod_15 rfl) rfl rfl (by decide) (by decide) rfl rfl (Nat.le_of_ble_eq_true rfl) (rcv0 (sq_c_10_0 ta3) ta3 (by decide)) (Nat.le_of_ble_eq_true rfl) ?_
  refine X.imp H4 ?_
  rintro _ m5 ⟨rfl, H6⟩
  show X 15 10 [(1, 3), (1, a1), (0, a2), (1, a3), (9, 0)] [] m5 _
  refine x_s (q := (.iconst 0, 0, 0, 0)) (cod_15 rfl) rfl rfl rfl ?_
  refine x_s (q := (.istore 4, 0, 0, 0)) (cod_15 rfl) rfl rfl rfl ?_
  exact H6
theorem e15 {m : Mm} {K : Int → Mm → Prop} (a1 : Int) (a2 : Int) (a3 : Int) (ta3 : shp a3 = 30)
  (H : 1 ≤ a1 ∧ TrV 16 [(1, 3), (1, a1), (0, a2)] m fun m3 => TrV 18 [(1, a3)] m3 fun m5 => X 15 13 [(1, 3), (1, a1), (0, a2), (1, a3), (0, 0)] [] m5 (qI K)) : TrI 15 [(1, 3), (1, a1), (0, a2), (1, a3)] m K := by
  exact w15_0 a1 a2 a3 ta3 H
set_option maxRecDepth 100000 in
theorem w15_13 {m : Mm} {K : Int → Mm → Prop} (ua1 : aV) (ua2 : aV) (a3 : Int) (a4 : Int) (ta3 : shp a3 = 30)
  (H : (a4 < 3 → (0 ≤ a4 ∧ a4 < 3) ∧ ∀ m5, m5 = umem m 4 a4 0 → X 15 13 [(1, 3), ua1, ua2, (1, a3), (0, wr (a4 + 1))] [] m5 (qI K)) ∧ (¬ a4 < 3 → X 15 40 [(1, 3), ua1, ua2, (1, a3), (0, 0)] [] m (qI K))) : X 15 13 [(1, 3), ua1, ua2, (1, a3), (0, a4)] [] m (qI K) := by
  refine x_s (q := (.iload 4, 0, 0, 0)) (cod_15 rfl) rfl rfl rfl ?_
  refine x_s (q := (.aload_n 0, 0, 0, 0)) (cod_15 rfl) rfl rfl rfl ?_
  refine x_gc (kk := 2) (c := 4) (t := 1) (cod_15 rfl) sq_p_3 sq_l_3_2 rfl rfl ?_
  refine x_lenA (cod_15 rfl) sq_a_4 (by decide) (z := 3) rfl ?_
  refine x_ic (p := ¬ a4 < 3) (tgt := 37) (cod_15 rfl) (by decide) xn_ge (fun h => ?_) (fun h => ?_)
  · have H1 := H.2 h
    refine x_s (q := (.iconst 0, 0, 0, 0)) (cod_15 rfl) rfl rfl rfl ?_
    refine x_s (q := (.istore 4, 0, 0, 0)) (cod_15 rfl) rfl rfl rfl ?_
    exact H1
  · have H2 := H.1 (Classical.not_not.mp h)
    refine x_s (q := (.aload_n 0, 0, 0, 0)) (cod_15 rfl) rfl rfl rfl ?_
    refine x_gc (kk := 2) (c := 4) (t := 1) (cod_15 rfl) sq_p_3 sq_l_3_2 rfl rfl ?_
    refine x_s (q := (.iload 4, 0, 0, 0)) (cod_15 rfl) rfl rfl rfl ?_
    refine x_s (q := (.iconst 0, 0, 0, 0)) (cod_15 rfl) rfl rfl rfl ?_
    obtain ⟨c3, H4⟩ := H2
    refine x_bast (cod_15 rfl) sq_a_4.s (sq_a_4.k c3.1 c3.2) (by decide) ?_
    have H6 := H4 _ rfl
    generalize umem m 4 a4 0 = m5 at H6 ⊢
    refine x_s (q := (.iinc 4 1, 0, 0, 0)) (cod_15 rfl) rfl rfl rfl ?_
    refine x_go (tgt := 13) (cod_15 rfl) (by decide) ?_
    exact H6
set_option maxRecDepth 100000 in
theorem w15_40 {m : Mm} {K : Int → Mm → Prop} (ua1 : aV) (ua2 : aV) (a3 : Int) (a4 : Int) (ta3 : shp a3 = 30)
  (H : (a4 > (m 3 4) → K (-1) m) ∧ (¬ a4 > (m 3 4) → TrV 19 [(1, 3)] m fun m3 => ((m3 3 6) = 0 → K a4 m3) ∧ (¬ (m3 3 6) = 0 → TrI 41 [(1, 3), (1, a3)] m3 fun v9 m7 => (v9 = 0 → K (-1) m7) ∧ (¬ v9 = 0 → TrI 49 [(1, 3)] m7 fun v14 m12 => (v14 = 0 → K (-1) m12) ∧ (¬ v14 = 0 → X 15 40 [(1, 3), ua1, ua2, (1, a3), (0, wr (a4 + 1))] [] m12 (qI K)))))) : X 15 40 [(1, 3), ua1, ua2, (1, a3), (0, a4)] [] m (qI K) := by
  refine x_s (q := (.iload 4, 0, 0, 0)) (cod_15 rfl) rfl rfl rfl ?_
  refine x_s (q := (.aload_n 0, 0, 0, 0)) (cod_15 rfl) rfl rfl rfl ?_
  refine x_gf (kk := 4) (t := 0) (cod_15 rfl) sq_p_3 sq_l_3_4 rfl rfl ?_
  refine x_ic (p := a4 > (m 3 4)) (tgt := 86) (cod_15 rfl) (by decide) xj_gt (fun h => ?_) (fun h => ?_)
  · have H1 := H.1 h
    refine x_s (q := (.iconst (-1), 0, 0, 0)) (cod_15 rfl) rfl rfl rfl ?_
    refine x_retI (t := .int) (cod_15 rfl) rfl rfl rfl ?_
    exact H1
  · have H2 := H.2 h
    refine x_s (q := (.aload_n 0, 0, 0, 0)) (cod_15 rfl) rfl rfl rfl ?_
    refine x_call (as := [(1, 3)]) (rest := []) (cod_15 rfl) rfl rfl (by decide) (by decide) rfl rfl (Nat.le_of_ble_eq_true rfl) (rcv0 sq_l_3_0 sq_p_3 (by decide)) (Nat.le_of_ble_eq_true rfl) ?_
    refine X.imp H2 ?_
    rintro _ m3 ⟨rfl, H4⟩
    show X 15 53 [(1, 3), ua1, ua2, (1, a3), (0, a4)] [] m3 _
    refine x_s (q := (.aload_n 0, 0, 0, 0)) (cod_15 rfl) rfl rfl rfl ?_
    refine x_gf (kk := 6) (t := 0) (cod_15 rfl) sq_p_3 sq_l_3_6 rfl rfl ?_
    refine x_if (p := ¬ (m3 3 6) = 0) (tgt := 63) (cod_15 rfl) (by decide) xj_ne (fun h => ?_) (fun h => ?_)
    · have H5 := H4.2 h
      refine x_s (q := (.aload_n 0, 0, 0, 0)) (cod_15 rfl) rfl rfl rfl ?_
      refine x_aldn (cod_15 rfl) rfl (pos_of ta3 (by decide)) ?_
      refine x_call (as := [(1, 3), (1, a3)]) (rest := []) (cod_15 rfl) rfl rfl (by decide) (by decide) rfl rfl (Nat.le_of_ble_eq_true rfl) (rcv0 sq_l_3_0 sq_p_3 (by decide)) (Nat.le_of_ble_eq_true rfl) ?_
      refine X.imp H5 ?_
      rintro _ m7 ⟨v9, rfl, H8⟩
      show X 15 68 [(1, 3), ua1, ua2, (1, a3), (0, a4)] [(0, v9)] m7 _
      refine x_if (p := v9 = 0) (tgt := 78) (cod_15 rfl) (by decide) xj_eq (fun h => ?_) (fun h => ?_)
      · have H10 := H8.1 h
        refine x_s (q := (.iconst (-1), 0, 0, 0)) (cod_15 rfl) rfl rfl rfl ?_
        refine x_retI (t := .int) (cod_15 rfl) rfl rfl rfl ?_
        exact H10
      · have H11 := H8.2 h
        refine x_s (q := (.aload_n 0, 0, 0, 0)) (cod_15 rfl) rfl rfl rfl ?_
        refine x_call (as := [(1, 3)]) (rest := []) (cod_15 rfl) rfl rfl (by decide) (by decide) rfl rfl (Nat.le_of_ble_eq_true rfl) (rcv0 sq_l_3_0 sq_p_3 (by decide)) (Nat.le_of_ble_eq_true rfl) ?_
        refine X.imp H11 ?_
        rintro _ m12 ⟨v14, rfl, H13⟩
        show X 15 75 [(1, 3), ua1, ua2, (1, a3), (0, a4)] [(0, v14)] m12 _
        refine x_if (p := ¬ v14 = 0) (tgt := 80) (cod_15 rfl) (by decide) xj_ne (fun h => ?_) (fun h => ?_)
        · have H15 := H13.2 h
          refine x_s (q := (.iinc 4 1, 0, 0, 0)) (cod_15 rfl) rfl rfl rfl ?_
          refine x_go (tgt := 40) (cod_15 rfl) (by decide) ?_
          exact H15
        · have H16 := H13.1 (Classical.not_not.mp h)
          refine x_s (q := (.iconst (-1), 0, 0, 0)) (cod_15 rfl) rfl rfl rfl ?_
          refine x_retI (t := .int) (cod_15 rfl) rfl rfl rfl ?_
          exact H16
    · have H6 := H4.1 (Classical.not_not.mp h)
      refine x_s (q := (.iload 4, 0, 0, 0)) (cod_15 rfl) rfl rfl rfl ?_
      refine x_retI (t := .int) (cod_15 rfl) rfl rfl rfl ?_
      exact H6
set_option maxRecDepth 100000 in
theorem w16_0 {m : Mm} {K : Mm → Prop} (a1 : Int) (a2 : Int) 
  (H : 1 ≤ a1 ∧ ∀ m3, m3 = umem m 3 3 a1 → (1 ≤ a1 ∧ shp a1 < 9) ∧ ∀ m7, m7 = umem m3 3 4 (min a2 (alen a1)) → ∀ m9, m9 = umem m7 3 5 0 → ∀ m11, m11 = umem m9 3 0 0 → ∀ m13, m13 = umem m11 3 1 (-1) → K m13) : X 16 0 [(1, 3), (1, a1), (0, a2)] [] m (qV K) := by
  refine x_s (q := (.aload_n 0, 0, 0, 0)) (cod_16 rfl) rfl rfl rfl ?_
  obtain ⟨c1, H2⟩ := H
  refine x_aldn (cod_16 rfl) rfl c1 ?_
  refine x_pf (kk := 3) (t := 1) (cod_16 rfl) sq_p_3 sq_l_3_3 rfl rfl rfl ?_
  have H4 := H2 _ rfl
  generalize umem m 3 3 a1 = m3 at H4 ⊢
  refine x_s (q := (.aload_n 0, 0, 0, 0)) (cod_16 rfl) rfl rfl rfl ?_
  refine x_s (q := (.iload_n 2, 0, 0, 0)) (cod_16 rfl) rfl rfl rfl ?_
  refine x_aldn (cod_16 rfl) rfl c1 ?_
  obtain ⟨c5, H6⟩ := H4
  refine x_len (cod_16 rfl) c5.1 c5.2 ?_
  refine x_m7 (cod_16 rfl) rfl rfl (Nat.le_of_ble_eq_true rfl) ?_
  refine x_pf (kk := 4) (t := 0) (cod_16 rfl) sq_p_3 sq_l_3_4 rfl rfl rfl ?_
  have H8 := H6 _ rfl
  generalize umem m3 3 4 (min a2 (alen a1)) = m7 at H8 ⊢
  refine x_s (q := (.aload_n 0, 0, 0, 0)) (cod_16 rfl) rfl rfl rfl ?_
  refine x_s (q := (.iconst 0, 0, 0, 0)) (cod_16 rfl) rfl rfl rfl ?_
  refine x_pf (kk := 5) (t := 0) (cod_16 rfl) sq_p_3 sq_l_3_5 rfl rfl rfl ?_
  have H10 := H8 _ rfl
  generalize umem m7 3 5 0 = m9 at H10 ⊢
  refine x_s (q := (.aload_n 0, 0, 0, 0)) (cod_16 rfl) rfl rfl rfl ?_
  refine x_s (q := (.iconst 0, 0, 0, 0)) (cod_16 rfl) rfl rfl rfl ?_
  refine x_pf (kk := 0) (t := 0) (cod_16 rfl) sq_p_3 sq_l_3_0 rfl rfl rfl ?_
  have H12 := H10 _ rfl
  generalize umem m9 3 0 0 = m11 at H12 ⊢
  refine x_s (q := (.aload_n 0, 0, 0, 0)) (cod_16 rfl) rfl rfl rfl ?_
  refine x_s (q := (.iconst (-1), 0, 0, 0)) (cod_16 rfl) rfl rfl rfl ?_
  refine x_pf (kk := 1) (t := 0) (cod_16 rfl) sq_p_3 sq_l_3_1 rfl rfl rfl ?_
  have H14 := H12 _ rfl
  generalize umem m11 3 1 (-1) = m13 at H14 ⊢
  refine x_retV (cod_16 rfl) rfl ?_
  exact H14
theorem e16 {m : Mm} {K : Mm → Prop} (a1 : Int) (a2 : Int) 
  (H : 1 ≤ a1 ∧ ∀ m3, m3 = umem m 3 3 a1 → (1 ≤ a1 ∧ shp a1 < 9) ∧ ∀ m7, m7 = umem m3 3 4 (min a2 (alen a1)) → ∀ m9, m9 = umem m7 3 5 0 → ∀ m11, m11 = umem m9 3 0 0 → ∀ m13, m13 = umem m11 3 1 (-1) → K m13) : TrV 16 [(1, 3), (1, a1), (0, a2)] m K := by
  exact w16_0 a1 a2 H
set_option maxRecDepth 100000 in
theorem w18_0 {m : Mm} {K : Mm → Prop} (a0 : Int) (ta0 : shp a0 = 30)
  (H : ∀ m1, m1 = umem m a0 5 0 → ∀ m3, m3 = umem m1 a0 6 0 → ∀ m5, m5 = umem m3 a0 7 500 → ∀ m7, m7 = umem m5 a0 8 0 → ∀ m9, m9 = umem m7 a0 9 0 → X 18 29 [(1, a0), (0, 0)] [] m9 (qV K)) : X 18 0 [(1, a0), (9, 0)] [] m (qV K) := by
  refine x_aldn (cod_18 rfl) rfl (pos_of ta0 (by decide)) ?_
  refine x_s (q := (.iconst 0, 0, 0, 0)) (cod_18 rfl) rfl rfl rfl ?_
  refine x_pf (kk := 5) (t := 0) (cod_18 rfl) ta0 (sq_c_10_5 ta0) rfl rfl rfl ?_
  have H2 := H _ rfl
  generalize umem m a0 5 0 = m1 at H2 ⊢
  refine x_aldn (cod_18 rfl) rfl (pos_of ta0 (by decide)) ?_
  refine x_s (q := (.iconst 0, 0, 0, 0)) (cod_18 rfl) rfl rfl rfl ?_
  refine x_pf (kk := 6) (t := 0) (cod_18 rfl) ta0 (sq_c_10_6 ta0) rfl rfl rfl ?_
  have H4 := H2 _ rfl
  generalize umem m1 a0 6 0 = m3 at H4 ⊢
  refine x_aldn (cod_18 rfl) rfl (pos_of ta0 (by decide)) ?_
  refine x_s (q := (.sipush 500, 0, 0, 0)) (cod_18 rfl) rfl rfl rfl ?_
  refine x_pf (kk := 7) (t := 0) (cod_18 rfl) ta0 (sq_c_10_7 ta0) rfl rfl rfl ?_
  have H6 := H4 _ rfl
  generalize umem m3 a0 7 500 = m5 at H6 ⊢
  refine x_aldn (cod_18 rfl) rfl (pos_of ta0 (by decide)) ?_
  refine x_s (q := (.iconst 0, 0, 0, 0)) (cod_18 rfl) rfl rfl rfl ?_
  refine x_pf (kk := 8) (t := 0) (cod_18 rfl) ta0 (sq_c_10_8 ta0) rfl rfl rfl ?_
  have H8 := H6 _ rfl
  generalize umem m5 a0 8 0 = m7 at H8 ⊢
  refine x_aldn (cod_18 rfl) rfl (pos_of ta0 (by decide)) ?_
  refine x_s (q := (.iconst 0, 0, 0, 0)) (cod_18 rfl) rfl rfl rfl ?_
  refine x_pf (kk := 9) (t := 0) (cod_18 rfl) ta0 (sq_c_10_9 ta0) rfl rfl rfl ?_
  have H10 := H8 _ rfl
  generalize umem m7 a0 9 0 = m9 at H10 ⊢
  refine x_s (q := (.iconst 0, 0, 0, 0)) (cod_18 rfl) rfl rfl rfl ?_
  refine x_s (q := (.istore_n 1, 0, 0, 0)) (cod_18 rfl) rfl rfl rfl ?_
  exact H10
theorem e18 {m : Mm} {K : Mm → Prop} (a0 : Int) (ta0 : shp a0 = 30)
  (H : ∀ m1, m1 = umem m a0 5 0 → ∀ m3, m3 = umem m1 a0 6 0 → ∀ m5, m5 = umem m3 a0 7 500 → ∀ m7, m7 = umem m5 a0 8 0 → ∀ m9, m9 = umem m7 a0 9 0 → X 18 29 [(1, a0), (0, 0)] [] m9 (qV K)) : TrV 18 [(1, a0)] m K := by
  exact w18_0 a0 ta0 H
set_option maxRecDepth 100000 in
theorem w18_29 {m : Mm} {K : Mm → Prop} (a0 : Int) (a1 : Int) (ta0 : shp a0 = 30)
  (H : (a1 < 25 → (0 ≤ a1 ∧ a1 < 25) ∧ ∀ m5, m5 = umem m (a0 + 3) a1 0 → ∀ m7, m7 = umem m5 (a0 + 4) a1 0 → ∀ m9, m9 = umem m7 (a0 + 5) a1 0 → X 18 29 [(1, a0), (0, wr (a1 + 1))] [] m9 (qV K)) ∧ (¬ a1 < 25 → K m)) : X 18 29 [(1, a0), (0, a1)] [] m (qV K) := by
  refine x_s (q := (.iload_n 1, 0, 0, 0)) (cod_18 rfl) rfl rfl rfl ?_
  refine x_s (q := (.bipush 25, 0, 0, 0)) (cod_18 rfl) rfl rfl rfl ?_
  refine x_ic (p := ¬ a1 < 25) (tgt := 62) (cod_18 rfl) (by decide) xn_ge (fun h => ?_) (fun h => ?_)
  · have H1 := H.2 h
    refine x_retV (cod_18 rfl) rfl ?_
    exact H1
  · have H2 := H.1 (Classical.not_not.mp h)
    refine x_aldn (cod_18 rfl) rfl (pos_of ta0 (by decide)) ?_
    refine x_gc (kk := 2) (c := (a0 + 3)) (t := 1) (cod_18 rfl) ta0 (sq_c_10_2 ta0) rfl rfl ?_
    refine x_s (q := (.iload_n 1, 0, 0, 0)) (cod_18 rfl) rfl rfl rfl ?_
    refine x_s (q := (.iconst 0, 0, 0, 0)) (cod_18 rfl) rfl rfl rfl ?_
    obtain ⟨c3, H4⟩ := H2
    refine x_bast (cod_18 rfl) (sq_ac_10_2 ta0).s ((sq_ac_10_2 ta0).k c3.1 c3.2) (by decide) ?_
    have H6 := H4 _ rfl
    generalize umem m (a0 + 3) a1 0 = m5 at H6 ⊢
    refine x_aldn (cod_18 rfl) rfl (pos_of ta0 (by decide)) ?_
    refine x_gc (kk := 3) (c := (a0 + 4)) (t := 1) (cod_18 rfl) ta0 (sq_c_10_3 ta0) rfl rfl ?_
    refine x_s (q := (.iload_n 1, 0, 0, 0)) (cod_18 rfl) rfl rfl rfl ?_
    refine x_s (q := (.iconst 0, 0, 0, 0)) (cod_18 rfl) rfl rfl rfl ?_
    refine x_bast (cod_18 rfl) (sq_ac_10_3 ta0).s ((sq_ac_10_3 ta0).k c3.1 c3.2) (by decide) ?_
    have H8 := H6 _ rfl
    generalize umem m5 (a0 + 4) a1 0 = m7 at H8 ⊢
    refine x_aldn (cod_18 rfl) rfl (pos_of ta0 (by decide)) ?_
    refine x_gc (kk := 4) (c := (a0 + 5)) (t := 1) (cod_18 rfl) ta0 (sq_c_10_4 ta0) rfl rfl ?_
    refine x_s (q := (.iload_n 1, 0, 0, 0)) (cod_18 rfl) rfl rfl rfl ?_
    refine x_s (q := (.iconst 0, 0, 0, 0)) (cod_18 rfl) rfl rfl rfl ?_
    refine x_iast (cod_18 rfl) (sq_ac_10_4 ta0).s ((sq_ac_10_4 ta0).k c3.1 c3.2) ?_
    have H10 := H8 _ rfl
    generalize umem m7 (a0 + 5) a1 0 = m9 at H10 ⊢
    refine x_s (q := (.iinc 1 1, 0, 0, 0)) (cod_18 rfl) rfl rfl rfl ?_
    refine x_go (tgt := 29) (cod_18 rfl) (by decide) ?_
    exact H10
set_option maxRecDepth 100000 in
theorem w19_0 {m : Mm} {K : Mm → Prop}  
  (H : ((m 3 5) < (m 3 4) → (shp (m 3 3) = 0 ∧ slot (m 3 3) (m 3 5) = some none) ∧ (((m (m 3 3) (m 3 5)) = 10 ∨ (m (m 3 3) (m 3 5)) = 32) → ∀ m7, m7 = umem m 3 5 (wr ((m 3 5) + 1)) → X 19 0 [(1, 3)] [] m7 (qV K)) ∧ (¬ ((m (m 3 3) (m 3 5)) = 10 ∨ (m (m 3 3) (m 3 5)) = 32) → X 19 39 [(1, 3)] [] m (qV K))) ∧ (¬ (m 3 5) < (m 3 4) → X 19 39 [(1, 3)] [] m (qV K))) : X 19 0 [(1, 3)] [] m (qV K) := by
  refine x_s (q := (.aload_n 0, 0, 0, 0)) (cod_19 rfl) rfl rfl rfl ?_
  refine x_gf (kk := 5) (t := 0) (cod_19 rfl) sq_p_3 sq_l_3_5 rfl rfl ?_
  refine x_s (q := (.aload_n 0, 0, 0, 0)) (cod_19 rfl) rfl rfl rfl ?_
  refine x_gf (kk := 4) (t := 0) (cod_19 rfl) sq_p_3 sq_l_3_4 rfl rfl ?_
  refine x_ic (p := ¬ (m 3 5) < (m 3 4)) (tgt := 39) (cod_19 rfl) (by decide) xn_ge (fun h => ?_) (fun h => ?_)
  · have H1 := H.2 h
    exact H1
  · have H2 := H.1 (Classical.not_not.mp h)
    refine x_s (q := (.aload_n 0, 0, 0, 0)) (cod_19 rfl) rfl rfl rfl ?_
    refine x_gf (kk := 3) (t := 1) (cod_19 rfl) sq_p_3 sq_l_3_3 rfl rfl ?_
    refine x_s (q := (.aload_n 0, 0, 0, 0)) (cod_19 rfl) rfl rfl rfl ?_
    refine x_gf (kk := 5) (t := 0) (cod_19 rfl) sq_p_3 sq_l_3_5 rfl rfl ?_
    obtain ⟨c3, H4⟩ := H2
    refine x_iald (cod_19 rfl) c3.1 c3.2 ?_
    refine x_call (as := [(0, m (m 3 3) (m 3 5))]) (rest := []) (cod_19 rfl) rfl rfl (by decide) (by decide) rfl rfl (Nat.le_of_ble_eq_true rfl) rfl (Nat.le_of_ble_eq_true rfl) ?_
    refine x_pure (p20) ?_
    show X 19 23 [(1, 3)] [(0, bi ((m (m 3 3) (m 3 5)) = 10 ∨ (m (m 3 3) (m 3 5)) = 32))] m _
    refine x_if (p := ¬ ((m (m 3 3) (m 3 5)) = 10 ∨ (m (m 3 3) (m 3 5)) = 32)) (tgt := 39) (cod_19 rfl) (by decide) xb_eq (fun h => ?_) (fun h => ?_)
    · have H5 := H4.2 h
      exact H5
    · have H6 := H4.1 (Classical.not_not.mp h)
      refine x_s (q := (.aload_n 0, 0, 0, 0)) (cod_19 rfl) rfl rfl rfl ?_
      refine x_s (q := (.dup, 0, 0, 0)) (cod_19 rfl) rfl rfl rfl ?_
      refine x_gf (kk := 5) (t := 0) (cod_19 rfl) sq_p_3 sq_l_3_5 rfl rfl ?_
      refine x_s (q := (.iconst 1, 0, 0, 0)) (cod_19 rfl) rfl rfl rfl ?_
      refine x_s (q := (.iadd, 0, 0, 0)) (cod_19 rfl) rfl rfl rfl ?_
      refine x_pf (kk := 5) (t := 0) (cod_19 rfl) sq_p_3 sq_l_3_5 rfl rfl rfl ?_
      have H8 := H6 _ rfl
      generalize umem m 3 5 (wr ((m 3 5) + 1)) = m7 at H8 ⊢
      refine x_go (tgt := 0) (cod_19 rfl) (by decide) ?_
      exact H8
theorem e19 {m : Mm} {K : Mm → Prop}  
  (H : ((m 3 5) < (m 3 4) → (shp (m 3 3) = 0 ∧ slot (m 3 3) (m 3 5) = some none) ∧ (((m (m 3 3) (m 3 5)) = 10 ∨ (m (m 3 3) (m 3 5)) = 32) → ∀ m7, m7 = umem m 3 5 (wr ((m 3 5) + 1)) → X 19 0 [(1, 3)] [] m7 (qV K)) ∧ (¬ ((m (m 3 3) (m 3 5)) = 10 ∨ (m (m 3 3) (m 3 5)) = 32) → X 19 39 [(1, 3)] [] m (qV K))) ∧ (¬ (m 3 5) < (m 3 4) → X 19 39 [(1, 3)] [] m (qV K))) : TrV 19 [(1, 3)] m K := by
  exact w19_0  H
set_option maxRecDepth 100000 in
theorem w19_39 {m : Mm} {K : Mm → Prop}  
  (H : ∀ m1, m1 = umem m 3 7 (m 3 5) → ∀ m3, m3 = umem m1 3 8 0 → ∀ m5, m5 = umem m3 3 9 0 → ((m5 3 5) < (m5 3 4) → (shp (m5 3 3) = 0 ∧ slot (m5 3 3) (m5 3 5) = some none) ∧ ((97 ≤ (m5 (m5 3 3) (m5 3 5)) ∧ (m5 (m5 3 3) (m5 3 5)) ≤ 122) → TrV 22 [(1, 3)] m5 fun m23 => K m23) ∧ (¬ (97 ≤ (m5 (m5 3 3) (m5 3 5)) ∧ (m5 (m5 3 3) (m5 3 5)) ≤ 122) → (shp (m5 3 3) = 0 ∧ slot (m5 3 3) (m5 3 5) = some none) ∧ ((48 ≤ (m5 (m5 3 3) (m5 3 5)) ∧ (m5 (m5 3 3) (m5 3 5)) ≤ 57) → TrV 30 [(1, 3)] m5 fun m21 => K m21) ∧ (¬ (48 ≤ (m5 (m5 3 3) (m5 3 5)) ∧ (m5 (m5 3 3) (m5 3 5)) ≤ 57) → (shp (m5 3 3) = 0 ∧ slot (m5 3 3) (m5 3 5) = some none) ∧ TrV 31 [(1, 3), (0, m5 (m5 3 3) (m5 3 5))] m5 fun m19 => K m19))) ∧ (¬ (m5 3 5) < (m5 3 4) → ∀ m25, m25 = umem m5 3 6 0 → K m25)) : X 19 39 [(1, 3)] [] m (qV K) := by
  refine x_s (q := (.aload_n 0, 0, 0, 0)) (cod_19 rfl) rfl rfl rfl ?_
  refine x_s (q := (.aload_n 0, 0, 0, 0)) (cod_19 rfl) rfl rfl rfl ?_
  refine x_gf (kk := 5) (t := 0) (cod_19 rfl) sq_p_3 sq_l_3_5 rfl rfl ?_
  refine x_pf (kk := 7) (t := 0) (cod_19 rfl) sq_p_3 sq_l_3_7 rfl rfl rfl ?_
  have H2 := H _ rfl
  generalize umem m 3 7 (m 3 5) = m1 at H2 ⊢
  refine x_s (q := (.aload_n 0, 0, 0, 0)) (cod_19 rfl) rfl rfl rfl ?_
  refine x_s (q := (.iconst 0, 0, 0, 0)) (cod_19 rfl) rfl rfl rfl ?_
  refine x_pf (kk := 8) (t := 0) (cod_19 rfl) sq_p_3 sq_l_3_8 rfl rfl rfl ?_
  have H4 := H2 _ rfl
  generalize umem m1 3 8 0 = m3 at H4 ⊢
  refine x_s (q := (.aload_n 0, 0, 0, 0)) (cod_19 rfl) rfl rfl rfl ?_
  refine x_s (q := (.iconst 0, 0, 0, 0)) (cod_19 rfl) rfl rfl rfl ?_
  refine x_pf (kk := 9) (t := 0) (cod_19 rfl) sq_p_3 sq_l_3_9 rfl rfl rfl ?_
  have H6 := H4 _ rfl
  generalize umem m3 3 9 0 = m5 at H6 ⊢
  refine x_s (q := (.aload_n 0, 0, 0, 0)) (cod_19 rfl) rfl rfl rfl ?_
  refine x_gf (kk := 5) (t := 0) (cod_19 rfl) sq_p_3 sq_l_3_5 rfl rfl ?_
  refine x_s (q := (.aload_n 0, 0, 0, 0)) (cod_19 rfl) rfl rfl rfl ?_
  refine x_gf (kk := 4) (t := 0) (cod_19 rfl) sq_p_3 sq_l_3_4 rfl rfl ?_
  refine x_ic (p := (m5 3 5) < (m5 3 4)) (tgt := 76) (cod_19 rfl) (by decide) xj_lt (fun h => ?_) (fun h => ?_)
  · have H7 := H6.1 h
    refine x_s (q := (.aload_n 0, 0, 0, 0)) (cod_19 rfl) rfl rfl rfl ?_
    refine x_gf (kk := 3) (t := 1) (cod_19 rfl) sq_p_3 sq_l_3_3 rfl rfl ?_
    refine x_s (q := (.aload_n 0, 0, 0, 0)) (cod_19 rfl) rfl rfl rfl ?_
    refine x_gf (kk := 5) (t := 0) (cod_19 rfl) sq_p_3 sq_l_3_5 rfl rfl ?_
    obtain ⟨c9, H10⟩ := H7
    refine x_iald (cod_19 rfl) c9.1 c9.2 ?_
    refine x_call (as := [(0, m5 (m5 3 3) (m5 3 5))]) (rest := []) (cod_19 rfl) rfl rfl (by decide) (by decide) rfl rfl (Nat.le_of_ble_eq_true rfl) rfl (Nat.le_of_ble_eq_true rfl) ?_
    refine x_pure (p21) ?_
    show X 19 88 [(1, 3)] [(0, bi (97 ≤ (m5 (m5 3 3) (m5 3 5)) ∧ (m5 (m5 3 3) (m5 3 5)) ≤ 122))] m5 _
    refine x_if (p := ¬ (97 ≤ (m5 (m5 3 3) (m5 3 5)) ∧ (m5 (m5 3 3) (m5 3 5)) ≤ 122)) (tgt := 98) (cod_19 rfl) (by decide) xb_eq (fun h => ?_) (fun h => ?_)
    · have H11 := H10.2 h
      refine x_s (q := (.aload_n 0, 0, 0, 0)) (cod_19 rfl) rfl rfl rfl ?_
      refine x_gf (kk := 3) (t := 1) (cod_19 rfl) sq_p_3 sq_l_3_3 rfl rfl ?_
      refine x_s (q := (.aload_n 0, 0, 0, 0)) (cod_19 rfl) rfl rfl rfl ?_
      refine x_gf (kk := 5) (t := 0) (cod_19 rfl) sq_p_3 sq_l_3_5 rfl rfl ?_
      obtain ⟨c13, H14⟩ := H11
      refine x_iald (cod_19 rfl) c13.1 c13.2 ?_
      refine x_call (as := [(0, m5 (m5 3 3) (m5 3 5))]) (rest := []) (cod_19 rfl) rfl rfl (by decide) (by decide) rfl rfl (Nat.le_of_ble_eq_true rfl) rfl (Nat.le_of_ble_eq_true rfl) ?_
      refine x_pure (p29) ?_
      show X 19 110 [(1, 3)] [(0, bi (48 ≤ (m5 (m5 3 3) (m5 3 5)) ∧ (m5 (m5 3 3) (m5 3 5)) ≤ 57))] m5 _
      refine x_if (p := ¬ (48 ≤ (m5 (m5 3 3) (m5 3 5)) ∧ (m5 (m5 3 3) (m5 3 5)) ≤ 57)) (tgt := 120) (cod_19 rfl) (by decide) xb_eq (fun h => ?_) (fun h => ?_)
      · have H15 := H14.2 h
        refine x_s (q := (.aload_n 0, 0, 0, 0)) (cod_19 rfl) rfl rfl rfl ?_
        refine x_s (q := (.aload_n 0, 0, 0, 0)) (cod_19 rfl) rfl rfl rfl ?_
        refine x_gf (kk := 3) (t := 1) (cod_19 rfl) sq_p_3 sq_l_3_3 rfl rfl ?_
        refine x_s (q := (.aload_n 0, 0, 0, 0)) (cod_19 rfl) rfl rfl rfl ?_
        refine x_gf (kk := 5) (t := 0) (cod_19 rfl) sq_p_3 sq_l_3_5 rfl rfl ?_
        obtain ⟨c17, H18⟩ := H15
        refine x_iald (cod_19 rfl) c17.1 c17.2 ?_
        refine x_call (as := [(1, 3), (0, m5 (m5 3 3) (m5 3 5))]) (rest := []) (cod_19 rfl) rfl rfl (by decide) (by decide) rfl rfl (Nat.le_of_ble_eq_true rfl) (rcv0 sq_l_3_0 sq_p_3 (by decide)) (Nat.le_of_ble_eq_true rfl) ?_
        refine X.imp H18 ?_
        rintro _ m19 ⟨rfl, H20⟩
        show X 19 133 [(1, 3)] [] m19 _
        refine x_retV (cod_19 rfl) rfl ?_
        exact H20
      · have H16 := H14.1 (Classical.not_not.mp h)
        refine x_s (q := (.aload_n 0, 0, 0, 0)) (cod_19 rfl) rfl rfl rfl ?_
        refine x_call (as := [(1, 3)]) (rest := []) (cod_19 rfl) rfl rfl (by decide) (by decide) rfl rfl (Nat.le_of_ble_eq_true rfl) (rcv0 sq_l_3_0 sq_p_3 (by decide)) (Nat.le_of_ble_eq_true rfl) ?_
        refine X.imp H16 ?_
        rintro _ m21 ⟨rfl, H22⟩
        show X 19 117 [(1, 3)] [] m21 _
        refine x_go (tgt := 133) (cod_19 rfl) (by decide) ?_
        refine x_retV (cod_19 rfl) rfl ?_
        exact H22
    · have H12 := H10.1 (Classical.not_not.mp h)
      refine x_s (q := (.aload_n 0, 0, 0, 0)) (cod_19 rfl) rfl rfl rfl ?_
      refine x_call (as := [(1, 3)]) (rest := []) (cod_19 rfl) rfl rfl (by decide) (by decide) rfl rfl (Nat.le_of_ble_eq_true rfl) (rcv0 sq_l_3_0 sq_p_3 (by decide)) (Nat.le_of_ble_eq_true rfl) ?_
      refine X.imp H12 ?_
      rintro _ m23 ⟨rfl, H24⟩
      show X 19 95 [(1, 3)] [] m23 _
      refine x_go (tgt := 133) (cod_19 rfl) (by decide) ?_
      refine x_retV (cod_19 rfl) rfl ?_
      exact H24
  · have H8 := H6.2 h
    refine x_s (q := (.aload_n 0, 0, 0, 0)) (cod_19 rfl) rfl rfl rfl ?_
    refine x_s (q := (.iconst 0, 0, 0, 0)) (cod_19 rfl) rfl rfl rfl ?_
    refine x_pf (kk := 6) (t := 0) (cod_19 rfl) sq_p_3 sq_l_3_6 rfl rfl rfl ?_
    have H26 := H8 _ rfl
    generalize umem m5 3 6 0 = m25 at H26 ⊢
    refine x_go (tgt := 133) (cod_19 rfl) (by decide) ?_
    refine x_retV (cod_19 rfl) rfl ?_
    exact H26
set_option maxRecDepth 100000 in
theorem w22_0 {m : Mm} {K : Mm → Prop}  
  (H : ((m 3 5) < (m 3 4) → (shp (m 3 3) = 0 ∧ slot (m 3 3) (m 3 5) = some none) ∧ ((97 ≤ (m (m 3 3) (m 3 5)) ∧ (m (m 3 3) (m 3 5)) ≤ 122) → ∀ m7, m7 = umem m 3 5 (wr ((m 3 5) + 1)) → X 22 0 [(1, 3)] [] m7 (qV K)) ∧ (¬ (97 ≤ (m (m 3 3) (m 3 5)) ∧ (m (m 3 3) (m 3 5)) ≤ 122) → X 22 39 [(1, 3)] [] m (qV K))) ∧ (¬ (m 3 5) < (m 3 4) → X 22 39 [(1, 3)] [] m (qV K))) : X 22 0 [(1, 3)] [] m (qV K) := by
  refine x_s (q := (.aload_n 0, 0, 0, 0)) (cod_22 rfl) rfl rfl rfl ?_
  refine x_gf (kk := 5) (t := 0) (cod_22 rfl) sq_p_3 sq_l_3_5 rfl rfl ?_
  refine x_s (q := (.aload_n 0, 0, 0, 0)) (cod_22 rfl) rfl rfl rfl ?_
  refine x_gf (kk := 4) (t := 0) (cod_22 rfl) sq_p_3 sq_l_3_4 rfl rfl ?_
  refine x_ic (p := ¬ (m 3 5) < (m 3 4)) (tgt := 39) (cod_22 rfl) (by decide) xn_ge (fun h => ?_) (fun h => ?_)
  · have H1 := H.2 h
    exact H1
  · have H2 := H.1 (Classical.not_not.mp h)
    refine x_s (q := (.aload_n 0, 0, 0, 0)) (cod_22 rfl) rfl rfl rfl ?_
    refine x_gf (kk := 3) (t := 1) (cod_22 rfl) sq_p_3 sq_l_3_3 rfl rfl ?_
    refine x_s (q := (.aload_n 0, 0, 0, 0)) (cod_22 rfl) rfl rfl rfl ?_
    refine x_gf (kk := 5) (t := 0) (cod_22 rfl) sq_p_3 sq_l_3_5 rfl rfl ?_
    obtain ⟨c3, H4⟩ := H2
    refine x_iald (cod_22 rfl) c3.1 c3.2 ?_
    refine x_call (as := [(0, m (m 3 3) (m 3 5))]) (rest := []) (cod_22 rfl) rfl rfl (by decide) (by decide) rfl rfl (Nat.le_of_ble_eq_true rfl) rfl (Nat.le_of_ble_eq_true rfl) ?_
    refine x_pure (p21) ?_
    show X 22 23 [(1, 3)] [(0, bi (97 ≤ (m (m 3 3) (m 3 5)) ∧ (m (m 3 3) (m 3 5)) ≤ 122))] m _
    refine x_if (p := ¬ (97 ≤ (m (m 3 3) (m 3 5)) ∧ (m (m 3 3) (m 3 5)) ≤ 122)) (tgt := 39) (cod_22 rfl) (by decide) xb_eq (fun h => ?_) (fun h => ?_)
    · have H5 := H4.2 h
      exact H5
    · have H6 := H4.1 (Classical.not_not.mp h)
      refine x_s (q := (.aload_n 0, 0, 0, 0)) (cod_22 rfl) rfl rfl rfl ?_
      refine x_s (q := (.dup, 0, 0, 0)) (cod_22 rfl) rfl rfl rfl ?_
      refine x_gf (kk := 5) (t := 0) (cod_22 rfl) sq_p_3 sq_l_3_5 rfl rfl ?_
      refine x_s (q := (.iconst 1, 0, 0, 0)) (cod_22 rfl) rfl rfl rfl ?_
      refine x_s (q := (.iadd, 0, 0, 0)) (cod_22 rfl) rfl rfl rfl ?_
      refine x_pf (kk := 5) (t := 0) (cod_22 rfl) sq_p_3 sq_l_3_5 rfl rfl rfl ?_
      have H8 := H6 _ rfl
      generalize umem m 3 5 (wr ((m 3 5) + 1)) = m7 at H8 ⊢
      refine x_go (tgt := 0) (cod_22 rfl) (by decide) ?_
      exact H8
theorem e22 {m : Mm} {K : Mm → Prop}  
  (H : ((m 3 5) < (m 3 4) → (shp (m 3 3) = 0 ∧ slot (m 3 3) (m 3 5) = some none) ∧ ((97 ≤ (m (m 3 3) (m 3 5)) ∧ (m (m 3 3) (m 3 5)) ≤ 122) → ∀ m7, m7 = umem m 3 5 (wr ((m 3 5) + 1)) → X 22 0 [(1, 3)] [] m7 (qV K)) ∧ (¬ (97 ≤ (m (m 3 3) (m 3 5)) ∧ (m (m 3 3) (m 3 5)) ≤ 122) → X 22 39 [(1, 3)] [] m (qV K))) ∧ (¬ (m 3 5) < (m 3 4) → X 22 39 [(1, 3)] [] m (qV K))) : TrV 22 [(1, 3)] m K := by
  exact w22_0  H
set_option maxRecDepth 100000 in
theorem w22_39 {m : Mm} {K : Mm → Prop}  
  (H : ∀ m1, m1 = umem m 3 8 (wr ((m 3 5) - (m 3 7))) → TrI 23 [(1, 3)] m1 fun v5 m3 => ∀ m6, m6 = umem m3 3 9 v5 → ((m6 3 9) < 0 → ∀ m10, m10 = umem m6 3 6 2 → K m10) ∧ (¬ (m6 3 9) < 0 → ∀ m12, m12 = umem m6 3 6 1 → K m12)) : X 22 39 [(1, 3)] [] m (qV K) := by
  refine x_s (q := (.aload_n 0, 0, 0, 0)) (cod_22 rfl) rfl rfl rfl ?_
  refine x_s (q := (.aload_n 0, 0, 0, 0)) (cod_22 rfl) rfl rfl rfl ?_
  refine x_gf (kk := 5) (t := 0) (cod_22 rfl) sq_p_3 sq_l_3_5 rfl rfl ?_
  refine x_s (q := (.aload_n 0, 0, 0, 0)) (cod_22 rfl) rfl rfl rfl ?_
  refine x_gf (kk := 7) (t := 0) (cod_22 rfl) sq_p_3 sq_l_3_7 rfl rfl ?_
  refine x_s (q := (.isub, 0, 0, 0)) (cod_22 rfl) rfl rfl rfl ?_
  refine x_pf (kk := 8) (t := 0) (cod_22 rfl) sq_p_3 sq_l_3_8 rfl rfl rfl ?_
  have H2 := H _ rfl
  generalize umem m 3 8 (wr ((m 3 5) - (m 3 7))) = m1 at H2 ⊢
  refine x_s (q := (.aload_n 0, 0, 0, 0)) (cod_22 rfl) rfl rfl rfl ?_
  refine x_s (q := (.aload_n 0, 0, 0, 0)) (cod_22 rfl) rfl rfl rfl ?_
  refine x_call (as := [(1, 3)]) (rest := [(1, 3)]) (cod_22 rfl) rfl rfl (by decide) (by decide) rfl rfl (Nat.le_of_ble_eq_true rfl) (rcv0 sq_l_3_0 sq_p_3 (by decide)) (Nat.le_of_ble_eq_true rfl) ?_
  refine X.imp H2 ?_
  rintro _ m3 ⟨v5, rfl, H4⟩
  show X 22 57 [(1, 3)] [(0, v5), (1, 3)] m3 _
  refine x_pf (kk := 9) (t := 0) (cod_22 rfl) sq_p_3 sq_l_3_9 rfl rfl rfl ?_
  have H7 := H4 _ rfl
  generalize umem m3 3 9 v5 = m6 at H7 ⊢
  refine x_s (q := (.aload_n 0, 0, 0, 0)) (cod_22 rfl) rfl rfl rfl ?_
  refine x_s (q := (.aload_n 0, 0, 0, 0)) (cod_22 rfl) rfl rfl rfl ?_
  refine x_gf (kk := 9) (t := 0) (cod_22 rfl) sq_p_3 sq_l_3_9 rfl rfl ?_
  refine x_if (p := (m6 3 9) < 0) (tgt := 72) (cod_22 rfl) (by decide) xj_lt (fun h => ?_) (fun h => ?_)
  · have H8 := H7.1 h
    refine x_s (q := (.iconst 2, 0, 0, 0)) (cod_22 rfl) rfl rfl rfl ?_
    refine x_pf (kk := 6) (t := 0) (cod_22 rfl) sq_p_3 sq_l_3_6 rfl rfl rfl ?_
    have H11 := H8 _ rfl
    generalize umem m6 3 6 2 = m10 at H11 ⊢
    refine x_retV (cod_22 rfl) rfl ?_
    exact H11
  · have H9 := H7.2 h
    refine x_s (q := (.iconst 1, 0, 0, 0)) (cod_22 rfl) rfl rfl rfl ?_
    refine x_go (tgt := 73) (cod_22 rfl) (by decide) ?_
    refine x_pf (kk := 6) (t := 0) (cod_22 rfl) sq_p_3 sq_l_3_6 rfl rfl rfl ?_
    have H13 := H9 _ rfl
    generalize umem m6 3 6 1 = m12 at H13 ⊢
    refine x_retV (cod_22 rfl) rfl ?_
    exact H13
set_option maxRecDepth 100000 in
theorem w23_0 {m : Mm} {K : Int → Mm → Prop}  
  (H : ((m 3 8) < 8 → X 23 13 [(1, 3), (0, 0), (9, 0)] [] m (qI K)) ∧ (¬ (m 3 8) < 8 → K (-1) m)) : X 23 0 [(1, 3), (9, 0), (9, 0)] [] m (qI K) := by
  refine x_s (q := (.aload_n 0, 0, 0, 0)) (cod_23 rfl) rfl rfl rfl ?_
  refine x_gf (kk := 8) (t := 0) (cod_23 rfl) sq_p_3 sq_l_3_8 rfl rfl ?_
  refine x_s (q := (.bipush 8, 0, 0, 0)) (cod_23 rfl) rfl rfl rfl ?_
  refine x_ic (p := (m 3 8) < 8) (tgt := 11) (cod_23 rfl) (by decide) xj_lt (fun h => ?_) (fun h => ?_)
  · have H1 := H.1 h
    refine x_s (q := (.iconst 0, 0, 0, 0)) (cod_23 rfl) rfl rfl rfl ?_
    refine x_s (q := (.istore_n 1, 0, 0, 0)) (cod_23 rfl) rfl rfl rfl ?_
    exact H1
  · have H2 := H.2 h
    refine x_s (q := (.iconst (-1), 0, 0, 0)) (cod_23 rfl) rfl rfl rfl ?_
    refine x_retI (t := .int) (cod_23 rfl) rfl rfl rfl ?_
    exact H2
theorem e23 {m : Mm} {K : Int → Mm → Prop}  
  (H : ((m 3 8) < 8 → X 23 13 [(1, 3), (0, 0), (9, 0)] [] m (qI K)) ∧ (¬ (m 3 8) < 8 → K (-1) m)) : TrI 23 [(1, 3)] m K := by
  exact w23_0  H
set_option maxRecDepth 100000 in
theorem w23_13 {m : Mm} {K : Int → Mm → Prop} (a1 : Int) (ua2 : aV) 
  (H : (a1 < 18 → X 23 21 [(1, 3), (0, a1), (0, 0)] [] m (qI K)) ∧ (¬ a1 < 18 → K (-1) m)) : X 23 13 [(1, 3), (0, a1), ua2] [] m (qI K) := by
  refine x_s (q := (.iload_n 1, 0, 0, 0)) (cod_23 rfl) rfl rfl rfl ?_
  refine x_s (q := (.bipush 18, 0, 0, 0)) (cod_23 rfl) rfl rfl rfl ?_
  refine x_ic (p := ¬ a1 < 18) (tgt := 92) (cod_23 rfl) (by decide) xn_ge (fun h => ?_) (fun h => ?_)
  · have H1 := H.2 h
    refine x_s (q := (.iconst (-1), 0, 0, 0)) (cod_23 rfl) rfl rfl rfl ?_
    refine x_retI (t := .int) (cod_23 rfl) rfl rfl rfl ?_
    exact H1
  · have H2 := H.1 (Classical.not_not.mp h)
    refine x_s (q := (.iconst 0, 0, 0, 0)) (cod_23 rfl) rfl rfl rfl ?_
    refine x_s (q := (.istore_n 2, 0, 0, 0)) (cod_23 rfl) rfl rfl rfl ?_
    exact H2
set_option maxRecDepth 100000 in
theorem w23_21 {m : Mm} {K : Int → Mm → Prop} (a1 : Int) (a2 : Int) 
  (H : (a2 < (m 3 8) → TrI 24 [(4, 1), (0, wr ((wr (a1 * 8)) + a2))] m fun v5 m3 => (shp (m3 3 3) = 0 ∧ slot (m3 3 3) (wr ((m3 3 7) + a2)) = some none) ∧ (v5 = (m3 (m3 3 3) (wr ((m3 3 7) + a2))) → X 23 21 [(1, 3), (0, a1), (0, wr (a2 + 1))] [] m3 (qI K)) ∧ (¬ v5 = (m3 (m3 3 3) (wr ((m3 3 7) + a2))) → X 23 60 [(1, 3), (0, a1), (0, a2)] [] m3 (qI K))) ∧ (¬ a2 < (m 3 8) → X 23 60 [(1, 3), (0, a1), (0, a2)] [] m (qI K))) : X 23 21 [(1, 3), (0, a1), (0, a2)] [] m (qI K) := by
  refine x_s (q := (.iload_n 2, 0, 0, 0)) (cod_23 rfl) rfl rfl rfl ?_
  refine x_s (q := (.aload_n 0, 0, 0, 0)) (cod_23 rfl) rfl rfl rfl ?_
  refine x_gf (kk := 8) (t := 0) (cod_23 rfl) sq_p_3 sq_l_3_8 rfl rfl ?_
  refine x_ic (p := ¬ a2 < (m 3 8)) (tgt := 60) (cod_23 rfl) (by decide) xn_ge (fun h => ?_) (fun h => ?_)
  · have H1 := H.2 h
    exact H1
  · have H2 := H.1 (Classical.not_not.mp h)
    refine x_s (q := (.ldc 120, 1, 4, 0)) (cod_23 rfl) rfl rfl rfl ?_
    refine x_s (q := (.iload_n 1, 0, 0, 0)) (cod_23 rfl) rfl rfl rfl ?_
    refine x_s (q := (.bipush 8, 0, 0, 0)) (cod_23 rfl) rfl rfl rfl ?_
    refine x_s (q := (.imul, 0, 0, 0)) (cod_23 rfl) rfl rfl rfl ?_
    refine x_s (q := (.iload_n 2, 0, 0, 0)) (cod_23 rfl) rfl rfl rfl ?_
    refine x_s (q := (.iadd, 0, 0, 0)) (cod_23 rfl) rfl rfl rfl ?_
    refine x_call (as := [(4, 1), (0, wr ((wr (a1 * 8)) + a2))]) (rest := []) (cod_23 rfl) rfl rfl (by decide) (by decide) rfl rfl (Nat.le_of_ble_eq_true rfl) rfl (Nat.le_of_ble_eq_true rfl) ?_
    refine X.imp H2 ?_
    rintro _ m3 ⟨v5, rfl, H4⟩
    show X 23 40 [(1, 3), (0, a1), (0, a2)] [(0, v5)] m3 _
    refine x_s (q := (.aload_n 0, 0, 0, 0)) (cod_23 rfl) rfl rfl rfl ?_
    refine x_gf (kk := 3) (t := 1) (cod_23 rfl) sq_p_3 sq_l_3_3 rfl rfl ?_
    refine x_s (q := (.aload_n 0, 0, 0, 0)) (cod_23 rfl) rfl rfl rfl ?_
    refine x_gf (kk := 7) (t := 0) (cod_23 rfl) sq_p_3 sq_l_3_7 rfl rfl ?_
    refine x_s (q := (.iload_n 2, 0, 0, 0)) (cod_23 rfl) rfl rfl rfl ?_
    refine x_s (q := (.iadd, 0, 0, 0)) (cod_23 rfl) rfl rfl rfl ?_
    obtain ⟨c6, H7⟩ := H4
    refine x_iald (cod_23 rfl) c6.1 c6.2 ?_
    refine x_ic (p := ¬ v5 = (m3 (m3 3 3) (wr ((m3 3 7) + a2)))) (tgt := 60) (cod_23 rfl) (by decide) xj_ne (fun h => ?_) (fun h => ?_)
    · have H8 := H7.2 h
      exact H8
    · have H9 := H7.1 (Classical.not_not.mp h)
      refine x_s (q := (.iinc 2 1, 0, 0, 0)) (cod_23 rfl) rfl rfl rfl ?_
      refine x_go (tgt := 21) (cod_23 rfl) (by decide) ?_
      exact H9
set_option maxRecDepth 100000 in
theorem w23_60 {m : Mm} {K : Int → Mm → Prop} (a1 : Int) (a2 : Int) 
  (H : (a2 = (m 3 8) → TrI 24 [(4, 1), (0, wr ((wr (a1 * 8)) + a2))] m fun v5 m3 => (v5 = 32 → K a1 m3) ∧ (¬ v5 = 32 → X 23 13 [(1, 3), (0, wr (a1 + 1)), (0, a2)] [] m3 (qI K))) ∧ (¬ a2 = (m 3 8) → X 23 13 [(1, 3), (0, wr (a1 + 1)), (0, a2)] [] m (qI K))) : X 23 60 [(1, 3), (0, a1), (0, a2)] [] m (qI K) := by
  refine x_s (q := (.iload_n 2, 0, 0, 0)) (cod_23 rfl) rfl rfl rfl ?_
  refine x_s (q := (.aload_n 0, 0, 0, 0)) (cod_23 rfl) rfl rfl rfl ?_
  refine x_gf (kk := 8) (t := 0) (cod_23 rfl) sq_p_3 sq_l_3_8 rfl rfl ?_
  refine x_ic (p := ¬ a2 = (m 3 8)) (tgt := 86) (cod_23 rfl) (by decide) xj_ne (fun h => ?_) (fun h => ?_)
  · have H1 := H.2 h
    refine x_s (q := (.iinc 1 1, 0, 0, 0)) (cod_23 rfl) rfl rfl rfl ?_
    refine x_go (tgt := 13) (cod_23 rfl) (by decide) ?_
    exact H1
  · have H2 := H.1 (Classical.not_not.mp h)
    refine x_s (q := (.ldc 120, 1, 4, 0)) (cod_23 rfl) rfl rfl rfl ?_
    refine x_s (q := (.iload_n 1, 0, 0, 0)) (cod_23 rfl) rfl rfl rfl ?_
    refine x_s (q := (.bipush 8, 0, 0, 0)) (cod_23 rfl) rfl rfl rfl ?_
    refine x_s (q := (.imul, 0, 0, 0)) (cod_23 rfl) rfl rfl rfl ?_
    refine x_s (q := (.iload_n 2, 0, 0, 0)) (cod_23 rfl) rfl rfl rfl ?_
    refine x_s (q := (.iadd, 0, 0, 0)) (cod_23 rfl) rfl rfl rfl ?_
    refine x_call (as := [(4, 1), (0, wr ((wr (a1 * 8)) + a2))]) (rest := []) (cod_23 rfl) rfl rfl (by decide) (by decide) rfl rfl (Nat.le_of_ble_eq_true rfl) rfl (Nat.le_of_ble_eq_true rfl) ?_
    refine X.imp H2 ?_
    rintro _ m3 ⟨v5, rfl, H4⟩
    show X 23 79 [(1, 3), (0, a1), (0, a2)] [(0, v5)] m3 _
    refine x_s (q := (.bipush 32, 0, 0, 0)) (cod_23 rfl) rfl rfl rfl ?_
    refine x_ic (p := ¬ v5 = 32) (tgt := 86) (cod_23 rfl) (by decide) xj_ne (fun h => ?_) (fun h => ?_)
    · have H6 := H4.2 h
      refine x_s (q := (.iinc 1 1, 0, 0, 0)) (cod_23 rfl) rfl rfl rfl ?_
      refine x_go (tgt := 13) (cod_23 rfl) (by decide) ?_
      exact H6
    · have H7 := H4.1 (Classical.not_not.mp h)
      refine x_s (q := (.iload_n 1, 0, 0, 0)) (cod_23 rfl) rfl rfl rfl ?_
      refine x_retI (t := .int) (cod_23 rfl) rfl rfl rfl ?_
      exact H7
set_option maxRecDepth 100000 in
theorem w30_0 {m : Mm} {K : Mm → Prop}  
  (H : ((m 3 5) < (m 3 4) → (shp (m 3 3) = 0 ∧ slot (m 3 3) (m 3 5) = some none) ∧ ((48 ≤ (m (m 3 3) (m 3 5)) ∧ (m (m 3 3) (m 3 5)) ≤ 57) → (shp (m 3 3) = 0 ∧ slot (m 3 3) (m 3 5) = some none) ∧ ∀ m13, m13 = umem m 3 9 (min 1000000 (wr ((wr ((wr ((m 3 9) * 10)) + (m (m 3 3) (m 3 5)))) - 48))) → ∀ m15, m15 = umem m13 3 5 (wr ((m13 3 5) + 1)) → X 30 0 [(1, 3)] [] m15 (qV K)) ∧ (¬ (48 ≤ (m (m 3 3) (m 3 5)) ∧ (m (m 3 3) (m 3 5)) ≤ 57) → ∀ m9, m9 = umem m 3 6 3 → K m9)) ∧ (¬ (m 3 5) < (m 3 4) → ∀ m3, m3 = umem m 3 6 3 → K m3)) : X 30 0 [(1, 3)] [] m (qV K) := by
  refine x_s (q := (.aload_n 0, 0, 0, 0)) (cod_30 rfl) rfl rfl rfl ?_
  refine x_gf (kk := 5) (t := 0) (cod_30 rfl) sq_p_3 sq_l_3_5 rfl rfl ?_
  refine x_s (q := (.aload_n 0, 0, 0, 0)) (cod_30 rfl) rfl rfl rfl ?_
  refine x_gf (kk := 4) (t := 0) (cod_30 rfl) sq_p_3 sq_l_3_4 rfl rfl ?_
  refine x_ic (p := ¬ (m 3 5) < (m 3 4)) (tgt := 68) (cod_30 rfl) (by decide) xn_ge (fun h => ?_) (fun h => ?_)
  · have H1 := H.2 h
    refine x_s (q := (.aload_n 0, 0, 0, 0)) (cod_30 rfl) rfl rfl rfl ?_
    refine x_s (q := (.iconst 3, 0, 0, 0)) (cod_30 rfl) rfl rfl rfl ?_
    refine x_pf (kk := 6) (t := 0) (cod_30 rfl) sq_p_3 sq_l_3_6 rfl rfl rfl ?_
    have H4 := H1 _ rfl
    generalize umem m 3 6 3 = m3 at H4 ⊢
    refine x_retV (cod_30 rfl) rfl ?_
    exact H4
  · have H2 := H.1 (Classical.not_not.mp h)
    refine x_s (q := (.aload_n 0, 0, 0, 0)) (cod_30 rfl) rfl rfl rfl ?_
    refine x_gf (kk := 3) (t := 1) (cod_30 rfl) sq_p_3 sq_l_3_3 rfl rfl ?_
    refine x_s (q := (.aload_n 0, 0, 0, 0)) (cod_30 rfl) rfl rfl rfl ?_
    refine x_gf (kk := 5) (t := 0) (cod_30 rfl) sq_p_3 sq_l_3_5 rfl rfl ?_
    obtain ⟨c5, H6⟩ := H2
    refine x_iald (cod_30 rfl) c5.1 c5.2 ?_
    refine x_call (as := [(0, m (m 3 3) (m 3 5))]) (rest := []) (cod_30 rfl) rfl rfl (by decide) (by decide) rfl rfl (Nat.le_of_ble_eq_true rfl) rfl (Nat.le_of_ble_eq_true rfl) ?_
    refine x_pure (p29) ?_
    show X 30 23 [(1, 3)] [(0, bi (48 ≤ (m (m 3 3) (m 3 5)) ∧ (m (m 3 3) (m 3 5)) ≤ 57))] m _
    refine x_if (p := ¬ (48 ≤ (m (m 3 3) (m 3 5)) ∧ (m (m 3 3) (m 3 5)) ≤ 57)) (tgt := 68) (cod_30 rfl) (by decide) xb_eq (fun h => ?_) (fun h => ?_)
    · have H7 := H6.2 h
      refine x_s (q := (.aload_n 0, 0, 0, 0)) (cod_30 rfl) rfl rfl rfl ?_
      refine x_s (q := (.iconst 3, 0, 0, 0)) (cod_30 rfl) rfl rfl rfl ?_
      refine x_pf (kk := 6) (t := 0) (cod_30 rfl) sq_p_3 sq_l_3_6 rfl rfl rfl ?_
      have H10 := H7 _ rfl
      generalize umem m 3 6 3 = m9 at H10 ⊢
      refine x_retV (cod_30 rfl) rfl ?_
      exact H10
    · have H8 := H6.1 (Classical.not_not.mp h)
      refine x_s (q := (.aload_n 0, 0, 0, 0)) (cod_30 rfl) rfl rfl rfl ?_
      refine x_s (q := (.ldc 119, 1000000, 0, 0)) (cod_30 rfl) rfl rfl rfl ?_
      refine x_s (q := (.aload_n 0, 0, 0, 0)) (cod_30 rfl) rfl rfl rfl ?_
      refine x_gf (kk := 9) (t := 0) (cod_30 rfl) sq_p_3 sq_l_3_9 rfl rfl ?_
      refine x_s (q := (.bipush 10, 0, 0, 0)) (cod_30 rfl) rfl rfl rfl ?_
      refine x_s (q := (.imul, 0, 0, 0)) (cod_30 rfl) rfl rfl rfl ?_
      refine x_s (q := (.aload_n 0, 0, 0, 0)) (cod_30 rfl) rfl rfl rfl ?_
      refine x_gf (kk := 3) (t := 1) (cod_30 rfl) sq_p_3 sq_l_3_3 rfl rfl ?_
      refine x_s (q := (.aload_n 0, 0, 0, 0)) (cod_30 rfl) rfl rfl rfl ?_
      refine x_gf (kk := 5) (t := 0) (cod_30 rfl) sq_p_3 sq_l_3_5 rfl rfl ?_
      obtain ⟨c11, H12⟩ := H8
      refine x_iald (cod_30 rfl) c11.1 c11.2 ?_
      refine x_s (q := (.iadd, 0, 0, 0)) (cod_30 rfl) rfl rfl rfl ?_
      refine x_s (q := (.bipush 48, 0, 0, 0)) (cod_30 rfl) rfl rfl rfl ?_
      refine x_s (q := (.isub, 0, 0, 0)) (cod_30 rfl) rfl rfl rfl ?_
      refine x_m7 (cod_30 rfl) rfl rfl (Nat.le_of_ble_eq_true rfl) ?_
      refine x_pf (kk := 9) (t := 0) (cod_30 rfl) sq_p_3 sq_l_3_9 rfl rfl rfl ?_
      have H14 := H12 _ rfl
      generalize umem m 3 9 (min 1000000 (wr ((wr ((wr ((m 3 9) * 10)) + (m (m 3 3) (m 3 5)))) - 48))) = m13 at H14 ⊢
      refine x_s (q := (.aload_n 0, 0, 0, 0)) (cod_30 rfl) rfl rfl rfl ?_
      refine x_s (q := (.dup, 0, 0, 0)) (cod_30 rfl) rfl rfl rfl ?_
      refine x_gf (kk := 5) (t := 0) (cod_30 rfl) sq_p_3 sq_l_3_5 rfl rfl ?_
      refine x_s (q := (.iconst 1, 0, 0, 0)) (cod_30 rfl) rfl rfl rfl ?_
      refine x_s (q := (.iadd, 0, 0, 0)) (cod_30 rfl) rfl rfl rfl ?_
      refine x_pf (kk := 5) (t := 0) (cod_30 rfl) sq_p_3 sq_l_3_5 rfl rfl rfl ?_
      have H16 := H14 _ rfl
      generalize umem m13 3 5 (wr ((m13 3 5) + 1)) = m15 at H16 ⊢
      refine x_go (tgt := 0) (cod_30 rfl) (by decide) ?_
      exact H16
theorem e30 {m : Mm} {K : Mm → Prop}  
  (H : ((m 3 5) < (m 3 4) → (shp (m 3 3) = 0 ∧ slot (m 3 3) (m 3 5) = some none) ∧ ((48 ≤ (m (m 3 3) (m 3 5)) ∧ (m (m 3 3) (m 3 5)) ≤ 57) → (shp (m 3 3) = 0 ∧ slot (m 3 3) (m 3 5) = some none) ∧ ∀ m13, m13 = umem m 3 9 (min 1000000 (wr ((wr ((wr ((m 3 9) * 10)) + (m (m 3 3) (m 3 5)))) - 48))) → ∀ m15, m15 = umem m13 3 5 (wr ((m13 3 5) + 1)) → X 30 0 [(1, 3)] [] m15 (qV K)) ∧ (¬ (48 ≤ (m (m 3 3) (m 3 5)) ∧ (m (m 3 3) (m 3 5)) ≤ 57) → ∀ m9, m9 = umem m 3 6 3 → K m9)) ∧ (¬ (m 3 5) < (m 3 4) → ∀ m3, m3 = umem m 3 6 3 → K m3)) : TrV 30 [(1, 3)] m K := by
  exact w30_0  H
set_option maxRecDepth 100000 in
theorem w31_0 {m : Mm} {K : Mm → Prop} (a1 : Int) 
  (H : ∀ m1, m1 = umem m 3 5 (wr ((m 3 5) + 1)) → TrI 32 [(0, a1)] m1 fun v5 m3 => ∀ m6, m6 = umem m3 3 9 v5 → ((m6 3 9) < 0 → (a1 = 45 → ∀ m18, m18 = umem m6 3 6 5 → K m18) ∧ (¬ a1 = 45 → (a1 = 59 → ∀ m16, m16 = umem m6 3 6 6 → K m16) ∧ (¬ a1 = 59 → ∀ m14, m14 = umem m6 3 6 7 → K m14))) ∧ (¬ (m6 3 9) < 0 → ∀ m20, m20 = umem m6 3 6 4 → K m20)) : X 31 0 [(1, 3), (0, a1)] [] m (qV K) := by
  refine x_s (q := (.aload_n 0, 0, 0, 0)) (cod_31 rfl) rfl rfl rfl ?_
  refine x_s (q := (.dup, 0, 0, 0)) (cod_31 rfl) rfl rfl rfl ?_
  refine x_gf (kk := 5) (t := 0) (cod_31 rfl) sq_p_3 sq_l_3_5 rfl rfl ?_
  refine x_s (q := (.iconst 1, 0, 0, 0)) (cod_31 rfl) rfl rfl rfl ?_
  refine x_s (q := (.iadd, 0, 0, 0)) (cod_31 rfl) rfl rfl rfl ?_
  refine x_pf (kk := 5) (t := 0) (cod_31 rfl) sq_p_3 sq_l_3_5 rfl rfl rfl ?_
  have H2 := H _ rfl
  generalize umem m 3 5 (wr ((m 3 5) + 1)) = m1 at H2 ⊢
  refine x_s (q := (.aload_n 0, 0, 0, 0)) (cod_31 rfl) rfl rfl rfl ?_
  refine x_s (q := (.iload_n 1, 0, 0, 0)) (cod_31 rfl) rfl rfl rfl ?_
  refine x_call (as := [(0, a1)]) (rest := [(1, 3)]) (cod_31 rfl) rfl rfl (by decide) (by decide) rfl rfl (Nat.le_of_ble_eq_true rfl) rfl (Nat.le_of_ble_eq_true rfl) ?_
  refine X.imp H2 ?_
  rintro _ m3 ⟨v5, rfl, H4⟩
  show X 31 15 [(1, 3), (0, a1)] [(0, v5), (1, 3)] m3 _
  refine x_pf (kk := 9) (t := 0) (cod_31 rfl) sq_p_3 sq_l_3_9 rfl rfl rfl ?_
  have H7 := H4 _ rfl
  generalize umem m3 3 9 v5 = m6 at H7 ⊢
  refine x_s (q := (.aload_n 0, 0, 0, 0)) (cod_31 rfl) rfl rfl rfl ?_
  refine x_gf (kk := 9) (t := 0) (cod_31 rfl) sq_p_3 sq_l_3_9 rfl rfl ?_
  refine x_if (p := (m6 3 9) < 0) (tgt := 33) (cod_31 rfl) (by decide) xj_lt (fun h => ?_) (fun h => ?_)
  · have H8 := H7.1 h
    refine x_s (q := (.iload_n 1, 0, 0, 0)) (cod_31 rfl) rfl rfl rfl ?_
    refine x_s (q := (.bipush 45, 0, 0, 0)) (cod_31 rfl) rfl rfl rfl ?_
    refine x_ic (p := ¬ a1 = 45) (tgt := 47) (cod_31 rfl) (by decide) xj_ne (fun h => ?_) (fun h => ?_)
    · have H10 := H8.2 h
      refine x_s (q := (.aload_n 0, 0, 0, 0)) (cod_31 rfl) rfl rfl rfl ?_
      refine x_s (q := (.iload_n 1, 0, 0, 0)) (cod_31 rfl) rfl rfl rfl ?_
      refine x_s (q := (.bipush 59, 0, 0, 0)) (cod_31 rfl) rfl rfl rfl ?_
      refine x_ic (p := ¬ a1 = 59) (tgt := 59) (cod_31 rfl) (by decide) xj_ne (fun h => ?_) (fun h => ?_)
      · have H12 := H10.2 h
        refine x_s (q := (.bipush 7, 0, 0, 0)) (cod_31 rfl) rfl rfl rfl ?_
        refine x_pf (kk := 6) (t := 0) (cod_31 rfl) sq_p_3 sq_l_3_6 rfl rfl rfl ?_
        have H15 := H12 _ rfl
        generalize umem m6 3 6 7 = m14 at H15 ⊢
        refine x_retV (cod_31 rfl) rfl ?_
        exact H15
      · have H13 := H10.1 (Classical.not_not.mp h)
        refine x_s (q := (.bipush 6, 0, 0, 0)) (cod_31 rfl) rfl rfl rfl ?_
        refine x_go (tgt := 61) (cod_31 rfl) (by decide) ?_
        refine x_pf (kk := 6) (t := 0) (cod_31 rfl) sq_p_3 sq_l_3_6 rfl rfl rfl ?_
        have H17 := H13 _ rfl
        generalize umem m6 3 6 6 = m16 at H17 ⊢
        refine x_retV (cod_31 rfl) rfl ?_
        exact H17
    · have H11 := H8.1 (Classical.not_not.mp h)
      refine x_s (q := (.aload_n 0, 0, 0, 0)) (cod_31 rfl) rfl rfl rfl ?_
      refine x_s (q := (.iconst 5, 0, 0, 0)) (cod_31 rfl) rfl rfl rfl ?_
      refine x_pf (kk := 6) (t := 0) (cod_31 rfl) sq_p_3 sq_l_3_6 rfl rfl rfl ?_
      have H19 := H11 _ rfl
      generalize umem m6 3 6 5 = m18 at H19 ⊢
      refine x_go (tgt := 64) (cod_31 rfl) (by decide) ?_
      refine x_retV (cod_31 rfl) rfl ?_
      exact H19
  · have H9 := H7.2 h
    refine x_s (q := (.aload_n 0, 0, 0, 0)) (cod_31 rfl) rfl rfl rfl ?_
    refine x_s (q := (.iconst 4, 0, 0, 0)) (cod_31 rfl) rfl rfl rfl ?_
    refine x_pf (kk := 6) (t := 0) (cod_31 rfl) sq_p_3 sq_l_3_6 rfl rfl rfl ?_
    have H21 := H9 _ rfl
    generalize umem m6 3 6 4 = m20 at H21 ⊢
    refine x_go (tgt := 64) (cod_31 rfl) (by decide) ?_
    refine x_retV (cod_31 rfl) rfl ?_
    exact H21
theorem e31 {m : Mm} {K : Mm → Prop} (a1 : Int) 
  (H : ∀ m1, m1 = umem m 3 5 (wr ((m 3 5) + 1)) → TrI 32 [(0, a1)] m1 fun v5 m3 => ∀ m6, m6 = umem m3 3 9 v5 → ((m6 3 9) < 0 → (a1 = 45 → ∀ m18, m18 = umem m6 3 6 5 → K m18) ∧ (¬ a1 = 45 → (a1 = 59 → ∀ m16, m16 = umem m6 3 6 6 → K m16) ∧ (¬ a1 = 59 → ∀ m14, m14 = umem m6 3 6 7 → K m14))) ∧ (¬ (m6 3 9) < 0 → ∀ m20, m20 = umem m6 3 6 4 → K m20)) : TrV 31 [(1, 3), (0, a1)] m K := by
  exact w31_0 a1 H
set_option maxRecDepth 100000 in
theorem w32_0 {m : Mm} {K : Int → Mm → Prop} (a0 : Int) 
  (H : (a0 > 0 → (a0 < 128 → TrI 33 [(4, 0), (0, i2c a0)] m fun v7 m5 => K v7 m5) ∧ (¬ a0 < 128 → K (-1) m)) ∧ (¬ a0 > 0 → K (-1) m)) : X 32 0 [(0, a0)] [] m (qI K) := by
  refine x_s (q := (.iload_n 0, 0, 0, 0)) (cod_32 rfl) rfl rfl rfl ?_
  refine x_if (p := ¬ a0 > 0) (tgt := 22) (cod_32 rfl) (by decide) xn_le (fun h => ?_) (fun h => ?_)
  · have H1 := H.2 h
    refine x_s (q := (.iconst (-1), 0, 0, 0)) (cod_32 rfl) rfl rfl rfl ?_
    refine x_retI (t := .int) (cod_32 rfl) rfl rfl rfl ?_
    exact H1
  · have H2 := H.1 (Classical.not_not.mp h)
    refine x_s (q := (.iload_n 0, 0, 0, 0)) (cod_32 rfl) rfl rfl rfl ?_
    refine x_s (q := (.sipush 128, 0, 0, 0)) (cod_32 rfl) rfl rfl rfl ?_
    refine x_ic (p := ¬ a0 < 128) (tgt := 22) (cod_32 rfl) (by decide) xn_ge (fun h => ?_) (fun h => ?_)
    · have H3 := H2.2 h
      refine x_s (q := (.iconst (-1), 0, 0, 0)) (cod_32 rfl) rfl rfl rfl ?_
      refine x_retI (t := .int) (cod_32 rfl) rfl rfl rfl ?_
      exact H3
    · have H4 := H2.1 (Classical.not_not.mp h)
      refine x_s (q := (.ldc_w 397, 0, 4, 0)) (cod_32 rfl) rfl rfl rfl ?_
      refine x_s (q := (.iload_n 0, 0, 0, 0)) (cod_32 rfl) rfl rfl rfl ?_
      refine x_s (q := (.i2c, 0, 0, 0)) (cod_32 rfl) rfl rfl rfl ?_
      show X 32 16 [(0, a0)] [(0, i2c a0), (4, 0)] m _
      refine x_call (as := [(4, 0), (0, i2c a0)]) (rest := []) (cod_32 rfl) rfl rfl (by decide) (by decide) rfl rfl (Nat.le_of_ble_eq_true rfl) rfl (Nat.le_of_ble_eq_true rfl) ?_
      refine X.imp H4 ?_
      rintro _ m5 ⟨v7, rfl, H6⟩
      show X 32 19 [(0, a0)] [(0, v7)] m5 _
      refine x_go (tgt := 23) (cod_32 rfl) (by decide) ?_
      refine x_retI (t := .int) (cod_32 rfl) rfl rfl rfl ?_
      exact H6
theorem e32 {m : Mm} {K : Int → Mm → Prop} (a0 : Int) 
  (H : (a0 > 0 → (a0 < 128 → TrI 33 [(4, 0), (0, i2c a0)] m fun v7 m5 => K v7 m5) ∧ (¬ a0 < 128 → K (-1) m)) ∧ (¬ a0 > 0 → K (-1) m)) : TrI 32 [(0, a0)] m K := by
  exact w32_0 a0 H
set_option maxRecDepth 100000 in
theorem w41_0 {m : Mm} {K : Int → Mm → Prop} (a1 : Int) (ta1 : shp a1 = 30)
  (H : ((m 3 6) = 1 → (((m 3 9) < 0 ∨ 6 < (m 3 9)) → TrI 42 [(1, 3), (0, 1)] m fun v6 m4 => (v6 = 0 ∨ v6 = 1) ∧ K v6 m4) ∧ ((m 3 9) = 0 → TrI 43 [(1, 3), (1, a1)] m fun v12 m10 => (v12 = 0 ∨ v12 = 1) ∧ K v12 m10) ∧ ((m 3 9) = 1 → TrI 50 [(1, 3), (1, a1)] m fun v18 m16 => (v18 = 0 ∨ v18 = 1) ∧ K v18 m16) ∧ ((m 3 9) = 2 → TrI 52 [(1, 3), (1, a1), (0, 0)] m fun v24 m22 => (v24 = 0 ∨ v24 = 1) ∧ K v24 m22) ∧ ((m 3 9) = 3 → TrI 52 [(1, 3), (1, a1), (0, 1)] m fun v30 m28 => (v30 = 0 ∨ v30 = 1) ∧ K v30 m28) ∧ ((m 3 9) = 4 → TrI 53 [(1, 3), (1, a1), (0, 999)] m fun v36 m34 => (v36 = 0 ∨ v36 = 1) ∧ K v36 m34) ∧ ((m 3 9) = 5 → TrI 53 [(1, 3), (1, a1), (0, 99)] m fun v42 m40 => (v42 = 0 ∨ v42 = 1) ∧ K v42 m40) ∧ ((m 3 9) = 6 → TrI 53 [(1, 3), (1, a1), (0, 99999)] m fun v48 m46 => (v48 = 0 ∨ v48 = 1) ∧ K v48 m46)) ∧ (¬ (m 3 6) = 1 → TrI 42 [(1, 3), (0, 1)] m fun v53 m51 => (v53 = 0 ∨ v53 = 1) ∧ K v53 m51)) : X 41 0 [(1, 3), (1, a1)] [] m (qI K) := by
  refine x_s (q := (.aload_n 0, 0, 0, 0)) (cod_41 rfl) rfl rfl rfl ?_
  refine x_gf (kk := 6) (t := 0) (cod_41 rfl) sq_p_3 sq_l_3_6 rfl rfl ?_
  refine x_s (q := (.iconst 1, 0, 0, 0)) (cod_41 rfl) rfl rfl rfl ?_
  refine x_ic (p := (m 3 6) = 1) (tgt := 14) (cod_41 rfl) (by decide) xj_eq (fun h => ?_) (fun h => ?_)
  · have H1 := H.1 h
    refine x_s (q := (.aload_n 0, 0, 0, 0)) (cod_41 rfl) rfl rfl rfl ?_
    refine x_gf (kk := 9) (t := 0) (cod_41 rfl) sq_p_3 sq_l_3_9 rfl rfl ?_
    refine x_tsw (cod_41 rfl) (by decide) (by decide) (by decide) (fun h => ?_) (fun i o ho h => ?_)
    · have H3 := H1.1 h
      refine x_s (q := (.aload_n 0, 0, 0, 0)) (cod_41 rfl) rfl rfl rfl ?_
      refine x_s (q := (.iconst 1, 0, 0, 0)) (cod_41 rfl) rfl rfl rfl ?_
      refine x_call (as := [(1, 3), (0, 1)]) (rest := []) (cod_41 rfl) rfl rfl (by decide) (by decide) rfl rfl (Nat.le_of_ble_eq_true rfl) (rcv0 sq_l_3_0 sq_p_3 (by decide)) (Nat.le_of_ble_eq_true rfl) ?_
      refine X.imp H3 ?_
      rintro _ m4 ⟨v6, rfl, H5⟩
      show X 41 116 [(1, 3), (1, a1)] [(0, v6)] m4 _
      obtain ⟨c7, H8⟩ := H5
      refine x_retI (t := .boolean) (cod_41 rfl) rfl rfl (bok_b c7) ?_
      exact H8
    · match i, ho with
      | 0, ho =>
        cases ho
        have H9 := H1.2.1 (by omega)
        refine x_s (q := (.aload_n 0, 0, 0, 0)) (cod_41 rfl) rfl rfl rfl ?_
        refine x_aldn (cod_41 rfl) rfl (pos_of ta1 (by decide)) ?_
        refine x_call (as := [(1, 3), (1, a1)]) (rest := []) (cod_41 rfl) rfl rfl (by decide) (by decide) rfl rfl (Nat.le_of_ble_eq_true rfl) (rcv0 sq_l_3_0 sq_p_3 (by decide)) (Nat.le_of_ble_eq_true rfl) ?_
        refine X.imp H9 ?_
        rintro _ m10 ⟨v12, rfl, H11⟩
        show X 41 65 [(1, 3), (1, a1)] [(0, v12)] m10 _
        obtain ⟨c13, H14⟩ := H11
        refine x_retI (t := .boolean) (cod_41 rfl) rfl rfl (bok_b c13) ?_
        exact H14
      | 1, ho =>
        cases ho
        have H15 := H1.2.2.1 (by omega)
        refine x_s (q := (.aload_n 0, 0, 0, 0)) (cod_41 rfl) rfl rfl rfl ?_
        refine x_aldn (cod_41 rfl) rfl (pos_of ta1 (by decide)) ?_
        refine x_call (as := [(1, 3), (1, a1)]) (rest := []) (cod_41 rfl) rfl rfl (by decide) (by decide) rfl rfl (Nat.le_of_ble_eq_true rfl) (rcv0 sq_l_3_0 sq_p_3 (by decide)) (Nat.le_of_ble_eq_true rfl) ?_
        refine X.imp H15 ?_
        rintro _ m16 ⟨v18, rfl, H17⟩
        show X 41 71 [(1, 3), (1, a1)] [(0, v18)] m16 _
        obtain ⟨c19, H20⟩ := H17
        refine x_retI (t := .boolean) (cod_41 rfl) rfl rfl (bok_b c19) ?_
        exact H20
      | 2, ho =>
        cases ho
        have H21 := H1.2.2.2.1 (by omega)
        refine x_s (q := (.aload_n 0, 0, 0, 0)) (cod_41 rfl) rfl rfl rfl ?_
        refine x_aldn (cod_41 rfl) rfl (pos_of ta1 (by decide)) ?_
        refine x_s (q := (.iconst 0, 0, 0, 0)) (cod_41 rfl) rfl rfl rfl ?_
        refine x_call (as := [(1, 3), (1, a1), (0, 0)]) (rest := []) (cod_41 rfl) rfl rfl (by decide) (by decide) rfl rfl (Nat.le_of_ble_eq_true rfl) (rcv0 sq_l_3_0 sq_p_3 (by decide)) (Nat.le_of_ble_eq_true rfl) ?_
        refine X.imp H21 ?_
        rintro _ m22 ⟨v24, rfl, H23⟩
        show X 41 78 [(1, 3), (1, a1)] [(0, v24)] m22 _
        obtain ⟨c25, H26⟩ := H23
        refine x_retI (t := .boolean) (cod_41 rfl) rfl rfl (bok_b c25) ?_
        exact H26
      | 3, ho =>
        cases ho
        have H27 := H1.2.2.2.2.1 (by omega)
        refine x_s (q := (.aload_n 0, 0, 0, 0)) (cod_41 rfl) rfl rfl rfl ?_
        refine x_aldn (cod_41 rfl) rfl (pos_of ta1 (by decide)) ?_
        refine x_s (q := (.iconst 1, 0, 0, 0)) (cod_41 rfl) rfl rfl rfl ?_
        refine x_call (as := [(1, 3), (1, a1), (0, 1)]) (rest := []) (cod_41 rfl) rfl rfl (by decide) (by decide) rfl rfl (Nat.le_of_ble_eq_true rfl) (rcv0 sq_l_3_0 sq_p_3 (by decide)) (Nat.le_of_ble_eq_true rfl) ?_
        refine X.imp H27 ?_
        rintro _ m28 ⟨v30, rfl, H29⟩
        show X 41 85 [(1, 3), (1, a1)] [(0, v30)] m28 _
        obtain ⟨c31, H32⟩ := H29
        refine x_retI (t := .boolean) (cod_41 rfl) rfl rfl (bok_b c31) ?_
        exact H32
      | 4, ho =>
        cases ho
        have H33 := H1.2.2.2.2.2.1 (by omega)
        refine x_s (q := (.aload_n 0, 0, 0, 0)) (cod_41 rfl) rfl rfl rfl ?_
        refine x_aldn (cod_41 rfl) rfl (pos_of ta1 (by decide)) ?_
        refine x_s (q := (.sipush 999, 0, 0, 0)) (cod_41 rfl) rfl rfl rfl ?_
        refine x_call (as := [(1, 3), (1, a1), (0, 999)]) (rest := []) (cod_41 rfl) rfl rfl (by decide) (by decide) rfl rfl (Nat.le_of_ble_eq_true rfl) (rcv0 sq_l_3_0 sq_p_3 (by decide)) (Nat.le_of_ble_eq_true rfl) ?_
        refine X.imp H33 ?_
        rintro _ m34 ⟨v36, rfl, H35⟩
        show X 41 94 [(1, 3), (1, a1)] [(0, v36)] m34 _
        obtain ⟨c37, H38⟩ := H35
        refine x_retI (t := .boolean) (cod_41 rfl) rfl rfl (bok_b c37) ?_
        exact H38
      | 5, ho =>
        cases ho
        have H39 := H1.2.2.2.2.2.2.1 (by omega)
        refine x_s (q := (.aload_n 0, 0, 0, 0)) (cod_41 rfl) rfl rfl rfl ?_
        refine x_aldn (cod_41 rfl) rfl (pos_of ta1 (by decide)) ?_
        refine x_s (q := (.bipush 99, 0, 0, 0)) (cod_41 rfl) rfl rfl rfl ?_
        refine x_call (as := [(1, 3), (1, a1), (0, 99)]) (rest := []) (cod_41 rfl) rfl rfl (by decide) (by decide) rfl rfl (Nat.le_of_ble_eq_true rfl) (rcv0 sq_l_3_0 sq_p_3 (by decide)) (Nat.le_of_ble_eq_true rfl) ?_
        refine X.imp H39 ?_
        rintro _ m40 ⟨v42, rfl, H41⟩
        show X 41 102 [(1, 3), (1, a1)] [(0, v42)] m40 _
        obtain ⟨c43, H44⟩ := H41
        refine x_retI (t := .boolean) (cod_41 rfl) rfl rfl (bok_b c43) ?_
        exact H44
      | 6, ho =>
        cases ho
        have H45 := H1.2.2.2.2.2.2.2 (by omega)
        refine x_s (q := (.aload_n 0, 0, 0, 0)) (cod_41 rfl) rfl rfl rfl ?_
        refine x_aldn (cod_41 rfl) rfl (pos_of ta1 (by decide)) ?_
        refine x_s (q := (.ldc 142, 99999, 0, 0)) (cod_41 rfl) rfl rfl rfl ?_
        refine x_call (as := [(1, 3), (1, a1), (0, 99999)]) (rest := []) (cod_41 rfl) rfl rfl (by decide) (by decide) rfl rfl (Nat.le_of_ble_eq_true rfl) (rcv0 sq_l_3_0 sq_p_3 (by decide)) (Nat.le_of_ble_eq_true rfl) ?_
        refine X.imp H45 ?_
        rintro _ m46 ⟨v48, rfl, H47⟩
        show X 41 110 [(1, 3), (1, a1)] [(0, v48)] m46 _
        obtain ⟨c49, H50⟩ := H47
        refine x_retI (t := .boolean) (cod_41 rfl) rfl rfl (bok_b c49) ?_
        exact H50
      | k + 7, ho => exact absurd ho (by simp)
  · have H2 := H.2 h
    refine x_s (q := (.aload_n 0, 0, 0, 0)) (cod_41 rfl) rfl rfl rfl ?_
    refine x_s (q := (.iconst 1, 0, 0, 0)) (cod_41 rfl) rfl rfl rfl ?_
    refine x_call (as := [(1, 3), (0, 1)]) (rest := []) (cod_41 rfl) rfl rfl (by decide) (by decide) rfl rfl (Nat.le_of_ble_eq_true rfl) (rcv0 sq_l_3_0 sq_p_3 (by decide)) (Nat.le_of_ble_eq_true rfl) ?_
    refine X.imp H2 ?_
    rintro _ m51 ⟨v53, rfl, H52⟩
    show X 41 13 [(1, 3), (1, a1)] [(0, v53)] m51 _
    obtain ⟨c54, H55⟩ := H52
    refine x_retI (t := .boolean) (cod_41 rfl) rfl rfl (bok_b c54) ?_
    exact H55
theorem e41 {m : Mm} {K : Int → Mm → Prop} (a1 : Int) (ta1 : shp a1 = 30)
  (H : ((m 3 6) = 1 → (((m 3 9) < 0 ∨ 6 < (m 3 9)) → TrI 42 [(1, 3), (0, 1)] m fun v6 m4 => (v6 = 0 ∨ v6 = 1) ∧ K v6 m4) ∧ ((m 3 9) = 0 → TrI 43 [(1, 3), (1, a1)] m fun v12 m10 => (v12 = 0 ∨ v12 = 1) ∧ K v12 m10) ∧ ((m 3 9) = 1 → TrI 50 [(1, 3), (1, a1)] m fun v18 m16 => (v18 = 0 ∨ v18 = 1) ∧ K v18 m16) ∧ ((m 3 9) = 2 → TrI 52 [(1, 3), (1, a1), (0, 0)] m fun v24 m22 => (v24 = 0 ∨ v24 = 1) ∧ K v24 m22) ∧ ((m 3 9) = 3 → TrI 52 [(1, 3), (1, a1), (0, 1)] m fun v30 m28 => (v30 = 0 ∨ v30 = 1) ∧ K v30 m28) ∧ ((m 3 9) = 4 → TrI 53 [(1, 3), (1, a1), (0, 999)] m fun v36 m34 => (v36 = 0 ∨ v36 = 1) ∧ K v36 m34) ∧ ((m 3 9) = 5 → TrI 53 [(1, 3), (1, a1), (0, 99)] m fun v42 m40 => (v42 = 0 ∨ v42 = 1) ∧ K v42 m40) ∧ ((m 3 9) = 6 → TrI 53 [(1, 3), (1, a1), (0, 99999)] m fun v48 m46 => (v48 = 0 ∨ v48 = 1) ∧ K v48 m46)) ∧ (¬ (m 3 6) = 1 → TrI 42 [(1, 3), (0, 1)] m fun v53 m51 => (v53 = 0 ∨ v53 = 1) ∧ K v53 m51)) : TrI 41 [(1, 3), (1, a1)] m K := by
  exact w41_0 a1 ta1 H
set_option maxRecDepth 100000 in
theorem w42_0 {m : Mm} {K : Int → Mm → Prop} (a1 : Int) 
  (H : ∀ m1, m1 = umem m 3 0 a1 → ∀ m3, m3 = umem m1 3 1 (m1 3 7) → K 0 m3) : X 42 0 [(1, 3), (0, a1)] [] m (qI K) := by
  refine x_s (q := (.aload_n 0, 0, 0, 0)) (cod_42 rfl) rfl rfl rfl ?_
  refine x_s (q := (.iload_n 1, 0, 0, 0)) (cod_42 rfl) rfl rfl rfl ?_
  refine x_pf (kk := 0) (t := 0) (cod_42 rfl) sq_p_3 sq_l_3_0 rfl rfl rfl ?_
  have H2 := H _ rfl
  generalize umem m 3 0 a1 = m1 at H2 ⊢
  refine x_s (q := (.aload_n 0, 0, 0, 0)) (cod_42 rfl) rfl rfl rfl ?_
  refine x_s (q := (.aload_n 0, 0, 0, 0)) (cod_42 rfl) rfl rfl rfl ?_
  refine x_gf (kk := 7) (t := 0) (cod_42 rfl) sq_p_3 sq_l_3_7 rfl rfl ?_
  refine x_pf (kk := 1) (t := 0) (cod_42 rfl) sq_p_3 sq_l_3_1 rfl rfl rfl ?_
  have H4 := H2 _ rfl
  generalize umem m1 3 1 (m1 3 7) = m3 at H4 ⊢
  refine x_s (q := (.iconst 0, 0, 0, 0)) (cod_42 rfl) rfl rfl rfl ?_
  refine x_retI (t := .boolean) (cod_42 rfl) rfl rfl rfl ?_
  exact H4
theorem e42 {m : Mm} {K : Int → Mm → Prop} (a1 : Int) 
  (H : ∀ m1, m1 = umem m 3 0 a1 → ∀ m3, m3 = umem m1 3 1 (m1 3 7) → K 0 m3) : TrI 42 [(1, 3), (0, a1)] m K := by
  exact w42_0 a1 H
set_option maxRecDepth 100000 in
theorem w43_0 {m : Mm} {K : Int → Mm → Prop} (a1 : Int) (ta1 : shp a1 = 30)
  (H : ((m a1 5) < 24 → (0 ≤ (m a1 5) ∧ (m a1 5) < 24) ∧ TrV 19 [(1, 3)] m fun m5 => ((m5 3 6) = 4 → ∀ m9, m9 = umem m5 (a1 + 6 + 2 * (m a1 5)) 1 (m5 3 9) → TrV 19 [(1, 3)] m9 fun m11 => ((m11 3 6) = 5 → ((m11 3 6) = 5 → X 43 93 [(1, 3), (1, a1), (1, (a1 + 6 + 2 * (m a1 5))), (9, 0), (9, 0)] [(0, 0), (1, (a1 + 6 + 2 * (m a1 5)))] m11 (qI K)) ∧ (¬ (m11 3 6) = 5 → X 43 93 [(1, 3), (1, a1), (1, (a1 + 6 + 2 * (m a1 5))), (9, 0), (9, 0)] [(0, m11 3 8), (1, (a1 + 6 + 2 * (m a1 5)))] m11 (qI K))) ∧ (¬ (m11 3 6) = 5 → TrI 44 [(1, 3), (1, ((a1 + 6 + 2 * (m a1 5)) + 1))] m11 fun v19 m17 => (v19 = 0 → K 0 m17) ∧ (¬ v19 = 0 → ((m17 3 6) = 5 → X 43 93 [(1, 3), (1, a1), (1, (a1 + 6 + 2 * (m a1 5))), (9, 0), (9, 0)] [(0, 0), (1, (a1 + 6 + 2 * (m a1 5)))] m17 (qI K)) ∧ (¬ (m17 3 6) = 5 → X 43 93 [(1, 3), (1, a1), (1, (a1 + 6 + 2 * (m a1 5))), (9, 0), (9, 0)] [(0, m17 3 8), (1, (a1 + 6 + 2 * (m a1 5)))] m17 (qI K))))) ∧ (¬ (m5 3 6) = 4 → TrI 42 [(1, 3), (0, 1)] m5 fun v26 m24 => (v26 = 0 ∨ v26 = 1) ∧ K v26 m24)) ∧ (¬ (m a1 5) < 24 → TrI 42 [(1, 3), (0, 2)] m fun v31 m29 => (v31 = 0 ∨ v31 = 1) ∧ K v31 m29)) : X 43 0 [(1, 3), (1, a1), (9, 0), (9, 0), (9, 0)] [] m (qI K) := by
  refine x_aldn (cod_43 rfl) rfl (pos_of ta1 (by decide)) ?_
  refine x_gf (kk := 5) (t := 0) (cod_43 rfl) ta1 (sq_c_10_5 ta1) rfl rfl ?_
  refine x_s (q := (.bipush 24, 0, 0, 0)) (cod_43 rfl) rfl rfl rfl ?_
  refine x_ic (p := (m a1 5) < 24) (tgt := 15) (cod_43 rfl) (by decide) xj_lt (fun h => ?_) (fun h => ?_)
  · have H1 := H.1 h
    refine x_aldn (cod_43 rfl) rfl (pos_of ta1 (by decide)) ?_
    refine x_gc (kk := 0) (c := (a1 + 1)) (t := 1) (cod_43 rfl) ta1 (sq_c_10_0 ta1) rfl rfl ?_
    refine x_aldn (cod_43 rfl) rfl (pos_of ta1 (by decide)) ?_
    refine x_gf (kk := 5) (t := 0) (cod_43 rfl) ta1 (sq_c_10_5 ta1) rfl rfl ?_
    obtain ⟨c3, H4⟩ := H1
    refine x_aaldc (c := (a1 + 6 + 2 * (m a1 5))) (cod_43 rfl) (by rw [(sq_oa_10_0 (j := m a1 5) ta1 c3.1 c3.2).2.1]; decide) (sq_oa_10_0 (j := m a1 5) ta1 c3.1 c3.2).1 ?_
    refine x_astn (ls' := [(1, 3), (1, a1), (1, (a1 + 6 + 2 * (m a1 5))), (9, 0), (9, 0)]) (cod_43 rfl) (pos_of (sq_oa_10_0 (j := m a1 5) ta1 c3.1 c3.2).2.2 (by decide)) rfl rfl ?_
    refine x_s (q := (.aload_n 0, 0, 0, 0)) (cod_43 rfl) rfl rfl rfl ?_
    refine x_call (as := [(1, 3)]) (rest := []) (cod_43 rfl) rfl rfl (by decide) (by decide) rfl rfl (Nat.le_of_ble_eq_true rfl) (rcv0 sq_l_3_0 sq_p_3 (by decide)) (Nat.le_of_ble_eq_true rfl) ?_
    refine X.imp H4 ?_
    rintro _ m5 ⟨rfl, H6⟩
    show X 43 29 [(1, 3), (1, a1), (1, (a1 + 6 + 2 * (m a1 5))), (9, 0), (9, 0)] [] m5 _
    refine x_s (q := (.aload_n 0, 0, 0, 0)) (cod_43 rfl) rfl rfl rfl ?_
    refine x_gf (kk := 6) (t := 0) (cod_43 rfl) sq_p_3 sq_l_3_6 rfl rfl ?_
    refine x_s (q := (.iconst 4, 0, 0, 0)) (cod_43 rfl) rfl rfl rfl ?_
    refine x_ic (p := (m5 3 6) = 4) (tgt := 43) (cod_43 rfl) (by decide) xj_eq (fun h => ?_) (fun h => ?_)
    · have H7 := H6.1 h
      refine x_aldn (cod_43 rfl) rfl (pos_of (sq_oa_10_0 (j := m a1 5) ta1 c3.1 c3.2).2.2 (by decide)) ?_
      refine x_s (q := (.aload_n 0, 0, 0, 0)) (cod_43 rfl) rfl rfl rfl ?_
      refine x_gf (kk := 9) (t := 0) (cod_43 rfl) sq_p_3 sq_l_3_9 rfl rfl ?_
      refine x_pf (kk := 1) (t := 0) (cod_43 rfl) (sq_oa_10_0 (j := m a1 5) ta1 c3.1 c3.2).2.2 (sq_c_7_1 (sq_oa_10_0 (j := m a1 5) ta1 c3.1 c3.2).2.2) rfl rfl rfl ?_
      have H10 := H7 _ rfl
      generalize umem m5 (a1 + 6 + 2 * (m a1 5)) 1 (m5 3 9) = m9 at H10 ⊢
      refine x_s (q := (.aload_n 0, 0, 0, 0)) (cod_43 rfl) rfl rfl rfl ?_
      refine x_call (as := [(1, 3)]) (rest := []) (cod_43 rfl) rfl rfl (by decide) (by decide) rfl rfl (Nat.le_of_ble_eq_true rfl) (rcv0 sq_l_3_0 sq_p_3 (by decide)) (Nat.le_of_ble_eq_true rfl) ?_
      refine X.imp H10 ?_
      rintro _ m11 ⟨rfl, H12⟩
      show X 43 55 [(1, 3), (1, a1), (1, (a1 + 6 + 2 * (m a1 5))), (9, 0), (9, 0)] [] m11 _
      refine x_s (q := (.aload_n 0, 0, 0, 0)) (cod_43 rfl) rfl rfl rfl ?_
      refine x_gf (kk := 6) (t := 0) (cod_43 rfl) sq_p_3 sq_l_3_6 rfl rfl ?_
      refine x_s (q := (.iconst 5, 0, 0, 0)) (cod_43 rfl) rfl rfl rfl ?_
      refine x_ic (p := (m11 3 6) = 5) (tgt := 76) (cod_43 rfl) (by decide) xj_eq (fun h => ?_) (fun h => ?_)
      · have H13 := H12.1 h
        refine x_aldn (cod_43 rfl) rfl (pos_of (sq_oa_10_0 (j := m a1 5) ta1 c3.1 c3.2).2.2 (by decide)) ?_
        refine x_s (q := (.aload_n 0, 0, 0, 0)) (cod_43 rfl) rfl rfl rfl ?_
        refine x_gf (kk := 6) (t := 0) (cod_43 rfl) sq_p_3 sq_l_3_6 rfl rfl ?_
        refine x_s (q := (.iconst 5, 0, 0, 0)) (cod_43 rfl) rfl rfl rfl ?_
        refine x_ic (p := ¬ (m11 3 6) = 5) (tgt := 89) (cod_43 rfl) (by decide) xj_ne (fun h => ?_) (fun h => ?_)
        · have H15 := H13.2 h
          refine x_s (q := (.aload_n 0, 0, 0, 0)) (cod_43 rfl) rfl rfl rfl ?_
          refine x_gf (kk := 8) (t := 0) (cod_43 rfl) sq_p_3 sq_l_3_8 rfl rfl ?_
          exact H15
        · have H16 := H13.1 (Classical.not_not.mp h)
          refine x_s (q := (.iconst 0, 0, 0, 0)) (cod_43 rfl) rfl rfl rfl ?_
          refine x_go (tgt := 93) (cod_43 rfl) (by decide) ?_
          exact H16
      · have H14 := H12.2 h
        refine x_s (q := (.aload_n 0, 0, 0, 0)) (cod_43 rfl) rfl rfl rfl ?_
        refine x_aldn (cod_43 rfl) rfl (pos_of (sq_oa_10_0 (j := m a1 5) ta1 c3.1 c3.2).2.2 (by decide)) ?_
        refine x_gc (kk := 0) (c := ((a1 + 6 + 2 * (m a1 5)) + 1)) (t := 1) (cod_43 rfl) (sq_oa_10_0 (j := m a1 5) ta1 c3.1 c3.2).2.2 (sq_c_7_0 (sq_oa_10_0 (j := m a1 5) ta1 c3.1 c3.2).2.2) rfl rfl ?_
        refine x_call (as := [(1, 3), (1, ((a1 + 6 + 2 * (m a1 5)) + 1))]) (rest := []) (cod_43 rfl) rfl rfl (by decide) (by decide) rfl rfl (Nat.le_of_ble_eq_true rfl) (rcv0 sq_l_3_0 sq_p_3 (by decide)) (Nat.le_of_ble_eq_true rfl) ?_
        refine X.imp H14 ?_
        rintro _ m17 ⟨v19, rfl, H18⟩
        show X 43 71 [(1, 3), (1, a1), (1, (a1 + 6 + 2 * (m a1 5))), (9, 0), (9, 0)] [(0, v19)] m17 _
        refine x_if (p := ¬ v19 = 0) (tgt := 76) (cod_43 rfl) (by decide) xj_ne (fun h => ?_) (fun h => ?_)
        · have H20 := H18.2 h
          refine x_aldn (cod_43 rfl) rfl (pos_of (sq_oa_10_0 (j := m a1 5) ta1 c3.1 c3.2).2.2 (by decide)) ?_
          refine x_s (q := (.aload_n 0, 0, 0, 0)) (cod_43 rfl) rfl rfl rfl ?_
          refine x_gf (kk := 6) (t := 0) (cod_43 rfl) sq_p_3 sq_l_3_6 rfl rfl ?_
          refine x_s (q := (.iconst 5, 0, 0, 0)) (cod_43 rfl) rfl rfl rfl ?_
          refine x_ic (p := ¬ (m17 3 6) = 5) (tgt := 89) (cod_43 rfl) (by decide) xj_ne (fun h => ?_) (fun h => ?_)
          · have H22 := H20.2 h
            refine x_s (q := (.aload_n 0, 0, 0, 0)) (cod_43 rfl) rfl rfl rfl ?_
            refine x_gf (kk := 8) (t := 0) (cod_43 rfl) sq_p_3 sq_l_3_8 rfl rfl ?_
            exact H22
          · have H23 := H20.1 (Classical.not_not.mp h)
            refine x_s (q := (.iconst 0, 0, 0, 0)) (cod_43 rfl) rfl rfl rfl ?_
            refine x_go (tgt := 93) (cod_43 rfl) (by decide) ?_
            exact H23
        · have H21 := H18.1 (Classical.not_not.mp h)
          refine x_s (q := (.iconst 0, 0, 0, 0)) (cod_43 rfl) rfl rfl rfl ?_
          refine x_retI (t := .boolean) (cod_43 rfl) rfl rfl rfl ?_
          exact H21
    · have H8 := H6.2 h
      refine x_s (q := (.aload_n 0, 0, 0, 0)) (cod_43 rfl) rfl rfl rfl ?_
      refine x_s (q := (.iconst 1, 0, 0, 0)) (cod_43 rfl) rfl rfl rfl ?_
      refine x_call (as := [(1, 3), (0, 1)]) (rest := []) (cod_43 rfl) rfl rfl (by decide) (by decide) rfl rfl (Nat.le_of_ble_eq_true rfl) (rcv0 sq_l_3_0 sq_p_3 (by decide)) (Nat.le_of_ble_eq_true rfl) ?_
      refine X.imp H8 ?_
      rintro _ m24 ⟨v26, rfl, H25⟩
      show X 43 42 [(1, 3), (1, a1), (1, (a1 + 6 + 2 * (m a1 5))), (9, 0), (9, 0)] [(0, v26)] m24 _
      obtain ⟨c27, H28⟩ := H25
      refine x_retI (t := .boolean) (cod_43 rfl) rfl rfl (bok_b c27) ?_
      exact H28
  · have H2 := H.2 h
    refine x_s (q := (.aload_n 0, 0, 0, 0)) (cod_43 rfl) rfl rfl rfl ?_
    refine x_s (q := (.iconst 2, 0, 0, 0)) (cod_43 rfl) rfl rfl rfl ?_
    refine x_call (as := [(1, 3), (0, 2)]) (rest := []) (cod_43 rfl) rfl rfl (by decide) (by decide) rfl rfl (Nat.le_of_ble_eq_true rfl) (rcv0 sq_l_3_0 sq_p_3 (by decide)) (Nat.le_of_ble_eq_true rfl) ?_
    refine X.imp H2 ?_
    rintro _ m29 ⟨v31, rfl, H30⟩
    show X 43 14 [(1, 3), (1, a1), (9, 0), (9, 0), (9, 0)] [(0, v31)] m29 _
    obtain ⟨c32, H33⟩ := H30
    refine x_retI (t := .boolean) (cod_43 rfl) rfl rfl (bok_b c32) ?_
    exact H33
theorem e43 {m : Mm} {K : Int → Mm → Prop} (a1 : Int) (ta1 : shp a1 = 30)
  (H : ((m a1 5) < 24 → (0 ≤ (m a1 5) ∧ (m a1 5) < 24) ∧ TrV 19 [(1, 3)] m fun m5 => ((m5 3 6) = 4 → ∀ m9, m9 = umem m5 (a1 + 6 + 2 * (m a1 5)) 1 (m5 3 9) → TrV 19 [(1, 3)] m9 fun m11 => ((m11 3 6) = 5 → ((m11 3 6) = 5 → X 43 93 [(1, 3), (1, a1), (1, (a1 + 6 + 2 * (m a1 5))), (9, 0), (9, 0)] [(0, 0), (1, (a1 + 6 + 2 * (m a1 5)))] m11 (qI K)) ∧ (¬ (m11 3 6) = 5 → X 43 93 [(1, 3), (1, a1), (1, (a1 + 6 + 2 * (m a1 5))), (9, 0), (9, 0)] [(0, m11 3 8), (1, (a1 + 6 + 2 * (m a1 5)))] m11 (qI K))) ∧ (¬ (m11 3 6) = 5 → TrI 44 [(1, 3), (1, ((a1 + 6 + 2 * (m a1 5)) + 1))] m11 fun v19 m17 => (v19 = 0 → K 0 m17) ∧ (¬ v19 = 0 → ((m17 3 6) = 5 → X 43 93 [(1, 3), (1, a1), (1, (a1 + 6 + 2 * (m a1 5))), (9, 0), (9, 0)] [(0, 0), (1, (a1 + 6 + 2 * (m a1 5)))] m17 (qI K)) ∧ (¬ (m17 3 6) = 5 → X 43 93 [(1, 3), (1, a1), (1, (a1 + 6 + 2 * (m a1 5))), (9, 0), (9, 0)] [(0, m17 3 8), (1, (a1 + 6 + 2 * (m a1 5)))] m17 (qI K))))) ∧ (¬ (m5 3 6) = 4 → TrI 42 [(1, 3), (0, 1)] m5 fun v26 m24 => (v26 = 0 ∨ v26 = 1) ∧ K v26 m24)) ∧ (¬ (m a1 5) < 24 → TrI 42 [(1, 3), (0, 2)] m fun v31 m29 => (v31 = 0 ∨ v31 = 1) ∧ K v31 m29)) : TrI 43 [(1, 3), (1, a1)] m K := by
  exact w43_0 a1 ta1 H
set_option maxRecDepth 100000 in
theorem w43_93 {m : Mm} {K : Int → Mm → Prop} (a1 : Int) (a2 : Int) (ua3 : aV) (ua4 : aV) (s0 : Int) (s1 : Int) (ta1 : shp a1 = 30)
  (H : shp s0 = 27 ∧ ∀ m3, m3 = umem m s0 2 s1 → TrV 19 [(1, 3)] m3 fun m5 => TrI 45 [(1, 3), (0, 0)] m5 fun v9 m7 => (v9 < 0 → TrI 42 [(1, 3), (0, 1)] m7 fun v43 m41 => (v43 = 0 ∨ v43 = 1) ∧ K v43 m41) ∧ (¬ v9 < 0 → TrV 19 [(1, 3)] m7 fun m12 => TrI 45 [(1, 3), (0, 1)] m12 fun v16 m14 => (v16 < 0 → TrI 42 [(1, 3), (0, 1)] m14 fun v38 m36 => (v38 = 0 ∨ v38 = 1) ∧ K v38 m36) ∧ (¬ v16 < 0 → TrV 19 [(1, 3)] m14 fun m19 => TrI 46 [(1, 3), (0, 999)] m19 fun v23 m21 => (v23 = 0 → K 0 m21) ∧ (¬ v23 = 0 → 1 ≤ a2 ∧ shp a2 = 27 ∧ ∀ m30, m30 = umem m21 a2 7 (m21 3 9) → TrV 47 [(1, a2), (0, v9), (0, v16)] m30 fun m32 => ∀ m34, m34 = umem m32 a1 5 (wr ((m32 a1 5) + 1)) → K 1 m34)))) : X 43 93 [(1, 3), (1, a1), (1, a2), ua3, ua4] [(0, s1), (1, s0)] m (qI K) := by
  obtain ⟨c1, H2⟩ := H
  refine x_pf (kk := 2) (t := 0) (cod_43 rfl) c1 (sq_c_7_2 c1) rfl rfl rfl ?_
  have H4 := H2 _ rfl
  generalize umem m s0 2 s1 = m3 at H4 ⊢
  refine x_s (q := (.aload_n 0, 0, 0, 0)) (cod_43 rfl) rfl rfl rfl ?_
  refine x_call (as := [(1, 3)]) (rest := []) (cod_43 rfl) rfl rfl (by decide) (by decide) rfl rfl (Nat.le_of_ble_eq_true rfl) (rcv0 sq_l_3_0 sq_p_3 (by decide)) (Nat.le_of_ble_eq_true rfl) ?_
  refine X.imp H4 ?_
  rintro _ m5 ⟨rfl, H6⟩
  show X 43 100 [(1, 3), (1, a1), (1, a2), ua3, ua4] [] m5 _
  refine x_s (q := (.aload_n 0, 0, 0, 0)) (cod_43 rfl) rfl rfl rfl ?_
  refine x_s (q := (.iconst 0, 0, 0, 0)) (cod_43 rfl) rfl rfl rfl ?_
  refine x_call (as := [(1, 3), (0, 0)]) (rest := []) (cod_43 rfl) rfl rfl (by decide) (by decide) rfl rfl (Nat.le_of_ble_eq_true rfl) (rcv0 sq_l_3_0 sq_p_3 (by decide)) (Nat.le_of_ble_eq_true rfl) ?_
  refine X.imp H6 ?_
  rintro _ m7 ⟨v9, rfl, H8⟩
  show X 43 105 [(1, 3), (1, a1), (1, a2), ua3, ua4] [(0, v9)] m7 _
  refine x_s (q := (.istore_n 3, 0, 0, 0)) (cod_43 rfl) rfl rfl rfl ?_
  refine x_s (q := (.iload_n 3, 0, 0, 0)) (cod_43 rfl) rfl rfl rfl ?_
  refine x_if (p := ¬ v9 < 0) (tgt := 116) (cod_43 rfl) (by decide) xn_ge (fun h => ?_) (fun h => ?_)
  · have H10 := H8.2 h
    refine x_s (q := (.aload_n 0, 0, 0, 0)) (cod_43 rfl) rfl rfl rfl ?_
    refine x_call (as := [(1, 3)]) (rest := []) (cod_43 rfl) rfl rfl (by decide) (by decide) rfl rfl (Nat.le_of_ble_eq_true rfl) (rcv0 sq_l_3_0 sq_p_3 (by decide)) (Nat.le_of_ble_eq_true rfl) ?_
    refine X.imp H10 ?_
    rintro _ m12 ⟨rfl, H13⟩
    show X 43 120 [(1, 3), (1, a1), (1, a2), (0, v9), ua4] [] m12 _
    refine x_s (q := (.aload_n 0, 0, 0, 0)) (cod_43 rfl) rfl rfl rfl ?_
    refine x_s (q := (.iconst 1, 0, 0, 0)) (cod_43 rfl) rfl rfl rfl ?_
    refine x_call (as := [(1, 3), (0, 1)]) (rest := []) (cod_43 rfl) rfl rfl (by decide) (by decide) rfl rfl (Nat.le_of_ble_eq_true rfl) (rcv0 sq_l_3_0 sq_p_3 (by decide)) (Nat.le_of_ble_eq_true rfl) ?_
    refine X.imp H13 ?_
    rintro _ m14 ⟨v16, rfl, H15⟩
    show X 43 125 [(1, 3), (1, a1), (1, a2), (0, v9), ua4] [(0, v16)] m14 _
    refine x_s (q := (.istore 4, 0, 0, 0)) (cod_43 rfl) rfl rfl rfl ?_
    refine x_s (q := (.iload 4, 0, 0, 0)) (cod_43 rfl) rfl rfl rfl ?_
    refine x_if (p := ¬ v16 < 0) (tgt := 138) (cod_43 rfl) (by decide) xn_ge (fun h => ?_) (fun h => ?_)
    · have H17 := H15.2 h
      refine x_s (q := (.aload_n 0, 0, 0, 0)) (cod_43 rfl) rfl rfl rfl ?_
      refine x_call (as := [(1, 3)]) (rest := []) (cod_43 rfl) rfl rfl (by decide) (by decide) rfl rfl (Nat.le_of_ble_eq_true rfl) (rcv0 sq_l_3_0 sq_p_3 (by decide)) (Nat.le_of_ble_eq_true rfl) ?_
      refine X.imp H17 ?_
      rintro _ m19 ⟨rfl, H20⟩
      show X 43 142 [(1, 3), (1, a1), (1, a2), (0, v9), (0, v16)] [] m19 _
      refine x_s (q := (.aload_n 0, 0, 0, 0)) (cod_43 rfl) rfl rfl rfl ?_
      refine x_s (q := (.sipush 999, 0, 0, 0)) (cod_43 rfl) rfl rfl rfl ?_
      refine x_call (as := [(1, 3), (0, 999)]) (rest := []) (cod_43 rfl) rfl rfl (by decide) (by decide) rfl rfl (Nat.le_of_ble_eq_true rfl) (rcv0 sq_l_3_0 sq_p_3 (by decide)) (Nat.le_of_ble_eq_true rfl) ?_
      refine X.imp H20 ?_
      rintro _ m21 ⟨v23, rfl, H22⟩
      show X 43 149 [(1, 3), (1, a1), (1, a2), (0, v9), (0, v16)] [(0, v23)] m21 _
      refine x_if (p := ¬ v23 = 0) (tgt := 154) (cod_43 rfl) (by decide) xj_ne (fun h => ?_) (fun h => ?_)
      · have H24 := H22.2 h
        obtain ⟨c26, H27⟩ := H24
        refine x_aldn (cod_43 rfl) rfl c26 ?_
        refine x_s (q := (.aload_n 0, 0, 0, 0)) (cod_43 rfl) rfl rfl rfl ?_
        refine x_gf (kk := 9) (t := 0) (cod_43 rfl) sq_p_3 sq_l_3_9 rfl rfl ?_
        obtain ⟨c28, H29⟩ := H27
        refine x_pf (kk := 7) (t := 0) (cod_43 rfl) c28 (sq_c_7_7 c28) rfl rfl rfl ?_
        have H31 := H29 _ rfl
        generalize umem m21 a2 7 (m21 3 9) = m30 at H31 ⊢
        refine x_aldn (cod_43 rfl) rfl (pos_of c28 (by decide)) ?_
        refine x_s (q := (.iload_n 3, 0, 0, 0)) (cod_43 rfl) rfl rfl rfl ?_
        refine x_s (q := (.iload 4, 0, 0, 0)) (cod_43 rfl) rfl rfl rfl ?_
        refine x_call (as := [(1, a2), (0, v9), (0, v16)]) (rest := []) (cod_43 rfl) rfl rfl (by decide) (by decide) rfl rfl (Nat.le_of_ble_eq_true rfl) (rcv0 (sq_c_7_0 c28) c28 (by decide)) (Nat.le_of_ble_eq_true rfl) ?_
        refine X.imp H31 ?_
        rintro _ m32 ⟨rfl, H33⟩
        show X 43 169 [(1, 3), (1, a1), (1, a2), (0, v9), (0, v16)] [] m32 _
        refine x_aldn (cod_43 rfl) rfl (pos_of ta1 (by decide)) ?_
        refine x_s (q := (.dup, 0, 0, 0)) (cod_43 rfl) rfl rfl rfl ?_
        refine x_gf (kk := 5) (t := 0) (cod_43 rfl) ta1 (sq_c_10_5 ta1) rfl rfl ?_
        refine x_s (q := (.iconst 1, 0, 0, 0)) (cod_43 rfl) rfl rfl rfl ?_
        refine x_s (q := (.iadd, 0, 0, 0)) (cod_43 rfl) rfl rfl rfl ?_
        refine x_pf (kk := 5) (t := 0) (cod_43 rfl) ta1 (sq_c_10_5 ta1) rfl rfl rfl ?_
        have H35 := H33 _ rfl
        generalize umem m32 a1 5 (wr ((m32 a1 5) + 1)) = m34 at H35 ⊢
        refine x_s (q := (.iconst 1, 0, 0, 0)) (cod_43 rfl) rfl rfl rfl ?_
        refine x_retI (t := .boolean) (cod_43 rfl) rfl rfl rfl ?_
        exact H35
      · have H25 := H22.1 (Classical.not_not.mp h)
        refine x_s (q := (.iconst 0, 0, 0, 0)) (cod_43 rfl) rfl rfl rfl ?_
        refine x_retI (t := .boolean) (cod_43 rfl) rfl rfl rfl ?_
        exact H25
    · have H18 := H15.1 (Classical.not_not.mp h)
      refine x_s (q := (.aload_n 0, 0, 0, 0)) (cod_43 rfl) rfl rfl rfl ?_
      refine x_s (q := (.iconst 1, 0, 0, 0)) (cod_43 rfl) rfl rfl rfl ?_
      refine x_call (as := [(1, 3), (0, 1)]) (rest := []) (cod_43 rfl) rfl rfl (by decide) (by decide) rfl rfl (Nat.le_of_ble_eq_true rfl) (rcv0 sq_l_3_0 sq_p_3 (by decide)) (Nat.le_of_ble_eq_true rfl) ?_
      refine X.imp H18 ?_
      rintro _ m36 ⟨v38, rfl, H37⟩
      show X 43 137 [(1, 3), (1, a1), (1, a2), (0, v9), (0, v16)] [(0, v38)] m36 _
      obtain ⟨c39, H40⟩ := H37
      refine x_retI (t := .boolean) (cod_43 rfl) rfl rfl (bok_b c39) ?_
      exact H40
  · have H11 := H8.1 (Classical.not_not.mp h)
    refine x_s (q := (.aload_n 0, 0, 0, 0)) (cod_43 rfl) rfl rfl rfl ?_
    refine x_s (q := (.iconst 1, 0, 0, 0)) (cod_43 rfl) rfl rfl rfl ?_
    refine x_call (as := [(1, 3), (0, 1)]) (rest := []) (cod_43 rfl) rfl rfl (by decide) (by decide) rfl rfl (Nat.le_of_ble_eq_true rfl) (rcv0 sq_l_3_0 sq_p_3 (by decide)) (Nat.le_of_ble_eq_true rfl) ?_
    refine X.imp H11 ?_
    rintro _ m41 ⟨v43, rfl, H42⟩
    show X 43 115 [(1, 3), (1, a1), (1, a2), (0, v9), ua4] [(0, v43)] m41 _
    obtain ⟨c44, H45⟩ := H42
    refine x_retI (t := .boolean) (cod_43 rfl) rfl rfl (bok_b c44) ?_
    exact H45
set_option maxRecDepth 100000 in
theorem w44_0 {m : Mm} {K : Int → Mm → Prop} (a1 : Int) 
  (H : ((m 3 6) = 2 → 1 ≤ a1 ∧ (1 ≤ a1 ∧ shp a1 < 9) ∧ ((m 3 8) > (alen a1) → TrI 42 [(1, 3), (0, 1)] m fun v16 m14 => (v16 = 0 ∨ v16 = 1) ∧ K v16 m14) ∧ (¬ (m 3 8) > (alen a1) → X 44 25 [(1, 3), (1, a1), (0, 0)] [] m (qI K))) ∧ (¬ (m 3 6) = 2 → TrI 42 [(1, 3), (0, 1)] m fun v5 m3 => (v5 = 0 ∨ v5 = 1) ∧ K v5 m3)) : X 44 0 [(1, 3), (1, a1), (9, 0)] [] m (qI K) := by
  refine x_s (q := (.aload_n 0, 0, 0, 0)) (cod_44 rfl) rfl rfl rfl ?_
  refine x_gf (kk := 6) (t := 0) (cod_44 rfl) sq_p_3 sq_l_3_6 rfl rfl ?_
  refine x_s (q := (.iconst 2, 0, 0, 0)) (cod_44 rfl) rfl rfl rfl ?_
  refine x_ic (p := ¬ (m 3 6) = 2) (tgt := 17) (cod_44 rfl) (by decide) xj_ne (fun h => ?_) (fun h => ?_)
  · have H1 := H.2 h
    refine x_s (q := (.aload_n 0, 0, 0, 0)) (cod_44 rfl) rfl rfl rfl ?_
    refine x_s (q := (.iconst 1, 0, 0, 0)) (cod_44 rfl) rfl rfl rfl ?_
    refine x_call (as := [(1, 3), (0, 1)]) (rest := []) (cod_44 rfl) rfl rfl (by decide) (by decide) rfl rfl (Nat.le_of_ble_eq_true rfl) (rcv0 sq_l_3_0 sq_p_3 (by decide)) (Nat.le_of_ble_eq_true rfl) ?_
    refine X.imp H1 ?_
    rintro _ m3 ⟨v5, rfl, H4⟩
    show X 44 22 [(1, 3), (1, a1), (9, 0)] [(0, v5)] m3 _
    obtain ⟨c6, H7⟩ := H4
    refine x_retI (t := .boolean) (cod_44 rfl) rfl rfl (bok_b c6) ?_
    exact H7
  · have H2 := H.1 (Classical.not_not.mp h)
    refine x_s (q := (.aload_n 0, 0, 0, 0)) (cod_44 rfl) rfl rfl rfl ?_
    refine x_gf (kk := 8) (t := 0) (cod_44 rfl) sq_p_3 sq_l_3_8 rfl rfl ?_
    obtain ⟨c8, H9⟩ := H2
    refine x_aldn (cod_44 rfl) rfl c8 ?_
    obtain ⟨c10, H11⟩ := H9
    refine x_len (cod_44 rfl) c10.1 c10.2 ?_
    refine x_ic (p := ¬ (m 3 8) > (alen a1)) (tgt := 23) (cod_44 rfl) (by decide) xn_le (fun h => ?_) (fun h => ?_)
    · have H12 := H11.2 h
      refine x_s (q := (.iconst 0, 0, 0, 0)) (cod_44 rfl) rfl rfl rfl ?_
      refine x_s (q := (.istore_n 2, 0, 0, 0)) (cod_44 rfl) rfl rfl rfl ?_
      exact H12
    · have H13 := H11.1 (Classical.not_not.mp h)
      refine x_s (q := (.aload_n 0, 0, 0, 0)) (cod_44 rfl) rfl rfl rfl ?_
      refine x_s (q := (.iconst 1, 0, 0, 0)) (cod_44 rfl) rfl rfl rfl ?_
      refine x_call (as := [(1, 3), (0, 1)]) (rest := []) (cod_44 rfl) rfl rfl (by decide) (by decide) rfl rfl (Nat.le_of_ble_eq_true rfl) (rcv0 sq_l_3_0 sq_p_3 (by decide)) (Nat.le_of_ble_eq_true rfl) ?_
      refine X.imp H13 ?_
      rintro _ m14 ⟨v16, rfl, H15⟩
      show X 44 22 [(1, 3), (1, a1), (9, 0)] [(0, v16)] m14 _
      obtain ⟨c17, H18⟩ := H15
      refine x_retI (t := .boolean) (cod_44 rfl) rfl rfl (bok_b c17) ?_
      exact H18
theorem e44 {m : Mm} {K : Int → Mm → Prop} (a1 : Int) 
  (H : ((m 3 6) = 2 → 1 ≤ a1 ∧ (1 ≤ a1 ∧ shp a1 < 9) ∧ ((m 3 8) > (alen a1) → TrI 42 [(1, 3), (0, 1)] m fun v16 m14 => (v16 = 0 ∨ v16 = 1) ∧ K v16 m14) ∧ (¬ (m 3 8) > (alen a1) → X 44 25 [(1, 3), (1, a1), (0, 0)] [] m (qI K))) ∧ (¬ (m 3 6) = 2 → TrI 42 [(1, 3), (0, 1)] m fun v5 m3 => (v5 = 0 ∨ v5 = 1) ∧ K v5 m3)) : TrI 44 [(1, 3), (1, a1)] m K := by
  exact w44_0 a1 H
set_option maxRecDepth 100000 in
theorem w44_25 {m : Mm} {K : Int → Mm → Prop} (a1 : Int) (a2 : Int) 
  (H : (a2 < (m 3 8) → 1 ≤ a1 ∧ (shp (m 3 3) = 0 ∧ slot (m 3 3) (wr ((m 3 7) + a2)) = some none) ∧ (shp a1 = 0 ∧ slot a1 a2 = some none) ∧ ∀ m9, m9 = umem m a1 a2 (m (m 3 3) (wr ((m 3 7) + a2))) → X 44 25 [(1, 3), (1, a1), (0, wr (a2 + 1))] [] m9 (qI K)) ∧ (¬ a2 < (m 3 8) → K 1 m)) : X 44 25 [(1, 3), (1, a1), (0, a2)] [] m (qI K) := by
  refine x_s (q := (.iload_n 2, 0, 0, 0)) (cod_44 rfl) rfl rfl rfl ?_
  refine x_s (q := (.aload_n 0, 0, 0, 0)) (cod_44 rfl) rfl rfl rfl ?_
  refine x_gf (kk := 8) (t := 0) (cod_44 rfl) sq_p_3 sq_l_3_8 rfl rfl ?_
  refine x_ic (p := ¬ a2 < (m 3 8)) (tgt := 53) (cod_44 rfl) (by decide) xn_ge (fun h => ?_) (fun h => ?_)
  · have H1 := H.2 h
    refine x_s (q := (.iconst 1, 0, 0, 0)) (cod_44 rfl) rfl rfl rfl ?_
    refine x_retI (t := .boolean) (cod_44 rfl) rfl rfl rfl ?_
    exact H1
  · have H2 := H.1 (Classical.not_not.mp h)
    obtain ⟨c3, H4⟩ := H2
    refine x_aldn (cod_44 rfl) rfl c3 ?_
    refine x_s (q := (.iload_n 2, 0, 0, 0)) (cod_44 rfl) rfl rfl rfl ?_
    refine x_s (q := (.aload_n 0, 0, 0, 0)) (cod_44 rfl) rfl rfl rfl ?_
    refine x_gf (kk := 3) (t := 1) (cod_44 rfl) sq_p_3 sq_l_3_3 rfl rfl ?_
    refine x_s (q := (.aload_n 0, 0, 0, 0)) (cod_44 rfl) rfl rfl rfl ?_
    refine x_gf (kk := 7) (t := 0) (cod_44 rfl) sq_p_3 sq_l_3_7 rfl rfl ?_
    refine x_s (q := (.iload_n 2, 0, 0, 0)) (cod_44 rfl) rfl rfl rfl ?_
    refine x_s (q := (.iadd, 0, 0, 0)) (cod_44 rfl) rfl rfl rfl ?_
    obtain ⟨c5, H6⟩ := H4
    refine x_iald (cod_44 rfl) c5.1 c5.2 ?_
    obtain ⟨c7, H8⟩ := H6
    refine x_iast (cod_44 rfl) c7.1 c7.2 ?_
    have H10 := H8 _ rfl
    generalize umem m a1 a2 (m (m 3 3) (wr ((m 3 7) + a2))) = m9 at H10 ⊢
    refine x_s (q := (.iinc 2 1, 0, 0, 0)) (cod_44 rfl) rfl rfl rfl ?_
    refine x_go (tgt := 25) (cod_44 rfl) (by decide) ?_
    exact H10
set_option maxRecDepth 100000 in
theorem w45_0 {m : Mm} {K : Int → Mm → Prop} (a1 : Int) 
  (H : ((m 3 6) = 2 → ((m 3 8) = 1 → (shp (m 3 3) = 0 ∧ slot (m 3 3) (m 3 7) = some none) ∧ K (wr ((wr (4 + (m (m 3 3) (m 3 7)))) - 97)) m) ∧ (¬ (m 3 8) = 1 → X 45 31 [(1, 3), (0, a1)] [] m (qI K))) ∧ (¬ (m 3 6) = 2 → X 45 31 [(1, 3), (0, a1)] [] m (qI K))) : X 45 0 [(1, 3), (0, a1)] [] m (qI K) := by
  refine x_s (q := (.aload_n 0, 0, 0, 0)) (cod_45 rfl) rfl rfl rfl ?_
  refine x_gf (kk := 6) (t := 0) (cod_45 rfl) sq_p_3 sq_l_3_6 rfl rfl ?_
  refine x_s (q := (.iconst 2, 0, 0, 0)) (cod_45 rfl) rfl rfl rfl ?_
  refine x_ic (p := ¬ (m 3 6) = 2) (tgt := 31) (cod_45 rfl) (by decide) xj_ne (fun h => ?_) (fun h => ?_)
  · have H1 := H.2 h
    exact H1
  · have H2 := H.1 (Classical.not_not.mp h)
    refine x_s (q := (.aload_n 0, 0, 0, 0)) (cod_45 rfl) rfl rfl rfl ?_
    refine x_gf (kk := 8) (t := 0) (cod_45 rfl) sq_p_3 sq_l_3_8 rfl rfl ?_
    refine x_s (q := (.iconst 1, 0, 0, 0)) (cod_45 rfl) rfl rfl rfl ?_
    refine x_ic (p := ¬ (m 3 8) = 1) (tgt := 31) (cod_45 rfl) (by decide) xj_ne (fun h => ?_) (fun h => ?_)
    · have H3 := H2.2 h
      exact H3
    · have H4 := H2.1 (Classical.not_not.mp h)
      refine x_s (q := (.iconst 4, 0, 0, 0)) (cod_45 rfl) rfl rfl rfl ?_
      refine x_s (q := (.aload_n 0, 0, 0, 0)) (cod_45 rfl) rfl rfl rfl ?_
      refine x_gf (kk := 3) (t := 1) (cod_45 rfl) sq_p_3 sq_l_3_3 rfl rfl ?_
      refine x_s (q := (.aload_n 0, 0, 0, 0)) (cod_45 rfl) rfl rfl rfl ?_
      refine x_gf (kk := 7) (t := 0) (cod_45 rfl) sq_p_3 sq_l_3_7 rfl rfl ?_
      obtain ⟨c5, H6⟩ := H4
      refine x_iald (cod_45 rfl) c5.1 c5.2 ?_
      refine x_s (q := (.iadd, 0, 0, 0)) (cod_45 rfl) rfl rfl rfl ?_
      refine x_s (q := (.bipush 97, 0, 0, 0)) (cod_45 rfl) rfl rfl rfl ?_
      refine x_s (q := (.isub, 0, 0, 0)) (cod_45 rfl) rfl rfl rfl ?_
      refine x_retI (t := .int) (cod_45 rfl) rfl rfl rfl ?_
      exact H6
theorem e45 {m : Mm} {K : Int → Mm → Prop} (a1 : Int) 
  (H : ((m 3 6) = 2 → ((m 3 8) = 1 → (shp (m 3 3) = 0 ∧ slot (m 3 3) (m 3 7) = some none) ∧ K (wr ((wr (4 + (m (m 3 3) (m 3 7)))) - 97)) m) ∧ (¬ (m 3 8) = 1 → X 45 31 [(1, 3), (0, a1)] [] m (qI K))) ∧ (¬ (m 3 6) = 2 → X 45 31 [(1, 3), (0, a1)] [] m (qI K))) : TrI 45 [(1, 3), (0, a1)] m K := by
  exact w45_0 a1 H
set_option maxRecDepth 100000 in
theorem w45_31 {m : Mm} {K : Int → Mm → Prop} (a1 : Int) 
  (H : ((m 3 6) = 1 → (((m 3 9) < 7 ∨ 12 < (m 3 9)) → K (-1) m) ∧ ((m 3 9) = 7 → K 0 m) ∧ ((m 3 9) = 8 → (a1 = 0 → K 1 m) ∧ (¬ a1 = 0 → K (-1) m)) ∧ ((m 3 9) = 9 → K 2 m) ∧ ((m 3 9) = 10 → K 3 m) ∧ ((m 3 9) = 11 → (a1 = 0 → K (-1) m) ∧ (¬ a1 = 0 → K 1 m)) ∧ ((m 3 9) = 12 → (a1 = 0 → K (-1) m) ∧ (¬ a1 = 0 → K 30 m))) ∧ (¬ (m 3 6) = 1 → K (-1) m)) : X 45 31 [(1, 3), (0, a1)] [] m (qI K) := by
  refine x_s (q := (.aload_n 0, 0, 0, 0)) (cod_45 rfl) rfl rfl rfl ?_
  refine x_gf (kk := 6) (t := 0) (cod_45 rfl) sq_p_3 sq_l_3_6 rfl rfl ?_
  refine x_s (q := (.iconst 1, 0, 0, 0)) (cod_45 rfl) rfl rfl rfl ?_
  refine x_ic (p := (m 3 6) = 1) (tgt := 41) (cod_45 rfl) (by decide) xj_eq (fun h => ?_) (fun h => ?_)
  · have H1 := H.1 h
    refine x_s (q := (.aload_n 0, 0, 0, 0)) (cod_45 rfl) rfl rfl rfl ?_
    refine x_gf (kk := 9) (t := 0) (cod_45 rfl) sq_p_3 sq_l_3_9 rfl rfl ?_
    refine x_tsw (cod_45 rfl) (by decide) (by decide) (by decide) (fun h => ?_) (fun i o ho h => ?_)
    · have H3 := H1.1 h
      refine x_s (q := (.iconst (-1), 0, 0, 0)) (cod_45 rfl) rfl rfl rfl ?_
      refine x_retI (t := .int) (cod_45 rfl) rfl rfl rfl ?_
      exact H3
    · match i, ho with
      | 0, ho =>
        cases ho
        have H4 := H1.2.1 (by omega)
        refine x_s (q := (.iconst 0, 0, 0, 0)) (cod_45 rfl) rfl rfl rfl ?_
        refine x_retI (t := .int) (cod_45 rfl) rfl rfl rfl ?_
        exact H4
      | 1, ho =>
        cases ho
        have H5 := H1.2.2.1 (by omega)
        refine x_s (q := (.iload_n 1, 0, 0, 0)) (cod_45 rfl) rfl rfl rfl ?_
        refine x_if (p := a1 = 0) (tgt := 94) (cod_45 rfl) (by decide) xj_eq (fun h => ?_) (fun h => ?_)
        · have H6 := H5.1 h
          refine x_s (q := (.iconst 1, 0, 0, 0)) (cod_45 rfl) rfl rfl rfl ?_
          refine x_retI (t := .int) (cod_45 rfl) rfl rfl rfl ?_
          exact H6
        · have H7 := H5.2 h
          refine x_s (q := (.iconst (-1), 0, 0, 0)) (cod_45 rfl) rfl rfl rfl ?_
          refine x_go (tgt := 95) (cod_45 rfl) (by decide) ?_
          refine x_retI (t := .int) (cod_45 rfl) rfl rfl rfl ?_
          exact H7
      | 2, ho =>
        cases ho
        have H8 := H1.2.2.2.1 (by omega)
        refine x_s (q := (.iconst 2, 0, 0, 0)) (cod_45 rfl) rfl rfl rfl ?_
        refine x_retI (t := .int) (cod_45 rfl) rfl rfl rfl ?_
        exact H8
      | 3, ho =>
        cases ho
        have H9 := H1.2.2.2.2.1 (by omega)
        refine x_s (q := (.iconst 3, 0, 0, 0)) (cod_45 rfl) rfl rfl rfl ?_
        refine x_retI (t := .int) (cod_45 rfl) rfl rfl rfl ?_
        exact H9
      | 4, ho =>
        cases ho
        have H10 := H1.2.2.2.2.2.1 (by omega)
        refine x_s (q := (.iload_n 1, 0, 0, 0)) (cod_45 rfl) rfl rfl rfl ?_
        refine x_if (p := a1 = 0) (tgt := 104) (cod_45 rfl) (by decide) xj_eq (fun h => ?_) (fun h => ?_)
        · have H11 := H10.1 h
          refine x_s (q := (.iconst (-1), 0, 0, 0)) (cod_45 rfl) rfl rfl rfl ?_
          refine x_retI (t := .int) (cod_45 rfl) rfl rfl rfl ?_
          exact H11
        · have H12 := H10.2 h
          refine x_s (q := (.iconst 1, 0, 0, 0)) (cod_45 rfl) rfl rfl rfl ?_
          refine x_go (tgt := 105) (cod_45 rfl) (by decide) ?_
          refine x_retI (t := .int) (cod_45 rfl) rfl rfl rfl ?_
          exact H12
      | 5, ho =>
        cases ho
        have H13 := H1.2.2.2.2.2.2 (by omega)
        refine x_s (q := (.iload_n 1, 0, 0, 0)) (cod_45 rfl) rfl rfl rfl ?_
        refine x_if (p := a1 = 0) (tgt := 119) (cod_45 rfl) (by decide) xj_eq (fun h => ?_) (fun h => ?_)
        · have H14 := H13.1 h
          refine x_s (q := (.iconst (-1), 0, 0, 0)) (cod_45 rfl) rfl rfl rfl ?_
          refine x_retI (t := .int) (cod_45 rfl) rfl rfl rfl ?_
          exact H14
        · have H15 := H13.2 h
          refine x_s (q := (.bipush 30, 0, 0, 0)) (cod_45 rfl) rfl rfl rfl ?_
          refine x_go (tgt := 120) (cod_45 rfl) (by decide) ?_
          refine x_retI (t := .int) (cod_45 rfl) rfl rfl rfl ?_
          exact H15
      | k + 6, ho => exact absurd ho (by simp)
  · have H2 := H.2 h
    refine x_s (q := (.iconst (-1), 0, 0, 0)) (cod_45 rfl) rfl rfl rfl ?_
    refine x_retI (t := .int) (cod_45 rfl) rfl rfl rfl ?_
    exact H2
set_option maxRecDepth 100000 in
theorem w46_0 {m : Mm} {K : Int → Mm → Prop} (a1 : Int) 
  (H : ((m 3 6) = 3 → ((m 3 9) > a1 → TrI 42 [(1, 3), (0, 2)] m fun v7 m5 => (v7 = 0 → K 0 m5) ∧ (¬ v7 = 0 → K 1 m5)) ∧ (¬ (m 3 9) > a1 → K 1 m)) ∧ (¬ (m 3 6) = 3 → TrI 42 [(1, 3), (0, 1)] m fun v12 m10 => (v12 = 0 ∨ v12 = 1) ∧ K v12 m10)) : X 46 0 [(1, 3), (0, a1)] [] m (qI K) := by
  refine x_s (q := (.aload_n 0, 0, 0, 0)) (cod_46 rfl) rfl rfl rfl ?_
  refine x_gf (kk := 6) (t := 0) (cod_46 rfl) sq_p_3 sq_l_3_6 rfl rfl ?_
  refine x_s (q := (.iconst 3, 0, 0, 0)) (cod_46 rfl) rfl rfl rfl ?_
  refine x_ic (p := (m 3 6) = 3) (tgt := 14) (cod_46 rfl) (by decide) xj_eq (fun h => ?_) (fun h => ?_)
  · have H1 := H.1 h
    refine x_s (q := (.aload_n 0, 0, 0, 0)) (cod_46 rfl) rfl rfl rfl ?_
    refine x_gf (kk := 9) (t := 0) (cod_46 rfl) sq_p_3 sq_l_3_9 rfl rfl ?_
    refine x_s (q := (.iload_n 1, 0, 0, 0)) (cod_46 rfl) rfl rfl rfl ?_
    refine x_ic (p := ¬ (m 3 9) > a1) (tgt := 30) (cod_46 rfl) (by decide) xn_le (fun h => ?_) (fun h => ?_)
    · have H3 := H1.2 h
      refine x_s (q := (.iconst 1, 0, 0, 0)) (cod_46 rfl) rfl rfl rfl ?_
      refine x_go (tgt := 35) (cod_46 rfl) (by decide) ?_
      refine x_retI (t := .boolean) (cod_46 rfl) rfl rfl rfl ?_
      exact H3
    · have H4 := H1.1 (Classical.not_not.mp h)
      refine x_s (q := (.aload_n 0, 0, 0, 0)) (cod_46 rfl) rfl rfl rfl ?_
      refine x_s (q := (.iconst 2, 0, 0, 0)) (cod_46 rfl) rfl rfl rfl ?_
      refine x_call (as := [(1, 3), (0, 2)]) (rest := []) (cod_46 rfl) rfl rfl (by decide) (by decide) rfl rfl (Nat.le_of_ble_eq_true rfl) (rcv0 sq_l_3_0 sq_p_3 (by decide)) (Nat.le_of_ble_eq_true rfl) ?_
      refine X.imp H4 ?_
      rintro _ m5 ⟨v7, rfl, H6⟩
      show X 46 27 [(1, 3), (0, a1)] [(0, v7)] m5 _
      refine x_if (p := v7 = 0) (tgt := 34) (cod_46 rfl) (by decide) xj_eq (fun h => ?_) (fun h => ?_)
      · have H8 := H6.1 h
        refine x_s (q := (.iconst 0, 0, 0, 0)) (cod_46 rfl) rfl rfl rfl ?_
        refine x_retI (t := .boolean) (cod_46 rfl) rfl rfl rfl ?_
        exact H8
      · have H9 := H6.2 h
        refine x_s (q := (.iconst 1, 0, 0, 0)) (cod_46 rfl) rfl rfl rfl ?_
        refine x_go (tgt := 35) (cod_46 rfl) (by decide) ?_
        refine x_retI (t := .boolean) (cod_46 rfl) rfl rfl rfl ?_
        exact H9
  · have H2 := H.2 h
    refine x_s (q := (.aload_n 0, 0, 0, 0)) (cod_46 rfl) rfl rfl rfl ?_
    refine x_s (q := (.iconst 1, 0, 0, 0)) (cod_46 rfl) rfl rfl rfl ?_
    refine x_call (as := [(1, 3), (0, 1)]) (rest := []) (cod_46 rfl) rfl rfl (by decide) (by decide) rfl rfl (Nat.le_of_ble_eq_true rfl) (rcv0 sq_l_3_0 sq_p_3 (by decide)) (Nat.le_of_ble_eq_true rfl) ?_
    refine X.imp H2 ?_
    rintro _ m10 ⟨v12, rfl, H11⟩
    show X 46 13 [(1, 3), (0, a1)] [(0, v12)] m10 _
    obtain ⟨c13, H14⟩ := H11
    refine x_retI (t := .boolean) (cod_46 rfl) rfl rfl (bok_b c13) ?_
    exact H14
theorem e46 {m : Mm} {K : Int → Mm → Prop} (a1 : Int) 
  (H : ((m 3 6) = 3 → ((m 3 9) > a1 → TrI 42 [(1, 3), (0, 2)] m fun v7 m5 => (v7 = 0 → K 0 m5) ∧ (¬ v7 = 0 → K 1 m5)) ∧ (¬ (m 3 9) > a1 → K 1 m)) ∧ (¬ (m 3 6) = 3 → TrI 42 [(1, 3), (0, 1)] m fun v12 m10 => (v12 = 0 ∨ v12 = 1) ∧ K v12 m10)) : TrI 46 [(1, 3), (0, a1)] m K := by
  exact w46_0 a1 H
set_option maxRecDepth 100000 in
theorem w47_0 {m : Mm} {K : Mm → Prop} (a0 : Int) (a1 : Int) (a2 : Int) (ta0 : shp a0 = 27)
  (H : ∀ m1, m1 = umem m a0 3 a1 → ∀ m3, m3 = umem m1 a0 4 a2 → TrI 48 [(0, a1)] m3 fun v7 m5 => ∀ m8, m8 = umem m5 a0 5 v7 → TrI 48 [(0, a2)] m8 fun v12 m10 => ∀ m13, m13 = umem m10 a0 6 v12 → K m13) : X 47 0 [(1, a0), (0, a1), (0, a2)] [] m (qV K) := by
  refine x_aldn (cod_47 rfl) rfl (pos_of ta0 (by decide)) ?_
  refine x_s (q := (.iload_n 1, 0, 0, 0)) (cod_47 rfl) rfl rfl rfl ?_
  refine x_pf (kk := 3) (t := 0) (cod_47 rfl) ta0 (sq_c_7_3 ta0) rfl rfl rfl ?_
  have H2 := H _ rfl
  generalize umem m a0 3 a1 = m1 at H2 ⊢
  refine x_aldn (cod_47 rfl) rfl (pos_of ta0 (by decide)) ?_
  refine x_s (q := (.iload_n 2, 0, 0, 0)) (cod_47 rfl) rfl rfl rfl ?_
  refine x_pf (kk := 4) (t := 0) (cod_47 rfl) ta0 (sq_c_7_4 ta0) rfl rfl rfl ?_
  have H4 := H2 _ rfl
  generalize umem m1 a0 4 a2 = m3 at H4 ⊢
  refine x_aldn (cod_47 rfl) rfl (pos_of ta0 (by decide)) ?_
  refine x_s (q := (.iload_n 1, 0, 0, 0)) (cod_47 rfl) rfl rfl rfl ?_
  refine x_call (as := [(0, a1)]) (rest := [(1, a0)]) (cod_47 rfl) rfl rfl (by decide) (by decide) rfl rfl (Nat.le_of_ble_eq_true rfl) rfl (Nat.le_of_ble_eq_true rfl) ?_
  refine X.imp H4 ?_
  rintro _ m5 ⟨v7, rfl, H6⟩
  show X 47 15 [(1, a0), (0, a1), (0, a2)] [(0, v7), (1, a0)] m5 _
  refine x_pf (kk := 5) (t := 0) (cod_47 rfl) ta0 (sq_c_7_5 ta0) rfl rfl rfl ?_
  have H9 := H6 _ rfl
  generalize umem m5 a0 5 v7 = m8 at H9 ⊢
  refine x_aldn (cod_47 rfl) rfl (pos_of ta0 (by decide)) ?_
  refine x_s (q := (.iload_n 2, 0, 0, 0)) (cod_47 rfl) rfl rfl rfl ?_
  refine x_call (as := [(0, a2)]) (rest := [(1, a0)]) (cod_47 rfl) rfl rfl (by decide) (by decide) rfl rfl (Nat.le_of_ble_eq_true rfl) rfl (Nat.le_of_ble_eq_true rfl) ?_
  refine X.imp H9 ?_
  rintro _ m10 ⟨v12, rfl, H11⟩
  show X 47 23 [(1, a0), (0, a1), (0, a2)] [(0, v12), (1, a0)] m10 _
  refine x_pf (kk := 6) (t := 0) (cod_47 rfl) ta0 (sq_c_7_6 ta0) rfl rfl rfl ?_
  have H14 := H11 _ rfl
  generalize umem m10 a0 6 v12 = m13 at H14 ⊢
  refine x_retV (cod_47 rfl) rfl ?_
  exact H14
theorem e47 {m : Mm} {K : Mm → Prop} (a0 : Int) (a1 : Int) (a2 : Int) (ta0 : shp a0 = 27)
  (H : ∀ m1, m1 = umem m a0 3 a1 → ∀ m3, m3 = umem m1 a0 4 a2 → TrI 48 [(0, a1)] m3 fun v7 m5 => ∀ m8, m8 = umem m5 a0 5 v7 → TrI 48 [(0, a2)] m8 fun v12 m10 => ∀ m13, m13 = umem m10 a0 6 v12 → K m13) : TrV 47 [(1, a0), (0, a1), (0, a2)] m K := by
  exact w47_0 a0 a1 a2 ta0 H
set_option maxRecDepth 100000 in
theorem w48_0 {m : Mm} {K : Int → Mm → Prop} (a0 : Int) 
  (H : ((a0 = 0 → K 268435455 m) ∧ (a0 = 1 → K 1 m) ∧ (a0 = 2 → K 2130466 m) ∧ (a0 = 3 → K 132087260 m) ∧ (a0 = 30 → K 134217728 m)) ∧ ((¬ a0 = 0 ∧ ¬ a0 = 1 ∧ ¬ a0 = 2 ∧ ¬ a0 = 3 ∧ ¬ a0 = 30) → K (ishl 1 (wr ((wr (a0 - 4)) + 1))) m)) : X 48 0 [(0, a0)] [] m (qI K) := by
  refine x_s (q := (.iload_n 0, 0, 0, 0)) (cod_48 rfl) rfl rfl rfl ?_
  refine x_lsw (cod_48 rfl) (by decide) (fun o ho1 => ?_)
  have ho1 : (if 0 = a0 then 51 else if 1 = a0 then 55 else if 2 = a0 then 57 else if 3 = a0 then 61 else if 30 = a0 then 65 else 69) = o := ho1
  by_cases c3 : a0 = 0
  · rw [if_pos c3.symm] at ho1
    subst ho1
    refine ⟨by decide, ?_⟩
    show X 48 52 _ _ _ _
    have H2 := H.1.1 c3
    refine x_s (q := (.ldc_w 407, 268435455, 0, 0)) (cod_48 rfl) rfl rfl rfl ?_
    refine x_retI (t := .int) (cod_48 rfl) rfl rfl rfl ?_
    exact H2
  rw [if_neg (fun e => c3 e.symm)] at ho1
  by_cases c5 : a0 = 1
  · rw [if_pos c5.symm] at ho1
    subst ho1
    refine ⟨by decide, ?_⟩
    show X 48 56 _ _ _ _
    have H4 := H.1.2.1 c5
    refine x_s (q := (.iconst 1, 0, 0, 0)) (cod_48 rfl) rfl rfl rfl ?_
    refine x_retI (t := .int) (cod_48 rfl) rfl rfl rfl ?_
    exact H4
  rw [if_neg (fun e => c5 e.symm)] at ho1
  by_cases c7 : a0 = 2
  · rw [if_pos c7.symm] at ho1
    subst ho1
    refine ⟨by decide, ?_⟩
    show X 48 58 _ _ _ _
    have H6 := H.1.2.2.1 c7
    refine x_s (q := (.ldc_w 408, 2130466, 0, 0)) (cod_48 rfl) rfl rfl rfl ?_
    refine x_retI (t := .int) (cod_48 rfl) rfl rfl rfl ?_
    exact H6
  rw [if_neg (fun e => c7 e.symm)] at ho1
  by_cases c9 : a0 = 3
  · rw [if_pos c9.symm] at ho1
    subst ho1
    refine ⟨by decide, ?_⟩
    show X 48 62 _ _ _ _
    have H8 := H.1.2.2.2.1 c9
    refine x_s (q := (.ldc_w 409, 132087260, 0, 0)) (cod_48 rfl) rfl rfl rfl ?_
    refine x_retI (t := .int) (cod_48 rfl) rfl rfl rfl ?_
    exact H8
  rw [if_neg (fun e => c9 e.symm)] at ho1
  by_cases c11 : a0 = 30
  · rw [if_pos c11.symm] at ho1
    subst ho1
    refine ⟨by decide, ?_⟩
    show X 48 66 _ _ _ _
    have H10 := H.1.2.2.2.2 c11
    refine x_s (q := (.ldc_w 410, 134217728, 0, 0)) (cod_48 rfl) rfl rfl rfl ?_
    refine x_retI (t := .int) (cod_48 rfl) rfl rfl rfl ?_
    exact H10
  rw [if_neg (fun e => c11 e.symm)] at ho1
  subst ho1
  refine ⟨by decide, ?_⟩
  show X 48 70 _ _ _ _
  have H12 := H.2 ⟨c3, c5, c7, c9, c11⟩
  refine x_s (q := (.iconst 1, 0, 0, 0)) (cod_48 rfl) rfl rfl rfl ?_
  refine x_s (q := (.iload_n 0, 0, 0, 0)) (cod_48 rfl) rfl rfl rfl ?_
  refine x_s (q := (.iconst 4, 0, 0, 0)) (cod_48 rfl) rfl rfl rfl ?_
  refine x_s (q := (.isub, 0, 0, 0)) (cod_48 rfl) rfl rfl rfl ?_
  refine x_s (q := (.iconst 1, 0, 0, 0)) (cod_48 rfl) rfl rfl rfl ?_
  refine x_s (q := (.iadd, 0, 0, 0)) (cod_48 rfl) rfl rfl rfl ?_
  refine x_s (q := (.ishl, 0, 0, 0)) (cod_48 rfl) rfl rfl rfl ?_
  show X 48 77 [(0, a0)] [(0, ishl 1 (wr ((wr (a0 - 4)) + 1)))] m _
  refine x_retI (t := .int) (cod_48 rfl) rfl rfl rfl ?_
  exact H12
theorem e48 {m : Mm} {K : Int → Mm → Prop} (a0 : Int) 
  (H : ((a0 = 0 → K 268435455 m) ∧ (a0 = 1 → K 1 m) ∧ (a0 = 2 → K 2130466 m) ∧ (a0 = 3 → K 132087260 m) ∧ (a0 = 30 → K 134217728 m)) ∧ ((¬ a0 = 0 ∧ ¬ a0 = 1 ∧ ¬ a0 = 2 ∧ ¬ a0 = 3 ∧ ¬ a0 = 30) → K (ishl 1 (wr ((wr (a0 - 4)) + 1))) m)) : TrI 48 [(0, a0)] m K := by
  exact w48_0 a0 H
set_option maxRecDepth 100000 in
theorem w49_0 {m : Mm} {K : Int → Mm → Prop}  
  (H : TrV 19 [(1, 3)] m fun m1 => ((m1 3 6) = 6 → K 1 m1) ∧ (¬ (m1 3 6) = 6 → TrI 42 [(1, 3), (0, 1)] m1 fun v7 m5 => (v7 = 0 → K 0 m5) ∧ (¬ v7 = 0 → K 1 m5))) : X 49 0 [(1, 3)] [] m (qI K) := by
  refine x_s (q := (.aload_n 0, 0, 0, 0)) (cod_49 rfl) rfl rfl rfl ?_
  refine x_call (as := [(1, 3)]) (rest := []) (cod_49 rfl) rfl rfl (by decide) (by decide) rfl rfl (Nat.le_of_ble_eq_true rfl) (rcv0 sq_l_3_0 sq_p_3 (by decide)) (Nat.le_of_ble_eq_true rfl) ?_
  refine X.imp H ?_
  rintro _ m1 ⟨rfl, H2⟩
  show X 49 4 [(1, 3)] [] m1 _
  refine x_s (q := (.aload_n 0, 0, 0, 0)) (cod_49 rfl) rfl rfl rfl ?_
  refine x_gf (kk := 6) (t := 0) (cod_49 rfl) sq_p_3 sq_l_3_6 rfl rfl ?_
  refine x_s (q := (.bipush 6, 0, 0, 0)) (cod_49 rfl) rfl rfl rfl ?_
  refine x_ic (p := (m1 3 6) = 6) (tgt := 21) (cod_49 rfl) (by decide) xj_eq (fun h => ?_) (fun h => ?_)
  · have H3 := H2.1 h
    refine x_s (q := (.iconst 1, 0, 0, 0)) (cod_49 rfl) rfl rfl rfl ?_
    refine x_go (tgt := 26) (cod_49 rfl) (by decide) ?_
    refine x_retI (t := .boolean) (cod_49 rfl) rfl rfl rfl ?_
    exact H3
  · have H4 := H2.2 h
    refine x_s (q := (.aload_n 0, 0, 0, 0)) (cod_49 rfl) rfl rfl rfl ?_
    refine x_s (q := (.iconst 1, 0, 0, 0)) (cod_49 rfl) rfl rfl rfl ?_
    refine x_call (as := [(1, 3), (0, 1)]) (rest := []) (cod_49 rfl) rfl rfl (by decide) (by decide) rfl rfl (Nat.le_of_ble_eq_true rfl) (rcv0 sq_l_3_0 sq_p_3 (by decide)) (Nat.le_of_ble_eq_true rfl) ?_
    refine X.imp H4 ?_
    rintro _ m5 ⟨v7, rfl, H6⟩
    show X 49 18 [(1, 3)] [(0, v7)] m5 _
    refine x_if (p := v7 = 0) (tgt := 25) (cod_49 rfl) (by decide) xj_eq (fun h => ?_) (fun h => ?_)
    · have H8 := H6.1 h
      refine x_s (q := (.iconst 0, 0, 0, 0)) (cod_49 rfl) rfl rfl rfl ?_
      refine x_retI (t := .boolean) (cod_49 rfl) rfl rfl rfl ?_
      exact H8
    · have H9 := H6.2 h
      refine x_s (q := (.iconst 1, 0, 0, 0)) (cod_49 rfl) rfl rfl rfl ?_
      refine x_go (tgt := 26) (cod_49 rfl) (by decide) ?_
      refine x_retI (t := .boolean) (cod_49 rfl) rfl rfl rfl ?_
      exact H9
theorem e49 {m : Mm} {K : Int → Mm → Prop}  
  (H : TrV 19 [(1, 3)] m fun m1 => ((m1 3 6) = 6 → K 1 m1) ∧ (¬ (m1 3 6) = 6 → TrI 42 [(1, 3), (0, 1)] m1 fun v7 m5 => (v7 = 0 → K 0 m5) ∧ (¬ v7 = 0 → K 1 m5))) : TrI 49 [(1, 3)] m K := by
  exact w49_0  H
set_option maxRecDepth 100000 in
theorem w50_0 {m : Mm} {K : Int → Mm → Prop} (a1 : Int) (ta1 : shp a1 = 30)
  (H : ((m a1 6) < 24 → (0 ≤ (m a1 6) ∧ (m a1 6) < 24) ∧ TrV 19 [(1, 3)] m fun m5 => TrI 44 [(1, 3), (1, ((a1 + 54 + 2 * (m a1 6)) + 1))] m5 fun v9 m7 => (v9 = 0 → K 0 m7) ∧ (¬ v9 = 0 → ∀ m12, m12 = umem m7 (a1 + 54 + 2 * (m a1 6)) 1 (m7 3 8) → TrV 19 [(1, 3)] m12 fun m14 => TrI 51 [(1, 3)] m14 fun v18 m16 => ∀ m19, m19 = umem m16 (a1 + 54 + 2 * (m a1 6)) 2 v18 → ((m19 (a1 + 54 + 2 * (m a1 6)) 2) < 0 → TrI 42 [(1, 3), (0, 1)] m19 fun v36 m34 => (v36 = 0 ∨ v36 = 1) ∧ K v36 m34) ∧ (¬ (m19 (a1 + 54 + 2 * (m a1 6)) 2) < 0 → TrV 19 [(1, 3)] m19 fun m23 => TrI 46 [(1, 3), (0, 9)] m23 fun v27 m25 => (v27 = 0 → K 0 m25) ∧ (¬ v27 = 0 → ∀ m30, m30 = umem m25 (a1 + 54 + 2 * (m a1 6)) 3 (m25 3 9) → ∀ m32, m32 = umem m30 a1 6 (wr ((m30 a1 6) + 1)) → K 1 m32)))) ∧ (¬ (m a1 6) < 24 → TrI 42 [(1, 3), (0, 2)] m fun v41 m39 => (v41 = 0 ∨ v41 = 1) ∧ K v41 m39)) : X 50 0 [(1, 3), (1, a1), (9, 0)] [] m (qI K) := by
  refine x_aldn (cod_50 rfl) rfl (pos_of ta1 (by decide)) ?_
  refine x_gf (kk := 6) (t := 0) (cod_50 rfl) ta1 (sq_c_10_6 ta1) rfl rfl ?_
  refine x_s (q := (.bipush 24, 0, 0, 0)) (cod_50 rfl) rfl rfl rfl ?_
  refine x_ic (p := (m a1 6) < 24) (tgt := 15) (cod_50 rfl) (by decide) xj_lt (fun h => ?_) (fun h => ?_)
  · have H1 := H.1 h
    refine x_aldn (cod_50 rfl) rfl (pos_of ta1 (by decide)) ?_
    refine x_gc (kk := 1) (c := (a1 + 2)) (t := 1) (cod_50 rfl) ta1 (sq_c_10_1 ta1) rfl rfl ?_
    refine x_aldn (cod_50 rfl) rfl (pos_of ta1 (by decide)) ?_
    refine x_gf (kk := 6) (t := 0) (cod_50 rfl) ta1 (sq_c_10_6 ta1) rfl rfl ?_
    obtain ⟨c3, H4⟩ := H1
    refine x_aaldc (c := (a1 + 54 + 2 * (m a1 6))) (cod_50 rfl) (by rw [(sq_oa_10_1 (j := m a1 6) ta1 c3.1 c3.2).2.1]; decide) (sq_oa_10_1 (j := m a1 6) ta1 c3.1 c3.2).1 ?_
    refine x_astn (ls' := [(1, 3), (1, a1), (1, (a1 + 54 + 2 * (m a1 6)))]) (cod_50 rfl) (pos_of (sq_oa_10_1 (j := m a1 6) ta1 c3.1 c3.2).2.2 (by decide)) rfl rfl ?_
    refine x_s (q := (.aload_n 0, 0, 0, 0)) (cod_50 rfl) rfl rfl rfl ?_
    refine x_call (as := [(1, 3)]) (rest := []) (cod_50 rfl) rfl rfl (by decide) (by decide) rfl rfl (Nat.le_of_ble_eq_true rfl) (rcv0 sq_l_3_0 sq_p_3 (by decide)) (Nat.le_of_ble_eq_true rfl) ?_
    refine X.imp H4 ?_
    rintro _ m5 ⟨rfl, H6⟩
    show X 50 29 [(1, 3), (1, a1), (1, (a1 + 54 + 2 * (m a1 6)))] [] m5 _
    refine x_s (q := (.aload_n 0, 0, 0, 0)) (cod_50 rfl) rfl rfl rfl ?_
    refine x_aldn (cod_50 rfl) rfl (pos_of (sq_oa_10_1 (j := m a1 6) ta1 c3.1 c3.2).2.2 (by decide)) ?_
    refine x_gc (kk := 0) (c := ((a1 + 54 + 2 * (m a1 6)) + 1)) (t := 1) (cod_50 rfl) (sq_oa_10_1 (j := m a1 6) ta1 c3.1 c3.2).2.2 (sq_c_1_0 (sq_oa_10_1 (j := m a1 6) ta1 c3.1 c3.2).2.2) rfl rfl ?_
    refine x_call (as := [(1, 3), (1, ((a1 + 54 + 2 * (m a1 6)) + 1))]) (rest := []) (cod_50 rfl) rfl rfl (by decide) (by decide) rfl rfl (Nat.le_of_ble_eq_true rfl) (rcv0 sq_l_3_0 sq_p_3 (by decide)) (Nat.le_of_ble_eq_true rfl) ?_
    refine X.imp H6 ?_
    rintro _ m7 ⟨v9, rfl, H8⟩
    show X 50 37 [(1, 3), (1, a1), (1, (a1 + 54 + 2 * (m a1 6)))] [(0, v9)] m7 _
    refine x_if (p := ¬ v9 = 0) (tgt := 42) (cod_50 rfl) (by decide) xj_ne (fun h => ?_) (fun h => ?_)
    · have H10 := H8.2 h
      refine x_aldn (cod_50 rfl) rfl (pos_of (sq_oa_10_1 (j := m a1 6) ta1 c3.1 c3.2).2.2 (by decide)) ?_
      refine x_s (q := (.aload_n 0, 0, 0, 0)) (cod_50 rfl) rfl rfl rfl ?_
      refine x_gf (kk := 8) (t := 0) (cod_50 rfl) sq_p_3 sq_l_3_8 rfl rfl ?_
      refine x_pf (kk := 1) (t := 0) (cod_50 rfl) (sq_oa_10_1 (j := m a1 6) ta1 c3.1 c3.2).2.2 (sq_c_1_1 (sq_oa_10_1 (j := m a1 6) ta1 c3.1 c3.2).2.2) rfl rfl rfl ?_
      have H13 := H10 _ rfl
      generalize umem m7 (a1 + 54 + 2 * (m a1 6)) 1 (m7 3 8) = m12 at H13 ⊢
      refine x_s (q := (.aload_n 0, 0, 0, 0)) (cod_50 rfl) rfl rfl rfl ?_
      refine x_call (as := [(1, 3)]) (rest := []) (cod_50 rfl) rfl rfl (by decide) (by decide) rfl rfl (Nat.le_of_ble_eq_true rfl) (rcv0 sq_l_3_0 sq_p_3 (by decide)) (Nat.le_of_ble_eq_true rfl) ?_
      refine X.imp H13 ?_
      rintro _ m14 ⟨rfl, H15⟩
      show X 50 54 [(1, 3), (1, a1), (1, (a1 + 54 + 2 * (m a1 6)))] [] m14 _
      refine x_aldn (cod_50 rfl) rfl (pos_of (sq_oa_10_1 (j := m a1 6) ta1 c3.1 c3.2).2.2 (by decide)) ?_
      refine x_s (q := (.aload_n 0, 0, 0, 0)) (cod_50 rfl) rfl rfl rfl ?_
      refine x_call (as := [(1, 3)]) (rest := [(1, (a1 + 54 + 2 * (m a1 6)))]) (cod_50 rfl) rfl rfl (by decide) (by decide) rfl rfl (Nat.le_of_ble_eq_true rfl) (rcv0 sq_l_3_0 sq_p_3 (by decide)) (Nat.le_of_ble_eq_true rfl) ?_
      refine X.imp H15 ?_
      rintro _ m16 ⟨v18, rfl, H17⟩
      show X 50 59 [(1, 3), (1, a1), (1, (a1 + 54 + 2 * (m a1 6)))] [(0, v18), (1, (a1 + 54 + 2 * (m a1 6)))] m16 _
      refine x_pf (kk := 2) (t := 0) (cod_50 rfl) (sq_oa_10_1 (j := m a1 6) ta1 c3.1 c3.2).2.2 (sq_c_1_2 (sq_oa_10_1 (j := m a1 6) ta1 c3.1 c3.2).2.2) rfl rfl rfl ?_
      have H20 := H17 _ rfl
      generalize umem m16 (a1 + 54 + 2 * (m a1 6)) 2 v18 = m19 at H20 ⊢
      refine x_aldn (cod_50 rfl) rfl (pos_of (sq_oa_10_1 (j := m a1 6) ta1 c3.1 c3.2).2.2 (by decide)) ?_
      refine x_gf (kk := 2) (t := 0) (cod_50 rfl) (sq_oa_10_1 (j := m a1 6) ta1 c3.1 c3.2).2.2 (sq_c_1_2 (sq_oa_10_1 (j := m a1 6) ta1 c3.1 c3.2).2.2) rfl rfl ?_
      refine x_if (p := ¬ (m19 (a1 + 54 + 2 * (m a1 6)) 2) < 0) (tgt := 75) (cod_50 rfl) (by decide) xn_ge (fun h => ?_) (fun h => ?_)
      · have H21 := H20.2 h
        refine x_s (q := (.aload_n 0, 0, 0, 0)) (cod_50 rfl) rfl rfl rfl ?_
        refine x_call (as := [(1, 3)]) (rest := []) (cod_50 rfl) rfl rfl (by decide) (by decide) rfl rfl (Nat.le_of_ble_eq_true rfl) (rcv0 sq_l_3_0 sq_p_3 (by decide)) (Nat.le_of_ble_eq_true rfl) ?_
        refine X.imp H21 ?_
        rintro _ m23 ⟨rfl, H24⟩
        show X 50 79 [(1, 3), (1, a1), (1, (a1 + 54 + 2 * (m a1 6)))] [] m23 _
        refine x_s (q := (.aload_n 0, 0, 0, 0)) (cod_50 rfl) rfl rfl rfl ?_
        refine x_s (q := (.bipush 9, 0, 0, 0)) (cod_50 rfl) rfl rfl rfl ?_
        refine x_call (as := [(1, 3), (0, 9)]) (rest := []) (cod_50 rfl) rfl rfl (by decide) (by decide) rfl rfl (Nat.le_of_ble_eq_true rfl) (rcv0 sq_l_3_0 sq_p_3 (by decide)) (Nat.le_of_ble_eq_true rfl) ?_
        refine X.imp H24 ?_
        rintro _ m25 ⟨v27, rfl, H26⟩
        show X 50 85 [(1, 3), (1, a1), (1, (a1 + 54 + 2 * (m a1 6)))] [(0, v27)] m25 _
        refine x_if (p := ¬ v27 = 0) (tgt := 90) (cod_50 rfl) (by decide) xj_ne (fun h => ?_) (fun h => ?_)
        · have H28 := H26.2 h
          refine x_aldn (cod_50 rfl) rfl (pos_of (sq_oa_10_1 (j := m a1 6) ta1 c3.1 c3.2).2.2 (by decide)) ?_
          refine x_s (q := (.aload_n 0, 0, 0, 0)) (cod_50 rfl) rfl rfl rfl ?_
          refine x_gf (kk := 9) (t := 0) (cod_50 rfl) sq_p_3 sq_l_3_9 rfl rfl ?_
          refine x_pf (kk := 3) (t := 0) (cod_50 rfl) (sq_oa_10_1 (j := m a1 6) ta1 c3.1 c3.2).2.2 (sq_c_1_3 (sq_oa_10_1 (j := m a1 6) ta1 c3.1 c3.2).2.2) rfl rfl rfl ?_
          have H31 := H28 _ rfl
          generalize umem m25 (a1 + 54 + 2 * (m a1 6)) 3 (m25 3 9) = m30 at H31 ⊢
          refine x_aldn (cod_50 rfl) rfl (pos_of ta1 (by decide)) ?_
          refine x_s (q := (.dup, 0, 0, 0)) (cod_50 rfl) rfl rfl rfl ?_
          refine x_gf (kk := 6) (t := 0) (cod_50 rfl) ta1 (sq_c_10_6 ta1) rfl rfl ?_
          refine x_s (q := (.iconst 1, 0, 0, 0)) (cod_50 rfl) rfl rfl rfl ?_
          refine x_s (q := (.iadd, 0, 0, 0)) (cod_50 rfl) rfl rfl rfl ?_
          refine x_pf (kk := 6) (t := 0) (cod_50 rfl) ta1 (sq_c_10_6 ta1) rfl rfl rfl ?_
          have H33 := H31 _ rfl
          generalize umem m30 a1 6 (wr ((m30 a1 6) + 1)) = m32 at H33 ⊢
          refine x_s (q := (.iconst 1, 0, 0, 0)) (cod_50 rfl) rfl rfl rfl ?_
          refine x_retI (t := .boolean) (cod_50 rfl) rfl rfl rfl ?_
          exact H33
        · have H29 := H26.1 (Classical.not_not.mp h)
          refine x_s (q := (.iconst 0, 0, 0, 0)) (cod_50 rfl) rfl rfl rfl ?_
          refine x_retI (t := .boolean) (cod_50 rfl) rfl rfl rfl ?_
          exact H29
      · have H22 := H20.1 (Classical.not_not.mp h)
        refine x_s (q := (.aload_n 0, 0, 0, 0)) (cod_50 rfl) rfl rfl rfl ?_
        refine x_s (q := (.iconst 1, 0, 0, 0)) (cod_50 rfl) rfl rfl rfl ?_
        refine x_call (as := [(1, 3), (0, 1)]) (rest := []) (cod_50 rfl) rfl rfl (by decide) (by decide) rfl rfl (Nat.le_of_ble_eq_true rfl) (rcv0 sq_l_3_0 sq_p_3 (by decide)) (Nat.le_of_ble_eq_true rfl) ?_
        refine X.imp H22 ?_
        rintro _ m34 ⟨v36, rfl, H35⟩
        show X 50 74 [(1, 3), (1, a1), (1, (a1 + 54 + 2 * (m a1 6)))] [(0, v36)] m34 _
        obtain ⟨c37, H38⟩ := H35
        refine x_retI (t := .boolean) (cod_50 rfl) rfl rfl (bok_b c37) ?_
        exact H38
    · have H11 := H8.1 (Classical.not_not.mp h)
      refine x_s (q := (.iconst 0, 0, 0, 0)) (cod_50 rfl) rfl rfl rfl ?_
      refine x_retI (t := .boolean) (cod_50 rfl) rfl rfl rfl ?_
      exact H11
  · have H2 := H.2 h
    refine x_s (q := (.aload_n 0, 0, 0, 0)) (cod_50 rfl) rfl rfl rfl ?_
    refine x_s (q := (.iconst 2, 0, 0, 0)) (cod_50 rfl) rfl rfl rfl ?_
    refine x_call (as := [(1, 3), (0, 2)]) (rest := []) (cod_50 rfl) rfl rfl (by decide) (by decide) rfl rfl (Nat.le_of_ble_eq_true rfl) (rcv0 sq_l_3_0 sq_p_3 (by decide)) (Nat.le_of_ble_eq_true rfl) ?_
    refine X.imp H2 ?_
    rintro _ m39 ⟨v41, rfl, H40⟩
    show X 50 14 [(1, 3), (1, a1), (9, 0)] [(0, v41)] m39 _
    obtain ⟨c42, H43⟩ := H40
    refine x_retI (t := .boolean) (cod_50 rfl) rfl rfl (bok_b c42) ?_
    exact H43
theorem e50 {m : Mm} {K : Int → Mm → Prop} (a1 : Int) (ta1 : shp a1 = 30)
  (H : ((m a1 6) < 24 → (0 ≤ (m a1 6) ∧ (m a1 6) < 24) ∧ TrV 19 [(1, 3)] m fun m5 => TrI 44 [(1, 3), (1, ((a1 + 54 + 2 * (m a1 6)) + 1))] m5 fun v9 m7 => (v9 = 0 → K 0 m7) ∧ (¬ v9 = 0 → ∀ m12, m12 = umem m7 (a1 + 54 + 2 * (m a1 6)) 1 (m7 3 8) → TrV 19 [(1, 3)] m12 fun m14 => TrI 51 [(1, 3)] m14 fun v18 m16 => ∀ m19, m19 = umem m16 (a1 + 54 + 2 * (m a1 6)) 2 v18 → ((m19 (a1 + 54 + 2 * (m a1 6)) 2) < 0 → TrI 42 [(1, 3), (0, 1)] m19 fun v36 m34 => (v36 = 0 ∨ v36 = 1) ∧ K v36 m34) ∧ (¬ (m19 (a1 + 54 + 2 * (m a1 6)) 2) < 0 → TrV 19 [(1, 3)] m19 fun m23 => TrI 46 [(1, 3), (0, 9)] m23 fun v27 m25 => (v27 = 0 → K 0 m25) ∧ (¬ v27 = 0 → ∀ m30, m30 = umem m25 (a1 + 54 + 2 * (m a1 6)) 3 (m25 3 9) → ∀ m32, m32 = umem m30 a1 6 (wr ((m30 a1 6) + 1)) → K 1 m32)))) ∧ (¬ (m a1 6) < 24 → TrI 42 [(1, 3), (0, 2)] m fun v41 m39 => (v41 = 0 ∨ v41 = 1) ∧ K v41 m39)) : TrI 50 [(1, 3), (1, a1)] m K := by
  exact w50_0 a1 ta1 H
set_option maxRecDepth 100000 in
theorem w51_0 {m : Mm} {K : Int → Mm → Prop}  
  (H : ((m 3 6) = 1 → ((wr ((m 3 9) - 13)) < 0 → K (-1) m) ∧ (¬ (wr ((m 3 9) - 13)) < 0 → ((wr ((m 3 9) - 13)) < 5 → K (wr ((m 3 9) - 13)) m) ∧ (¬ (wr ((m 3 9) - 13)) < 5 → K (-1) m))) ∧ (¬ (m 3 6) = 1 → K (-1) m)) : X 51 0 [(1, 3), (9, 0)] [] m (qI K) := by
  refine x_s (q := (.aload_n 0, 0, 0, 0)) (cod_51 rfl) rfl rfl rfl ?_
  refine x_gf (kk := 9) (t := 0) (cod_51 rfl) sq_p_3 sq_l_3_9 rfl rfl ?_
  refine x_s (q := (.bipush 13, 0, 0, 0)) (cod_51 rfl) rfl rfl rfl ?_
  refine x_s (q := (.isub, 0, 0, 0)) (cod_51 rfl) rfl rfl rfl ?_
  refine x_s (q := (.istore_n 1, 0, 0, 0)) (cod_51 rfl) rfl rfl rfl ?_
  refine x_s (q := (.aload_n 0, 0, 0, 0)) (cod_51 rfl) rfl rfl rfl ?_
  refine x_gf (kk := 6) (t := 0) (cod_51 rfl) sq_p_3 sq_l_3_6 rfl rfl ?_
  refine x_s (q := (.iconst 1, 0, 0, 0)) (cod_51 rfl) rfl rfl rfl ?_
  refine x_ic (p := ¬ (m 3 6) = 1) (tgt := 29) (cod_51 rfl) (by decide) xj_ne (fun h => ?_) (fun h => ?_)
  · have H1 := H.2 h
    refine x_s (q := (.iconst (-1), 0, 0, 0)) (cod_51 rfl) rfl rfl rfl ?_
    refine x_retI (t := .int) (cod_51 rfl) rfl rfl rfl ?_
    exact H1
  · have H2 := H.1 (Classical.not_not.mp h)
    refine x_s (q := (.iload_n 1, 0, 0, 0)) (cod_51 rfl) rfl rfl rfl ?_
    refine x_if (p := (wr ((m 3 9) - 13)) < 0) (tgt := 29) (cod_51 rfl) (by decide) xj_lt (fun h => ?_) (fun h => ?_)
    · have H3 := H2.1 h
      refine x_s (q := (.iconst (-1), 0, 0, 0)) (cod_51 rfl) rfl rfl rfl ?_
      refine x_retI (t := .int) (cod_51 rfl) rfl rfl rfl ?_
      exact H3
    · have H4 := H2.2 h
      refine x_s (q := (.iload_n 1, 0, 0, 0)) (cod_51 rfl) rfl rfl rfl ?_
      refine x_s (q := (.iconst 5, 0, 0, 0)) (cod_51 rfl) rfl rfl rfl ?_
      refine x_ic (p := ¬ (wr ((m 3 9) - 13)) < 5) (tgt := 29) (cod_51 rfl) (by decide) xn_ge (fun h => ?_) (fun h => ?_)
      · have H5 := H4.2 h
        refine x_s (q := (.iconst (-1), 0, 0, 0)) (cod_51 rfl) rfl rfl rfl ?_
        refine x_retI (t := .int) (cod_51 rfl) rfl rfl rfl ?_
        exact H5
      · have H6 := H4.1 (Classical.not_not.mp h)
        refine x_s (q := (.iload_n 1, 0, 0, 0)) (cod_51 rfl) rfl rfl rfl ?_
        refine x_go (tgt := 30) (cod_51 rfl) (by decide) ?_
        refine x_retI (t := .int) (cod_51 rfl) rfl rfl rfl ?_
        exact H6
theorem e51 {m : Mm} {K : Int → Mm → Prop}  
  (H : ((m 3 6) = 1 → ((wr ((m 3 9) - 13)) < 0 → K (-1) m) ∧ (¬ (wr ((m 3 9) - 13)) < 0 → ((wr ((m 3 9) - 13)) < 5 → K (wr ((m 3 9) - 13)) m) ∧ (¬ (wr ((m 3 9) - 13)) < 5 → K (-1) m))) ∧ (¬ (m 3 6) = 1 → K (-1) m)) : TrI 51 [(1, 3)] m K := by
  exact w51_0  H
set_option maxRecDepth 100000 in
theorem w52_0 {m : Mm} {K : Int → Mm → Prop} (a1 : Int) (a2 : Int) (ta1 : shp a1 = 30)
  (H : TrV 19 [(1, 3)] m fun m1 => TrI 51 [(1, 3)] m1 fun v5 m3 => (v5 < 0 → TrI 42 [(1, 3), (0, 1)] m3 fun v24 m22 => (v24 = 0 ∨ v24 = 1) ∧ K v24 m22) ∧ (¬ v5 < 0 → TrV 19 [(1, 3)] m3 fun m8 => TrI 51 [(1, 3)] m8 fun v12 m10 => (v12 < 0 → TrI 42 [(1, 3), (0, 1)] m10 fun v19 m17 => (v19 = 0 ∨ v19 = 1) ∧ K v19 m17) ∧ (¬ v12 < 0 → (a2 = 0 → X 52 55 [(1, 3), (1, a1), (0, a2), (0, v5), (0, v12), (9, 0), (9, 0)] [(1, (a1 + 3))] m10 (qI K)) ∧ (¬ a2 = 0 → X 52 55 [(1, 3), (1, a1), (0, a2), (0, v5), (0, v12), (9, 0), (9, 0)] [(1, (a1 + 4))] m10 (qI K))))) : X 52 0 [(1, 3), (1, a1), (0, a2), (9, 0), (9, 0), (9, 0), (9, 0)] [] m (qI K) := by
  refine x_s (q := (.aload_n 0, 0, 0, 0)) (cod_52 rfl) rfl rfl rfl ?_
  refine x_call (as := [(1, 3)]) (rest := []) (cod_52 rfl) rfl rfl (by decide) (by decide) rfl rfl (Nat.le_of_ble_eq_true rfl) (rcv0 sq_l_3_0 sq_p_3 (by decide)) (Nat.le_of_ble_eq_true rfl) ?_
  refine X.imp H ?_
  rintro _ m1 ⟨rfl, H2⟩
  show X 52 4 [(1, 3), (1, a1), (0, a2), (9, 0), (9, 0), (9, 0), (9, 0)] [] m1 _
  refine x_s (q := (.aload_n 0, 0, 0, 0)) (cod_52 rfl) rfl rfl rfl ?_
  refine x_call (as := [(1, 3)]) (rest := []) (cod_52 rfl) rfl rfl (by decide) (by decide) rfl rfl (Nat.le_of_ble_eq_true rfl) (rcv0 sq_l_3_0 sq_p_3 (by decide)) (Nat.le_of_ble_eq_true rfl) ?_
  refine X.imp H2 ?_
  rintro _ m3 ⟨v5, rfl, H4⟩
  show X 52 8 [(1, 3), (1, a1), (0, a2), (9, 0), (9, 0), (9, 0), (9, 0)] [(0, v5)] m3 _
  refine x_s (q := (.istore_n 3, 0, 0, 0)) (cod_52 rfl) rfl rfl rfl ?_
  refine x_s (q := (.iload_n 3, 0, 0, 0)) (cod_52 rfl) rfl rfl rfl ?_
  refine x_if (p := ¬ v5 < 0) (tgt := 19) (cod_52 rfl) (by decide) xn_ge (fun h => ?_) (fun h => ?_)
  · have H6 := H4.2 h
    refine x_s (q := (.aload_n 0, 0, 0, 0)) (cod_52 rfl) rfl rfl rfl ?_
    refine x_call (as := [(1, 3)]) (rest := []) (cod_52 rfl) rfl rfl (by decide) (by decide) rfl rfl (Nat.le_of_ble_eq_true rfl) (rcv0 sq_l_3_0 sq_p_3 (by decide)) (Nat.le_of_ble_eq_true rfl) ?_
    refine X.imp H6 ?_
    rintro _ m8 ⟨rfl, H9⟩
    show X 52 23 [(1, 3), (1, a1), (0, a2), (0, v5), (9, 0), (9, 0), (9, 0)] [] m8 _
    refine x_s (q := (.aload_n 0, 0, 0, 0)) (cod_52 rfl) rfl rfl rfl ?_
    refine x_call (as := [(1, 3)]) (rest := []) (cod_52 rfl) rfl rfl (by decide) (by decide) rfl rfl (Nat.le_of_ble_eq_true rfl) (rcv0 sq_l_3_0 sq_p_3 (by decide)) (Nat.le_of_ble_eq_true rfl) ?_
    refine X.imp H9 ?_
    rintro _ m10 ⟨v12, rfl, H11⟩
    show X 52 27 [(1, 3), (1, a1), (0, a2), (0, v5), (9, 0), (9, 0), (9, 0)] [(0, v12)] m10 _
    refine x_s (q := (.istore 4, 0, 0, 0)) (cod_52 rfl) rfl rfl rfl ?_
    refine x_s (q := (.iload 4, 0, 0, 0)) (cod_52 rfl) rfl rfl rfl ?_
    refine x_if (p := ¬ v12 < 0) (tgt := 40) (cod_52 rfl) (by decide) xn_ge (fun h => ?_) (fun h => ?_)
    · have H13 := H11.2 h
      refine x_s (q := (.iload_n 2, 0, 0, 0)) (cod_52 rfl) rfl rfl rfl ?_
      refine x_if (p := a2 = 0) (tgt := 51) (cod_52 rfl) (by decide) xj_eq (fun h => ?_) (fun h => ?_)
      · have H15 := H13.1 h
        refine x_aldn (cod_52 rfl) rfl (pos_of ta1 (by decide)) ?_
        refine x_gc (kk := 2) (c := (a1 + 3)) (t := 1) (cod_52 rfl) ta1 (sq_c_10_2 ta1) rfl rfl ?_
        exact H15
      · have H16 := H13.2 h
        refine x_aldn (cod_52 rfl) rfl (pos_of ta1 (by decide)) ?_
        refine x_gc (kk := 3) (c := (a1 + 4)) (t := 1) (cod_52 rfl) ta1 (sq_c_10_3 ta1) rfl rfl ?_
        refine x_go (tgt := 55) (cod_52 rfl) (by decide) ?_
        exact H16
    · have H14 := H11.1 (Classical.not_not.mp h)
      refine x_s (q := (.aload_n 0, 0, 0, 0)) (cod_52 rfl) rfl rfl rfl ?_
      refine x_s (q := (.iconst 1, 0, 0, 0)) (cod_52 rfl) rfl rfl rfl ?_
      refine x_call (as := [(1, 3), (0, 1)]) (rest := []) (cod_52 rfl) rfl rfl (by decide) (by decide) rfl rfl (Nat.le_of_ble_eq_true rfl) (rcv0 sq_l_3_0 sq_p_3 (by decide)) (Nat.le_of_ble_eq_true rfl) ?_
      refine X.imp H14 ?_
      rintro _ m17 ⟨v19, rfl, H18⟩
      show X 52 39 [(1, 3), (1, a1), (0, a2), (0, v5), (0, v12), (9, 0), (9, 0)] [(0, v19)] m17 _
      obtain ⟨c20, H21⟩ := H18
      refine x_retI (t := .boolean) (cod_52 rfl) rfl rfl (bok_b c20) ?_
      exact H21
  · have H7 := H4.1 (Classical.not_not.mp h)
    refine x_s (q := (.aload_n 0, 0, 0, 0)) (cod_52 rfl) rfl rfl rfl ?_
    refine x_s (q := (.iconst 1, 0, 0, 0)) (cod_52 rfl) rfl rfl rfl ?_
    refine x_call (as := [(1, 3), (0, 1)]) (rest := []) (cod_52 rfl) rfl rfl (by decide) (by decide) rfl rfl (Nat.le_of_ble_eq_true rfl) (rcv0 sq_l_3_0 sq_p_3 (by decide)) (Nat.le_of_ble_eq_true rfl) ?_
    refine X.imp H7 ?_
    rintro _ m22 ⟨v24, rfl, H23⟩
    show X 52 18 [(1, 3), (1, a1), (0, a2), (0, v5), (9, 0), (9, 0), (9, 0)] [(0, v24)] m22 _
    obtain ⟨c25, H26⟩ := H23
    refine x_retI (t := .boolean) (cod_52 rfl) rfl rfl (bok_b c25) ?_
    exact H26
theorem e52 {m : Mm} {K : Int → Mm → Prop} (a1 : Int) (a2 : Int) (ta1 : shp a1 = 30)
  (H : TrV 19 [(1, 3)] m fun m1 => TrI 51 [(1, 3)] m1 fun v5 m3 => (v5 < 0 → TrI 42 [(1, 3), (0, 1)] m3 fun v24 m22 => (v24 = 0 ∨ v24 = 1) ∧ K v24 m22) ∧ (¬ v5 < 0 → TrV 19 [(1, 3)] m3 fun m8 => TrI 51 [(1, 3)] m8 fun v12 m10 => (v12 < 0 → TrI 42 [(1, 3), (0, 1)] m10 fun v19 m17 => (v19 = 0 ∨ v19 = 1) ∧ K v19 m17) ∧ (¬ v12 < 0 → (a2 = 0 → X 52 55 [(1, 3), (1, a1), (0, a2), (0, v5), (0, v12), (9, 0), (9, 0)] [(1, (a1 + 3))] m10 (qI K)) ∧ (¬ a2 = 0 → X 52 55 [(1, 3), (1, a1), (0, a2), (0, v5), (0, v12), (9, 0), (9, 0)] [(1, (a1 + 4))] m10 (qI K))))) : TrI 52 [(1, 3), (1, a1), (0, a2)] m K := by
  exact w52_0 a1 a2 ta1 H
set_option maxRecDepth 100000 in
theorem w52_55 {m : Mm} {K : Int → Mm → Prop} (a1 : Int) (a2 : Int) (a3 : Int) (a4 : Int) (ua5 : aV) (ua6 : aV) (s0 : Int) (ta1 : shp a1 = 30)
  (H : 1 ≤ s0 ∧ (shp s0 = 2 ∧ slot s0 (wr ((wr (a3 * 5)) + a4)) = some none) ∧ ((m s0 (wr ((wr (a3 * 5)) + a4))) = 0 → (shp s0 = 2 ∧ slot s0 (wr ((wr (a3 * 5)) + a4)) = some none) ∧ ∀ m9, m9 = umem m s0 (wr ((wr (a3 * 5)) + a4)) 1 → (a2 = 0 → K 1 m9) ∧ (¬ a2 = 0 → TrV 19 [(1, 3)] m9 fun m13 => TrI 46 [(1, 3), (0, 999)] m13 fun v17 m15 => (v17 = 0 → K 0 m15) ∧ (¬ v17 = 0 → (0 ≤ (wr ((wr (a3 * 5)) + a4)) ∧ (wr ((wr (a3 * 5)) + a4)) < 25) ∧ ∀ m22, m22 = umem m15 (a1 + 5) (wr ((wr (a3 * 5)) + a4)) (m15 3 9) → K 1 m22))) ∧ (¬ (m s0 (wr ((wr (a3 * 5)) + a4))) = 0 → TrI 42 [(1, 3), (0, 3)] m fun v26 m24 => (v26 = 0 ∨ v26 = 1) ∧ K v26 m24)) : X 52 55 [(1, 3), (1, a1), (0, a2), (0, a3), (0, a4), ua5, ua6] [(1, s0)] m (qI K) := by
  obtain ⟨c1, H2⟩ := H
  refine x_ast (ls' := [(1, 3), (1, a1), (0, a2), (0, a3), (0, a4), (1, s0), ua6]) (cod_52 rfl) c1 rfl rfl ?_
  refine x_s (q := (.iload_n 3, 0, 0, 0)) (cod_52 rfl) rfl rfl rfl ?_
  refine x_s (q := (.iconst 5, 0, 0, 0)) (cod_52 rfl) rfl rfl rfl ?_
  refine x_s (q := (.imul, 0, 0, 0)) (cod_52 rfl) rfl rfl rfl ?_
  refine x_s (q := (.iload 4, 0, 0, 0)) (cod_52 rfl) rfl rfl rfl ?_
  refine x_s (q := (.iadd, 0, 0, 0)) (cod_52 rfl) rfl rfl rfl ?_
  refine x_s (q := (.istore 6, 0, 0, 0)) (cod_52 rfl) rfl rfl rfl ?_
  refine x_ald (cod_52 rfl) rfl c1 ?_
  refine x_s (q := (.iload 6, 0, 0, 0)) (cod_52 rfl) rfl rfl rfl ?_
  obtain ⟨c3, H4⟩ := H2
  refine x_bald (cod_52 rfl) c3.1 c3.2 ?_
  refine x_if (p := (m s0 (wr ((wr (a3 * 5)) + a4))) = 0) (tgt := 79) (cod_52 rfl) (by decide) xj_eq (fun h => ?_) (fun h => ?_)
  · have H5 := H4.1 h
    refine x_ald (cod_52 rfl) rfl c1 ?_
    refine x_s (q := (.iload 6, 0, 0, 0)) (cod_52 rfl) rfl rfl rfl ?_
    refine x_s (q := (.iconst 1, 0, 0, 0)) (cod_52 rfl) rfl rfl rfl ?_
    obtain ⟨c7, H8⟩ := H5
    refine x_bast (cod_52 rfl) c7.1 c7.2 (by decide) ?_
    have H10 := H8 _ rfl
    generalize umem m s0 (wr ((wr (a3 * 5)) + a4)) 1 = m9 at H10 ⊢
    refine x_s (q := (.iload_n 2, 0, 0, 0)) (cod_52 rfl) rfl rfl rfl ?_
    refine x_if (p := a2 = 0) (tgt := 116) (cod_52 rfl) (by decide) xj_eq (fun h => ?_) (fun h => ?_)
    · have H11 := H10.1 h
      refine x_s (q := (.iconst 1, 0, 0, 0)) (cod_52 rfl) rfl rfl rfl ?_
      refine x_retI (t := .boolean) (cod_52 rfl) rfl rfl rfl ?_
      exact H11
    · have H12 := H10.2 h
      refine x_s (q := (.aload_n 0, 0, 0, 0)) (cod_52 rfl) rfl rfl rfl ?_
      refine x_call (as := [(1, 3)]) (rest := []) (cod_52 rfl) rfl rfl (by decide) (by decide) rfl rfl (Nat.le_of_ble_eq_true rfl) (rcv0 sq_l_3_0 sq_p_3 (by decide)) (Nat.le_of_ble_eq_true rfl) ?_
      refine X.imp H12 ?_
      rintro _ m13 ⟨rfl, H14⟩
      show X 52 93 [(1, 3), (1, a1), (0, a2), (0, a3), (0, a4), (1, s0), (0, wr ((wr (a3 * 5)) + a4))] [] m13 _
      refine x_s (q := (.aload_n 0, 0, 0, 0)) (cod_52 rfl) rfl rfl rfl ?_
      refine x_s (q := (.sipush 999, 0, 0, 0)) (cod_52 rfl) rfl rfl rfl ?_
      refine x_call (as := [(1, 3), (0, 999)]) (rest := []) (cod_52 rfl) rfl rfl (by decide) (by decide) rfl rfl (Nat.le_of_ble_eq_true rfl) (rcv0 sq_l_3_0 sq_p_3 (by decide)) (Nat.le_of_ble_eq_true rfl) ?_
      refine X.imp H14 ?_
      rintro _ m15 ⟨v17, rfl, H16⟩
      show X 52 100 [(1, 3), (1, a1), (0, a2), (0, a3), (0, a4), (1, s0), (0, wr ((wr (a3 * 5)) + a4))] [(0, v17)] m15 _
      refine x_if (p := ¬ v17 = 0) (tgt := 105) (cod_52 rfl) (by decide) xj_ne (fun h => ?_) (fun h => ?_)
      · have H18 := H16.2 h
        refine x_aldn (cod_52 rfl) rfl (pos_of ta1 (by decide)) ?_
        refine x_gc (kk := 4) (c := (a1 + 5)) (t := 1) (cod_52 rfl) ta1 (sq_c_10_4 ta1) rfl rfl ?_
        refine x_s (q := (.iload 6, 0, 0, 0)) (cod_52 rfl) rfl rfl rfl ?_
        refine x_s (q := (.aload_n 0, 0, 0, 0)) (cod_52 rfl) rfl rfl rfl ?_
        refine x_gf (kk := 9) (t := 0) (cod_52 rfl) sq_p_3 sq_l_3_9 rfl rfl ?_
        obtain ⟨c20, H21⟩ := H18
        refine x_iast (cod_52 rfl) (sq_ac_10_4 ta1).s ((sq_ac_10_4 ta1).k c20.1 c20.2) ?_
        have H23 := H21 _ rfl
        generalize umem m15 (a1 + 5) (wr ((wr (a3 * 5)) + a4)) (m15 3 9) = m22 at H23 ⊢
        refine x_s (q := (.iconst 1, 0, 0, 0)) (cod_52 rfl) rfl rfl rfl ?_
        refine x_retI (t := .boolean) (cod_52 rfl) rfl rfl rfl ?_
        exact H23
      · have H19 := H16.1 (Classical.not_not.mp h)
        refine x_s (q := (.iconst 0, 0, 0, 0)) (cod_52 rfl) rfl rfl rfl ?_
        refine x_retI (t := .boolean) (cod_52 rfl) rfl rfl rfl ?_
        exact H19
  · have H6 := H4.2 h
    refine x_s (q := (.aload_n 0, 0, 0, 0)) (cod_52 rfl) rfl rfl rfl ?_
    refine x_s (q := (.iconst 3, 0, 0, 0)) (cod_52 rfl) rfl rfl rfl ?_
    refine x_call (as := [(1, 3), (0, 3)]) (rest := []) (cod_52 rfl) rfl rfl (by decide) (by decide) rfl rfl (Nat.le_of_ble_eq_true rfl) (rcv0 sq_l_3_0 sq_p_3 (by decide)) (Nat.le_of_ble_eq_true rfl) ?_
    refine X.imp H6 ?_
    rintro _ m24 ⟨v26, rfl, H25⟩
    show X 52 78 [(1, 3), (1, a1), (0, a2), (0, a3), (0, a4), (1, s0), (0, wr ((wr (a3 * 5)) + a4))] [(0, v26)] m24 _
    obtain ⟨c27, H28⟩ := H25
    refine x_retI (t := .boolean) (cod_52 rfl) rfl rfl (bok_b c27) ?_
    exact H28
set_option maxRecDepth 100000 in
theorem w53_0 {m : Mm} {K : Int → Mm → Prop} (a1 : Int) (a2 : Int) (ta1 : shp a1 = 30)
  (H : ((wr ((m 3 9) - 4)) < 0 → TrI 42 [(1, 3), (0, 3)] m fun v5 m3 => (v5 = 0 ∨ v5 = 1) ∧ K v5 m3) ∧ (¬ (wr ((m 3 9) - 4)) < 0 → ((wr ((m 3 9) - 4)) < 3 → (0 ≤ (wr ((m 3 9) - 4)) ∧ (wr ((m 3 9) - 4)) < 3) ∧ ((m 4 (wr ((m 3 9) - 4))) = 0 → ∀ m19, m19 = umem m 4 (wr ((m 3 9) - 4)) 1 → TrV 19 [(1, 3)] m19 fun m21 => TrI 46 [(1, 3), (0, a2)] m21 fun v25 m23 => (v25 = 0 → K 0 m23) ∧ (¬ v25 = 0 → ((m 3 9) = 4 → ∀ m36, m36 = umem m23 a1 7 (m23 3 9) → K 1 m36) ∧ (¬ (m 3 9) = 4 → ((m 3 9) = 5 → ∀ m34, m34 = umem m23 a1 8 (m23 3 9) → K 1 m34) ∧ (¬ (m 3 9) = 5 → ∀ m32, m32 = umem m23 a1 9 (m23 3 9) → K 1 m32)))) ∧ (¬ (m 4 (wr ((m 3 9) - 4))) = 0 → TrI 42 [(1, 3), (0, 3)] m fun v40 m38 => (v40 = 0 ∨ v40 = 1) ∧ K v40 m38)) ∧ (¬ (wr ((m 3 9) - 4)) < 3 → TrI 42 [(1, 3), (0, 3)] m fun v12 m10 => (v12 = 0 ∨ v12 = 1) ∧ K v12 m10))) : X 53 0 [(1, 3), (1, a1), (0, a2), (9, 0), (9, 0)] [] m (qI K) := by
  refine x_s (q := (.aload_n 0, 0, 0, 0)) (cod_53 rfl) rfl rfl rfl ?_
  refine x_gf (kk := 9) (t := 0) (cod_53 rfl) sq_p_3 sq_l_3_9 rfl rfl ?_
  refine x_s (q := (.istore_n 3, 0, 0, 0)) (cod_53 rfl) rfl rfl rfl ?_
  refine x_s (q := (.iload_n 3, 0, 0, 0)) (cod_53 rfl) rfl rfl rfl ?_
  refine x_s (q := (.iconst 4, 0, 0, 0)) (cod_53 rfl) rfl rfl rfl ?_
  refine x_s (q := (.isub, 0, 0, 0)) (cod_53 rfl) rfl rfl rfl ?_
  refine x_s (q := (.istore 4, 0, 0, 0)) (cod_53 rfl) rfl rfl rfl ?_
  refine x_s (q := (.iload 4, 0, 0, 0)) (cod_53 rfl) rfl rfl rfl ?_
  refine x_if (p := (wr ((m 3 9) - 4)) < 0) (tgt := 35) (cod_53 rfl) (by decide) xj_lt (fun h => ?_) (fun h => ?_)
  · have H1 := H.1 h
    refine x_s (q := (.aload_n 0, 0, 0, 0)) (cod_53 rfl) rfl rfl rfl ?_
    refine x_s (q := (.iconst 3, 0, 0, 0)) (cod_53 rfl) rfl rfl rfl ?_
    refine x_call (as := [(1, 3), (0, 3)]) (rest := []) (cod_53 rfl) rfl rfl (by decide) (by decide) rfl rfl (Nat.le_of_ble_eq_true rfl) (rcv0 sq_l_3_0 sq_p_3 (by decide)) (Nat.le_of_ble_eq_true rfl) ?_
    refine X.imp H1 ?_
    rintro _ m3 ⟨v5, rfl, H4⟩
    show X 53 40 [(1, 3), (1, a1), (0, a2), (0, m 3 9), (0, wr ((m 3 9) - 4))] [(0, v5)] m3 _
    obtain ⟨c6, H7⟩ := H4
    refine x_retI (t := .boolean) (cod_53 rfl) rfl rfl (bok_b c6) ?_
    exact H7
  · have H2 := H.2 h
    refine x_s (q := (.iload 4, 0, 0, 0)) (cod_53 rfl) rfl rfl rfl ?_
    refine x_s (q := (.aload_n 0, 0, 0, 0)) (cod_53 rfl) rfl rfl rfl ?_
    refine x_gc (kk := 2) (c := 4) (t := 1) (cod_53 rfl) sq_p_3 sq_l_3_2 rfl rfl ?_
    refine x_lenA (cod_53 rfl) sq_a_4 (by decide) (z := 3) rfl ?_
    refine x_ic (p := ¬ (wr ((m 3 9) - 4)) < 3) (tgt := 35) (cod_53 rfl) (by decide) xn_ge (fun h => ?_) (fun h => ?_)
    · have H8 := H2.2 h
      refine x_s (q := (.aload_n 0, 0, 0, 0)) (cod_53 rfl) rfl rfl rfl ?_
      refine x_s (q := (.iconst 3, 0, 0, 0)) (cod_53 rfl) rfl rfl rfl ?_
      refine x_call (as := [(1, 3), (0, 3)]) (rest := []) (cod_53 rfl) rfl rfl (by decide) (by decide) rfl rfl (Nat.le_of_ble_eq_true rfl) (rcv0 sq_l_3_0 sq_p_3 (by decide)) (Nat.le_of_ble_eq_true rfl) ?_
      refine X.imp H8 ?_
      rintro _ m10 ⟨v12, rfl, H11⟩
      show X 53 40 [(1, 3), (1, a1), (0, a2), (0, m 3 9), (0, wr ((m 3 9) - 4))] [(0, v12)] m10 _
      obtain ⟨c13, H14⟩ := H11
      refine x_retI (t := .boolean) (cod_53 rfl) rfl rfl (bok_b c13) ?_
      exact H14
    · have H9 := H2.1 (Classical.not_not.mp h)
      refine x_s (q := (.aload_n 0, 0, 0, 0)) (cod_53 rfl) rfl rfl rfl ?_
      refine x_gc (kk := 2) (c := 4) (t := 1) (cod_53 rfl) sq_p_3 sq_l_3_2 rfl rfl ?_
      refine x_s (q := (.iload 4, 0, 0, 0)) (cod_53 rfl) rfl rfl rfl ?_
      obtain ⟨c15, H16⟩ := H9
      refine x_bald (cod_53 rfl) sq_a_4.s (sq_a_4.k c15.1 c15.2) ?_
      refine x_if (p := (m 4 (wr ((m 3 9) - 4))) = 0) (tgt := 41) (cod_53 rfl) (by decide) xj_eq (fun h => ?_) (fun h => ?_)
      · have H17 := H16.1 h
        refine x_s (q := (.aload_n 0, 0, 0, 0)) (cod_53 rfl) rfl rfl rfl ?_
        refine x_gc (kk := 2) (c := 4) (t := 1) (cod_53 rfl) sq_p_3 sq_l_3_2 rfl rfl ?_
        refine x_s (q := (.iload 4, 0, 0, 0)) (cod_53 rfl) rfl rfl rfl ?_
        refine x_s (q := (.iconst 1, 0, 0, 0)) (cod_53 rfl) rfl rfl rfl ?_
        refine x_bast (cod_53 rfl) sq_a_4.s (sq_a_4.k c15.1 c15.2) (by decide) ?_
        have H20 := H17 _ rfl
        generalize umem m 4 (wr ((m 3 9) - 4)) 1 = m19 at H20 ⊢
        refine x_s (q := (.aload_n 0, 0, 0, 0)) (cod_53 rfl) rfl rfl rfl ?_
        refine x_call (as := [(1, 3)]) (rest := []) (cod_53 rfl) rfl rfl (by decide) (by decide) rfl rfl (Nat.le_of_ble_eq_true rfl) (rcv0 sq_l_3_0 sq_p_3 (by decide)) (Nat.le_of_ble_eq_true rfl) ?_
        refine X.imp H20 ?_
        rintro _ m21 ⟨rfl, H22⟩
        show X 53 53 [(1, 3), (1, a1), (0, a2), (0, m 3 9), (0, wr ((m 3 9) - 4))] [] m21 _
        refine x_s (q := (.aload_n 0, 0, 0, 0)) (cod_53 rfl) rfl rfl rfl ?_
        refine x_s (q := (.iload_n 2, 0, 0, 0)) (cod_53 rfl) rfl rfl rfl ?_
        refine x_call (as := [(1, 3), (0, a2)]) (rest := []) (cod_53 rfl) rfl rfl (by decide) (by decide) rfl rfl (Nat.le_of_ble_eq_true rfl) (rcv0 sq_l_3_0 sq_p_3 (by decide)) (Nat.le_of_ble_eq_true rfl) ?_
        refine X.imp H22 ?_
        rintro _ m23 ⟨v25, rfl, H24⟩
        show X 53 58 [(1, 3), (1, a1), (0, a2), (0, m 3 9), (0, wr ((m 3 9) - 4))] [(0, v25)] m23 _
        refine x_if (p := ¬ v25 = 0) (tgt := 63) (cod_53 rfl) (by decide) xj_ne (fun h => ?_) (fun h => ?_)
        · have H26 := H24.2 h
          refine x_s (q := (.iload_n 3, 0, 0, 0)) (cod_53 rfl) rfl rfl rfl ?_
          refine x_s (q := (.iconst 4, 0, 0, 0)) (cod_53 rfl) rfl rfl rfl ?_
          refine x_ic (p := ¬ (m 3 9) = 4) (tgt := 79) (cod_53 rfl) (by decide) xj_ne (fun h => ?_) (fun h => ?_)
          · have H28 := H26.2 h
            refine x_s (q := (.iload_n 3, 0, 0, 0)) (cod_53 rfl) rfl rfl rfl ?_
            refine x_s (q := (.iconst 5, 0, 0, 0)) (cod_53 rfl) rfl rfl rfl ?_
            refine x_ic (p := ¬ (m 3 9) = 5) (tgt := 95) (cod_53 rfl) (by decide) xj_ne (fun h => ?_) (fun h => ?_)
            · have H30 := H28.2 h
              refine x_aldn (cod_53 rfl) rfl (pos_of ta1 (by decide)) ?_
              refine x_s (q := (.aload_n 0, 0, 0, 0)) (cod_53 rfl) rfl rfl rfl ?_
              refine x_gf (kk := 9) (t := 0) (cod_53 rfl) sq_p_3 sq_l_3_9 rfl rfl ?_
              refine x_pf (kk := 9) (t := 0) (cod_53 rfl) ta1 (sq_c_10_9 ta1) rfl rfl rfl ?_
              have H33 := H30 _ rfl
              generalize umem m23 a1 9 (m23 3 9) = m32 at H33 ⊢
              refine x_s (q := (.iconst 1, 0, 0, 0)) (cod_53 rfl) rfl rfl rfl ?_
              refine x_retI (t := .boolean) (cod_53 rfl) rfl rfl rfl ?_
              exact H33
            · have H31 := H28.1 (Classical.not_not.mp h)
              refine x_aldn (cod_53 rfl) rfl (pos_of ta1 (by decide)) ?_
              refine x_s (q := (.aload_n 0, 0, 0, 0)) (cod_53 rfl) rfl rfl rfl ?_
              refine x_gf (kk := 9) (t := 0) (cod_53 rfl) sq_p_3 sq_l_3_9 rfl rfl ?_
              refine x_pf (kk := 8) (t := 0) (cod_53 rfl) ta1 (sq_c_10_8 ta1) rfl rfl rfl ?_
              have H35 := H31 _ rfl
              generalize umem m23 a1 8 (m23 3 9) = m34 at H35 ⊢
              refine x_go (tgt := 103) (cod_53 rfl) (by decide) ?_
              refine x_s (q := (.iconst 1, 0, 0, 0)) (cod_53 rfl) rfl rfl rfl ?_
              refine x_retI (t := .boolean) (cod_53 rfl) rfl rfl rfl ?_
              exact H35
          · have H29 := H26.1 (Classical.not_not.mp h)
            refine x_aldn (cod_53 rfl) rfl (pos_of ta1 (by decide)) ?_
            refine x_s (q := (.aload_n 0, 0, 0, 0)) (cod_53 rfl) rfl rfl rfl ?_
            refine x_gf (kk := 9) (t := 0) (cod_53 rfl) sq_p_3 sq_l_3_9 rfl rfl ?_
            refine x_pf (kk := 7) (t := 0) (cod_53 rfl) ta1 (sq_c_10_7 ta1) rfl rfl rfl ?_
            have H37 := H29 _ rfl
            generalize umem m23 a1 7 (m23 3 9) = m36 at H37 ⊢
            refine x_go (tgt := 103) (cod_53 rfl) (by decide) ?_
            refine x_s (q := (.iconst 1, 0, 0, 0)) (cod_53 rfl) rfl rfl rfl ?_
            refine x_retI (t := .boolean) (cod_53 rfl) rfl rfl rfl ?_
            exact H37
        · have H27 := H24.1 (Classical.not_not.mp h)
          refine x_s (q := (.iconst 0, 0, 0, 0)) (cod_53 rfl) rfl rfl rfl ?_
          refine x_retI (t := .boolean) (cod_53 rfl) rfl rfl rfl ?_
          exact H27
      · have H18 := H16.2 h
        refine x_s (q := (.aload_n 0, 0, 0, 0)) (cod_53 rfl) rfl rfl rfl ?_
        refine x_s (q := (.iconst 3, 0, 0, 0)) (cod_53 rfl) rfl rfl rfl ?_
        refine x_call (as := [(1, 3), (0, 3)]) (rest := []) (cod_53 rfl) rfl rfl (by decide) (by decide) rfl rfl (Nat.le_of_ble_eq_true rfl) (rcv0 sq_l_3_0 sq_p_3 (by decide)) (Nat.le_of_ble_eq_true rfl) ?_
        refine X.imp H18 ?_
        rintro _ m38 ⟨v40, rfl, H39⟩
        show X 53 40 [(1, 3), (1, a1), (0, a2), (0, m 3 9), (0, wr ((m 3 9) - 4))] [(0, v40)] m38 _
        obtain ⟨c41, H42⟩ := H39
        refine x_retI (t := .boolean) (cod_53 rfl) rfl rfl (bok_b c41) ?_
        exact H42
theorem e53 {m : Mm} {K : Int → Mm → Prop} (a1 : Int) (a2 : Int) (ta1 : shp a1 = 30)
  (H : ((wr ((m 3 9) - 4)) < 0 → TrI 42 [(1, 3), (0, 3)] m fun v5 m3 => (v5 = 0 ∨ v5 = 1) ∧ K v5 m3) ∧ (¬ (wr ((m 3 9) - 4)) < 0 → ((wr ((m 3 9) - 4)) < 3 → (0 ≤ (wr ((m 3 9) - 4)) ∧ (wr ((m 3 9) - 4)) < 3) ∧ ((m 4 (wr ((m 3 9) - 4))) = 0 → ∀ m19, m19 = umem m 4 (wr ((m 3 9) - 4)) 1 → TrV 19 [(1, 3)] m19 fun m21 => TrI 46 [(1, 3), (0, a2)] m21 fun v25 m23 => (v25 = 0 → K 0 m23) ∧ (¬ v25 = 0 → ((m 3 9) = 4 → ∀ m36, m36 = umem m23 a1 7 (m23 3 9) → K 1 m36) ∧ (¬ (m 3 9) = 4 → ((m 3 9) = 5 → ∀ m34, m34 = umem m23 a1 8 (m23 3 9) → K 1 m34) ∧ (¬ (m 3 9) = 5 → ∀ m32, m32 = umem m23 a1 9 (m23 3 9) → K 1 m32)))) ∧ (¬ (m 4 (wr ((m 3 9) - 4))) = 0 → TrI 42 [(1, 3), (0, 3)] m fun v40 m38 => (v40 = 0 ∨ v40 = 1) ∧ K v40 m38)) ∧ (¬ (wr ((m 3 9) - 4)) < 3 → TrI 42 [(1, 3), (0, 3)] m fun v12 m10 => (v12 = 0 ∨ v12 = 1) ∧ K v12 m10))) : TrI 53 [(1, 3), (1, a1), (0, a2)] m K := by
  exact w53_0 a1 a2 ta1 H
set_option maxRecDepth 100000 in
theorem w54_0 {m : Mm} {K : Mm → Prop} (a0 : Int) (a1 : Int) (ta0 : shp a0 = 22) (ta1 : shp a1 = 30)
  (H : X 54 2 [(1, a0), (1, a1), (0, 0)] [] m (qV K)) : X 54 0 [(1, a0), (1, a1), (9, 0)] [] m (qV K) := by
  refine x_s (q := (.iconst 0, 0, 0, 0)) (cod_54 rfl) rfl rfl rfl ?_
  refine x_s (q := (.istore_n 2, 0, 0, 0)) (cod_54 rfl) rfl rfl rfl ?_
  exact H
theorem e54 {m : Mm} {K : Mm → Prop} (a0 : Int) (a1 : Int) (ta0 : shp a0 = 22) (ta1 : shp a1 = 30)
  (H : X 54 2 [(1, a0), (1, a1), (0, 0)] [] m (qV K)) : TrV 54 [(1, a0), (1, a1)] m K := by
  exact w54_0 a0 a1 ta0 ta1 H
set_option maxRecDepth 100000 in
theorem w54_2 {m : Mm} {K : Mm → Prop} (a0 : Int) (a1 : Int) (a2 : Int) (ta0 : shp a0 = 22) (ta1 : shp a1 = 30)
  (H : (a2 < 24 → (a2 < (m a1 5) → (0 ≤ a2 ∧ a2 < 24) ∧ ∀ m15, m15 = umem m (a0 + 1) a2 (m (a1 + 6 + 2 * a2) 7) → X 54 2 [(1, a0), (1, a1), (0, wr (a2 + 1))] [] m15 (qV K)) ∧ (¬ a2 < (m a1 5) → (0 ≤ a2 ∧ a2 < 24) ∧ ∀ m11, m11 = umem m (a0 + 1) a2 0 → X 54 2 [(1, a0), (1, a1), (0, wr (a2 + 1))] [] m11 (qV K))) ∧ (¬ a2 < 24 → TrV 55 [(1, a0)] m fun m3 => TrV 56 [(1, a0)] m3 fun m5 => K m5)) : X 54 2 [(1, a0), (1, a1), (0, a2)] [] m (qV K) := by
  refine x_s (q := (.iload_n 2, 0, 0, 0)) (cod_54 rfl) rfl rfl rfl ?_
  refine x_s (q := (.bipush 24, 0, 0, 0)) (cod_54 rfl) rfl rfl rfl ?_
  refine x_ic (p := ¬ a2 < 24) (tgt := 41) (cod_54 rfl) (by decide) xn_ge (fun h => ?_) (fun h => ?_)
  · have H1 := H.2 h
    refine x_aldn (cod_54 rfl) rfl (pos_of ta0 (by decide)) ?_
    refine x_call (as := [(1, a0)]) (rest := []) (cod_54 rfl) rfl rfl (by decide) (by decide) rfl rfl (Nat.le_of_ble_eq_true rfl) (rcv0 (sq_c_2_0 ta0) ta0 (by decide)) (Nat.le_of_ble_eq_true rfl) ?_
    refine X.imp H1 ?_
    rintro _ m3 ⟨rfl, H4⟩
    show X 54 45 [(1, a0), (1, a1), (0, a2)] [] m3 _
    refine x_aldn (cod_54 rfl) rfl (pos_of ta0 (by decide)) ?_
    refine x_call (as := [(1, a0)]) (rest := []) (cod_54 rfl) rfl rfl (by decide) (by decide) rfl rfl (Nat.le_of_ble_eq_true rfl) (rcv0 (sq_c_2_0 ta0) ta0 (by decide)) (Nat.le_of_ble_eq_true rfl) ?_
    refine X.imp H4 ?_
    rintro _ m5 ⟨rfl, H6⟩
    show X 54 49 [(1, a0), (1, a1), (0, a2)] [] m5 _
    refine x_retV (cod_54 rfl) rfl ?_
    exact H6
  · have H2 := H.1 (Classical.not_not.mp h)
    refine x_aldn (cod_54 rfl) rfl (pos_of ta0 (by decide)) ?_
    refine x_gc (kk := 0) (c := (a0 + 1)) (t := 1) (cod_54 rfl) ta0 (sq_c_2_0 ta0) rfl rfl ?_
    refine x_s (q := (.iload_n 2, 0, 0, 0)) (cod_54 rfl) rfl rfl rfl ?_
    refine x_s (q := (.iload_n 2, 0, 0, 0)) (cod_54 rfl) rfl rfl rfl ?_
    refine x_aldn (cod_54 rfl) rfl (pos_of ta1 (by decide)) ?_
    refine x_gf (kk := 5) (t := 0) (cod_54 rfl) ta1 (sq_c_10_5 ta1) rfl rfl ?_
    refine x_ic (p := ¬ a2 < (m a1 5)) (tgt := 33) (cod_54 rfl) (by decide) xn_ge (fun h => ?_) (fun h => ?_)
    · have H7 := H2.2 h
      refine x_s (q := (.iconst 0, 0, 0, 0)) (cod_54 rfl) rfl rfl rfl ?_
      obtain ⟨c9, H10⟩ := H7
      refine x_iast (cod_54 rfl) (sq_ac_2_0 ta0).s ((sq_ac_2_0 ta0).k c9.1 c9.2) ?_
      have H12 := H10 _ rfl
      generalize umem m (a0 + 1) a2 0 = m11 at H12 ⊢
      refine x_s (q := (.iinc 2 1, 0, 0, 0)) (cod_54 rfl) rfl rfl rfl ?_
      refine x_go (tgt := 2) (cod_54 rfl) (by decide) ?_
      exact H12
    · have H8 := H2.1 (Classical.not_not.mp h)
      refine x_aldn (cod_54 rfl) rfl (pos_of ta1 (by decide)) ?_
      refine x_gc (kk := 0) (c := (a1 + 1)) (t := 1) (cod_54 rfl) ta1 (sq_c_10_0 ta1) rfl rfl ?_
      refine x_s (q := (.iload_n 2, 0, 0, 0)) (cod_54 rfl) rfl rfl rfl ?_
      obtain ⟨c13, H14⟩ := H8
      refine x_aaldc (c := (a1 + 6 + 2 * a2)) (cod_54 rfl) (by rw [(sq_oa_10_0 (j := a2) ta1 c13.1 c13.2).2.1]; decide) (sq_oa_10_0 (j := a2) ta1 c13.1 c13.2).1 ?_
      refine x_gf (kk := 7) (t := 0) (cod_54 rfl) (sq_oa_10_0 (j := a2) ta1 c13.1 c13.2).2.2 (sq_c_7_7 (sq_oa_10_0 (j := a2) ta1 c13.1 c13.2).2.2) rfl rfl ?_
      refine x_go (tgt := 34) (cod_54 rfl) (by decide) ?_
      refine x_iast (cod_54 rfl) (sq_ac_2_0 ta0).s ((sq_ac_2_0 ta0).k c13.1 c13.2) ?_
      have H16 := H14 _ rfl
      generalize umem m (a0 + 1) a2 (m (a1 + 6 + 2 * a2) 7) = m15 at H16 ⊢
      refine x_s (q := (.iinc 2 1, 0, 0, 0)) (cod_54 rfl) rfl rfl rfl ?_
      refine x_go (tgt := 2) (cod_54 rfl) (by decide) ?_
      exact H16
