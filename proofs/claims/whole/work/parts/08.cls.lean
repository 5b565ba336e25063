theorem gT_mem {w : Cond} (h : w ∈ lw_tbl) (g : goodWord w = true) : w ∈ gT := List.mem_filter.mpr ⟨h, g⟩
theorem gT_t {w : Cond} (i : Nat) (h : tables_1[i]? = some w) (g : goodWord w = true) : w ∈ gT := gT_mem (List.mem_append_right _ (List.mem_of_getElem? h)) g
theorem gT_s {w : Cond} (i : Nat) (h : (k2_sels lw_privs)[i]? = some w) (g : goodWord w = true) : w ∈ gT := gT_mem (List.mem_append_left _ (List.mem_of_getElem? h)) g
theorem gT_good : ∀ w ∈ gT, ((w.onTables && w.keeps) = true ∨ ∃ ty, w = .arrayClass ty) := fun w h => good_of_word (List.mem_filter.mp h).2
theorem inT0 : ∀ w ∈ wsX00, w ∈ gT := fun w h => gT_mem ((by decide +kernel : ∀ w ∈ wsX00, w ∈ lw_tbl) w h) (List.all_eq_true.mp (by decide +kernel : wsX00.all goodWord = true) w h)
theorem inT1 : ∀ w ∈ wsX10, w ∈ gT := fun w h => gT_mem ((by decide +kernel : ∀ w ∈ wsX10, w ∈ lw_tbl) w h) (List.all_eq_true.mp (by decide +kernel : wsX10.all goodWord = true) w h)
theorem inT2 : ∀ w ∈ wsX20, w ∈ gT := fun w h => gT_mem ((by decide +kernel : ∀ w ∈ wsX20, w ∈ lw_tbl) w h) (List.all_eq_true.mp (by decide +kernel : wsX20.all goodWord = true) w h)
theorem inT3 : ∀ w ∈ wsX30, w ∈ gT := fun w h => gT_mem ((by decide +kernel : ∀ w ∈ wsX30, w ∈ lw_tbl) w h) (List.all_eq_true.mp (by decide +kernel : wsX30.all goodWord = true) w h)
theorem inT4 : ∀ w ∈ wsX40, w ∈ gT := fun w h => gT_mem ((by decide +kernel : ∀ w ∈ wsX40, w ∈ lw_tbl) w h) (List.all_eq_true.mp (by decide +kernel : wsX40.all goodWord = true) w h)
theorem inT5 : ∀ w ∈ wsX50, w ∈ gT := fun w h => gT_mem ((by decide +kernel : ∀ w ∈ wsX50, w ∈ lw_tbl) w h) (List.all_eq_true.mp (by decide +kernel : wsX50.all goodWord = true) w h)
theorem inT6 : ∀ w ∈ wsX60, w ∈ gT := fun w h => gT_mem ((by decide +kernel : ∀ w ∈ wsX60, w ∈ lw_tbl) w h) (List.all_eq_true.mp (by decide +kernel : wsX60.all goodWord = true) w h)
theorem inT7 : ∀ w ∈ wsX70, w ∈ gT := fun w h => gT_mem ((by decide +kernel : ∀ w ∈ wsX70, w ∈ lw_tbl) w h) (List.all_eq_true.mp (by decide +kernel : wsX70.all goodWord = true) w h)
theorem inT8 : ∀ w ∈ wsX80, w ∈ gT := fun w h => gT_mem ((by decide +kernel : ∀ w ∈ wsX80, w ∈ lw_tbl) w h) (List.all_eq_true.mp (by decide +kernel : wsX80.all goodWord = true) w h)
theorem inT9 : ∀ w ∈ wsX90, w ∈ gT := fun w h => gT_mem ((by decide +kernel : ∀ w ∈ wsX90, w ∈ lw_tbl) w h) (List.all_eq_true.mp (by decide +kernel : wsX90.all goodWord = true) w h)
theorem inT10 : ∀ w ∈ wsX100, w ∈ gT := fun w h => gT_mem ((by decide +kernel : ∀ w ∈ wsX100, w ∈ lw_tbl) w h) (List.all_eq_true.mp (by decide +kernel : wsX100.all goodWord = true) w h)
theorem inT11 : ∀ w ∈ wsX110, w ∈ gT := fun w h => gT_mem ((by decide +kernel : ∀ w ∈ wsX110, w ∈ lw_tbl) w h) (List.all_eq_true.mp (by decide +kernel : wsX110.all goodWord = true) w h)
theorem inT12 : ∀ w ∈ wsX120, w ∈ gT := fun w h => gT_mem ((by decide +kernel : ∀ w ∈ wsX120, w ∈ lw_tbl) w h) (List.all_eq_true.mp (by decide +kernel : wsX120.all goodWord = true) w h)
def clP (ci : Nat) (r : vw_C) : Prop := (∀ w ∈ u_ws r.1 r.2.1 r.2.2, w ∈ gT) ∧ (∀ k, k < r.2.2 → parseFieldDescriptor (r.2.1 k).2.2.1 = some (aty ci k)) ∧ (∀ a, a < r.2.2 → ∀ b, b < r.2.2 → a ≠ b → (r.2.1 a).2.1 ≠ (r.2.1 b).2.1)
theorem cls_ok (ci : Nat) (r : vw_C) (h : vwCl[ci]? = some r) : ci < 13 ∧ clP ci r := by
  have hl : ci < 13 := (List.getElem?_eq_some_iff.mp h).1
  refine ⟨hl, ?_⟩
  match ci, hl, h with
  | 0, _, h => cases h; exact ⟨inT0, tyX0_ok, nmX0⟩
  | 1, _, h => cases h; exact ⟨inT1, tyX1_ok, nmX1⟩
  | 2, _, h => cases h; exact ⟨inT2, tyX2_ok, nmX2⟩
  | 3, _, h => cases h; exact ⟨inT3, tyX3_ok, nmX3⟩
  | 4, _, h => cases h; exact ⟨inT4, tyX4_ok, nmX4⟩
  | 5, _, h => cases h; exact ⟨inT5, tyX5_ok, nmX5⟩
  | 6, _, h => cases h; exact ⟨inT6, tyX6_ok, nmX6⟩
  | 7, _, h => cases h; exact ⟨inT7, tyX7_ok, nmX7⟩
  | 8, _, h => cases h; exact ⟨inT8, tyX8_ok, nmX8⟩
  | 9, _, h => cases h; exact ⟨inT9, tyX9_ok, nmX9⟩
  | 10, _, h => cases h; exact ⟨inT10, tyX10_ok, nmX10⟩
  | 11, _, h => cases h; exact ⟨inT11, tyX11_ok, nmX11⟩
  | 12, _, h => cases h; exact ⟨inT12, tyX12_ok, nmX12⟩
theorem agI : Cond.arrayClass .int ∈ gT := gT_t 73 (by decide +kernel) rfl
theorem agZ : Cond.arrayClass .boolean ∈ gT := gT_t 74 (by decide +kernel) rfl
theorem agL : Cond.arrayClass .long ∈ gT := gT_t 350 (by decide +kernel) rfl
/-- what the tables say of an instruction's places in the pool -/
def okR (M : Nat) (q : aI) : Prop := match q.1 with
  | .ldc idx => (q.2.2.1 = 0 → Cond.constant (mY M).cls idx (i3 q.2.1) ∈ gT) ∧ (q.2.2.1 = 4 → ∃ tx, ((mY M).cls, idx, tx, q.2.1.toNat) ∈ srT)
  | .ldc_w idx => (q.2.2.1 = 0 → Cond.constant (mY M).cls idx (i3 q.2.1) ∈ gT) ∧ (q.2.2.1 = 4 → ∃ tx, ((mY M).cls, idx, tx, q.2.1.toNat) ∈ srT)
  | .ldc2_w idx => Cond.constantLong (mY M).cls idx (i6 q.2.1) ∈ gT
  | .getfield idx => (q.2.2.1 < 13 → ∃ r, vwCl[q.2.2.1]? = some r ∧ q.2.2.2 < r.2.2 ∧ Cond.fieldLink (mY M).cls idx (r.2.1 q.2.2.2).1 (r.2.1 q.2.2.2).2.1 (r.2.1 q.2.2.2).2.2.1 ∈ gT) ∧ (q.2.2.1 = 100 → Cond.fieldLink (mY M).cls idx "java/lang/String" "coder" "B" ∈ gT) ∧ (q.2.2.1 = 101 → Cond.fieldLink (mY M).cls idx "java/lang/String" "value" "[B" ∈ gT)
  | .putfield idx => q.2.2.1 < 13 → ∃ r, vwCl[q.2.2.1]? = some r ∧ q.2.2.2 < r.2.2 ∧ Cond.fieldLink (mY M).cls idx (r.2.1 q.2.2.2).1 (r.2.1 q.2.2.2).2.1 (r.2.1 q.2.2.2).2.2.1 ∈ gT ∧ ((r.2.1 q.2.2.2).2.2.2 = true → (mY M).name = "<init>" ∧ (r.2.1 q.2.2.2).1 = (mY M).cls)
  | .getstatic idx => (q.2.2.1 = 0 → Cond.fieldLink (mY M).cls idx "java/lang/String" "COMPACT_STRINGS" "Z" ∈ gT) ∧ (q.2.2.1 = 6 → Cond.fieldLink (mY M).cls idx "jdk/internal/util/Preconditions" "SIOOBE_FORMATTER" "Ljava/util/function/BiFunction;" ∈ gT)
  | .new idx => q.2.2.1 < 13 → ∃ r, vwCl[q.2.2.1]? = some r ∧ Cond.classLink (mY M).cls idx r.1 ∈ gT ∧ Cond.instantiable r.1 r.2.2 ∈ gT ∧ Cond.initialized r.1 ∈ gT
  | .newarray t => shOf t < 3
  | .anewarray idx => (q.2.2.1 = 3 ∨ q.2.2.1 = 4 ∨ q.2.2.1 = 5 ∨ q.2.2.1 = 8) ∧ ∃ C, aft q.2.2.1 = .object C ∧ Cond.classLink (mY M).cls idx C ∈ gT
  | .multianewarray idx d => d = 2 ∧ ∃ ty, ((q.2.2.1 = 6 ∧ ty = .int) ∨ (q.2.2.1 = 7 ∧ ty = .long)) ∧ Cond.classLink (mY M).cls idx ("[" ++ (FieldType.array ty).toString) ∈ gT
  | _ => True
