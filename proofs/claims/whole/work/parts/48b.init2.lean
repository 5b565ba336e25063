set_option maxRecDepth 1000000 in
theorem mK_3 : many 3000 true 0 10 sK_2 = some sK_3 := eqS_t (by decide +kernel)
set_option maxRecDepth 1000000 in
theorem mK_4 : many 3000 true 0 5 sK_3 = some sK_4 := eqS_t (by decide +kernel)
set_option maxRecDepth 1000000 in
theorem mK_5 : many 3000 true 0 5 sK_4 = some sK_5 := eqS_t (by decide +kernel)
set_option maxRecDepth 1000000 in
theorem mK_6 : many 3000 true 0 5 sK_5 = some sK_6 := eqS_t (by decide +kernel)
set_option maxRecDepth 1000000 in
theorem mK_7 : many 3000 true 0 10 sK_6 = some sK_7 := eqS_t (by decide +kernel)
set_option maxRecDepth 1000000 in
theorem mK_8 : many 3000 true 0 10 sK_7 = some sK_8 := eqS_t (by decide +kernel)
set_option maxRecDepth 1000000 in
theorem mK_9 : many 3000 true 0 16 sK_8 = some sK_9 := eqS_t (by decide +kernel)
set_option maxRecDepth 1000000 in
theorem mK_M : many 3000 true 162 272 sM_s = some sM_e := eqS_t (by decide +kernel)
set_option maxRecDepth 1000000 in
theorem ctor0 : EndA true 0 sK_s (none, hC) := by
  have h9 : EndA true 0 sK_9 (none, hC) := ⟨1, by
    unfold runA
    rw [show cod 0 sK_9.1 = some (.return_, 0, 0, 0) from cod_0 rfl]
    rfl⟩
  exact many_end _ mK_0 (many_end _ mK_1 (many_end _ mK_2 (many_end _ mK_3 (many_end _ mK_4 (many_end _ mK_5 (many_end _ mK_6 (many_end _ mK_7 (many_end _ mK_8 (many_end _ mK_9 h9)))))))))
set_option maxRecDepth 1000000 in
theorem ctorM : EndA true 162 sM_s (none, hM) := by
  have h9 : EndA true 162 sM_e (none, hM) := ⟨1, by
    unfold runA
    rw [show cod 162 sM_e.1 = some (.return_, 0, 0, 0) from cod_162 rfl]
    rfl⟩
  exact many_end _ mK_M h9
