/-! what the small methods answer, third -/
theorem p219 {m : Mm} {c b : Int} (h : -1000 < c ∧ c < 1000) : Tr 219 [(0, c), (0, b)] m fun rv m1 => rv = some (0, bi (letB c b = true)) ∧ m1 = m := TrI.pure (e219 c b (by
  unfold letB
  grind [bi]))
theorem p216 {m : Mm} {r last : Int} (H : v_M m r) : Tr 216 [(1, 597), (0, r), (0, last)] m fun rv m1 => rv = some (0, bi (fbB (m 602 (11 * r + 2)) last = true)) ∧ m1 = m := TrI.pure (e216 r last (by
  obtain ⟨h1, h2, h3, h4, h5, h6, h7⟩ := H
  rw [wrI (x := 11 * r) (by omega) (by omega), wrI (x := 11 * r + 2) (by omega) (by omega)]
  unfold fbB
  grind [bi]))
