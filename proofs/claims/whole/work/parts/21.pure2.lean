/-! what the small methods answer, second. v_R, v_E: a READING, an ENTRY of a table that stands; v_M: a reading of the reference -/
def asB (l c : Int) : Bool := if c = 2 then vowB l else if c = 3 then !vowB l else decide (l = c - 4)
def letB (c b : Int) : Bool := if c = 0 then true else if b < 0 then decide (c = 1) else if b < 32 then decide (c > 1) && (!decide (c = 30) && asB b c) else decide (c = 30)
def fbB (c last : Int) : Bool := if c = 0 then true else if c = 1 then decide (last < 0) else decide (0 ≤ last) && asB last c
def v_R (m : Mm) (x : Int) : Prop := shp x = 27 ∧ (0 ≤ m x 2 ∧ m x 2 ≤ 6) ∧ ∀ i, 0 ≤ i → i < m x 2 → 97 ≤ m (x + 1) i ∧ m (x + 1) i ≤ 122
def v_E (m : Mm) (y : Int) : Prop := shp y = 21 ∧ (0 ≤ m y 1 ∧ m y 1 ≤ 8) ∧ ∀ i, 0 ≤ i → i < m y 1 → 97 ≤ m (y + 1) i ∧ m (y + 1) i ≤ 122
def cAft (m : Mm) (x last : Int) : Int := if m x 2 > 0 then m (x + 1) (m x 2 - 1) - 96 else last
def cAt (m : Mm) (y i : Int) : Int := if 0 ≤ i ∧ i < m y 1 then m (y + 1) i - 96 else 0
def lAt (m : Mm) (x f i : Int) : Int := if 0 ≤ i ∧ i < m x f then m (x + 1) i else 0
def ahd (m : Mm) (t last : Int) : Int := if last = 0 then 268435455 else m (t + 6 + 2 * (last - 1)) 6
def v_W (m : Mm) (b r h : Int) : Prop := shp b = 22 ∧ (0 ≤ r ∧ r < 24) ∧ (0 ≤ h ∧ h ≤ 99) ∧ (0 ≤ m (b + 1) r ∧ m (b + 1) r ≤ 999) ∧ (0 ≤ m (b + 2) r ∧ m (b + 2) r ≤ 999)
def v_V (m : Mm) (r : Int) : Prop := m 597 16 = 0 ∧ (0 ≤ r ∧ r < 24) ∧ (0 ≤ m 602 581 ∧ m 602 581 ≤ 99) ∧ (0 ≤ m 607 r ∧ m 607 r ≤ 999) ∧ (0 ≤ m 607 (24 + r) ∧ m 607 (24 + r) ≤ 999)
def wnow (m : Mm) (r : Int) : Int := max 0 (m 607 r - m 602 581 * m 607 (24 + r))
def v_M (m : Mm) (r : Int) : Prop := m 597 16 = 0 ∧ (0 ≤ r ∧ r < 24) ∧ (0 ≤ m 602 (11 * r) ∧ m 602 (11 * r) < 10) ∧ (0 ≤ m 602 (11 * r + 1) ∧ m 602 (11 * r + 1) ≤ 6) ∧ (0 ≤ m 602 (11 * r + 2) ∧ m 602 (11 * r + 2) ≤ 30) ∧ (0 ≤ m 602 (11 * r + 3) ∧ m 602 (11 * r + 3) ≤ 30) ∧ ∀ i, 0 ≤ i → i < m 602 (11 * r + 1) → 0 ≤ m 602 (11 * r + 5 + i) ∧ m 602 (11 * r + 5 + i) < 26
def lasB (m : Mm) (r last : Int) : Int := if m 602 (11 * r + 1) = 0 then last else m 602 (11 * r + 5 + (m 602 (11 * r + 1) - 1))
def lasO (m : Mm) (e k : Int) : Int := if k = 0 then -1 else m 602 (264 + 11 * e + 3 + (k - 1))
theorem p217 {m : Mm} {l c : Int} (h : -1000 < c ∧ c < 1000) : Tr 217 [(0, l), (0, c)] m fun rv m1 => rv = some (0, bi (asB l c = true)) ∧ m1 = m := TrI.pure (e217 l c (by
  rw [wrI (x := c - 4) (by omega) (by omega)]
  grind [bi, asB]))
theorem p84 {m : Mm} {x last : Int} (h : v_R m x) : Tr 84 [(1, x), (0, last)] m fun rv m1 => rv = some (0, cAft m x last) ∧ m1 = m := TrI.pure (e84 x last h.1 (by
  obtain ⟨h1, h2, h3⟩ := h
  unfold cAft
  refine ⟨fun h0 => ?_, fun h0 => ⟨by rw [if_neg h0], rfl⟩⟩
  have := h3 (m x 2 - 1) (by omega) (by omega)
  rw [if_pos h0, wrI (x := m x 2 - 1) (by omega) (by omega), wrI (x := m (x + 1) (m x 2 - 1) - 97) (by omega) (by omega), wrI (by omega) (by omega)]
  exact ⟨by omega, by omega, rfl⟩))
theorem p93 {m : Mm} {y i : Int} (h : v_E m y) : Tr 93 [(1, y), (0, i)] m fun rv m1 => rv = some (0, cAt m y i) ∧ m1 = m := TrI.pure (e93 y i h.1 (by
  obtain ⟨h1, h2, h3⟩ := h
  unfold cAt
  refine ⟨fun h0 => ⟨by rw [if_neg (by omega)], rfl⟩, fun h0 => ⟨fun h4 => ⟨fun h5 => ⟨by omega, ?_, rfl⟩, fun h5 => absurd h5 (by omega)⟩, fun h4 => ⟨by rw [if_neg (by omega)], rfl⟩⟩⟩
  have := h3 i (by omega) h4
  rw [if_pos (by omega), wrI (x := m (y + 1) i - 97) (by omega) (by omega), wrI (by omega) (by omega)]
  omega))
theorem p71 {m : Mm} {x i : Int} (h : v_R m x) : Tr 71 [(1, x), (0, i)] m fun rv m1 => rv = some (0, lAt m x 2 i) ∧ m1 = m := TrI.pure (e71 x i h.1 (by
  obtain ⟨h1, h2, h3⟩ := h
  unfold lAt
  refine ⟨fun h0 => ⟨by rw [if_neg (by omega)], rfl⟩, fun h0 => ⟨fun h4 => ⟨fun h5 => ⟨by omega, by rw [if_pos (by omega)], rfl⟩, fun h5 => absurd h5 (by omega)⟩, fun h4 => ⟨by rw [if_neg (by omega)], rfl⟩⟩⟩))
theorem p72 {m : Mm} {x i : Int} (h : v_E m x) : Tr 72 [(1, x), (0, i)] m fun rv m1 => rv = some (0, lAt m x 1 i) ∧ m1 = m := TrI.pure (e72 x i h.1 (by
  obtain ⟨h1, h2, h3⟩ := h
  unfold lAt
  refine ⟨fun h0 => ⟨by rw [if_neg (by omega)], rfl⟩, fun h0 => ⟨fun h4 => ⟨fun h5 => ⟨by omega, by rw [if_pos (by omega)], rfl⟩, fun h5 => absurd h5 (by omega)⟩, fun h4 => ⟨by rw [if_neg (by omega)], rfl⟩⟩⟩))
theorem p132 {m : Mm} {t last : Int} (h : shp t = 30 ∧ 0 ≤ last ∧ last ≤ 24) : Tr 132 [(1, t), (0, last)] m fun rv m1 => rv = some (0, ahd m t last) ∧ m1 = m := TrI.pure (e132 t last h.1 (by
  unfold ahd
  refine ⟨fun h0 => ⟨by rw [if_pos h0], rfl⟩, fun h0 => ?_⟩
  rw [wrI (x := last - 1) (by omega) (by omega), if_neg h0]
  exact ⟨by omega, rfl, rfl⟩))
theorem p78 {m : Mm} {b r h : Int} (H : v_W m b r h) : Tr 78 [(1, b), (0, r), (0, h)] m fun rv m1 => rv = some (0, max 0 (m (b + 1) r - h * m (b + 2) r)) ∧ m1 = m := TrI.pure (e78 b r h H.1 (by
  obtain ⟨h1, h2, h3, h4, h5⟩ := H
  have := mul_rng h3.1 h3.2 h5.1 h5.2
  rw [wrI (x := h * m (b + 2) r) (by omega) (by omega), wrI (by omega) (by omega)]
  exact ⟨h2, rfl, rfl⟩))
theorem p203 {m : Mm} {r : Int} (H : v_V m r) : Tr 203 [(1, 597), (0, r)] m fun rv m1 => rv = some (0, wnow m r) ∧ m1 = m := TrI.pure (e203 r (by
  obtain ⟨h1, h2, h3, h4, h5⟩ := H
  have := mul_rng h3.1 h3.2 h5.1 h5.2
  unfold wnow
  rw [wrI (x := 0 + r) (by omega) (by omega), wrI (x := 24 + r) (by omega) (by omega), wrI (x := m 602 581 * m 607 (24 + r)) (by omega) (by omega), show (0 : Int) + r = r by omega, wrI (x := m 607 r - _) (by omega) (by omega)]
  exact ⟨by omega, h1, by omega, fun h => ⟨by omega, rfl⟩, fun h => ⟨by omega, rfl⟩⟩))
theorem p220 {m : Mm} {r last : Int} (H : v_M m r) : Tr 220 [(1, 597), (0, r), (0, last)] m fun rv m1 => rv = some (0, lasB m r last) ∧ m1 = m := TrI.pure (e220 r last (by
  obtain ⟨h1, h2, h3, h4, h5, h6, h7⟩ := H
  unfold lasB
  rw [wrI (x := 11 * r) (by omega) (by omega), wrI (x := 11 * r + 1) (by omega) (by omega), wrI (x := 11 * r + 5) (by omega) (by omega), wrI (x := m 602 (11 * r + 1) - 1) (by omega) (by omega), wrI (x := 11 * r + 5 + (m 602 (11 * r + 1) - 1)) (by omega) (by omega)]
  exact ⟨⟨h1, by omega⟩, fun h => ⟨by rw [if_pos h], rfl⟩, fun h => ⟨⟨h1, by omega⟩, by rw [if_neg h], rfl⟩⟩))
theorem p230 {m : Mm} {e k : Int} (H : m 597 16 = 0 ∧ (0 ≤ e ∧ e < 24) ∧ (0 ≤ k ∧ k ≤ 8)) : Tr 230 [(1, 597), (0, e), (0, k)] m fun rv m1 => rv = some (0, lasO m e k) ∧ m1 = m := TrI.pure (e230 e k (by
  obtain ⟨h1, h2, h3⟩ := H
  unfold lasO
  rw [wrI (x := 11 * e) (by omega) (by omega), wrI (x := 264 + 11 * e) (by omega) (by omega), wrI (x := 264 + 11 * e + 3) (by omega) (by omega), wrI (x := k - 1) (by omega) (by omega), wrI (x := 264 + 11 * e + 3 + (k - 1)) (by omega) (by omega)]
  exact ⟨fun h => ⟨by rw [if_pos h], rfl⟩, fun h => ⟨⟨h1, by omega⟩, by rw [if_neg h], rfl⟩⟩))
theorem p61 {m : Mm} {x : Int} (h : shp x = 24 ∧ m x 4 ≤ 10) : Tr 61 [(1, x)] m fun rv m1 => rv = some (0, bi (0 < m x 4 ∧ 10 ≤ m (x + 1) (m x 4 - 1))) ∧ m1 = m := TrI.pure (e61 x h.1 (by
  refine ⟨fun h0 => ?_, fun h0 => ⟨(bi_f (by omega)).symm, rfl⟩⟩
  rw [wrI (x := m x 4 - 1) (by omega) (by omega)]
  exact ⟨by omega, fun h1 => ⟨(bi_f (by omega)).symm, rfl⟩, fun h1 => ⟨(bi_t (by omega)).symm, rfl⟩⟩))
theorem p62 {m : Mm} {x : Int} (h : shp x = 24) : Tr 62 [(1, x)] m fun rv m1 => rv = some (0, bi (10 ≤ m x 4)) ∧ m1 = m := TrI.pure (e62 x h (by
  exact ⟨fun h1 => ⟨(bi_f (by omega)).symm, rfl⟩, fun h1 => ⟨(bi_t (by omega)).symm, rfl⟩⟩))
