/-! what the small methods answer, fourth -/
def allN : Nat → (Int → Bool) → Bool
  | 0, _ => true
  | n + 1, f => allN n f && f n
theorem allN_t {n : Nat} {f : Int → Bool} : allN n f = true ↔ ∀ i : Int, 0 ≤ i → i < n → f i = true := by
  induction n with
  | zero => exact ⟨fun _ i h0 h1 => by omega, fun _ => rfl⟩
  | succ n ih =>
    unfold allN
    rw [Bool.and_eq_true, ih]
    constructor
    · intro h i h0 h1
      by_cases hi : i = n
      · rw [hi]; exact h.2
      · exact h.1 i h0 (by omega)
    · intro h
      exact ⟨fun i h0 h1 => h i h0 (by omega), h n (by omega) (by omega)⟩
/-- the first number below n with f, none: -1 -/
def fstN : Nat → (Int → Bool) → Int
  | 0, _ => -1
  | n + 1, f => if 0 ≤ fstN n f then fstN n f else if f n then n else -1
theorem fstN_rng {n : Nat} {f : Int → Bool} : -1 ≤ fstN n f ∧ fstN n f < n := by
  induction n with
  | zero => unfold fstN; omega
  | succ n ih =>
    unfold fstN
    split
    · omega
    · split <;> omega
theorem fstN_no {n : Nat} {f : Int → Bool} (h : ∀ i : Int, 0 ≤ i → i < n → f i = false) : fstN n f = -1 := by
  induction n with
  | zero => rfl
  | succ n ih =>
    unfold fstN
    rw [ih (fun i h0 h1 => h i h0 (by omega)), if_neg (by decide), if_neg (by rw [h n (by omega) (by omega)]; decide)]
theorem fstN_is {n : Nat} {f : Int → Bool} {p : Int} (h0 : 0 ≤ p) (h1 : p < n) (hp : f p = true) (h : ∀ i : Int, 0 ≤ i → i < p → f i = false) : fstN n f = p := by
  induction n with
  | zero => omega
  | succ n ih =>
    unfold fstN
    by_cases hn : p = n
    · subst hn
      rw [fstN_no (fun i h0 h1 => h i h0 h1), if_neg (by decide), if_pos hp]
    · rw [ih (by omega), if_pos h0]
def fitM (m : Mm) (r last w at' : Int) : Bool := decide (¬ r = m 597 27) && (decide (m 603 (10 * w + at') = 32 + m 602 (11 * r)) && (fbB (m 602 (11 * r + 2)) last && letB (m 602 (11 * r + 3)) (if at' + 1 < m 604 w then m 603 (10 * w + at' + 1) else -1)))
def v_F (m : Mm) (r w at' : Int) : Prop := v_M m r ∧ (0 ≤ w ∧ w < 10) ∧ (0 ≤ at' ∧ at' < m 604 w) ∧ m 604 w ≤ 10
theorem p215 {m : Mm} {r last w a : Int} (H : v_F m r w a) : Tr 215 [(1, 597), (0, r), (0, last), (0, w), (0, a)] m fun rv m1 => rv = some (0, bi (fitM m r last w a = true)) ∧ m1 = m := TrI.pure (e215 r last w a (by
  obtain ⟨hM, h2, h3, h4⟩ := H
  have hM' := hM
  obtain ⟨g1, g2, g3, g4, g5, g6, g7⟩ := hM'
  have f10 : (0 : Int) ≤ a ∧ a < 10 := by omega
  rw [wrI (x := 10 * w) (by omega) (by omega), wrI (x := 10 * w + a) (by omega) (by omega), wrI (x := 11 * r) (by omega) (by omega), wrI (x := 32 + m 602 (11 * r)) (by omega) (by omega), wrI (x := 11 * r + 3) (by omega) (by omega), wrI (x := a + 1) (by omega) (by omega), wrI (x := 10 * w + a + 1) (by omega) (by omega)]
  unfold fitM
  refine ⟨fun e => ⟨by simp [e, bi], rfl⟩, fun e => ⟨by omega, ⟨g1, by omega⟩, fun e2 => ⟨hM, fun e3 => ⟨⟨g1, by omega⟩, h2, fun e4 => ⟨by omega, by omega, by simp [e, e2, e3, e4], rfl⟩, fun e4 => ⟨by omega, by simp [e, e2, e3, e4], rfl⟩⟩, fun e3 => ⟨by simp [e3, bi], rfl⟩⟩, fun e2 => ⟨by simp [e2, bi], rfl⟩⟩⟩))
def bsz (m : Mm) (r : Int) : Int := m 602 (11 * r + 1)
def esz (m : Mm) (e : Int) : Int := m 602 (264 + 11 * e)
def stM (m : Mm) (r e k : Int) : Bool := decide (k + bsz m r ≤ esz m e) && allN (bsz m r).toNat fun i => decide (m 602 (11 * r + 5 + i) = m 602 (264 + 11 * e + 3 + (k + i)))
def bhd (m : Mm) (r e k : Int) : Int := if stM m r e k = true then k + bsz m r else -1
def v_B (m : Mm) (r e k : Int) : Prop := v_M m r ∧ (0 ≤ e ∧ e < 24) ∧ (0 ≤ k ∧ k ≤ 8) ∧ (0 ≤ esz m e ∧ esz m e ≤ 8)
theorem l231 {m : Mm} {r e k : Int} (H : v_B m r e k) (hs : k + bsz m r ≤ esz m e) : ∀ (n : Nat) (i : Int), 0 ≤ i → i + n = bsz m r → (∀ j, 0 ≤ j → j < i → m 602 (11 * r + 5 + j) = m 602 (264 + 11 * e + 3 + (k + j))) → X 231 36 [(1, 597), (0, r), (0, e), (0, k), (0, bsz m r), (0, i)] [] m (qI fun v m1 => v = bhd m r e k ∧ m1 = m) := by
  obtain ⟨⟨g1, g2, g3, g4, g5, g6, g7⟩, h2, h3, h4⟩ := H
  have hb : bsz m r = m 602 (11 * r + 1) := rfl
  intro n
  induction n with
  | zero =>
    intro i h0 hi hall
    refine w231_36 r e k (bsz m r) i ⟨fun h => absurd h (by omega), fun _ => ⟨?_, rfl⟩⟩
    rw [wrI (by omega) (by omega)]
    unfold bhd
    rw [if_pos]
    unfold stM
    rw [Bool.and_eq_true]
    exact ⟨decide_eq_true hs, allN_t.mpr fun j j0 j1 => decide_eq_true (hall j j0 (by omega))⟩
  | succ n ih =>
    intro i h0 hi hall
    refine w231_36 r e k (bsz m r) i ⟨fun h => ?_, fun h => absurd (show i < bsz m r by omega) h⟩
    rw [wrI (x := 11 * r) (by omega) (by omega), wrI (x := 11 * r + 5) (by omega) (by omega), wrI (x := 11 * r + 5 + i) (by omega) (by omega), wrI (x := 11 * e) (by omega) (by omega), wrI (x := 264 + 11 * e) (by omega) (by omega), wrI (x := 264 + 11 * e + 3) (by omega) (by omega), wrI (x := k + i) (by omega) (by omega), wrI (x := 264 + 11 * e + 3 + (k + i)) (by omega) (by omega), wrI (x := i + 1) (by omega) (by omega)]
    refine ⟨⟨g1, by omega⟩, ⟨g1, by omega⟩, fun e1 => ih (i + 1) (by omega) (by omega) (fun j j0 j1 => ?_), fun e1 => ⟨?_, rfl⟩⟩
    · by_cases hj : j = i
      · rw [hj]; exact e1
      · exact hall j j0 (by omega)
    · unfold bhd
      rw [if_neg]
      unfold stM
      rw [Bool.and_eq_true]
      intro hh
      exact e1 (of_decide_eq_true (allN_t.mp hh.2 i h0 (by omega)))
theorem p231 {m : Mm} {r e k : Int} (H : v_B m r e k) : Tr 231 [(1, 597), (0, r), (0, e), (0, k)] m fun rv m1 => rv = some (0, bhd m r e k) ∧ m1 = m := TrI.pure (e231 r e k (by
  have H' := H
  obtain ⟨⟨g1, g2, g3, g4, g5, g6, g7⟩, h2, h3, h4⟩ := H
  rw [wrI (x := 11 * r) (by omega) (by omega), wrI (x := 11 * r + 1) (by omega) (by omega), wrI (x := 11 * e) (by omega) (by omega), wrI (x := 264 + 11 * e) (by omega) (by omega), wrI (x := k + m 602 (11 * r + 1)) (by omega) (by omega)]
  refine ⟨⟨g1, by omega⟩, ⟨g1, by omega⟩, fun h => ⟨?_, rfl⟩, fun h => ?_⟩
  · unfold bhd
    rw [if_neg]
    unfold stM
    rw [Bool.and_eq_true]
    exact fun hh => absurd (of_decide_eq_true hh.1) (by unfold bsz esz; omega)
  · exact l231 H' (by unfold bsz esz; omega) (bsz m r).toNat 0 (by omega) (by unfold bsz; omega) (fun j j0 j1 => by omega)))
def stC (m : Mm) (x y k : Int) : Bool := decide (k + m x 2 ≤ m y 1) && allN (m x 2).toNat fun i => decide (m (x + 1) i = m (y + 1) (k + i))
theorem l94 {m : Mm} {x y k : Int} (hx : v_R m x) (hy : v_E m y) (h3 : 0 ≤ k ∧ k ≤ 8) (hs : k + m x 2 ≤ m y 1) : ∀ (n : Nat) (i : Int), 0 ≤ i → i + n = m x 2 → (∀ j, 0 ≤ j → j < i → m (x + 1) j = m (y + 1) (k + j)) → X 94 17 [(1, x), (1, y), (0, k), (0, i)] [] m (qI fun v m1 => v = bi (stC m x y k = true) ∧ m1 = m) := by
  obtain ⟨g1, g2, -⟩ := hx
  obtain ⟨e1, e2, -⟩ := hy
  intro n
  induction n with
  | zero =>
    intro i h0 hi hall
    refine w94_17 x y k i g1 e1 ⟨fun h => absurd h (by omega), fun _ => ⟨(bi_t ?_).symm, rfl⟩⟩
    unfold stC
    rw [Bool.and_eq_true]
    exact ⟨decide_eq_true hs, allN_t.mpr fun j j0 j1 => decide_eq_true (hall j j0 (by omega))⟩
  | succ n ih =>
    intro i h0 hi hall
    refine w94_17 x y k i g1 e1 ⟨fun h => ?_, fun h => absurd (show i < m x 2 by omega) h⟩
    rw [wrI (x := k + i) (by omega) (by omega), wrI (x := i + 1) (by omega) (by omega)]
    refine ⟨by omega, by omega, fun q => ih (i + 1) (by omega) (by omega) (fun j j0 j1 => ?_), fun q => ⟨(bi_f ?_).symm, rfl⟩⟩
    · by_cases hj : j = i
      · rw [hj]; exact q
      · exact hall j j0 (by omega)
    · unfold stC
      rw [Bool.and_eq_true]
      intro hh
      exact q (of_decide_eq_true (allN_t.mp hh.2 i h0 (by omega)))
theorem p94 {m : Mm} {x y k : Int} (H : v_R m x ∧ v_E m y ∧ 0 ≤ k ∧ k ≤ 8) : Tr 94 [(1, x), (1, y), (0, k)] m fun rv m1 => rv = some (0, bi (stC m x y k = true)) ∧ m1 = m := TrI.pure (e94 x y k H.1.1 H.2.1.1 (by
  obtain ⟨hx, hy, h3⟩ := H
  have g2 := hx.2.1
  have e2 := hy.2.1
  rw [wrI (x := k + m x 2) (by omega) (by omega)]
  refine ⟨fun h => ⟨(bi_f ?_).symm, rfl⟩, fun h => ?_⟩
  · unfold stC
    rw [Bool.and_eq_true]
    exact fun hh => absurd (of_decide_eq_true hh.1) (by omega)
  · exact l94 hx hy h3 (by omega) (m x 2).toNat 0 (by omega) (by omega) (fun j j0 j1 => by omega)))
def suC (m : Mm) (r sg last nx : Int) : Bool := decide (m (m 373 r) 1 = sg) && (decide (¬ r = m 370 10) && (decide (iand (ishr (m (m 373 r) 5) last) 1 = 1) && decide (iand (ishr (m (m 373 r) 6) nx) 1 = 1)))
theorem p83 {m : Mm} {r sg last nx : Int} (H : (0 ≤ r ∧ r < 24) ∧ shp (m 373 r) = 27) : Tr 83 [(1, 370), (0, r), (0, sg), (0, last), (0, nx)] m fun rv m1 => rv = some (0, bi (suC m r sg last nx = true)) ∧ m1 = m := TrI.pure (e83 r sg last nx (by
  unfold suC
  refine ⟨H.1, H.2, fun e1 => ⟨fun e2 => ⟨by simp [e2, bi], rfl⟩, fun e2 => ⟨fun e3 => ⟨fun e4 => ⟨by simp [e1, e2, e3, e4, bi], rfl⟩, fun e4 => ⟨by simp [e4, bi], rfl⟩⟩, fun e3 => ⟨by simp [e3, bi], rfl⟩⟩⟩, fun e1 => ⟨by simp [e1, bi], rfl⟩⟩))
def eAd (t e : Int) : Int := t + 54 + 2 * e
def v_T (m : Mm) (t : Int) : Prop := shp t = 30 ∧ (0 ≤ m t 6 ∧ m t 6 ≤ 24) ∧ ∀ e, 0 ≤ e → e < m t 6 → (0 ≤ m (t + 54 + 2 * e) 2 ∧ m (t + 54 + 2 * e) 2 < 5)
def jnC (m : Mm) (t a b : Int) : Int := if 0 ≤ a ∧ 0 ≤ b ∧ a < m t 6 ∧ b < m t 6 then (if ¬ m (t + 3) (m (t + 54 + 2 * a) 2 * 5 + m (t + 54 + 2 * b) 2) = 0 ∧ ¬ m (t + 54 + 2 * a) 3 = m (t + 54 + 2 * b) 3 then 1000000 else m (t + 5) (m (t + 54 + 2 * a) 2 * 5 + m (t + 54 + 2 * b) 2)) else 0
theorem p99 {m : Mm} {t a b : Int} (H : v_T m t) : Tr 99 [(1, t), (0, a), (0, b)] m fun rv m1 => rv = some (0, jnC m t a b) ∧ m1 = m := TrI.pure (e99 t a b H.1 (by
  obtain ⟨h1, h2, h3⟩ := H
  unfold jnC
  refine ⟨fun e1 => ⟨by rw [if_neg (by omega)], rfl⟩, fun e1 => ⟨fun e2 => ⟨by rw [if_neg (by omega)], rfl⟩, fun e2 => ⟨fun e3 => ⟨fun e4 => ?_, fun e4 => ⟨by rw [if_neg (by omega)], rfl⟩⟩, fun e3 => ⟨by rw [if_neg (by omega)], rfl⟩⟩⟩⟩
  have ka := h3 a (by omega) e3
  have kb := h3 b (by omega) e4
  rw [wrI (x := m (t + 54 + 2 * a) 2 * 5) (by omega) (by omega), wrI (x := m (t + 54 + 2 * a) 2 * 5 + m (t + 54 + 2 * b) 2) (by omega) (by omega), if_pos (show 0 ≤ a ∧ 0 ≤ b ∧ a < m t 6 ∧ b < m t 6 by omega)]
  exact ⟨by omega, by omega, by omega, fun e5 => ⟨by rw [if_neg (fun q => q.1 e5)], rfl⟩, fun e5 => ⟨fun e6 => ⟨by rw [if_neg (fun q => q.2 e6)], rfl⟩, fun e6 => ⟨by rw [if_pos ⟨e5, e6⟩], rfl⟩⟩⟩))
def plC (m : Mm) (c w who : Int) : Int := fstN (m (c + 27) w).toNat fun p => decide (m (c + 29 + w) p = who)
theorem l97 {m : Mm} {c w who : Int} (h1 : shp c = 20) (h2 : 0 ≤ w ∧ w < 10) (h3 : m (c + 27) w ≤ 24) : ∀ (n : Nat) (p : Int), 0 ≤ p → m (c + 27) w ≤ p + n → (∀ j, 0 ≤ j → j < p → ¬ m (c + 29 + w) j = who) → X 97 2 [(1, c), (0, w), (0, who), (0, p)] [] m (qI fun v m1 => v = plC m c w who ∧ m1 = m) := by
  intro n
  induction n with
  | zero =>
    intro p h0 hp hall
    refine w97_2 c w who p h1 ⟨h2, fun h => absurd h (by omega), fun _ => ⟨?_, rfl⟩⟩
    exact (fstN_no (fun i i0 i1 => decide_eq_false (hall i i0 (by omega)))).symm
  | succ n ih =>
    intro p h0 hp hall
    refine w97_2 c w who p h1 ⟨h2, fun h => ⟨by omega, fun e => ⟨?_, rfl⟩, fun e => ?_⟩, fun h => ⟨?_, rfl⟩⟩
    · exact (fstN_is h0 (by omega) (decide_eq_true e) (fun i i0 i1 => decide_eq_false (hall i i0 i1))).symm
    · rw [wrI (by omega) (by omega)]
      refine ih (p + 1) (by omega) (by omega) (fun j j0 j1 => ?_)
      by_cases hj : j = p
      · rw [hj]; exact e
      · exact hall j j0 (by omega)
    · exact (fstN_no (fun i i0 i1 => decide_eq_false (hall i i0 (by omega)))).symm
theorem p97 {m : Mm} {c w who : Int} (H : shp c = 20 ∧ (0 ≤ w ∧ w < 10) ∧ m (c + 27) w ≤ 24) : Tr 97 [(1, c), (0, w), (0, who)] m fun rv m1 => rv = some (0, plC m c w who) ∧ m1 = m := TrI.pure (e97 c w who H.1 (l97 H.1 H.2.1 H.2.2 (m (c + 27) w).toNat 0 (by omega) (by omega) (fun j j0 j1 => by omega)))
