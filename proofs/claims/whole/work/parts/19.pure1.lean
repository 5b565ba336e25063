/-! what the small methods answer -/
theorem TrI.pure {N : Nat} {as : List aV} {m : Mm} {v : Int} (h : TrI N as m fun v' m1 => v' = v ∧ m1 = m) : Tr N as m fun rv m1 => rv = some (0, v) ∧ m1 = m :=
  X.imp h fun _ _ ⟨_, e, h1, h2⟩ => ⟨by rw [e, h1], h2⟩
theorem p20 {m : Mm} {b : Int} : Tr 20 [(0, b)] m fun rv m1 => rv = some (0, bi (b = 10 ∨ b = 32)) ∧ m1 = m := TrI.pure (e20 b (by grind [bi]))
theorem p21 {m : Mm} {b : Int} : Tr 21 [(0, b)] m fun rv m1 => rv = some (0, bi (97 ≤ b ∧ b ≤ 122)) ∧ m1 = m := TrI.pure (e21 b (by grind [bi]))
theorem p29 {m : Mm} {b : Int} : Tr 29 [(0, b)] m fun rv m1 => rv = some (0, bi (48 ≤ b ∧ b ≤ 57)) ∧ m1 = m := TrI.pure (e29 b (by grind [bi]))
theorem p133 {m : Mm} {c k : Int} : Tr 133 [(0, c), (0, k)] m fun rv m1 => rv = some (0, bi (iand (ishr c k) 1 = 1)) ∧ m1 = m := TrI.pure (e133 c k (by grind [bi]))
theorem p105 {m : Mm} {c : Int} : Tr 105 [(0, c)] m fun rv m1 => rv = some (0, if c < 1000000 then c else -2) ∧ m1 = m := TrI.pure (e105 c (by grind))
theorem p70 {m : Mm} {r : Int} (h : shp (m 1 3) = 30) : Tr 70 [(1, 1), (0, r)] m fun rv m1 => rv = some (0, bi (0 ≤ r ∧ r < m (m 1 3) 5)) ∧ m1 = m := TrI.pure (e70 r (by grind [bi]))
theorem p68 {m : Mm} {r : Int} (h : shp (m 1 3) = 30) : Tr 68 [(1, 1), (0, r)] m fun rv m1 => rv = some (0, bi (0 ≤ r ∧ r < m (m 1 3) 6)) ∧ m1 = m := TrI.pure (e68 r (by grind [bi]))
theorem p74 {m : Mm} {r : Int} (h : shp (m 1 5) = 24) : Tr 74 [(1, 1), (0, r)] m fun rv m1 => rv = some (0, bi (0 ≤ r ∧ r < m (m 1 5) 4)) ∧ m1 = m := TrI.pure (e74 r (by grind [bi]))
theorem p172 {m : Mm} {a b c : Int} : Tr 172 [(0, a), (0, b), (0, c)] m fun rv m1 => rv = some (0, bi (b ≤ a ∧ a ≤ c)) ∧ m1 = m := TrI.pure (e172 a b c (by grind [bi]))
theorem wrI {x : Int} (h1 : -2147483648 ≤ x) (h2 : x < 2147483648) : wr x = x := wr_id ⟨h1, h2⟩
theorem wlI {x : Int} (h1 : -9223372036854775808 ≤ x) (h2 : x < 9223372036854775808) : wl x = x := wl_id ⟨h1, h2⟩
theorem wr0k {k : Int} {b : Int} (hb : b = 0) (h0 : 0 ≤ k) (h1 : k < 1166) : wr (wr (583 * b) + k) = k := by
  subst hb
  rw [wrI (x := 583 * 0) (by omega) (by omega), wrI (by omega) (by omega)]
  omega
theorem wr1k {k : Int} {b : Int} (hb : b = 1) (h0 : 0 ≤ k) (h1 : k < 583) : wr (wr (583 * b) + k) = 583 + k := by
  subst hb
  rw [wrI (x := 583 * 1) (by omega) (by omega), wrI (by omega) (by omega)]
  omega
theorem p182a {m : Mm} {k : Int} (hk : 0 ≤ k ∧ k < 1166) (hb : m 597 16 = 0) : Tr 182 [(1, 597), (0, k)] m fun rv m1 => rv = some (0, m 602 k) ∧ m1 = m := TrI.pure (e182 k (by rw [wr0k hb hk.1 hk.2]; exact ⟨hk, rfl, rfl⟩))
theorem p182ax {m : Mm} {k : Int} (h : m 597 16 = 0 ∧ 0 ≤ k ∧ k < 1166) : Tr 182 [(1, 597), (0, k)] m fun rv m1 => rv = some (0, m 602 k) ∧ m1 = m := p182a h.2 h.1
theorem p182b {m : Mm} {k : Int} (hk : 0 ≤ k ∧ k < 583) (hb : m 597 16 = 1) : Tr 182 [(1, 597), (0, k)] m fun rv m1 => rv = some (0, m 602 (583 + k)) ∧ m1 = m := TrI.pure (e182 k (by rw [wr1k hb hk.1 hk.2]; exact ⟨by omega, rfl, rfl⟩))
theorem p182bx {m : Mm} {k : Int} (h : m 597 16 = 1 ∧ 0 ≤ k ∧ k < 583) : Tr 182 [(1, 597), (0, k)] m fun rv m1 => rv = some (0, m 602 (583 + k)) ∧ m1 = m := p182b h.2 h.1
def vowB (l : Int) : Bool := l == 0 || l == 4 || l == 8 || l == 14 || l == 20
theorem p218 {m : Mm} {a : Int} : Tr 218 [(0, a)] m fun rv m1 => rv = some (0, bi (vowB a = true)) ∧ m1 = m := TrI.pure (e218 a (by grind [bi, vowB]))
theorem Tr.toI {N : Nat} {as : List aV} {m : Mm} {v : Int} {K : Int → Mm → Prop} (h : Tr N as m fun rv m1 => rv = some (0, v) ∧ m1 = m) (k : K v m) : TrI N as m K :=
  X.imp h fun _ _ ⟨e, e2⟩ => ⟨v, e, by rw [e2]; exact k⟩
theorem um_s {m : Mm} {x k v : Int} : umem m x k v x k = v := if_pos ⟨rfl, rfl⟩
theorem um_n {m : Mm} {x k v x' k' : Int} (h : ¬ (x' = x ∧ k' = k)) : umem m x k v x' k' = m x' k' := if_neg h
theorem um_x {m : Mm} {x k v x' k' : Int} (h : x' ≠ x) : umem m x k v x' k' = m x' k' := if_neg fun e => h e.1
theorem um_k {m : Mm} {x k v x' k' : Int} (h : k' ≠ k) : umem m x k v x' k' = m x' k' := if_neg fun e => h e.2
theorem mul_rng {a b A B : Int} (h1 : 0 ≤ a) (h2 : a ≤ A) (h3 : 0 ≤ b) (h4 : b ≤ B) : 0 ≤ a * b ∧ a * b ≤ A * B :=
  ⟨Int.mul_nonneg h1 h3, Int.mul_le_mul h2 h4 h3 (Int.le_trans h1 h2)⟩
