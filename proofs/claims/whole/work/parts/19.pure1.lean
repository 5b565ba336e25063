/-! what the small methods answer -/
theorem TrI.pure {N : Nat} {as : List aV} {m : Mm} {v : Int} (h : TrI N as m fun v' m1 => v' = v ∧ m1 = m) : Tr N as m fun rv m1 => rv = some (0, v) ∧ m1 = m :=
  X.imp h fun _ _ ⟨_, e, h1, h2⟩ => ⟨by rw [e, h1], h2⟩
theorem p20 {m : Mm} {b : Int} : Tr 20 [(0, b)] m fun rv m1 => rv = some (0, bi (b = 10 ∨ b = 32)) ∧ m1 = m := TrI.pure (e20 b (by grind [bi]))
theorem p21 {m : Mm} {b : Int} : Tr 21 [(0, b)] m fun rv m1 => rv = some (0, bi (97 ≤ b ∧ b ≤ 122)) ∧ m1 = m := TrI.pure (e21 b (by grind [bi]))
theorem p29 {m : Mm} {b : Int} : Tr 29 [(0, b)] m fun rv m1 => rv = some (0, bi (48 ≤ b ∧ b ≤ 57)) ∧ m1 = m := TrI.pure (e29 b (by grind [bi]))
theorem p133 {m : Mm} {c k : Int} : Tr 133 [(0, c), (0, k)] m fun rv m1 => rv = some (0, bi (iand (ishr c k) 1 = 1)) ∧ m1 = m := TrI.pure (e133 c k (by grind [bi]))
theorem p105 {m : Mm} {c : Int} : Tr 105 [(0, c)] m fun rv m1 => rv = some (0, if c < 1000000 then c else -2) ∧ m1 = m := TrI.pure (e105 c (by grind))
theorem p70 {m : Mm} {r : Int} (h : shp (m 1 3) = 30) : Tr 70 [(1, 1), (0, r)] m fun rv m1 => rv = some (0, bi (0 ≤ r ∧ r < m (m 1 3) 5)) ∧ m1 = m := TrI.pure (e70 r (by grind [bi]))
theorem p68 {m : Mm} {r : Int} (h : shp (m 1 3) = 30) : Tr 68 [(1, 1), (0, r)] m fun rv m1 => rv = some (0, bi (0 ≤ r ∧ r < m (m 1 3) 6)) ∧ m1 = m := TrI.pure (e68 r (by grind [bi]))
theorem p74 {m : Mm} {r : Int} (h : shp (m 1 5) = 24) : Tr 74 [(1, 1), (0, r)] m fun rv m1 => rv = some (0, bi (0 ≤ r ∧ r < m (m 1 5) 4)) ∧ m1 = m := TrI.pure (e74 r (by grind [bi]))
theorem p172 {m : Mm} {a b c : Int} : Tr 172 [(0, a), (0, b), (0, c)] m fun rv m1 => rv = some (0, bi (b ≤ a ∧ a ≤ c)) ∧ m1 = m := TrI.pure (e172 a b c (by grind [bi]))
theorem p218 {m : Mm} {a : Int} : Tr 218 [(0, a)] m fun rv m1 => rv = some (0, bi (a = 0 ∨ a = 4 ∨ a = 8 ∨ a = 14 ∨ a = 20)) ∧ m1 = m := TrI.pure (e218 a (by grind [bi]))
