/-! marks and the past: copyFrom(144), note(143), takeBack(155); the reference: copyState(194), canUndo(273) -/
/-- the content of a mark -/
def mkc (m : Mm) (b k : Int) : Int := if k < 24 then m (b + 1) k else if k < 48 then m (b + 2) (k - 24) else m (b + 3) (k - 48)
theorem mkc.fr {m m' : Mm} {b : Int} (h : ∀ x k, b < x → x < b + 4 → m' x k = m x k) (k : Int) : mkc m' b k = mkc m b k := by
  unfold mkc
  rw [h _ _ (by omega) (by omega), h _ _ (by omega) (by omega), h _ _ (by omega) (by omega)]
theorem c144 {m : Mm} {K : Mm → Prop} {a b : Int} (sa : shp a = 22) (sb : shp b = 22) (hd : a + 4 ≤ b ∨ b + 4 ≤ a)
    (kk : ∀ m', (∀ x k, ¬ (a < x ∧ x < a + 4) → m' x k = m x k) → (∀ k, 0 ≤ k → k < 58 → mkc m' a k = mkc m b k) → K m') : TrV 144 [(1, a), (1, b)] m K := by
  refine e144 _ _ sa sb ?_
  have l2 : ∀ (n w : Nat) (m1 : Mm), w + n = 10 → (∀ x k, ¬ (a < x ∧ x < a + 4) → m1 x k = m x k) → (∀ r : Int, 0 ≤ r → r < 24 → m1 (a + 1) r = m (b + 1) r ∧ m1 (a + 2) r = m (b + 2) r) → (∀ v : Int, 0 ≤ v → v < w → m1 (a + 3) v = m (b + 3) v) → X 144 40 [(1, a), (1, b), (0, (w : Int))] [] m1 (qV K) := by
    intro n
    induction n with
    | zero =>
      intro w m1 hw f R V
      refine w144_40 _ _ _ sa sb ⟨fun h => absurd h (by omega), fun _ => kk m1 f fun k k0 k1 => ?_⟩
      unfold mkc
      split
      · exact (R k k0 (by omega)).1
      · split
        · exact (R (k - 24) (by omega) (by omega)).2
        · exact V (k - 48) (by omega) (by omega)
    | succ n ih =>
      intro w m1 hw f R V
      refine w144_40 _ _ _ sa sb ⟨fun _ => ⟨by omega, fun m5 e5 => ?_⟩, fun h => absurd (show (w : Int) < 10 by omega) h⟩
      rw [f _ _ (by omega)] at e5
      rw [wrI (x := (w : Int) + 1) (by omega) (by omega)]
      refine ih (w + 1) m5 (by omega) (fun x k hn => by rw [e5, um_n (by omega)]; exact f x k hn) (fun r r0 r1 => ?_) fun v v0 v1 => ?_
      · rw [e5, um_x (by omega), um_x (by omega)]
        exact R r r0 r1
      · by_cases hv : v = w
        · rw [hv, e5, um_s]
        · rw [e5, um_k hv]
          exact V v v0 (by omega)
  have l1 : ∀ (n r : Nat) (m1 : Mm), r + n = 24 → (∀ x k, ¬ (a < x ∧ x < a + 4) → m1 x k = m x k) → (∀ i : Int, 0 ≤ i → i < r → m1 (a + 1) i = m (b + 1) i ∧ m1 (a + 2) i = m (b + 2) i) → X 144 2 [(1, a), (1, b), (0, (r : Int))] [] m1 (qV K) := by
    intro n
    induction n with
    | zero =>
      intro r m1 hr f R
      refine w144_2 _ _ _ sa sb ⟨fun h => absurd h (by omega), fun _ => ?_⟩
      exact l2 10 0 m1 (by decide) f (fun i i0 i1 => R i i0 (by omega)) fun v v0 v1 => by omega
    | succ n ih =>
      intro r m1 hr f R
      refine w144_2 _ _ _ sa sb ⟨fun _ => ⟨by omega, fun m5 e5 m7 e7 => ?_⟩, fun h => absurd (show (r : Int) < 24 by omega) h⟩
      rw [f _ _ (by omega)] at e5
      rw [e5, um_x (by omega), f _ _ (by omega), ← e5] at e7
      rw [wrI (x := (r : Int) + 1) (by omega) (by omega)]
      refine ih (r + 1) m7 (by omega) (fun x k hn => by rw [e7, um_n (by omega), e5, um_n (by omega)]; exact f x k hn) fun i i0 i1 => ?_
      by_cases hi : i = r
      · rw [hi, e7, um_x (by omega), um_s, e5, um_s]
        exact ⟨rfl, rfl⟩
      · rw [e7, um_x (by omega), um_k hi, e5, um_k hi, um_x (by omega)]
        exact R i i0 (by omega)
  exact l1 24 0 m (by decide) (fun _ _ _ => rfl) fun i i0 i1 => by omega
/-- the reference's copyState(194) -/
theorem c194 {m : Mm} {K : Mm → Prop} {a b : Int} (ha : 0 ≤ a ∧ a < 22) (hb : 0 ≤ b ∧ b < 22) (hd : a ≠ b)
    (kk : ∀ m', (∀ x k, ¬ (x = 607 ∧ 58 * b ≤ k ∧ k < 58 * b + 58) → m' x k = m x k) → (∀ k, 0 ≤ k → k < 58 → m' 607 (58 * b + k) = m 607 (58 * a + k)) → K m') : TrV 194 [(1, 597), (0, a), (0, b)] m K := by
  refine e194 _ _ ?_
  have loop : ∀ (n i : Nat) (m1 : Mm), i + n = 58 → (∀ x k, ¬ (x = 607 ∧ 58 * b ≤ k ∧ k < 58 * b + 58) → m1 x k = m x k) → (∀ k : Int, 0 ≤ k → k < i → m1 607 (58 * b + k) = m 607 (58 * a + k)) → X 194 2 [(1, 597), (0, a), (0, b), (0, (i : Int))] [] m1 (qV K) := by
    intro n
    induction n with
    | zero =>
      intro i m1 hi f R
      exact w194_2 _ _ _ ⟨fun h => absurd h (by omega), fun _ => kk m1 f fun k k0 k1 => R k k0 (by omega)⟩
    | succ n ih =>
      intro i m1 hi f R
      have q1 : wr (wr (58 * a) + i) = 58 * a + i := by
        rw [wrI (x := 58 * a) (by omega) (by omega), wrI (by omega) (by omega)]
      have q2 : wr (wr (58 * b) + i) = 58 * b + i := by
        rw [wrI (x := 58 * b) (by clear q1; omega) (by clear q1; omega), wrI (by clear q1; omega) (by clear q1; omega)]
      refine w194_2 _ _ _ ?_
      rw [q1, q2]
      clear q1 q2
      refine ⟨fun _ => ⟨by omega, by omega, fun m7 e7 => ?_⟩, fun h => absurd (show (i : Int) < 58 by omega) h⟩
      rw [f _ _ (by omega)] at e7
      rw [wrI (x := (i : Int) + 1) (by omega) (by omega)]
      refine ih (i + 1) m7 (by omega) (fun x k hn => by rw [e7, um_n (by omega)]; exact f x k hn) fun k k0 k1 => ?_
      by_cases hk : k = i
      · rw [hk, e7, um_s]
      · rw [e7, um_k (by omega)]
        exact R k k0 (by omega)
  exact loop 58 0 m (by decide) (fun _ _ _ => rfl) fun k k0 k1 => by omega
/-- the ring of copies -/
def Rg (m : Mm) : Prop := (∀ k, 0 ≤ k → k < 20 → ∃ j, 0 ≤ j ∧ j < 20 ∧ m 285 k = 290 + 4 * j) ∧ ∀ k l, 0 ≤ k → k < 20 → 0 ≤ l → l < 20 → m 285 k = m 285 l → k = l
theorem Rg.s22 {m : Mm} (R : Rg m) {k : Int} (h0 : 0 ≤ k) (h1 : k < 20) : shp (m 285 k) = 22 := by
  obtain ⟨j, j0, j1, e⟩ := R.1 k h0 h1
  rw [e]
  have h : ∀ j : Nat, j < 20 → shp (290 + 4 * (j : Int)) = 22 := by decide +kernel
  obtain ⟨a, rfl⟩ := Int.eq_ofNat_of_zero_le j0
  exact h a (by omega)
theorem Rg.fr {m m' : Mm} (R : Rg m) (f : ∀ k, m' 285 k = m 285 k) : Rg m' := by
  unfold Rg
  simp only [f]
  exact R
theorem Rg.apart {m : Mm} (R : Rg m) {k l : Int} (h0 : 0 ≤ k) (h1 : k < 20) (l0 : 0 ≤ l) (l1 : l < 20) (h : k ≠ l) : m 285 k + 4 ≤ m 285 l ∨ m 285 l + 4 ≤ m 285 k := by
  obtain ⟨j, j0, j1, e⟩ := R.1 k h0 h1
  obtain ⟨i, i0, i1, e2⟩ := R.1 l l0 l1
  have : m 285 k ≠ m 285 l := fun q => h (R.2 k l h0 h1 l0 l1 q)
  omega
theorem Rg.in {m : Mm} (R : Rg m) {k : Int} (h0 : 0 ≤ k) (h1 : k < 20) : 290 ≤ m 285 k ∧ m 285 k ≤ 366 := by
  obtain ⟨j, j0, j1, e⟩ := R.1 k h0 h1
  omega
def f143 (m m' : Mm) : Prop := ∀ x k, ¬ (x = 284 ∧ k = 2) → ¬ (x = 285) → ¬ (290 ≤ x ∧ x < 370) → m' x k = m x k
/-- how many copies are let go -/
def shN (n : Int) : Int := if n < 20 then 0 else 1
theorem c143 {m : Mm} {K : Mm → Prop} {n : Int} (R : Rg m) (hn : m 284 2 = n) (h0 : 0 ≤ n ∧ n ≤ 20)
    (kk : ∀ m', f143 m m' → Rg m' → m' 284 2 = n - shN n + 1 → (∀ k i, 0 ≤ k → k < n - shN n → mkc m' (m' 285 k) i = mkc m (m 285 (k + shN n)) i) → (∀ i, 0 ≤ i → i < 58 → mkc m' (m' 285 (n - shN n)) i = mkc m 280 i) → K m') : TrV 143 [(1, 284), (1, 280)] m K := by
  have s280 : shp 280 = 22 := by decide +kernel
  refine e143 _ s280 ?_
  rw [hn]
  -- the copy itself
  have last : ∀ (m1 : Mm) (v2 v3 : aV), f143 m m1 → Rg m1 → m1 284 2 = n - shN n → (∀ k i, 0 ≤ k → k < n - shN n → mkc m1 (m1 285 k) i = mkc m (m 285 (k + shN n)) i) → X 143 58 [(1, 284), (1, 280), v2, v3] [] m1 (qV K) := by
    intro m1 v2 v3 f1 R1 x1 C1
    have hs : 0 ≤ n - shN n ∧ n - shN n < 20 := by unfold shN; split <;> omega
    refine w143_58 _ v2 v3 s280 ?_
    rw [x1]
    have hin := R1.in hs.1 hs.2
    refine ⟨hs, R1.s22 hs.1 hs.2, c144 (R1.s22 hs.1 hs.2) s280 (by omega) fun m5 f5 C5 => ?_⟩
    rw [f5 _ _ (by omega), x1, wrI (x := n - shN n + 1) (by omega) (by omega)]
    intro m7 e7
    have f7 : ∀ x k, ¬ (m1 285 (n - shN n) < x ∧ x < m1 285 (n - shN n) + 4) → ¬ (x = 284 ∧ k = 2) → m7 x k = m1 x k := fun x k n1 n2 => by rw [e7, um_n n2]; exact f5 x k n1
    have e285 : ∀ k, m7 285 k = m1 285 k := fun k => f7 _ _ (by omega) (by omega)
    refine kk m7 (fun x k n1 n2 n3 => by rw [f7 x k (by omega) n1]; exact f1 x k n1 n2 n3) (R1.fr e285) (by rw [e7, um_s]) (fun k i k0 k1 => ?_) fun i i0 i1 => ?_
    · rw [e285, ← C1 k i k0 k1]
      have ap := R1.apart k0 (show k < 20 by omega) hs.1 hs.2 (by omega)
      have hin2 := R1.in k0 (show k < 20 by omega)
      exact mkc.fr (fun x k' x0 x1' => f7 x k' (by omega) (by omega)) i
    · rw [e285]
      have e1 : mkc m5 (m1 285 (n - shN n)) i = mkc m 280 i := by
        rw [C5 i i0 i1]
        exact mkc.fr (fun x k' x0 x1' => f1 x k' (by omega) (by omega) (by omega)) i
      rw [← e1]
      exact mkc.fr (fun x k' x0 x1' => by rw [e7, um_n (by omega)]) i
  refine ⟨fun h => ?_, fun h => ⟨R.s22 (by decide) (by decide), ?_⟩⟩
  · have hs : shN n = 0 := if_pos h
    exact last m _ _ (fun _ _ _ _ _ => rfl) R (by omega) fun k i k0 k1 => by rw [hs, Int.add_zero]
  · have hs : shN n = 1 := if_neg h
    have n20 : n = 20 := by omega
    have loop : ∀ (l j : Nat) (m1 : Mm), j + l = 20 → 1 ≤ j → (∀ x k, x ≠ 285 → m1 x k = m x k) → (∀ k : Int, 0 ≤ k → k < (j : Int) - 1 → m1 285 k = m 285 (k + 1)) → (∀ k : Int, (j : Int) - 1 ≤ k → m1 285 k = m 285 k) → X 143 18 [(1, 284), (1, 280), (1, m 285 0), (0, (j : Int))] [] m1 (qV K) := by
      intro l
      induction l with
      | zero =>
        intro j m1 hj j1 f1 A1 B1
        refine w143_18 _ _ _ s280 ⟨fun hh => absurd hh (by omega), fun _ => ⟨by have := R.in (k := 0) (by decide) (by decide); omega, R.s22 (by decide) (by decide), fun m7 e7 m9 e9 => ?_⟩⟩
        have e285 : ∀ k : Int, 0 ≤ k → k < 20 → m9 285 k = m 285 (if k < 19 then k + 1 else 0) := fun k k0 k1 => by
          rw [e9, um_x (by decide), e7]
          by_cases hk : k = 19
          · rw [hk, um_s]
            rfl
          · rw [um_k hk, A1 k k0 (by omega), if_pos (by omega)]
        have R9 : Rg m9 := by
          refine ⟨fun k k0 k1 => ?_, fun k l k0 k1 l0 l1 e => ?_⟩
          · rw [e285 k k0 k1]
            split
            · exact R.1 _ (by omega) (by omega)
            · exact R.1 0 (by decide) (by decide)
          · rw [e285 k k0 k1, e285 l l0 l1] at e
            have := R.2 _ _ (by split <;> omega) (by split <;> omega) (by split <;> omega) (by split <;> omega) e
            split at this <;> split at this <;> omega
        refine last m9 _ _ (fun x k n1 n2 n3 => by rw [e9, um_n n1, e7, um_x n2]; exact f1 x k n2) R9 (by rw [e9, um_s]; omega) fun k i k0 k1 => ?_
        rw [e285 k k0 (by omega), if_pos (by omega), hs]
        have hin := R.in (k := k + 1) (by omega) (by omega)
        exact mkc.fr (fun x k' x0 x1 => by rw [e9, um_n (by omega), e7, um_x (by omega)]; exact f1 x k' (by omega)) i
      | succ l ih =>
        intro j m1 hj j1 f1 A1 B1
        have ej : m1 285 (j : Int) = m 285 (j : Int) := B1 j (by omega)
        have q1 : wr ((j : Int) - 1) = (j : Int) - 1 := wrI (by omega) (by omega)
        refine w143_18 _ _ _ s280 ?_
        rw [q1, ej]
        clear q1
        refine ⟨fun _ => ⟨by omega, by omega, R.s22 (by omega) (by omega), fun m17 e17 => ?_⟩, fun hh => absurd (show (j : Int) < 20 by omega) hh⟩
        rw [wrI (x := (j : Int) + 1) (by omega) (by omega)]
        refine ih (j + 1) m17 (by omega) (by omega) (fun x k n1 => by rw [e17, um_x n1]; exact f1 x k n1) (fun k k0 k1 => ?_) fun k k0 => ?_
        · by_cases hk : k = (j : Int) - 1
          · rw [hk, e17, um_s]
            exact congrArg (m 285) (by omega)
          · rw [e17, um_k hk]
            exact A1 k k0 (by omega)
        · rw [e17, um_k (by omega)]
          exact B1 k (by omega)
    exact loop 19 1 m (by decide) (by decide) (fun _ _ _ => rfl) (fun k k0 k1 => by omega) fun _ _ => rfl
def f273 (m m' : Mm) : Prop := ∀ x k, ¬ (x = 607 ∧ 116 ≤ k ∧ k < 1276) → ¬ (x = 597 ∧ k = 25) → m' x k = m x k
theorem c273 {m : Mm} {K : Mm → Prop} {n : Int} (hn : m 597 25 = n) (h0 : 0 ≤ n ∧ n ≤ 20)
    (kk : ∀ m', f273 m m' → m' 597 25 = n - shN n + 1 → (∀ k i, 0 ≤ k → k < n - shN n → 0 ≤ i → i < 58 → m' 607 (58 * (2 + k) + i) = m 607 (58 * (2 + (k + shN n)) + i)) → (∀ i, 0 ≤ i → i < 58 → m' 607 (58 * (2 + (n - shN n)) + i) = m 607 i) → K m') : TrV 273 [(1, 597)] m K := by
  refine e273 ?_
  rw [hn]
  have last : ∀ (m1 : Mm) (v1 : aV), f273 m m1 → m1 597 25 = n - shN n → (∀ k i, 0 ≤ k → k < n - shN n → 0 ≤ i → i < 58 → m1 607 (58 * (2 + k) + i) = m 607 (58 * (2 + (k + shN n)) + i)) → X 273 39 [(1, 597), v1] [] m1 (qV K) := by
    intro m1 v1 f1 x1 C1
    have hs : 0 ≤ n - shN n ∧ n - shN n < 20 := by unfold shN; split <;> omega
    refine w273_39 v1 ?_
    rw [x1, wrI (x := 2 + (n - shN n)) (by omega) (by omega)]
    refine c194 (by decide) (by omega) (by omega) fun m5 f5 C5 => ?_
    rw [f5 _ _ (by omega), x1, wrI (x := n - shN n + 1) (by omega) (by omega)]
    intro m7 e7
    have f7 : ∀ k, m7 607 k = m5 607 k := fun k => by rw [e7, um_x (by decide)]
    refine kk m7 (fun x k n1 n2 => by rw [e7, um_n n2, f5 x k (by omega)]; exact f1 x k n1 n2) (by rw [e7, um_s]) (fun k i k0 k1 i0 i1 => ?_) fun i i0 i1 => ?_
    · rw [f7, f5 _ _ (by omega)]
      exact C1 k i k0 k1 i0 i1
    · rw [f7, C5 i i0 i1, Int.mul_zero, Int.zero_add]
      exact f1 _ _ (by omega) (by omega)
  refine ⟨fun h => ?_, fun h => ?_⟩
  · have hs : shN n = 1 := if_neg (by omega)
    have loop : ∀ (l j : Nat) (m1 : Mm), j + l = 20 → 1 ≤ j → f273 m m1 → (∀ k i : Int, 0 ≤ k → k < (j : Int) - 1 → 0 ≤ i → i < 58 → m1 607 (58 * (2 + k) + i) = m 607 (58 * (2 + (k + 1)) + i)) → (∀ k i : Int, (j : Int) - 1 ≤ k → 0 ≤ i → i < 58 → m1 607 (58 * (2 + k) + i) = m 607 (58 * (2 + k) + i)) → X 273 11 [(1, 597), (0, (j : Int))] [] m1 (qV K) := by
      intro l
      induction l with
      | zero =>
        intro j m1 hj j1 f1 A1 B1
        refine w273_11 _ ⟨fun hh => absurd hh (by omega), fun _ => fun m3 e3 => ?_⟩
        refine last m3 _ (fun x k n1 n2 => by rw [e3, um_n n2]; exact f1 x k n1 n2) (by rw [e3, um_s]; omega) fun k i k0 k1 i0 i1 => ?_
        rw [e3, um_x (by decide), hs]
        exact A1 k i k0 (by omega) i0 i1
      | succ l ih =>
        intro j m1 hj j1 f1 A1 B1
        refine w273_11 _ ⟨fun _ => ?_, fun hh => absurd (show (j : Int) < 20 by omega) hh⟩
        rw [wrI (x := 2 + (j : Int)) (by omega) (by omega), wrI (x := 1 + (j : Int)) (by omega) (by omega)]
        refine c194 (by omega) (by omega) (by omega) fun m5 f5 C5 => ?_
        rw [wrI (x := (j : Int) + 1) (by omega) (by omega)]
        refine ih (j + 1) m5 (by omega) (by omega) (fun x k n1 n2 => by rw [f5 x k (by omega)]; exact f1 x k n1 n2) (fun k i k0 k1 i0 i1 => ?_) fun k i k0 i0 i1 => ?_
        · by_cases hk : k = (j : Int) - 1
          · rw [hk, show 2 + ((j : Int) - 1) = 1 + j by omega, C5 i i0 i1, show (j : Int) - 1 + 1 = j by omega]
            exact B1 j i (by omega) i0 i1
          · rw [f5 _ _ (by omega)]
            exact A1 k i k0 (by omega) i0 i1
        · rw [f5 _ _ (by omega)]
          exact B1 k i (by omega) i0 i1
    exact loop 19 1 m (by decide) (by decide) (fun _ _ _ _ => rfl) (fun k i k0 k1 => by omega) fun _ _ _ _ _ => rfl
  · have hs : shN n = 0 := if_pos (by omega)
    exact last m _ (fun _ _ _ _ => rfl) (by omega) fun k i k0 k1 _ _ => by rw [hs, Int.add_zero]
