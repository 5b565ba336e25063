/-! text, the class's side -/
section CTX
variable {m : Mm} {t : Int}
theorem c55x {K : Mm → Prop} (kk : ∀ m', (∀ x k, x ≠ 282 → m' x k = m x k) → (∀ r, 0 ≤ r → r < 24 → m' 282 r = 0) → K m') : TrV 55 [(1, 280)] m K := by
  have h : shp 280 = 22 := by decide +kernel
  refine e55 _ h ?_
  have loop : ∀ (d r : Nat) (m1 : Mm), r + d = 24 → (∀ x k, x ≠ 282 → m1 x k = m x k) → (∀ j, 0 ≤ j → j < (r : Int) → m1 282 j = 0) → X 55 2 [(1, 280), (0, (r : Int))] [] m1 (qV K) := by
    intro d
    induction d with
    | zero =>
      intro r m1 hr f1 I1
      exact w55_2 _ _ h ⟨fun q => absurd q (by omega), fun _ => kk m1 f1 fun j j0 j1 => I1 j j0 (by omega)⟩
    | succ d ih =>
      intro r m1 hr f1 I1
      refine w55_2 _ _ h ⟨fun _ => ⟨by omega, fun m2 e2 => ?_⟩, fun q => absurd (show (r : Int) < 24 by omega) q⟩
      have e2' : m2 = umem m1 282 r 0 := e2
      rw [wrI (x := (r : Int) + 1) (by omega) (by omega)]
      refine ih (r + 1) m2 (by omega) (fun x j hx => by rw [e2', um_x hx]; exact f1 x j hx) fun j j0 j1 => ?_
      by_cases hj : j = r
      · rw [hj, e2', um_s]
      · rw [e2', um_k hj]
        exact I1 j j0 (by omega)
  exact loop 24 0 m (by omega) (fun _ _ _ => rfl) fun j j0 j1 => by omega
theorem c56x {K : Mm → Prop} (kk : ∀ m', (∀ x k, x ≠ 283 → m' x k = m x k) → (∀ r, 0 ≤ r → r < 10 → m' 283 r = -9) → K m') : TrV 56 [(1, 280)] m K := by
  have h : shp 280 = 22 := by decide +kernel
  refine e56 _ h ?_
  have loop : ∀ (d r : Nat) (m1 : Mm), r + d = 10 → (∀ x k, x ≠ 283 → m1 x k = m x k) → (∀ j, 0 ≤ j → j < (r : Int) → m1 283 j = -9) → X 56 2 [(1, 280), (0, (r : Int))] [] m1 (qV K) := by
    intro d
    induction d with
    | zero =>
      intro r m1 hr f1 I1
      exact w56_2 _ _ h ⟨fun q => absurd q (by omega), fun _ => kk m1 f1 fun j j0 j1 => I1 j j0 (by omega)⟩
    | succ d ih =>
      intro r m1 hr f1 I1
      refine w56_2 _ _ h ⟨fun _ => ⟨by omega, fun m2 e2 => ?_⟩, fun q => absurd (show (r : Int) < 10 by omega) q⟩
      have e2' : m2 = umem m1 283 r (-9) := e2
      rw [wrI (x := (r : Int) + 1) (by omega) (by omega)]
      refine ih (r + 1) m2 (by omega) (fun x j hx => by rw [e2', um_x hx]; exact f1 x j hx) fun j j0 j1 => ?_
      by_cases hj : j = r
      · rw [hj, e2', um_s]
      · rw [e2', um_k hj]
        exact I1 j j0 (by omega)
  exact loop 10 0 m (by omega) (fun _ _ _ => rfl) fun j j0 j1 => by omega
theorem c54 {K : Mm → Prop} (h0 : shp t = 30) (ht : t = 6 ∨ t = 108) (kk : ∀ m', (∀ x k, ¬ (281 ≤ x ∧ x < 284) → m' x k = m x k) → (∀ r, 0 ≤ r → r < 24 → m' 281 r = if r < m t 5 then m (t + 6 + 2 * r) 7 else 0) → (∀ r, 0 ≤ r → r < 24 → m' 282 r = 0) → (∀ r, 0 ≤ r → r < 10 → m' 283 r = -9) → K m') : TrV 54 [(1, 280), (1, t)] m K := by
  have h : shp 280 = 22 := by decide +kernel
  refine e54 _ _ h h0 ?_
  have loop : ∀ (d r : Nat) (m1 : Mm), r + d = 24 → (∀ x k, x ≠ 281 → m1 x k = m x k) → (∀ j, 0 ≤ j → j < (r : Int) → m1 281 j = if j < m t 5 then m (t + 6 + 2 * j) 7 else 0) → X 54 2 [(1, 280), (1, t), (0, (r : Int))] [] m1 (qV K) := by
    intro d
    induction d with
    | zero =>
      intro r m1 hr f1 I1
      refine w54_2 _ _ _ h h0 ⟨fun q => absurd q (by omega), fun _ => c55x fun m2 f2 z2 => c56x fun m3 f3 z3 => ?_⟩
      refine kk m3 (fun x k hx => by rw [f3 x k (by omega), f2 x k (by omega), f1 x k (by omega)]) (fun j j0 j1 => ?_) (fun j j0 j1 => ?_) z3
      · rw [f3 _ _ (by omega), f2 _ _ (by omega)]
        exact I1 j j0 (by omega)
      · rw [f3 _ _ (by omega)]
        exact z2 j j0 j1
    | succ d ih =>
      intro r m1 hr f1 I1
      have go : ∀ m2, m2 = umem m1 281 r (if (r : Int) < m t 5 then m (t + 6 + 2 * r) 7 else 0) → X 54 2 [(1, 280), (1, t), (0, wr ((r : Int) + 1))] [] m2 (qV K) := fun m2 e2 => by
        rw [wrI (x := (r : Int) + 1) (by omega) (by omega)]
        refine ih (r + 1) m2 (by omega) (fun x j hx => by rw [e2, um_x hx]; exact f1 x j hx) fun j j0 j1 => ?_
        by_cases hj : j = r
        · rw [hj, e2, um_s]
        · rw [e2, um_k hj]
          exact I1 j j0 (by omega)
      have t5 : m1 t 5 = m t 5 := f1 _ _ (by omega)
      refine w54_2 _ _ _ h h0 ⟨fun _ => ?_, fun q => absurd (show (r : Int) < 24 by omega) q⟩
      rw [t5]
      refine ⟨fun q => ⟨by omega, fun m2 e2 => go m2 ?_⟩, fun q => ⟨by omega, fun m2 e2 => go m2 ?_⟩⟩
      · rw [if_pos q, ← f1 (t + 6 + 2 * (r : Int)) 7 (by omega)]
        exact e2
      · rw [if_neg q]
        exact e2
  exact loop 24 0 m (by omega) (fun _ _ _ => rfl) fun j j0 j1 => by omega
theorem c58 {K : Mm → Prop} (kk : ∀ m', (∀ x k, x ≠ 595 → ¬ (x = 1 ∧ k = 17) → m' x k = m x k) → (∀ r, 0 ≤ r → r < 10 → m' 595 r = 16777215) → m' 1 17 = 1 → K m') : TrV 58 [(1, 1)] m K := by
  refine e58 ?_
  have loop : ∀ (d r : Nat) (m1 : Mm), r + d = 10 → (∀ x k, x ≠ 595 → m1 x k = m x k) → (∀ j, 0 ≤ j → j < (r : Int) → m1 595 j = 16777215) → X 58 2 [(1, 1), (0, (r : Int))] [] m1 (qV K) := by
    intro d
    induction d with
    | zero =>
      intro r m1 hr f1 I1
      refine w58_2 _ ⟨fun q => absurd q (by omega), fun _ m2 e2 => ?_⟩
      exact kk m2 (fun x k h1 h2 => by rw [e2, um_n h2]; exact f1 x k h1) (fun j j0 j1 => by rw [e2, um_x (by omega)]; exact I1 j j0 (by omega)) (by rw [e2, um_s])
    | succ d ih =>
      intro r m1 hr f1 I1
      refine w58_2 _ ⟨fun _ => ⟨by omega, fun m2 e2 => ?_⟩, fun q => absurd (show (r : Int) < 10 by omega) q⟩
      rw [wrI (x := (r : Int) + 1) (by omega) (by omega)]
      refine ih (r + 1) m2 (by omega) (fun x j hx => by rw [e2, um_x hx]; exact f1 x j hx) fun j j0 j1 => ?_
      by_cases hj : j = r
      · rw [hj, e2, um_s]
      · rw [e2, um_k hj]
        exact I1 j j0 (by omega)
  exact loop 10 0 m (by omega) (fun _ _ _ => rfl) fun j j0 j1 => by omega
/-- what a text that is taken leaves on the class's side -/
def TxC (B : Bk) (m m' : Mm) : Prop := (∀ x k, ¬ (x = 1 ∧ (k = 1 ∨ k = 3 ∨ k = 4 ∨ k = 17)) → x ≠ 3 → x ≠ 4 → ¬ (m 1 4 ≤ x ∧ x < m 1 4 + 102) → ¬ (x = m 1 5 ∧ k = 4) → ¬ (281 ≤ x ∧ x < 284) → ¬ (x = 284 ∧ (k = 2 ∨ k = 3)) → ¬ (x = 581 ∧ k = 2) → x ≠ 595 → m' x k = m x k)
  ∧ (m' 1 1 = 0 ∧ m' 1 3 = m 1 4 ∧ m' 1 4 = m 1 3 ∧ m' 1 17 = 1 ∧ m' 3 0 = 0 ∧ m' 3 1 = -1 ∧ m' (m 1 5) 4 = 0 ∧ m' 284 2 = 0 ∧ m' 284 3 = 0 ∧ m' 581 2 = -1) ∧ TbC B m' (m 1 4) ∧ (∀ r, 0 ≤ r → r < 24 → m' 281 r = (if r < B 578 then B (11 * r + 4) else 0) ∧ m' 282 r = 0) ∧ (∀ w, 0 ≤ w → w < 10 → m' 283 w = -9) ∧ ∀ w, 0 ≤ w → w < 10 → m' 595 w = 16777215
theorem c14 {f : Int → Int} {N n : Int} {K : Int → Mm → Prop} (h3 : m 1 4 = 114 - m 1 3) (ht : m 1 4 = 6 ∨ m 1 4 = 108) (hp : m 1 5 = 210 ∨ m 1 5 = 245) (h1 : m 1 1 = N) (hN : 0 ≤ N ∧ N ≤ 900) (hf : ∀ i, 0 ≤ i → i < N → m 2 i = f i ∧ 0 ≤ f i ∧ f i < 256)
    (b2 : ¬ (0 ≤ n ∧ n ≤ N) → K (-2) m)
    (kk : 0 ≤ n → n ≤ N → OutR (fun e x => ∀ m', (∀ y k, ¬ (y = 1 ∧ k = 1) → y ≠ 3 → y ≠ 4 → ¬ (m 1 4 ≤ y ∧ y < m 1 4 + 102) → m' y k = m y k) → m' 1 1 = 0 → m' 3 0 = e → m' 3 1 = x → K (-1) m') (fun B' c' => 0 ≤ c' ∧ ∀ m', TxC B' m m' → K c' m') (txS f n (n + 1).toNat B0 0 0)) : TrI 14 [(1, 1), (0, n)] m K := by
  refine e14 _ ⟨fun q => b2 (by omega), fun q => ⟨fun q2 => b2 (by omega), fun q2 => ?_⟩⟩
  have kk' := kk (by omega) (by omega)
  refine c15 (f := f) ht ⟨by omega, by omega⟩ (fun i i0 i1 => hf i i0 (by omega)) ?_
  revert kk'
  generalize txS f n (n + 1).toNat B0 0 0 = r
  intro kk'
  have sp : shp (m 1 5) = 24 := by obtain h | h := hp <;> rw [h] <;> decide +kernel
  have stt : shp (m 1 4) = 30 := by obtain h | h := ht <;> rw [h] <;> decide +kernel
  cases r with
  | inl q =>
    intro m1 f1 y0 y1 m2 e2
    exact ⟨fun _ => kk' m2 (fun y k h1 h2 h3 h4 => by rw [e2, um_n h1]; exact f1 y k h2 h3 h4) (by rw [e2, um_s]) (by rw [e2, um_n (by omega)]; exact y0) (by rw [e2, um_n (by omega)]; exact y1), fun z => absurd (show (-1 : Int) < 0 by decide) z⟩
  | inr q =>
    obtain ⟨B, c⟩ := q
    obtain ⟨c0, kk'⟩ := kk'
    intro m1 f1 y0 y1 T1' m2 e2
    have T1 : TbC B m1 (m 1 4) := T1'
    clear T1'
    refine ⟨fun z => absurd (show c < 0 from z) (by omega), fun _ => ?_⟩
    have f2 : ∀ y k, ¬ (y = 1 ∧ k = 1) → y ≠ 3 → y ≠ 4 → ¬ (m 1 4 ≤ y ∧ y < m 1 4 + 102) → m2 y k = m y k := fun y k h1 h2 h3 h4 => by rw [e2, um_n h1]; exact f1 y k h2 h3 h4
    have a3 : m2 1 3 = m 1 3 := f2 _ _ (by omega) (by omega) (by omega) (by omega)
    have a4 : m2 1 4 = m 1 4 := f2 _ _ (by omega) (by omega) (by omega) (by omega)
    have a5 : m2 1 5 = m 1 5 := f2 _ _ (by omega) (by omega) (by omega) (by omega)
    rw [a4]
    refine ⟨stt, fun m3 e3 m4 e4 => ?_⟩
    rw [a3] at e3
    have b5 : m4 1 5 = m 1 5 := by rw [e4, um_k (by omega), e3, um_k (by omega)]; exact a5
    have b3 : m4 1 3 = m 1 4 := by rw [e4, um_s]
    rw [b5]
    refine ⟨sp, fun m5 e5 => ?_⟩
    have d3 : m5 1 3 = m 1 4 := by rw [e5, um_n (by omega)]; exact b3
    rw [d3]
    have T5 : TbC B m5 (m 1 4) := T1.fr fun x k hx => by
      have I1 := T1.1.1
      have I2 := T1.1.2.1
      rw [e5, um_n (by omega), e4, um_n (by omega), e3, um_n (by omega), e2, um_n (by omega)]
    refine c54 stt ht fun m6 f6 z1 z2 z3 => fun m7 e7 m8 e8 m9 e9 => ?_
    refine c58 fun m' f' z5 z17 => ?_
    have F : ∀ y k, y ≠ 595 → ¬ (y = 1 ∧ k = 17) → ¬ (y = 284 ∧ (k = 2 ∨ k = 3)) → ¬ (y = 581 ∧ k = 2) → m' y k = m6 y k := fun y k h1 h2 h3 h4 => by
      rw [f' y k h1 h2, e9, um_n (by omega), e8, um_n (by omega), e7, um_n (by omega)]
    have F6 : ∀ y k, ¬ (281 ≤ y ∧ y < 284) → ¬ (y = 1 ∧ (k = 3 ∨ k = 4)) → ¬ (y = m 1 5 ∧ k = 4) → m6 y k = m2 y k := fun y k h1 h2 h3 => by
      rw [f6 y k h1, e5, um_n h3, e4, um_n (by omega), e3, um_n (by omega)]
    have T' : TbC B m' (m 1 4) := T5.fr fun x k hx => by
      have I1 := T1.1.1
      have I2 := T1.1.2.1
      rw [F x k (by omega) (by omega) (by omega) (by omega), f6 x k (by omega)]
    refine kk' m' ⟨fun y k n1 n2 n3 n4 n5 n6 n7 n8 n9 => ?_, ⟨?_, ?_, ?_, z17, ?_, ?_, ?_, ?_, ?_, ?_⟩, T', fun r r0 r1 => ⟨?_, ?_⟩, fun w w0 w1 => ?_, z5⟩
    · rw [F y k n9 (by omega) (by omega) (by omega), F6 y k n6 (by omega) n5]
      exact f2 y k (by omega) n2 n3 n4
    · rw [F _ _ (by omega) (by omega) (by omega) (by omega), F6 _ _ (by omega) (by omega) (by omega), e2, um_s]
    · rw [F _ _ (by omega) (by omega) (by omega) (by omega), f6 _ _ (by omega)]
      exact d3
    · rw [F _ _ (by omega) (by omega) (by omega) (by omega), f6 _ _ (by omega), e5, um_n (by omega), e4, um_k (by omega), e3, um_s]
    · rw [F _ _ (by omega) (by omega) (by omega) (by omega), F6 _ _ (by omega) (by omega) (by omega), e2, um_n (by omega)]
      exact y0
    · rw [F _ _ (by omega) (by omega) (by omega) (by omega), F6 _ _ (by omega) (by omega) (by omega), e2, um_n (by omega)]
      exact y1
    · rw [F _ _ (by omega) (by omega) (by omega) (by omega), f6 _ _ (by omega), e5, um_s]
    · rw [f' _ _ (by omega) (by omega), e9, um_n (by omega), e8, um_n (by omega), e7, um_s]
    · rw [f' _ _ (by omega) (by omega), e9, um_n (by omega), e8, um_s]
    · rw [f' _ _ (by omega) (by omega), e9, um_s]
    · rw [F _ _ (by omega) (by omega) (by omega) (by omega), z1 r r0 r1]
      have t5 : m5 (m 1 4) 5 = B 578 := T5.2.1.2.1
      rw [t5]
      split <;> rename_i hr
      · exact (T5.2.1.2.2.2.2.2.2.1 r r0 hr).2.2.2.2.1
      · rfl
    · rw [F _ _ (by omega) (by omega) (by omega) (by omega)]
      exact z2 r r0 r1
    · rw [F _ _ (by omega) (by omega) (by omega) (by omega)]
      exact z3 w w0 w1
end CTX
