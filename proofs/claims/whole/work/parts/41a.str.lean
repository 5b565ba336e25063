/-! the JDK's charAt(24), indexOf(33) over the class's two constants -/
section ST
variable {m : Mm}
theorem c25 {i : Int} (hi : i = 0 ∨ i = 1) : Tr 25 [(4, i)] m fun rv m1 => rv = some (0, 1) ∧ m1 = m := by
  refine TrI.pure ?_
  rcases hi with rfl | rfl
  all_goals
    refine x_s (M := 25) (pc := 0) (q := (.getstatic 38, 1, 0, 0)) (cod_25 rfl) rfl rfl rfl ?_
    refine x_if (p := (1 : Int) = 0) (tgt := 17) (cod_25 rfl) (by decide) xj_eq (fun h => absurd h (by decide)) (fun _ => ?_)
    refine x_s (q := (.aload_n 0, 0, 0, 0)) (cod_25 rfl) rfl rfl rfl ?_
    refine x_s (q := (.getfield 15, 0, 100, 0)) (cod_25 rfl) rfl rfl rfl ?_
    refine x_if (p := ¬ (0 : Int) = 0) (tgt := 17) (cod_25 rfl) (by decide) xj_ne (fun h => absurd rfl h) (fun _ => ?_)
    refine x_s (q := (.iconst 1, 0, 0, 0)) (cod_25 rfl) rfl rfl rfl ?_
    refine x_go (tgt := 18) (cod_25 rfl) (by decide) ?_
    refine x_retI (t := .boolean) (cod_25 rfl) rfl rfl rfl ?_
    exact ⟨rfl, rfl⟩
theorem c36 {i : Int} (hi : i = 0 ∨ i = 1) : Tr 36 [(4, i)] m fun rv m1 => rv = some (0, 0) ∧ m1 = m := by
  refine TrI.pure ?_
  rcases hi with rfl | rfl
  all_goals
    refine x_s (M := 36) (pc := 0) (q := (.getstatic 38, 1, 0, 0)) (cod_36 rfl) rfl rfl rfl ?_
    refine x_if (p := (1 : Int) = 0) (tgt := 13) (cod_36 rfl) (by decide) xj_eq (fun h => absurd h (by decide)) (fun _ => ?_)
    refine x_s (q := (.aload_n 0, 0, 0, 0)) (cod_36 rfl) rfl rfl rfl ?_
    refine x_s (q := (.getfield 15, 0, 100, 0)) (cod_36 rfl) rfl rfl rfl ?_
    refine x_go (tgt := 14) (cod_36 rfl) (by decide) ?_
    refine x_retI (t := .byte) (cod_36 rfl) rfl rfl rfl ?_
    exact ⟨rfl, rfl⟩
theorem c28 {j n : Int} (hj : 0 ≤ j ∧ j < n) : Tr 28 [(0, j), (0, n), (6, 0)] m fun rv m1 => rv = some (0, j) ∧ m1 = m := by
  refine TrI.pure ?_
  refine x_s (M := 28) (pc := 0) (q := (.iload_n 0, 0, 0, 0)) (cod_28 rfl) rfl rfl rfl ?_
  refine x_if (p := j < 0) (tgt := 9) (cod_28 rfl) (by decide) xj_lt (fun h => absurd h (by omega)) (fun _ => ?_)
  refine x_s (q := (.iload_n 0, 0, 0, 0)) (cod_28 rfl) rfl rfl rfl ?_
  refine x_s (q := (.iload_n 1, 0, 0, 0)) (cod_28 rfl) rfl rfl rfl ?_
  refine x_ic (p := j < n) (tgt := 16) (cod_28 rfl) (by decide) xj_lt (fun _ => ?_) (fun h => absurd hj.2 h)
  refine x_s (q := (.iload_n 0, 0, 0, 0)) (cod_28 rfl) rfl rfl rfl ?_
  refine x_retI (t := .int) (cod_28 rfl) rfl rfl rfl ?_
  exact ⟨rfl, rfl⟩
theorem c27 {j n : Int} {K : Mm → Prop} (hj : 0 ≤ j ∧ j < n) (kk : K m) : TrV 27 [(0, j), (0, n)] m K := by
  refine x_s (M := 27) (pc := 0) (q := (.iload_n 0, 0, 0, 0)) (cod_27 rfl) rfl rfl rfl ?_
  refine x_s (q := (.iload_n 1, 0, 0, 0)) (cod_27 rfl) rfl rfl rfl ?_
  refine x_s (q := (.getstatic 1053, 0, 6, 0)) (cod_27 rfl) rfl rfl rfl ?_
  refine x_call (as := [(0, j), (0, n), (6, 0)]) (rest := []) (cod_27 rfl) rfl rfl (by decide) (by decide) rfl rfl (Nat.le_of_ble_eq_true rfl) rfl (Nat.le_of_ble_eq_true rfl) ?_
  refine x_pure (c28 hj) ?_
  refine x_s (q := (.pop, 0, 0, 0)) (cod_27 rfl) rfl rfl rfl ?_
  exact x_retV (cod_27 rfl) rfl kk
/-- a byte of a constant, as a char -/
def chS (i : Int) (j : Nat) : Int := i2c (iand (sbyt i j) 255)
theorem ch0 : ∀ j : Nat, j < 10 → chS 0 j = cs 600 (j : Int) ∧ bok .char (chS 0 j) = true := by decide +kernel
theorem ch1 : ∀ j : Nat, j < 144 → chS 1 j = sbyt 1 j ∧ bok .char (chS 1 j) = true := by decide +kernel
theorem c26 {i j : Int} (hi : i = 0 ∨ i = 1) (hj : 0 ≤ j ∧ j < slen i) (hb : bok .char (chS i j.toNat) = true) : Tr 26 [(5, i), (0, j)] m fun rv m1 => rv = some (0, chS i j.toNat) ∧ m1 = m := by
  refine TrI.pure ?_
  have one : ∀ (i : Int), (i = 0 ∨ i = 1) → 0 ≤ j ∧ j < slen i → blS (mk m) [(5, i), (0, j)] ((0, j) :: (5, i) :: []) 9 = some (9, [(5, i), (0, j)], (0, sbyt i j.toNat) :: [], mk m) := fun i hi hj => by
    exact if_pos (c := 0 ≤ j ∧ j < slen i ∧ (i = 0 ∨ i = 1)) ⟨hj.1, hj.2, hi⟩
  rcases hi with rfl | rfl
  all_goals
    refine x_s (M := 26) (pc := 0) (q := (.iload_n 1, 0, 0, 0)) (cod_26 rfl) rfl rfl rfl ?_
    refine x_s (q := (.aload_n 0, 0, 0, 0)) (cod_26 rfl) rfl rfl rfl ?_
    refine x_s (q := (.arraylength, 0, 0, 0)) (cod_26 rfl) rfl rfl rfl ?_
  · refine x_call (as := [(0, j), (0, slen 0)]) (rest := []) (cod_26 rfl) rfl rfl (by decide) (by decide) rfl rfl (Nat.le_of_ble_eq_true rfl) rfl (Nat.le_of_ble_eq_true rfl) ?_
    refine X.imp (c27 (K := fun m1 => m1 = m) hj rfl) ?_
    rintro _ m5 ⟨rfl, rfl⟩
    refine x_s (M := 26) (pc := 6) (q := (.aload_n 0, 0, 0, 0)) (cod_26 rfl) rfl rfl rfl ?_
    refine x_s (q := (.iload_n 1, 0, 0, 0)) (cod_26 rfl) rfl rfl rfl ?_
    refine x_s (q := (.baload, 0, 0, 0)) (cod_26 rfl) rfl rfl (one 0 (Or.inl rfl) hj) ?_
    refine x_s (q := (.sipush 255, 0, 0, 0)) (cod_26 rfl) rfl rfl rfl ?_
    refine x_s (q := (.iand, 0, 0, 0)) (cod_26 rfl) rfl rfl rfl ?_
    refine x_s (q := (.i2c, 0, 0, 0)) (cod_26 rfl) rfl rfl rfl ?_
    refine x_retI (t := .char) (cod_26 rfl) rfl rfl hb ?_
    exact ⟨rfl, rfl⟩
  · refine x_call (as := [(0, j), (0, slen 1)]) (rest := []) (cod_26 rfl) rfl rfl (by decide) (by decide) rfl rfl (Nat.le_of_ble_eq_true rfl) rfl (Nat.le_of_ble_eq_true rfl) ?_
    refine X.imp (c27 (K := fun m1 => m1 = m) hj rfl) ?_
    rintro _ m5 ⟨rfl, rfl⟩
    refine x_s (M := 26) (pc := 6) (q := (.aload_n 0, 0, 0, 0)) (cod_26 rfl) rfl rfl rfl ?_
    refine x_s (q := (.iload_n 1, 0, 0, 0)) (cod_26 rfl) rfl rfl rfl ?_
    refine x_s (q := (.baload, 0, 0, 0)) (cod_26 rfl) rfl rfl (one 1 (Or.inr rfl) hj) ?_
    refine x_s (q := (.sipush 255, 0, 0, 0)) (cod_26 rfl) rfl rfl rfl ?_
    refine x_s (q := (.iand, 0, 0, 0)) (cod_26 rfl) rfl rfl rfl ?_
    refine x_s (q := (.i2c, 0, 0, 0)) (cod_26 rfl) rfl rfl rfl ?_
    refine x_retI (t := .char) (cod_26 rfl) rfl rfl hb ?_
    exact ⟨rfl, rfl⟩
theorem c24 {i j : Int} (hi : i = 0 ∨ i = 1) (hj : 0 ≤ j ∧ j < slen i) (hb : bok .char (chS i j.toNat) = true) : Tr 24 [(4, i), (0, j)] m fun rv m1 => rv = some (0, chS i j.toNat) ∧ m1 = m := by
  refine TrI.pure ?_
  rcases hi with rfl | rfl
  · refine x_s (M := 24) (pc := 0) (q := (.aload_n 0, 0, 0, 0)) (cod_24 rfl) rfl rfl rfl ?_
    refine x_call (as := [(4, 0)]) (rest := []) (cod_24 rfl) rfl rfl (by decide) (by decide) rfl rfl (Nat.le_of_ble_eq_true rfl) rfl (Nat.le_of_ble_eq_true rfl) ?_
    refine x_pure (c25 (Or.inl rfl)) ?_
    refine x_if (M := 24) (pc := 4) (p := (1 : Int) = 0) (tgt := 16) (cod_24 rfl) (by decide) xj_eq (fun h => absurd h (by decide)) (fun _ => ?_)
    refine x_s (q := (.aload_n 0, 0, 0, 0)) (cod_24 rfl) rfl rfl rfl ?_
    refine x_s (q := (.getfield 9, 0, 101, 0)) (cod_24 rfl) rfl rfl rfl ?_
    refine x_s (q := (.iload_n 1, 0, 0, 0)) (cod_24 rfl) rfl rfl rfl ?_
    refine x_call (as := [(5, 0), (0, j)]) (rest := []) (cod_24 rfl) rfl rfl (by decide) (by decide) rfl rfl (Nat.le_of_ble_eq_true rfl) rfl (Nat.le_of_ble_eq_true rfl) ?_
    refine x_pure (c26 (Or.inl rfl) hj hb) ?_
    refine x_retI (M := 24) (pc := 15) (t := .char) (cod_24 rfl) rfl rfl hb ?_
    exact ⟨rfl, rfl⟩
  · refine x_s (M := 24) (pc := 0) (q := (.aload_n 0, 0, 0, 0)) (cod_24 rfl) rfl rfl rfl ?_
    refine x_call (as := [(4, 1)]) (rest := []) (cod_24 rfl) rfl rfl (by decide) (by decide) rfl rfl (Nat.le_of_ble_eq_true rfl) rfl (Nat.le_of_ble_eq_true rfl) ?_
    refine x_pure (c25 (Or.inr rfl)) ?_
    refine x_if (M := 24) (pc := 4) (p := (1 : Int) = 0) (tgt := 16) (cod_24 rfl) (by decide) xj_eq (fun h => absurd h (by decide)) (fun _ => ?_)
    refine x_s (q := (.aload_n 0, 0, 0, 0)) (cod_24 rfl) rfl rfl rfl ?_
    refine x_s (q := (.getfield 9, 0, 101, 0)) (cod_24 rfl) rfl rfl rfl ?_
    refine x_s (q := (.iload_n 1, 0, 0, 0)) (cod_24 rfl) rfl rfl rfl ?_
    refine x_call (as := [(5, 1), (0, j)]) (rest := []) (cod_24 rfl) rfl rfl (by decide) (by decide) rfl rfl (Nat.le_of_ble_eq_true rfl) rfl (Nat.le_of_ble_eq_true rfl) ?_
    refine x_pure (c26 (Or.inr rfl) hj hb) ?_
    refine x_retI (M := 24) (pc := 15) (t := .char) (cod_24 rfl) rfl rfl hb ?_
    exact ⟨rfl, rfl⟩
/-- the sign's char, a char of the language's words -/
theorem sgChar {s : Int} {K : Int → Mm → Prop} (hs : 0 ≤ s ∧ s < 10) (kk : K (cs 600 s) m) : TrI 24 [(4, 0), (0, s)] m K := by
  have h := ch0 s.toNat (by omega)
  rw [show ((s.toNat : Nat) : Int) = s by omega] at h
  exact x_pure (c24 (Or.inl rfl) ⟨hs.1, by show s < 10; omega⟩ h.2) ⟨_, rfl, by rw [h.1]; exact kk⟩
theorem lgChar {j : Int} {K : Int → Mm → Prop} (hj : 0 ≤ j ∧ j < 144) (kk : K (sbyt 1 j.toNat) m) : TrI 24 [(4, 1), (0, j)] m K := by
  have h := ch1 j.toNat (by omega)
  exact x_pure (c24 (Or.inr rfl) ⟨hj.1, by show j < 144; omega⟩ h.2) ⟨_, rfl, by rw [h.1]; exact kk⟩
/-- indexOf: the first place of a char in the signs, or none -/
def sgN (c : Int) : Int := fstN 10 fun k => decide (cs 600 k = c)
theorem sb0 : ∀ k : Nat, k < 10 → sbyt 0 k = cs 600 (k : Int) := by decide +kernel
theorem c40 {c : Int} (hc : 0 < c ∧ c < 128) : Tr 40 [(5, 0), (0, c), (0, 0), (0, 10)] m fun rv m1 => rv = some (0, sgN c) ∧ m1 = m := by
  refine TrI.pure ?_
  have hb : i2b c = c := by
    have : ∀ n : Nat, n < 128 → i2b (n : Int) = (n : Int) := by decide +kernel
    have h2 := this c.toNat (by omega)
    rw [show ((c.toNat : Nat) : Int) = c by omega] at h2
    exact h2
  refine x_s (M := 40) (pc := 0) (q := (.iload_n 1, 0, 0, 0)) (cod_40 rfl) rfl rfl rfl ?_
  refine x_s (q := (.i2b, 0, 0, 0)) (cod_40 rfl) rfl rfl rfl ?_
  show X 40 2 _ [(0, i2b c)] m _
  rw [hb]
  refine x_s (q := (.istore 4, 0, 0, 0)) (cod_40 rfl) rfl rfl rfl ?_
  refine x_s (q := (.iload_n 2, 0, 0, 0)) (cod_40 rfl) rfl rfl rfl ?_
  refine x_s (q := (.istore 5, 0, 0, 0)) (cod_40 rfl) rfl rfl rfl ?_
  have loop : ∀ (n k : Nat), k + n = 10 → (∀ i : Int, 0 ≤ i → i < k → ¬ cs 600 i = c) → X 40 7 [(5, 0), (0, c), (0, 0), (0, 10), (0, c), (0, (k : Int))] [] m (qI fun v' m1 => v' = sgN c ∧ m1 = m) := by
    intro n
    induction n with
    | zero =>
      intro k hk hall
      refine x_s (M := 40) (pc := 7) (q := (.iload 5, 0, 0, 0)) (cod_40 rfl) rfl rfl rfl ?_
      refine x_s (q := (.iload_n 3, 0, 0, 0)) (cod_40 rfl) rfl rfl rfl ?_
      refine x_ic (p := ¬ (k : Int) < 10) (tgt := 31) (cod_40 rfl) (by decide) xn_ge (fun _ => ?_) (fun h => absurd (show ¬ (k : Int) < 10 by omega) h)
      refine x_s (q := (.iconst (-1), 0, 0, 0)) (cod_40 rfl) rfl rfl rfl ?_
      refine x_retI (t := .int) (cod_40 rfl) rfl rfl rfl ⟨?_, rfl⟩
      unfold sgN
      rw [fstN_no fun i i0 i1 => decide_eq_false (hall i i0 (by omega))]
    | succ n ih =>
      intro k hk hall
      have k10 : 0 ≤ (k : Int) ∧ (k : Int) < 10 := by omega
      have one : blS (mk m) [(5, 0), (0, c), (0, 0), (0, 10), (0, c), (0, (k : Int))] ((0, (k : Int)) :: (5, 0) :: []) 17 = some (17, [(5, 0), (0, c), (0, 0), (0, 10), (0, c), (0, (k : Int))], (0, sbyt 0 (k : Int).toNat) :: [], mk m) := by
        exact if_pos (c := 0 ≤ (k : Int) ∧ (k : Int) < slen 0 ∧ ((0 : Int) = 0 ∨ (0 : Int) = 1)) ⟨k10.1, k10.2, Or.inl rfl⟩
      refine x_s (M := 40) (pc := 7) (q := (.iload 5, 0, 0, 0)) (cod_40 rfl) rfl rfl rfl ?_
      refine x_s (q := (.iload_n 3, 0, 0, 0)) (cod_40 rfl) rfl rfl rfl ?_
      refine x_ic (p := ¬ (k : Int) < 10) (tgt := 31) (cod_40 rfl) (by decide) xn_ge (fun h => absurd k10.2 h) (fun _ => ?_)
      refine x_s (q := (.aload_n 0, 0, 0, 0)) (cod_40 rfl) rfl rfl rfl ?_
      refine x_s (q := (.iload 5, 0, 0, 0)) (cod_40 rfl) rfl rfl rfl ?_
      refine x_s (q := (.baload, 0, 0, 0)) (cod_40 rfl) rfl rfl one ?_
      rw [show sbyt 0 (k : Int).toNat = cs 600 (k : Int) by rw [Int.toNat_natCast]; exact sb0 k (by omega)]
      refine x_s (q := (.iload 4, 0, 0, 0)) (cod_40 rfl) rfl rfl rfl ?_
      refine x_ic (p := ¬ cs 600 (k : Int) = c) (tgt := 25) (cod_40 rfl) (by decide) xj_ne (fun h => ?_) (fun h => ?_)
      · refine x_s (q := (.iinc 5 1, 0, 0, 0)) (cod_40 rfl) rfl rfl rfl ?_
        refine x_go (tgt := 7) (cod_40 rfl) (by decide) ?_
        show X 40 7 [(5, 0), (0, c), (0, 0), (0, 10), (0, c), (0, wr ((k : Int) + 1))] [] m _
        rw [wrI (x := (k : Int) + 1) (by omega) (by omega)]
        exact ih (k + 1) (by omega) fun i i0 i1 => by
          by_cases hi : i = k
          · rw [hi]; exact h
          · exact hall i i0 (by omega)
      · refine x_s (q := (.iload 5, 0, 0, 0)) (cod_40 rfl) rfl rfl rfl ?_
        refine x_retI (t := .int) (cod_40 rfl) rfl rfl rfl ⟨?_, rfl⟩
        have hk : decide (cs 600 (k : Int) = c) = true := decide_eq_true (Classical.not_not.mp h)
        exact (fstN_is (n := 10) (f := fun k => decide (cs 600 k = c)) (p := (k : Int)) k10.1 k10.2 hk fun i i0 i1 => decide_eq_false (hall i i0 i1)).symm
  exact loop 10 0 (by decide) fun i i0 i1 => by omega
theorem c38 {c : Int} (hc : 0 < c ∧ c < 128) : Tr 38 [(0, c)] m fun rv m1 => rv = some (0, 1) ∧ m1 = m := by
  refine TrI.pure ?_
  refine x_s (M := 38) (pc := 0) (q := (.iload_n 0, 0, 0, 0)) (cod_38 rfl) rfl rfl rfl ?_
  refine x_if (p := c < 0) (tgt := 15) (cod_38 rfl) (by decide) xj_lt (fun h => absurd h (by omega)) (fun _ => ?_)
  refine x_s (q := (.iload_n 0, 0, 0, 0)) (cod_38 rfl) rfl rfl rfl ?_
  refine x_s (q := (.sipush 255, 0, 0, 0)) (cod_38 rfl) rfl rfl rfl ?_
  refine x_ic (p := c > 255) (tgt := 15) (cod_38 rfl) (by decide) xj_gt (fun h => absurd h (by omega)) (fun _ => ?_)
  refine x_s (q := (.iconst 1, 0, 0, 0)) (cod_38 rfl) rfl rfl rfl ?_
  refine x_go (tgt := 16) (cod_38 rfl) (by decide) ?_
  refine x_retI (t := .boolean) (cod_38 rfl) rfl rfl rfl ?_
  exact ⟨rfl, rfl⟩
theorem c37 {c : Int} (hc : 0 < c ∧ c < 128) : Tr 37 [(5, 0), (0, c), (0, 0), (0, 10)] m fun rv m1 => rv = some (0, sgN c) ∧ m1 = m := by
  refine TrI.pure ?_
  refine x_s (M := 37) (pc := 0) (q := (.iload_n 1, 0, 0, 0)) (cod_37 rfl) rfl rfl rfl ?_
  refine x_call (as := [(0, c)]) (rest := []) (cod_37 rfl) rfl rfl (by decide) (by decide) rfl rfl (Nat.le_of_ble_eq_true rfl) rfl (Nat.le_of_ble_eq_true rfl) ?_
  refine x_pure (c38 hc) ?_
  refine x_if (M := 37) (pc := 4) (p := ¬ (1 : Int) = 0) (tgt := 9) (cod_37 rfl) (by decide) xj_ne (fun _ => ?_) (fun h => absurd (by decide) h)
  refine x_s (q := (.iload_n 2, 0, 0, 0)) (cod_37 rfl) rfl rfl rfl ?_
  refine x_s (q := (.iconst 0, 0, 0, 0)) (cod_37 rfl) rfl rfl rfl ?_
  refine x_m8 (cod_37 rfl) rfl rfl (by decide) ?_
  refine x_s (q := (.istore_n 2, 0, 0, 0)) (cod_37 rfl) rfl rfl rfl ?_
  refine x_s (q := (.iload_n 3, 0, 0, 0)) (cod_37 rfl) rfl rfl rfl ?_
  refine x_s (q := (.aload_n 0, 0, 0, 0)) (cod_37 rfl) rfl rfl rfl ?_
  refine x_s (q := (.arraylength, 0, 0, 0)) (cod_37 rfl) rfl rfl rfl ?_
  refine x_m7 (cod_37 rfl) rfl rfl (by decide) ?_
  refine x_s (q := (.istore_n 3, 0, 0, 0)) (cod_37 rfl) rfl rfl rfl ?_
  refine x_s (q := (.iload_n 2, 0, 0, 0)) (cod_37 rfl) rfl rfl rfl ?_
  refine x_s (q := (.iload_n 3, 0, 0, 0)) (cod_37 rfl) rfl rfl rfl ?_
  refine x_ic (p := (0 : Int) < 10) (tgt := 29) (cod_37 rfl) (by decide) xj_lt (fun _ => ?_) (fun h => absurd (by decide) h)
  refine x_s (q := (.aload_n 0, 0, 0, 0)) (cod_37 rfl) rfl rfl rfl ?_
  refine x_s (q := (.iload_n 1, 0, 0, 0)) (cod_37 rfl) rfl rfl rfl ?_
  refine x_s (q := (.iload_n 2, 0, 0, 0)) (cod_37 rfl) rfl rfl rfl ?_
  refine x_s (q := (.iload_n 3, 0, 0, 0)) (cod_37 rfl) rfl rfl rfl ?_
  refine x_call (as := [(5, 0), (0, c), (0, 0), (0, 10)]) (rest := []) (cod_37 rfl) rfl rfl (by decide) (by decide) rfl rfl (Nat.le_of_ble_eq_true rfl) rfl (Nat.le_of_ble_eq_true rfl) ?_
  refine x_pure (c40 hc) ?_
  refine x_retI (M := 37) (pc := 36) (t := .int) (cod_37 rfl) rfl rfl rfl ?_
  exact ⟨rfl, rfl⟩
theorem c35 : Tr 35 [(4, 0)] m fun rv m1 => rv = some (0, 10) ∧ m1 = m := by
  refine TrI.pure ?_
  refine x_s (M := 35) (pc := 0) (q := (.aload_n 0, 0, 0, 0)) (cod_35 rfl) rfl rfl rfl ?_
  refine x_s (q := (.getfield 9, 0, 101, 0)) (cod_35 rfl) rfl rfl rfl ?_
  refine x_s (q := (.arraylength, 0, 0, 0)) (cod_35 rfl) rfl rfl rfl ?_
  refine x_s (q := (.aload_n 0, 0, 0, 0)) (cod_35 rfl) rfl rfl rfl ?_
  refine x_call (as := [(4, 0)]) (rest := [(0, slen 0)]) (cod_35 rfl) rfl rfl (by decide) (by decide) rfl rfl (Nat.le_of_ble_eq_true rfl) rfl (Nat.le_of_ble_eq_true rfl) ?_
  refine x_pure (c36 (Or.inl rfl)) ?_
  refine x_s (M := 35) (pc := 9) (q := (.ishr, 0, 0, 0)) (cod_35 rfl) rfl rfl rfl ?_
  refine x_retI (t := .int) (cod_35 rfl) rfl rfl rfl ?_
  exact ⟨by decide +kernel, rfl⟩
theorem c34 {c : Int} (hc : 0 < c ∧ c < 128) : Tr 34 [(4, 0), (0, c), (0, 0)] m fun rv m1 => rv = some (0, sgN c) ∧ m1 = m := by
  refine TrI.pure ?_
  refine x_s (M := 34) (pc := 0) (q := (.aload_n 0, 0, 0, 0)) (cod_34 rfl) rfl rfl rfl ?_
  refine x_call (as := [(4, 0)]) (rest := []) (cod_34 rfl) rfl rfl (by decide) (by decide) rfl rfl (Nat.le_of_ble_eq_true rfl) rfl (Nat.le_of_ble_eq_true rfl) ?_
  refine x_pure (c25 (Or.inl rfl)) ?_
  refine x_if (M := 34) (pc := 4) (p := (1 : Int) = 0) (tgt := 23) (cod_34 rfl) (by decide) xj_eq (fun h => absurd h (by decide)) (fun _ => ?_)
  refine x_s (q := (.aload_n 0, 0, 0, 0)) (cod_34 rfl) rfl rfl rfl ?_
  refine x_s (q := (.getfield 9, 0, 101, 0)) (cod_34 rfl) rfl rfl rfl ?_
  refine x_s (q := (.iload_n 1, 0, 0, 0)) (cod_34 rfl) rfl rfl rfl ?_
  refine x_s (q := (.iload_n 2, 0, 0, 0)) (cod_34 rfl) rfl rfl rfl ?_
  refine x_s (q := (.aload_n 0, 0, 0, 0)) (cod_34 rfl) rfl rfl rfl ?_
  refine x_call (as := [(4, 0)]) (rest := [(0, 0), (0, c), (5, 0)]) (cod_34 rfl) rfl rfl (by decide) (by decide) rfl rfl (Nat.le_of_ble_eq_true rfl) rfl (Nat.le_of_ble_eq_true rfl) ?_
  refine x_pure c35 ?_
  refine x_call (M := 34) (pc := 17) (as := [(5, 0), (0, c), (0, 0), (0, 10)]) (rest := []) (cod_34 rfl) rfl rfl (by decide) (by decide) rfl rfl (Nat.le_of_ble_eq_true rfl) rfl (Nat.le_of_ble_eq_true rfl) ?_
  refine x_pure (c37 hc) ?_
  refine x_go (M := 34) (pc := 20) (tgt := 36) (cod_34 rfl) (by decide) ?_
  refine x_retI (t := .int) (cod_34 rfl) rfl rfl rfl ?_
  exact ⟨rfl, rfl⟩
theorem c33 {c : Int} {K : Int → Mm → Prop} (hc : 0 < c ∧ c < 128) (kk : K (sgN c) m) : TrI 33 [(4, 0), (0, c)] m K := by
  refine x_s (M := 33) (pc := 0) (q := (.aload_n 0, 0, 0, 0)) (cod_33 rfl) rfl rfl rfl ?_
  refine x_s (q := (.iload_n 1, 0, 0, 0)) (cod_33 rfl) rfl rfl rfl ?_
  refine x_s (q := (.iconst 0, 0, 0, 0)) (cod_33 rfl) rfl rfl rfl ?_
  refine x_call (as := [(4, 0), (0, c), (0, 0)]) (rest := []) (cod_33 rfl) rfl rfl (by decide) (by decide) rfl rfl (Nat.le_of_ble_eq_true rfl) rfl (Nat.le_of_ble_eq_true rfl) ?_
  refine x_pure (c34 hc) ?_
  exact x_retI (M := 33) (pc := 6) (t := .int) (cod_33 rfl) rfl rfl rfl kk
/-- the class's signOf(32): the sign's number, or none -/
theorem sgN_rng {c : Int} : -1 ≤ sgN c ∧ sgN c < 10 := fstN_rng
theorem sgN_out {c : Int} (h : ¬ (0 < c ∧ c < 128)) : sgN c = -1 := by
  have : ∀ k : Nat, k < 10 → 0 < cs 600 (k : Int) ∧ cs 600 (k : Int) < 128 := by decide +kernel
  refine fstN_no fun i i0 i1 => decide_eq_false fun e => ?_
  have h2 := this i.toNat (by omega)
  rw [show ((i.toNat : Nat) : Int) = i by omega] at h2
  omega
theorem c32 {c : Int} {K : Int → Mm → Prop} (kk : K (sgN c) m) : TrI 32 [(0, c)] m K := by
  refine e32 _ ⟨fun h => ⟨fun h2 => ?_, fun h2 => ?_⟩, fun h => ?_⟩
  · have hb : i2c c = c := by
      have : ∀ n : Nat, n < 128 → i2c (n : Int) = (n : Int) := by decide +kernel
      have h2 := this c.toNat (by omega)
      rw [show ((c.toNat : Nat) : Int) = c by omega] at h2
      exact h2
    rw [hb]
    exact c33 ⟨h, h2⟩ kk
  · rw [sgN_out (by omega)] at kk
    exact kk
  · rw [sgN_out (by omega)] at kk
    exact kk
end ST
