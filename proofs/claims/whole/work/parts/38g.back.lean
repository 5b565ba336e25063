/-! the class: goBack(98) -/
theorem q_shp {q : Int} (h : q = 511 ∨ q = 546) : shp q = 26 := by
  obtain h | h := h <;> rw [h] <;> decide +kernel
theorem q_slot {q w i : Int} (h : q = 511 ∨ q = 546) (hw : 0 ≤ w ∧ w < 10) (hi : 0 ≤ i ∧ i < 24) : shp (q + 14 + w) = 0 ∧ slot (q + 14 + w) i = some none := by
  have h1 : ∀ w : Nat, w < 10 → ∀ i : Nat, i < 24 → shp (511 + 14 + (w : Int)) = 0 ∧ slot (511 + 14 + (w : Int)) (i : Int) = some none := by decide +kernel
  have h2 : ∀ w : Nat, w < 10 → ∀ i : Nat, i < 24 → shp (546 + 14 + (w : Int)) = 0 ∧ slot (546 + 14 + (w : Int)) (i : Int) = some none := by decide +kernel
  obtain ⟨a, rfl⟩ := Int.eq_ofNat_of_zero_le hw.1
  obtain ⟨b, rfl⟩ := Int.eq_ofNat_of_zero_le hi.1
  obtain h | h := h <;> rw [h]
  · exact h1 a (by omega) b (by omega)
  · exact h2 a (by omega) b (by omega)
/-- all words' choices stand in the class's choices c -/
def CAC (E m : Mm) (c : Int) : Prop := m c 9 = E 597 23 ∧ ∀ w, 0 ≤ w → w < E 597 23 → ChC m c w (chs E w)
def BkC (E m : Mm) (q : Int) (C : Int → Int → Bool) (d : Nat) : Prop := ∀ j, 0 ≤ j → j < (cN E (E 597 23 - 1 - d) : Int) → m (q + 14 + (E 597 23 - 1 - d)) j = bkS E C d j ∧ m (q + 25 + (E 597 23 - 1 - d)) j = ctS E C d j
theorem c98 {E m : Mm} {K : Mm → Prop} {t c q i : Int} {d : Nat} {C : Int → Int → Bool} {b : Bool} (T : InvT E) (Pg : InvP E) (W : InvW E) (Tt : CT E m t) (hc : c = 411 ∨ c = 461) (hq : q = 511 ∨ q = 546) (Ca : CAC E m c) (hd : (d + 1 : Nat) ≤ E 597 23) (hi : 0 ≤ i ∧ i < cN E (E 597 23 - 1 - d)) (hb : b = C (E 597 23 - 1 - d) i) (R : ∀ d', d = d' + 1 → BkC E m q C d')
    (kk : ∀ m', m' = umem (umem m (q + 14 + (E 597 23 - 1 - d)) i (bkS E C d i)) (q + 25 + (E 597 23 - 1 - d)) i (ctS E C d i) → K m') : TrV 98 [(1, q), (1, t), (1, c), (0, E 597 23 - 1 - d), (0, i), (0, if b = true then 1 else 0)] m K := by
  have P1 := Pg.1
  obtain ⟨w, hw⟩ : ∃ w, w = E 597 23 - 1 - (d : Int) := ⟨_, rfl⟩
  rw [← hw] at hi hb kk ⊢
  have w10 : 0 ≤ w ∧ w < 10 := by omega
  have wE : 0 ≤ w ∧ w < E 597 23 := by omega
  have n1 := (chs_len T (w := w)).2
  have i24 : 0 ≤ i ∧ i < 24 := by unfold cN at hi; omega
  have a1 := cE_in T Pg W wE hi
  have q9 : Unit → wr (w + 1) = w + 1 := fun _ => wrI (by omega) (by omega)
  have sq := q_shp hq
  have sc := c_shp hc
  have store : ∀ (a6 a7 : Int) (v1 v9 v10 : aV), (b = true → min 1000000 (a6 + cC E w i) = bkS E C d i ∧ a7 = ctS E C d i) → (0 ≤ a6 ∧ a6 ≤ 1000000) → X 98 118 [(1, q), v1, (1, c), (0, w), (0, i), (0, if b = true then 1 else 0), (0, a6), (2, a7), (9, 0), v9, v10] [] m (qV K) := by
    intro a6 a7 v1 v9 v10 hy h6
    refine w98_118 _ v1 _ _ _ _ _ _ v9 v10 sq sc ⟨w10, fun h0 => ?_, fun h0 => ?_⟩
    · have hbf : b = false := by
        cases b
        · rfl
        · exact absurd h0 (by decide)
      have e1 : bkS E C d i = 1000000 ∧ ctS E C d i = 0 := by
        rw [hbf] at hb
        cases d with
        | zero =>
          rw [show w = E 597 23 - 1 by omega] at hb
          unfold bkS ctS
          rw [← hb]
          exact ⟨rfl, rfl⟩
        | succ d =>
          rw [hw] at hb
          unfold bkS ctS
          rw [← hb]
          exact ⟨rfl, rfl⟩
      refine w98_153 _ v1 _ _ _ _ _ _ v9 v10 _ _ _ sq ⟨q_slot hq w10 i24, fun m3 e3 => ⟨w10, fun _ => ⟨i24, fun m11 e11 => kk m11 ?_⟩, fun h => absurd h0 h⟩⟩
      rw [e11, e3, e1.1, e1.2]
    · have hbt : b = true := by
        cases b
        · exact absurd rfl h0
        · rfl
      obtain ⟨y1, y2⟩ := hy hbt
      refine ⟨i24, ?_⟩
      rw [((Ca.2 w wE.1 wE.2).at hi).2, wrI (x := a6 + cC E w i) (by omega) (by omega), y1, y2]
      exact w98_153 _ v1 _ _ _ _ _ _ v9 v10 _ _ _ sq ⟨q_slot hq w10 i24, fun m3 e3 => ⟨w10, fun h => absurd h h0, fun _ => ⟨i24, fun m15 e15 => kk m15 (by rw [e15, e3])⟩⟩⟩
  refine e98 _ _ _ _ _ _ sq Tt.shp sc ?_
  rw [q9 (), Ca.1]
  refine ⟨fun h => ?_, fun h => ?_⟩
  · obtain ⟨d', rfl⟩ : ∃ d', d = d' + 1 := ⟨d - 1, by omega⟩
    have R' := R d' rfl
    have hw1 : E 597 23 - 1 - (d' : Int) = w + 1 := by omega
    have w1E : 0 ≤ w + 1 ∧ w + 1 < E 597 23 := by omega
    have w110 : 0 ≤ w + 1 ∧ w + 1 < 10 := by omega
    have n2 := (chs_len T (w := w + 1)).2
    have m24 : (cN E (w + 1) : Int) ≤ 24 := by unfold cN; omega
    have hN : ((chs E (w + 1)).length : Int) = cN E (w + 1) := rfl
    unfold BkC at R'
    rw [hw1] at R'
    obtain ⟨f, hf⟩ : ∃ f : Int → Int, f = fun j => if bt E (cE E w i) (cE E (w + 1) j) < 1000000 then bt E (cE E w i) (cE E (w + 1) j) + bkS E C d' j else 1000000 := ⟨_, rfl⟩
    obtain ⟨g, hg⟩ : ∃ g : Int → Int, g = fun j => if bt E (cE E w i) (cE E (w + 1) j) < 1000000 then ctS E C d' j else 0 := ⟨_, rfl⟩
    have d10 : d' ≤ 10 := by omega
    have gb : ∀ j, 0 ≤ g j ∧ g j ≤ 63403380965376 := fun j => by
      rw [hg]
      dsimp only
      split
      · exact ct_big T d10
      · decide
    have fb : ∀ j, 0 ≤ j → j < (cN E (w + 1) : Int) → 0 ≤ f j := fun j j0 j1 => by
      have a2 := cE_in T Pg W w1E ⟨j0, j1⟩
      have bb := bt_rng T a1.2.1 a2.2.1
      have r := bk_rng (C := C) T Pg W d' j (by omega) ⟨j0, by rw [hw1]; exact j1⟩
      rw [hf]
      dsimp only
      split
      · omega
      · decide
    have loop : ∀ (n j : Nat) (v10 : aV), j + n = cN E (w + 1) → X 98 29 [(1, q), (1, t), (1, c), (0, w), (0, i), (0, if b = true then 1 else 0), (0, minF j f), (2, sumF j g), (9, 0), (0, j), v10] [] m (qV K) := by
      intro n
      induction n with
      | zero =>
        intro j v10 hj
        refine w98_29 _ _ _ _ _ _ _ _ _ v10 sq Tt.shp sc ?_
        rw [q9 (), (Ca.2 (w + 1) w1E.1 w1E.2).1, hN]
        refine ⟨w110, fun h => absurd h (by omega), fun _ => store _ _ _ _ _ (fun hbt => ?_) ⟨minF_ge fun k k0 k1 => fb k k0 (by omega), minF_le⟩⟩
        rw [hbt, hw] at hb
        have hjj : j = cN E (w + 1) := by omega
        constructor
        · conv => rhs; unfold bkS
          rw [if_pos hb.symm, ← hw, hw1, hjj, hf, Int.add_comm]
        · conv => rhs; unfold ctS
          rw [if_pos hb.symm, ← hw, hw1, hjj, hg]
      | succ n ih =>
        intro j v10 hj
        have jE : 0 ≤ (j : Int) ∧ (j : Int) < cN E (w + 1) := by omega
        have j24 : 0 ≤ (j : Int) ∧ (j : Int) < 24 := by omega
        have a2 := cE_in T Pg W w1E jE
        have bb := bt_rng T a1.2.1 a2.2.1
        have r := bk_rng (C := C) T Pg W d' j (by omega) ⟨jE.1, by rw [hw1]; exact jE.2⟩
        have sM : minF (j + 1) f = min (minF j f) (f j) := rfl
        have sS : sumF (j + 1) g = sumF j g + g j := rfl
        have s0 : 0 ≤ sumF j g ∧ sumF j g ≤ 24 * 63403380965376 := by
          refine ⟨sumF_ge fun i _ _ => (gb i).1, Int.le_trans (sumF_le fun i _ _ => (gb i).2) ?_⟩
          exact Int.mul_le_mul_of_nonneg_right (by omega) (by decide)
        have qn : Unit → wr ((j : Int) + 1) = ((j + 1 : Nat) : Int) := fun _ => wrI (by omega) (by omega)
        have gbj := gb j
        have pM : minF j f ≤ 1000000 := minF_le
        refine w98_29 _ _ _ _ _ _ _ _ _ v10 sq Tt.shp sc ?_
        rw [q9 (), (Ca.2 (w + 1) w1E.1 w1E.2).1, hN, ((Ca.2 w wE.1 wE.2).at hi).1, ((Ca.2 (w + 1) w1E.1 w1E.2).at jE).1, jn_bt T Tt a1.2.1 a2.2.1, qn ()]
        refine ⟨w110, fun _ => ⟨w10, i24, j24, v_T_of T Tt, fun hbt => ?_, fun hbt => ?_⟩, fun h => absurd jE.2 h⟩
        · have fj : f j = bt E (cE E w i) (cE E (w + 1) j) + bkS E C d' j := by rw [hf]; exact if_pos hbt
          have gj : g j = ctS E C d' j := by rw [hg]; exact if_pos hbt
          have b2 := bb.2 hbt
          rw [(R' j jE.1 jE.2).1, (R' j jE.1 jE.2).2, wrI (x := bt E _ _ + _) (by omega) (by omega), ← fj, ← gj, wlI (by omega) (by omega), ← sM, ← sS]
          exact ih (j + 1) _ (by omega)
        · have fj : f j = 1000000 := by rw [hf]; exact if_neg hbt
          have gj : g j = 0 := by rw [hg]; exact if_neg hbt
          have := ih (j + 1) (0, bt E (cE E w i) (cE E (w + 1) j)) (by omega)
          rw [sM, fj, sS, gj, Int.add_zero, Int.min_eq_left pM] at this
          exact this
    exact loop (cN E (w + 1)) 0 (9, 0) (Nat.zero_add _)
  · have hd0 : d = 0 := by omega
    subst hd0
    refine store 0 1 _ _ _ (fun hbt => ?_) (by decide)
    rw [hbt, show w = E 597 23 - 1 by omega] at hb
    unfold bkS ctS
    rw [if_pos hb.symm, if_pos hb.symm, show w = E 597 23 - 1 by omega] 
    rw [show w = E 597 23 - 1 by omega] at a1
    exact ⟨by omega, rfl⟩
