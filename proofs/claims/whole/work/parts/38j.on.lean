/-! the class: goOn(100) -/
def fwS (E : Mm) (C : Int → Int → Bool) : Nat → Int → Int
  | 0, i => if C 0 i = true then cC E 0 i else 1000000
  | w + 1, i => if C (w + 1 : Nat) i = true then min 1000000 (cC E (w + 1 : Nat) i + minF (cN E w) fun j => bt E (cE E w j) (cE E (w + 1 : Nat) i) + fwS E C w j) else 1000000
theorem fw_rng {E : Mm} {C : Int → Int → Bool} (T : InvT E) (Pg : InvP E) (W : InvW E) : ∀ (w : Nat) (i : Int), (w : Int) < E 597 23 → 0 ≤ i ∧ i < cN E w → 0 ≤ fwS E C w i ∧ fwS E C w i ≤ 1000000 := by
  intro w
  induction w with
  | zero =>
    intro i hw hi
    have := cE_in T Pg W (w := 0) ⟨by decide, hw⟩ hi
    unfold fwS
    split
    · omega
    · decide
  | succ w ih =>
    intro i hw hi
    have a1 := cE_in T Pg W (w := (w + 1 : Nat)) ⟨by omega, hw⟩ hi
    unfold fwS
    split
    · have hg : ∀ j : Int, 0 ≤ j → j < (cN E w : Int) → 0 ≤ bt E (cE E w j) (cE E (w + 1 : Nat) i) + fwS E C w j := fun j j0 j1 => by
        have a2 := cE_in T Pg W (w := w) ⟨by omega, by omega⟩ ⟨j0, j1⟩
        have b := (bt_rng T a2.2.1 a1.2.1).1
        have := (ih j (by omega) ⟨j0, j1⟩).1
        omega
      have p0 := minF_ge (f := fun j => bt E (cE E w j) (cE E (w + 1 : Nat) i) + fwS E C w j) hg
      omega
    · decide
def FwC (E m : Mm) (q : Int) (C : Int → Int → Bool) (w : Nat) : Prop := ∀ j, 0 ≤ j → j < (cN E w : Int) → m (q + 3 + w) j = fwS E C w j
theorem c100 {E m : Mm} {K : Mm → Prop} {t c q i : Int} {w : Nat} {C : Int → Int → Bool} {b : Bool} (T : InvT E) (Pg : InvP E) (W : InvW E) (Tt : CT E m t) (hc : c = 411 ∨ c = 461) (hq : q = 511 ∨ q = 546) (Ca : CAC E m c) (hw : (w : Int) < E 597 23) (hi : 0 ≤ i ∧ i < cN E w) (hb : b = C w i) (R : ∀ w', w = w' + 1 → FwC E m q C w')
    (kk : ∀ m', m' = umem m (q + 3 + w) i (fwS E C w i) → K m') : TrV 100 [(1, q), (1, t), (1, c), (0, (w : Int)), (0, i), (0, if b = true then 1 else 0)] m K := by
  have P1 := Pg.1
  have w10 : 0 ≤ (w : Int) ∧ (w : Int) < 10 := by omega
  have n1 := (chs_len T (w := w)).2
  have i24 : 0 ≤ i ∧ i < 24 := by unfold cN at hi; omega
  have a1 := cE_in T Pg W (w := w) ⟨w10.1, hw⟩ hi
  have sq := q_shp hq
  have sc := c_shp hc
  have store : ∀ (a6 : Int) (v1 v7 v8 : aV), (b = true → min 1000000 (a6 + cC E w i) = fwS E C w i) → (b = false → fwS E C w i = 1000000) → (0 ≤ a6 ∧ a6 ≤ 1000000) → X 100 83 [(1, q), v1, (1, c), (0, (w : Int)), (0, i), (0, if b = true then 1 else 0), (0, a6), v7, v8] [] m (qV K) := by
    intro a6 v1 v7 v8 hy hn h6
    refine w100_83 _ v1 _ _ _ _ _ v7 v8 sq sc ⟨w10, fun h0 => ⟨i24, fun m7 e7 => kk m7 ?_⟩, fun h0 => ⟨i24, fun m11 e11 => kk m11 ?_⟩⟩
    · have hbf : b = false := by
        cases b
        · rfl
        · exact absurd h0 (by decide)
      rw [e7, hn hbf]
    · have hbt : b = true := by
        cases b
        · exact absurd rfl h0
        · rfl
      rw [e11, ((Ca.2 w w10.1 hw).at hi).2, wrI (x := a6 + cC E w i) (by omega) (by omega), hy hbt]
  refine e100 _ _ _ _ _ _ sq Tt.shp sc ⟨fun h => ?_, fun h => ?_⟩
  · have hw0 : w = 0 := by omega
    subst hw0
    refine store 0 _ _ _ (fun hbt => ?_) (fun hbf => ?_) (by decide)
    · unfold fwS
      rw [if_pos (by rw [← hbt, hb]; rfl)]
      have := a1.2.2
      show min 1000000 (0 + cC E 0 i) = cC E 0 i
      have h2 : 0 ≤ cC E 0 i ∧ cC E 0 i ≤ 10989 := this
      omega
    · unfold fwS
      rw [if_neg (fun q => by rw [show b = C 0 i from hb, q] at hbf; exact absurd hbf (by decide))]
  · obtain ⟨w', rfl⟩ : ∃ w', w = w' + 1 := ⟨w - 1, by omega⟩
    have R' := R w' rfl
    have n2 := (chs_len T (w := w')).2
    have m24 : (cN E w' : Int) ≤ 24 := by unfold cN; omega
    have hN : ((chs E w').length : Int) = cN E w' := rfl
    have w1E : 0 ≤ (w' : Int) ∧ (w' : Int) < E 597 23 := by omega
    have w110 : 0 ≤ (w' : Int) ∧ (w' : Int) < 10 := by omega
    have q9 : Unit → wr (((w' + 1 : Nat) : Int) - 1) = w' := fun _ => by
      rw [wrI (by omega) (by omega)]
      omega
    obtain ⟨f, hf⟩ : ∃ f : Int → Int, f = fun j => bt E (cE E w' j) (cE E (w' + 1 : Nat) i) + fwS E C w' j := ⟨_, rfl⟩
    have fb : ∀ j, 0 ≤ j → j < (cN E w' : Int) → 0 ≤ f j := fun j j0 j1 => by
      have a2 := cE_in T Pg W w1E ⟨j0, j1⟩
      have bb := bt_rng T a2.2.1 a1.2.1
      have r := fw_rng (C := C) T Pg W w' j w1E.2 ⟨j0, j1⟩
      rw [hf]
      dsimp only
      omega
    have loop : ∀ (n j : Nat) (v8 : aV), j + n = cN E w' → X 100 17 [(1, q), (1, t), (1, c), (0, ((w' + 1 : Nat) : Int)), (0, i), (0, if b = true then 1 else 0), (0, minF j f), (0, j), v8] [] m (qV K) := by
      intro n
      induction n with
      | zero =>
        intro j v8 hj
        refine w100_17 _ _ _ _ _ _ _ _ v8 sq Tt.shp sc ?_
        rw [q9 (), (Ca.2 w' w1E.1 w1E.2).1, hN]
        refine ⟨w110, fun h => absurd h (by omega), fun _ => store _ _ _ _ (fun hbt => ?_) (fun hbf => ?_) ⟨minF_ge fun k k0 k1 => fb k k0 (by omega), minF_le⟩⟩
        · conv => rhs; unfold fwS
          rw [if_pos (by rw [← hb, hbt]), show j = cN E w' by omega, hf, Int.add_comm]
        · unfold fwS
          rw [if_neg (fun q => by rw [hb, q] at hbf; exact absurd hbf (by decide))]
      | succ n ih =>
        intro j v8 hj
        have jE : 0 ≤ (j : Int) ∧ (j : Int) < cN E w' := by omega
        have j24 : 0 ≤ (j : Int) ∧ (j : Int) < 24 := by omega
        have a2 := cE_in T Pg W w1E jE
        have bb := bt_rng T a2.2.1 a1.2.1
        have r := fw_rng (C := C) T Pg W w' j w1E.2 jE
        have sM : minF (j + 1) f = min (minF j f) (f j) := rfl
        have fj : f j = bt E (cE E w' j) (cE E (w' + 1 : Nat) i) + fwS E C w' j := by rw [hf]
        have qn : Unit → wr ((j : Int) + 1) = ((j + 1 : Nat) : Int) := fun _ => wrI (by omega) (by omega)
        refine w100_17 _ _ _ _ _ _ _ _ v8 sq Tt.shp sc ?_
        rw [q9 (), (Ca.2 w' w1E.1 w1E.2).1, hN, ((Ca.2 w' w1E.1 w1E.2).at jE).1, ((Ca.2 _ w10.1 hw).at hi).1, jn_bt T Tt a2.2.1 a1.2.1, R' j jE.1 jE.2, qn (), wrI (x := bt E _ _ + _) (by omega) (by omega), ← fj, ← sM]
        exact ⟨w110, fun _ => ⟨j24, w10, i24, v_T_of T Tt, ih (j + 1) _ (by omega)⟩, fun h => absurd jE.2 h⟩
    exact loop (cN E w') 0 (9, 0) (Nat.zero_add _)
