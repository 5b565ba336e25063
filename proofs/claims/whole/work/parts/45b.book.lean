/-! books: what they keep; the class's table of a book -/
theorem rdB_o {f : Int → Int} {B : Bk} {sg lp sz c0 c1 pr k : Int} (hz : sz ≤ 6) (h1 : k ≠ 578) (h2 : ¬ (11 * B 578 ≤ k ∧ k < 11 * B 578 + 11)) : rdB f B sg lp sz c0 c1 pr k = B k := by
  unfold rdB
  rw [if_neg h1, if_neg (by omega), if_neg (by omega), if_neg (by omega), if_neg (by omega), if_neg (by omega), if_neg (by omega)]
theorem rdB_v {f : Int → Int} {B : Bk} {sg lp sz c0 c1 pr : Int} (hB : 0 ≤ B 578 ∧ B 578 < 24) (hz : sz ≤ 6) : rdB f B sg lp sz c0 c1 pr 578 = B 578 + 1 ∧ rdB f B sg lp sz c0 c1 pr (11 * B 578) = sg ∧ rdB f B sg lp sz c0 c1 pr (11 * B 578 + 1) = sz ∧ rdB f B sg lp sz c0 c1 pr (11 * B 578 + 2) = c0 ∧ rdB f B sg lp sz c0 c1 pr (11 * B 578 + 3) = c1 ∧ rdB f B sg lp sz c0 c1 pr (11 * B 578 + 4) = pr ∧ ∀ i, 0 ≤ i → i < sz → rdB f B sg lp sz c0 c1 pr (11 * B 578 + 5 + i) = f (lp + i) - 97 := by
  unfold rdB
  refine ⟨if_pos rfl, ?_, ?_, ?_, ?_, ?_, fun i i0 i1 => ?_⟩
  · rw [if_neg (by omega), if_pos rfl]
  · rw [if_neg (by omega), if_neg (by omega), if_pos rfl]
  · rw [if_neg (by omega), if_neg (by omega), if_neg (by omega), if_pos rfl]
  · rw [if_neg (by omega), if_neg (by omega), if_neg (by omega), if_neg (by omega), if_pos rfl]
  · rw [if_neg (by omega), if_neg (by omega), if_neg (by omega), if_neg (by omega), if_neg (by omega), if_pos rfl]
  · rw [if_neg (by omega), if_neg (by omega), if_neg (by omega), if_neg (by omega), if_neg (by omega), if_neg (by omega), if_pos (by omega), show lp + (11 * B 578 + 5 + i - (11 * B 578 + 5)) = lp + i by omega]
theorem enB_o {f : Int → Int} {B : Bk} {lp sz kd pr k : Int} (hz : sz ≤ 8) (h1 : k ≠ 579) (h2 : ¬ (264 + 11 * B 579 ≤ k ∧ k < 264 + 11 * B 579 + 11)) : enB f B lp sz kd pr k = B k := by
  unfold enB
  rw [if_neg h1, if_neg (by omega), if_neg (by omega), if_neg (by omega), if_neg (by omega)]
theorem enB_v {f : Int → Int} {B : Bk} {lp sz kd pr : Int} (hB : 0 ≤ B 579 ∧ B 579 < 24) (hz : sz ≤ 8) : enB f B lp sz kd pr 579 = B 579 + 1 ∧ enB f B lp sz kd pr (264 + 11 * B 579) = sz ∧ enB f B lp sz kd pr (264 + 11 * B 579 + 1) = kd ∧ enB f B lp sz kd pr (264 + 11 * B 579 + 2) = pr ∧ ∀ i, 0 ≤ i → i < sz → enB f B lp sz kd pr (264 + 11 * B 579 + 3 + i) = f (lp + i) - 97 := by
  unfold enB
  refine ⟨if_pos rfl, ?_, ?_, ?_, fun i i0 i1 => ?_⟩
  · rw [if_neg (by omega), if_pos rfl]
  · rw [if_neg (by omega), if_neg (by omega), if_pos rfl]
  · rw [if_neg (by omega), if_neg (by omega), if_neg (by omega), if_pos rfl]
  · rw [if_neg (by omega), if_neg (by omega), if_neg (by omega), if_neg (by omega), if_pos (by omega), show lp + (264 + 11 * B 579 + 3 + i - (264 + 11 * B 579 + 3)) = lp + i by omega]
section BKS
variable {f : Int → Int} {n p : Int} {B : Bk} {m : Mm}
theorem BI.rd {sg lp sz c0 c1 pr : Int} (h : BI B) (hB : B 578 < 24) (hs : 0 ≤ sg ∧ sg < 10) (hz : 0 ≤ sz ∧ sz ≤ 6) (h0 : 0 ≤ c0 ∧ c0 ≤ 30) (h1 : 0 ≤ c1 ∧ c1 ≤ 30) (hl : ∀ i, 0 ≤ i → i < sz → 97 ≤ f (lp + i) ∧ f (lp + i) ≤ 122) : BI (rdB f B sg lp sz c0 c1 pr) := by
  obtain ⟨b1, b2, b3, b4, b5, b6, b7, b8, b9⟩ := h
  obtain ⟨v1, v2, v3, v4, v5, v6, v7⟩ := rdB_v (f := f) (sg := sg) (lp := lp) (c0 := c0) (c1 := c1) (pr := pr) ⟨b1.1, hB⟩ hz.2
  have o : ∀ k, k ≠ 578 → ¬ (11 * B 578 ≤ k ∧ k < 11 * B 578 + 11) → rdB f B sg lp sz c0 c1 pr k = B k := fun k => rdB_o hz.2
  generalize rdB f B sg lp sz c0 c1 pr = B' at *
  refine ⟨by rw [v1]; omega, by rw [o 579 (by decide) (by omega)]; exact b2, by rw [o 580 (by decide) (by omega)]; exact b3, by rw [o 581 (by decide) (by omega)]; exact b4, by rw [o 582 (by decide) (by omega)]; exact b5, fun r r0 r1 => ?_, fun e e0 e1 => ?_, fun k k0 k1 => ?_, fun i i0 i1 => ?_⟩
  · rw [v1] at r1
    by_cases hr : r = B 578
    · subst hr
      rw [v2, v3, v4, v5]
      refine ⟨hs, hz, h0, h1, fun i i0 i1 => ?_⟩
      rw [v7 i i0 i1]
      have := hl i i0 i1
      omega
    · have b := b6 r r0 (by omega)
      rw [o (11 * r) (by omega) (by omega), o (11 * r + 1) (by omega) (by omega), o (11 * r + 2) (by omega) (by omega), o (11 * r + 3) (by omega) (by omega)]
      refine ⟨b.1, b.2.1, b.2.2.1, b.2.2.2.1, fun i i0 i1 => ?_⟩
      rw [o _ (by omega) (by omega)]
      exact b.2.2.2.2 i i0 i1
  · rw [o 579 (by decide) (by omega)] at e1
    have b := b7 e e0 e1
    rw [o (264 + 11 * e) (by omega) (by omega), o (264 + 11 * e + 1) (by omega) (by omega), o (264 + 11 * e + 2) (by omega) (by omega)]
    refine ⟨b.1, b.2.1, b.2.2.1, fun i i0 i1 => ?_⟩
    rw [o _ (by omega) (by omega)]
    exact b.2.2.2 i i0 i1
  · rw [o (528 + k) (by omega) (by omega), o (553 + k) (by omega) (by omega), o (610 + k) (by omega) (by omega)]
    exact b8 k k0 k1
  · rw [o (600 + i) (by omega) (by omega)]
    exact b9 i i0 i1
theorem BI.en {lp sz kd pr : Int} (h : BI B) (hB : B 579 < 24) (hz : 1 ≤ sz ∧ sz ≤ 8) (h0 : 0 ≤ kd ∧ kd < 5) (h1 : 0 ≤ pr ∧ pr ≤ 9) (hl : ∀ i, 0 ≤ i → i < sz → 97 ≤ f (lp + i) ∧ f (lp + i) ≤ 122) : BI (enB f B lp sz kd pr) := by
  obtain ⟨b1, b2, b3, b4, b5, b6, b7, b8, b9⟩ := h
  obtain ⟨v1, v2, v3, v4, v7⟩ := enB_v (f := f) (lp := lp) (kd := kd) (pr := pr) ⟨b2.1, hB⟩ hz.2
  have o : ∀ k, k ≠ 579 → ¬ (264 + 11 * B 579 ≤ k ∧ k < 264 + 11 * B 579 + 11) → enB f B lp sz kd pr k = B k := fun k => enB_o hz.2
  generalize enB f B lp sz kd pr = B' at *
  refine ⟨by rw [o 578 (by decide) (by omega)]; exact b1, by rw [v1]; omega, by rw [o 580 (by decide) (by omega)]; exact b3, by rw [o 581 (by decide) (by omega)]; exact b4, by rw [o 582 (by decide) (by omega)]; exact b5, fun r r0 r1 => ?_, fun e e0 e1 => ?_, fun k k0 k1 => ?_, fun i i0 i1 => ?_⟩
  · rw [o 578 (by decide) (by omega)] at r1
    have b := b6 r r0 r1
    rw [o (11 * r) (by omega) (by omega), o (11 * r + 1) (by omega) (by omega), o (11 * r + 2) (by omega) (by omega), o (11 * r + 3) (by omega) (by omega)]
    refine ⟨b.1, b.2.1, b.2.2.1, b.2.2.2.1, fun i i0 i1 => ?_⟩
    rw [o _ (by omega) (by omega)]
    exact b.2.2.2.2 i i0 i1
  · rw [v1] at e1
    by_cases hr : e = B 579
    · subst hr
      rw [v2, v3, v4]
      refine ⟨hz, h0, h1, fun i i0 i1 => ?_⟩
      rw [v7 i i0 i1]
      have := hl i i0 i1
      omega
    · have b := b7 e e0 (by omega)
      rw [o (264 + 11 * e) (by omega) (by omega), o (264 + 11 * e + 1) (by omega) (by omega), o (264 + 11 * e + 2) (by omega) (by omega)]
      refine ⟨b.1, b.2.1, b.2.2.1, fun i i0 i1 => ?_⟩
      rw [o _ (by omega) (by omega)]
      exact b.2.2.2 i i0 i1
  · rw [o (528 + k) (by omega) (by omega), o (553 + k) (by omega) (by omega), o (610 + k) (by omega) (by omega)]
    exact b8 k k0 k1
  · rw [o (600 + i) (by omega) (by omega)]
    exact b9 i i0 i1
/-- one cell or two of a book change, behind the rows -/
theorem BI.up {B' : Bk} (h : BI B) (o : ∀ k, k < 580 → ¬ (528 ≤ k ∧ k < 578) → B' k = B k) (b3 : 0 ≤ B' 580 ∧ B' 580 ≤ 999) (b4 : 0 ≤ B' 581 ∧ B' 581 ≤ 99) (b5 : 0 ≤ B' 582 ∧ B' 582 ≤ 99999) (b8 : ∀ k, 0 ≤ k → k < 25 → (B' (528 + k) = 0 ∨ B' (528 + k) = 1) ∧ (0 ≤ B' (553 + k) ∧ B' (553 + k) ≤ 999) ∧ (B' (610 + k) = 0 ∨ B' (610 + k) = 1)) (b9 : ∀ i, 0 ≤ i → i < 3 → B' (600 + i) = 0 ∨ B' (600 + i) = 1) : BI B' := by
  obtain ⟨b1, b2, -, -, -, b6, b7, -, -⟩ := h
  refine ⟨by rw [o _ (by decide) (by decide)]; exact b1, by rw [o _ (by decide) (by decide)]; exact b2, b3, b4, b5, fun r r0 r1 => ?_, fun e e0 e1 => ?_, b8, b9⟩
  · rw [o 578 (by decide) (by decide)] at r1
    have b := b6 r r0 r1
    rw [o (11 * r) (by omega) (by omega), o (11 * r + 1) (by omega) (by omega), o (11 * r + 2) (by omega) (by omega), o (11 * r + 3) (by omega) (by omega)]
    refine ⟨b.1, b.2.1, b.2.2.1, b.2.2.2.1, fun i i0 i1 => ?_⟩
    rw [o _ (by omega) (by omega)]
    exact b.2.2.2.2 i i0 i1
  · rw [o 579 (by decide) (by decide)] at e1
    have b := b7 e e0 e1
    rw [o (264 + 11 * e) (by omega) (by omega), o (264 + 11 * e + 1) (by omega) (by omega), o (264 + 11 * e + 2) (by omega) (by omega)]
    refine ⟨b.1, b.2.1, b.2.2.1, fun i i0 i1 => ?_⟩
    rw [o _ (by omega) (by omega)]
    exact b.2.2.2 i i0 i1
/-- the class's table of a book -/
def TbC (B : Bk) (m : Mm) (t : Int) : Prop := BI B ∧ CT (EB B) m t ∧ (∀ r, 0 ≤ r → r < B 578 → m (t + 6 + 2 * r) 3 = B (11 * r + 2) ∧ m (t + 6 + 2 * r) 4 = B (11 * r + 3)) ∧ (∀ i, 0 ≤ i → i < 3 → m 4 i = B (600 + i)) ∧ ∀ k, 0 ≤ k → k < 25 → m (t + 4) k = B (610 + k)
theorem CR.eq {E F m m' : Mm} {x r : Int} (h : CR E m x r) (hb : bsz E r ≤ 6) (e : ∀ j, 0 ≤ j → j < 11 → F 602 (11 * r + j) = E 602 (11 * r + j)) (h1 : ∀ k, m' x k = m x k) (h2 : ∀ k, m' (x + 1) k = m (x + 1) k) : CR F m' x r := by
  have h' := h.fr h1 h2
  obtain ⟨a1, a2, a3, a4, a5, a6, a7⟩ := h'
  have e0 := e 0 (by decide) (by decide)
  rw [Int.add_zero] at e0
  unfold bsz at hb
  refine ⟨a1, by rw [e0]; exact a2, by rw [e 1 (by decide) (by decide)]; exact a3, fun i i0 i1 => ?_, by rw [e 4 (by decide) (by decide)]; exact a5, by rw [e 2 (by decide) (by decide)]; exact a6, by rw [e 3 (by decide) (by decide)]; exact a7⟩
  rw [e 1 (by decide) (by decide)] at i1
  have := e (5 + i) (by omega) (by omega)
  rw [show 11 * r + 5 + i = 11 * r + (5 + i) by omega, this, show 11 * r + (5 + i) = 11 * r + 5 + i by omega]
  exact a4 i i0 i1
theorem CE.eq {E F m m' : Mm} {x y : Int} (h : CE E m x y) (hb : esz E y ≤ 8) (e : ∀ j, 0 ≤ j → j < 11 → F 602 (264 + 11 * y + j) = E 602 (264 + 11 * y + j)) (h1 : ∀ k, m' x k = m x k) (h2 : ∀ k, m' (x + 1) k = m (x + 1) k) : CE F m' x y := by
  have h' := h.fr h1 h2
  obtain ⟨a1, a2, a3, a4, a5⟩ := h'
  have e0 := e 0 (by decide) (by decide)
  rw [Int.add_zero] at e0
  unfold esz at hb
  refine ⟨a1, by rw [e0]; exact a2, by rw [e 1 (by decide) (by decide)]; exact a3, by rw [e 2 (by decide) (by decide)]; exact a4, fun i i0 i1 => ?_⟩
  rw [e0] at i1
  have := e (3 + i) (by omega) (by omega)
  rw [show 264 + 11 * y + 3 + i = 264 + 11 * y + (3 + i) by omega, this, show 264 + 11 * y + (3 + i) = 264 + 11 * y + 3 + i by omega]
  exact a5 i i0 i1
/-- while a row is being filled, or a flag is set -/
theorem TbC.fr {m' : Mm} {t : Int} (T : TbC B m t) (h : ∀ x k, (t ≤ x ∧ x < t + 6 + 2 * B 578) ∨ (t + 54 ≤ x ∧ x < t + 54 + 2 * B 579) ∨ x = 4 → m' x k = m x k) : TbC B m' t := by
  obtain ⟨I, ⟨h1, h2, h3, h4, h5, h6, h7, h8, h9⟩, os, st, pt⟩ := T
  have I1 := I.1
  have I2 := I.2.1
  have e : ∀ k, m' t k = m t k := fun k => h t k (Or.inl (by omega))
  refine ⟨I, ⟨h1, by rw [e]; exact h2, by rw [e]; exact h3, by rw [e]; exact h4, by rw [e]; exact h5, by rw [e]; exact h6, fun r r0 r1 => ?_, fun y y0 y1 => ?_, fun k k0 k1 => ?_⟩, fun r r0 r1 => ?_, fun i i0 i1 => ?_, fun k k0 k1 => ?_⟩
  · have r1' : r < B 578 := r1
    exact (h7 r r0 r1).fr (fun k => h _ _ (by omega)) fun k => h _ _ (by omega)
  · have y1' : y < B 579 := y1
    exact (h8 y y0 y1).fr (fun k => h _ _ (by omega)) fun k => h _ _ (by omega)
  · rw [h (t + 3) k (by omega), h (t + 5) k (by omega)]
    exact h9 k k0 k1
  · rw [h _ _ (by omega), h _ _ (by omega)]
    exact os r r0 r1
  · rw [h _ _ (by omega)]
    exact st i i0 i1
  · rw [h _ _ (by omega)]
    exact pt k k0 k1
/-- the conditions' masks -/
def msk (c : Int) : Int := if c = 0 then 268435455 else if c = 1 then 1 else if c = 2 then 2130466 else if c = 3 then 132087260 else if c = 30 then 134217728 else ishl 1 (wr (wr (c - 4) + 1))
theorem msk_0 : ∀ c : Nat, c ≤ 29 → ∀ l : Nat, l < 27 → (iand (ishr (msk c) l) 1 = 1 ↔ fbB c ((l : Int) - 1) = true) := by decide +kernel
theorem msk_1 : ∀ c : Nat, c ≤ 30 → ∀ l : Nat, l < 28 → (iand (ishr (msk c) l) 1 = 1 ↔ letB c (nxE l) = true) := by decide +kernel
theorem c48 {c : Int} {K : Int → Mm → Prop} (kk : K (msk c) m) : TrI 48 [(0, c)] m K := by
  unfold msk at kk
  refine e48 _ ⟨⟨fun h => ?_, fun h => ?_, fun h => ?_, fun h => ?_, fun h => ?_⟩, fun h => ?_⟩
  · rw [if_pos h] at kk
    exact kk
  · rw [if_neg (by omega), if_pos h] at kk
    exact kk
  · rw [if_neg (by omega), if_neg (by omega), if_pos h] at kk
    exact kk
  · rw [if_neg (by omega), if_neg (by omega), if_neg (by omega), if_pos h] at kk
    exact kk
  · rw [if_neg (by omega), if_neg (by omega), if_neg (by omega), if_neg (by omega), if_pos h] at kk
    exact kk
  · rw [if_neg h.1, if_neg h.2.1, if_neg h.2.2.1, if_neg h.2.2.2.1, if_neg h.2.2.2.2] at kk
    exact kk
end BKS
