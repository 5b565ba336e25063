/-! the least with a place of a word, or without it: the class's forwards and backwards against the reference's whole sum -/
def Bw (E : Mm) (C : Int → Int → Bool) (v : Nat) (i : Int) : Int := bkS E C (E 597 23 - 1 - (v : Int)).toNat i
theorem Bw_last {E : Mm} {C : Int → Int → Bool} {v : Nat} {i : Int} (h : (v : Int) + 1 = E 597 23) : Bw E C v i = if C v i = true then cC E v i else 1000000 := by
  unfold Bw
  rw [show (E 597 23 - 1 - (v : Int)).toNat = 0 by omega]
  unfold bkS
  rw [show E 597 23 - 1 = (v : Int) by omega]
theorem Bw_step {E : Mm} {C : Int → Int → Bool} {v : Nat} {i : Int} (h : (v : Int) + 1 < E 597 23) : Bw E C v i = if C v i = true then min 1000000 (cC E v i + minF (cN E ((v + 1 : Nat) : Int)) fun j => if bt E (cE E v i) (cE E ((v + 1 : Nat) : Int) j) < 1000000 then bt E (cE E v i) (cE E ((v + 1 : Nat) : Int) j) + Bw E C (v + 1) j else 1000000) else 1000000 := by
  unfold Bw
  obtain ⟨d, hd⟩ : ∃ d : Nat, d + 1 = (E 597 23 - 1 - (v : Int)).toNat := ⟨(E 597 23 - 1 - (v : Int)).toNat - 1, by omega⟩
  rw [show (E 597 23 - 1 - ((v + 1 : Nat) : Int)).toNat = d by omega, ← hd]
  conv => lhs; unfold bkS
  rw [show E 597 23 - 1 - ((d + 1 : Nat) : Int) = v by omega, show E 597 23 - 1 - (d : Int) = ((v + 1 : Nat) : Int) by omega]
theorem Bw_rng {E : Mm} {C : Int → Int → Bool} (T : InvT E) (Pg : InvP E) (W : InvW E) {v : Nat} {i : Int} (hv : (v : Int) < E 597 23) (hi : 0 ≤ i ∧ i < cN E v) : (0 ≤ Bw E C v i ∧ Bw E C v i ≤ 1000000) ∧ (Bw E C v i < 1000000 → Bw E C v i ≤ 120000) := by
  have P1 := Pg.1
  have h := bk_rng (C := C) T Pg W (E 597 23 - 1 - (v : Int)).toNat i (by omega) (by rw [show E 597 23 - 1 - ((E 597 23 - 1 - (v : Int)).toNat : Int) = v by omega]; exact hi)
  refine ⟨h.1, fun hlt => ?_⟩
  have := h.2 hlt
  unfold Bw
  omega
theorem Bw_can {E : Mm} {C : Int → Int → Bool} {v : Nat} {i : Int} (hv : (v : Int) < E 597 23) (h : Bw E C v i < 1000000) : C v i = true := by
  by_cases hl : (v : Int) + 1 = E 597 23
  · rw [Bw_last hl] at h
    split at h
    · assumption
    · exact absurd h (by decide)
  · rw [Bw_step (by omega)] at h
    split at h
    · assumption
    · exact absurd h (by decide)
theorem Bw_congr {E : Mm} {C D : Int → Int → Bool} : ∀ (n v : Nat), (v : Int) + n + 1 = E 597 23 → (∀ u : Nat, v ≤ u → ∀ i, C u i = D u i) → ∀ i, Bw E C v i = Bw E D v i := by
  intro n
  induction n with
  | zero =>
    intro v hv h i
    rw [Bw_last (by omega), Bw_last (by omega), h v (Nat.le_refl _) i]
  | succ n ih =>
    intro v hv h i
    rw [Bw_step (by omega), Bw_step (by omega), h v (Nat.le_refl _) i]
    have : (fun j => if bt E (cE E v i) (cE E ((v + 1 : Nat) : Int) j) < 1000000 then bt E (cE E v i) (cE E ((v + 1 : Nat) : Int) j) + Bw E C (v + 1) j else 1000000) = fun j => if bt E (cE E v i) (cE E ((v + 1 : Nat) : Int) j) < 1000000 then bt E (cE E v i) (cE E ((v + 1 : Nat) : Int) j) + Bw E D (v + 1) j else 1000000 := by
      funext j
      rw [ih (v + 1) (by omega) (fun u hu i => h u (by omega) i) j]
    rw [this]
theorem fw_can {E : Mm} {C : Int → Int → Bool} {v : Nat} {i : Int} (h : fwS E C v i < 1000000) : C v i = true := by
  cases v with
  | zero =>
    unfold fwS at h
    split at h
    · assumption
    · exact absurd h (by decide)
  | succ v =>
    unfold fwS at h
    split at h
    · assumption
    · exact absurd h (by decide)
theorem fw_fin {E : Mm} {C : Int → Int → Bool} (T : InvT E) (Pg : InvP E) (W : InvW E) : ∀ (v : Nat) (i : Int), (v : Int) < E 597 23 → 0 ≤ i ∧ i < cN E v → fwS E C v i < 1000000 → fwS E C v i ≤ 12000 * (v + 1) ∧ cC E v i ≤ fwS E C v i := by
  intro v
  induction v with
  | zero =>
    intro i hv hi h
    have := cE_in T Pg W (w := 0) ⟨by decide, hv⟩ hi
    unfold fwS at h ⊢
    split at h
    · rename_i hC
      rw [if_pos hC]
      have h2 : cC E ((0 : Nat) : Int) i = cC E 0 i := rfl
      omega
    · exact absurd h (by decide)
  | succ v ih =>
    intro i hv hi h
    have a1 := cE_in T Pg W (w := (v + 1 : Nat)) ⟨by omega, hv⟩ hi
    unfold fwS at h ⊢
    split at h
    · rename_i hC
      rw [if_pos hC]
      have hm : minF (cN E v) (fun j => bt E (cE E v j) (cE E ((v + 1 : Nat) : Int) i) + fwS E C v j) < 1000000 := by omega
      obtain ⟨j, j0, j1, j2⟩ := minF_ex hm
      rw [j2] at hm h ⊢
      have a2 := cE_in T Pg W (w := v) ⟨by omega, by omega⟩ ⟨j0, j1⟩
      have b := bt_rng T a2.2.1 a1.2.1
      have r := fw_rng (C := C) T Pg W v j (by omega) ⟨j0, j1⟩
      have := b.2 (by omega)
      have := ih j (by omega) ⟨j0, j1⟩ (by omega)
      omega
    · exact absurd h (by decide)
theorem le_minF {n : Nat} {f : Int → Int} {y : Int} (h : y ≤ 1000000) (hf : ∀ i : Int, 0 ≤ i → i < n → y ≤ f i) : y ≤ minF n f := by
  induction n with
  | zero => exact h
  | succ n ih =>
    unfold minF
    have := ih fun i i0 i1 => hf i i0 (by omega)
    have := hf n (by omega) (by omega)
    omega
theorem minF_congr {n : Nat} {f g : Int → Int} (h : ∀ i : Int, 0 ≤ i → i < n → f i = g i) : minF n f = minF n g := by
  induction n with
  | zero => rfl
  | succ n ih =>
    unfold minF
    rw [ih fun i i0 i1 => h i i0 (by omega), h n (by omega) (by omega)]
/-- the least with a choice of a word: forwards with the one, back with the other -/
def cmb (E : Mm) (C : Int → Int → Bool) (v : Nat) (i : Int) : Int := if fwS E (canS E) v i < 1000000 ∧ Bw E C v i < 1000000 then fwS E (canS E) v i + Bw E C v i - cC E v i else 1000000
def thS (E : Mm) (v : Nat) (i : Int) : Int := cmb E (canS E) v i
theorem cmb_le {E : Mm} {C : Int → Int → Bool} (T : InvT E) (Pg : InvP E) (W : InvW E) {v : Nat} {i : Int} (hv : (v : Int) < E 597 23) (hi : 0 ≤ i ∧ i < cN E v) : 0 ≤ cmb E C v i ∧ cmb E C v i ≤ 1000000 := by
  have P1 := Pg.1
  have a := cE_in T Pg W (w := v) ⟨by omega, hv⟩ hi
  have r := Bw_rng (C := C) T Pg W hv hi
  have r2 := fw_rng (C := canS E) T Pg W v i hv hi
  unfold cmb
  split
  · rename_i h
    have := fw_fin (C := canS E) T Pg W v i hv hi h.1
    have := r.2 h.2
    omega
  · decide
theorem cmb_step {E : Mm} {C : Int → Int → Bool} (T : InvT E) (Pg : InvP E) (W : InvW E) {v : Nat} (hv : (v : Int) + 1 < E 597 23) (h1 : ∀ i, C v i = canS E v i) (h2 : ∀ i, C ((v + 1 : Nat) : Int) i = true → canS E ((v + 1 : Nat) : Int) i = true) : minF (cN E v) (cmb E C v) = minF (cN E ((v + 1 : Nat) : Int)) (cmb E C (v + 1)) := by
  have P1 := Pg.1
  refine Int.le_antisymm (le_minF minF_le fun j j0 j1 => ?_) (le_minF minF_le fun i i0 i1 => ?_)
  · have b2 := cE_in T Pg W (w := ((v + 1 : Nat) : Int)) ⟨by omega, by omega⟩ ⟨j0, j1⟩
    have rB := Bw_rng (C := C) T Pg W (v := v + 1) (i := j) (by omega) ⟨j0, j1⟩
    by_cases hf : fwS E (canS E) (v + 1) j < 1000000 ∧ Bw E C (v + 1) j < 1000000
    · have e : cmb E C (v + 1) j = fwS E (canS E) (v + 1) j + Bw E C (v + 1) j - cC E ((v + 1 : Nat) : Int) j := if_pos hf
      rw [e]
      have f1 := hf.1
      unfold fwS at f1 ⊢
      rw [if_pos (fw_can hf.1)] at f1 ⊢
      have hm : minF (cN E v) (fun i => bt E (cE E v i) (cE E ((v + 1 : Nat) : Int) j) + fwS E (canS E) v i) < 1000000 := by omega
      obtain ⟨i, i0, i1, i2⟩ := minF_ex hm
      rw [i2] at hm f1 ⊢
      have b1 := cE_in T Pg W (w := v) ⟨by omega, by omega⟩ ⟨i0, i1⟩
      have bb := bt_rng T b1.2.1 b2.2.1
      have rF := fw_rng (C := canS E) T Pg W v i (by omega) ⟨i0, i1⟩
      have fF := fw_fin (C := canS E) T Pg W v i (by omega) ⟨i0, i1⟩ (by omega)
      have hb := bb.2 (by omega)
      have hB := rB.2 hf.2
      refine Int.le_trans (minF_at i0 i1) ?_
      have hfl : fwS E (canS E) v i < 1000000 := by omega
      have hBv : Bw E C v i ≤ cC E v i + (bt E (cE E v i) (cE E ((v + 1 : Nat) : Int) j) + Bw E C (v + 1) j) := by
        rw [Bw_step hv, if_pos (by rw [h1]; exact fw_can hfl)]
        have := minF_at (f := fun j => if bt E (cE E v i) (cE E ((v + 1 : Nat) : Int) j) < 1000000 then bt E (cE E v i) (cE E ((v + 1 : Nat) : Int) j) + Bw E C (v + 1) j else 1000000) j0 j1
        rw [if_pos (by omega)] at this
        omega
      unfold cmb
      rw [if_pos ⟨by omega, by omega⟩]
      omega
    · have e : cmb E C (v + 1) j = 1000000 := if_neg hf
      rw [e]
      exact minF_le
  · have b1 := cE_in T Pg W (w := v) ⟨by omega, by omega⟩ ⟨i0, i1⟩
    have rF := fw_rng (C := canS E) T Pg W v i (by omega) ⟨i0, i1⟩
    by_cases hf : fwS E (canS E) v i < 1000000 ∧ Bw E C v i < 1000000
    · have e : cmb E C v i = fwS E (canS E) v i + Bw E C v i - cC E v i := if_pos hf
      rw [e]
      have f2 := hf.2
      have hC := Bw_can (by omega) hf.2
      have fF := fw_fin (C := canS E) T Pg W v i (by omega) ⟨i0, i1⟩ hf.1
      rw [Bw_step hv, if_pos hC] at f2 ⊢
      have hm : minF (cN E ((v + 1 : Nat) : Int)) (fun j => if bt E (cE E v i) (cE E ((v + 1 : Nat) : Int) j) < 1000000 then bt E (cE E v i) (cE E ((v + 1 : Nat) : Int) j) + Bw E C (v + 1) j else 1000000) < 1000000 := by omega
      obtain ⟨j, j0, j1, j2⟩ := minF_ex hm
      rw [j2] at hm f2 ⊢
      have b2 := cE_in T Pg W (w := ((v + 1 : Nat) : Int)) ⟨by omega, by omega⟩ ⟨j0, j1⟩
      have rB := Bw_rng (C := C) T Pg W (v := v + 1) (i := j) (by omega) ⟨j0, j1⟩
      have bb := bt_rng T b1.2.1 b2.2.1
      split at hm
      · rename_i hbt
        rw [if_pos hbt] at f2 ⊢
        have hb := bb.2 hbt
        have hB := rB.2 (by omega)
        have hC2 := h2 j (Bw_can (v := v + 1) (by omega) (show Bw E C (v + 1) j < 1000000 by omega))
        refine Int.le_trans (minF_at j0 j1) ?_
        have hFv : fwS E (canS E) (v + 1) j ≤ cC E ((v + 1 : Nat) : Int) j + (bt E (cE E v i) (cE E ((v + 1 : Nat) : Int) j) + fwS E (canS E) v i) := by
          conv => lhs; unfold fwS
          rw [if_pos hC2]
          have := minF_at (f := fun i => bt E (cE E v i) (cE E ((v + 1 : Nat) : Int) j) + fwS E (canS E) v i) i0 i1
          omega
        unfold cmb
        rw [if_pos ⟨by omega, by omega⟩]
        omega
      · exact absurd hm (by decide)
    · have e : cmb E C v i = 1000000 := if_neg hf
      rw [e]
      exact minF_le
theorem cmb_tot {E : Mm} {C : Int → Int → Bool} (T : InvT E) (Pg : InvP E) (W : InvW E) {w : Nat} (hw : (w : Int) < E 597 23) (h1 : ∀ v : Nat, v < w → ∀ i, C v i = canS E v i) (h2 : ∀ i, C w i = true → canS E w i = true) : ∀ v : Nat, v ≤ w → totS E C = minF (cN E v) (cmb E C v) := by
  have hle : ∀ v : Nat, v ≤ w → ∀ i, C v i = true → canS E v i = true := fun v hv i hC => by
    by_cases h : v = w
    · rw [h] at hC ⊢
      exact h2 i hC
    · rw [← h1 v (by omega) i]
      exact hC
  intro v
  induction v with
  | zero =>
    intro hv
    unfold totS
    rw [if_neg (show ¬ E 597 23 = 0 by omega)]
    refine minF_congr fun i i0 i1 => ?_
    have e0 : bkS E C (E 597 23 - 1).toNat i = Bw E C 0 i := by
      unfold Bw
      rw [show E 597 23 - 1 - ((0 : Nat) : Int) = E 597 23 - 1 by omega]
    have b1 := cE_in T Pg W (w := ((0 : Nat) : Int)) ⟨by omega, by omega⟩ ⟨i0, i1⟩
    have r := Bw_rng (C := C) T Pg W (v := 0) (i := i) (by omega) ⟨i0, i1⟩
    rw [e0]
    by_cases hf : Bw E C 0 i < 1000000
    · have hC : C ((0 : Nat) : Int) i = true := Bw_can (v := 0) (by omega) hf
      have hF : fwS E (canS E) 0 i = cC E ((0 : Nat) : Int) i := by
        unfold fwS
        exact if_pos (hle 0 (Nat.zero_le _) i hC)
      unfold cmb
      rw [hF, if_pos ⟨by omega, hf⟩]
      omega
    · unfold cmb
      rw [if_neg (fun h => hf h.2)]
      omega
  | succ v ih =>
    intro hv
    rw [ih (by omega)]
    exact cmb_step T Pg W (by omega) (fun i => h1 v (by omega) i) (hle (v + 1) hv)
/-- the least of the page, where a word may have only those of its places that g names -/
theorem tot_g {E : Mm} {C : Int → Int → Bool} {g : Int → Bool} (T : InvT E) (Pg : InvP E) (W : InvW E) {w : Nat} (hw : (w : Int) < E 597 23) (h1 : ∀ v : Nat, v ≠ w → ∀ i, C v i = canS E v i) (h2 : ∀ i, C w i = (g i && canS E w i)) : totS E C = minF (cN E w) fun i => if g i = true then thS E w i else 1000000 := by
  rw [cmb_tot T Pg W hw (fun v hv i => h1 v (by omega) i) (fun i hi => by rw [h2 i, Bool.and_eq_true] at hi; exact hi.2) w (Nat.le_refl _)]
  refine minF_congr fun i i0 i1 => ?_
  have key : Bw E C w i = if g i = true then Bw E (canS E) w i else 1000000 := by
    by_cases hl : (w : Int) + 1 = E 597 23
    · rw [Bw_last hl, Bw_last hl, h2 i]
      cases g i <;> simp
    · rw [Bw_step (by omega), Bw_step (by omega), h2 i]
      have : (fun j => if bt E (cE E w i) (cE E ((w + 1 : Nat) : Int) j) < 1000000 then bt E (cE E w i) (cE E ((w + 1 : Nat) : Int) j) + Bw E C (w + 1) j else 1000000) = fun j => if bt E (cE E w i) (cE E ((w + 1 : Nat) : Int) j) < 1000000 then bt E (cE E w i) (cE E ((w + 1 : Nat) : Int) j) + Bw E (canS E) (w + 1) j else 1000000 := by
        funext j
        rw [Bw_congr (D := canS E) (E 597 23 - 2 - (w : Int)).toNat (w + 1) (by omega) (fun u hu i => h1 u (by omega) i) j]
      rw [this]
      cases g i <;> simp
  unfold thS cmb
  rw [key]
  cases g i
  · rw [if_neg Bool.false_ne_true, if_neg Bool.false_ne_true, if_neg (fun h : _ ∧ (1000000 : Int) < 1000000 => absurd h.2 (by decide))]
  · rw [if_pos rfl, if_pos rfl]
theorem tot_all {E : Mm} (T : InvT E) (Pg : InvP E) (W : InvW E) {w : Nat} (hw : (w : Int) < E 597 23) : totS E (canS E) = minF (cN E w) (thS E w) := by
  rw [tot_g (C := canS E) (g := fun _ => true) T Pg W hw (fun _ _ _ => rfl) (fun i => by simp)]
  exact minF_congr fun i i0 i1 => if_pos rfl
theorem tot_on {E : Mm} (T : InvT E) (Pg : InvP E) (W : InvW E) {w : Nat} {p : Int} (hw : (w : Int) < E 597 23) (hp : 0 ≤ p ∧ p < cN E w) : totS E (canH E 1 w p) = thS E w p := by
  rw [tot_g (C := canH E 1 w p) (g := fun i => decide (i = p)) T Pg W hw (fun v hv i => ?_) (fun i => ?_)]
  · refine Int.le_antisymm ?_ (le_minF (cmb_le T Pg W hw hp).2 fun i i0 i1 => ?_)
    · have := minF_at (f := fun i => if decide (i = p) = true then thS E w i else 1000000) hp.1 hp.2
      rw [if_pos (by simp)] at this
      exact this
    · by_cases h : i = p
      · rw [h, if_pos (by simp)]
        exact Int.le_refl _
      · rw [if_neg (by simp [h])]
        exact (cmb_le T Pg W hw hp).2
  · unfold canH
    have : ¬ ((v : Int) = (w : Int)) := by omega
    simp [this]
  · unfold canH
    simp
/-- the least with another place of a word -/
def otS (E : Mm) (w : Nat) (p : Int) : Int := minF (cN E w) fun i => if i = p then 1000000 else thS E w i
theorem tot_off {E : Mm} (T : InvT E) (Pg : InvP E) (W : InvW E) {w : Nat} {p : Int} (hw : (w : Int) < E 597 23) : totS E (canH E 2 w p) = otS E w p := by
  rw [tot_g (C := canH E 2 w p) (g := fun i => !decide (i = p)) T Pg W hw (fun v hv i => ?_) (fun i => ?_)]
  · refine minF_congr fun i i0 i1 => ?_
    by_cases h : i = p
    · rw [if_pos h, if_neg (by simp [h])]
    · rw [if_neg h, if_pos (by simp [h])]
  · unfold canH
    have : ¬ ((v : Int) = (w : Int)) := by omega
    simp [this]
  · unfold canH
    simp
theorem ot_ge {E : Mm} (T : InvT E) (Pg : InvP E) (W : InvW E) {w : Nat} {p : Int} (hw : (w : Int) < E 597 23) : totS E (canS E) ≤ otS E w p ∧ otS E w p ≤ 1000000 := by
  refine ⟨?_, minF_le⟩
  rw [tot_all T Pg W hw]
  refine le_minF minF_le fun i i0 i1 => ?_
  split
  · exact minF_le
  · exact minF_at i0 i1
