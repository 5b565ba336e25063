/-! THE SPEC: functions of E, a snapshot of the reference's lasting cells. per: which these are; Ag E m: m has them as E -/
def per (x k : Int) : Prop := (x = 602 ∧ k < 583) ∨ x = 603 ∨ x = 604 ∨ (x = 607 ∧ k < 58) ∨ (x = 597 ∧ (k = 16 ∨ k = 23 ∨ k = 27))
def Ag (E m : Mm) : Prop := ∀ x k, per x k → m x k = E x k
theorem Ag.a {E m : Mm} (h : Ag E m) {k : Int} (hk : k < 583) : m 602 k = E 602 k := h _ _ (Or.inl ⟨rfl, hk⟩)
theorem Ag.r {E m : Mm} (h : Ag E m) : m 602 578 = E 602 578 := h.a (by decide)
theorem Ag.e {E m : Mm} (h : Ag E m) : m 602 579 = E 602 579 := h.a (by decide)
theorem Ag.g {E m : Mm} (h : Ag E m) : m 602 580 = E 602 580 := h.a (by decide)
theorem Ag.p {E m : Mm} (h : Ag E m) (k : Int) : m 603 k = E 603 k := h _ _ (Or.inr (Or.inl rfl))
theorem Ag.s {E m : Mm} (h : Ag E m) (k : Int) : m 604 k = E 604 k := h _ _ (Or.inr (Or.inr (Or.inl rfl)))
theorem Ag.t {E m : Mm} (h : Ag E m) {k : Int} (hk : k < 58) : m 607 k = E 607 k := h _ _ (Or.inr (Or.inr (Or.inr (Or.inl ⟨rfl, hk⟩))))
theorem Ag.b {E m : Mm} (h : Ag E m) : m 597 16 = E 597 16 := h _ _ (Or.inr (Or.inr (Or.inr (Or.inr ⟨rfl, Or.inl rfl⟩))))
theorem Ag.n {E m : Mm} (h : Ag E m) : m 597 23 = E 597 23 := h _ _ (Or.inr (Or.inr (Or.inr (Or.inr ⟨rfl, Or.inr (Or.inl rfl)⟩))))
theorem Ag.w {E m : Mm} (h : Ag E m) : m 597 27 = E 597 27 := h _ _ (Or.inr (Or.inr (Or.inr (Or.inr ⟨rfl, Or.inr (Or.inr rfl)⟩))))
theorem Ag.refl {E : Mm} : Ag E E := fun _ _ _ => rfl
theorem Ag.umem {E m : Mm} {x k v : Int} (h : Ag E m) (hp : ¬ per x k) : Ag E (umem m x k v) := fun x' k' hp' => by
  rw [um_n (fun e => hp (by rw [← e.1, ← e.2]; exact hp'))]
  exact h x' k' hp'
theorem Ag.fr {E m m' : Mm} (h : Ag E m) (hf : ∀ x k, per x k → m' x k = m x k) : Ag E m' := fun x k hp => (hf x k hp).trans (h x k hp)
/-- what holds of the lasting cells: the table, the page, the marks (without: NONE, or a reading that is left out) -/
def InvT (E : Mm) : Prop := E 597 16 = 0 ∧ (0 ≤ E 602 578 ∧ E 602 578 ≤ 24) ∧ (0 ≤ E 602 579 ∧ E 602 579 ≤ 24) ∧ (0 ≤ E 602 580 ∧ E 602 580 ≤ 999) ∧ (0 ≤ E 602 581 ∧ E 602 581 ≤ 99) ∧ (0 ≤ E 602 582 ∧ E 602 582 ≤ 99999) ∧
  (∀ r, 0 ≤ r → r < E 602 578 → v_M E r) ∧
  (∀ e, 0 ≤ e → e < E 602 579 → (1 ≤ esz E e ∧ esz E e ≤ 8) ∧ (0 ≤ E 602 (264 + 11 * e + 1) ∧ E 602 (264 + 11 * e + 1) < 5) ∧ (0 ≤ E 602 (264 + 11 * e + 2) ∧ E 602 (264 + 11 * e + 2) ≤ 9) ∧ ∀ i, 0 ≤ i → i < esz E e → 0 ≤ E 602 (264 + 11 * e + 3 + i) ∧ E 602 (264 + 11 * e + 3 + i) < 26) ∧
  ∀ k, 0 ≤ k → k < 25 → (E 602 (528 + k) = 0 ∨ E 602 (528 + k) = 1) ∧ (0 ≤ E 602 (553 + k) ∧ E 602 (553 + k) ≤ 999)
def InvP (E : Mm) : Prop := (0 ≤ E 597 23 ∧ E 597 23 ≤ 10) ∧ ∀ w, 0 ≤ w → w < E 597 23 → (1 ≤ E 604 w ∧ E 604 w ≤ 10) ∧ ∀ i, 0 ≤ i → i < E 604 w → (0 ≤ E 603 (10 * w + i) ∧ E 603 (10 * w + i) < 26) ∨ (32 ≤ E 603 (10 * w + i) ∧ E 603 (10 * w + i) < 42)
def InvW (E : Mm) : Prop := ∀ r, 0 ≤ r → r < 24 → (0 ≤ E 607 r ∧ E 607 r ≤ 999) ∧ (0 ≤ E 607 (24 + r) ∧ E 607 (24 + r) ≤ 999)
theorem v_M_ag {E m : Mm} (A : Ag E m) {r : Int} (h : v_M E r) : v_M m r := by
  obtain ⟨h1, h2, h3, h4, h5, h6, h7⟩ := h
  have e : ∀ k, k < 583 → m 602 k = E 602 k := fun k hk => A.a hk
  refine ⟨A.b.trans h1, h2, by rw [e _ (by omega)]; exact h3, by rw [e _ (by omega)]; exact h4, by rw [e _ (by omega)]; exact h5, by rw [e _ (by omega)]; exact h6, fun i i0 i1 => ?_⟩
  rw [e (11 * r + 1) (by omega)] at i1
  rw [e (11 * r + 5 + i) (by omega)]
  exact h7 i i0 i1
theorem v_V_of {E m : Mm} (A : Ag E m) (T : InvT E) (W : InvW E) {r : Int} (h0 : 0 ≤ r) (h1 : r < 24) : v_V m r := by
  unfold v_V
  rw [A.a (show (581 : Int) < 583 by decide), A.b, A.t (show r < 58 by omega), A.t (show 24 + r < 58 by omega)]
  exact ⟨T.1, ⟨h0, h1⟩, T.2.2.2.2.1, (W r h0 h1).1, (W r h0 h1).2⟩
theorem wnow_ag {E m : Mm} (A : Ag E m) {r : Int} (hr : r < 24) : wnow m r = wnow E r := by unfold wnow; rw [A.a (show (581 : Int) < 583 by decide), A.t (show r < 58 by omega), A.t (show 24 + r < 58 by omega)]
theorem wnow_rng {E : Mm} (T : InvT E) (W : InvW E) {r : Int} (h0 : 0 ≤ r) (h1 : r < 24) : 0 ≤ wnow E r ∧ wnow E r ≤ 999 := by
  unfold wnow
  have h := W r h0 h1
  have := mul_rng T.2.2.2.2.1.1 T.2.2.2.2.1.2 h.2.1 h.2.2
  omega
theorem fit_ag {E m : Mm} (A : Ag E m) {r : Int} (hr : r < 24) (last w a : Int) : fitM m r last w a = fitM E r last w a := by
  unfold fitM
  rw [A.a (show 11 * r < 583 by omega), A.a (show 11 * r + 2 < 583 by omega), A.a (show 11 * r + 3 < 583 by omega)]
  simp only [A.p, A.s, A.w]
theorem lasB_ag {E m : Mm} (A : Ag E m) {r : Int} (h : v_M E r) (last : Int) : lasB m r last = lasB E r last := by
  have h2 := h.2.1
  have h4 := h.2.2.2.1
  unfold lasB
  rw [A.a (show 11 * r + 1 < 583 by omega), A.a (show 11 * r + 5 + (E 602 (11 * r + 1) - 1) < 583 by omega)]
theorem lasO_ag {E m : Mm} (A : Ag E m) {e k : Int} (he : e < 24) (hk : k ≤ 8) : lasO m e k = lasO E e k := by
  unfold lasO
  rw [A.a (show 264 + 11 * e + 3 + (k - 1) < 583 by omega)]
theorem esz_ag {E m : Mm} (A : Ag E m) {e : Int} (he : e < 24) : esz m e = esz E e := A.a (by omega)
theorem bsz_ag {E m : Mm} (A : Ag E m) {r : Int} (hr : r < 24) : bsz m r = bsz E r := A.a (by omega)
theorem allN_congr {n : Nat} {f g : Int → Bool} (h : ∀ i : Int, 0 ≤ i → i < n → f i = g i) : allN n f = allN n g := by
  have e : allN n f = true ↔ allN n g = true := by
    rw [allN_t, allN_t]
    exact ⟨fun q i i0 i1 => by rw [← h i i0 i1]; exact q i i0 i1, fun q i i0 i1 => by rw [h i i0 i1]; exact q i i0 i1⟩
  exact Bool.eq_iff_iff.mpr e
theorem stM_ag {E m : Mm} (A : Ag E m) {r e k : Int} (h : v_M E r) (he : e < 24) (hk : k ≤ 8) : stM m r e k = stM E r e k := by
  have h2 := h.2.1
  have h4 : 0 ≤ bsz E r ∧ bsz E r ≤ 6 := h.2.2.2.1
  unfold stM
  rw [bsz_ag A h2.2, esz_ag A he]
  congr 1
  refine allN_congr fun i i0 i1 => ?_
  rw [A.a (show 11 * r + 5 + i < 583 by omega), A.a (show 264 + 11 * e + 3 + (k + i) < 583 by omega)]
theorem bhd_ag {E m : Mm} (A : Ag E m) {r e k : Int} (h : v_M E r) (he : e < 24) (hk : k ≤ 8) : bhd m r e k = bhd E r e k := by
  unfold bhd
  rw [stM_ag A h he hk, bsz_ag A h.2.1.2]
theorem lasB_rng {E : Mm} {r last : Int} (h : v_M E r) (hl : -1 ≤ last ∧ last < 26) : -1 ≤ lasB E r last ∧ lasB E r last < 26 := by
  obtain ⟨h1, h2, h3, h4, h5, h6, h7⟩ := h
  unfold lasB
  split
  · exact hl
  · have := h7 (E 602 (11 * r + 1) - 1) (by omega) (by omega)
    omega
/-- least, sum over 0 .. n-1 -/
def minF : Nat → (Int → Int) → Int
  | 0, _ => 1000000
  | n + 1, f => min (minF n f) (f n)
def sumF : Nat → (Int → Int) → Int
  | 0, _ => 0
  | n + 1, f => sumF n f + f n
theorem minF_le {n : Nat} {f : Int → Int} : minF n f ≤ 1000000 := by
  induction n with
  | zero => exact Int.le_refl _
  | succ n ih => unfold minF; omega
theorem minF_ge {n : Nat} {f : Int → Int} (h : ∀ i : Int, 0 ≤ i → i < n → 0 ≤ f i) : 0 ≤ minF n f := by
  induction n with
  | zero => exact (by decide : (0 : Int) ≤ 1000000)
  | succ n ih =>
    unfold minF
    have := ih (fun i h0 h1 => h i h0 (by omega))
    have := h n (by omega) (by omega)
    omega
theorem sumF_ge {n : Nat} {f : Int → Int} (h : ∀ i : Int, 0 ≤ i → i < n → 0 ≤ f i) : 0 ≤ sumF n f := by
  induction n with
  | zero => exact Int.le_refl _
  | succ n ih =>
    unfold sumF
    have := ih (fun i h0 h1 => h i h0 (by omega))
    have := h n (by omega) (by omega)
    omega
theorem sumF_le {n : Nat} {f : Int → Int} {B : Int} (h : ∀ i : Int, 0 ≤ i → i < n → f i ≤ B) : sumF n f ≤ n * B := by
  induction n with
  | zero => simp [sumF]
  | succ n ih =>
    unfold sumF
    have h1 := ih (fun i h0 h1 => h i h0 (by omega))
    have h2 := h n (by omega) (by omega)
    rw [show ((n + 1 : Nat) : Int) * B = n * B + B by rw [Int.natCast_add, Int.add_mul]; simp]
    omega
/-- cost of the least opening of a word's last d bytes behind last, 1000000: none -/
def oc (E : Mm) (w : Int) : Nat → Int → Int
  | 0, _ => 0
  | d + 1, last => if E 603 (10 * w + (E 604 w - (d + 1 : Nat))) < 32 then oc E w d (E 603 (10 * w + (E 604 w - (d + 1 : Nat)))) else minF (E 602 578).toNat fun r => if fitM E r last w (E 604 w - (d + 1 : Nat)) = true then wnow E r + oc E w d (lasB E r last) else 1000000
/-- how many openings these have -/
def ow (E : Mm) (w : Int) : Nat → Int → Int
  | 0, _ => 1
  | d + 1, last => if E 603 (10 * w + (E 604 w - (d + 1 : Nat))) < 32 then ow E w d (E 603 (10 * w + (E 604 w - (d + 1 : Nat)))) else sumF (E 602 578).toNat fun r => if fitM E r last w (E 604 w - (d + 1 : Nat)) = true then ow E w d (lasB E r last) else 0
theorem oc_rng {E : Mm} (T : InvT E) (W : InvW E) {w : Int} : ∀ (d : Nat) (last : Int), 0 ≤ oc E w d last ∧ oc E w d last ≤ 1000000 := by
  intro d
  induction d with
  | zero => intro last; exact ⟨Int.le_refl _, (by decide : (0 : Int) ≤ 1000000)⟩
  | succ d ih =>
    intro last
    unfold oc
    split
    · exact ih _
    · refine ⟨minF_ge fun r h0 h1 => ?_, minF_le⟩
      split
      · have := (wnow_rng T W h0 (by have := T.2.1; omega)).1
        have := (ih (lasB E r last)).1
        omega
      · decide
theorem ow_rng {E : Mm} (T : InvT E) {w : Int} : ∀ (d : Nat) (last : Int), 0 ≤ ow E w d last ∧ ow E w d last ≤ 24 ^ d := by
  intro d
  induction d with
  | zero => intro last; exact ⟨(by decide : (0 : Int) ≤ 1), (by simp [ow])⟩
  | succ d ih =>
    intro last
    have hp : (0 : Int) ≤ 24 ^ d := Int.le_trans (ih 0).1 (ih 0).2
    unfold ow
    split
    · refine ⟨(ih _).1, Int.le_trans (ih _).2 ?_⟩
      rw [Int.pow_succ]
      omega
    · refine ⟨sumF_ge fun r h0 h1 => ?_, Int.le_trans (sumF_le (B := 24 ^ d) fun r h0 h1 => ?_) ?_⟩
      · split
        · exact (ih _).1
        · decide
      · split
        · exact (ih _).2
        · exact hp
      · rw [Int.pow_succ, Int.mul_comm]
        have := T.2.1
        exact Int.mul_le_mul_of_nonneg_left (by omega) hp
