/-! THE SPEC: functions of E, a snapshot of the reference's lasting cells. per: which these are; Ag E m: m has them as E -/
def per (x k : Int) : Prop := x = 602 ∨ x = 603 ∨ x = 604 ∨ x = 607 ∨ (x = 597 ∧ (k = 16 ∨ k = 23 ∨ k = 27))
def Ag (E m : Mm) : Prop := ∀ x k, per x k → m x k = E x k
theorem Ag.a {E m : Mm} (h : Ag E m) (k : Int) : m 602 k = E 602 k := h _ _ (Or.inl rfl)
theorem Ag.p {E m : Mm} (h : Ag E m) (k : Int) : m 603 k = E 603 k := h _ _ (Or.inr (Or.inl rfl))
theorem Ag.s {E m : Mm} (h : Ag E m) (k : Int) : m 604 k = E 604 k := h _ _ (Or.inr (Or.inr (Or.inl rfl)))
theorem Ag.t {E m : Mm} (h : Ag E m) (k : Int) : m 607 k = E 607 k := h _ _ (Or.inr (Or.inr (Or.inr (Or.inl rfl))))
theorem Ag.b {E m : Mm} (h : Ag E m) : m 597 16 = E 597 16 := h _ _ (Or.inr (Or.inr (Or.inr (Or.inr ⟨rfl, Or.inl rfl⟩))))
theorem Ag.n {E m : Mm} (h : Ag E m) : m 597 23 = E 597 23 := h _ _ (Or.inr (Or.inr (Or.inr (Or.inr ⟨rfl, Or.inr (Or.inl rfl)⟩))))
theorem Ag.w {E m : Mm} (h : Ag E m) : m 597 27 = E 597 27 := h _ _ (Or.inr (Or.inr (Or.inr (Or.inr ⟨rfl, Or.inr (Or.inr rfl)⟩))))
theorem Ag.refl {E : Mm} : Ag E E := fun _ _ _ => rfl
theorem Ag.umem {E m : Mm} {x k v : Int} (h : Ag E m) (hp : ¬ per x k) : Ag E (umem m x k v) := fun x' k' hp' => by
  rw [um_n (fun e => hp (by rw [← e.1, ← e.2]; exact hp'))]
  exact h x' k' hp'
theorem Ag.fr {E m m' : Mm} (h : Ag E m) (hf : ∀ x k, per x k → m' x k = m x k) : Ag E m' := fun x k hp => (hf x k hp).trans (h x k hp)
/-- what holds of the lasting cells: the table, the page, the marks (without: NONE, or a reading that is left out) -/
def InvT (E : Mm) : Prop := E 597 16 = 0 ∧ (0 ≤ E 602 578 ∧ E 602 578 ≤ 24) ∧ (0 ≤ E 602 579 ∧ E 602 579 ≤ 24) ∧ (0 ≤ E 602 580 ∧ E 602 580 ≤ 999) ∧ (0 ≤ E 602 581 ∧ E 602 581 ≤ 99) ∧ (0 ≤ E 602 582 ∧ E 602 582 ≤ 99999) ∧
  (∀ r, 0 ≤ r → r < E 602 578 → v_M E r) ∧
  (∀ e, 0 ≤ e → e < E 602 579 → (1 ≤ esz E e ∧ esz E e ≤ 8) ∧ (0 ≤ E 602 (264 + 11 * e + 1) ∧ E 602 (264 + 11 * e + 1) < 5) ∧ (0 ≤ E 602 (264 + 11 * e + 2) ∧ E 602 (264 + 11 * e + 2) ≤ 9) ∧ ∀ i, 0 ≤ i → i < esz E e → 0 ≤ E 602 (264 + 11 * e + 3 + i) ∧ E 602 (264 + 11 * e + 3 + i) < 26) ∧
  ∀ k, 0 ≤ k → k < 25 → (E 602 (528 + k) = 0 ∨ E 602 (528 + k) = 1) ∧ (0 ≤ E 602 (553 + k) ∧ E 602 (553 + k) ≤ 999)
def InvP (E : Mm) : Prop := (0 ≤ E 597 23 ∧ E 597 23 ≤ 10) ∧ ∀ w, 0 ≤ w → w < E 597 23 → (1 ≤ E 604 w ∧ E 604 w ≤ 10) ∧ ∀ i, 0 ≤ i → i < E 604 w → (0 ≤ E 603 (10 * w + i) ∧ E 603 (10 * w + i) < 26) ∨ (32 ≤ E 603 (10 * w + i) ∧ E 603 (10 * w + i) < 42)
def InvW (E : Mm) : Prop := ∀ r, 0 ≤ r → r < 24 → (0 ≤ E 607 r ∧ E 607 r ≤ 999) ∧ (0 ≤ E 607 (24 + r) ∧ E 607 (24 + r) ≤ 999)
theorem v_M_ag {E m : Mm} (A : Ag E m) {r : Int} (h : v_M E r) : v_M m r := by
  unfold v_M at h ⊢
  simp only [A.a, A.b]
  exact h
theorem v_V_of {E m : Mm} (A : Ag E m) (T : InvT E) (W : InvW E) {r : Int} (h0 : 0 ≤ r) (h1 : r < 24) : v_V m r := by
  unfold v_V
  simp only [A.a, A.b, A.t]
  exact ⟨T.1, ⟨h0, h1⟩, T.2.2.2.2.1, (W r h0 h1).1, (W r h0 h1).2⟩
theorem wnow_ag {E m : Mm} (A : Ag E m) (r : Int) : wnow m r = wnow E r := by unfold wnow; simp only [A.a, A.t]
theorem wnow_rng {E : Mm} (T : InvT E) (W : InvW E) {r : Int} (h0 : 0 ≤ r) (h1 : r < 24) : 0 ≤ wnow E r ∧ wnow E r ≤ 999 := by
  unfold wnow
  have h := W r h0 h1
  have := mul_rng T.2.2.2.2.1.1 T.2.2.2.2.1.2 h.2.1 h.2.2
  omega
theorem fit_ag {E m : Mm} (A : Ag E m) (r last w a : Int) : fitM m r last w a = fitM E r last w a := by unfold fitM; simp only [A.a, A.p, A.s, A.w]
theorem lasB_ag {E m : Mm} (A : Ag E m) (r last : Int) : lasB m r last = lasB E r last := by unfold lasB; simp only [A.a]
theorem lasO_ag {E m : Mm} (A : Ag E m) (e k : Int) : lasO m e k = lasO E e k := by unfold lasO; simp only [A.a]
theorem esz_ag {E m : Mm} (A : Ag E m) (e : Int) : esz m e = esz E e := by unfold esz; simp only [A.a]
theorem bsz_ag {E m : Mm} (A : Ag E m) (e : Int) : bsz m e = bsz E e := by unfold bsz; simp only [A.a]
theorem bhd_ag {E m : Mm} (A : Ag E m) (r e k : Int) : bhd m r e k = bhd E r e k := by unfold bhd stM; simp only [bsz_ag A, esz_ag A, A.a]
theorem lasB_rng {E : Mm} {r last : Int} (h : v_M E r) (hl : -1 ≤ last ∧ last < 26) : -1 ≤ lasB E r last ∧ lasB E r last < 26 := by
  obtain ⟨h1, h2, h3, h4, h5, h6, h7⟩ := h
  unfold lasB
  split
  · exact hl
  · have := h7 (E 602 (11 * r + 1) - 1) (by omega) (by omega)
    omega
/-- least, sum over 0 .. n-1 -/
def minF : Nat → (Int → Int) → Int
  | 0, _ => 1000000
  | n + 1, f => min (minF n f) (f n)
def sumF : Nat → (Int → Int) → Int
  | 0, _ => 0
  | n + 1, f => sumF n f + f n
theorem minF_le {n : Nat} {f : Int → Int} : minF n f ≤ 1000000 := by
  induction n with
  | zero => exact Int.le_refl _
  | succ n ih => unfold minF; omega
theorem minF_ge {n : Nat} {f : Int → Int} (h : ∀ i : Int, 0 ≤ i → i < n → 0 ≤ f i) : 0 ≤ minF n f := by
  induction n with
  | zero => exact (by decide : (0 : Int) ≤ 1000000)
  | succ n ih =>
    unfold minF
    have := ih (fun i h0 h1 => h i h0 (by omega))
    have := h n (by omega) (by omega)
    omega
theorem sumF_ge {n : Nat} {f : Int → Int} (h : ∀ i : Int, 0 ≤ i → i < n → 0 ≤ f i) : 0 ≤ sumF n f := by
  induction n with
  | zero => exact Int.le_refl _
  | succ n ih =>
    unfold sumF
    have := ih (fun i h0 h1 => h i h0 (by omega))
    have := h n (by omega) (by omega)
    omega
theorem sumF_le {n : Nat} {f : Int → Int} {B : Int} (h : ∀ i : Int, 0 ≤ i → i < n → f i ≤ B) : sumF n f ≤ n * B := by
  induction n with
  | zero => simp [sumF]
  | succ n ih =>
    unfold sumF
    have h1 := ih (fun i h0 h1 => h i h0 (by omega))
    have h2 := h n (by omega) (by omega)
    rw [show ((n + 1 : Nat) : Int) * B = n * B + B by rw [Int.natCast_add, Int.add_mul]; simp]
    omega
/-- cost of the least opening of a word's last d bytes behind last, 1000000: none -/
def oc (E : Mm) (w : Int) : Nat → Int → Int
  | 0, _ => 0
  | d + 1, last => if E 603 (10 * w + (E 604 w - (d + 1 : Nat))) < 32 then oc E w d (E 603 (10 * w + (E 604 w - (d + 1 : Nat)))) else minF (E 602 578).toNat fun r => if fitM E r last w (E 604 w - (d + 1 : Nat)) = true then wnow E r + oc E w d (lasB E r last) else 1000000
/-- how many openings these have -/
def ow (E : Mm) (w : Int) : Nat → Int → Int
  | 0, _ => 1
  | d + 1, last => if E 603 (10 * w + (E 604 w - (d + 1 : Nat))) < 32 then ow E w d (E 603 (10 * w + (E 604 w - (d + 1 : Nat)))) else sumF (E 602 578).toNat fun r => if fitM E r last w (E 604 w - (d + 1 : Nat)) = true then ow E w d (lasB E r last) else 0
theorem oc_rng {E : Mm} (T : InvT E) (W : InvW E) {w : Int} : ∀ (d : Nat) (last : Int), 0 ≤ oc E w d last ∧ oc E w d last ≤ 1000000 := by
  intro d
  induction d with
  | zero => intro last; exact ⟨Int.le_refl _, (by decide : (0 : Int) ≤ 1000000)⟩
  | succ d ih =>
    intro last
    unfold oc
    split
    · exact ih _
    · refine ⟨minF_ge fun r h0 h1 => ?_, minF_le⟩
      split
      · have := (wnow_rng T W h0 (by have := T.2.1; omega)).1
        have := (ih (lasB E r last)).1
        omega
      · decide
theorem ow_rng {E : Mm} (T : InvT E) {w : Int} : ∀ (d : Nat) (last : Int), 0 ≤ ow E w d last ∧ ow E w d last ≤ 24 ^ d := by
  intro d
  induction d with
  | zero => intro last; exact ⟨(by decide : (0 : Int) ≤ 1), (by simp [ow])⟩
  | succ d ih =>
    intro last
    have hp : (0 : Int) ≤ 24 ^ d := Int.le_trans (ih 0).1 (ih 0).2
    unfold ow
    split
    · refine ⟨(ih _).1, Int.le_trans (ih _).2 ?_⟩
      rw [Int.pow_succ]
      omega
    · refine ⟨sumF_ge fun r h0 h1 => ?_, Int.le_trans (sumF_le (B := 24 ^ d) fun r h0 h1 => ?_) ?_⟩
      · split
        · exact (ih _).1
        · decide
      · split
        · exact (ih _).2
        · exact hp
      · rw [Int.pow_succ, Int.mul_comm]
        have := T.2.1
        exact Int.mul_le_mul_of_nonneg_left (by omega) hp
