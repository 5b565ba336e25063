/-! bits -/
theorem one_and (y : BitVec 32) : (y &&& 1#32) = 1#32 ↔ y.getLsbD 0 = true := by
  rw [BitVec.and_one_eq_setWidth_ofBool_getLsbD]
  cases y.getLsbD 0 <;> decide
theorem bit_of {x : Int} {e : Nat} (he : e < 32) : iand (ishr x e) 1 = 1 ↔ (i3 x).toBitVec.getLsbD e = true := by
  unfold iand ishr bI
  rw [i3_toInt]
  have h2 : ∀ e : Nat, e < 32 → ((i3 e &&& 31).toBitVec.smod 32#32).toNat = e := by decide +kernel
  have h3 : (i3 x >>> (i3 e &&& 31) &&& i3 1).toBitVec = ((i3 x).toBitVec.sshiftRight e) &&& 1#32 := by
    rw [Int32.toBitVec_and, Int32.toBitVec_shiftRight]
    show BitVec.sshiftRight _ ((i3 e &&& 31).toBitVec.smod 32#32).toNat &&& _ = _
    rw [h2 e he]
    rfl
  have h4 : (i3 x >>> (i3 e &&& 31) &&& i3 1).toInt = 1 ↔ (i3 x >>> (i3 e &&& 31) &&& i3 1).toBitVec = 1#32 := by
    constructor
    · intro h
      have : (i3 x >>> (i3 e &&& 31) &&& i3 1) = i3 1 := by rw [← i3_toInt (_ &&& _), h]
      rw [this]
      rfl
    · intro h
      have : (i3 x >>> (i3 e &&& 31) &&& i3 1) = i3 1 := Int32.toBitVec_inj.mp (by rw [h]; rfl)
      rw [this]
      rfl
  rw [h4, h3, one_and, BitVec.getLsbD_sshiftRight]
  simp [he]
theorem bit_shl : ∀ n : Nat, n < 24 → ∀ e : Nat, e < 24 → (i3 (ishl 1 n)).toBitVec.getLsbD e = decide (e = n) := by decide +kernel
theorem bit_or {x y : Int} {e : Nat} : (i3 (ior x y)).toBitVec.getLsbD e = ((i3 x).toBitVec.getLsbD e || (i3 y).toBitVec.getLsbD e) := by
  unfold ior bI
  rw [i3_toInt, Int32.toBitVec_or, BitVec.getLsbD_or]
/-- the entries of a word, as bits -/
def mkE (E : Mm) (w : Int) : Nat → Int
  | 0 => 0
  | n + 1 => if xw E w n < 1000000 then ior (mkE E w n) (ishl 1 n) else mkE E w n
theorem mkE_bit {E : Mm} {w : Int} : ∀ (n : Nat), n ≤ 24 → ∀ e : Nat, e < 24 → ((i3 (mkE E w n)).toBitVec.getLsbD e = true ↔ e < n ∧ xw E w e < 1000000) := by
  intro n
  induction n with
  | zero =>
    intro _ e he
    have : ∀ e : Nat, e < 24 → (i3 0).toBitVec.getLsbD e = false := by decide +kernel
    show (i3 0).toBitVec.getLsbD e = true ↔ _
    rw [this e he]
    simp
  | succ n ih =>
    intro hn e he
    have := ih (by omega) e he
    unfold mkE
    split <;> rename_i hx
    · rw [bit_or, bit_shl n (by omega) e he, Bool.or_eq_true_iff, this, decide_eq_true_eq]
      constructor
      · rintro (h | h)
        · exact ⟨by omega, h.2⟩
        · subst h
          exact ⟨by omega, hx⟩
      · rintro ⟨h1, h2⟩
        by_cases h : e = n
        · exact Or.inr h
        · exact Or.inl ⟨by omega, h2⟩
    · rw [this]
      constructor
      · exact fun h => ⟨by omega, h.2⟩
      · rintro ⟨h1, h2⟩
        by_cases h : e = n
        · subst h
          exact absurd h2 hx
        · exact ⟨by omega, h2⟩
theorem ior_0 {x : Int} (h : ∃ y : Int32, x = y.toInt) : ior x 0 = x := by
  obtain ⟨y, rfl⟩ := h
  unfold ior bI
  rw [i3_toInt]
  have : y ||| i3 0 = y := Int32.toBitVec_inj.mp (by rw [Int32.toBitVec_or]; exact BitVec.or_zero)
  exact congrArg Int32.toInt this
theorem mkE_32 {E : Mm} {w : Int} : ∀ n : Nat, ∃ y : Int32, mkE E w n = y.toInt := by
  intro n
  induction n with
  | zero => exact ⟨0, rfl⟩
  | succ n ih =>
    unfold mkE
    split
    · exact ⟨_, rfl⟩
    · exact ih
