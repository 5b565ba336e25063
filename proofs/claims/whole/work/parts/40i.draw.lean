/-! numbers drawn -/
theorem land_mask {x : Int} : 0 ≤ land x 2147483647 ∧ land x 2147483647 < 2147483648 := by
  unfold land bL
  have h1 : (i6 x &&& i6 2147483647).toBitVec = (i6 x).toBitVec &&& 2147483647#64 := Int64.toBitVec_and _ _
  have h2 : ((i6 x).toBitVec &&& 2147483647#64).toNat ≤ 2147483647 := by
    rw [BitVec.toNat_and]
    exact Nat.and_le_right
  have h3 : ((i6 x).toBitVec &&& 2147483647#64).toInt = (((i6 x).toBitVec &&& 2147483647#64).toNat : Int) := BitVec.toInt_eq_toNat_of_lt (by
    have : (2 : Nat) ^ 64 = 18446744073709551616 := by decide
    omega)
  have h4 : (i6 x &&& i6 2147483647).toInt = (((i6 x).toBitVec &&& 2147483647#64).toNat : Int) := by
    rw [← Int64.toInt_toBitVec, h1, h3]
  show 0 ≤ (i6 x &&& i6 2147483647).toInt ∧ (i6 x &&& i6 2147483647).toInt < 2147483648
  omega
theorem lshr_16 {x : Int} (h : 0 ≤ x ∧ x < 2147483648) : lshr x 16 = x / 65536 := by
  unfold lshr
  have h3 : (i6 x >>> ((i3 16).toInt64 &&& 63)).toBitVec = (i6 x).toBitVec.sshiftRight 16 := by
    rw [Int64.toBitVec_shiftRight]
    show BitVec.sshiftRight _ (((i3 16).toInt64 &&& 63).toBitVec.smod 64#64).toNat = _
    have : (((i3 16).toInt64 &&& 63).toBitVec.smod 64#64).toNat = 16 := by decide +kernel
    rw [this]
  rw [← Int64.toInt_toBitVec, h3, BitVec.toInt_sshiftRight, Int64.toInt_toBitVec, i6_in (by omega), Int.shiftRight_eq_div_pow]
  rfl
theorem ldiv_nn {x n : Int} (hx : 0 ≤ x ∧ x < 2147483648) (hn : 1 ≤ n ∧ n ≤ 100000) : (i6 x / i6 n).toInt = x / n := by
  have q0 := Int.ediv_nonneg hx.1 (show 0 ≤ n by omega)
  have q1 : x / n ≤ x := Int.ediv_le_self n hx.1
  rw [Int64.toInt_div, i6_in (by omega), i6_in (by omega), Int.tdiv_eq_ediv_of_nonneg hx.1]
  exact wl_id ⟨by omega, by omega⟩
theorem lrem_nn {x n : Int} (hx : 0 ≤ x ∧ x < 2147483648) (hn : 1 ≤ n ∧ n ≤ 100000) : lrem x n = x % n := by
  have q0 := Int.ediv_nonneg hx.1 (show 0 ≤ n by omega)
  have q2 : x / n * n ≤ x := Int.ediv_mul_le x (by omega)
  have q3 : 0 ≤ x / n * n := Int.mul_nonneg q0 (by omega)
  unfold lrem bL
  have e2 : (i6 x / i6 n * i6 n).toInt = x / n * n := by
    rw [Int64.toInt_mul, ldiv_nn hx hn, i6_in (by omega)]
    exact wl_id ⟨by omega, by omega⟩
  show (i6 x - i6 x / i6 n * i6 n).toInt = _
  rw [Int64.toInt_sub, e2, i6_in (by omega), Int.emod_def, Int.mul_comm n]
  exact wl_id ⟨by omega, by omega⟩
theorem irem_up : ∀ n : Nat, n < 25 → ∀ k : Nat, k < n → irem ((k : Int) + 1) (n : Int) = if (k : Int) + 1 = n then 0 else (k : Int) + 1 := by decide +kernel
/-- the next number, what is drawn of it -/
def nxD (d : Int) : Int := land (wl ((wl (d * 1103515245)) + 12345)) 2147483647
theorem nxD_rng {d : Int} : 0 ≤ nxD d ∧ nxD d < 2147483648 := land_mask
def drw (d n : Int) : Int := nxD d / 65536 % n
theorem drw_rng {d n : Int} (hn : 1 ≤ n ∧ n ≤ 24) : 0 ≤ drw d n ∧ drw d n < n := ⟨Int.emod_nonneg _ (by omega), Int.emod_lt_of_pos _ (by omega)⟩
theorem drw_c {d n : Int} (hn : 1 ≤ n ∧ n ≤ 24) : wr (lrem (lshr (nxD d) 16) n) = drw d n := by
  have h := nxD_rng (d := d)
  have h2 := drw_rng (d := d) hn
  rw [lshr_16 h, lrem_nn (by omega) (by omega)]
  exact wrI (by unfold drw at h2; omega) (by unfold drw at h2; omega)
theorem drw_r {d n : Int} (hn : 1 ≤ n ∧ n ≤ 24) : wr (lrem (ldiv (nxD d) 65536) n) = drw d n := by
  have h := nxD_rng (d := d)
  have h2 := drw_rng (d := d) hn
  have e : ldiv (nxD d) 65536 = nxD d / 65536 := ldiv_nn h (by decide)
  rw [e, lrem_nn (by omega) (by omega)]
  exact wrI (by unfold drw at h2; omega) (by unfold drw at h2; omega)
/-- the place drawn of a word -/
def plF (E : Mm) (w : Int) : Int := fstN (cN E w) fun j => decide (cE E w j = fxE E w)
def drP (E : Mm) (w d : Int) : Int := if plF E w < 0 then drw d (cN E w) else plF E w
theorem drP_rng {E : Mm} (T : InvT E) {w d : Int} : 0 ≤ drP E w d ∧ drP E w d < cN E w := by
  have h := chs_len T (w := w)
  have hn : 1 ≤ (cN E w : Int) ∧ (cN E w : Int) ≤ 24 := by unfold cN; omega
  have h2 := drw_rng (d := d) hn
  have h3 := fstN_rng (n := cN E w) (f := fun j => decide (cE E w j = fxE E w))
  unfold drP plF
  split <;> omega
theorem canS_F {E : Mm} (T : InvT E) (Pg : InvP E) (W : InvW E) {w i : Int} (hw : 0 ≤ w ∧ w < E 597 23) (hi : 0 ≤ i ∧ i < cN E w) : canS E w i = true ↔ (plF E w < 0 ∨ plF E w = i) := by
  -- the class's own lemma, over a memory that holds the choices
  obtain ⟨m, hm⟩ : ∃ m : Mm, m = fun x k => if x = 438 then (cN E w : Int) else if x = 440 + w then cE E w k else cC E w k := ⟨_, rfl⟩
  have n2 := (chs_len T (w := w)).2
  have P1 := Pg.1
  have C : ChC m 411 w (chs E w) := by
    refine ⟨by rw [hm]; rfl, fun j hj => ?_⟩
    have g := List.getElem?_eq_getElem hj
    constructor
    · rw [hm]
      show (if (411 : Int) + 29 + w = 438 then _ else if (411 : Int) + 29 + w = 440 + w then cE E w j else _) = _
      rw [if_neg (by omega), if_pos (by omega)]
      unfold cE
      rw [Int.toNat_natCast, g]
      rfl
    · rw [hm]
      show (if (411 : Int) + 40 + w = 438 then _ else if (411 : Int) + 40 + w = 440 + w then _ else cC E w j) = _
      rw [if_neg (by omega), if_neg (by omega)]
      unfold cC
      rw [Int.toNat_natCast, g]
      rfl
  rw [canS_pl T Pg W hw C hi, plC_E C]
  rfl
