def okz (hp : aH) (z : Nat × List aV × List aV × aH) : Prop := gds z.2.1 ∧ gds z.2.2.1 ∧ gdh z.2.2.2 ∧ hp.length ≤ z.2.2.2.length ∧ tot hp ≤ tot z.2.2.2
theorem okz_same {hp : aH} {np : Nat} {ls st : List aV} (h1 : gds ls) (h2 : gds st) (h3 : gdh hp) : okz hp (np, ls, st, hp) := ⟨h1, h2, h3, Nat.le_refl _, Nat.le_refl _⟩
theorem ldS_ok {hp : aH} {ls st : List aV} {np t i : Nat} {z : Nat × List aV × List aV × aH} (h : ldS hp ls st np t i = some z) (h1 : gds ls) (h2 : gds st) (h3 : gdh hp) : okz hp z := by
  obtain ⟨w, e1, e2, rfl⟩ := ldS_inv h
  exact okz_same h1 (gds_cons.mpr ⟨h1 w (List.mem_of_getElem? e1), h2⟩) h3
theorem stS_ok {hp : aH} {ls st : List aV} {np t i : Nat} {z : Nat × List aV × List aV × aH} (h : stS hp ls st np t i = some z) (h1 : gds ls) (h2 : gds st) (h3 : gdh hp) : okz hp z := by
  obtain ⟨w, st', rfl, e2, e3, hh⟩ := stS_inv h
  obtain ⟨hw, h2⟩ := gds_cons.mp h2
  rcases hh with ⟨-, -, rfl⟩ | ⟨-, rfl⟩
  · exact okz_same (gds_set (gds_set h1 hw) (gd_oth (by decide) (by decide))) h2 h3
  · exact okz_same (gds_set h1 hw) h2 h3
theorem op2_ok {hp : aH} {ls st : List aV} {np : Nat} {f : Int → Int → Option Int} {z : Nat × List aV × List aV × aH} (hf : ∀ x y r, f x y = some r → -2147483648 ≤ r ∧ r < 2147483648) (h : op2 hp ls st np f = some z) (h1 : gds ls) (h2 : gds st) (h3 : gdh hp) : okz hp z := by
  obtain ⟨x, y, st', r, rfl, e2, rfl⟩ := op2_inv h
  exact okz_same h1 (gds_cons.mpr ⟨gd_int (hf x y r e2), (gds_cons.mp (gds_cons.mp h2).2).2⟩) h3
theorem op2L_ok {hp : aH} {ls st : List aV} {np t : Nat} {f : Int → Int → Option Int} {z : Nat × List aV × List aV × aH} (hf : ∀ x y r, f x y = some r → gd (t, r)) (h : op2L hp ls st np t f = some z) (h1 : gds ls) (h2 : gds st) (h3 : gdh hp) : okz hp z := by
  obtain ⟨x, y, st', r, rfl, e2, rfl⟩ := op2L_inv h
  exact okz_same h1 (gds_cons.mpr ⟨hf x y r e2, (gds_cons.mp (gds_cons.mp h2).2).2⟩) h3
theorem op1_ok {hp : aH} {ls st : List aV} {np t u : Nat} {f : Int → Int} {z : Nat × List aV × List aV × aH} (hf : ∀ x, gd (t, x) → gd (u, f x)) (h : op1 hp ls st np t u f = some z) (h1 : gds ls) (h2 : gds st) (h3 : gdh hp) : okz hp z := by
  obtain ⟨x, st', rfl, rfl⟩ := op1_inv h
  exact okz_same h1 (gds_cons.mpr ⟨hf x (gds_cons.mp h2).1, (gds_cons.mp h2).2⟩) h3
theorem jmp_ok {hp : aH} {ls st : List aV} {pc : Nat} {off : Int} {z : Nat × List aV × List aV × aH} (h : jmp hp ls st pc off = some z) (h1 : gds ls) (h2 : gds st) (h3 : gdh hp) : okz hp z := by
  obtain ⟨tgt, -, rfl⟩ := jmp_inv h
  exact okz_same h1 h2 h3
theorem if1_ok {hp : aH} {ls st : List aV} {pc : Nat} {c : ClassFile.Cond} {off : Int} {z : Nat × List aV × List aV × aH} (h : if1 hp ls st pc c off = some z) (h1 : gds ls) (h2 : gds st) (h3 : gdh hp) : okz hp z := by
  obtain ⟨x, st', tgt, rfl, -, rfl⟩ := if1_inv h
  exact okz_same h1 (gds_cons.mp h2).2 h3
theorem if2_ok {hp : aH} {ls st : List aV} {pc : Nat} {c : ClassFile.Cond} {off : Int} {z : Nat × List aV × List aV × aH} (h : if2 hp ls st pc c off = some z) (h1 : gds ls) (h2 : gds st) (h3 : gdh hp) : okz hp z := by
  obtain ⟨x, y, st', tgt, rfl, -, rfl⟩ := if2_inv h
  exact okz_same h1 (gds_cons.mp (gds_cons.mp h2).2).2 h3
theorem swT_ok {hp : aH} {ls st : List aV} {pc : Nat} {d lo hi : Int} {offs : Array Int} {z : Nat × List aV × List aV × aH} (h : swT hp ls st pc d lo hi offs = some z) (h1 : gds ls) (h2 : gds st) (h3 : gdh hp) : okz hp z := by
  obtain ⟨x, st', rfl, hh⟩ := swT_inv h
  obtain ⟨-, h2⟩ := gds_cons.mp h2
  rcases hh with ⟨-, h⟩ | ⟨-, -, off, -, h⟩ <;> exact jmp_ok h h1 h2 h3
theorem swL_ok {hp : aH} {ls st : List aV} {pc : Nat} {d : Int} {ps : Array (Int × Int)} {z : Nat × List aV × List aV × aH} (h : swL hp ls st pc d ps = some z) (h1 : gds ls) (h2 : gds st) (h3 : gdh hp) : okz hp z := by
  obtain ⟨x, st', rfl, -, hh⟩ := swL_inv h
  exact jmp_ok hh h1 (gds_cons.mp h2).2 h3
theorem gfS_ok {hp : aH} {ls st : List aV} {np ci k : Nat} {z : Nat × List aV × List aV × aH} (h : gfS hp ls st np ci k = some z) (h1 : gds ls) (h2 : gds st) (h3 : gdh hp) : okz hp z := by
  rcases gfS_inv h with ⟨a, st', l, w, rfl, e1, e2, rfl⟩ | ⟨i, st', rfl, -, hh⟩
  · have hg := gdh_get h3 e1 e2
    rw [tgC_ge] at hg
    exact okz_same h1 (gds_cons.mpr ⟨hg, (gds_cons.mp h2).2⟩) h3
  · rcases hh with ⟨-, rfl⟩ | ⟨-, rfl⟩
    · exact okz_same h1 (gds_cons.mpr ⟨gd_int (by decide), (gds_cons.mp h2).2⟩) h3
    · exact okz_same h1 (gds_cons.mpr ⟨gd_oth (by decide) (by decide), (gds_cons.mp h2).2⟩) h3
theorem put_ok {hp : aH} {ls st : List aV} {np : Nat} {a : Int} {sh : Nat} {l : List Int} {k : Nat} {w : Int} (hc : cellAt hp a = some (sh, l)) (hw : gd (tgC sh k, w)) (h1 : gds ls) (h2 : gds st) (h3 : gdh hp) : okz hp (np, ls, st, putAt hp a (sh, l.set k w)) :=
  ⟨h1, h2, gdh_put h3 hc hw, by rw [put_len]; exact Nat.le_refl _, by rw [put_tot hc (by simp)]; exact Nat.le_refl _⟩
theorem pfS_ok {hp : aH} {ls st : List aV} {np ci k : Nat} {z : Nat × List aV × List aV × aH} (h : pfS hp ls st np ci k = some z) (h1 : gds ls) (h2 : gds st) (h3 : gdh hp) : okz hp z := by
  obtain ⟨w, a, st', l, rfl, e1, e2, e3, rfl⟩ := pfS_inv h
  exact put_ok e1 (by rw [tgC_ge]; exact (gds_cons.mp h2).1) h1 (gds_cons.mp (gds_cons.mp h2).2).2 h3
theorem alS_ok {hp : aH} {ls st : List aV} {np t lo hi : Nat} {z : Nat × List aV × List aV × aH} (ht : ∀ sh, lo ≤ sh → sh ≤ hi → sh < 20 ∧ t = tgA sh) (h : alS hp ls st np t lo hi = some z) (h1 : gds ls) (h2 : gds st) (h3 : gdh hp) : okz hp z := by
  obtain ⟨j, a, st', sh, l, w, rfl, e1, e2, e3, e4, e5, rfl⟩ := alS_inv h
  have hg := gdh_get h3 e1 e5
  rw [tgC_lt (ht sh e2 e3).1, ← (ht sh e2 e3).2] at hg
  exact okz_same h1 (gds_cons.mpr ⟨hg, (gds_cons.mp (gds_cons.mp h2).2).2⟩) h3
theorem getD_all {P : Int → Prop} (l : List Int) (j : Nat) (h : ∀ x ∈ l, P x) (h0 : P 0) : P (l.getD j 0) := by
  rw [List.getD_eq_getElem?_getD]
  cases e : l[j]? with
  | none => exact h0
  | some x => exact h x (List.mem_of_getElem? e)
theorem sbyt_in (i : Int) (j : Nat) : 0 ≤ sbyt i j ∧ sbyt i j < 128 := by
  unfold sbyt
  split
  · exact getD_all (P := fun x => 0 ≤ x ∧ x < 128) sby0 j (by decide +kernel) (by decide)
  · exact getD_all (P := fun x => 0 ≤ x ∧ x < 128) sby1 j (by decide +kernel) (by decide)
theorem blS_ok {hp : aH} {ls st : List aV} {np : Nat} {z : Nat × List aV × List aV × aH} (h : blS hp ls st np = some z) (h1 : gds ls) (h2 : gds st) (h3 : gdh hp) : okz hp z := by
  rcases blS_inv h with ⟨j, i, st', rfl, e1, e2, e3, rfl⟩ | h
  · have hb := sbyt_in i j.toNat
    exact okz_same h1 (gds_cons.mpr ⟨gd_int (by omega), (gds_cons.mp (gds_cons.mp h2).2).2⟩) h3
  · exact alS_ok (fun sh a b => by have : sh = 2 := by omega
                                   subst this; exact ⟨by decide, rfl⟩) h h1 h2 h3
theorem asS_ok {hp : aH} {ls st : List aV} {np t sh0 : Nat} {z : Nat × List aV × List aV × aH} (ht : sh0 < 20 ∧ t = tgA sh0) (h : asS hp ls st np t sh0 = some z) (h1 : gds ls) (h2 : gds st) (h3 : gdh hp) : okz hp z := by
  obtain ⟨w, j, a, st', l, rfl, e1, e2, e3, e4, rfl⟩ := asS_inv h
  exact put_ok e1 (by rw [tgC_lt ht.1, ← ht.2]; exact (gds_cons.mp h2).1) h1 (gds_cons.mp (gds_cons.mp (gds_cons.mp h2).2).2).2 h3
theorem arS_ok {hp : aH} {ls st : List aV} {np : Nat} {z : Nat × List aV × List aV × aH} (h : arS hp ls st np = some z) (h1 : gds ls) (h2 : gds st) (h3 : gdh hp) : okz hp z := by
  obtain ⟨w, j, a, st', sh, l, lv, rfl, e1, e2, e3, e4, e5, rfl⟩ := arS_inv h
  refine put_ok e1 ?_ h1 (gds_cons.mp (gds_cons.mp (gds_cons.mp h2).2).2).2 h3
  rw [tgC_lt (by omega)]
  rcases e3 with rfl | rfl | rfl | rfl <;> exact gd_oth (by decide) (by decide)
theorem anS_ok {hp : aH} {ls st : List aV} {np : Nat} {z : Nat × List aV × List aV × aH} (hl : ∀ c ∈ hp, c.2.length < 2147483648) (h : anS hp ls st np = some z) (h1 : gds ls) (h2 : gds st) (h3 : gdh hp) : okz hp z := by
  rcases anS_inv h with ⟨a, st', sh, l, rfl, e1, e2, rfl⟩ | ⟨i, st', rfl, e1, rfl⟩
  · have := hl _ (cellAt_mem e1)
    exact okz_same h1 (gds_cons.mpr ⟨gd_int (by simp only at this ⊢; omega), (gds_cons.mp h2).2⟩) h3
  · refine okz_same h1 (gds_cons.mpr ⟨gd_int ?_, (gds_cons.mp h2).2⟩) h3
    rcases e1 with rfl | rfl <;> decide
theorem gdc_zero (sh n : Nat) : gdc (sh, List.replicate n 0) := by
  intro k z hz
  have hz' : (List.replicate n (0 : Int))[k]? = some z := hz
  have := List.eq_of_mem_replicate (List.mem_of_getElem? hz')
  subst this
  exact ⟨(fun _ => ⟨by show (-2147483648 : Int) ≤ 0; decide, by show (0 : Int) < 2147483648; decide⟩), (fun _ => ⟨by show (-9223372036854775808 : Int) ≤ 0; decide, by show (0 : Int) < 9223372036854775808; decide⟩)⟩
theorem push_ok {hp : aH} {ls st : List aV} {np : Nat} {x : Int} (cs : aH) (hc : gdh cs) (h1 : gds ls) (h2 : gds st) (h3 : gdh hp) : okz hp (np, ls, (1, x) :: st, hp ++ cs) :=
  ⟨h1, gds_cons.mpr ⟨gd_oth (by decide) (by decide), h2⟩, fun c h => (List.mem_append.mp h).elim (h3 c) (hc c), by simp, by rw [tot_app]; exact Nat.le_add_right _ _⟩
theorem naS_ok {hp : aH} {ls st : List aV} {np sh : Nat} {z : Nat × List aV × List aV × aH} (h : naS hp ls st np sh = some z) (h1 : gds ls) (h2 : gds st) (h3 : gdh hp) : okz hp z := by
  obtain ⟨n, st', rfl, e1, e2, rfl⟩ := naS_inv h
  exact push_ok _ (fun c h => by rw [List.mem_singleton.mp h]; exact gdc_zero _ _) h1 (gds_cons.mp h2).2 h3
theorem nwS_ok {hp : aH} {ls st : List aV} {np ci : Nat} {z : Nat × List aV × List aV × aH} (h : nwS hp ls st np ci = some z) (h1 : gds ls) (h2 : gds st) (h3 : gdh hp) : okz hp z := by
  cases h
  exact push_ok _ (fun c h => by rw [List.mem_singleton.mp h]; exact gdc_zero _ _) h1 h2 h3
theorem nmS_ok {hp : aH} {ls st : List aV} {np sh : Nat} {z : Nat × List aV × List aV × aH} (hs : sh = 6 ∨ sh = 7) (h : nmS hp ls st np sh = some z) (h1 : gds ls) (h2 : gds st) (h3 : gdh hp) : okz hp z := by
  obtain ⟨n, k, st', rfl, e1, e2, e3, e4, rfl⟩ := nmS_inv h
  refine push_ok _ (fun c h => ?_) h1 (gds_cons.mp (gds_cons.mp h2).2).2 h3
  rcases List.mem_cons.mp h with rfl | h
  · intro k z hz
    rw [show tgC sh k = 1 by rcases hs with rfl | rfl <;> rfl]; exact gd_oth (by decide) (by decide)
  · rw [List.eq_of_mem_replicate h]; exact gdc_zero _ _
/-- rows are not too long -/
def hlen (hp : aH) : Prop := ∀ c ∈ hp, c.2.length ≤ 60000
theorem inI_iff {n : Int} : inI n = true ↔ -2147483648 ≤ n ∧ n < 2147483648 := by simp [inI]
theorem cmp_in (c : Prop) [Decidable c] (d : Prop) [Decidable d] : gd (0, if c then 1 else if d then 0 else -1) := by
  split
  · exact gd_int (by decide)
  · split <;> exact gd_int (by decide)
theorem stp_ok {al : Bool} {hp : aH} {ls st : List aV} {pc : Nat} {q : aI} {z : Nat × List aV × List aV × aH} (hm : ∀ i d, q.1 = .multianewarray i d → q.2.2.1 = 6 ∨ q.2.2.1 = 7) (hl : hlen hp) (h : stp1 al hp ls st pc q = some z) (h1 : gds ls) (h2 : gds st) (h3 : gdh hp) : okz hp z := by
  have hl' : ∀ c ∈ hp, c.2.length < 2147483648 := fun c hc => by have := hl c hc; omega
  have bi : ∀ (f : Int32 → Int32 → Int32) (x y r : Int), some (bI f x y) = some r → -2147483648 ≤ r ∧ r < 2147483648 := fun f x y r e => by cases e; exact i32_in _
  have bl : ∀ (f : Int64 → Int64 → Int64) (x y r : Int), some (bL f x y) = some r → gd (2, r) := fun f x y r e => by cases e; exact gd_long (i64_in _)
  unfold stp1 at h
  split at h
  · obtain ⟨a, h⟩ := oif_inv h; cases h; exact okz_same h1 (gds_cons.mpr ⟨gd_int (inI_iff.mp a), h2⟩) h3
  · obtain ⟨a, h⟩ := oif_inv h; cases h; simp at a; exact okz_same h1 (gds_cons.mpr ⟨gd_int (by omega), h2⟩) h3
  · obtain ⟨a, h⟩ := oif_inv h; cases h; simp at a; exact okz_same h1 (gds_cons.mpr ⟨gd_int (by omega), h2⟩) h3
  · next k _ => cases h; have := k.isLt; exact okz_same h1 (gds_cons.mpr ⟨gd_long (by omega), h2⟩) h3
  · obtain ⟨a, h⟩ := oif_inv h
    cases h
    refine okz_same h1 (gds_cons.mpr ⟨?_, h2⟩) h3
    simp only [Bool.or_eq_true, beq_iff_eq, Bool.and_eq_true] at a
    rcases a with a | ⟨a, b⟩
    · rw [a]; exact gd_oth (by decide) (by decide)
    · rw [a]; exact gd_int (inI_iff.mp b)
  · obtain ⟨a, h⟩ := oif_inv h
    cases h
    refine okz_same h1 (gds_cons.mpr ⟨?_, h2⟩) h3
    simp only [Bool.or_eq_true, beq_iff_eq, Bool.and_eq_true] at a
    rcases a with a | ⟨a, b⟩
    · rw [a]; exact gd_oth (by decide) (by decide)
    · rw [a]; exact gd_int (inI_iff.mp b)
  · obtain ⟨a, h⟩ := oif_inv h; cases h; simp at a; exact okz_same h1 (gds_cons.mpr ⟨gd_long (by omega), h2⟩) h3
  · exact ldS_ok h h1 h2 h3
  · exact ldS_ok h h1 h2 h3
  · exact ldS_ok h h1 h2 h3
  · exact ldS_ok h h1 h2 h3
  · exact ldS_ok h h1 h2 h3
  · exact ldS_ok h h1 h2 h3
  · exact stS_ok h h1 h2 h3
  · exact stS_ok h h1 h2 h3
  · exact stS_ok h h1 h2 h3
  · exact stS_ok h h1 h2 h3
  · exact stS_ok h h1 h2 h3
  · exact stS_ok h h1 h2 h3
  · split at h
    · obtain ⟨a, h⟩ := oif_inv h; cases h; exact okz_same (gds_set h1 (gd_int (wr_in _))) h2 h3
    · cases h
  · exact op2_ok (fun x y r e => by cases e; exact wr_in _) h h1 h2 h3
  · exact op2_ok (fun x y r e => by cases e; exact wr_in _) h h1 h2 h3
  · exact op2_ok (fun x y r e => by cases e; exact wr_in _) h h1 h2 h3
  · exact op2_ok (fun x y r e => by split at e; · cases e
                                    · exact bi _ x y r e) h h1 h2 h3
  · exact op2_ok (fun x y r e => by split at e; · cases e
                                    · exact bi _ x y r e) h h1 h2 h3
  · exact op2_ok (fun x y r e => bi _ x y r e) h h1 h2 h3
  · exact op2_ok (fun x y r e => bi _ x y r e) h h1 h2 h3
  · exact op2_ok (fun x y r e => bi _ x y r e) h h1 h2 h3
  · exact op2_ok (fun x y r e => bi _ x y r e) h h1 h2 h3
  · exact op2_ok (fun x y r e => bi _ x y r e) h h1 h2 h3
  · exact op2L_ok (fun x y r e => by cases e; exact gd_long (wl_in _)) h h1 h2 h3
  · exact op2L_ok (fun x y r e => by cases e; exact gd_long (wl_in _)) h h1 h2 h3
  · exact op2L_ok (fun x y r e => by cases e; exact gd_long (wl_in _)) h h1 h2 h3
  · exact op2L_ok (fun x y r e => by split at e; · cases e
                                     · exact bl _ x y r e) h h1 h2 h3
  · exact op2L_ok (fun x y r e => by split at e; · cases e
                                     · exact bl _ x y r e) h h1 h2 h3
  · exact op2L_ok (fun x y r e => bl _ x y r e) h h1 h2 h3
  · exact op2L_ok (fun x y r e => by cases e; exact cmp_in _ _) h h1 h2 h3
  · split at h
    · cases h; exact okz_same h1 (gds_cons.mpr ⟨gd_long (i64_in _), (gds_cons.mp (gds_cons.mp h2).2).2⟩) h3
    · cases h
  · exact op1_ok (fun x e => by have := e.1 rfl; simp only at this; exact gd_long (by omega)) h h1 h2 h3
  · exact op1_ok (fun x e => gd_int (wr_in _)) h h1 h2 h3
  · exact op1_ok (fun x e => gd_int (i32_in _)) h h1 h2 h3
  · exact op1_ok (fun x e => gd_int (i32_in _)) h h1 h2 h3
  · split at h
    · obtain ⟨a, h⟩ := oif_inv h; cases h; obtain ⟨a1, a2⟩ := gds_cons.mp h2; exact okz_same h1 (gds_cons.mpr ⟨a1, gds_cons.mpr ⟨a1, a2⟩⟩) h3
    · cases h
  · split at h
    · obtain ⟨a, h⟩ := oif_inv h; cases h; obtain ⟨a1, a2⟩ := gds_cons.mp h2; obtain ⟨a3, a4⟩ := gds_cons.mp a2
      exact okz_same h1 (gds_cons.mpr ⟨a1, gds_cons.mpr ⟨a3, h2⟩⟩) h3
    · cases h
  · split at h
    · obtain ⟨a, h⟩ := oif_inv h; cases h; exact okz_same h1 (gds_cons.mp h2).2 h3
    · cases h
  · exact if1_ok h h1 h2 h3
  · exact if2_ok h h1 h2 h3
  · exact jmp_ok h h1 h2 h3
  · exact swT_ok h h1 h2 h3
  · exact swL_ok h h1 h2 h3
  · exact gfS_ok h h1 h2 h3
  · exact pfS_ok h h1 h2 h3
  · obtain ⟨a, h⟩ := oif_inv h
    cases h
    refine okz_same h1 (gds_cons.mpr ⟨?_, h2⟩) h3
    simp only [Bool.or_eq_true, beq_iff_eq, Bool.and_eq_true] at a
    rcases a with ⟨a, b⟩ | a
    · rw [a, b]; exact gd_int (by decide)
    · rw [a]; exact gd_oth (by decide) (by decide)
  · exact alS_ok (fun sh a b => by have : sh = 0 := by omega
                                   subst this; exact ⟨by decide, rfl⟩) h h1 h2 h3
  · exact alS_ok (fun sh a b => by have : sh = 1 := by omega
                                   subst this; exact ⟨by decide, rfl⟩) h h1 h2 h3
  · exact blS_ok h h1 h2 h3
  · exact alS_ok (fun sh a b => ⟨by omega, by unfold tgA; rw [if_neg (by omega), if_neg (by omega)]⟩) h h1 h2 h3
  · exact asS_ok (t := 0) (sh0 := 0) ⟨by decide, rfl⟩ h h1 h2 h3
  · exact asS_ok (t := 2) (sh0 := 1) ⟨by decide, rfl⟩ h h1 h2 h3
  · exact asS_ok (t := 0) (sh0 := 2) ⟨by decide, rfl⟩ h h1 h2 h3
  · exact arS_ok h h1 h2 h3
  · exact anS_ok hl' h h1 h2 h3
  · obtain ⟨a, h⟩ := oif_inv h; exact nwS_ok h h1 h2 h3
  · obtain ⟨a, h⟩ := oif_inv h; exact naS_ok h h1 h2 h3
  · obtain ⟨a, h⟩ := oif_inv h; exact naS_ok h h1 h2 h3
  · next i d e => obtain ⟨a, h⟩ := oif_inv h; exact nmS_ok (hm i d e) h h1 h2 h3
  · cases h
