/-! numbers stay in their ranges; the heap only grows -/
def gd (v : aV) : Prop := (v.1 = 0 → -2147483648 ≤ v.2 ∧ v.2 < 2147483648) ∧ (v.1 = 2 → -9223372036854775808 ≤ v.2 ∧ v.2 < 9223372036854775808)
def gds (l : List aV) : Prop := ∀ v ∈ l, gd v
def gdc (c : aC) : Prop := ∀ (k : Nat) (z : Int), c.2[k]? = some z → gd (tgC c.1 k, z)
def gdh (hp : aH) : Prop := ∀ c ∈ hp, gdc c
def tot (hp : aH) : Nat := (hp.map fun c => c.2.length).sum
theorem wr_in (x : Int) : -2147483648 ≤ wr x ∧ wr x < 2147483648 := by
  unfold wr
  constructor
  · have := Int.le_bmod (x := x) (m := 4294967296) (by decide); omega
  · have := Int.bmod_lt (x := x) (m := 4294967296) (by decide); omega
theorem wl_in (x : Int) : -9223372036854775808 ≤ wl x ∧ wl x < 9223372036854775808 := by
  unfold wl
  constructor
  · have := Int.le_bmod (x := x) (m := 18446744073709551616) (by decide); omega
  · have := Int.bmod_lt (x := x) (m := 18446744073709551616) (by decide); omega
theorem i32_in (z : Int32) : -2147483648 ≤ z.toInt ∧ z.toInt < 2147483648 := by
  have h1 := z.le_toInt
  have h2 := z.toInt_lt
  omega
theorem i64_in (z : Int64) : -9223372036854775808 ≤ z.toInt ∧ z.toInt < 9223372036854775808 := by
  have h1 := z.le_toInt
  have h2 := z.toInt_lt
  omega
theorem wr_id {x : Int} (h : -2147483648 ≤ x ∧ x < 2147483648) : wr x = x := by
  unfold wr
  exact Int.bmod_eq_of_le (by omega) (by omega)
theorem wl_id {x : Int} (h : -9223372036854775808 ≤ x ∧ x < 9223372036854775808) : wl x = x := by
  unfold wl
  exact Int.bmod_eq_of_le (by omega) (by omega)
theorem i3_wr (x : Int) : i3 (wr x) = i3 x := by
  unfold i3 wr
  apply Int32.toInt_inj.mp
  rw [Int32.toInt_ofInt, Int32.toInt_ofInt]
  exact Int.bmod_bmod
theorem i6_wl (x : Int) : i6 (wl x) = i6 x := by
  unfold i6 wl
  apply Int64.toInt_inj.mp
  rw [Int64.toInt_ofInt, Int64.toInt_ofInt]
  exact Int.bmod_bmod
theorem i3_toInt (z : Int32) : i3 z.toInt = z := Int32.ofInt_toInt z
theorem i6_toInt (z : Int64) : i6 z.toInt = z := Int64.ofInt_toInt z
theorem i3_in {x : Int} (h : -2147483648 ≤ x ∧ x < 2147483648) : (i3 x).toInt = x := by
  unfold i3
  rw [Int32.toInt_ofInt]
  exact Int.bmod_eq_of_le (by show -((4294967296 : Nat) / 2 : Int) ≤ x; omega) (by show x < ((4294967296 : Nat) + 1) / 2; omega)
theorem i6_in {x : Int} (h : -9223372036854775808 ≤ x ∧ x < 9223372036854775808) : (i6 x).toInt = x := by
  unfold i6
  rw [Int64.toInt_ofInt]
  exact Int.bmod_eq_of_le (by show -((18446744073709551616 : Nat) / 2 : Int) ≤ x; omega) (by show x < ((18446744073709551616 : Nat) + 1) / 2; omega)
theorem gd_int {x : Int} (h : -2147483648 ≤ x ∧ x < 2147483648) : gd (0, x) := ⟨fun _ => h, (fun e => nomatch (show (0 : Nat) = 2 from e))⟩
theorem gd_long {x : Int} (h : -9223372036854775808 ≤ x ∧ x < 9223372036854775808) : gd (2, x) := ⟨(fun e => nomatch (show (2 : Nat) = 0 from e)), fun _ => h⟩
theorem gd_oth {t : Nat} {x : Int} (h0 : t ≠ 0) (h2 : t ≠ 2) : gd (t, x) := ⟨fun h => absurd h h0, fun h => absurd h h2⟩
theorem gds_cons {v : aV} {l : List aV} : gds (v :: l) ↔ gd v ∧ gds l := by unfold gds; simp
theorem gds_nil : gds [] := fun _ h => absurd h List.not_mem_nil
theorem gds_app {a b : List aV} : gds (a ++ b) ↔ gds a ∧ gds b := by
  unfold gds
  simp only [List.mem_append]
  exact ⟨fun h => ⟨fun v q => h v (Or.inl q), fun v q => h v (Or.inr q)⟩, fun h v q => q.elim (h.1 v) (h.2 v)⟩
theorem gds_set {l : List aV} {i : Nat} {v : aV} (h : gds l) (hv : gd v) : gds (l.set i v) := fun w hw => (List.mem_or_eq_of_mem_set hw).elim (h w) (fun e => e ▸ hv)
theorem cellAt_mem {hp : aH} {x : Int} {c : aC} (h : cellAt hp x = some c) : c ∈ hp := by
  unfold cellAt at h
  split at h
  · exact List.mem_of_getElem? h
  · cases h
theorem gdh_put {hp : aH} {x : Int} {sh : Nat} {l : List Int} {k : Nat} {z : Int} (h : gdh hp) (hc : cellAt hp x = some (sh, l)) (hz : gd (tgC sh k, z)) : gdh (putAt hp x (sh, l.set k z)) := by
  intro c hcm
  rcases List.mem_or_eq_of_mem_set hcm with hm | he
  · exact h c hm
  · subst he
    intro j w hw
    have hw' : (l.set k z)[j]? = some w := hw
    rw [List.getElem?_set] at hw'
    split at hw'
    · next e =>
      subst e
      split at hw'
      · cases hw'
        exact hz
      · cases hw'
    · exact h (sh, l) (cellAt_mem hc) j w hw'
theorem gdh_get {hp : aH} {x : Int} {sh : Nat} {l : List Int} {k : Nat} {z : Int} (h : gdh hp) (hc : cellAt hp x = some (sh, l)) (hz : l[k]? = some z) : gd (tgC sh k, z) := h _ (cellAt_mem hc) k z hz
theorem put_len (hp : aH) (x : Int) (c : aC) : (putAt hp x c).length = hp.length := List.length_set
theorem tot_set (hp : aH) : ∀ (i : Nat) (c d : aC), hp[i]? = some c → c.2.length = d.2.length → tot (hp.set i d) = tot hp := by
  unfold tot
  induction hp with
  | nil => intro i c d h; simp at h
  | cons a r ih =>
    intro i c d h e
    cases i with
    | zero =>
      simp only [List.getElem?_cons_zero, Option.some.injEq] at h
      subst h
      simp [e]
    | succ i =>
      simp only [List.getElem?_cons_succ] at h
      simp only [List.set_cons_succ, List.map_cons, List.sum_cons]
      rw [ih i c d h e]
theorem put_tot {hp : aH} {x : Int} {c d : aC} (h : cellAt hp x = some c) (e : c.2.length = d.2.length) : tot (putAt hp x d) = tot hp := by
  unfold cellAt at h
  split at h
  · exact tot_set hp _ c d h e
  · cases h
theorem tot_app (a b : aH) : tot (a ++ b) = tot a + tot b := by simp [tot]
theorem tgC_lt {sh k : Nat} (h : sh < 20) : tgC sh k = tgA sh := by simp [tgC, h]
theorem tgC_ge (ci k : Nat) : tgC (20 + ci) k = ftag ci k := by
  unfold tgC
  rw [if_neg (by omega), show 20 + ci - 20 = ci by omega]
theorem tok_gd {t : Nat} {w : aV} (h : tok t w = true) : (t = 0 → w.1 = 0) ∧ (t = 2 → w.1 = 2) ∧ (t ≠ 0 → t ≠ 2 → w.1 ≠ 0 ∧ w.1 ≠ 2 ∧ w.1 ≠ 9) := by
  unfold tok at h
  split at h
  · exact ⟨fun _ => by simpa using h, fun h => by omega, fun h => absurd rfl h⟩
  · exact ⟨fun h => by omega, fun _ => by simpa using h, fun _ h => absurd rfl h⟩
  · next h1 h2 =>
    refine ⟨fun e => absurd e h1, fun e => absurd e h2, fun _ _ => ?_⟩
    simp at h
    omega
