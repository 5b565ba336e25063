theorem e_i2l {x : Int} (hx : -2147483648 ≤ x ∧ x < 2147483648) : (i3 x).toInt64 = i6 x := by
  apply Int64.toInt_inj.mp
  rw [Int32.toInt_toInt64, i3_in hx, i6_in (by omega)]
theorem e_l2i (x : Int) : (i6 x).toInt32 = i3 (wr x) := by
  rw [i3_wr]
  unfold i6 i3
  exact Int64.toInt32_ofInt
/-! the simple instructions, and all of stp1 together: printed by wip/whole/gen13.py -/
section SND
variable {p : Program} {l : Launch} {e : Env} {R : Room} {s : State} {m : MethodId} {args : Array Value} {below : List Frame} {meth : Method} {c : Code} {H : Heap} {locs : List Loc} {cells slots : Nat} {Q : State → Prop} {G : aG} {M : Nat} {al : Bool}
variable {pc : Nat} {ls st : List aV} {lsA : Array Slot} {hp : aH} {z : Nat × List aV × List aV × aH}
theorem tok_int {w : aV} (h : tok 0 w = true) : ∃ x, w = (0, x) := by
  obtain ⟨t, x⟩ := w
  simp only [tok, beq_iff_eq] at h
  subst h
  exact ⟨x, rfl⟩
theorem tok_long {w : aV} (h : tok 2 w = true) : ∃ x, w = (2, x) := by
  obtain ⟨t, x⟩ := w
  simp only [tok, beq_iff_eq] at h
  subst h
  exact ⟨x, rfl⟩
theorem tok_ref {w : aV} (h : tok 1 w = true) : w.1 ≠ 9 ∧ w.1 ≠ 2 ∧ ∃ r, cv G w = .ref r := by
  obtain ⟨t, x⟩ := w
  simp only [tok, Bool.or_eq_true, Bool.and_eq_true, beq_iff_eq, decide_eq_true_eq] at h
  rcases h with (⟨h, h1⟩ | h) | h
  · subst h
    exact ⟨(by decide : (1 : Nat) ≠ 9), (by decide : (1 : Nat) ≠ 2), _, cv_ref h1⟩
  · subst h
    exact ⟨(by decide : (4 : Nat) ≠ 9), (by decide : (4 : Nat) ≠ 2), _, rfl⟩
  · subst h
    exact ⟨(by decide : (5 : Nat) ≠ 9), (by decide : (5 : Nat) ≠ 2), _, rfl⟩
theorem top_W {v : aV} {x : Value} {rest : List Value} {ls : Array Slot} (h : cv G v = x) (k : W p l e R s m args below meth c H locs cells slots Q (F0 m pc ls (cv G v :: rest))) : W p l e R s m args below meth c H locs cells slots Q (F0 m pc ls (x :: rest)) := h ▸ k
theorem top_i {v : Int} {x : Int32} {rest : List Value} {ls : Array Slot} (h : i3 v = x) (k : W p l e R s m args below meth c H locs cells slots Q (F0 m pc ls (.int (i3 v) :: rest))) : W p l e R s m args below meth c H locs cells slots Q (F0 m pc ls (.int x :: rest)) := h ▸ k
theorem top_l {v : Int} {x : Int64} {rest : List Value} {ls : Array Slot} (h : i6 v = x) (k : W p l e R s m args below meth c H locs cells slots Q (F0 m pc ls (.long (i6 v) :: rest))) : W p l e R s m args below meth c H locs cells slots Q (F0 m pc ls (.long x :: rest)) := h ▸ k
theorem ldcw_S {cc : ByteArray} {ls : Array Slot} {rest : List Value} (hexec : p.tables.exec = Jvm.exec) (hb : c.code = cc) {own tx : String} {index q : Nat} (hown : s.vm.findClass own = some m.cls) (hZ : vk_R own index tx q s) (hdg : decode cc pc = .ok (.ldc_w index, 3)) (k : W p l e R s m args below meth c H locs cells slots Q (F0 m (pc + 3) ls (.ref q :: rest))) : W p l e R s m args below meth c H locs cells slots Q (F0 m pc ls rest) := by
  intro T hT X
  obtain ⟨t, a1, b1⟩ := k T hT X
  obtain ⟨k, cf, i, a', hk, hcf, hcp, -, hr, hev'⟩ := Cond.stringRef_spec hown hZ.1
  cases hZ.2.symm.trans hev'
  obtain ⟨k', hk', he⟩ := X.warmed.alike.2.2 _ _ hk
  have hr' : k'.resolved[index]? = some (some (.string q)) := by
    rcases X.warmed.entry hk hk' index with h | ⟨h, -⟩
    · rw [h]; exact hr
    · rw [hr] at h; cases h
  refine ⟨t, ?_, b1⟩
  subst hb
  jvm_step X.here [hexec, hdg, ldc_w.wp_string (e := e) (s := T) (f := F0 m pc ls rest) X.here.top hk' (by rw [he]; exact hcf) hcp hr']
  exact a1
theorem e_lt {x y : Int} (hx : -9223372036854775808 ≤ x ∧ x < 9223372036854775808) (hy : -9223372036854775808 ≤ y ∧ y < 9223372036854775808) : i3 (if y < x then 1 else if x = y then 0 else -1) = lg_cmp (i6 x) (i6 y) := by
  unfold lg_cmp
  simp only [i6_lt hy hx, i6_eq hx hy]
  split
  · rfl
  · split <;> rfl
theorem iload_nW {k : Fin 4} (C : Cx G p s m args meth c M) (hd : decode (mB M) pc = .ok (.iload_n k, 1)) (h : ldS hp ls st (pc + 1) 0 k.val = some z) (hl : lok G ls lsA (mL M)) (hP : reps G hp H) (hz : szk al G hp H) (hS : va_S (aA G) s.heap H locs) (K : KK p l e R s m args below meth c Q G M al cells slots hp z) : W p l e R s m args below meth c H locs cells slots Q (F0 m pc lsA (st.map (cv G))) := by
  obtain ⟨w, e1, e2, rfl⟩ := ldS_inv h
  obtain ⟨x, rfl⟩ := tok_int e2
  exact lv_iload_n C.1 C.2.1 hd rfl (lok_at hl e1 (by decide : (0 : Nat) ≠ 9)) (K lsA H locs cells slots hl hP hz hS rfl rfl)
theorem iload_W {i : Nat} (C : Cx G p s m args meth c M) (hd : decode (mB M) pc = .ok (.iload i, 2)) (h : ldS hp ls st (pc + 2) 0 i = some z) (hl : lok G ls lsA (mL M)) (hP : reps G hp H) (hz : szk al G hp H) (hS : va_S (aA G) s.heap H locs) (K : KK p l e R s m args below meth c Q G M al cells slots hp z) : W p l e R s m args below meth c H locs cells slots Q (F0 m pc lsA (st.map (cv G))) := by
  obtain ⟨w, e1, e2, rfl⟩ := ldS_inv h
  obtain ⟨x, rfl⟩ := tok_int e2
  exact lv_iload C.1 C.2.1 hd (lok_at hl e1 (by decide : (0 : Nat) ≠ 9)) (K lsA H locs cells slots hl hP hz hS rfl rfl)
theorem lload_nW {k : Fin 4} (C : Cx G p s m args meth c M) (hd : decode (mB M) pc = .ok (.lload_n k, 1)) (h : ldS hp ls st (pc + 1) 2 k.val = some z) (hl : lok G ls lsA (mL M)) (hP : reps G hp H) (hz : szk al G hp H) (hS : va_S (aA G) s.heap H locs) (K : KK p l e R s m args below meth c Q G M al cells slots hp z) : W p l e R s m args below meth c H locs cells slots Q (F0 m pc lsA (st.map (cv G))) := by
  obtain ⟨w, e1, e2, rfl⟩ := ldS_inv h
  obtain ⟨x, rfl⟩ := tok_long e2
  exact lv_lload_n C.1 C.2.1 hd rfl (lok_at hl e1 (by decide : (2 : Nat) ≠ 9)) (K lsA H locs cells slots hl hP hz hS rfl rfl)
theorem lload_W {i : Nat} (C : Cx G p s m args meth c M) (hd : decode (mB M) pc = .ok (.lload i, 2)) (h : ldS hp ls st (pc + 2) 2 i = some z) (hl : lok G ls lsA (mL M)) (hP : reps G hp H) (hz : szk al G hp H) (hS : va_S (aA G) s.heap H locs) (K : KK p l e R s m args below meth c Q G M al cells slots hp z) : W p l e R s m args below meth c H locs cells slots Q (F0 m pc lsA (st.map (cv G))) := by
  obtain ⟨w, e1, e2, rfl⟩ := ldS_inv h
  obtain ⟨x, rfl⟩ := tok_long e2
  exact lv_lload C.1 C.2.1 hd (lok_at hl e1 (by decide : (2 : Nat) ≠ 9)) (K lsA H locs cells slots hl hP hz hS rfl rfl)
theorem aload_nW {k : Fin 4} (C : Cx G p s m args meth c M) (hd : decode (mB M) pc = .ok (.aload_n k, 1)) (h : ldS hp ls st (pc + 1) 1 k.val = some z) (hl : lok G ls lsA (mL M)) (hP : reps G hp H) (hz : szk al G hp H) (hS : va_S (aA G) s.heap H locs) (K : KK p l e R s m args below meth c Q G M al cells slots hp z) : W p l e R s m args below meth c H locs cells slots Q (F0 m pc lsA (st.map (cv G))) := by
  obtain ⟨w, e1, e2, rfl⟩ := ldS_inv h
  obtain ⟨n9, -, r, hr⟩ := tok_ref (G := G) e2
  have hg := lok_at hl e1 n9
  rw [hr] at hg
  exact lv_aload_n C.1 C.2.1 hd rfl hg (top_W hr (K lsA H locs cells slots hl hP hz hS rfl rfl))
theorem aload_W {i : Nat} (C : Cx G p s m args meth c M) (hd : decode (mB M) pc = .ok (.aload i, 2)) (h : ldS hp ls st (pc + 2) 1 i = some z) (hl : lok G ls lsA (mL M)) (hP : reps G hp H) (hz : szk al G hp H) (hS : va_S (aA G) s.heap H locs) (K : KK p l e R s m args below meth c Q G M al cells slots hp z) : W p l e R s m args below meth c H locs cells slots Q (F0 m pc lsA (st.map (cv G))) := by
  obtain ⟨w, e1, e2, rfl⟩ := ldS_inv h
  obtain ⟨n9, -, r, hr⟩ := tok_ref (G := G) e2
  have hg := lok_at hl e1 n9
  rw [hr] at hg
  exact lv_aload C.1 C.2.1 hd hg (top_W hr (K lsA H locs cells slots hl hP hz hS rfl rfl))
theorem istore_nW {k : Fin 4} (C : Cx G p s m args meth c M) (hd : decode (mB M) pc = .ok (.istore_n k, 1)) (h : stS hp ls st (pc + 1) 0 k.val = some z) (hl : lok G ls lsA (mL M)) (hP : reps G hp H) (hz : szk al G hp H) (hS : va_S (aA G) s.heap H locs) (K : KK p l e R s m args below meth c Q G M al cells slots hp z) : W p l e R s m args below meth c H locs cells slots Q (F0 m pc lsA (st.map (cv G))) := by
  obtain ⟨w, st', rfl, e1, e2, e3⟩ := stS_inv h
  obtain ⟨x, rfl⟩ := tok_int e1
  rcases e3 with ⟨e3, -⟩ | ⟨-, rfl⟩
  · exact absurd e3 (by decide)
  exact lv_istore_n C.1 C.2.1 hd rfl hl.2 (by rw [← hl.1]; exact lsok_lt e2) rfl (fun ls' hl' => K ls' H locs cells slots (lok_set1 hl e2 hl') hP hz hS rfl rfl)
theorem lstore_nW {k : Fin 4} (C : Cx G p s m args meth c M) (hd : decode (mB M) pc = .ok (.lstore_n k, 1)) (h : stS hp ls st (pc + 1) 2 k.val = some z) (hl : lok G ls lsA (mL M)) (hP : reps G hp H) (hz : szk al G hp H) (hS : va_S (aA G) s.heap H locs) (K : KK p l e R s m args below meth c Q G M al cells slots hp z) : W p l e R s m args below meth c H locs cells slots Q (F0 m pc lsA (st.map (cv G))) := by
  obtain ⟨w, st', rfl, e1, e2, e3⟩ := stS_inv h
  obtain ⟨x, rfl⟩ := tok_long e1
  rcases e3 with ⟨-, e4, rfl⟩ | ⟨e3, -⟩
  · exact lv_lstore_n C.1 C.2.1 hd rfl hl.2 (by rw [← hl.1]; exact e4) rfl (fun ls' hl' => K ls' H locs cells slots (lok_set2 hl e2 hl') hP hz hS rfl rfl)
  · exact absurd rfl e3
theorem astore_nW {k : Fin 4} (C : Cx G p s m args meth c M) (hd : decode (mB M) pc = .ok (.astore_n k, 1)) (h : stS hp ls st (pc + 1) 1 k.val = some z) (hl : lok G ls lsA (mL M)) (hP : reps G hp H) (hz : szk al G hp H) (hS : va_S (aA G) s.heap H locs) (K : KK p l e R s m args below meth c Q G M al cells slots hp z) : W p l e R s m args below meth c H locs cells slots Q (F0 m pc lsA (st.map (cv G))) := by
  obtain ⟨w, st', rfl, e1, e2, e3⟩ := stS_inv h
  obtain ⟨n9, n2, r, hr⟩ := tok_ref (G := G) e1
  rcases e3 with ⟨e3, -⟩ | ⟨-, rfl⟩
  · exact absurd e3 (by decide)
  show W p l e R s m args below meth c H locs cells slots Q (F0 m pc lsA (cv G w :: st'.map (cv G)))
  rw [hr]
  exact lv_astore_n C.1 C.2.1 hd rfl hl.2 (by rw [← hl.1]; exact lsok_lt e2) rfl (fun ls' hl' => K ls' H locs cells slots (lok_set1 hl e2 (by rw [hr]; exact hl')) hP hz hS rfl rfl)
theorem istore_W {i : Nat} (C : Cx G p s m args meth c M) (hd : decode (mB M) pc = .ok (.istore i, 2)) (h : stS hp ls st (pc + 2) 0 i = some z) (hl : lok G ls lsA (mL M)) (hP : reps G hp H) (hz : szk al G hp H) (hS : va_S (aA G) s.heap H locs) (K : KK p l e R s m args below meth c Q G M al cells slots hp z) : W p l e R s m args below meth c H locs cells slots Q (F0 m pc lsA (st.map (cv G))) := by
  obtain ⟨w, st', rfl, e1, e2, e3⟩ := stS_inv h
  obtain ⟨x, rfl⟩ := tok_int e1
  rcases e3 with ⟨e3, -⟩ | ⟨-, rfl⟩
  · exact absurd e3 (by decide)
  exact lv_istore C.1 C.2.1 hd hl.2 (by rw [← hl.1]; exact lsok_lt e2) rfl (fun ls' hl' => K ls' H locs cells slots (lok_set1 hl e2 hl') hP hz hS rfl rfl)
theorem lstore_W {i : Nat} (C : Cx G p s m args meth c M) (hd : decode (mB M) pc = .ok (.lstore i, 2)) (h : stS hp ls st (pc + 2) 2 i = some z) (hl : lok G ls lsA (mL M)) (hP : reps G hp H) (hz : szk al G hp H) (hS : va_S (aA G) s.heap H locs) (K : KK p l e R s m args below meth c Q G M al cells slots hp z) : W p l e R s m args below meth c H locs cells slots Q (F0 m pc lsA (st.map (cv G))) := by
  obtain ⟨w, st', rfl, e1, e2, e3⟩ := stS_inv h
  obtain ⟨x, rfl⟩ := tok_long e1
  rcases e3 with ⟨-, e4, rfl⟩ | ⟨e3, -⟩
  · exact lv_lstore C.1 C.2.1 hd hl.2 (by rw [← hl.1]; exact e4) rfl (fun ls' hl' => K ls' H locs cells slots (lok_set2 hl e2 hl') hP hz hS rfl rfl)
  · exact absurd rfl e3
theorem astore_W {i : Nat} (C : Cx G p s m args meth c M) (hd : decode (mB M) pc = .ok (.astore i, 2)) (h : stS hp ls st (pc + 2) 1 i = some z) (hl : lok G ls lsA (mL M)) (hP : reps G hp H) (hz : szk al G hp H) (hS : va_S (aA G) s.heap H locs) (K : KK p l e R s m args below meth c Q G M al cells slots hp z) : W p l e R s m args below meth c H locs cells slots Q (F0 m pc lsA (st.map (cv G))) := by
  obtain ⟨w, st', rfl, e1, e2, e3⟩ := stS_inv h
  obtain ⟨n9, n2, r, hr⟩ := tok_ref (G := G) e1
  rcases e3 with ⟨e3, -⟩ | ⟨-, rfl⟩
  · exact absurd e3 (by decide)
  show W p l e R s m args below meth c H locs cells slots Q (F0 m pc lsA (cv G w :: st'.map (cv G)))
  rw [hr]
  exact lv_astore C.1 C.2.1 hd hl.2 (by rw [← hl.1]; exact lsok_lt e2) rfl (fun ls' hl' => K ls' H locs cells slots (lok_set1 hl e2 (by rw [hr]; exact hl')) hP hz hS rfl rfl)
theorem iinc_W {i : Nat} {n : Int} {x : Int} (C : Cx G p s m args meth c M) (hd : decode (mB M) pc = .ok (.iinc i n, 3)) (hx : ls[i]? = some (0, x)) (ho : lsok ls i = true) (ez : z = (pc + 3, ls.set i (0, wr (x + n)), st, hp)) (hl : lok G ls lsA (mL M)) (hP : reps G hp H) (hz : szk al G hp H) (hS : va_S (aA G) s.heap H locs) (K : KK p l e R s m args below meth c Q G M al cells slots hp z) : W p l e R s m args below meth c H locs cells slots Q (F0 m pc lsA (st.map (cv G))) := by
  subst ez
  have hg := lok_at hl hx (by decide : (0 : Nat) ≠ 9)
  have h2 : lv_has lsA (mL M) ((i, .int (i3 x)) :: lqs G ls) := ⟨hl.2.1, hl.2.2.1, fun q hq => by
    rcases List.mem_cons.mp hq with rfl | hq
    · exact hg
    · exact hl.2.2.2 q hq⟩
  refine lv_iinc (k := 0) (v := i3 (wr (x + n))) C.1 C.2.1 hd h2 rfl (e_add x n).symm (by rw [← hl.1]; exact lsok_lt ho) rfl (fun ls' hl' => K ls' H locs cells slots (lok_set1 hl ho ?_) hP hz hS rfl rfl)
  rw [List.filter_cons_of_neg (by simp)] at hl'
  exact hl'
end SND
section STP
variable {p : Program} {l : Launch} {e : Env} {R : Room} {s : State} {m : MethodId} {args : Array Value} {below : List Frame} {meth : Method} {c : Code} {H : Heap} {locs : List Loc} {cells slots : Nat} {Q : State → Prop} {G : aG} {M : Nat} {al : Bool}
variable {pc : Nat} {ls st : List aV} {lsA : Array Slot} {hp : aH} {z : Nat × List aV × List aV × aH}
set_option maxHeartbeats 4000000 in
theorem stp_W {q : aI} (C : Cx G p s m args meth c M) (hd : decode (mB M) pc = .ok (q.1, iln q.1 pc)) (hr : okR M q) (h : stp1 al hp ls st pc q = some z) (g1 : gds ls) (g2 : gds st) (hl : lok G ls lsA (mL M)) (hP : reps G hp H) (hz : szk al G hp H) (hS : va_S (aA G) s.heap H locs) (hR : cells + z.2.2.2.length ≤ R.cells + hp.length ∧ slots + tot z.2.2.2 ≤ R.slots + tot hp) (K : KK p l e R s m args below meth c Q G M al cells slots hp z) : W p l e R s m args below meth c H locs cells slots Q (F0 m pc lsA (st.map (cv G))) := by
  obtain ⟨I, v, x, y⟩ := q
  cases I with
  | iconst n =>
    obtain ⟨a, h7⟩ := oif_inv (show oif _ _ = some z from h)
    cases h7
    exact lv_iconst C.1 C.2.1 hd (v := i3 n) rfl (K lsA H locs cells slots hl hP hz hS rfl rfl)
  | bipush n =>
    obtain ⟨a, h7⟩ := oif_inv (show oif _ _ = some z from h)
    cases h7
    simp only [Bool.and_eq_true, decide_eq_true_eq] at a
    exact lv_bipush C.1 C.2.1 hd (c_bi a.1 a.2) (K lsA H locs cells slots hl hP hz hS rfl rfl)
  | sipush n =>
    obtain ⟨a, h7⟩ := oif_inv (show oif _ _ = some z from h)
    cases h7
    simp only [Bool.and_eq_true, decide_eq_true_eq] at a
    exact lv_sipush C.1 C.2.1 hd (c_si a.1 a.2) (K lsA H locs cells slots hl hP hz hS rfl rfl)
  | lconst k =>
    cases (show some _ = some z from h)
    exact lv_lconst C.1 C.2.1 hd (v := i6 (k.val : Int)) (Int64.ofInt_eq_ofNat (n := k.val)).symm (K lsA H locs cells slots hl hP hz hS rfl rfl)
  | ldc idx =>
    obtain ⟨a, h7⟩ := oif_inv (show oif _ _ = some z from h)
    cases h7
    simp only [Bool.or_eq_true, Bool.and_eq_true, beq_iff_eq] at a
    rcases a with a | ⟨a, -⟩
    · subst a
      obtain ⟨tx, ht⟩ := hr.2 rfl
      exact va_ldcS C.1 C.2.1 C.2.2.2.1 (C.2.2.2.2.2.2.2.2.2.2.1 _ ht) hd (K lsA H locs cells slots hl hP hz hS rfl rfl)
    · subst a
      exact lv_ldc C.1 C.2.1 C.2.2.2.1 (C.2.2.2.2.1 _ (hr.1 rfl)) hd (K lsA H locs cells slots hl hP hz hS rfl rfl)
  | ldc_w idx =>
    obtain ⟨a, h7⟩ := oif_inv (show oif _ _ = some z from h)
    cases h7
    simp only [Bool.or_eq_true, Bool.and_eq_true, beq_iff_eq] at a
    rcases a with a | ⟨a, -⟩
    · subst a
      obtain ⟨tx, ht⟩ := hr.2 rfl
      exact ldcw_S C.1 C.2.1 C.2.2.2.1 (C.2.2.2.2.2.2.2.2.2.2.1 _ ht) hd (K lsA H locs cells slots hl hP hz hS rfl rfl)
    · subst a
      exact lv_ldcw C.1 C.2.1 C.2.2.2.1 (C.2.2.2.2.1 _ (hr.1 rfl)) hd (K lsA H locs cells slots hl hP hz hS rfl rfl)
  | ldc2_w idx =>
    obtain ⟨a, h7⟩ := oif_inv (show oif _ _ = some z from h)
    cases h7
    exact lv_ldc2 C.1 C.2.1 C.2.2.2.1 (C.2.2.2.2.1 _ hr) hd (K lsA H locs cells slots hl hP hz hS rfl rfl)
  | iload_n k =>
    exact iload_nW C hd h hl hP hz hS K
  | iload i =>
    exact iload_W C hd h hl hP hz hS K
  | aload_n k =>
    exact aload_nW C hd h hl hP hz hS K
  | aload i =>
    exact aload_W C hd h hl hP hz hS K
  | lload_n k =>
    exact lload_nW C hd h hl hP hz hS K
  | lload i =>
    exact lload_W C hd h hl hP hz hS K
  | istore_n k =>
    exact istore_nW C hd h hl hP hz hS K
  | istore i =>
    exact istore_W C hd h hl hP hz hS K
  | astore_n k =>
    exact astore_nW C hd h hl hP hz hS K
  | astore i =>
    exact astore_W C hd h hl hP hz hS K
  | lstore_n k =>
    exact lstore_nW C hd h hl hP hz hS K
  | lstore i =>
    exact lstore_W C hd h hl hP hz hS K
  | iinc i n =>
    simp only [stp1] at h
    split at h
    · next x e1 =>
      obtain ⟨a, h⟩ := oif_inv h
      exact iinc_W C hd e1 a (Option.some.inj h).symm hl hP hz hS K
    · cases h
  | iadd =>
    obtain ⟨x, y, st', r, rfl, e1, rfl⟩ := op2_inv (show op2 _ _ _ _ _ = some z from h)
    cases e1
    exact lv_iadd C.1 C.2.1 hd (top_i (e_add x y) (K lsA H locs cells slots hl hP hz hS rfl rfl))
  | isub =>
    obtain ⟨x, y, st', r, rfl, e1, rfl⟩ := op2_inv (show op2 _ _ _ _ _ = some z from h)
    cases e1
    exact lv_isub C.1 C.2.1 hd (top_i (e_sub x y) (K lsA H locs cells slots hl hP hz hS rfl rfl))
  | imul =>
    obtain ⟨x, y, st', r, rfl, e1, rfl⟩ := op2_inv (show op2 _ _ _ _ _ = some z from h)
    cases e1
    exact lv_imul C.1 C.2.1 hd (top_i (e_mul x y) (K lsA H locs cells slots hl hP hz hS rfl rfl))
  | iand =>
    obtain ⟨x, y, st', r, rfl, e1, rfl⟩ := op2_inv (show op2 _ _ _ _ _ = some z from h)
    cases e1
    exact lv_iand C.1 C.2.1 hd (top_i (e_b (fun a b => a &&& b) x y) (K lsA H locs cells slots hl hP hz hS rfl rfl))
  | ior =>
    obtain ⟨x, y, st', r, rfl, e1, rfl⟩ := op2_inv (show op2 _ _ _ _ _ = some z from h)
    cases e1
    exact lv_ior C.1 C.2.1 hd (top_i (e_b (fun a b => a ||| b) x y) (K lsA H locs cells slots hl hP hz hS rfl rfl))
  | ishl =>
    obtain ⟨x, y, st', r, rfl, e1, rfl⟩ := op2_inv (show op2 _ _ _ _ _ = some z from h)
    cases e1
    exact lv_ishl C.1 C.2.1 hd (top_i (e_b (fun a b => a <<< (b &&& 31)) x y) (K lsA H locs cells slots hl hP hz hS rfl rfl))
  | ishr =>
    obtain ⟨x, y, st', r, rfl, e1, rfl⟩ := op2_inv (show op2 _ _ _ _ _ = some z from h)
    cases e1
    exact lv_ishr C.1 C.2.1 hd (top_i (e_b (fun a b => a >>> (b &&& 31)) x y) (K lsA H locs cells slots hl hP hz hS rfl rfl))
  | iushr =>
    obtain ⟨x, y, st', r, rfl, e1, rfl⟩ := op2_inv (show op2 _ _ _ _ _ = some z from h)
    cases e1
    exact lv_iushr C.1 C.2.1 hd rfl (top_i (e_b (fun a b => (a.toUInt32 >>> (b.toUInt32 &&& Int32.toUInt32 31)).toInt32) x y) (K lsA H locs cells slots hl hP hz hS rfl rfl))
  | idiv =>
    obtain ⟨x, y, st', r, rfl, e1, rfl⟩ := op2_inv (show op2 _ _ _ _ _ = some z from h)
    have gy := (gds_cons.mp g2).1.1 rfl
    split at e1
    · cases e1
    · next hy =>
      cases e1
      exact lv_idiv C.1 C.2.1 hd (i3_ne0 gy hy) (top_i (e_b (fun a b => a / b) x y) (K lsA H locs cells slots hl hP hz hS rfl rfl))
  | irem =>
    obtain ⟨x, y, st', r, rfl, e1, rfl⟩ := op2_inv (show op2 _ _ _ _ _ = some z from h)
    have gy := (gds_cons.mp g2).1.1 rfl
    split at e1
    · cases e1
    · next hy =>
      cases e1
      exact lv_irem C.1 C.2.1 hd (i3_ne0 gy hy) (top_i (e_b (fun a b => a - a / b * b) x y) (K lsA H locs cells slots hl hP hz hS rfl rfl))
  | ladd =>
    obtain ⟨x, y, st', r, rfl, e1, rfl⟩ := op2L_inv (show op2L _ _ _ _ _ _ = some z from h)
    cases e1
    exact lv_ladd C.1 C.2.1 hd (top_l (l_add x y) (K lsA H locs cells slots hl hP hz hS rfl rfl))
  | lsub =>
    obtain ⟨x, y, st', r, rfl, e1, rfl⟩ := op2L_inv (show op2L _ _ _ _ _ _ = some z from h)
    cases e1
    exact lv_lsub C.1 C.2.1 hd (top_l (l_sub x y) (K lsA H locs cells slots hl hP hz hS rfl rfl))
  | lmul =>
    obtain ⟨x, y, st', r, rfl, e1, rfl⟩ := op2L_inv (show op2L _ _ _ _ _ _ = some z from h)
    cases e1
    exact lv_lmul C.1 C.2.1 hd (top_l (l_mul x y) (K lsA H locs cells slots hl hP hz hS rfl rfl))
  | land =>
    obtain ⟨x, y, st', r, rfl, e1, rfl⟩ := op2L_inv (show op2L _ _ _ _ _ _ = some z from h)
    cases e1
    exact lv_land C.1 C.2.1 hd (top_l (l_b (fun a b => a &&& b) x y) (K lsA H locs cells slots hl hP hz hS rfl rfl))
  | ldiv =>
    obtain ⟨x, y, st', r, rfl, e1, rfl⟩ := op2L_inv (show op2L _ _ _ _ _ _ = some z from h)
    have gy := (gds_cons.mp g2).1.2 rfl
    split at e1
    · cases e1
    · next hy =>
      cases e1
      exact lv_ldiv C.1 C.2.1 hd (i6_ne0 gy hy) (top_l (l_b (fun a b => a / b) x y) (K lsA H locs cells slots hl hP hz hS rfl rfl))
  | lrem =>
    obtain ⟨x, y, st', r, rfl, e1, rfl⟩ := op2L_inv (show op2L _ _ _ _ _ _ = some z from h)
    have gy := (gds_cons.mp g2).1.2 rfl
    split at e1
    · cases e1
    · next hy =>
      cases e1
      exact lv_lrem C.1 C.2.1 hd (i6_ne0 gy hy) (top_l (l_b (fun a b => a - a / b * b) x y) (K lsA H locs cells slots hl hP hz hS rfl rfl))
  | lcmp =>
    obtain ⟨x, y, st', r, rfl, e1, rfl⟩ := op2L_inv (show op2L _ _ _ _ _ _ = some z from h)
    cases e1
    have gy := (gds_cons.mp g2).1.2 rfl
    have gx := (gds_cons.mp (gds_cons.mp g2).2).1.2 rfl
    exact W.lcmp C.1 C.2.1 hd (top_i (e_lt gx gy) (K lsA H locs cells slots hl hP hz hS rfl rfl))
  | lshr =>
    simp only [stp1] at h
    split at h
    · next y x st' =>
      cases h
      exact lv_lshr C.1 C.2.1 hd rfl (top_l (i6_toInt _) (K lsA H locs cells slots hl hP hz hS rfl rfl))
    · cases h
  | i2l =>
    obtain ⟨x, st', rfl, rfl⟩ := op1_inv (show op1 _ _ _ _ _ _ _ = some z from h)
    have gx := (gds_cons.mp g2).1.1 rfl
    exact lv_i2l C.1 C.2.1 hd (v := i6 x) (e_i2l gx) (K lsA H locs cells slots hl hP hz hS rfl rfl)
  | l2i =>
    obtain ⟨x, st', rfl, rfl⟩ := op1_inv (show op1 _ _ _ _ _ _ _ = some z from h)
    exact lv_l2i C.1 C.2.1 hd (v := i3 (wr x)) (e_l2i x) (K lsA H locs cells slots hl hP hz hS rfl rfl)
  | i2c =>
    obtain ⟨x, st', rfl, rfl⟩ := op1_inv (show op1 _ _ _ _ _ _ _ = some z from h)
    exact lv_i2c C.1 C.2.1 hd rfl (top_i (i3_toInt _) (K lsA H locs cells slots hl hP hz hS rfl rfl))
  | i2b =>
    obtain ⟨x, st', rfl, rfl⟩ := op1_inv (show op1 _ _ _ _ _ _ _ = some z from h)
    exact lv_i2b C.1 C.2.1 hd rfl (top_i (i3_toInt _) (K lsA H locs cells slots hl hP hz hS rfl rfl))
  | dup =>
    simp only [stp1] at h
    split at h
    · obtain ⟨a, h⟩ := oif_inv h
      cases h
      exact lv_dup C.1 C.2.1 hd (cv_cat1 (by simpa using a)) (K lsA H locs cells slots hl hP hz hS rfl rfl)
    · cases h
  | dup2 =>
    simp only [stp1] at h
    split at h
    · obtain ⟨a, h⟩ := oif_inv h
      cases h
      simp only [Bool.and_eq_true, bne_iff_ne] at a
      exact lv_dup2_11 C.1 C.2.1 hd (cv_cat1 a.1) (cv_cat1 a.2) (K lsA H locs cells slots hl hP hz hS rfl rfl)
    · cases h
  | pop =>
    simp only [stp1] at h
    split at h
    · obtain ⟨a, h⟩ := oif_inv h
      cases h
      exact lv_pop C.1 C.2.1 hd (cv_cat1 (by simpa using a)) (K lsA H locs cells slots hl hP hz hS rfl rfl)
    · cases h
  | ifCond co off =>
    exact if1_W C.1 C.2.1 hd h g2 hl hP hz hS K
  | if_icmp co off =>
    exact if2_W C.1 C.2.1 hd h g2 hl hP hz hS K
  | goto off =>
    obtain ⟨tgt, ht, rfl⟩ := jmp_inv (show jmp _ _ _ _ _ = some z from h)
    exact lv_goto C.1 C.2.1 hd ht (K lsA H locs cells slots hl hP hz hS rfl rfl)
  | tableswitch d lo hi offs =>
    obtain ⟨x, st', rfl, e1⟩ := swT_inv (show swT _ _ _ _ _ _ _ _ = some z from h)
    have gx := (gds_cons.mp g2).1.1 rfl
    rcases e1 with ⟨e1, e2⟩ | ⟨e1, e2, off, e3, e4⟩
    · obtain ⟨tgt, ht, rfl⟩ := jmp_inv e2
      exact lv_tableOut C.1 C.2.1 hd (by rw [i3_in gx]; exact e1) ht (K lsA H locs cells slots hl hP hz hS rfl rfl)
    · obtain ⟨tgt, ht, rfl⟩ := jmp_inv e4
      exact lv_tableIn C.1 C.2.1 hd (by rw [i3_in gx]; exact e1) (by rw [i3_in gx]; exact e2) (by rw [i3_in gx]; exact e3) ht (K lsA H locs cells slots hl hP hz hS rfl rfl)
  | lookupswitch d ps =>
    obtain ⟨x, st', rfl, e1, e2⟩ := swL_inv (show swL _ _ _ _ _ _ = some z from h)
    have gx := (gds_cons.mp g2).1.1 rfl
    obtain ⟨tgt, ht, rfl⟩ := jmp_inv e2
    exact lv_lookup C.1 C.2.1 hd e1 (by rw [i3_in gx]) ht (K lsA H locs cells slots hl hP hz hS rfl rfl)
  | getfield idx =>
    exact getf_W C hd hr h hl hP hz hS K
  | putfield idx =>
    exact putf_W C hd hr h hl hP hz hS K
  | getstatic idx =>
    obtain ⟨a, h7⟩ := oif_inv (show oif _ _ = some z from h)
    cases h7
    simp only [Bool.or_eq_true, Bool.and_eq_true, beq_iff_eq] at a
    rcases a with ⟨a, b⟩ | a
    · subst a
      subst b
      exact va_gets C.1 C.2.1 C.2.2.2.2.2.2.2.2.2.2.2.1 hS C.2.2.2.1 (C.2.2.2.2.1 _ (hr.1 rfl)) (fun _ q => q) hd (K lsA H locs cells slots hl hP hz hS rfl rfl)
    · subst a
      exact va_gets C.1 C.2.1 C.2.2.2.2.2.2.2.2.2.2.2.2 hS C.2.2.2.1 (C.2.2.2.2.1 _ (hr.2 rfl)) (fun _ q => q) hd (K lsA H locs cells slots hl hP hz hS rfl rfl)
  | iaload =>
    exact iald_W C hd h g2 hl hP hz hS K
  | laload =>
    exact lald_W C hd h g2 hl hP hz hS K
  | baload =>
    exact bald_W C hd h g2 hl hP hz hS K
  | aaload =>
    exact aald_W C hd h g2 hl hP hz hS K
  | iastore =>
    exact iast_W C hd h g2 hl hP hz hS K
  | lastore =>
    exact last_W C hd h g2 hl hP hz hS K
  | bastore =>
    exact zast_W C hd h g2 hl hP hz hS K
  | aastore =>
    exact aast_W C hd h g2 hl hP hz hS K
  | arraylength =>
    exact alen_W C hd h hl hP hz hS K
  | new idx =>
    obtain ⟨a, h7⟩ := oif_inv (show oif _ _ = some z from h)
    simp only [Bool.and_eq_true, decide_eq_true_eq] at a
    obtain ⟨rfl, a⟩ := a
    exact new_W C a hd hr h7 hl hP hz hS hR K
  | newarray t =>
    obtain ⟨a, h7⟩ := oif_inv (show oif _ _ = some z from h)
    subst a
    exact newarr_W C hr hd h7 hl hP hz hS hR K
  | anewarray idx =>
    obtain ⟨a, h7⟩ := oif_inv (show oif _ _ = some z from h)
    subst a
    exact anewarr_W C hd hr h7 hl hP hz hS hR K
  | multianewarray idx d =>
    obtain ⟨a, h7⟩ := oif_inv (show oif _ _ = some z from h)
    subst a
    exact multi_W C hd hr h7 hl hP hz hS hR K
  | _ => exact absurd (show none = some z from h) (fun q => nomatch q)
end STP
