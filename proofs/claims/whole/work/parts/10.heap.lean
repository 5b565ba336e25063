theorem arr_get {G : aG} {a sh : Nat} {l : List Int} {H : Heap} {j w : Int} (hr : rc G a (sh, l) H) (hs : sh < 9) (gj : -2147483648 ≤ j ∧ j < 2147483648) (h0 : 0 ≤ j) (hw : l[j.toNat]? = some w) :
    ∃ cell : Cell, H[a]? = some cell ∧ cell.vm ≠ .unknown ∧ ¬ (i3 j < 0 ∨ cell.slots.size ≤ (i3 j).toNatClampNeg) ∧ cell.slots[(i3 j).toNatClampNeg]? = some (cv G (tgA sh, w)) ∧ ∀ U : State, kn G U → U.isArrayOf cell (aft sh) := by
  obtain ⟨-, h⟩ := rc_arr hr (by omega)
  have hlt : j.toNat < l.length := (List.getElem?_eq_some_iff.mp hw).1
  refine ⟨_, h, (fun q => by cases q), ?_, ?_, (fun U hk => (hk.2 sh hs).2.1 _ _)⟩
  · rw [arrV_size, Clamp gj]
    rintro (q | q)
    · rw [← i3_0, i3_lt gj inZ] at q; omega
    · omega
  · rw [Clamp gj, arrV_read _ _ hlt, getD_of hw]
theorem arr_in {G : aG} {a sh : Nat} {l : List Int} {H : Heap} {j : Int} (hr : rc G a (sh, l) H) (hs : sh < 9) (gj : -2147483648 ≤ j ∧ j < 2147483648) (h0 : 0 ≤ j) (hlt : j.toNat < l.length) :
    H[a]? = some (arrV (gA G sh) l.length (fun j => cv G (tgA sh, l.getD j 0))) ∧ ¬ (i3 j < 0 ∨ (arrV (gA G sh) l.length (fun j => cv G (tgA sh, l.getD j 0))).slots.size ≤ (i3 j).toNatClampNeg) ∧ (∀ U : State, kn G U → U.isArrayOf (arrV (gA G sh) l.length (fun j => cv G (tgA sh, l.getD j 0))) (aft sh)) := by
  obtain ⟨-, h⟩ := rc_arr hr (by omega)
  refine ⟨h, ?_, (fun U hk => (hk.2 sh hs).2.1 _ _)⟩
  rw [arrV_size, Clamp gj]
  rintro (q | q)
  · rw [← i3_0, i3_lt gj inZ] at q; omega
  · omega
theorem rc_set {G : aG} {a sh : Nat} {l : List Int} {H1 : Heap} {j w : Int} (hs : sh < 9) (gj : -2147483648 ≤ j ∧ j < 2147483648) (hlt : j.toNat < l.length)
    (h : H1[a]? = some ((arrV (gA G sh) l.length (fun j => cv G (tgA sh, l.getD j 0))).setSlot (i3 j).toNatClampNeg (cv G (tgA sh, w)))) : rc G a (sh, l.set j.toNat w) H1 := by
  refine Or.inl ⟨hs, ?_⟩
  rw [h, arrV_store, Clamp gj]
  show some (arrV (gA G sh) l.length _) = some (arrV (gA G sh) (l.set j.toNat w).length _)
  rw [List.length_set]
  congr 2
  funext k
  show (if k = j.toNat then cv G (tgA sh, w) else cv G (tgA sh, l.getD k 0)) = cv G (tgA sh, (l.set j.toNat w).getD k 0)
  rw [getD_set l j.toNat k w hlt]
  split <;> rfl
theorem aS_put {G : aG} {H0 H H1 : Heap} {locs : List Loc} {a k : Nat} (h : va_S (aA G) H0 H locs) (hz : H1.size = H.size) (ho : ∀ q, q ≠ a → H1[q]? = H[q]?) (ha : G.1 ≤ a) : va_S (aA G) H0 H1 (locs ++ [⟨a, k⟩]) := h.put hz ho ha
theorem aS_push {G : aG} {H0 H H1 : Heap} {locs : List Loc} (h : va_S (aA G) H0 H locs) (hz : H.size ≤ H1.size) (ho : ∀ q, q < H.size → H1[q]? = H[q]?) : va_S (aA G) H0 H1 locs :=
  ⟨Nat.le_trans h.1 hz, fun q h1 h2 => (ho q (Nat.lt_of_lt_of_le h1 h.1)).trans (h.2.1 q h1 h2), h.2.2⟩
theorem aftO (sh : Nat) (h : sh = 3 ∨ sh = 4 ∨ sh = 5 ∨ sh = 8) : ∃ r : vw_C, vwCl[aec sh]? = some r ∧ aft sh = .object r.1 := by
  rcases h with rfl | rfl | rfl | rfl <;> exact ⟨_, rfl, rfl⟩
section SND
variable {p : Program} {l : Launch} {e : Env} {R : Room} {s : State} {m : MethodId} {args : Array Value} {below : List Frame} {meth : Method} {c : Code} {H : Heap} {locs : List Loc} {cells slots : Nat} {Q : State → Prop} {G : aG} {M : Nat} {al : Bool}
variable {pc : Nat} {ls st : List aV} {lsA : Array Slot} {hp : aH} {z : Nat × List aV × List aV × aH}
theorem iald_W (C : Cx G p s m args meth c M) (hd : decode (mB M) pc = .ok (.iaload, 1)) (h : alS hp ls st (pc + 1) 0 0 0 = some z) (g2 : gds st) (hl : lok G ls lsA (mL M)) (hP : reps G hp H) (hz : szk al G hp H) (hS : va_S (aA G) s.heap H locs) (K : KK p l e R s m args below meth c Q G M al cells slots hp z) : W p l e R s m args below meth c H locs cells slots Q (F0 m pc lsA (st.map (cv G))) := by
  obtain ⟨j, a, st', sh, li, w, rfl, e1, e2, e3, e4, e5, rfl⟩ := alS_inv h
  have hsh : sh = 0 := by omega
  subst hsh
  have gj := (gds_cons.mp g2).1.1 rfl
  obtain ⟨cell, c1, c2, c3, c4, c5⟩ := arr_get (reps_at hP e1) (by decide) gj e4 e5
  show W p l e R s m args below meth c H locs cells slots Q (F0 m pc lsA (.int (i3 j) :: cv G (1, a) :: st'.map (cv G)))
  rw [cv_ref (cellAt_spec e1).1]
  exact W.iald C.1 C.2.1 c1 (c5 s C.2.2.2.2.2.2.2.2.1) c2 c3 c4 rfl rfl hd (K lsA H locs cells slots hl hP hz hS rfl rfl)
theorem lald_W (C : Cx G p s m args meth c M) (hd : decode (mB M) pc = .ok (.laload, 1)) (h : alS hp ls st (pc + 1) 2 1 1 = some z) (g2 : gds st) (hl : lok G ls lsA (mL M)) (hP : reps G hp H) (hz : szk al G hp H) (hS : va_S (aA G) s.heap H locs) (K : KK p l e R s m args below meth c Q G M al cells slots hp z) : W p l e R s m args below meth c H locs cells slots Q (F0 m pc lsA (st.map (cv G))) := by
  obtain ⟨j, a, st', sh, li, w, rfl, e1, e2, e3, e4, e5, rfl⟩ := alS_inv h
  have hsh : sh = 1 := by omega
  subst hsh
  have gj := (gds_cons.mp g2).1.1 rfl
  obtain ⟨cell, c1, c2, c3, c4, c5⟩ := arr_get (reps_at hP e1) (by decide) gj e4 e5
  show W p l e R s m args below meth c H locs cells slots Q (F0 m pc lsA (.int (i3 j) :: cv G (1, a) :: st'.map (cv G)))
  rw [cv_ref (cellAt_spec e1).1]
  exact W.lald C.1 C.2.1 c1 (c5 s C.2.2.2.2.2.2.2.2.1) c2 c3 c4 rfl rfl hd (K lsA H locs cells slots hl hP hz hS rfl rfl)
theorem sb_get (i : Int) (hi : i = 0 ∨ i = 1) (j : Nat) (hj : (j : Int) < slen i) : (sb32.getD i.toNat []).getD j 0 = i3 (sbyt i j) := by
  rcases hi with rfl | rfl
  · show (sby0.map i3).getD j 0 = i3 (sby0.getD j 0)
    rw [List.getD_eq_getElem?_getD, List.getD_eq_getElem?_getD, List.getElem?_map]
    cases sby0[j]? <;> rfl
  · show (sby1.map i3).getD j 0 = i3 (sby1.getD j 0)
    rw [List.getD_eq_getElem?_getD, List.getD_eq_getElem?_getD, List.getElem?_map]
    cases sby1[j]? <;> rfl
theorem bald_W (C : Cx G p s m args meth c M) (hd : decode (mB M) pc = .ok (.baload, 1)) (h : blS hp ls st (pc + 1) = some z) (g2 : gds st) (hl : lok G ls lsA (mL M)) (hP : reps G hp H) (hz : szk al G hp H) (hS : va_S (aA G) s.heap H locs) (K : KK p l e R s m args below meth c Q G M al cells slots hp z) : W p l e R s m args below meth c H locs cells slots Q (F0 m pc lsA (st.map (cv G))) := by
  rcases blS_inv h with ⟨j, i, st', rfl, e1, e2, e3, rfl⟩ | h
  · have gj := (gds_cons.mp g2).1.1 rfl
    simp only at gj
    have hi2 : i.toNat < 2 := by omega
    obtain ⟨-, -, -, hT⟩ := C.2.2.2.2.2.2.2.2.2.1.1 i.toNat hi2
    have hln : ((([10, 144] : List Nat).getD i.toNat 0 : Nat) : Int) = slen i := by rcases e3 with rfl | rfl <;> rfl
    refine va_tb C.1 C.2.1 hT hS (i := i3 j) (v := .int (i3 (sbyt i j.toNat))) ?_ ?_ hd (K lsA H locs cells slots hl hP hz hS rfl rfl)
    · unfold vp_in
      rw [Clamp gj]
      rintro (q | q)
      · rw [← i3_0, i3_lt gj inZ] at q; omega
      · omega
    · rw [Clamp gj]
      exact congrArg Value.int (sb_get i e3 j.toNat (by omega))
  · obtain ⟨j, a, st', sh, li, w, rfl, e1, e2, e3, e4, e5, rfl⟩ := alS_inv h
    have hsh : sh = 2 := by omega
    subst hsh
    have gj := (gds_cons.mp g2).1.1 rfl
    obtain ⟨cell, c1, c2, c3, c4, c5⟩ := arr_get (reps_at hP e1) (by decide) gj e4 e5
    show W p l e R s m args below meth c H locs cells slots Q (F0 m pc lsA (.int (i3 j) :: cv G (1, a) :: st'.map (cv G)))
    rw [cv_ref (cellAt_spec e1).1]
    exact W.zald C.1 C.2.1 c1 (c5 s C.2.2.2.2.2.2.2.2.1) c2 c3 c4 rfl rfl hd (K lsA H locs cells slots hl hP hz hS rfl rfl)
theorem aald_W (C : Cx G p s m args meth c M) (hd : decode (mB M) pc = .ok (.aaload, 1)) (h : alS hp ls st (pc + 1) 1 3 8 = some z) (g2 : gds st) (hl : lok G ls lsA (mL M)) (hP : reps G hp H) (hz : szk al G hp H) (hS : va_S (aA G) s.heap H locs) (K : KK p l e R s m args below meth c Q G M al cells slots hp z) : W p l e R s m args below meth c H locs cells slots Q (F0 m pc lsA (st.map (cv G))) := by
  obtain ⟨j, a, st', sh, li, w, rfl, e1, e2, e3, e4, e5, rfl⟩ := alS_inv h
  have gj := (gds_cons.mp g2).1.1 rfl
  obtain ⟨cell, c1, c2, c3, c4, c5⟩ := arr_get (reps_at hP e1) (by omega) gj e4 e5
  rw [show tgA sh = 1 by unfold tgA; rw [if_neg (by omega), if_neg (by omega)]] at c4
  have href : (aft sh).isReference = true := by
    have : sh = 3 ∨ sh = 4 ∨ sh = 5 ∨ sh = 6 ∨ sh = 7 ∨ sh = 8 := by omega
    rcases this with rfl | rfl | rfl | rfl | rfl | rfl <;> rfl
  show W p l e R s m args below meth c H locs cells slots Q (F0 m pc lsA (.int (i3 j) :: cv G (1, a) :: st'.map (cv G)))
  rw [cv_ref (cellAt_spec e1).1]
  exact W.aald C.1 C.2.1 c1 (c5 s C.2.2.2.2.2.2.2.2.1) href c2 c3 c4 rfl rfl hd (K lsA H locs cells slots hl hP hz hS rfl rfl)
theorem iast_W (C : Cx G p s m args meth c M) (hd : decode (mB M) pc = .ok (.iastore, 1)) (h : asS hp ls st (pc + 1) 0 0 = some z) (g2 : gds st) (hl : lok G ls lsA (mL M)) (hP : reps G hp H) (hz : szk al G hp H) (hS : va_S (aA G) s.heap H locs) (K : KK p l e R s m args below meth c Q G M al cells slots hp z) : W p l e R s m args below meth c H locs cells slots Q (F0 m pc lsA (st.map (cv G))) := by
  obtain ⟨w, j, a, st', li, rfl, e1, e2, e3, e4, rfl⟩ := asS_inv h
  have gj := (gds_cons.mp (gds_cons.mp g2).2).1.1 rfl
  obtain ⟨c1, c2, c3⟩ := arr_in (reps_at hP e1) (by decide) gj e2 e3
  show W p l e R s m args below meth c H locs cells slots Q (F0 m pc lsA (.int (i3 w) :: .int (i3 j) :: cv G (1, a) :: st'.map (cv G)))
  rw [cv_ref (cellAt_spec e1).1]
  refine W.iast C.1 C.2.1 c1 (c3 s C.2.2.2.2.2.2.2.2.1) (fun q => by cases q) c2 rfl rfl hd fun H' d1 d2 d3 => ?_
  exact K lsA H' _ cells slots hl (reps_put hP e1 (rc_set (by decide) gj e3 d1) d3) (szk_put hz d2) (aS_put hS d2 d3 (Nat.le_add_right _ _)) (by rw [put_len]) (by rw [put_tot e1 (by simp)])
theorem last_W (C : Cx G p s m args meth c M) (hd : decode (mB M) pc = .ok (.lastore, 1)) (h : asS hp ls st (pc + 1) 2 1 = some z) (g2 : gds st) (hl : lok G ls lsA (mL M)) (hP : reps G hp H) (hz : szk al G hp H) (hS : va_S (aA G) s.heap H locs) (K : KK p l e R s m args below meth c Q G M al cells slots hp z) : W p l e R s m args below meth c H locs cells slots Q (F0 m pc lsA (st.map (cv G))) := by
  obtain ⟨w, j, a, st', li, rfl, e1, e2, e3, e4, rfl⟩ := asS_inv h
  have gj := (gds_cons.mp (gds_cons.mp g2).2).1.1 rfl
  obtain ⟨c1, c2, c3⟩ := arr_in (reps_at hP e1) (by decide) gj e2 e3
  show W p l e R s m args below meth c H locs cells slots Q (F0 m pc lsA (.long (i6 w) :: .int (i3 j) :: cv G (1, a) :: st'.map (cv G)))
  rw [cv_ref (cellAt_spec e1).1]
  refine W.last C.1 C.2.1 c1 (c3 s C.2.2.2.2.2.2.2.2.1) (fun q => by cases q) c2 rfl rfl hd fun H' d1 d2 d3 => ?_
  exact K lsA H' _ cells slots hl (reps_put hP e1 (rc_set (by decide) gj e3 d1) d3) (szk_put hz d2) (aS_put hS d2 d3 (Nat.le_add_right _ _)) (by rw [put_len]) (by rw [put_tot e1 (by simp)])
theorem nar_z {w : Int} (h : bok .boolean w = true) : narrow .boolean (.int (i3 w)) = .int (i3 w) := by
  unfold bok at h
  simp only [Bool.or_eq_true, beq_iff_eq] at h
  rcases h with rfl | rfl <;> rfl
theorem zast_W (C : Cx G p s m args meth c M) (hd : decode (mB M) pc = .ok (.bastore, 1)) (h : asS hp ls st (pc + 1) 0 2 = some z) (g2 : gds st) (hl : lok G ls lsA (mL M)) (hP : reps G hp H) (hz : szk al G hp H) (hS : va_S (aA G) s.heap H locs) (K : KK p l e R s m args below meth c Q G M al cells slots hp z) : W p l e R s m args below meth c H locs cells slots Q (F0 m pc lsA (st.map (cv G))) := by
  obtain ⟨w, j, a, st', li, rfl, e1, e2, e3, e4, rfl⟩ := asS_inv h
  have gj := (gds_cons.mp (gds_cons.mp g2).2).1.1 rfl
  obtain ⟨c1, c2, c3⟩ := arr_in (reps_at hP e1) (by decide) gj e2 e3
  show W p l e R s m args below meth c H locs cells slots Q (F0 m pc lsA (.int (i3 w) :: .int (i3 j) :: cv G (1, a) :: st'.map (cv G)))
  rw [cv_ref (cellAt_spec e1).1]
  refine W.zast C.1 C.2.1 c1 (c3 s C.2.2.2.2.2.2.2.2.1) (fun q => by cases q) c2 rfl rfl hd fun H' d1 d2 d3 => ?_
  rw [nar_z e4] at d1
  exact K lsA H' _ cells slots hl (reps_put hP e1 (rc_set (by decide) gj e3 d1) d3) (szk_put hz d2) (aS_put hS d2 d3 (Nat.le_add_right _ _)) (by rw [put_len]) (by rw [put_tot e1 (by simp)])
theorem aast_W (C : Cx G p s m args meth c M) (hd : decode (mB M) pc = .ok (.aastore, 1)) (h : arS hp ls st (pc + 1) = some z) (g2 : gds st) (hl : lok G ls lsA (mL M)) (hP : reps G hp H) (hz : szk al G hp H) (hS : va_S (aA G) s.heap H locs) (K : KK p l e R s m args below meth c Q G M al cells slots hp z) : W p l e R s m args below meth c H locs cells slots Q (F0 m pc lsA (st.map (cv G))) := by
  obtain ⟨w, j, a, st', sh, li, lv, rfl, e1, e2, e3, e4, e5, rfl⟩ := arS_inv h
  have gj := (gds_cons.mp (gds_cons.mp g2).2).1.1 rfl
  have hk := C.2.2.2.2.2.2.2.2.1
  obtain ⟨c1, c2, -⟩ := arr_in (reps_at hP e1) (by omega) gj e4 e5
  obtain ⟨r, hr, hft⟩ := aftO sh e3
  have hao := (hk.2 sh (by omega)).2.2 (by omega)
  rw [hft] at hao
  obtain ⟨comp, cc, k, f1, -, f3, f4, f5⟩ := Cond.arrayOver_spec hao
  have hcc : cc = gA G sh := by
    have q := (hk.2 sh (by omega)).1
    rw [hft] at q
    exact Option.some.inj (f5.symm.trans q)
  subst hcc
  obtain ⟨r', hr', -, cellV, v1, v2, v3, -⟩ := rc_obj (reps_at hP e2)
  obtain rfl : r = r' := Option.some.inj (hr.symm.trans hr')
  obtain ⟨-, hcl⟩ := hk.1 _ _ hr
  have hcomp : comp = gC G (aec sh) := Option.some.inj (f1.symm.trans hcl.1)
  subst hcomp
  obtain ⟨kC, hkC, -⟩ := hcl.2
  show W p l e R s m args below meth c H locs cells slots Q (F0 m pc lsA (cv G (1, w) :: .int (i3 j) :: cv G (1, a) :: st'.map (cv G)))
  rw [cv_ref (cellAt_spec e1).1, cv_ref (cellAt_spec e2).1]
  have hlt : ¬ i3 j < 0 ∧ (i3 j).toNatClampNeg < (arrV (gA G sh) li.length (fun j => cv G (tgA sh, li.getD j 0))).slots.size := by
    constructor
    · exact fun q => c2 (Or.inl q)
    · exact Nat.not_le.mp fun q => c2 (Or.inr q)
  refine W.aast C.1 C.2.1 c1 (fun q h => by cases h) (fun q => by cases q) f3 f4 rfl hkC hlt v1 (fun q h => by rw [v3] at h; cases h) (by rw [v2]; exact hkC) (by rw [v2]; exact va_assign hcl) rfl rfl hd fun H' d1 d2 d3 => ?_
  have ht : tgA sh = 1 := by unfold tgA; rw [if_neg (by omega), if_neg (by omega)]
  refine K lsA H' _ cells slots hl (reps_put hP e1 (rc_set (by omega) gj e5 ?_) d3) (szk_put hz d2) (aS_put hS d2 d3 (Nat.le_add_right _ _)) (by rw [put_len]) (by rw [put_tot e1 (by simp)])
  rw [d1, ht, cv_ref (cellAt_spec e2).1]
theorem alen_W (C : Cx G p s m args meth c M) (hd : decode (mB M) pc = .ok (.arraylength, 1)) (h : anS hp ls st (pc + 1) = some z) (hl : lok G ls lsA (mL M)) (hP : reps G hp H) (hz : szk al G hp H) (hS : va_S (aA G) s.heap H locs) (K : KK p l e R s m args below meth c Q G M al cells slots hp z) : W p l e R s m args below meth c H locs cells slots Q (F0 m pc lsA (st.map (cv G))) := by
  rcases anS_inv h with ⟨a, st', sh, li, rfl, e1, e2, rfl⟩ | ⟨i, st', rfl, e1, rfl⟩
  · obtain ⟨-, hc⟩ := rc_arr (reps_at hP e1) (by omega)
    show W p l e R s m args below meth c H locs cells slots Q (F0 m pc lsA (cv G (1, a) :: st'.map (cv G)))
    rw [cv_ref (cellAt_spec e1).1]
    refine W.alen (n := i3 (li.length : Int)) C.1 C.2.1 hc ((C.2.2.2.2.2.2.2.2.1.2 sh e2).2.1 _ _) ?_ rfl rfl hd (K lsA H locs cells slots hl hP hz hS rfl rfl)
    rw [arrV_size]
    exact (Int32.ofInt_eq_ofNat (n := li.length)).symm
  · have hi2 : i.toNat < 2 := by omega
    obtain ⟨-, -, -, hT⟩ := C.2.2.2.2.2.2.2.2.2.1.1 i.toNat hi2
    refine va_tlen C.1 C.2.1 hT hS (v := i3 (slen i)) ?_ hd (K lsA H locs cells slots hl hP hz hS rfl rfl)
    rcases e1 with rfl | rfl <;> rfl
end SND
