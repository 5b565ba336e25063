/-! FROM A RUN TO A CONTRACT -/
def nst (U : State) : Prop := ∀ w ∈ nT, va_Nw w U
theorem nst_warm {s U : State} (hW : s.WarmedH U.vm) (h : nst s) : nst U := by
  intro w hw
  have hn : isNest w = true := (List.mem_filter.mp hw).2
  have h1 := h w hw
  cases w <;> first | exact va_Nw.warmM hW h1 | exact absurd hn (by simp [isNest])
theorem nst_same {u U : State} (hv : u.vm = U.vm) (h : nst u) : nst U := by
  intro w hw
  have hn : isNest w = true := (List.mem_filter.mp hw).2
  have h1 := h w hw
  cases w <;> first | exact va_Nw.same rfl hv h1 | exact absurd hn (by simp [isNest])
def wsM (M : Nat) : List Cond := .code (mY M) (mB M) (mL M) (mR M) :: gT
theorem wsM_good {M : Nat} (h : M < 285) : GoodIn gT (wsM M) := by
  intro w hw
  rcases List.mem_cons.mp hw with rfl | hw
  · exact ⟨(cd_all M h).1, gT_good _ (cd_all M h).1⟩
  · exact ⟨hw, gT_good _ hw⟩
def rmM (M mc ms : Nat) : Room := { frames := mF M, cells := mc, slots := ms, locals := mO M }
def Pst (al : Bool) (G : aG) (hp : aH) (U : State) : Prop := reps G hp U.heap ∧ szk al G hp U.heap ∧ kn G U ∧ sts G U U.heap ∧ nst U
def Qst (al : Bool) (G : aG) (rv : Option aV) (hp : aH) : Array Value → State → Outcome → State → Prop := fun _ st o t => o = .returned (rv.map (cv G)) ∧ reps G hp t.heap ∧ szk al G hp t.heap ∧ va_F (aA G) st t
theorem kn_moved {G : aG} {u U : State} (hvm : u.vm.Alike U.vm) (h : kn G u) : kn G U := by
  refine ⟨fun ci r hr => u_Kn_moved hvm (h.1 ci r hr), fun k hk => ?_⟩
  obtain ⟨h1, h2, h3⟩ := h.2 k hk
  refine ⟨by first | (rw [← hvm.findClass]; exact h1) | (rw [hvm.findClass]; exact h1), arrOfT_moved hvm h2, fun h => ?_⟩
  have h4 := h3 h
  have hk2 : k = 3 ∨ k = 4 ∨ k = 5 ∨ k = 6 ∨ k = 7 ∨ k = 8 := by omega
  rcases hk2 with rfl | rfl | rfl | rfl | rfl | rfl
  · exact va_AO.moved (C := RX7) hvm h4
  · exact va_AO.moved (C := RX1) hvm h4
  · exact va_AO.moved (C := RX2) hvm h4
  · exact over_moved (t := .int) hvm h4
  · exact over_moved (t := .long) hvm h4
  · exact va_AO.moved (C := RX7) hvm h4
theorem sts_warm {G : aG} {s U : State} {H : Heap} {locs : List Loc} (hW : s.WarmedH U.vm) (hS : va_S (aA G) s.heap H locs) (h : sts G s s.heap) : sts G U H :=
  ⟨(h.1.kept hS.2.1).moved hW.alike, fun e he => (h.2.1 e he).warm hW, (h.2.2.1.kept hS.2.1).moved hW.alike, (h.2.2.2.kept hS.2.1).moved hW.alike⟩
theorem sts_same {G : aG} {u U : State} {H : Heap} (hv : u.vm = U.vm) (h : sts G u H) : sts G U H := by
  have ha : u.vm.Alike U.vm := hv ▸ Vm.Alike.refl u.vm
  exact ⟨h.1.moved ha, fun e he => (h.2.1 e he).same hv.symm, h.2.2.1.moved ha, h.2.2.2.moved ha⟩
theorem Pst_blind {al : Bool} {G : aG} {hp : aH} {av : List Value} : FrameBlind (va_Pc av (Pst al G hp)) := by
  intro a U g mk ⟨h0, h1, h2, h3, h4, h5⟩
  have hv : U.vm = (U.calling g mk a).vm := rfl
  exact ⟨h0, h1, h2, kn_moved (hv ▸ Vm.Alike.refl U.vm) h3, sts_same hv h4, nst_same hv h5⟩
theorem lv_args_mem {G : aG} : ∀ (as : List aV) (k i : Nat) (v : aV), (entL as)[i]? = some v → v.1 ≠ 9 → (k + i, cv G v) ∈ lv_args k (as.map (cv G)) := by
  intro as
  induction as with
  | nil => intro k i v h; simp [entL] at h
  | cons a r ih =>
    intro k i v h h9
    show (k + i, cv G v) ∈ (k, cv G a) :: lv_args (if (cv G a).category = 2 then k + 2 else k + 1) (r.map (cv G))
    unfold entL at h
    by_cases h2 : a.1 = 2
    · rw [if_pos h2] at h
      rw [if_pos (cv_cat2.mpr h2)]
      match i, h with
      | 0, h => cases h; exact List.mem_cons_self
      | 1, h => cases h; exact absurd rfl h9
      | i + 2, h =>
        have := ih (k + 2) i v h h9
        rw [show k + 2 + i = k + (i + 2) by omega] at this
        exact List.mem_cons_of_mem _ this
    · rw [if_neg h2] at h
      rw [if_neg (fun e => h2 (cv_cat2.mp e))]
      match i, h with
      | 0, h => cases h; exact List.mem_cons_self
      | i + 1, h =>
        have := ih (k + 1) i v h h9
        rw [show k + 1 + i = k + (i + 1) by omega] at this
        exact List.mem_cons_of_mem _ this
theorem entL_len {G : aG} (as : List aV) : (lg_sl (as.map (cv G))).length = (entL as).length := by
  induction as with
  | nil => rfl
  | cons a r ih =>
    unfold lg_sl at ih ⊢
    simp only [List.map_cons, List.flatMap_cons, List.length_append, ih]
    rw [show entL (a :: r) = (if a.1 = 2 then a :: (9, 0) :: entL r else a :: entL r) from rfl]
    by_cases h2 : a.1 = 2
    · rw [if_pos (cv_cat2.mpr h2), if_pos h2]; simp; omega
    · rw [if_neg (fun e => h2 (cv_cat2.mp e)), if_neg h2]; simp; omega
theorem lok_entry {G : aG} {as : List aV} {n : Nat} (h : (entL as).length ≤ n) : lok G (entA as n) ((lg_sl (as.map (cv G)) ++ List.replicate (n - (lg_sl (as.map (cv G))).length) Slot.unset).toArray) n := by
  have he := lv_entry (as.map (cv G)) (n := n) (by rw [entL_len]; exact h)
  refine ⟨by unfold entA; simp; omega, he.1, he.2.1, fun q hq => he.2.2 q ?_⟩
  obtain ⟨v, h1, h2, h3⟩ := mem_lqs.mp hq
  unfold entA at h1
  by_cases hl : q.1 < (entL as).length
  · rw [List.getElem?_append_left hl] at h1
    have := lv_args_mem (G := G) as 0 q.1 v h1 h2
    rw [Nat.zero_add, ← h3] at this
    exact this
  · rw [List.getElem?_append_right (by omega)] at h1
    have := List.eq_of_mem_replicate (List.mem_of_getElem? h1)
    subst this
    exact absurd rfl h2
def RW (f : Nat) : Prop := ∀ (al : Bool) (M pc : Nat) (ls st : List aV) (hp : aH) (rv : Option aV) (hp' : aH), runA f al M pc ls st hp = some (rv, hp') → M < 287 → gds ls → gds st → gdh hp → hlen hp →
  ∀ (p : Program) (l : Launch) (e : Env) (s : State) (m : MethodId) (args : Array Value) (below : List Frame) (meth : Method) (c : Code) (H : Heap) (lsA : Array Slot) (locs : List Loc) (cells slots mc ms : Nat) (G : aG), Cx G p s m args meth c M → nst s → lok G ls lsA (mL M) → reps G hp H → szk al G hp H → va_S (aA G) s.heap H locs → cells + hp'.length = mc + hp.length → slots + tot hp' = ms + tot hp →
  W p l e (rmM M mc ms) s m args below meth c H locs cells slots (MQ below (Qst al G rv hp') args s mc ms (aA G)) (F0 m pc lsA (st.map (cv G)))
theorem met_of {f : Nat} {al : Bool} {N : Nat} {as : List aV} {hp hp' : aH} {rv : Option aV} (h : RW f) (hr : runA f al N 0 (entA as (mL N)) [] hp = some (rv, hp')) (hN : nok N) (he : (entL as).length ≤ mL N) (g1 : gds as) (g3 : gdh hp) (g4 : hlen hp) (l : Launch) (G : aG) :
    Met l (mY N) (wsM N) (rmM N (hp'.length - hp.length) (tot hp' - tot hp)) (va_Pc (as.map (cv G)) (Pst al G hp)) (Qst al G rv hp') (hp'.length - hp.length) (tot hp' - tot hp) (aA G) := by
  obtain ⟨k1, k2, -⟩ := run_ok _ _ _ _ _ _ _ _ _ hr (Nat.lt_trans hN.1 (by decide)) (gds_entA g1) gds_nil g3 g4
  refine Met.ofW (cc := mB N) (maxL := mL N) (ret := mR N) (mi_all N hN).1 rfl ?_
  intro p e s m args below meth c s₁ B hml hv
  obtain ⟨rfl, hP, hz, hk, hst, hn⟩ := hv
  have hts := atoms_spec (ws := wsM N) B.pre
  rw [lg_entry_eq]
  exact h al N 0 _ [] hp rv hp' hr (Nat.lt_trans hN.1 (by decide)) (gds_entA g1) gds_nil g3 g4 p l e s m _ below meth c s.heap _ [] 0 0 _ _ G
    ⟨B.exec, B.bytes, hml, findClass_of_methodNamed B.named, fun w hw => hts w (List.mem_cons_of_mem _ hw), B.returns, B.notSynchronized, (name_of_methodNamed B.named B.method).1, hk, hst⟩ hn (lok_entry he) hP hz va_S.rf (by omega) (by omega)
section SND
variable {p : Program} {l : Launch} {e : Env} {R : Room} {s : State} {m : MethodId} {args : Array Value} {below : List Frame} {meth : Method} {c : Code} {H : Heap} {locs : List Loc} {cells slots : Nat} {Q : State → Prop} {G : aG} {M : Nat} {al : Bool}
variable {pc : Nat} {ls st : List aV} {lsA : Array Slot} {hp : aH}
theorem call_W {rest : List aV} {r1 : Option aV} {h1 : aH} {a0 : Array Value} {st0 : List Value} {mc ms : Nat} (hr : va_Run p l e R s m args below meth c H locs cells slots mc ms (F0 m pc lsA st0) (rest.map (cv G)) (Qst al G r1 h1 a0) (aA G)) (hS : va_S (aA G) s.heap H locs)
    (K : ∀ (H' : Heap) (locs' : List Loc), reps G h1 H' → szk al G h1 H' → va_S (aA G) s.heap H' locs' → W p l e R s m args below meth c H' locs' (cells + mc) (slots + ms) Q (F0 m (pc + 3) lsA ((r1.toList ++ rest).map (cv G)))) : W p l e R s m args below meth c H locs cells slots Q (F0 m pc lsA st0) := by
  intro T hT X
  obtain ⟨v, st₀, t, T', L, h0, X', hL, e1, e2, ⟨hv, hrp, hsz, hz, hk⟩, step⟩ := hr T hT X
  have hv' : v = r1.map (cv G) := Outcome.returned.inj hv
  subst hv'
  rw [h0] at hz hk
  have key := K t.heap (locs ++ L) hrp hsz ⟨Nat.le_trans hS.1 hz, fun q q1 q2 => by rw [hk q (Nat.lt_of_lt_of_le q1 hS.1) q2]; exact hS.2.1 q q1 q2, fun q hq => (List.mem_append.mp hq).elim (hS.2.2 q) (hL q)⟩
  obtain ⟨t2, a1, b1⟩ := key T' e1 X'
  refine ⟨t2, step t2 ?_, b1⟩
  rw [show (r1.toList ++ rest).map (cv G) = (r1.map (cv G)).toList ++ rest.map (cv G) by cases r1 <;> simp] at a1
  exact a1
theorem cat_sum (rest : List aV) (h : catS rest ≤ 8) : ((rest.map (cv G)).map fun v => v.category).sum ≤ 8 := by
  have e : ((rest.map (cv G)).map fun v => v.category) = rest.map fun v => if v.1 = 2 then 2 else 1 := by
    rw [List.map_map]
    refine List.map_congr_left fun v _ => ?_
    show (cv G v).category = _
    by_cases h2 : v.1 = 2
    · rw [if_pos h2, cv_cat2.mpr h2]
    · rw [if_neg h2, cv_cat1 h2]
  rw [e]
  exact h
theorem Pst_at (C : Cx G p s m args meth c M) (hn : nst s) (hP : reps G hp H) (hz : szk al G hp H) (hS : va_S (aA G) s.heap H locs) {U : State} (hU : U.heap = H) (hW : s.WarmedH U.vm) : Pst al G hp U :=
  ⟨by rw [hU]; exact hP, by rw [hU]; exact hz, kn_moved hW.alike C.2.2.2.2.2.2.2.2.1, by rw [hU]; exact sts_warm hW hS C.2.2.2.2.2.2.2.2.2, nst_warm hW hn⟩
theorem run_call {f N : Nat} {q : aI} {r1 : Option aV} {h1 : aH} {mc ms : Nat} (ih : RW f) (C : Cx G p s m args meth c M) (hn : nst s) (hM : M < 287) (hR : mF M ≤ R.frames ∧ mO M ≤ R.locals ∧ R.cells = mc ∧ R.slots = ms) (hq : cod M pc = some q) (hi : isInv q.1 = true) (hx : q.2.2.1 = N)
    (b1 : q.2.2.2 ≤ st.length) (b2 : catS (st.drop q.2.2.2) ≤ 8) (b3 : rcvOK hp q.2.1 N (st.take q.2.2.2).reverse = true) (b4 : (entL (st.take q.2.2.2).reverse).length ≤ mL N) (b5 : runA f al N 0 (entA (st.take q.2.2.2).reverse (mL N)) [] hp = some (r1, h1))
    (g2 : gds st) (g3 : gdh hp) (g4 : hlen hp) (hl : lok G ls lsA (mL M)) (hP : reps G hp H) (hz : szk al G hp H) (hS : va_S (aA G) s.heap H locs) (hc : cells + (h1.length - hp.length) ≤ mc ∧ slots + (tot h1 - tot hp) ≤ ms) :
    va_Run p l e R s m args below meth c H locs cells slots (h1.length - hp.length) (tot h1 - tot hp) (F0 m pc lsA (st.map (cv G))) ((st.drop q.2.2.2).map (cv G)) (Qst al G r1 h1 ((st.take q.2.2.2).reverse.map (cv G)).toArray) (aA G) := by
  obtain ⟨idx, hok, hI⟩ := okN (cod_ok hM hq) hi
  have hd := cod_dec hM hq
  rw [hx] at hok
  have hN : nok N := ok_lt hok b3
  obtain ⟨i1, i2, i3, i4, i5⟩ := mi_all N hN
  have hMet := met_of ih b5 hN b4 (gds_take g2) g3 g4 l G
  have hts := C.2.2.2.2.1
  have S : CallFix p m c (mB M) (mL M) s args gT (mY M).cls := ⟨C.1, C.2.1, C.2.2.1, C.2.2.2.1, hts⟩
  have hini := hts _ (cd_all N hN.1).2
  have hst : st.map (cv G) = ((st.take q.2.2.2).reverse.map (cv G)).reverse ++ (st.drop q.2.2.2).map (cv G) := by
    rw [← List.map_reverse, List.reverse_reverse, ← List.map_append, List.take_append_drop]
  have hlen : (st.take q.2.2.2).reverse.length = q.2.2.2 := by rw [List.length_reverse, List.length_take]; omega
  have hcat := cat_sum (G := G) _ b2
  have hfree : cells + (h1.length - hp.length) ≤ R.cells ∧ slots + (tot h1 - tot hp) ≤ R.slots := by rw [hR.2.2.1, hR.2.2.2]; exact hc
  have hPc : ∀ U : State, U.heap = H → s.WarmedH U.vm → va_Pc ((st.take q.2.2.2).reverse.map (cv G)) (Pst al G hp) ((st.take q.2.2.2).reverse.map (cv G)).toArray U := fun U hU hW => ⟨rfl, Pst_at C hn hP hz hS hU hW⟩
  generalize (st.take q.2.2.2).reverse = as at *
  generalize hrs : st.drop q.2.2.2 = rest at *
  obtain ⟨-, o0, o1, o2, o3, o4, -⟩ := hok
  have hsz : lsA.size = mL M := hl.2.1
  have hroom : rooms M N → (rmM N (h1.length - hp.length) (tot h1 - tot hp)).frames + 1 ≤ R.frames ∧ 8 + (mL N + 11) + (rmM N (h1.length - hp.length) (tot h1 - tot hp)).locals ≤ R.locals := fun h => ⟨Nat.le_trans h.1 hR.1, Nat.le_trans h.2 hR.2.1⟩
  have hlr : 2 * (F0 m pc lsA (st.map (cv G))).monitorRoom + ((rest.map (cv G)).map fun v => v.category).sum ≤ 8 := lv_room hcat
  have hdV : ∀ {I : Instr}, q.1 = I → iln I pc = 3 → decode (mB M) pc = .ok (I, 3) := fun e e2 => by rw [hd, e, e2]
  have hv : ∀ {kd : Int}, (kd = 9 ∨ kd = 6 ∨ kd = 7 ∨ kd = 8 ∨ kd = 10) → rcvOK hp kd N as = true → False := fun h h2 => by
    rcases h with rfl | rfl | rfl | rfl | rfl <;> simp [rcvOK] at h2
  have two : ∀ {kd : Int}, (kd = 2 ∨ kd = 3) → rcvOK hp kd N as = true → ∃ (a : Int) (as' : List aV), as = (1, a) :: as' ∧ 1 ≤ a := fun h h2 => by
    unfold rcvOK at h2
    rw [if_neg (by omega), if_neg (by omega), if_pos h] at h2
    split at h2
    · next a as' => exact ⟨a, as', rfl, of_decide_eq_true h2⟩
    · cases h2
  rcases hI with ⟨h3, hk⟩ | ⟨h3, hk⟩ | ⟨h3, hk⟩
  · rcases hk with hk | hk | hk
    · obtain ⟨-, c1, c2, c3, c4, c5⟩ := o0 (Or.inl hk)
      rw [hk] at b3
      unfold rcvOK at b3
      rw [if_pos rfl] at b3
      split at b3
      · next a as' =>
        split at b3
        · next sh li e1 =>
          simp only [Bool.and_eq_true, decide_eq_true_eq] at b3
          obtain ⟨rfl, e2⟩ := b3
          obtain ⟨r, f1, f2, cell, f3, f4, f5, -⟩ := rc_obj (reps_at hP e1)
          have hcls := i4 e2
          rw [f1] at hcls
          have hr1 : r.1 = (mY N).cls := Option.some.inj hcls
          have hkn := (C.2.2.2.2.2.2.2.2.1.1 _ _ f1).2.1
          have ha := (cellAt_spec e1).1
          simp only [List.map_cons, cv_ref ha] at hPc hst hMet
          exact va_runV S hMet ⟨callB_of (mP N) hts (wsM_good hN.1) rfl rfl rfl hini (hts _ c2) ⟨i2.1, i2.2, i3⟩ (hroom c5), hts _ c3, hts _ c4⟩ ⟨Pst_blind, ⟨cell, f3, by rw [f5]; rfl, by rw [f4, ← hr1]; exact hkn⟩, hPc⟩ rfl (by rw [List.length_map]; simp only [List.length_cons] at hlen; omega) hsz (by show st.map (cv G) = _; rw [hst]; simp) hlr (hdV h3 rfl) hfree
        · cases b3
      · cases b3
    · obtain ⟨-, c1, c2, c3, c4, c5⟩ := o0 (Or.inr hk)
      rw [hk] at b3
      unfold rcvOK at b3
      rw [if_neg (by decide), if_pos rfl] at b3
      split at b3
      · next i as' =>
        simp only [Bool.and_eq_true, decide_eq_true_eq] at b3
        obtain ⟨e1, e2⟩ := b3
        have hi2 : i.toNat < 2 := by omega
        obtain ⟨cell, f3, f4, f5⟩ := vk_recv C.2.2.2.2.2.2.2.2.2.1 hi2 hS
        rw [← i5 e1] at f5
        have hPc : ∀ U : State, U.heap = H → s.WarmedH U.vm → va_Pc (((4, i) :: as').map (cv G)) (Pst al G hp) (Value.ref (gK G i.toNat) :: as'.map (cv G)).toArray U := hPc
        exact va_runV S hMet ⟨callB_of (mP N) hts (wsM_good hN.1) rfl rfl rfl hini (hts _ c2) ⟨i2.1, i2.2, i3⟩ (hroom c5), hts _ c3, hts _ c4⟩ ⟨Pst_blind, ⟨cell, f3, f4, f5⟩, hPc⟩ rfl (by rw [List.length_map]; simp only [List.length_cons] at hlen; omega) hsz (by show st.map (cv G) = _; rw [hst]; simp; rfl) hlr (hdV h3 rfl) hfree
      · cases b3
    · exact absurd b3 (fun z => hv (by omega) z)
  · rcases hk with hk | hk | hk | hk | hk | hk
    · obtain ⟨-, c1, c2, c3, c5⟩ := o1 hk
      exact va_runS S hMet ⟨callB_of (mP N) hts (wsM_good hN.1) rfl rfl rfl hini (hts _ c2) ⟨i2.1, i2.2, i3⟩ (hroom c5), hts _ c3⟩ ⟨Pst_blind, hPc⟩ rfl (by rw [List.length_map]; omega) hsz hst hlr (hdV h3 rfl) hfree
    · obtain ⟨-, c1, ⟨host, c2⟩, c3, c5⟩ := o4 hk
      exact va_runSN S hMet ⟨va_cnB (mP N) hts (wsM_good hN.1) rfl rfl rfl (hn _ c2) hini ⟨i2.1, i2.2, i3⟩ (hroom c5), hts _ c3, trivial⟩ ⟨Pst_blind, hPc⟩ rfl (by rw [List.length_map]; omega) hsz hst hlr (hdV h3 rfl) hfree
    · exact absurd b3 (fun z => hv (by omega) z)
    · exact absurd b3 (fun z => hv (by omega) z)
    · exact absurd b3 (fun z => hv (by omega) z)
    · exact absurd b3 (fun z => hv (by omega) z)
  · rcases hk with hk | hk | hk | hk
    · obtain ⟨-, c1, c2, c3, c4, c6, c5⟩ := o2 hk
      obtain ⟨a, as', rfl, ha⟩ := two (Or.inl hk) b3
      simp only [List.map_cons, cv_ref ha] at hPc hst hMet
      exact va_runI S hMet ⟨callB_of (ws' := gT) (mP N) hts (wsM_good hN.1) (by unfold wsM; rw [c6]) rfl rfl hini (hts _ c2) ⟨i2.1, i2.2, i3⟩ (hroom c5), c4, hts _ c3⟩ ⟨Pst_blind, hPc⟩ rfl (by rw [List.length_map]; simp only [List.length_cons] at hlen; omega) hsz (by show st.map (cv G) = _; rw [hst]; simp) hlr (hdV h3 rfl) hfree
    · obtain ⟨-, c1, ⟨host, c2⟩, c3, c4, c6, c5⟩ := o3 hk
      obtain ⟨a, as', rfl, ha⟩ := two (Or.inr hk) b3
      simp only [List.map_cons, cv_ref ha] at hPc hst hMet
      exact va_runIN S hMet ⟨va_cnB (ws' := gT) (mP N) hts (wsM_good hN.1) (by unfold wsM; rw [c6]) rfl rfl (hn _ c2) hini ⟨i2.1, i2.2, i3⟩ (hroom c5), c4, hts _ c3⟩ ⟨Pst_blind, hPc⟩ rfl (by rw [List.length_map]; simp only [List.length_cons] at hlen; omega) hsz (by show st.map (cv G) = _; rw [hst]; simp) hlr (hdV h3 rfl) hfree
    · exact absurd b3 (fun z => hv (by omega) z)
    · exact absurd b3 (fun z => hv (by omega) z)
end SND
theorem nar_ok {t : FieldType} {z : Int} (h0 : tagT t = 0) (hb : bok t z = true) : narrow t (.int (i3 z)) = .int (i3 z) := by
  cases t with
  | int => rfl
  | boolean => exact nar_z hb
  | char =>
    unfold bok at hb
    simp only [Bool.and_eq_true, decide_eq_true_eq] at hb
    have e : i3 z = nI z.toNat := by
      unfold i3 nI
      rw [← Int32.ofInt_eq_ofNat]
      congr 1
      omega
    rw [e]
    exact (pk_charN (by omega)).1
  | byte =>
    unfold bok at hb
    simp only [Bool.and_eq_true, decide_eq_true_eq] at hb
    show Value.int _ = _
    congr 1
    apply Int32.toInt_inj.mp
    unfold i3
    rw [Int8.toInt_toInt32, Int32.toInt8_ofInt, Int8.toInt_ofInt, Int32.toInt_ofInt]
    rw [Int.bmod_eq_of_le (by show -((256 : Nat) / 2 : Int) ≤ z; omega) (by show z < ((256 : Nat) + 1) / 2; omega), Int.bmod_eq_of_le (by show -((4294967296 : Nat) / 2 : Int) ≤ z; omega) (by show z < ((4294967296 : Nat) + 1) / 2; omega)]
  | short =>
    unfold bok at hb
    simp only [Bool.and_eq_true, decide_eq_true_eq] at hb
    show Value.int _ = _
    congr 1
    apply Int32.toInt_inj.mp
    unfold i3
    rw [Int16.toInt_toInt32, Int32.toInt16_ofInt, Int16.toInt_ofInt, Int32.toInt_ofInt]
    rw [Int.bmod_eq_of_le (by show -((65536 : Nat) / 2 : Int) ≤ z; omega) (by show z < ((65536 : Nat) + 1) / 2; omega), Int.bmod_eq_of_le (by show -((4294967296 : Nat) / 2 : Int) ≤ z; omega) (by show z < ((4294967296 : Nat) + 1) / 2; omega)]
  | _ => exact absurd h0 (by simp [tagT])
theorem run_W : ∀ f, RW f := by
  intro f
  induction f with
  | zero => intro al M pc ls st hp rv hp' h; cases h
  | succ f ih =>
    intro al M pc ls st hp rv hp' h hM g1 g2 g3 g4 p l e s m args below meth c H lsA locs cells slots mc ms G C hn hl hP hz hS hc1 hc2
    obtain ⟨q, hq, ⟨hr, h1, rfl⟩ | ⟨-, hi, h1⟩ | ⟨-, -, z, hz1, h1⟩⟩ := run_inv h
    · have e1 : cells = mc := by omega
      have e2 : slots = ms := by omega
      subst e1
      subst e2
      have hd := cod_dec hM hq
      have hx := C.1
      have hb := C.2.1
      have hret := C.2.2.2.2.2.1
      have hlk := C.2.2.2.2.2.2.1
      have hQ : ∀ {v : Option Value}, v = rv.map (cv G) → ∀ t : State, t.heap = H → s.WarmedH t.vm → Qst al G rv hp' args s (.returned v) t := fun hv t ht hW => ⟨by rw [hv], by rw [ht]; exact hP, by rw [ht]; exact hz, hS.F ht⟩
      obtain ⟨I, v, x, y⟩ := q
      simp only at h1 hr
      unfold retS at h1
      split at h1
      · next hty =>
        cases h1
        exact W.vret hx hb (hret.trans hty) (fun t ht hW => hQ rfl t ht hW) hS.2.2 hd hlk
      · next z t hty =>
        split at h1
        · next hh =>
          cases h1
          exact W.zret hx hb (hret.trans hty) (nar_ok hh.1 hh.2) (fun t ht hW => hQ rfl t ht hW) hS.2.2 hd hlk
        · cases h1
      · next z hty =>
        cases h1
        exact W.lret hx hb (hret.trans hty) (fun t ht hW => hQ rfl t ht hW) hS.2.2 hd hlk
      · exact absurd hr (by decide)
      · exact absurd hr (by decide)
      · cases h1
    · rcases h1 with ⟨st2, e1, hcat, h1⟩ | ⟨-, e1, e2, a, st', rfl, ha, hcat, h1⟩ | ⟨-, e1, b1, b2, b3, b4, r1, h1', b5, h1⟩
      · have key := ih _ _ _ _ _ _ _ _ h1 hM g1 (mathS_gds e1 g2) g3 g4 p l e s m args below meth c H lsA locs cells slots mc ms G C hn hl hP hz hS hc1 hc2
        obtain ⟨j1, j2, -⟩ := run_ok _ _ _ _ _ _ _ _ _ h1 hM g1 (mathS_gds e1 g2) g3 g4
        have hcs : cells ≤ mc ∧ slots ≤ ms := ⟨by omega, by omega⟩
        obtain ⟨idx, hok, hI⟩ := okN (cod_ok hM hq) hi
        obtain ⟨-, -, -, -, -, -, o7, o8, o10⟩ := hok
        have hd := cod_dec hM hq
        have hts := C.2.2.2.2.1
        have hsz : c.maxLocals = lsA.size := C.2.2.1.trans hl.2.1.symm
        have h3 : q.2.1 = 7 ∨ q.2.1 = 8 ∨ q.2.1 = 10 → q.1 = .invokestatic idx := fun h => by
          rcases hI with ⟨-, h'⟩ | ⟨h', -⟩ | ⟨-, h'⟩
          · omega
          · exact h'
          · omega
        rcases mathS_inv e1 with ⟨x, y, st', rfl, ⟨hk, rfl⟩ | ⟨hk, rfl⟩⟩ | ⟨x, y, st', rfl, hk, rfl⟩
        · have gy := (gds_cons.mp g2).1.1 rfl
          have gx := (gds_cons.mp (gds_cons.mp g2).2).1.1 rfl
          have hcat' := cat_sum (G := G) st' hcat
          obtain ⟨c1, c2, c3⟩ := o7 hk
          rw [h3 (Or.inl hk)] at hd
          refine va_mmin C.1 C.2.1 hsz C.2.2.2.1 (hts _ c1) (hts _ mw7.1) (hts _ mw) (hts _ mw7.2) c2 (Nat.le_trans (Nat.add_le_add_right hcat' 13) (Nat.le_trans (by decide) c3)) hcs.1 hcs.2 hd (top_i ?_ key)
          simp only [i3_lt gy gx]
          split
          · rw [Int.min_eq_right (by omega)]
          · rw [Int.min_eq_left (by omega)]
        · have gy := (gds_cons.mp g2).1.1 rfl
          have gx := (gds_cons.mp (gds_cons.mp g2).2).1.1 rfl
          have hcat' := cat_sum (G := G) st' hcat
          obtain ⟨c1, c2, c3⟩ := o8 hk
          rw [h3 (Or.inr (Or.inl hk))] at hd
          refine va_mmax C.1 C.2.1 hsz C.2.2.2.1 (hts _ c1) (hts _ mw8.1) (hts _ mw) (hts _ mw8.2) c2 (Nat.le_trans (Nat.add_le_add_right hcat' 13) (Nat.le_trans (by decide) c3)) hcs.1 hcs.2 hd (top_i ?_ key)
          simp only [i3_lt gx gy]
          split
          · rw [Int.max_eq_right (by omega)]
          · rw [Int.max_eq_left (by omega)]
        · have gy := (gds_cons.mp g2).1.2 rfl
          have gx := (gds_cons.mp (gds_cons.mp g2).2).1.2 rfl
          have hcat' := cat_sum (G := G) st' hcat
          obtain ⟨c1, c2, c3⟩ := o10 hk
          rw [h3 (Or.inr (Or.inr hk))] at hd
          refine va_mmin_long C.1 C.2.1 hsz C.2.2.2.1 (hts _ c1) (hts _ mw10.1) (hts _ mw) (hts _ mw10.2) c2 (Nat.le_trans (Nat.add_le_add_right hcat' 15) (Nat.le_trans (by decide) c3)) hcs.1 hcs.2 hd (top_l ?_ key)
          simp only [i6_lt gy gx]
          split
          · rw [Int.min_eq_right (by omega)]
          · rw [Int.min_eq_left (by omega)]
      · obtain ⟨idx, hok, hI⟩ := okN (cod_ok hM hq) hi
        obtain ⟨o6, -⟩ := hok
        obtain ⟨c1, c2, c3⟩ := o6 e2
        have h3 : q.1 = .invokespecial idx := by
          rcases hI with ⟨-, h⟩ | ⟨-, h⟩ | ⟨h, -⟩
          · omega
          · omega
          · exact h
        have hd := cod_dec hM hq
        rw [h3] at hd
        have hts := C.2.2.2.2.1
        have key := ih _ _ _ _ _ _ _ _ h1 hM g1 (gds_cons.mp g2).2 g3 g4 p l e s m args below meth c H lsA locs cells slots mc ms G C hn hl hP hz hS hc1 hc2
        show W p l e (rmM M mc ms) s m args below meth c H locs cells slots _ (F0 m pc lsA (cv G (1, a) :: st'.map (cv G)))
        rw [cv_ref ha]
        exact W.objInit C.1 C.2.1 C.2.2.2.1 (hts _ c1) (hts _ obI.1) (hts _ obI.2) rfl (hl.2.1.trans C.2.2.1.symm) rfl hd c2 (by
          have := cat_sum (G := G) _ hcat
          show 2 * 0 + _ + 12 ≤ mO M
          omega) key
      · obtain ⟨idx, hok, -⟩ := okN (cod_ok hM hq) hi
        have hN := ok_lt hok b3
        obtain ⟨k1, k2, k3, k4, k5⟩ := run_ok _ _ _ _ _ _ _ _ _ b5 (Nat.lt_trans hN.1 (by decide)) (gds_entA (gds_take g2)) gds_nil g3 g4
        obtain ⟨j1, j2, -⟩ := run_ok _ _ _ _ _ _ _ _ _ h1 hM g1 (gds_opt k5 (gds_drop g2)) k3 k4
        refine call_W (run_call (mc := mc) (ms := ms) ih C hn hM ⟨Nat.le_refl _, Nat.le_refl _, rfl, rfl⟩ hq hi rfl b1 b2 b3 b4 b5 g2 g3 g4 hl hP hz hS ⟨by omega, by omega⟩) hS fun H' locs' d1 d2 d3 => ?_
        exact ih _ _ _ _ _ _ _ _ h1 hM g1 (gds_opt k5 (gds_drop g2)) k3 k4 p l e s m args below meth c H' lsA locs' _ _ mc ms G C hn hl d1 d2 d3 (by omega) (by omega)
    · obtain ⟨k1, k2, k3, k4, k5⟩ := stp_ok (fun i d e => by
        have hk := (cod_ok hM hq).1
        unfold okR at hk
        rw [e] at hk
        obtain ⟨-, ty, hty, -⟩ := hk
        exact hty.elim (fun z => Or.inl z.1) (fun z => Or.inr z.1)) g4 hz1 g1 g2 g3
      obtain ⟨j1, j2, -⟩ := run_ok _ _ _ _ _ _ _ _ _ h1 hM k1 k2 k3 (stp_hlen g4 hz1)
      refine stp_W C (cod_dec hM hq) (cod_ok hM hq).1 hz1 g1 g2 hl hP hz hS ⟨?_, ?_⟩ ?_
      · show cells + z.2.2.2.length ≤ mc + hp.length
        omega
      · show slots + tot z.2.2.2 ≤ ms + tot hp
        omega
      · intro lsA' H' locs' cells' slots' d1 d2 d3 d4 d5 d6
        exact ih _ _ _ _ _ _ _ _ h1 hM k1 k2 k3 (stp_hlen g4 hz1) p l e s m args below meth c H' lsA' locs' cells' slots' mc ms G C hn d1 d2 d3 d4 (by omega) (by omega)
