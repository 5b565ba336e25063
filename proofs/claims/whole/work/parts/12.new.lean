theorem def_cv {G : aG} {ty : FieldType} (h : okT ty = true) : defaultValue ty = cv G (tagT ty, 0) := by
  cases ty <;> first | rfl | exact absurd h (by decide)
theorem def_arr {G : aG} (sh : Nat) (h : sh < 3) : defaultValue (aft sh) = cv G (tgA sh, 0) := by
  have : sh = 0 ∨ sh = 1 ∨ sh = 2 := by omega
  rcases this with rfl | rfl | rfl <;> rfl
theorem rep0 (n j : Nat) : (List.replicate n (0 : Int)).getD j 0 = 0 := by
  rw [List.getD_eq_getElem?_getD]
  cases h : (List.replicate n (0 : Int))[j]? with
  | none => rfl
  | some x => exact List.eq_of_mem_replicate (List.mem_of_getElem? h)
theorem tot_one (sh : Nat) (l : List Int) : tot [(sh, l)] = l.length := by simp [tot]
theorem vo_outer (c : ClassId) (N h0 : Nat) : ∀ i : Nat, Jvm.Free.Multi.outerC c N h0 i = arrV c N (fun j => if j < i then .ref (h0 + 1 + j) else .null)
  | 0 => by
    show ({ cls := c, slots := Array.replicate N .null, vm := .none } : Cell) = _
    rw [arrV_new]
    refine congrArg (arrV c N) (funext fun j => ?_)
    simp
  | i + 1 => by
    show (Jvm.Free.Multi.outerC c N h0 i).setSlot i (.ref (h0 + 1 + i)) = _
    rw [vo_outer c N h0 i, arrV_store]
    refine congrArg (arrV c N) (funext fun j => ?_)
    by_cases e : j = i
    · subst e
      simp [updV]
    · by_cases h : j < i
      · simp [updV, e, h, Nat.lt_succ_of_lt h]
      · simp [updV, e, h, show ¬ j < i + 1 by omega]
theorem arrV_eq (c : ClassId) (N : Nat) (f g : Nat → Value) (h : ∀ j, j < N → f j = g j) : arrV c N f = arrV c N g := by
  have e : (Array.ofFn (n := N) fun j => f j.val) = Array.ofFn (n := N) fun j => g j.val := by
    congr 1
    funext j
    exact h j.val j.isLt
  show ({ cls := c, slots := Array.ofFn (n := N) fun j => f j.val, vm := .none } : Cell) = { cls := c, slots := Array.ofFn (n := N) fun j => g j.val, vm := .none }
  rw [e]
section SND
variable {p : Program} {l : Launch} {e : Env} {R : Room} {s : State} {m : MethodId} {args : Array Value} {below : List Frame} {meth : Method} {c : Code} {H : Heap} {locs : List Loc} {cells slots : Nat} {Q : State → Prop} {G : aG} {M : Nat}
variable {pc : Nat} {ls st : List aV} {lsA : Array Slot} {hp : aH} {z : Nat × List aV × List aV × aH}
theorem cv_new {x : Nat} : cv G (1, (x : Int) + 1) = .ref (G.1 + x) := by
  rw [cv_ref (by omega), show ((x : Int) + 1 - 1).toNat = x by omega]
theorem new_W {idx ci y : Nat} {v : Int} (C : Cx G p s m args meth c M) (hci : ci < 13) (hd : decode (mB M) pc = .ok (.new idx, 3)) (hr : okR M (.new idx, v, ci, y)) (h : nwS hp ls st (pc + 3) ci = some z) (hl : lok G ls lsA (mL M)) (hP : reps G hp H) (hz : szk true G hp H) (hS : va_S (aA G) s.heap H locs) (hR : cells + z.2.2.2.length ≤ R.cells + hp.length ∧ slots + tot z.2.2.2 ≤ R.slots + tot hp) (K : KK p l e R s m args below meth c Q G M true cells slots hp z) : W p l e R s m args below meth c H locs cells slots Q (F0 m pc lsA (st.map (cv G))) := by
  unfold nwS at h
  obtain rfl := (Option.some.inj h).symm
  obtain ⟨r, f1, f2, f3, f4⟩ := hr hci
  simp only at f1 f2 f3 f4
  have hn : nfs ci = r.2.2 := by unfold nfs; rw [f1]
  rw [hn] at hR K
  simp only [List.length_append, List.length_cons, List.length_nil, tot_app, tot_one, List.length_replicate] at hR
  obtain ⟨-, hcp1, hcp2, hcp3⟩ := cls_ok ci r f1
  have hKn := C.2.2.2.2.2.2.2.2.1.1 ci r f1
  have hts := C.2.2.2.2.1
  refine W.newcK C.1 C.2.1 C.2.2.2.1 (hts _ f2) (hts _ f3) (hts _ f4) rfl hd (by omega) (by omega) hKn.2.1 rfl fun H1 kC hkC e1 z1 o1 => ?_
  have hsz := hz.2 rfl
  rw [hsz]
  have hb := u_born (aty ci) hts hcp1 hKn hkC e1 hcp2
  have key := K lsA H1 locs (cells + 1) (slots + r.2.2) hl (reps_app hP o1 (fun i d hd' => ?_)) ?_ (aS_push hS (by omega) o1) (by simp; omega) (by simp [tot_app, tot_one]; omega)
  · simp only [List.map_cons, cv_new] at key
    exact key
  · have hi : i = 0 := by
      have := (List.getElem?_eq_some_iff.mp hd').1
      simp at this; omega
    subst hi
    cases hd'
    refine Or.inr ⟨Nat.le_add_right _ _, r, by simpa using f1, by simp, ?_⟩
    simp only [show 20 + ci - 20 = ci by omega, Nat.add_zero, ← hsz]
    refine hb.to fun k hk => ?_
    rw [rep0]
    exact def_cv (aty_ok ci k)
  · refine ⟨by simp; omega, fun _ => by simp; omega⟩
theorem newarr_W {t : ArrayType} (C : Cx G p s m args meth c M) (ht : shOf t < 3) (hd : decode (mB M) pc = .ok (.newarray t, 2)) (h : naS hp ls st (pc + 2) (shOf t) = some z) (hl : lok G ls lsA (mL M)) (hP : reps G hp H) (hz : szk true G hp H) (hS : va_S (aA G) s.heap H locs) (hR : cells + z.2.2.2.length ≤ R.cells + hp.length ∧ slots + tot z.2.2.2 ≤ R.slots + tot hp) (K : KK p l e R s m args below meth c Q G M true cells slots hp z) : W p l e R s m args below meth c H locs cells slots Q (F0 m pc lsA (st.map (cv G))) := by
  obtain ⟨n, st', rfl, e1, e2, rfl⟩ := naS_inv h
  simp only [List.length_append, List.length_cons, List.length_nil, tot_app, tot_one, List.length_replicate] at hR
  have hty : newarray.typeOf t = aft (shOf t) ∧ componentBytes (aft (shOf t)) ≤ 8 ∧ Cond.arrayClass (aft (shOf t)) ∈ gT := by
    cases t <;> first | exact ⟨rfl, by decide, agI⟩ | exact ⟨rfl, by decide, agL⟩ | exact ⟨rfl, by decide, agZ⟩ | exact absurd ht (by decide)
  obtain ⟨hty, hcb, hag⟩ := hty
  have gn : -2147483648 ≤ n ∧ n < 2147483648 := by omega
  have hb : n.toNat * componentBytes (aft (shOf t)) ≤ 536870912 := Nat.le_trans (Nat.mul_le_mul (show n.toNat ≤ 60000 by omega) hcb) (by decide)
  refine va_newaK (N := n.toNat) C.1 C.2.1 (by rw [hty]; exact C.2.2.2.2.1 _ hag) rfl hd rfl (by rw [← i3_0, i3_lt gn inZ]; omega) (Clamp gn) (by rw [hty]; exact hb) (by omega) (by omega) rfl fun H1 cA d1 z1 o1 hAr hNm => ?_
  have hsz := hz.2 rfl
  rw [hsz]
  rw [hty] at d1 hNm
  have hcA : cA = gA G (shOf t) := Option.some.inj (hNm.symm.trans (C.2.2.2.2.2.2.2.2.1.2 (shOf t) (by omega)).1)
  subst hcA
  have key := K lsA H1 locs (cells + 1) (slots + n.toNat) hl (reps_app hP o1 (fun i d hd' => ?_)) ?_ (aS_push hS (by omega) o1) (by simp; omega) (by simp [tot_app, tot_one]; omega)
  · simp only [List.map_cons, cv_new] at key
    exact key
  · have hi : i = 0 := by
      have := (List.getElem?_eq_some_iff.mp hd').1
      simp at this; omega
    subst hi
    cases hd'
    refine Or.inl ⟨by simp only; omega, ?_⟩
    simp only [Nat.add_zero, ← hsz, List.length_replicate]
    rw [d1]
    refine congrArg some (arrV_eq _ _ _ _ fun j _ => ?_)
    rw [rep0]
    exact def_arr _ ht
  · exact ⟨by simp; omega, fun _ => by simp; omega⟩
theorem anewarr_W {idx sh y : Nat} {v : Int} (C : Cx G p s m args meth c M) (hd : decode (mB M) pc = .ok (.anewarray idx, 3)) (hr : okR M (.anewarray idx, v, sh, y)) (h : naS hp ls st (pc + 3) sh = some z) (hl : lok G ls lsA (mL M)) (hP : reps G hp H) (hz : szk true G hp H) (hS : va_S (aA G) s.heap H locs) (hR : cells + z.2.2.2.length ≤ R.cells + hp.length ∧ slots + tot z.2.2.2 ≤ R.slots + tot hp) (K : KK p l e R s m args below meth c Q G M true cells slots hp z) : W p l e R s m args below meth c H locs cells slots Q (F0 m pc lsA (st.map (cv G))) := by
  obtain ⟨n, st', rfl, e1, e2, rfl⟩ := naS_inv h
  simp only [List.length_append, List.length_cons, List.length_nil, tot_app, tot_one, List.length_replicate] at hR
  obtain ⟨hsh, CC, hft, hcl⟩ := hr
  simp only at hsh hft hcl
  have hs9 : sh < 9 ∧ 3 ≤ sh := by omega
  have hao := (C.2.2.2.2.2.2.2.2.1.2 sh hs9.1).2.2 hs9.2
  have hfc := (C.2.2.2.2.2.2.2.2.1.2 sh hs9.1).1
  rw [hft] at hao hfc
  have gn : -2147483648 ≤ n ∧ n < 2147483648 := by omega
  refine W.anew C.1 C.2.1 C.2.2.2.1 (C.2.2.2.2.1 _ hcl) hao rfl hd rfl (by rw [← i3_0, i3_lt gn inZ]; omega) (by rw [Clamp gn]; omega) (by omega) (by rw [Clamp gn]; omega) fun cA kA comp g1 g2 g3 g4 => ?_
  rw [Clamp gn]
  have hcA : cA = gA G sh := Option.some.inj (g1.symm.trans hfc)
  subst hcA
  generalize hH1 : H.push ({ cls := gA G sh, slots := Array.replicate n.toNat .null, vm := .none } : Cell) = H1
  have z1 : H1.size = H.size + 1 := by rw [← hH1, Array.size_push]
  have d1 : H1[H.size]? = some (arrV (gA G sh) n.toNat (fun _ => .null)) := by rw [← hH1, Array.getElem?_push_size, ← arrV_new]
  have o1 : ∀ q : Nat, q < H.size → H1[q]? = H[q]? := fun q hq => by rw [← hH1, Array.getElem?_push, if_neg (Nat.ne_of_lt hq)]
  have hsz := hz.2 rfl
  rw [hsz]
  have key := K lsA H1 locs (cells + 1) (slots + n.toNat) hl (reps_app hP o1 (fun i d hd' => ?_)) ?_ (aS_push hS (by omega) o1) (by simp; omega) (by simp [tot_app, tot_one]; omega)
  · simp only [List.map_cons, cv_new] at key
    exact key
  · have hi : i = 0 := by
      have := (List.getElem?_eq_some_iff.mp hd').1
      simp at this; omega
    subst hi
    cases hd'
    refine Or.inl ⟨hs9.1, ?_⟩
    simp only [Nat.add_zero, ← hsz, List.length_replicate]
    rw [d1]
    refine congrArg some (arrV_eq _ _ _ _ fun j _ => ?_)
    rw [rep0, show tgA sh = 1 by unfold tgA; rw [if_neg (by omega), if_neg (by omega)]]
    rfl
  · exact ⟨by simp; omega, fun _ => by simp; omega⟩
theorem tot_rep (n sh k : Nat) : tot (List.replicate n (sh, List.replicate k (0 : Int))) = n * k := by
  unfold tot
  rw [List.map_replicate, List.sum_replicate_nat]
  simp
theorem tot_consA (c : aC) (r : aH) : tot (c :: r) = c.2.length + tot r := by simp [tot]
theorem multi_W {idx d sh y : Nat} {v : Int} (C : Cx G p s m args meth c M) (hd : decode (mB M) pc = .ok (.multianewarray idx d, 4)) (hr : okR M (.multianewarray idx d, v, sh, y)) (h : nmS hp ls st (pc + 4) sh = some z) (hl : lok G ls lsA (mL M)) (hP : reps G hp H) (hz : szk true G hp H) (hS : va_S (aA G) s.heap H locs) (hR : cells + z.2.2.2.length ≤ R.cells + hp.length ∧ slots + tot z.2.2.2 ≤ R.slots + tot hp) (K : KK p l e R s m args below meth c Q G M true cells slots hp z) : W p l e R s m args below meth c H locs cells slots Q (F0 m pc lsA (st.map (cv G))) := by
  obtain ⟨n, k, st', rfl, e1, e2, e3, e4, rfl⟩ := nmS_inv h
  simp only [List.length_append, List.length_cons, List.length_replicate, tot_app, tot_consA, tot_rep, List.length_map, List.length_range] at hR
  obtain ⟨rfl, ty, hty, hcl⟩ := hr
  simp only at hty hcl
  have hs9 : sh < 9 ∧ 3 ≤ sh ∧ sh - 6 < 3 ∧ aft sh = .array ty ∧ aft (sh - 6) = ty := by rcases hty with ⟨rfl, rfl⟩ | ⟨rfl, rfl⟩ <;> exact ⟨by decide, by decide, by decide, rfl, rfl⟩
  obtain ⟨h9, h3, h6, hft, hfi⟩ := hs9
  have hkn := C.2.2.2.2.2.2.2.2.1
  have hao := (hkn.2 sh h9).2.2 h3
  have hfo := (hkn.2 sh h9).1
  have hfn := (hkn.2 (sh - 6) (by omega)).1
  rw [hft] at hao hfo
  rw [hfi] at hfn
  have hag : Cond.arrayClass ty ∈ gT := by rcases hty with ⟨-, rfl⟩ | ⟨-, rfl⟩ <;> first | exact agI | exact agL
  have gn : -2147483648 ≤ n ∧ n < 2147483648 := by omega
  have gk : -2147483648 ≤ k ∧ k < 2147483648 := by omega
  have hcb : componentBytes ty ≤ 8 := by rcases hty with ⟨-, rfl⟩ | ⟨-, rfl⟩ <;> decide
  have hdf : fits ty (defaultValue ty) = true ∧ (defaultValue ty).isDefault = true := by rcases hty with ⟨-, rfl⟩ | ⟨-, rfl⟩ <;> exact ⟨rfl, rfl⟩
  have hb2 : k.toNat * componentBytes ty ≤ 536870912 := Nat.le_trans (Nat.mul_le_mul (show k.toNat ≤ 60000 by omega) hcb) (by decide)
  have hsz := hz.2 rfl
  intro T hT Xs
  obtain ⟨vm₁, cA, comp, -, fA, fC, hO, -, X', step⟩ := Xs.multianewarray2F C.1 C.2.2.2.1 (C.2.2.2.2.1 _ hcl) hao (C.2.2.2.2.1 _ hag) (g := F0 m pc lsA (.int (i3 k) :: .int (i3 n) :: st'.map (cv G))) rfl (by rw [C.2.1]; exact hd) rfl (by rw [← i3_0, i3_lt gn inZ]; omega) (by rw [← i3_0, i3_lt gk inZ]; omega) (by rw [Clamp gn]; omega) (by rw [Clamp gk]; exact hb2) (by rw [Clamp gk]; omega) hdf.1 hdf.2 (by rw [Clamp gn]; omega) (by rw [Clamp gn, Clamp gk]; omega)
  rw [Clamp gn, Clamp gk] at X' step
  have hcA : cA = gA G sh := Option.some.inj (fA.symm.trans hfo)
  have hcC : comp = gA G (sh - 6) := Option.some.inj (fC.symm.trans hfn)
  subst hcA
  subst hcC
  generalize hF : Jvm.Free.Multi.fill (T.setVm vm₁) (gA G sh) (gA G (sh - 6)) n.toNat k.toNat (defaultValue ty) n.toNat = F at X' step
  have hTh : (T.setVm vm₁).heap = H := hT
  obtain ⟨f1, f2, -, -⟩ := Jvm.Free.Multi.fill_facts (T.setVm vm₁) (gA G sh) (gA G (sh - 6)) n.toNat k.toNat (defaultValue ty) n.toNat
  rw [hF, hTh] at f1 f2
  have o1 : ∀ x : Nat, x < H.size → F.heap[x]? = H[x]? := fun x hx => by
    have := Jvm.Free.Multi.fill_old (T.setVm vm₁) (gA G sh) (gA G (sh - 6)) n.toNat k.toNat (defaultValue ty) (a := x) (by rw [hTh]; exact hx) n.toNat
    rw [hF, hTh] at this
    exact this
  have hrow : ∀ j : Nat, j < n.toNat → F.heap[H.size + 1 + j]? = some (arrV (gA G (sh - 6)) k.toNat (fun _ => defaultValue ty)) := fun j hj => by
    have := Jvm.Free.Multi.fill_inner (T.setVm vm₁) (gA G sh) (gA G (sh - 6)) n.toNat k.toNat (defaultValue ty) n.toNat j hj
    rw [hF, hTh] at this
    rw [this]
    unfold Jvm.Free.Multi.innerC
    rw [arrV_new]
  rw [vo_outer] at f2
  have key := K lsA F.heap locs (cells + 1 + n.toNat) (slots + n.toNat + n.toNat * k.toNat) hl (reps_app hP o1 (fun i d hd' => ?_)) ?_ (aS_push hS (by omega) o1) (by simp; omega) (by simp only [tot_app, tot_consA, tot_rep, List.length_map, List.length_range]; omega)
  · simp only [List.map_cons, cv_new] at key
    obtain ⟨t, a1, b1⟩ := key F rfl X'
    refine ⟨t, step t ?_, b1⟩
    rw [show T.heap.size = G.1 + hp.length by rw [hT]; exact hsz]
    exact a1
  · cases i with
    | zero =>
      cases hd'
      refine Or.inl ⟨h9, ?_⟩
      simp only [Nat.add_zero, ← hsz, List.length_map, List.length_range]
      rw [f2]
      refine congrArg some (arrV_eq _ _ _ _ fun j hj => ?_)
      rw [if_pos hj, List.getD_eq_getElem?_getD, List.getElem?_map, List.getElem?_range hj, show tgA sh = 1 by unfold tgA; rw [if_neg (by omega), if_neg (by omega)]]
      simp only [Option.map_some, Option.getD_some]
      rw [cv_ref (by omega)]
      refine congrArg Value.ref (show (H.size + 1 + j : Nat) = G.1 + ((hp.length : Int) + 2 + (j : Int) - 1).toNat from ?_)
      omega
    | succ i =>
      simp only [List.getElem?_cons_succ] at hd'
      have hi : i < n.toNat := by
        have := (List.getElem?_eq_some_iff.mp hd').1
        simpa using this
      obtain rfl := List.eq_of_mem_replicate (List.mem_of_getElem? hd')
      refine Or.inl ⟨by simp only; omega, ?_⟩
      simp only [List.length_replicate]
      rw [show G.1 + hp.length + (i + 1) = H.size + 1 + i by omega, hrow i hi]
      refine congrArg some (arrV_eq _ _ _ _ fun j _ => ?_)
      rw [rep0, ← hfi]
      exact def_arr _ h6
  · exact ⟨by simp; omega, fun _ => by simp; omega⟩
end SND
