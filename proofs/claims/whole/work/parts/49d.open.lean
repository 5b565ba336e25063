/-! the law's own open: it calls open, catches what it throws -/
def hh286 : List (Nat × Nat × Nat × Nat) := [(0, 10, 13, 13), (0, 10, 17, 15)]
def ws286 : List Cond := Cond.codeWith (mY 286) (mB 286) (mL 286) (mR 286) hh286 :: gT
def rmO : Room := { frames := mF 161 + 10, cells := 1, slots := 6, locals := mO 161 + 160 }
set_option maxRecDepth 100000 in
theorem xw_286 : Cond.codeWith (mY 286) (mB 286) (mL 286) (mR 286) hh286 ∈ lw_tbl ∧ goodWord (Cond.codeWith (mY 286) (mB 286) (mL 286) (mR 286) hh286) = true := ⟨by decide +kernel, by decide +kernel⟩
set_option maxRecDepth 100000 in
theorem xl_286 : ∀ w ∈ [Cond.classLink "ShortFormsLaw" 13 exI, Cond.classLink "ShortFormsLaw" 15 exN, Cond.methodLink "ShortFormsLaw" 39 (mY 286), Cond.static (mY 286), Cond.initialized "ShortFormsLaw"], w ∈ lw_tbl ∧ goodWord w = true := by decide +kernel
set_option maxRecDepth 100000 in
theorem xc_286 : Cond.castable exI exI ∈ xT ∧ Cond.castable exN exN ∈ xT := by decide +kernel
theorem xl_g {w : Cond} (h : w ∈ [Cond.classLink "ShortFormsLaw" 13 exI, Cond.classLink "ShortFormsLaw" 15 exN, Cond.methodLink "ShortFormsLaw" 39 (mY 286), Cond.static (mY 286), Cond.initialized "ShortFormsLaw"]) : w ∈ gT := gT_mem (xl_286 w h).1 (xl_286 w h).2
theorem ws286_good : GoodIn gT ws286 := by
  intro w hw
  rcases List.mem_cons.mp hw with rfl | hw
  · exact ⟨gT_mem xw_286.1 xw_286.2, gT_good _ (gT_mem xw_286.1 xw_286.2)⟩
  · exact ⟨hw, gT_good _ hw⟩
/-- a contract of a method with a table of its own that returns -/
theorem met_ofWH {l : Launch} {y : MethodName} {ws ws' : List Cond} {rm : Room} {Pc : Array Value → State → Prop} {Qc : Array Value → State → Outcome → State → Prop} {mc ms : Nat} {free : Addr → Prop} {cc : ByteArray} {maxL : Nat} {ret : Option FieldType} {hh : List (Nat × Nat × Nat × Nat)}
    (hy : plainName y.cls = true) (hw : ws = Cond.codeWith y cc maxL ret hh :: ws')
    (body : ∀ p e s m args below meth c s₁, BodyLoose p l y (headSpec ws rm) cc maxL ret e s m args below meth c s₁ → c.maxLocals = maxL → Pc args s →
      W p l e (headSpec ws rm).room s m args below meth c s.heap [] 0 0 (MQ below Qc args s mc ms free) (entryFrame m args maxL)) : Met l y ws rm Pc Qc mc ms free := by
  refine MetFree.of_bodyS (code := cc) (maxLocals := maxL) (ret := ret) hy ?_ ?_
  · intro args s m h hn
    obtain ⟨m9, meth, c, hn9, h1, h2, h3, h4, -, h5, h6, -⟩ := Cond.codeWith_spec (atoms_spec (ws := ws) h _ (by rw [hw]; exact List.mem_cons_self))
    cases hn.symm.trans hn9
    exact ⟨meth, c, h1, h2, h3, h4, h5, h6⟩
  · intro p e s m args below meth c s₁ B hml hP _
    have hh0 : s₁.heap = s.heap := by rw [B.state]; rfl
    obtain ⟨t, a1, o, b1, b2, b3⟩ := body p e s m args below meth c s₁ B hml hP s₁ hh0 (Stand.of_body B)
    exact ⟨t, o, a1, b1, b2, ⟨b3.1, b3.2⟩⟩
section OPN
variable {p : Program} {l : Launch} {e : Env} {s : State} {m : MethodId} {args : Array Value} {below : List Frame} {meth : Method} {c : Code} {G : aG} {ls st : List aV} {mm : Mm} {a1 a2 : Nat}
/-- 'return k' of it, over any locals -/
theorem w_ret286 {H : Heap} {locs : List Loc} {cells slots pc : Nat} {lsA : Array Slot} {k : Int} (C : Cx G p s m args meth c 286) (hP : reps G (mk mm) H) (hz : szk false G (mk mm) H) (hS : va_S (aA G) s.heap H locs) (h1 : cells ≤ 1) (h2 : slots ≤ 6) (hd : decode (mB 286) pc = .ok (.ireturn, 1)) :
    W p l e rmO s m args below meth c H locs cells slots (MQ below (Qst false G (some (0, k)) (mk mm)) args s 1 6 (aA G)) (F0 m pc lsA [.int (i3 k)]) := by
  obtain ⟨hex, hb, hml, hown, hts, hr, hlk, hnm, hk, hst⟩ := C
  refine W.widen (k := 1) (n := 6) h1 h2 ?_
  exact W.iret hex hb (hr.trans (by decide +kernel)) (fun t ht hW => ⟨rfl, by rw [ht]; exact hP, by rw [ht]; exact hz, hS.F ht⟩) hS.2.2 hd hlk
/-- where open answers -/
theorem y_286v {E : Mm} {r q : Int} (D : DY p rmO s m args meth c G 286 0 0) (S : CS shS E mm) (hr : 0 ≤ r ∧ r < E 602 578) (hq : 0 ≤ q ∧ q ≤ 6) :
    Y p l e rmO s m args below meth c (MQ below (Qst false G (some (0, 0)) (mk (umem mm 626 0 (s_opq E r q)))) args s 1 6 (aA G)) G 286 0 0 0 [(1, 1), (0, r), (0, q), (1, 626), (9, 0)] [] mm := by
  refine y_s D (q := (.aload_n 3, 0, 0, 0)) (cod_286 rfl) rfl ?_
  refine y_s D (q := (.iconst 0, 0, 0, 0)) (cod_286 rfl) rfl ?_
  refine y_s D (q := (.aload_n 0, 0, 0, 0)) (cod_286 rfl) rfl ?_
  refine y_s D (q := (.iload_n 1, 0, 0, 0)) (cod_286 rfl) rfl ?_
  refine y_s D (q := (.iload_n 2, 0, 0, 0)) (cod_286 rfl) rfl ?_
  refine y_cI D (as := [(1, 1), (0, r), (0, q)]) (rest := [(0, 0), (1, 626)]) (cod_286 rfl) rfl rfl rfl (Nat.le_of_ble_eq_true rfl) (rcv0 sq_l_1_0 sq_p_1 (by decide)) (Nat.le_of_ble_eq_true rfl) (k161 S hr hq ?_)
  refine y_s D (q := (.i2l, 0, 0, 0)) (cod_286 rfl) rfl ?_
  refine y_last D (cod_286 rfl) (by decide +kernel : shp 626 = 1) (by decide +kernel : slot 626 0 = some none) ?_
  refine y_go (tgt := 21) D (cod_286 rfl) (by decide) ?_
  refine y_s D (q := (.iconst 0, 0, 0, 0)) (cod_286 rfl) rfl ?_
  intro g1 g2 g3 lsA H locs cells slots hl hP hz hS h1 h2
  exact w_ret286 (k := 0) D.1 hP hz hS (by omega) (by omega) (by decide +kernel)
/-- where open throws -/
theorem y_286t {E : Mm} {r q : Int} {X : String} {k : Int} (hfl : l.stackTraces = false) (D : DY p rmO s m args meth c G 286 0 0) (hx : xsts G a1 a2 s s.heap) (ht : c.exceptionTable.toList = tableOf hh286) (S : CS shS E mm) (ga : gds [(1, 1), (0, r), (0, q)]) (hX : (thO E r q = 1 ∧ X = exI ∧ k = 1) ∨ (thO E r q = 2 ∧ X = exN ∧ k = 2)) :
    Y p l e rmO s m args below meth c (MQ below (Qst false G (some (0, k)) (mk mm)) args s 1 6 (aA G)) G 286 0 0 0 [(1, 1), (0, r), (0, q), (1, 626), (9, 0)] [] mm := by
  refine y_s D (q := (.aload_n 3, 0, 0, 0)) (cod_286 rfl) rfl ?_
  refine y_s D (q := (.iconst 0, 0, 0, 0)) (cod_286 rfl) rfl ?_
  refine y_s D (q := (.aload_n 0, 0, 0, 0)) (cod_286 rfl) rfl ?_
  refine y_s D (q := (.iload_n 1, 0, 0, 0)) (cod_286 rfl) rfl ?_
  refine y_s D (q := (.iload_n 2, 0, 0, 0)) (cod_286 rfl) rfl ?_
  intro g1 g2 g3 lsA H locs cells slots hl hP hz hS h1 h2
  have C := D.1
  have hn := D.2.1
  have hts := C.2.2.2.2.1
  have hM := met161 (a1 := a1) (a2 := a2) (X := X) hfl (G := G) S g3 ga (hX.imp (fun h => ⟨h.1, h.2.1⟩) fun h => ⟨h.1, h.2.1⟩)
  have hq5 : cod 286 5 = some (.invokevirtual 7, 0, 161, 3) := cod_286 rfl
  obtain ⟨idx, hok, hI⟩ := okN (cod_ok (by decide : 286 < 287) hq5) rfl
  obtain ⟨i1, i2, i3', i4, i5⟩ := mi_all 161 nok161
  have hini := hts _ (cd_all 161 nok161.1).2
  have hidx : idx = 7 := by
    rcases hI with ⟨h, -⟩ | ⟨h, -⟩ | ⟨h, -⟩ <;> cases h
    rfl
  subst hidx
  obtain ⟨-, o0, -⟩ := hok
  obtain ⟨-, c1, c2, c3, c4, c5⟩ := o0 (Or.inl rfl)
  obtain ⟨li, e1, -, -⟩ := mk_rd (m := mm) sq_l_1_0
  rw [sq_p_1] at e1
  obtain ⟨rr, f1, f2, cell, f3, f4, f5, -⟩ := rc_obj (ci := 11) (reps_at hP e1)
  have hcls := i4 (by decide +kernel : mC 161 < 13)
  have f1' : vwCl[mC 161]? = some rr := f1
  rw [f1'] at hcls
  have hr1 : rr.1 = (mY 161).cls := Option.some.inj hcls
  have hkn := (C.2.2.2.2.2.2.2.2.1.1 _ _ f1).2.1
  have SF : CallFix p m c (mB 286) (mL 286) s args gT (mY 286).cls := ⟨C.1, C.2.1, C.2.2.1, C.2.2.2.1, hts⟩
  have hPc : ∀ U : State, U.heap = H → s.WarmedH U.vm → va_Pc ([(1, 1), (0, r), (0, q)].map (cv G)) (Pxt G (mk mm) a1 a2) ([(1, 1), (0, r), (0, q)].map (cv G)).toArray U := fun U hU hW => ⟨rfl, Pst_at C hn hP hz hS hU hW, by rw [hU]; exact xsts_warm hW hS hx⟩
  have hrun := vx_runV (rest := [(0, 0), (1, 626)].map (cv G)) (g := F0 m 5 lsA ([(0, q), (0, r), (1, 1), (0, 0), (1, 626)].map (cv G))) (As := [(0, r), (0, q)].map (cv G)) (b := G.1 + ((1 : Int) - 1).toNat) (C := (mY 161).cls) (p := p) (l := l) (e := e) (R := rmO) (s := s) (m := m) (args := args) (below := below) (meth := meth) (c := c) (H := H) (locs := locs) (cells := cells) (slots := slots) SF hM
    ⟨callB_of (mP 161) hts (wsM_good nok161.1) rfl rfl rfl hini (hts _ c2) ⟨i2.1, i2.2, i3'⟩ ⟨by decide +kernel, by decide +kernel⟩, hts _ c3, hts _ c4⟩ ⟨Pxt_blind, ⟨cell, f3, by rw [f5]; rfl, by rw [f4, ← hr1]; exact hkn⟩, hPc⟩ rfl (show 2 = mP 161 by decide +kernel) hl.2.1 rfl (lv_room (Nat.le_of_ble_eq_true rfl)) (cod_dec (by decide : 286 < 287) hq5) ⟨by show cells + 1 ≤ 1; omega, by show slots + 6 ≤ 6; omega⟩
  intro T hT XX
  rcases hrun T hT XX with ⟨v, st₀, t, T', L, h0, X', hL, e1, e2, hq, st⟩ | ⟨q9, st₀, t, T', L, EE, ce, h0, X', hL, e1, e2, ⟨hE, hr', hz', hF⟩, hce, hcv, hcl, st⟩
  · exact hq.elim
  · obtain ⟨k1, k2, k3⟩ := vx_keep h0 e1 hS (fun q _ h => h) (fun q h => h) hL hF
    rw [← e1] at hr' hz' hce
    have hand : ∀ pc : Nat, decode (mB 286) pc = .ok (.astore 4, 2) → decode (mB 286) (pc + 2) = .ok (.iconst k, 1) → decode (mB 286) (pc + 2 + 1) = .ok (.ireturn, 1) → W p l e rmO s m args below meth c T'.heap (locs ++ L) (cells + 1) (slots + 6) (MQ below (Qst false G (some (0, k)) (mk mm)) args s 1 6 (aA G)) (F0 m pc lsA [.ref q9]) := fun pc d0 d1 d2 => by
      refine lv_astore C.1 C.2.1 (i := 4) (nL := mL 286) (lv := []) (lv' := [(4, .ref q9)]) d0 (lv_sub hl.2 [] rfl) (by decide +kernel) rfl fun ls' hl' => ?_
      refine lv_iconst C.1 C.2.1 (v := i3 k) d1 rfl ?_
      exact w_ret286 C hr' hz' k3 (by omega) (by omega) d2
    have fin : vx_W p l e rmO s m args below meth c T'.heap (locs ++ L) (cells + 1) (slots + 6) (MQ below (Qst false G (some (0, k)) (mk mm)) args s 1 6 (aA G)) (F0 m 5 lsA ([(0, 0), (1, 626)].map (cv G))) q9 := by
      rcases hX with ⟨-, hXI, rfl⟩ | ⟨-, hXN, rfl⟩
      · refine vx_catch (own := "ShortFormsLaw") (name := exI) (E := EE) (ce := ce) C.2.2.2.1 [] ⟨0, 10, 13, 13⟩ [⟨0, 10, 17, 15⟩] ht (fun z hz => by cases hz) (by decide) (by decide) (hts _ (xl_g (by simp))) ?_ hce hcv hcl (hand 13 (by decide +kernel) (by decide +kernel) (by decide +kernel))
        rw [hE, hXI]
        exact va_Nw.use (xT_on _ xc_286.1) (hx.2.2.2.2.1 _ xc_286.1)
      · refine vx_catch (own := "ShortFormsLaw") (name := exN) (E := EE) (ce := ce) C.2.2.2.1 [⟨0, 10, 13, 13⟩] ⟨0, 10, 17, 15⟩ [] ht (fun z hz => ?_) (by decide) (by decide) (hts _ (xl_g (by simp))) ?_ hce hcv hcl (hand 17 (by decide +kernel) (by decide +kernel) (by decide +kernel))
        · rw [List.mem_singleton.mp hz]
          refine Or.inr ⟨by decide, exI, hts _ (xl_g (by simp)), ?_⟩
          rw [hE, hXN]
          exact hx.2.2.2.2.2
        · rw [hE, hXN]
          exact va_Nw.use (xT_on _ xc_286.2) (hx.2.2.2.2.1 _ xc_286.2)
    obtain ⟨t2, b1, b2⟩ := fin T' rfl X'
    exact ⟨t2, st.trans b1, b2⟩
end OPN
/-- what the law's open leaves: 0, 1 or 2, and in the first case the answer in its row -/
def opM (E mm : Mm) (r q : Int) : Mm := if thO E r q = 0 then umem mm 626 0 (s_opq E r q) else mm
theorem met286 {l : Launch} (hfl : l.stackTraces = false) {G : aG} {a1 a2 : Nat} {E mm : Mm} {r q : Int} (S : CS shS E mm) (gm : gdh (mk mm)) (ga : gds [(1, 1), (0, r), (0, q), (1, 626)]) :
    Met l (mY 286) ws286 rmO (va_Pc ([(1, 1), (0, r), (0, q), (1, 626)].map (cv G)) (Pxt G (mk mm) a1 a2)) (Qst false G (some (0, thO E r q)) (mk (opM E mm r q))) 1 6 (aA G) := by
  refine met_ofWH (cc := mB 286) (maxL := mL 286) (ret := mR 286) (hh := hh286) (by decide +kernel) rfl ?_
  intro p e s m args below meth c s₁ B hml hv
  obtain ⟨rfl, ⟨hP, hz, hk, hst, hn⟩, hx⟩ := hv
  have hts := atoms_spec (ws := ws286) B.pre
  have ht := vx_table (x := mY 286) B (hts _ List.mem_cons_self)
  rw [lg_entry_eq]
  have D : DY p rmO s m ([(1, 1), (0, r), (0, q), (1, 626)].map (cv G)).toArray meth c G 286 0 0 :=
    ⟨⟨B.exec, B.bytes, hml, findClass_of_methodNamed B.named, fun w hw => hts w (List.mem_cons_of_mem _ hw), B.returns, B.notSynchronized, (name_of_methodNamed B.named B.method).1, hk, hst⟩, hn, by decide, ⟨by decide +kernel, by decide +kernel⟩, Nat.zero_le _, Nat.zero_le _⟩
  have ga3 : gds [(1, 1), (0, r), (0, q)] := fun v hv => ga v (by
    simp only [List.mem_cons, List.not_mem_nil, or_false] at hv ⊢
    rcases hv with h | h | h
    · exact Or.inl h
    · exact Or.inr (Or.inl h)
    · exact Or.inr (Or.inr (Or.inl h)))
  have key : Y p l e rmO s m ([(1, 1), (0, r), (0, q), (1, 626)].map (cv G)).toArray below meth c (MQ below (Qst false G (some (0, thO E r q)) (mk (opM E mm r q))) ([(1, 1), (0, r), (0, q), (1, 626)].map (cv G)).toArray s 1 6 (aA G)) G 286 0 0 0 [(1, 1), (0, r), (0, q), (1, 626), (9, 0)] [] mm := by
    by_cases hr : 0 ≤ r ∧ r < E 602 578
    · by_cases hq : 0 ≤ q ∧ q ≤ 6
      · have h0 : thO E r q = 0 := by unfold thO; rw [if_pos hr, if_pos hq]
        unfold opM
        rw [h0, if_pos rfl]
        exact y_286v D S hr hq
      · have h0 : thO E r q = 2 := by unfold thO; rw [if_pos hr, if_neg hq]
        unfold opM
        rw [h0, if_neg (by decide)]
        exact y_286t hfl D hx ht S ga3 (Or.inr ⟨h0, rfl, rfl⟩)
    · have h0 : thO E r q = 1 := by unfold thO; rw [if_neg hr]
      unfold opM
      rw [h0, if_neg (by decide)]
      exact y_286t hfl D hx ht S ga3 (Or.inl ⟨h0, rfl, rfl⟩)
  exact key (gds_entA (n := mL 286) ga) gds_nil gm _ s.heap [] 0 0 (lok_entry (as := [(1, 1), (0, r), (0, q), (1, 626)]) (n := mL 286) (Nat.le_of_ble_eq_true rfl)) hP hz va_S.rf (Nat.le_refl _) (Nat.le_refl _)
