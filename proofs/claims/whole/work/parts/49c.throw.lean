/-! open of the class where there is no such reading, no such question: it throws -/
def exI : String := "java/lang/IndexOutOfBoundsException"
def exN : String := "java/util/NoSuchElementException"
def nmX : List String := ["java/lang/RuntimeException", "java/lang/Exception"]
def isDC (w : Cond) : Bool := match w with
  | .declares _ => true
  | .castable _ _ => true
  | _ => false
def xT : List Cond := tables_1.filter isDC
def xsU (U : State) : Prop := ∀ w ∈ xT, va_Nw w U
theorem xsU_warm {s U : State} (hW : s.WarmedH U.vm) (h : xsU s) : xsU U := by
  intro w hw
  have hn : isDC w = true := (List.mem_filter.mp hw).2
  have h1 := h w hw
  cases w <;> first | exact va_Nw.warmD hW h1 | exact va_Nw.warmC hW h1 | exact absurd hn (by simp [isDC])
theorem xsU_same {u U : State} (hv : u.vm = U.vm) (h : xsU u) : xsU U := by
  intro w hw
  have hn : isDC w = true := (List.mem_filter.mp hw).2
  have h1 := h w hw
  cases w <;> first | exact va_Nw.same rfl hv h1 | exact absurd hn (by simp [isDC])
/-- what a throw stands on beside -/
def xsts (G : aG) (a1 a2 : Nat) (U : State) (H : Heap) : Prop :=
  vx_Zq Bundle.tN "UNASSIGNED_STACK" Bundle.steD (aA G) U H ∧ vx_Zq Bundle.tN "SUPPRESSED_SENTINEL" Bundle.listD (aA G) U H ∧ vk_R "ShortForms" 145 "no such reading" a1 U ∧ vk_R "ShortForms" 183 "no such what" a2 U ∧ xsU U ∧ va_Nc exN exI U
theorem xsts_warm {G : aG} {a1 a2 : Nat} {s U : State} {H : Heap} {locs : List Loc} (hW : s.WarmedH U.vm) (hS : va_S (aA G) s.heap H locs) (h : xsts G a1 a2 s s.heap) : xsts G a1 a2 U H :=
  ⟨(h.1.kept hS.2.1).moved hW.alike, (h.2.1.kept hS.2.1).moved hW.alike, h.2.2.1.warm hW, h.2.2.2.1.warm hW, xsU_warm hW h.2.2.2.2.1, va_Nc.moved hW.alike h.2.2.2.2.2⟩
theorem xsts_same {G : aG} {a1 a2 : Nat} {u U : State} {H : Heap} (hv : u.vm = U.vm) (h : xsts G a1 a2 u H) : xsts G a1 a2 U H := by
  have ha : u.vm.Alike U.vm := hv ▸ Vm.Alike.refl u.vm
  exact ⟨h.1.moved ha, h.2.1.moved ha, h.2.2.1.same hv.symm, h.2.2.2.1.same hv.symm, xsU_same hv h.2.2.2.2.1, va_Nc.moved ha h.2.2.2.2.2⟩
def Pxt (G : aG) (hp : aH) (a1 a2 : Nat) (U : State) : Prop := Pst false G hp U ∧ xsts G a1 a2 U U.heap
theorem Pxt_blind {G : aG} {hp : aH} {a1 a2 : Nat} {av : List Value} : FrameBlind (va_Pc av (Pxt G hp a1 a2)) := by
  intro a U g mk ⟨h0, h1, h2⟩
  obtain ⟨k0, k1⟩ := Pst_blind (al := false) (G := G) (hp := hp) (av := av) a U g mk ⟨h0, h1⟩
  exact ⟨h0, k1, xsts_same (u := U) (U := U.calling g mk a) rfl h2⟩
/-- where it has thrown -/
def xC (G : aG) (hp : aH) (X : String) : String → State → State → Prop := fun E st t => E = X ∧ reps G hp t.heap ∧ szk false G hp t.heap ∧ va_F (aA G) st t
def rmX : Room := { frames := mF 161 + 8, cells := 1, slots := 6, locals := mO 161 + 120 }
theorem nok161 : nok 161 := ⟨by decide, by decide +kernel⟩
set_option maxRecDepth 100000 in
theorem xa_I : (∀ w ∈ (vx_atS "ShortForms" 147 exI nmX).filter goodWord, w ∈ lw_tbl) ∧ (∀ w ∈ (vx_atS "ShortForms" 147 exI nmX).filter (fun w => !goodWord w), w ∈ xT) ∧ (∀ w ∈ [Cond.classLink "ShortForms" 143 exI, Cond.initialized exI], w ∈ lw_tbl ∧ goodWord w = true) := ⟨by decide +kernel, by decide +kernel, by decide +kernel⟩
set_option maxRecDepth 100000 in
theorem xa_N : (∀ w ∈ (xk_at "ShortForms" 185 exN "java/lang/RuntimeException" ["java/lang/Exception"] 13 prog_30_method_4_code).filter goodWord, w ∈ lw_tbl) ∧ (∀ w ∈ (xk_at "ShortForms" 185 exN "java/lang/RuntimeException" ["java/lang/Exception"] 13 prog_30_method_4_code).filter (fun w => !goodWord w), w ∈ xT) ∧ (∀ w ∈ [Cond.classLink "ShortForms" 181 exN, Cond.initialized exN], w ∈ lw_tbl ∧ goodWord w = true) := ⟨by decide +kernel, by decide +kernel, by decide +kernel⟩
set_option maxRecDepth 100000 in
theorem xo_I : ∀ w ∈ Cond.classLink "ShortForms" 143 exI :: Cond.initialized exI :: vx_atS "ShortForms" 147 exI nmX, vx_ot w = true := by decide +kernel
set_option maxRecDepth 100000 in
theorem xo_N : ∀ w ∈ Cond.classLink "ShortForms" 181 exN :: Cond.initialized exN :: xk_at "ShortForms" 185 exN "java/lang/RuntimeException" ["java/lang/Exception"] 13 prog_30_method_4_code, vx_ot w = true := by decide +kernel
theorem xT_on : ∀ w ∈ xT, w.onTables = true := fun w h => by
  have hn : isDC w = true := (List.mem_filter.mp h).2
  cases w <;> first | rfl | exact absurd hn (by simp [isDC])
theorem xh_at {L : List Cond} {args : Array Value} {s : State} (hts : ∀ w ∈ gT, w.before args s = true) (hx : xsU s) (h1 : ∀ w ∈ L.filter goodWord, w ∈ lw_tbl) (h2 : ∀ w ∈ L.filter (fun w => !goodWord w), w ∈ xT) : ∀ w ∈ L, w.before args s = true :=
  vx_hat (B := xT) (fun w h => hts _ (gT_mem (h1 w h) (List.mem_filter.mp h).2)) h2 fun w h => va_Nw.use (xT_on w h) (hx w h)
theorem reps_ext {G : aG} {hp : aH} {H H1 : Heap} (h : reps G hp H) (hz : szk false G hp H) (h1 : H.size ≤ H1.size) (h2 : ∀ q : Nat, q < H.size → H1[q]? = H[q]?) : reps G hp H1 ∧ szk false G hp H1 := by
  refine ⟨fun i c hc => ?_, Nat.le_trans hz.1 h1, fun h => by cases h⟩
  have hi : i < hp.length := (List.getElem?_eq_some_iff.mp hc).1
  exact rc_kept (h i c hc) (h2 _ (Nat.lt_of_lt_of_le (Nat.add_lt_add_left hi _) hz.1))
section THR
variable {p : Program} {l : Launch} {e : Env} {R : Room} {s : State} {m : MethodId} {args : Array Value} {below : List Frame} {meth : Method} {c : Code} {G : aG} {cB sB : Nat} {ls st : List aV} {mm : Mm} {a1 a2 : Nat}
theorem y_thI {Qc : Array Value → State → Outcome → State → Prop} (hfl : l.stackTraces = false) (D : DY p rmX s m args meth c G 161 0 0) (hx : xsts G a1 a2 s s.heap) (ht : ∀ x ∈ c.exceptionTable.toList, False) : Y p l e rmX s m args below meth c (vx_MQ below Qc (xC G (mk mm) exI) args s 1 6 (aA G)) G 161 0 0 8 ls [] mm := by
  intro g1 g2 g3 lsA H locs cells slots hl hP hz hS h1 h2
  obtain ⟨⟨hex, hb, hml, hown, hts, hr, hlk, hnm, hk, hst⟩, -⟩ := D
  refine vx_throwS (names := nmX) (cls := exI) (own := "ShortForms") (text := "no such reading") (ik := 143) (is := 145) (ic := 147) (sa := a1) (A := aA G) hex hb hfl hown (by decide +kernel) (by decide +kernel)
    (hts _ (gT_mem (xa_I.2.2 _ (by simp)).1 (xa_I.2.2 _ (by simp)).2)) (hts _ (gT_mem (xa_I.2.2 (Cond.initialized exI) (by simp)).1 (xa_I.2.2 (Cond.initialized exI) (by simp)).2)) hx.2.2.1 (xh_at hts hx.2.2.2.2.1 xa_I.1 xa_I.2.1) xo_I hx.1 hx.2.1 hS (hl.2.1.trans hml.symm)
    (by decide +kernel) (by decide +kernel) (by decide +kernel) (by decide +kernel) (by decide +kernel) (fun x h => (ht x h).elim) (by decide +kernel) (by show 0 + (13 * (nmX.length + 1) + 43) ≤ mO 161 + 120; decide +kernel) (by show cells + 1 ≤ 1; omega) (by show slots + 6 ≤ 6; omega) hlk (fun t hA q1 q2 => ?_) hS.2.2 (by omega) (by omega)
  obtain ⟨k1, k2⟩ := reps_ext hP hz q1 q2
  exact ⟨rfl, k1, k2, Nat.le_trans hS.1 q1, fun q j1 j2 => by rw [q2 q (Nat.lt_of_lt_of_le j1 hS.1)]; exact hS.2.1 q j1 j2⟩
theorem y_thN {Qc : Array Value → State → Outcome → State → Prop} (hfl : l.stackTraces = false) (D : DY p rmX s m args meth c G 161 0 0) (hx : xsts G a1 a2 s s.heap) (ht : ∀ x ∈ c.exceptionTable.toList, False) : Y p l e rmX s m args below meth c (vx_MQ below Qc (xC G (mk mm) exN) args s 1 6 (aA G)) G 161 0 0 128 ls [] mm := by
  intro g1 g2 g3 lsA H locs cells slots hl hP hz hS h1 h2
  obtain ⟨⟨hex, hb, hml, hown, hts, hr, hlk, hnm, hk, hst⟩, -⟩ := D
  refine xk_throwS (Y9 := "java/lang/RuntimeException") (r9 := ["java/lang/Exception"]) (k9 := 13) (bb := prog_30_method_4_code) (cls := exN) (own := "ShortForms") (text := "no such what") (ik := 181) (is := 183) (ic := 185) (sa := a2) (A := aA G) hex hb hfl hown (by decide +kernel) (by decide +kernel) (by decide +kernel) (by decide +kernel) (by decide +kernel) (by decide +kernel) (by decide +kernel)
    (hts _ (gT_mem (xa_N.2.2 _ (by simp)).1 (xa_N.2.2 _ (by simp)).2)) (hts _ (gT_mem (xa_N.2.2 (Cond.initialized exN) (by simp)).1 (xa_N.2.2 (Cond.initialized exN) (by simp)).2)) hx.2.2.2.1 (xh_at hts hx.2.2.2.2.1 xa_N.1 xa_N.2.1) xo_N hx.1 hx.2.1 hS (hl.2.1.trans hml.symm)
    (by decide +kernel) (by decide +kernel) (by decide +kernel) (by decide +kernel) (by decide +kernel) (fun x h => (ht x h).elim) (by decide +kernel) (by show 0 + (13 * (["java/lang/RuntimeException", "java/lang/Exception"].length + 1) + 43) ≤ mO 161 + 120; decide +kernel) (by show cells + 1 ≤ 1; omega) (by show slots + 6 ≤ 6; omega) hlk (fun t hA q1 q2 => ?_) hS.2.2 (by omega) (by omega)
  obtain ⟨k1, k2⟩ := reps_ext hP hz q1 q2
  exact ⟨rfl, k1, k2, Nat.le_trans hS.1 q1, fun q j1 j2 => by rw [q2 q (Nat.lt_of_lt_of_le j1 hS.1)]; exact hS.2.1 q j1 j2⟩
/-- the walk of open to its throw -/
theorem y_161 {E : Mm} {r q : Int} {Qc : Array Value → State → Outcome → State → Prop} (hfl : l.stackTraces = false) (D : DY p rmX s m args meth c G 161 0 0) (hx : xsts G a1 a2 s s.heap) (ht : ∀ x ∈ c.exceptionTable.toList, False) (S : CS shS E mm) {X : String} (hX : (thO E r q = 1 ∧ X = exI) ∨ (thO E r q = 2 ∧ X = exN)) :
    Y p l e rmX s m args below meth c (vx_MQ below Qc (xC G (mk mm) X) args s 1 6 (aA G)) G 161 0 0 0 [(1, 1), (0, r), (0, q), (9, 0)] [] mm := by
  have B := S.b
  have c1 := B.sT
  unfold thO at hX
  refine y_s D (q := (.aload_n 0, 0, 0, 0)) (cod_161 rfl) rfl ?_
  refine y_s D (q := (.iload_n 1, 0, 0, 0)) (cod_161 rfl) rfl ?_
  refine y_call D (as := [(1, 1), (0, r)]) (rest := []) (cod_161 rfl) rfl rfl rfl (Nat.le_of_ble_eq_true rfl) (rcv0 sq_l_1_0 sq_p_1 (by decide)) (Nat.le_of_ble_eq_true rfl) ?_
  refine x_pure (p70 c1) ?_
  show Y p l e rmX s m args below meth c _ G 161 0 0 5 [(1, 1), (0, r), (0, q), (9, 0)] [(0, bi (0 ≤ r ∧ r < mm (mm 1 3) 5))] mm
  have e5 : mm (mm 1 3) 5 = E 602 578 := B.rn
  rw [e5]
  refine y_if (P := 0 ≤ r ∧ r < E 602 578) (tgt := 18) D (cod_161 rfl) (by decide) xb_ne (fun h => ?_) (fun h => ?_)
  · rw [if_pos h] at hX
    have T2 := B.t.2.1
    have hq : ¬ (0 ≤ q ∧ q ≤ 6) := fun w => by
      rw [if_pos w] at hX
      rcases hX with ⟨h1, -⟩ | ⟨h1, -⟩ <;> exact absurd h1 (by decide)
    rw [if_neg hq] at hX
    have hXN : X = exN := by
      rcases hX with ⟨h1, -⟩ | ⟨-, h2⟩
      · exact absurd h1 (by decide)
      · exact h2
    subst hXN
    have c7 : 0 ≤ r ∧ r < 24 := by omega
    refine y_s D (q := (.aload_n 0, 0, 0, 0)) (cod_161 rfl) rfl ?_
    refine y_gf (kk := 3) (t := 1) D (cod_161 rfl) sq_p_1 sq_l_1_3 rfl rfl ?_
    refine y_gc (kk := 0) (cc := ((mm 1 3) + 1)) (t := 1) D (cod_161 rfl) c1 (sq_c_10_0 c1) rfl rfl ?_
    refine y_s D (q := (.iload_n 1, 0, 0, 0)) (cod_161 rfl) rfl ?_
    refine y_al D (Or.inr (Or.inr (Or.inr ⟨rfl, rfl, rfl, rfl⟩))) (cod_161 rfl) (by rw [(sq_oa_10_0 (j := r) c1 c7.1 c7.2).2.1]; decide) (sq_oa_10_0 (j := r) c1 c7.1 c7.2).1 ?_
    have hx1 : 1 ≤ (mm 1 3) + 6 + 2 * r := pos_of (sq_oa_10_0 (j := r) c1 c7.1 c7.2).2.2 (by decide)
    refine y_astn (ls' := [(1, 1), (0, r), (0, q), (1, (mm 1 3) + 6 + 2 * r)]) D (cod_161 rfl) hx1 rfl rfl ?_
    refine y_s D (q := (.iload_n 2, 0, 0, 0)) (cod_161 rfl) rfl ?_
    refine y_tswd D (cod_161 rfl) (by decide) (by omega) ?_
    exact y_thN hfl D hx ht
  · rw [if_neg h] at hX
    have hXI : X = exI := by
      rcases hX with ⟨-, h2⟩ | ⟨h1, -⟩
      · exact h2
      · exact absurd h1 (by decide)
    subst hXI
    exact y_thI hfl D hx ht
end THR
theorem met161 {l : Launch} (hfl : l.stackTraces = false) {G : aG} {a1 a2 : Nat} {E mm : Mm} {r q : Int} {X : String} (S : CS shS E mm) (gm : gdh (mk mm)) (ga : gds [(1, 1), (0, r), (0, q)]) (hX : (thO E r q = 1 ∧ X = exI) ∨ (thO E r q = 2 ∧ X = exN)) :
    vx_Met l (mY 161) (wsM 161) rmX (va_Pc ([(1, 1), (0, r), (0, q)].map (cv G)) (Pxt G (mk mm) a1 a2)) (fun _ _ _ _ => False) (xC G (mk mm) X) 1 6 (aA G) := by
  refine vx_ofW (cc := mB 161) (maxL := mL 161) (ret := mR 161) (mi_all 161 nok161).1 rfl ?_
  intro p e s m args below meth c s₁ B hml ht hv
  obtain ⟨rfl, ⟨hP, hz, hk, hst, hn⟩, hx⟩ := hv
  have hts := atoms_spec (ws := wsM 161) B.pre
  rw [lg_entry_eq]
  have D : DY p rmX s m ([(1, 1), (0, r), (0, q)].map (cv G)).toArray meth c G 161 0 0 :=
    ⟨⟨B.exec, B.bytes, hml, findClass_of_methodNamed B.named, fun w hw => hts w (List.mem_cons_of_mem _ hw), B.returns, B.notSynchronized, (name_of_methodNamed B.named B.method).1, hk, hst⟩, hn, by decide, ⟨Nat.le_add_right _ _, Nat.le_add_right _ _⟩, Nat.zero_le _, Nat.zero_le _⟩
  exact y_161 hfl D hx ht S hX (gds_entA (n := mL 161) ga) gds_nil gm _ s.heap [] 0 0 (lok_entry (as := [(1, 1), (0, r), (0, q)]) (n := mL 161) (Nat.le_of_ble_eq_true rfl)) hP hz va_S.rf (Nat.le_refl _) (Nat.le_refl _)
