/-! WALKING ONE METHOD over the memory: Y, from here to Q (the method's own end or another) -/
def Y (p : Program) (l : Launch) (e : Env) (R : Room) (s : State) (m : MethodId) (args : Array Value) (below : List Frame) (meth : Method) (c : Code) (Q : State → Prop) (G : aG) (M cB sB pc : Nat) (ls st : List aV) (mm : Mm) : Prop :=
  gds ls → gds st → gdh (mk mm) → ∀ (lsA : Array Slot) (H : Heap) (locs : List Loc) (cells slots : Nat), lok G ls lsA (mL M) → reps G (mk mm) H → szk false G (mk mm) H → va_S (aA G) s.heap H locs → cells ≤ cB → slots ≤ sB →
  W p l e R s m args below meth c H locs cells slots Q (F0 m pc lsA (st.map (cv G)))
/-- what the walk of method M stands on -/
def DY (p : Program) (R : Room) (s : State) (m : MethodId) (args : Array Value) (meth : Method) (c : Code) (G : aG) (M cB sB : Nat) : Prop :=
  Cx G p s m args meth c M ∧ nst s ∧ M < 287 ∧ (mF M ≤ R.frames ∧ mO M ≤ R.locals) ∧ cB ≤ R.cells ∧ sB ≤ R.slots
theorem mk_hlen (M : Mm) : hlen (mk M) := by
  have h : ∀ c ∈ TmL, c.2.length ≤ 60000 := by decide +kernel
  intro c hc
  obtain ⟨i, hi, rfl⟩ := List.mem_mapIdx.mp hc
  show (List.mapIdx _ _).length ≤ 60000
  rw [List.length_mapIdx]
  exact h _ (List.getElem_mem _)
theorem mk_len (M M' : Mm) : (mk M').length = (mk M).length := by unfold mk; rw [List.length_mapIdx, List.length_mapIdx]
theorem mk_tot (M M' : Mm) : tot (mk M') = tot (mk M) := by
  have h : (mk M').map (fun c => c.2.length) = (mk M).map (fun c => c.2.length) := by
    apply List.ext_getElem?
    intro i
    rw [List.getElem?_map, List.getElem?_map]
    unfold mk
    rw [List.getElem?_mapIdx, List.getElem?_mapIdx]
    cases TmL[i]? with
    | none => rfl
    | some c => simp [mkC]
  exact congrArg List.sum h
section YR
variable {p : Program} {l : Launch} {e : Env} {R : Room} {s : State} {m : MethodId} {args : Array Value} {below : List Frame} {meth : Method} {c : Code} {Q : State → Prop} {G : aG} {M cB sB : Nat}
variable {pc : Nat} {ls st : List aV} {mm mm' : Mm}
theorem y_w {q : aI} {np : Nat} {ls' st' : List aV} (D : DY p R s m args meth c G M cB sB) (hq : cod M pc = some q) (hs : stp1 false (mk mm) ls st pc q = some (np, ls', st', mk mm')) (k : Y p l e R s m args below meth c Q G M cB sB np ls' st' mm') : Y p l e R s m args below meth c Q G M cB sB pc ls st mm := by
  intro g1 g2 g3 lsA H locs cells slots hl hP hz hS h1 h2
  obtain ⟨C, hn, hM, hR, hcB, hsB⟩ := D
  have ho := cod_ok hM hq
  have KO := stp_ok (fun i d e => by
        have hk := ho.1
        unfold okR at hk
        rw [e] at hk
        obtain ⟨-, ty, hty, -⟩ := hk
        exact hty.elim (fun z => Or.inl z.1) (fun z => Or.inr z.1)) (mk_hlen mm) hs g1 g2 g3
  unfold okz at KO
  dsimp only at KO
  obtain ⟨k1, k2, k3, k4, k5⟩ := KO
  refine stp_W C (cod_dec hM hq) ho.1 hs g1 g2 hl hP hz hS ⟨?_, ?_⟩ ?_
  · simp only [mk_len mm mm']
    exact Nat.add_le_add_right (Nat.le_trans h1 hcB) _
  · simp only [mk_tot mm mm']
    exact Nat.add_le_add_right (Nat.le_trans h2 hsB) _
  · intro lsA' H' locs' cells' slots' d1 d2 d3 d4 d5 d6
    dsimp only at d1 d2 d3
    simp only [mk_len mm mm'] at d5
    simp only [mk_tot mm mm'] at d6
    exact k k1 k2 k3 lsA' H' locs' cells' slots' d1 d2 d3 d4 (Nat.le_trans (Nat.le_of_eq (Nat.add_right_cancel d5)) h1) (Nat.le_trans (Nat.le_of_eq (Nat.add_right_cancel d6)) h2)
theorem y_call {N n : Nat} {v : Int} {I : Instr} {as rest : List aV} (D : DY p R s m args meth c G M cB sB) (hq : cod M pc = some (I, v, N, n)) (h2 : isInv I = true) (hst : st = as.reverse ++ rest) (hn : as.length = n) (hc : catS rest ≤ 8) (hr : rcvOK (mk mm) v N as = true) (he : (entL as).length ≤ mL N)
    (T : Tr N as mm fun rv m1 => Y p l e R s m args below meth c Q G M cB sB (pc + 3) ls (rv.toList ++ rest) m1) : Y p l e R s m args below meth c Q G M cB sB pc ls st mm := by
  intro g1 g2 g3 lsA H locs cells slots hl hP hz hS h1 h2'
  obtain ⟨C, hnn, hM, hR, hcB, hsB⟩ := D
  obtain ⟨f1, r1, m1, t1, k⟩ := T
  have e1 : st.take n = as.reverse := by rw [hst, ← hn, ← List.length_reverse, List.take_left]
  have e2 : st.drop n = rest := by rw [hst, ← hn, ← List.length_reverse, List.drop_left]
  have e3 : n ≤ st.length := by rw [hst, ← hn]; simp
  have e4 : (st.take n).reverse = as := by rw [e1, List.reverse_reverse]
  have ho := cod_ok hM hq
  obtain ⟨idx, hok, -⟩ := okN ho h2
  have hN := ok_lt hok hr
  have gas : gds as := by rw [← e4]; exact gds_take g2
  obtain ⟨k1, k2, k3, k4, k5⟩ := run_ok _ _ _ _ _ _ _ _ _ t1 (Nat.lt_trans hN.1 (by decide)) (gds_entA gas) gds_nil g3 (mk_hlen mm)
  have hl1 := mk_len mm m1
  have hl2 := mk_tot mm m1
  refine call_W (run_call (mc := R.cells) (ms := R.slots) (run_W f1) C hnn hM ⟨hR.1, hR.2, rfl, rfl⟩ hq h2 rfl e3 (by rw [e2]; exact hc) (by rw [e4]; exact hr) (by rw [e4]; exact he) (by rw [e4]; exact t1) g2 g3 (mk_hlen mm) hl hP hz hS ⟨by rw [hl1, Nat.sub_self]; exact Nat.le_trans h1 hcB, by rw [hl2, Nat.sub_self]; exact Nat.le_trans h2' hsB⟩) hS fun H' locs' d1 d2 d3 => ?_
  rw [e2]
  exact k g1 (gds_opt k5 (by rw [← e2]; exact gds_drop g2)) k3 lsA H' locs' _ _ hl d1 d2 d3 (by rw [hl1, Nat.sub_self]; exact h1) (by rw [hl2, Nat.sub_self]; exact h2')
/-- a step that changes no memory -/
theorem y_s {q : aI} {np : Nat} {ls' st' : List aV} (D : DY p R s m args meth c G M cB sB) (hq : cod M pc = some q) (hs : stp1 false (mk mm) ls st pc q = some (np, ls', st', mk mm)) (k : Y p l e R s m args below meth c Q G M cB sB np ls' st' mm) : Y p l e R s m args below meth c Q G M cB sB pc ls st mm := y_w D hq hs k
theorem y_cI {N n : Nat} {v : Int} {I : Instr} {as rest : List aV} (D : DY p R s m args meth c G M cB sB) (hq : cod M pc = some (I, v, N, n)) (h2 : isInv I = true) (hst : st = as.reverse ++ rest) (hn : as.length = n) (hc : catS rest ≤ 8) (hr : rcvOK (mk mm) v N as = true) (he : (entL as).length ≤ mL N)
    (T : TrI N as mm fun r m1 => Y p l e R s m args below meth c Q G M cB sB (pc + 3) ls ((0, r) :: rest) m1) : Y p l e R s m args below meth c Q G M cB sB pc ls st mm :=
  y_call D hq h2 hst hn hc hr he (X.imp T fun rv m' ⟨r, h, k⟩ => by rw [h]; exact k)
theorem y_cL {N n : Nat} {v : Int} {I : Instr} {as rest : List aV} (D : DY p R s m args meth c G M cB sB) (hq : cod M pc = some (I, v, N, n)) (h2 : isInv I = true) (hst : st = as.reverse ++ rest) (hn : as.length = n) (hc : catS rest ≤ 8) (hr : rcvOK (mk mm) v N as = true) (he : (entL as).length ≤ mL N)
    (T : TrL N as mm fun r m1 => Y p l e R s m args below meth c Q G M cB sB (pc + 3) ls ((2, r) :: rest) m1) : Y p l e R s m args below meth c Q G M cB sB pc ls st mm :=
  y_call D hq h2 hst hn hc hr he (X.imp T fun rv m' ⟨r, h, k⟩ => by rw [h]; exact k)
theorem y_if {co : ClassFile.Cond} {off : Int} {tgt : Nat} {x v : Int} {a b : Nat} {P : Prop} (D : DY p R s m args meth c G M cB sB) (hq : cod M pc = some (.ifCond co off, v, a, b)) (ht : (pc : Int) + off = (tgt : Int)) (hp : cmpI co x 0 = true ↔ P) (k1 : P → Y p l e R s m args below meth c Q G M cB sB tgt ls st mm) (k2 : ¬ P → Y p l e R s m args below meth c Q G M cB sB (pc + 3) ls st mm) : Y p l e R s m args below meth c Q G M cB sB pc ls ((0, x) :: st) mm := by
  have key : ∀ np, (if cmpI co x 0 then tgt else pc + 3) = np → stp1 false (mk mm) ls ((0, x) :: st) pc (.ifCond co off, v, a, b) = some (np, ls, st, mk mm) := fun np e => by
    show if1 (mk mm) ls ((0, x) :: st) pc co off = _
    simp only [if1]
    rw [if_pos (by omega), show ((pc : Int) + off).toNat = tgt by omega, e]
  by_cases hp' : P
  · exact y_s D hq (key tgt (if_pos (hp.mpr hp'))) (k1 hp')
  · exact y_s D hq (key (pc + 3) (if_neg (fun e => hp' (hp.mp e)))) (k2 hp')
theorem y_ic {co : ClassFile.Cond} {off : Int} {tgt : Nat} {x y v : Int} {a b : Nat} {P : Prop} (D : DY p R s m args meth c G M cB sB) (hq : cod M pc = some (.if_icmp co off, v, a, b)) (ht : (pc : Int) + off = (tgt : Int)) (hp : cmpI co x y = true ↔ P) (k1 : P → Y p l e R s m args below meth c Q G M cB sB tgt ls st mm) (k2 : ¬ P → Y p l e R s m args below meth c Q G M cB sB (pc + 3) ls st mm) : Y p l e R s m args below meth c Q G M cB sB pc ls ((0, y) :: (0, x) :: st) mm := by
  have key : ∀ np, (if cmpI co x y then tgt else pc + 3) = np → stp1 false (mk mm) ls ((0, y) :: (0, x) :: st) pc (.if_icmp co off, v, a, b) = some (np, ls, st, mk mm) := fun np e => by
    show if2 (mk mm) ls ((0, y) :: (0, x) :: st) pc co off = _
    simp only [if2]
    rw [if_pos (by omega), show ((pc : Int) + off).toNat = tgt by omega, e]
  by_cases hp' : P
  · exact y_s D hq (key tgt (if_pos (hp.mpr hp'))) (k1 hp')
  · exact y_s D hq (key (pc + 3) (if_neg (fun e => hp' (hp.mp e)))) (k2 hp')
theorem y_go {off : Int} {tgt : Nat} {v : Int} {a b : Nat} (D : DY p R s m args meth c G M cB sB) (hq : cod M pc = some (.goto off, v, a, b)) (ht : (pc : Int) + off = (tgt : Int)) (k : Y p l e R s m args below meth c Q G M cB sB tgt ls st mm) : Y p l e R s m args below meth c Q G M cB sB pc ls st mm := by
  refine y_s D hq ?_ k
  show jmp (mk mm) ls st pc off = _
  unfold jmp
  rw [if_pos (by omega), show ((pc : Int) + off).toNat = tgt by omega]
/-- a field that never changes, one that does -/
theorem y_gc {x kk cc : Int} {i ci k t : Nat} {v : Int} (D : DY p R s m args meth c G M cB sB) (hq : cod M pc = some (.getfield i, v, ci, k)) (hc : shp x = 20 + ci) (hk : slot x kk = some (some cc)) (hkk : kk = (k : Int)) (ht : ftag ci k = t) (K : Y p l e R s m args below meth c Q G M cB sB (pc + 3) ls ((t, cc) :: st) mm) : Y p l e R s m args below meth c Q G M cB sB pc ls ((1, x) :: st) mm := by
  subst hkk
  refine y_s D hq ?_ K
  obtain ⟨li, h1, -, h2⟩ := mk_rd (m := mm) hk
  show gfS (mk mm) ls ((1, x) :: st) (pc + 3) ci k = _
  simp only [gfS, h1, hc, if_true, ← ht]
  rw [show (k : Int).toNat = k from rfl] at h2
  rw [h2]
  rfl
theorem y_gf {x kk : Int} {i ci k t : Nat} {v : Int} (D : DY p R s m args meth c G M cB sB) (hq : cod M pc = some (.getfield i, v, ci, k)) (hc : shp x = 20 + ci) (hk : slot x kk = some none) (hkk : kk = (k : Int)) (ht : ftag ci k = t) (K : Y p l e R s m args below meth c Q G M cB sB (pc + 3) ls ((t, mm x kk) :: st) mm) : Y p l e R s m args below meth c Q G M cB sB pc ls ((1, x) :: st) mm := by
  subst hkk
  refine y_s D hq ?_ K
  obtain ⟨li, h1, -, h2⟩ := mk_rd (m := mm) hk
  show gfS (mk mm) ls ((1, x) :: st) (pc + 3) ci k = _
  simp only [gfS, h1, hc, if_true, ← ht]
  rw [show (k : Int).toNat = k from rfl] at h2
  rw [h2]
  rfl
/-- reading a place of an array -/
theorem y_al {x j : Int} {t lo hi : Nat} {v : Int} {a b : Nat} {I : Instr} (D : DY p R s m args meth c G M cB sB) (hI : (I = .iaload ∧ t = 0 ∧ lo = 0 ∧ hi = 0) ∨ (I = .laload ∧ t = 2 ∧ lo = 1 ∧ hi = 1) ∨ (I = .baload ∧ t = 0 ∧ lo = 2 ∧ hi = 2) ∨ (I = .aaload ∧ t = 1 ∧ lo = 3 ∧ hi = 8)) (hq : cod M pc = some (I, v, a, b)) (hs : lo ≤ shp x ∧ shp x ≤ hi) {o : Option Int} (hk : slot x j = some o) (K : Y p l e R s m args below meth c Q G M cB sB (pc + 1) ls ((t, o.getD (mm x j)) :: st) mm) : Y p l e R s m args below meth c Q G M cB sB pc ls ((0, j) :: (1, x) :: st) mm := by
  obtain ⟨li, h1, h0, h2⟩ := mk_rd (m := mm) hk
  have key : alS (mk mm) ls ((0, j) :: (1, x) :: st) (pc + 1) t lo hi = some (pc + 1, ls, (t, o.getD (mm x j)) :: st, mk mm) := by
    simp only [alS, h1]
    rw [if_pos ⟨hs.1, hs.2, h0⟩, h2]
    rfl
  rcases hI with ⟨rfl, rfl, rfl, rfl⟩ | ⟨rfl, rfl, rfl, rfl⟩ | ⟨rfl, rfl, rfl, rfl⟩ | ⟨rfl, rfl, rfl, rfl⟩
  · exact y_s D hq key K
  · exact y_s D hq key K
  · exact y_s D hq key K
  · exact y_s D hq key K
theorem y_last {x j z : Int} {v : Int} {a b : Nat} (D : DY p R s m args meth c G M cB sB) (hq : cod M pc = some (.lastore, v, a, b)) (hs : shp x = 1) (hk : slot x j = some none) (K : Y p l e R s m args below meth c Q G M cB sB (pc + 1) ls st (umem mm x j z)) : Y p l e R s m args below meth c Q G M cB sB pc ls ((2, z) :: (0, j) :: (1, x) :: st) mm := y_w D hq (x_as (t := 2) hs hk rfl) K
theorem y_astn {k : Fin 4} {x v : Int} {a b : Nat} {ls' : List aV} (D : DY p R s m args meth c G M cB sB) (hq : cod M pc = some (.astore_n k, v, a, b)) (hx : 1 ≤ x) (ho : lsok ls k.val = true) (hl : ls.set k.val (1, x) = ls') (K : Y p l e R s m args below meth c Q G M cB sB (pc + 1) ls' st mm) : Y p l e R s m args below meth c Q G M cB sB pc ls ((1, x) :: st) mm := by
  refine y_s D hq ?_ K
  show stS (mk mm) ls ((1, x) :: st) (pc + 1) 1 k.val = _
  unfold stS
  simp only [tok_1 hx, ho, Bool.and_self, if_true]
  rw [if_neg (by decide), hl]
theorem y_tswd {d lo hi : Int} {offs : Array Int} {x v : Int} {a b : Nat} (D : DY p R s m args meth c G M cB sB) (hq : cod M pc = some (.tableswitch d lo hi offs, v, a, b)) (hd : 0 ≤ (pc : Int) + d) (h : x < lo ∨ hi < x) (kd : Y p l e R s m args below meth c Q G M cB sB ((pc : Int) + d).toNat ls st mm) : Y p l e R s m args below meth c Q G M cB sB pc ls ((0, x) :: st) mm := by
  refine y_s D hq ?_ kd
  show swT (mk mm) ls ((0, x) :: st) pc d lo hi offs = _
  simp only [swT, if_pos h, jmp, if_pos hd]
end YR
