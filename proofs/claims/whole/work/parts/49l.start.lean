/-! the constructors in the law's own body: over a heap that grows -/
def Y0 (p : Program) (l : Launch) (e : Env) (s : State) (m : MethodId) (args : Array Value) (below : List Frame) (meth : Method) (c : Code) (Q : State → Prop) (G : aG) (pc : Nat) (ls st : List aV) (hp : aH) : Prop :=
  gds ls → gds st → gdh hp → hlen hp → ∀ (lsA : Array Slot) (H : Heap) (locs : List Loc) (cells slots : Nat), lok G ls lsA (mL 285) → reps G hp H → szk true G hp H → va_S (aA G) s.heap H locs → cells ≤ hp.length → slots ≤ tot hp →
  W p l e room_1 s m args below meth c H locs cells slots Q (F0 m pc lsA (st.map (cv G)))
section INI
variable {p : Program} {l : Launch} {e : Env} {s : State} {m : MethodId} {args : Array Value} {below : List Frame} {meth : Method} {c : Code} {Q : State → Prop} {G : aG} {pc : Nat} {ls st : List aV} {hp hp' : aH}
theorem y0_w {q : aI} {np : Nat} {ls' st' : List aV} (D : DY p room_1 s m args meth c G 285 0 0) (hq : cod 285 pc = some q) (hs : stp1 true hp ls st pc q = some (np, ls', st', hp')) (hR : hp'.length ≤ 601024 ∧ tot hp' ≤ 7293034) (k : Y0 p l e s m args below meth c Q G np ls' st' hp') : Y0 p l e s m args below meth c Q G pc ls st hp := by
  intro g1 g2 g3 g4 lsA H locs cells slots hl hP hz hS h1 h2
  obtain ⟨C, hn, hM, -⟩ := D
  have ho := cod_ok hM hq
  have KO := stp_ok (fun i d e => by
        have hk := ho.1
        unfold okR at hk
        rw [e] at hk
        obtain ⟨-, ty, hty, -⟩ := hk
        exact hty.elim (fun z => Or.inl z.1) (fun z => Or.inr z.1)) g4 hs g1 g2 g3
  unfold okz at KO
  dsimp only at KO
  obtain ⟨k1, k2, k3, k4, k5⟩ := KO
  refine stp_W C (cod_dec hM hq) ho.1 hs g1 g2 hl hP hz hS ⟨?_, ?_⟩ ?_
  · show cells + hp'.length ≤ 601024 + hp.length
    omega
  · show slots + tot hp' ≤ 7293034 + tot hp
    omega
  · intro lsA' H' locs' cells' slots' d1 d2 d3 d4 d5 d6
    dsimp only at d1 d2 d3 d5 d6
    exact k k1 k2 k3 (stp_hlen g4 hs) lsA' H' locs' cells' slots' d1 d2 d3 d4 (by omega) (by omega)
theorem y0_call {N n : Nat} {v : Int} {I : Instr} {as rest : List aV} (D : DY p room_1 s m args meth c G 285 0 0) (hq : cod 285 pc = some (I, v, N, n)) (h2 : isInv I = true) (hst : st = as.reverse ++ rest) (hn : as.length = n) (hc : catS rest ≤ 8) (hr : rcvOK hp v N as = true) (he : (entL as).length ≤ mL N)
    (T : ∃ f, runA f true N 0 (entA as (mL N)) [] hp = some (none, hp')) (hR : hp'.length ≤ 601024 ∧ tot hp' ≤ 7293034) (k : Y0 p l e s m args below meth c Q G (pc + 3) ls rest hp') : Y0 p l e s m args below meth c Q G pc ls st hp := by
  intro g1 g2 g3 g4 lsA H locs cells slots hl hP hz hS h1 h2'
  obtain ⟨C, hnn, hM, hR', -⟩ := D
  obtain ⟨f1, t1⟩ := T
  have e1 : st.take n = as.reverse := by rw [hst, ← hn, ← List.length_reverse, List.take_left]
  have e2 : st.drop n = rest := by rw [hst, ← hn, ← List.length_reverse, List.drop_left]
  have e3 : n ≤ st.length := by rw [hst, ← hn]; simp
  have e4 : (st.take n).reverse = as := by rw [e1, List.reverse_reverse]
  have ho := cod_ok hM hq
  obtain ⟨idx, hok, -⟩ := okN ho h2
  have hN := ok_lt hok hr
  have gas : gds as := by rw [← e4]; exact gds_take g2
  obtain ⟨k1, k2, k3, k4, k5⟩ := run_ok _ _ _ _ _ _ _ _ _ t1 (Nat.lt_trans hN.1 (by decide)) (gds_entA gas) gds_nil g3 g4
  refine call_W (run_call (mc := room_1.cells) (ms := room_1.slots) (run_W f1) C hnn hM ⟨hR'.1, hR'.2, rfl, rfl⟩ hq h2 rfl e3 (by rw [e2]; exact hc) (by rw [e4]; exact hr) (by rw [e4]; exact he) (by rw [e4]; exact t1) g2 g3 g4 hl hP hz hS ⟨?_, ?_⟩) hS fun H' locs' d1 d2 d3 => ?_
  · show cells + (hp'.length - hp.length) ≤ 601024
    omega
  · show slots + (tot hp' - tot hp) ≤ 7293034
    omega
  · rw [e2]
    exact k g1 (by rw [← e2]; exact gds_drop g2) k3 k4 lsA H' locs' _ _ hl d1 d2 d3 (by omega) (by omega)
set_option maxRecDepth 100000 in
theorem hC_len : hC.length = 596 ∧ tot hC ≤ 30000 := by decide +kernel
set_option maxRecDepth 100000 in
theorem hM_len : hM.length = 625 ∧ tot hM ≤ 30000 := by decide +kernel
set_option maxRecDepth 100000 in
theorem hE_len : (hM ++ [(1, [0])]).length = 626 ∧ tot (hM ++ [(1, [0])]) ≤ 30000 := by decide +kernel
set_option maxRecDepth 100000 in
theorem hS_len : (hC ++ [((32 : Nat), List.replicate 52 (0 : Int))]).length = 597 ∧ tot (hC ++ [((32 : Nat), List.replicate 52 (0 : Int))]) ≤ 30000 := by decide +kernel
set_option maxRecDepth 100000 in
theorem y0_start (D : DY p room_1 s m args meth c G 285 0 0) (k : Y p l e room_1 s m args below meth c Q G 285 (601024 - 4 * 512) (7293034 - 40 * 512) 23 [(5, 7), (1, 1), (1, 597), (1, 626), (0, 0), (9, 0), (9, 0)] [] m0) : Y0 p l e s m args below meth c Q G 0 [(5, 7), (9, 0), (9, 0), (9, 0), (9, 0), (9, 0), (9, 0)] [] [] := by
  refine y0_w D (np := 3) (ls' := [(5, 7), (9, 0), (9, 0), (9, 0), (9, 0), (9, 0), (9, 0)]) (st' := [(1, 1)]) (hp' := [(31, List.replicate 18 0)]) (q := (.new 8, 0, 11, 0)) (cod_285 rfl) rfl ⟨by decide +kernel, by decide +kernel⟩ ?_
  refine y0_w D (np := 4) (ls' := [(5, 7), (9, 0), (9, 0), (9, 0), (9, 0), (9, 0), (9, 0)]) (st' := [(1, 1), (1, 1)]) (hp' := [(31, List.replicate 18 0)]) (q := (.dup, 0, 0, 0)) (cod_285 rfl) rfl ⟨by decide +kernel, by decide +kernel⟩ ?_
  refine y0_call D (as := [(1, 1)]) (rest := [(1, 1)]) (cod_285 rfl) rfl rfl rfl (Nat.le_of_ble_eq_true rfl) rfl (Nat.le_of_ble_eq_true rfl) ctor0 ⟨by rw [hC_len.1]; decide, Nat.le_trans hC_len.2 (by decide)⟩ ?_
  have b0 : hC.length ≤ 601024 ∧ tot hC ≤ 7293034 := ⟨by rw [hC_len.1]; decide, Nat.le_trans hC_len.2 (by decide)⟩
  have b1 : (hC ++ [((32 : Nat), List.replicate 52 (0 : Int))]).length ≤ 601024 ∧ tot (hC ++ [((32 : Nat), List.replicate 52 (0 : Int))]) ≤ 7293034 := ⟨by rw [hS_len.1]; decide, Nat.le_trans hS_len.2 (by decide)⟩
  have b2 : hM.length ≤ 601024 ∧ tot hM ≤ 7293034 := ⟨by rw [hM_len.1]; decide, Nat.le_trans hM_len.2 (by decide)⟩
  have b3 : (hM ++ [(1, [0])]).length ≤ 601024 ∧ tot (hM ++ [(1, [0])]) ≤ 7293034 := ⟨by rw [hE_len.1]; decide, Nat.le_trans hE_len.2 (by decide)⟩
  refine y0_w D (np := 8) (ls' := [(5, 7), (1, 1), (9, 0), (9, 0), (9, 0), (9, 0), (9, 0)]) (st' := []) (hp' := hC) (q := (.astore_n 1, 0, 0, 0)) (cod_285 rfl) rfl b0 ?_
  refine y0_w D (np := 11) (ls' := [(5, 7), (1, 1), (9, 0), (9, 0), (9, 0), (9, 0), (9, 0)]) (st' := [(1, 597)]) (hp' := hC ++ [((32 : Nat), List.replicate 52 (0 : Int))]) (q := (.new 18, 0, 12, 0)) (cod_285 rfl) ?_ b1 ?_
  · have e9 : ((hC.length : Int) + 1) = 597 := by rw [hC_len.1]; rfl
    rw [← e9]
    rfl
  refine y0_w D (np := 12) (ls' := [(5, 7), (1, 1), (9, 0), (9, 0), (9, 0), (9, 0), (9, 0)]) (st' := [(1, 597), (1, 597)]) (hp' := hC ++ [((32 : Nat), List.replicate 52 (0 : Int))]) (q := (.dup, 0, 0, 0)) (cod_285 rfl) rfl b1 ?_
  refine y0_call D (as := [(1, 597)]) (rest := [(1, 597)]) (cod_285 rfl) rfl rfl rfl (Nat.le_of_ble_eq_true rfl) rfl (Nat.le_of_ble_eq_true rfl) ctorM b2 ?_
  refine y0_w D (np := 16) (ls' := [(5, 7), (1, 1), (1, 597), (9, 0), (9, 0), (9, 0), (9, 0)]) (st' := []) (hp' := hM) (q := (.astore_n 2, 0, 0, 0)) (cod_285 rfl) rfl b2 ?_
  refine y0_w D (np := 17) (ls' := [(5, 7), (1, 1), (1, 597), (9, 0), (9, 0), (9, 0), (9, 0)]) (st' := [(0, 1)]) (hp' := hM) (q := (.iconst 1, 0, 0, 0)) (cod_285 rfl) rfl b2 ?_
  refine y0_w D (np := 19) (ls' := [(5, 7), (1, 1), (1, 597), (9, 0), (9, 0), (9, 0), (9, 0)]) (st' := [(1, 626)]) (hp' := hM ++ [(1, [0])]) (q := (.newarray .long, 0, 0, 0)) (cod_285 rfl) ?_ b3 ?_
  · have e9 : ((hM.length : Int) + 1) = 626 := by rw [hM_len.1]; rfl
    rw [← e9]
    rfl
  refine y0_w D (np := 20) (ls' := [(5, 7), (1, 1), (1, 597), (1, 626), (9, 0), (9, 0), (9, 0)]) (st' := []) (hp' := hM ++ [(1, [0])]) (q := (.astore_n 3, 0, 0, 0)) (cod_285 rfl) rfl b3 ?_
  refine y0_w D (np := 21) (ls' := [(5, 7), (1, 1), (1, 597), (1, 626), (9, 0), (9, 0), (9, 0)]) (st' := [(0, 0)]) (hp' := hM ++ [(1, [0])]) (q := (.iconst 0, 0, 0, 0)) (cod_285 rfl) rfl b3 ?_
  refine y0_w D (np := 23) (ls' := [(5, 7), (1, 1), (1, 597), (1, 626), (0, 0), (9, 0), (9, 0)]) (st' := []) (hp' := hM ++ [(1, [0])]) (q := (.istore 4, 0, 0, 0)) (cod_285 rfl) rfl b3 ?_
  intro g1 g2 g3 g4 lsA H locs cells slots hl hP hz hS h1 h2
  rw [hE_len.1] at h1
  have h3 := Nat.le_trans h2 hE_len.2
  rw [mk_m0] at g3 hP hz
  exact k g1 g2 g3 lsA H locs cells slots hl hP ⟨hz.1, fun h => by cases h⟩ hS (by omega) (by omega)
end INI
theorem whole_start {p : Program} {e : Env} {s : State} {m : MethodId} {below : List Frame} {meth : Method} {c : Code} (l : Launch) (hflags : l.flags = flags0) {b L : Nat} {xs : Nat → Int32} (hL : L ≤ 3072) (C0 : lw_At p s m meth c b L xs) : W p l e room_1 s m #[Value.ref b] below meth c s.heap [] 0 0 (lw_Z below #[Value.ref b] s) (entryFrame m ([Value.ref b] : List Value).toArray 7) := by
  obtain ⟨hx, hb, hr, hml, hown, hts, hX, hbl, hlocks, hgv, hnm⟩ := C0
  have hfl : l.stackTraces = false := by
    unfold Launch.stackTraces
    rw [hflags]
    decide +kernel
  obtain ⟨G, g1, g2, kk, ks, hn, a1, a2, hxs⟩ := begin_G m.cls b hts (flat_of_before _ hgv)
  have D : DY p room_1 s m #[Value.ref b] meth c G 285 0 0 := by
    refine ⟨⟨hx, hb.trans mB285.symm, hml.trans (by decide +kernel), ?_, fun w hw => hts w (List.mem_filter.mp hw).1, hr.trans mR285.symm, hlocks, hnm.trans (by decide +kernel), kk, ks⟩, hn, by decide, ⟨by decide +kernel, by decide +kernel⟩, Nat.zero_le _, Nat.zero_le _⟩
    rw [show (mY 285).cls = R_law by decide +kernel]
    exact hown
  have Z : LwS G b L xs s := ⟨hX, hbl, g1, g2, hL⟩
  have key := y0_start (l := l) (e := e) (below := below) D (law_loop hfl D hxs Z 512 0 m0 m0 (9, 0) (9, 0) (Nat.le_refl _) CS0 (by decide) (by decide) (by omega))
  rw [lg_entry_eq]
  have hl := lok_entry (G := G) (as := [(5, 7)]) (n := 7) (Nat.le_of_ble_eq_true rfl)
  have e5 : cv G (5, 7) = .ref b := by
    show Value.ref (gV G (7 : Int).toNat) = _
    rw [show gV G (7 : Int).toNat = b from g2]
  rw [show [(5, 7)].map (cv G) = [Value.ref b] by rw [List.map_cons, List.map_nil, e5]] at hl
  exact key (gds_entA (l := [(5, 7)]) (n := 7) (gds_cons.mpr ⟨gd_oth (by decide) (by decide), gds_nil⟩)) gds_nil (fun _ h => by cases h) (fun _ h => by cases h) _ s.heap [] 0 0 hl (fun i c hc => by simp at hc) ⟨by rw [g1]; exact Nat.le_refl _, fun _ => by rw [g1]; rfl⟩ va_S.rf (Nat.zero_le _) (Nat.zero_le _)
