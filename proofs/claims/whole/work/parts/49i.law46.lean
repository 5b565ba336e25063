/-! the law's open and letter -/
section LAWO
variable {p : Program} {l : Launch} {e : Env} {s : State} {m : MethodId} {args : Array Value} {below : List Frame} {meth : Method} {c : Code} {Q : State → Prop} {G : aG} {cB sB b L : Nat} {xs : Nat → Int32} {E mm : Mm} {i : Int} {v5 v6 : aV} {a1 a2 : Nat}
theorem opq_rng {r q : Int} (S : CS shS E mm) (hr : 0 ≤ r ∧ r < E 602 578) (hq : 0 ≤ q ∧ q ≤ 6) (gm : gdh (mk mm)) (ga : gds [(1, 1), (0, r), (0, q)]) : -2147483648 ≤ s_opq E r q ∧ s_opq E r q < 2147483648 := by
  obtain ⟨f, rv, m', h1, v, rfl, h2⟩ := k161 (K := fun v _ => v = s_opq E r q) S hr hq rfl
  obtain ⟨-, -, -, -, k5⟩ := run_ok _ _ _ _ _ _ _ _ _ h1 (by decide) (gds_entA ga) gds_nil gm (mk_hlen mm)
  have := (k5 _ rfl).1 rfl
  simp only at this
  rw [h2] at this
  exact this
theorem opM_gd {r q : Int} (S : CS shS E mm) (gm : gdh (mk mm)) (ga : gds [(1, 1), (0, r), (0, q)]) : gdh (mk (opM E mm r q)) := by
  unfold opM
  split
  · next h0 =>
    have hh : (0 ≤ r ∧ r < E 602 578) ∧ 0 ≤ q ∧ q ≤ 6 := by
      unfold thO at h0
      split at h0
      · next h1 =>
        split at h0
        · next h2 => exact ⟨h1, h2⟩
        · omega
      · omega
    have hv := opq_rng S hh.1 hh.2 gm ga
    have hs : stp1 false (mk mm) [] [(2, s_opq E r q), (0, 0), (1, 626)] 9 (.lastore, 0, 0, 0) = some (9 + 1, [], [], mk (umem mm 626 0 (s_opq E r q))) := by
      show asS (mk mm) [] ((2, s_opq E r q) :: (0, 0) :: (1, 626) :: []) (9 + 1) 2 1 = _
      exact x_as (t := 2) (by decide +kernel : shp 626 = 1) (by decide +kernel : slot 626 0 = some none) rfl
    have KO := stp_ok (fun i d h => by cases h) (mk_hlen mm) hs gds_nil (gds_cons.mpr ⟨gd_long (by omega), gds_cons.mpr ⟨gd_int (by omega), gds_cons.mpr ⟨gd_oth (by decide) (by decide), gds_nil⟩⟩⟩) gm
    unfold okz at KO
    dsimp only at KO
    exact KO.2.2.1
  · exact gm
theorem opM_CS {r q : Int} (S : CS shS E mm) : CS shS E (opM E mm r q) := by
  unfold opM
  split
  · exact S.gQ (fun x k n1 n2 => um_n (by omega)) (by rw [um_x (by decide)]; exact S.b.h0)
  · exact S
/-- the call of the law's open -/
theorem y_open {r q : Int} {ls : List aV} {cB' sB' : Nat} (hfl : l.stackTraces = false) (D : DY p room_1 s m args meth c G 285 cB sB) (hx : xsts G a1 a2 s s.heap) (S : CS shS E mm) (hc : cB + 1 ≤ cB' ∧ sB + 6 ≤ sB') (hR : cB' ≤ 601024 ∧ sB' ≤ 7293034)
    (k : Y p l e room_1 s m args below meth c Q G 285 cB' sB' 377 ls [(0, thO E r q)] (opM E mm r q)) : Y p l e room_1 s m args below meth c Q G 285 cB sB 374 ls [(1, 626), (0, q), (0, r), (1, 1)] mm := by
  intro g1 g2 g3 lsA H locs cells slots hl hP hz hS h1 h2
  have C := D.1
  have hn := D.2.1
  have hts := C.2.2.2.2.1
  have ga : gds [(1, 1), (0, r), (0, q), (1, 626)] := fun v hv => g2 v (List.mem_reverse.mp hv)
  have ga3 : gds [(1, 1), (0, r), (0, q)] := fun v hv => ga v (by
    simp only [List.mem_cons, List.not_mem_nil, or_false] at hv ⊢
    rcases hv with h | h | h
    · exact Or.inl h
    · exact Or.inr (Or.inl h)
    · exact Or.inr (Or.inr (Or.inl h)))
  have hM := met286 (a1 := a1) (a2 := a2) hfl (G := G) (r := r) (q := q) S g3 ga
  have SF : CallFix p m c (mB 285) (mL 285) s args gT (mY 285).cls := ⟨C.1, C.2.1, C.2.2.1, C.2.2.2.1, hts⟩
  have hq9 : cod 285 374 = some (.invokestatic 39, 9, 998, 5) := cod_285 rfl
  have hT : GoodIn gT (va_wsS (mY 285).cls 39 (mY 286) ws286) := by
    intro w hw
    rcases List.mem_append.mp hw with h | h
    · have h' : w ∈ [Cond.classLink "ShortFormsLaw" 13 exI, Cond.classLink "ShortFormsLaw" 15 exN, Cond.methodLink "ShortFormsLaw" 39 (mY 286), Cond.static (mY 286), Cond.initialized "ShortFormsLaw"] := List.mem_cons_of_mem _ (List.mem_cons_of_mem _ h)
      exact ⟨xl_g h', gT_good _ (xl_g h')⟩
    · exact ws286_good w h
  have hPc : ∀ U : State, U.heap = H → s.WarmedH U.vm → va_Pc ([(1, 1), (0, r), (0, q), (1, 626)].map (cv G)) (Pxt G (mk mm) a1 a2) ([(1, 1), (0, r), (0, q), (1, 626)].map (cv G)).toArray U := fun U hU hW => ⟨rfl, Pst_at C hn hP hz hS hU hW, by rw [hU]; exact xsts_warm hW hS hx⟩
  have hrun := vx_runSW (rest := ([] : List aV).map (cv G)) (g := F0 m 374 lsA ([(1, 626), (0, q), (0, r), (1, 1)].map (cv G))) (As := [(1, 1), (0, r), (0, q), (1, 626)].map (cv G)) (R := room_1) (p := p) (l := l) (e := e) (s := s) (m := m) (args := args) (below := below) (meth := meth) (c := c) (H := H) (locs := locs) (cells := cells) (slots := slots) SF hM
    (vx_cwSW (maxL := mL 286) (ret := mR 286) (hh := hh286) (bytes := mB 286) 4 hts hT rfl rfl rfl ⟨by decide +kernel, by decide +kernel, by decide +kernel⟩ ⟨by decide +kernel, by decide +kernel⟩) ⟨Pxt_blind, hPc⟩ rfl rfl hl.2.1 rfl (lv_room (Nat.le_of_ble_eq_true rfl)) (cod_dec (by decide : 285 < 287) hq9) ⟨by show cells + 1 ≤ 601024; omega, by show slots + 6 ≤ 7293034; omega⟩
  have gth : gds [(0, thO E r q)] := gds_cons.mpr ⟨gd_int (by unfold thO; split <;> first | (split <;> omega) | omega), gds_nil⟩
  exact call_W (rest := []) (r1 := some (0, thO E r q)) (pc := 374) hrun hS fun H' locs' d1 d2 d3 => k g1 gth (opM_gd S g3 ga3) lsA H' locs' _ _ hl d1 d2 d3 (by omega) (by omega)
set_option maxRecDepth 100000 in
theorem law_4 {cB' sB' : Nat} (hfl : l.stackTraces = false) (D : DY p room_1 s m args meth c G 285 cB sB) (D' : DY p room_1 s m args meth c G 285 cB' sB') (hx : xsts G a1 a2 s s.heap) (hc : cB + 1 ≤ cB' ∧ sB + 6 ≤ sB') (Z : LwS G b L xs s) (S : CS shS E mm) (hi : 0 ≤ i ∧ i + 6 ≤ L) (kk : ∀ F m' v5 v6, CS shS F m' → Y p l e room_1 s m args below meth c Q G 285 cB' sB' 1368 [(5, 7), (1, 1), (1, 597), (1, 626), (0, i), v5, v6] [] m') :
    Y p l e room_1 s m args below meth c Q G 285 cB sB 360 [(5, 7), (1, 1), (1, 597), (1, 626), (0, i), v5, v6] [] mm := by
  refine y_s D (q := (.aload_n 1, 0, 0, 0)) (cod_285 rfl) rfl ?_
  refine y_arg (j := 1) D Z (cod_285 rfl) (cod_285 rfl) (cod_285 rfl) (cod_285 rfl) (cod_285 rfl) rfl rfl (by omega) (by omega) ?_
  refine y_arg (j := 2) D Z (cod_285 rfl) (cod_285 rfl) (cod_285 rfl) (cod_285 rfl) (cod_285 rfl) rfl rfl (by omega) (by omega) ?_
  generalize hr : (xs (i + 1).toNat).toInt = r
  generalize hq : (xs (i + 2).toNat).toInt = q
  refine y_s D (q := (.aload_n 3, 0, 0, 0)) (cod_285 rfl) rfl ?_
  refine y_open hfl D hx S hc ⟨D'.2.2.2.2.1, D'.2.2.2.2.2⟩ ?_
  have S1 := opM_CS (r := r) (q := q) S
  generalize hk : thO E r q = k
  refine y_s D' (q := (.istore 5, 0, 0, 0)) (cod_285 rfl) rfl ?_
  refine y_s D' (q := (.aload_n 2, 0, 0, 0)) (cod_285 rfl) rfl ?_
  refine y_arg (j := 1) D' Z (cod_285 rfl) (cod_285 rfl) (cod_285 rfl) (cod_285 rfl) (cod_285 rfl) rfl rfl (by omega) (by omega) ?_
  refine y_arg (j := 2) D' Z (cod_285 rfl) (cod_285 rfl) (cod_285 rfl) (cod_285 rfl) (cod_285 rfl) rfl rfl (by omega) (by omega) ?_
  rw [hr, hq]
  refine y_cI D' (as := [(1, 597), (0, r), (0, q)]) (rest := []) (cod_285 rfl) rfl rfl rfl (Nat.le_of_ble_eq_true rfl) (rcv0 sl597 sq_p_597 (by decide)) (Nat.le_of_ble_eq_true rfl) (r200 S1 fun m2 v S2 h0 hv h626 => ?_)
  refine y_s D' (q := (.istore 6, 0, 0, 0)) (cod_285 rfl) rfl ?_
  refine y_s D' (q := (.aload_n 2, 0, 0, 0)) (cod_285 rfl) rfl ?_
  refine y_cI D' (as := [(1, 597)]) (rest := []) (cod_285 rfl) rfl rfl rfl (Nat.le_of_ble_eq_true rfl) (rcv0 sl597 sq_p_597 (by decide)) (Nat.le_of_ble_eq_true rfl) (e164 ?_)
  refine y_s D' (q := (.iload 5, 0, 0, 0)) (cod_285 rfl) rfl ?_
  rw [h0, hk]
  have fin : Y p l e room_1 s m args below meth c Q G 285 cB' sB' 425 [(5, 7), (1, 1), (1, 597), (1, 626), (0, i), (0, k), (0, v)] [] m2 := y_go (tgt := 1368) D' (cod_285 rfl) (by decide) (kk E m2 _ _ S2)
  refine y_ic (P := True) (tgt := 408) D' (cod_285 rfl) (by decide) (by simp [cmpI]) (fun _ => ?_) fun h => absurd trivial h
  refine y_s D' (q := (.iload 5, 0, 0, 0)) (cod_285 rfl) rfl ?_
  refine y_if (P := ¬ k = 0) (tgt := 425) D' (cod_285 rfl) (by decide) xj_ne (fun _ => fin) fun h => ?_
  have k0 : k = 0 := Classical.byContradiction h
  have hv' : v = s_opq E r q := hv (hk.trans k0)
  have e626 : m2 626 0 = v := by
    rw [h626, hv']
    unfold opM
    rw [if_pos (hk.trans k0), um_s]
  refine y_s D' (q := (.aload_n 3, 0, 0, 0)) (cod_285 rfl) rfl ?_
  refine y_s D' (q := (.iconst 0, 0, 0, 0)) (cod_285 rfl) rfl ?_
  refine y_al D' (Or.inr (Or.inl ⟨rfl, rfl, rfl, rfl⟩)) (cod_285 rfl) (by decide +kernel) (by decide +kernel : slot 626 0 = some none) ?_
  rw [Option.getD_none, e626]
  refine y_s D' (q := (.iload 6, 0, 0, 0)) (cod_285 rfl) rfl ?_
  refine y_s D' (q := (.i2l, 0, 0, 0)) (cod_285 rfl) rfl ?_
  refine y_lc0 D' (cod_285 rfl) ?_
  exact y_if (P := True) (tgt := 425) D' (cod_285 rfl) (by decide) (by simp [cmpI]) (fun _ => fin) fun h => absurd trivial h
set_option maxRecDepth 100000 in
theorem law_6 (D : DY p room_1 s m args meth c G 285 cB sB) (Z : LwS G b L xs s) (S : CS shS E mm) (hi : 0 ≤ i ∧ i + 6 ≤ L) (kk : ∀ F m', CS shS F m' → Y p l e room_1 s m args below meth c Q G 285 cB sB 1368 [(5, 7), (1, 1), (1, 597), (1, 626), (0, i), v5, v6] [] m') :
    Y p l e room_1 s m args below meth c Q G 285 cB sB 465 [(5, 7), (1, 1), (1, 597), (1, 626), (0, i), v5, v6] [] mm := by
  refine y_s D (q := (.aload_n 1, 0, 0, 0)) (cod_285 rfl) rfl ?_
  refine y_arg (j := 1) D Z (cod_285 rfl) (cod_285 rfl) (cod_285 rfl) (cod_285 rfl) (cod_285 rfl) rfl rfl (by omega) (by omega) ?_
  refine y_b01 D (cod_285 rfl) (cod_285 rfl) (cod_285 rfl) (cod_285 rfl) ?_
  refine y_arg (j := 2) D Z (cod_285 rfl) (cod_285 rfl) (cod_285 rfl) (cod_285 rfl) (cod_285 rfl) rfl rfl (by omega) (by omega) ?_
  refine y_arg (j := 3) D Z (cod_285 rfl) (cod_285 rfl) (cod_285 rfl) (cod_285 rfl) (cod_285 rfl) rfl rfl (by omega) (by omega) ?_
  generalize hr : (xs (i + 1).toNat).toInt = r
  generalize ho : (if r = 0 then (0 : Int) else 1) = o
  generalize hw : (xs (i + 2).toNat).toInt = w
  generalize hj : (xs (i + 3).toNat).toInt = j
  have T : TrI 69 [(1, 1), (0, o), (0, w), (0, j)] mm fun w1 m1 => TrI 206 [(1, 597), (0, o), (0, w), (0, j)] m1 fun w2 m2 => Y p l e room_1 s m args below meth c Q G 285 cB sB 525 [(5, 7), (1, 1), (1, 597), (1, 626), (0, i), v5, v6] [(0, w2), (0, w1)] m2 := by
    exact CS.pI (K := fun w1 w2 m2 => Y p l e room_1 s m args below meth c Q G 285 cB sB 525 [(5, 7), (1, 1), (1, 597), (1, 626), (0, i), v5, v6] [(0, w2), (0, w1)] m2) S (fun K kk => k69 S.b S.r K kk) (fun m1 B K kk => r206 m1 B K kk) fun m' h => y_eqI D (cod_285 rfl) (by decide) (kk E m' h)
  refine y_cI D (as := [(1, 1), (0, o), (0, w), (0, j)]) (rest := []) (cod_285 rfl) rfl rfl rfl (Nat.le_of_ble_eq_true rfl) (rcv0 sq_l_1_0 sq_p_1 (by decide)) (Nat.le_of_ble_eq_true rfl) (TrI.imp T fun w1 m1 T2 => ?_)
  refine y_s D (q := (.aload_n 2, 0, 0, 0)) (cod_285 rfl) rfl ?_
  refine y_arg (j := 1) D Z (cod_285 rfl) (cod_285 rfl) (cod_285 rfl) (cod_285 rfl) (cod_285 rfl) rfl rfl (by omega) (by omega) ?_
  refine y_b01 D (cod_285 rfl) (cod_285 rfl) (cod_285 rfl) (cod_285 rfl) ?_
  rw [hr, ho]
  refine y_arg (j := 2) D Z (cod_285 rfl) (cod_285 rfl) (cod_285 rfl) (cod_285 rfl) (cod_285 rfl) rfl rfl (by omega) (by omega) ?_
  refine y_arg (j := 3) D Z (cod_285 rfl) (cod_285 rfl) (cod_285 rfl) (cod_285 rfl) (cod_285 rfl) rfl rfl (by omega) (by omega) ?_
  rw [hw, hj]
  exact y_cI D (as := [(1, 597), (0, o), (0, w), (0, j)]) (rest := [(0, w1)]) (cod_285 rfl) rfl rfl rfl (Nat.le_of_ble_eq_true rfl) (rcv0 sl597 sq_p_597 (by decide)) (Nat.le_of_ble_eq_true rfl) T2
end LAWO
