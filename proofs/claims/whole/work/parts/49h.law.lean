/-! the law, call by call: class and reference answer alike. Printed by wip/whole/gen49e.py -/
section LAWC
variable {p : Program} {l : Launch} {e : Env} {s : State} {m : MethodId} {args : Array Value} {below : List Frame} {meth : Method} {c : Code} {Q : State → Prop} {G : aG} {cB sB b L : Nat} {xs : Nat → Int32} {E mm : Mm} {i : Int} {v5 v6 : aV}
set_option maxRecDepth 100000 in
theorem law_28 (D : DY p room_1 s m args meth c G 285 cB sB) (Z : LwS G b L xs s) (S : CS shS E mm) (hi : 0 ≤ i ∧ i + 6 ≤ L) (kk : ∀ F m', CS shS F m' → Y p l e room_1 s m args below meth c Q G 285 cB sB 1368 [(5, 7), (1, 1), (1, 597), (1, 626), (0, i), v5, v6] [] m') :
    Y p l e room_1 s m args below meth c Q G 285 cB sB 1117 [(5, 7), (1, 1), (1, 597), (1, 626), (0, i), v5, v6] [] mm := by
  refine y_s D (q := (.aload_n 1, 0, 0, 0)) (cod_285 rfl) rfl ?_
  have T : TrI 142 [(1, 1)] mm fun w1 m1 => TrI 272 [(1, 597)] m1 fun w2 m2 => Y p l e room_1 s m args below meth c Q G 285 cB sB 1125 [(5, 7), (1, 1), (1, 597), (1, 626), (0, i), v5, v6] [(0, w2), (0, w1)] m2 := by
    exact p_learn (K := fun w1 w2 m2 => Y p l e room_1 s m args below meth c Q G 285 cB sB 1125 [(5, 7), (1, 1), (1, 597), (1, 626), (0, i), v5, v6] [(0, w2), (0, w1)] m2) S fun F m' w h => y_eqI D (cod_285 rfl) (by decide) (kk F m' h)
  refine y_cI D (as := [(1, 1)]) (rest := []) (cod_285 rfl) rfl rfl rfl (Nat.le_of_ble_eq_true rfl) (rcv0 sq_l_1_0 sq_p_1 (by decide)) (Nat.le_of_ble_eq_true rfl) (TrI.imp T fun w1 m1 T2 => ?_)
  refine y_s D (q := (.aload_n 2, 0, 0, 0)) (cod_285 rfl) rfl ?_
  exact y_cI D (as := [(1, 597)]) (rest := [(0, w1)]) (cod_285 rfl) rfl rfl rfl (Nat.le_of_ble_eq_true rfl) (rcv0 sl597 sq_p_597 (by decide)) (Nat.le_of_ble_eq_true rfl) T2
set_option maxRecDepth 100000 in
theorem law_29 (D : DY p room_1 s m args meth c G 285 cB sB) (Z : LwS G b L xs s) (S : CS shS E mm) (hi : 0 ≤ i ∧ i + 6 ≤ L) (kk : ∀ F m', CS shS F m' → Y p l e room_1 s m args below meth c Q G 285 cB sB 1368 [(5, 7), (1, 1), (1, 597), (1, 626), (0, i), v5, v6] [] m') :
    Y p l e room_1 s m args below meth c Q G 285 cB sB 1130 [(5, 7), (1, 1), (1, 597), (1, 626), (0, i), v5, v6] [] mm := by
  refine y_s D (q := (.aload_n 1, 0, 0, 0)) (cod_285 rfl) rfl ?_
  have T : TrI 145 [(1, 1)] mm fun w1 m1 => TrI 274 [(1, 597)] m1 fun w2 m2 => Y p l e room_1 s m args below meth c Q G 285 cB sB 1138 [(5, 7), (1, 1), (1, 597), (1, 626), (0, i), v5, v6] [(0, w2), (0, w1)] m2 := by
    exact p_forget (K := fun w1 w2 m2 => Y p l e room_1 s m args below meth c Q G 285 cB sB 1138 [(5, 7), (1, 1), (1, 597), (1, 626), (0, i), v5, v6] [(0, w2), (0, w1)] m2) S fun F m' w h => y_eqI D (cod_285 rfl) (by decide) (kk F m' h)
  refine y_cI D (as := [(1, 1)]) (rest := []) (cod_285 rfl) rfl rfl rfl (Nat.le_of_ble_eq_true rfl) (rcv0 sq_l_1_0 sq_p_1 (by decide)) (Nat.le_of_ble_eq_true rfl) (TrI.imp T fun w1 m1 T2 => ?_)
  refine y_s D (q := (.aload_n 2, 0, 0, 0)) (cod_285 rfl) rfl ?_
  exact y_cI D (as := [(1, 597)]) (rest := [(0, w1)]) (cod_285 rfl) rfl rfl rfl (Nat.le_of_ble_eq_true rfl) (rcv0 sl597 sq_p_597 (by decide)) (Nat.le_of_ble_eq_true rfl) T2
set_option maxRecDepth 100000 in
theorem law_30 (D : DY p room_1 s m args meth c G 285 cB sB) (Z : LwS G b L xs s) (S : CS shS E mm) (hi : 0 ≤ i ∧ i + 6 ≤ L) (kk : ∀ F m', CS shS F m' → Y p l e room_1 s m args below meth c Q G 285 cB sB 1368 [(5, 7), (1, 1), (1, 597), (1, 626), (0, i), v5, v6] [] m') :
    Y p l e room_1 s m args below meth c Q G 285 cB sB 1143 [(5, 7), (1, 1), (1, 597), (1, 626), (0, i), v5, v6] [] mm := by
  refine y_s D (q := (.aload_n 1, 0, 0, 0)) (cod_285 rfl) rfl ?_
  refine y_arg (j := 1) D Z (cod_285 rfl) (cod_285 rfl) (cod_285 rfl) (cod_285 rfl) (cod_285 rfl) rfl rfl (by omega) (by omega) ?_
  refine y_arg (j := 2) D Z (cod_285 rfl) (cod_285 rfl) (cod_285 rfl) (cod_285 rfl) (cod_285 rfl) rfl rfl (by omega) (by omega) ?_
  have T : TrI 147 [(1, 1), (0, ((xs (i + 1).toNat).toInt)), (0, ((xs (i + 2).toNat).toInt))] mm fun w1 m1 => TrI 276 [(1, 597), (0, ((xs (i + 1).toNat).toInt)), (0, ((xs (i + 2).toNat).toInt))] m1 fun w2 m2 => Y p l e room_1 s m args below meth c Q G 285 cB sB 1175 [(5, 7), (1, 1), (1, 597), (1, 626), (0, i), v5, v6] [(0, w2), (0, w1)] m2 := by
    exact p_weigh (K := fun w1 w2 m2 => Y p l e room_1 s m args below meth c Q G 285 cB sB 1175 [(5, 7), (1, 1), (1, 597), (1, 626), (0, i), v5, v6] [(0, w2), (0, w1)] m2) S fun F m' w h => y_eqI D (cod_285 rfl) (by decide) (kk F m' h)
  refine y_cI D (as := [(1, 1), (0, ((xs (i + 1).toNat).toInt)), (0, ((xs (i + 2).toNat).toInt))]) (rest := []) (cod_285 rfl) rfl rfl rfl (Nat.le_of_ble_eq_true rfl) (rcv0 sq_l_1_0 sq_p_1 (by decide)) (Nat.le_of_ble_eq_true rfl) (TrI.imp T fun w1 m1 T2 => ?_)
  refine y_s D (q := (.aload_n 2, 0, 0, 0)) (cod_285 rfl) rfl ?_
  refine y_arg (j := 1) D Z (cod_285 rfl) (cod_285 rfl) (cod_285 rfl) (cod_285 rfl) (cod_285 rfl) rfl rfl (by omega) (by omega) ?_
  refine y_arg (j := 2) D Z (cod_285 rfl) (cod_285 rfl) (cod_285 rfl) (cod_285 rfl) (cod_285 rfl) rfl rfl (by omega) (by omega) ?_
  exact y_cI D (as := [(1, 597), (0, ((xs (i + 1).toNat).toInt)), (0, ((xs (i + 2).toNat).toInt))]) (rest := [(0, w1)]) (cod_285 rfl) rfl rfl rfl (Nat.le_of_ble_eq_true rfl) (rcv0 sl597 sq_p_597 (by decide)) (Nat.le_of_ble_eq_true rfl) T2
set_option maxRecDepth 100000 in
theorem law_31 (D : DY p room_1 s m args meth c G 285 cB sB) (Z : LwS G b L xs s) (S : CS shS E mm) (hi : 0 ≤ i ∧ i + 6 ≤ L) (kk : ∀ F m', CS shS F m' → Y p l e room_1 s m args below meth c Q G 285 cB sB 1368 [(5, 7), (1, 1), (1, 597), (1, 626), (0, i), v5, v6] [] m') :
    Y p l e room_1 s m args below meth c Q G 285 cB sB 1180 [(5, 7), (1, 1), (1, 597), (1, 626), (0, i), v5, v6] [] mm := by
  refine y_s D (q := (.aload_n 1, 0, 0, 0)) (cod_285 rfl) rfl ?_
  refine y_arg (j := 1) D Z (cod_285 rfl) (cod_285 rfl) (cod_285 rfl) (cod_285 rfl) (cod_285 rfl) rfl rfl (by omega) (by omega) ?_
  refine y_arg (j := 2) D Z (cod_285 rfl) (cod_285 rfl) (cod_285 rfl) (cod_285 rfl) (cod_285 rfl) rfl rfl (by omega) (by omega) ?_
  have T : TrI 148 [(1, 1), (0, ((xs (i + 1).toNat).toInt)), (0, ((xs (i + 2).toNat).toInt))] mm fun w1 m1 => TrI 277 [(1, 597), (0, ((xs (i + 1).toNat).toInt)), (0, ((xs (i + 2).toNat).toInt))] m1 fun w2 m2 => Y p l e room_1 s m args below meth c Q G 285 cB sB 1212 [(5, 7), (1, 1), (1, 597), (1, 626), (0, i), v5, v6] [(0, w2), (0, w1)] m2 := by
    exact p_fix (K := fun w1 w2 m2 => Y p l e room_1 s m args below meth c Q G 285 cB sB 1212 [(5, 7), (1, 1), (1, 597), (1, 626), (0, i), v5, v6] [(0, w2), (0, w1)] m2) S fun F m' w h => y_eqI D (cod_285 rfl) (by decide) (kk F m' h)
  refine y_cI D (as := [(1, 1), (0, ((xs (i + 1).toNat).toInt)), (0, ((xs (i + 2).toNat).toInt))]) (rest := []) (cod_285 rfl) rfl rfl rfl (Nat.le_of_ble_eq_true rfl) (rcv0 sq_l_1_0 sq_p_1 (by decide)) (Nat.le_of_ble_eq_true rfl) (TrI.imp T fun w1 m1 T2 => ?_)
  refine y_s D (q := (.aload_n 2, 0, 0, 0)) (cod_285 rfl) rfl ?_
  refine y_arg (j := 1) D Z (cod_285 rfl) (cod_285 rfl) (cod_285 rfl) (cod_285 rfl) (cod_285 rfl) rfl rfl (by omega) (by omega) ?_
  refine y_arg (j := 2) D Z (cod_285 rfl) (cod_285 rfl) (cod_285 rfl) (cod_285 rfl) (cod_285 rfl) rfl rfl (by omega) (by omega) ?_
  exact y_cI D (as := [(1, 597), (0, ((xs (i + 1).toNat).toInt)), (0, ((xs (i + 2).toNat).toInt))]) (rest := [(0, w1)]) (cod_285 rfl) rfl rfl rfl (Nat.le_of_ble_eq_true rfl) (rcv0 sl597 sq_p_597 (by decide)) (Nat.le_of_ble_eq_true rfl) T2
set_option maxRecDepth 100000 in
theorem law_32 (D : DY p room_1 s m args meth c G 285 cB sB) (Z : LwS G b L xs s) (S : CS shS E mm) (hi : 0 ≤ i ∧ i + 6 ≤ L) (kk : ∀ F m', CS shS F m' → Y p l e room_1 s m args below meth c Q G 285 cB sB 1368 [(5, 7), (1, 1), (1, 597), (1, 626), (0, i), v5, v6] [] m') :
    Y p l e room_1 s m args below meth c Q G 285 cB sB 1217 [(5, 7), (1, 1), (1, 597), (1, 626), (0, i), v5, v6] [] mm := by
  refine y_s D (q := (.aload_n 1, 0, 0, 0)) (cod_285 rfl) rfl ?_
  refine y_arg (j := 1) D Z (cod_285 rfl) (cod_285 rfl) (cod_285 rfl) (cod_285 rfl) (cod_285 rfl) rfl rfl (by omega) (by omega) ?_
  have T : TrI 149 [(1, 1), (0, ((xs (i + 1).toNat).toInt))] mm fun w1 m1 => TrI 278 [(1, 597), (0, ((xs (i + 1).toNat).toInt))] m1 fun w2 m2 => Y p l e room_1 s m args below meth c Q G 285 cB sB 1237 [(5, 7), (1, 1), (1, 597), (1, 626), (0, i), v5, v6] [(0, w2), (0, w1)] m2 := by
    exact p_free (K := fun w1 w2 m2 => Y p l e room_1 s m args below meth c Q G 285 cB sB 1237 [(5, 7), (1, 1), (1, 597), (1, 626), (0, i), v5, v6] [(0, w2), (0, w1)] m2) S fun F m' w h => y_eqI D (cod_285 rfl) (by decide) (kk F m' h)
  refine y_cI D (as := [(1, 1), (0, ((xs (i + 1).toNat).toInt))]) (rest := []) (cod_285 rfl) rfl rfl rfl (Nat.le_of_ble_eq_true rfl) (rcv0 sq_l_1_0 sq_p_1 (by decide)) (Nat.le_of_ble_eq_true rfl) (TrI.imp T fun w1 m1 T2 => ?_)
  refine y_s D (q := (.aload_n 2, 0, 0, 0)) (cod_285 rfl) rfl ?_
  refine y_arg (j := 1) D Z (cod_285 rfl) (cod_285 rfl) (cod_285 rfl) (cod_285 rfl) (cod_285 rfl) rfl rfl (by omega) (by omega) ?_
  exact y_cI D (as := [(1, 597), (0, ((xs (i + 1).toNat).toInt))]) (rest := [(0, w1)]) (cod_285 rfl) rfl rfl rfl (Nat.le_of_ble_eq_true rfl) (rcv0 sl597 sq_p_597 (by decide)) (Nat.le_of_ble_eq_true rfl) T2
set_option maxRecDepth 100000 in
theorem law_33 (D : DY p room_1 s m args meth c G 285 cB sB) (Z : LwS G b L xs s) (S : CS shS E mm) (hi : 0 ≤ i ∧ i + 6 ≤ L) (kk : ∀ F m', CS shS F m' → Y p l e room_1 s m args below meth c Q G 285 cB sB 1368 [(5, 7), (1, 1), (1, 597), (1, 626), (0, i), v5, v6] [] m') :
    Y p l e room_1 s m args below meth c Q G 285 cB sB 1242 [(5, 7), (1, 1), (1, 597), (1, 626), (0, i), v5, v6] [] mm := by
  refine y_s D (q := (.aload_n 1, 0, 0, 0)) (cod_285 rfl) rfl ?_
  have T : TrI 150 [(1, 1)] mm fun w1 m1 => TrI 279 [(1, 597)] m1 fun w2 m2 => Y p l e room_1 s m args below meth c Q G 285 cB sB 1250 [(5, 7), (1, 1), (1, 597), (1, 626), (0, i), v5, v6] [(0, w2), (0, w1)] m2 := by
    exact p_fixed (K := fun w1 w2 m2 => Y p l e room_1 s m args below meth c Q G 285 cB sB 1250 [(5, 7), (1, 1), (1, 597), (1, 626), (0, i), v5, v6] [(0, w2), (0, w1)] m2) S fun F m' w h => y_eqI D (cod_285 rfl) (by decide) (kk F m' h)
  refine y_cI D (as := [(1, 1)]) (rest := []) (cod_285 rfl) rfl rfl rfl (Nat.le_of_ble_eq_true rfl) (rcv0 sq_l_1_0 sq_p_1 (by decide)) (Nat.le_of_ble_eq_true rfl) (TrI.imp T fun w1 m1 T2 => ?_)
  refine y_s D (q := (.aload_n 2, 0, 0, 0)) (cod_285 rfl) rfl ?_
  exact y_cI D (as := [(1, 597)]) (rest := [(0, w1)]) (cod_285 rfl) rfl rfl rfl (Nat.le_of_ble_eq_true rfl) (rcv0 sl597 sq_p_597 (by decide)) (Nat.le_of_ble_eq_true rfl) T2
set_option maxRecDepth 100000 in
theorem law_34 (D : DY p room_1 s m args meth c G 285 cB sB) (Z : LwS G b L xs s) (S : CS shS E mm) (hi : 0 ≤ i ∧ i + 6 ≤ L) (kk : ∀ F m', CS shS F m' → Y p l e room_1 s m args below meth c Q G 285 cB sB 1368 [(5, 7), (1, 1), (1, 597), (1, 626), (0, i), v5, v6] [] m') :
    Y p l e room_1 s m args below meth c Q G 285 cB sB 1255 [(5, 7), (1, 1), (1, 597), (1, 626), (0, i), v5, v6] [] mm := by
  refine y_s D (q := (.aload_n 1, 0, 0, 0)) (cod_285 rfl) rfl ?_
  refine y_arg (j := 1) D Z (cod_285 rfl) (cod_285 rfl) (cod_285 rfl) (cod_285 rfl) (cod_285 rfl) rfl rfl (by omega) (by omega) ?_
  refine y_arg (j := 2) D Z (cod_285 rfl) (cod_285 rfl) (cod_285 rfl) (cod_285 rfl) (cod_285 rfl) rfl rfl (by omega) (by omega) ?_
  refine y_arg (j := 3) D Z (cod_285 rfl) (cod_285 rfl) (cod_285 rfl) (cod_285 rfl) (cod_285 rfl) rfl rfl (by omega) (by omega) ?_
  have T : TrI 152 [(1, 1), (0, ((xs (i + 1).toNat).toInt)), (0, ((xs (i + 2).toNat).toInt)), (0, ((xs (i + 3).toNat).toInt))] mm fun w1 m1 => TrI 280 [(1, 597), (0, ((xs (i + 1).toNat).toInt)), (0, ((xs (i + 2).toNat).toInt)), (0, ((xs (i + 3).toNat).toInt))] m1 fun w2 m2 => Y p l e room_1 s m args below meth c Q G 285 cB sB 1299 [(5, 7), (1, 1), (1, 597), (1, 626), (0, i), v5, v6] [(0, w2), (0, w1)] m2 := by
    exact CS.pI (K := fun w1 w2 m2 => Y p l e room_1 s m args below meth c Q G 285 cB sB 1299 [(5, 7), (1, 1), (1, 597), (1, 626), (0, i), v5, v6] [(0, w2), (0, w1)] m2) S (fun K kk => k152 S.b S.r K kk) (fun m1 B K kk => r280 m1 B K kk) fun m' h => y_eqI D (cod_285 rfl) (by decide) (kk E m' h)
  refine y_cI D (as := [(1, 1), (0, ((xs (i + 1).toNat).toInt)), (0, ((xs (i + 2).toNat).toInt)), (0, ((xs (i + 3).toNat).toInt))]) (rest := []) (cod_285 rfl) rfl rfl rfl (Nat.le_of_ble_eq_true rfl) (rcv0 sq_l_1_0 sq_p_1 (by decide)) (Nat.le_of_ble_eq_true rfl) (TrI.imp T fun w1 m1 T2 => ?_)
  refine y_s D (q := (.aload_n 2, 0, 0, 0)) (cod_285 rfl) rfl ?_
  refine y_arg (j := 1) D Z (cod_285 rfl) (cod_285 rfl) (cod_285 rfl) (cod_285 rfl) (cod_285 rfl) rfl rfl (by omega) (by omega) ?_
  refine y_arg (j := 2) D Z (cod_285 rfl) (cod_285 rfl) (cod_285 rfl) (cod_285 rfl) (cod_285 rfl) rfl rfl (by omega) (by omega) ?_
  refine y_arg (j := 3) D Z (cod_285 rfl) (cod_285 rfl) (cod_285 rfl) (cod_285 rfl) (cod_285 rfl) rfl rfl (by omega) (by omega) ?_
  exact y_cI D (as := [(1, 597), (0, ((xs (i + 1).toNat).toInt)), (0, ((xs (i + 2).toNat).toInt)), (0, ((xs (i + 3).toNat).toInt))]) (rest := [(0, w1)]) (cod_285 rfl) rfl rfl rfl (Nat.le_of_ble_eq_true rfl) (rcv0 sl597 sq_p_597 (by decide)) (Nat.le_of_ble_eq_true rfl) T2
set_option maxRecDepth 100000 in
theorem law_35 (D : DY p room_1 s m args meth c G 285 cB sB) (Z : LwS G b L xs s) (S : CS shS E mm) (hi : 0 ≤ i ∧ i + 6 ≤ L) (kk : ∀ F m', CS shS F m' → Y p l e room_1 s m args below meth c Q G 285 cB sB 1368 [(5, 7), (1, 1), (1, 597), (1, 626), (0, i), v5, v6] [] m') :
    Y p l e room_1 s m args below meth c Q G 285 cB sB 1304 [(5, 7), (1, 1), (1, 597), (1, 626), (0, i), v5, v6] [] mm := by
  refine y_s D (q := (.aload_n 1, 0, 0, 0)) (cod_285 rfl) rfl ?_
  have T : TrI 154 [(1, 1)] mm fun w1 m1 => TrI 193 [(1, 597)] m1 fun w2 m2 => Y p l e room_1 s m args below meth c Q G 285 cB sB 1312 [(5, 7), (1, 1), (1, 597), (1, 626), (0, i), v5, v6] [(0, w2), (0, w1)] m2 := by
    exact p_undo (K := fun w1 w2 m2 => Y p l e room_1 s m args below meth c Q G 285 cB sB 1312 [(5, 7), (1, 1), (1, 597), (1, 626), (0, i), v5, v6] [(0, w2), (0, w1)] m2) S fun F m' w h => y_eqI D (cod_285 rfl) (by decide) (kk F m' h)
  refine y_cI D (as := [(1, 1)]) (rest := []) (cod_285 rfl) rfl rfl rfl (Nat.le_of_ble_eq_true rfl) (rcv0 sq_l_1_0 sq_p_1 (by decide)) (Nat.le_of_ble_eq_true rfl) (TrI.imp T fun w1 m1 T2 => ?_)
  refine y_s D (q := (.aload_n 2, 0, 0, 0)) (cod_285 rfl) rfl ?_
  exact y_cI D (as := [(1, 597)]) (rest := [(0, w1)]) (cod_285 rfl) rfl rfl rfl (Nat.le_of_ble_eq_true rfl) (rcv0 sl597 sq_p_597 (by decide)) (Nat.le_of_ble_eq_true rfl) T2
set_option maxRecDepth 100000 in
theorem law_36 (D : DY p room_1 s m args meth c G 285 cB sB) (Z : LwS G b L xs s) (S : CS shS E mm) (hi : 0 ≤ i ∧ i + 6 ≤ L) (kk : ∀ F m', CS shS F m' → Y p l e room_1 s m args below meth c Q G 285 cB sB 1368 [(5, 7), (1, 1), (1, 597), (1, 626), (0, i), v5, v6] [] m') :
    Y p l e room_1 s m args below meth c Q G 285 cB sB 1317 [(5, 7), (1, 1), (1, 597), (1, 626), (0, i), v5, v6] [] mm := by
  refine y_s D (q := (.aload_n 1, 0, 0, 0)) (cod_285 rfl) rfl ?_
  have T : TrI 156 [(1, 1)] mm fun w1 m1 => TrI 195 [(1, 597)] m1 fun w2 m2 => Y p l e room_1 s m args below meth c Q G 285 cB sB 1325 [(5, 7), (1, 1), (1, 597), (1, 626), (0, i), v5, v6] [(0, w2), (0, w1)] m2 := by
    exact p_keep (K := fun w1 w2 m2 => Y p l e room_1 s m args below meth c Q G 285 cB sB 1325 [(5, 7), (1, 1), (1, 597), (1, 626), (0, i), v5, v6] [(0, w2), (0, w1)] m2) S fun F m' w h => y_eqI D (cod_285 rfl) (by decide) (kk F m' h)
  refine y_cI D (as := [(1, 1)]) (rest := []) (cod_285 rfl) rfl rfl rfl (Nat.le_of_ble_eq_true rfl) (rcv0 sq_l_1_0 sq_p_1 (by decide)) (Nat.le_of_ble_eq_true rfl) (TrI.imp T fun w1 m1 T2 => ?_)
  refine y_s D (q := (.aload_n 2, 0, 0, 0)) (cod_285 rfl) rfl ?_
  exact y_cI D (as := [(1, 597)]) (rest := [(0, w1)]) (cod_285 rfl) rfl rfl rfl (Nat.le_of_ble_eq_true rfl) (rcv0 sl597 sq_p_597 (by decide)) (Nat.le_of_ble_eq_true rfl) T2
set_option maxRecDepth 100000 in
theorem law_37 (D : DY p room_1 s m args meth c G 285 cB sB) (Z : LwS G b L xs s) (S : CS shS E mm) (hi : 0 ≤ i ∧ i + 6 ≤ L) (kk : ∀ F m', CS shS F m' → Y p l e room_1 s m args below meth c Q G 285 cB sB 1368 [(5, 7), (1, 1), (1, 597), (1, 626), (0, i), v5, v6] [] m') :
    Y p l e room_1 s m args below meth c Q G 285 cB sB 1330 [(5, 7), (1, 1), (1, 597), (1, 626), (0, i), v5, v6] [] mm := by
  refine y_s D (q := (.aload_n 1, 0, 0, 0)) (cod_285 rfl) rfl ?_
  have T : TrI 158 [(1, 1)] mm fun w1 m1 => TrI 199 [(1, 597)] m1 fun w2 m2 => Y p l e room_1 s m args below meth c Q G 285 cB sB 1338 [(5, 7), (1, 1), (1, 597), (1, 626), (0, i), v5, v6] [(0, w2), (0, w1)] m2 := by
    exact p_back (K := fun w1 w2 m2 => Y p l e room_1 s m args below meth c Q G 285 cB sB 1338 [(5, 7), (1, 1), (1, 597), (1, 626), (0, i), v5, v6] [(0, w2), (0, w1)] m2) S fun F m' w h => y_eqI D (cod_285 rfl) (by decide) (kk F m' h)
  refine y_cI D (as := [(1, 1)]) (rest := []) (cod_285 rfl) rfl rfl rfl (Nat.le_of_ble_eq_true rfl) (rcv0 sq_l_1_0 sq_p_1 (by decide)) (Nat.le_of_ble_eq_true rfl) (TrI.imp T fun w1 m1 T2 => ?_)
  refine y_s D (q := (.aload_n 2, 0, 0, 0)) (cod_285 rfl) rfl ?_
  exact y_cI D (as := [(1, 597)]) (rest := [(0, w1)]) (cod_285 rfl) rfl rfl rfl (Nat.le_of_ble_eq_true rfl) (rcv0 sl597 sq_p_597 (by decide)) (Nat.le_of_ble_eq_true rfl) T2
set_option maxRecDepth 100000 in
theorem law_38 (D : DY p room_1 s m args meth c G 285 cB sB) (Z : LwS G b L xs s) (S : CS shS E mm) (hi : 0 ≤ i ∧ i + 6 ≤ L) (kk : ∀ F m', CS shS F m' → Y p l e room_1 s m args below meth c Q G 285 cB sB 1368 [(5, 7), (1, 1), (1, 597), (1, 626), (0, i), v5, v6] [] m') :
    Y p l e room_1 s m args below meth c Q G 285 cB sB 1343 [(5, 7), (1, 1), (1, 597), (1, 626), (0, i), v5, v6] [] mm := by
  refine y_s D (q := (.aload_n 1, 0, 0, 0)) (cod_285 rfl) rfl ?_
  refine y_arg (j := 1) D Z (cod_285 rfl) (cod_285 rfl) (cod_285 rfl) (cod_285 rfl) (cod_285 rfl) rfl rfl (by omega) (by omega) ?_
  have T : TrI 159 [(1, 1), (0, ((xs (i + 1).toNat).toInt))] mm fun w1 m1 => TrI 283 [(1, 597), (0, ((xs (i + 1).toNat).toInt))] m1 fun w2 m2 => Y p l e room_1 s m args below meth c Q G 285 cB sB 1363 [(5, 7), (1, 1), (1, 597), (1, 626), (0, i), v5, v6] [(0, w2), (0, w1)] m2 := by
    exact p_count (K := fun w1 w2 m2 => Y p l e room_1 s m args below meth c Q G 285 cB sB 1363 [(5, 7), (1, 1), (1, 597), (1, 626), (0, i), v5, v6] [(0, w2), (0, w1)] m2) S fun F m' w h => y_eqI D (cod_285 rfl) (by decide) (kk F m' h)
  refine y_cI D (as := [(1, 1), (0, ((xs (i + 1).toNat).toInt))]) (rest := []) (cod_285 rfl) rfl rfl rfl (Nat.le_of_ble_eq_true rfl) (rcv0 sq_l_1_0 sq_p_1 (by decide)) (Nat.le_of_ble_eq_true rfl) (TrI.imp T fun w1 m1 T2 => ?_)
  refine y_s D (q := (.aload_n 2, 0, 0, 0)) (cod_285 rfl) rfl ?_
  refine y_arg (j := 1) D Z (cod_285 rfl) (cod_285 rfl) (cod_285 rfl) (cod_285 rfl) (cod_285 rfl) rfl rfl (by omega) (by omega) ?_
  exact y_cI D (as := [(1, 597), (0, ((xs (i + 1).toNat).toInt))]) (rest := [(0, w1)]) (cod_285 rfl) rfl rfl rfl (Nat.le_of_ble_eq_true rfl) (rcv0 sl597 sq_p_597 (by decide)) (Nat.le_of_ble_eq_true rfl) T2
end LAWC
