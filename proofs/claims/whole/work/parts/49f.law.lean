/-! the law, call by call: class and reference answer alike. Printed by wip/whole/gen49e.py -/
section LAWC
variable {p : Program} {l : Launch} {e : Env} {s : State} {m : MethodId} {args : Array Value} {below : List Frame} {meth : Method} {c : Code} {Q : State → Prop} {G : aG} {cB sB b L : Nat} {xs : Nat → Int32} {E mm : Mm} {i : Int} {v5 v6 : aV}
set_option maxRecDepth 100000 in
theorem law_0 (D : DY p room_1 s m args meth c G 285 cB sB) (Z : LwS G b L xs s) (S : CS shS E mm) (hi : 0 ≤ i ∧ i + 6 ≤ L) (kk : ∀ F m', CS shS F m' → Y p l e room_1 s m args below meth c Q G 285 cB sB 1368 [(5, 7), (1, 1), (1, 597), (1, 626), (0, i), v5, v6] [] m') :
    Y p l e room_1 s m args below meth c Q G 285 cB sB 212 [(5, 7), (1, 1), (1, 597), (1, 626), (0, i), v5, v6] [] mm := by
  refine y_s D (q := (.aload_n 1, 0, 0, 0)) (cod_285 rfl) rfl ?_
  refine y_arg (j := 1) D Z (cod_285 rfl) (cod_285 rfl) (cod_285 rfl) (cod_285 rfl) (cod_285 rfl) rfl rfl (by omega) (by omega) ?_
  refine y_arg (j := 2) D Z (cod_285 rfl) (cod_285 rfl) (cod_285 rfl) (cod_285 rfl) (cod_285 rfl) rfl rfl (by omega) (by omega) ?_
  refine y_arg (j := 3) D Z (cod_285 rfl) (cod_285 rfl) (cod_285 rfl) (cod_285 rfl) (cod_285 rfl) rfl rfl (by omega) (by omega) ?_
  refine y_arg (j := 4) D Z (cod_285 rfl) (cod_285 rfl) (cod_285 rfl) (cod_285 rfl) (cod_285 rfl) rfl rfl (by omega) (by omega) ?_
  refine y_arg (j := 5) D Z (cod_285 rfl) (cod_285 rfl) (cod_285 rfl) (cod_285 rfl) (cod_285 rfl) rfl rfl (by omega) (by omega) ?_
  have T : TrI 12 [(1, 1), (0, ((xs (i + 1).toNat).toInt)), (0, ((xs (i + 2).toNat).toInt)), (0, ((xs (i + 3).toNat).toInt)), (0, ((xs (i + 4).toNat).toInt)), (0, ((xs (i + 5).toNat).toInt))] mm fun w1 m1 => TrI 165 [(1, 597), (0, ((xs (i + 1).toNat).toInt)), (0, ((xs (i + 2).toNat).toInt)), (0, ((xs (i + 3).toNat).toInt)), (0, ((xs (i + 4).toNat).toInt)), (0, ((xs (i + 5).toNat).toInt))] m1 fun w2 m2 => Y p l e room_1 s m args below meth c Q G 285 cB sB 280 [(5, 7), (1, 1), (1, 597), (1, 626), (0, i), v5, v6] [(0, w2), (0, w1)] m2 := by
    exact p_feed (K := fun w1 w2 m2 => Y p l e room_1 s m args below meth c Q G 285 cB sB 280 [(5, 7), (1, 1), (1, 597), (1, 626), (0, i), v5, v6] [(0, w2), (0, w1)] m2) S fun F m' w h => y_eqI D (cod_285 rfl) (by decide) (kk F m' h)
  refine y_cI D (as := [(1, 1), (0, ((xs (i + 1).toNat).toInt)), (0, ((xs (i + 2).toNat).toInt)), (0, ((xs (i + 3).toNat).toInt)), (0, ((xs (i + 4).toNat).toInt)), (0, ((xs (i + 5).toNat).toInt))]) (rest := []) (cod_285 rfl) rfl rfl rfl (Nat.le_of_ble_eq_true rfl) (rcv0 sq_l_1_0 sq_p_1 (by decide)) (Nat.le_of_ble_eq_true rfl) (TrI.imp T fun w1 m1 T2 => ?_)
  refine y_s D (q := (.aload_n 2, 0, 0, 0)) (cod_285 rfl) rfl ?_
  refine y_arg (j := 1) D Z (cod_285 rfl) (cod_285 rfl) (cod_285 rfl) (cod_285 rfl) (cod_285 rfl) rfl rfl (by omega) (by omega) ?_
  refine y_arg (j := 2) D Z (cod_285 rfl) (cod_285 rfl) (cod_285 rfl) (cod_285 rfl) (cod_285 rfl) rfl rfl (by omega) (by omega) ?_
  refine y_arg (j := 3) D Z (cod_285 rfl) (cod_285 rfl) (cod_285 rfl) (cod_285 rfl) (cod_285 rfl) rfl rfl (by omega) (by omega) ?_
  refine y_arg (j := 4) D Z (cod_285 rfl) (cod_285 rfl) (cod_285 rfl) (cod_285 rfl) (cod_285 rfl) rfl rfl (by omega) (by omega) ?_
  refine y_arg (j := 5) D Z (cod_285 rfl) (cod_285 rfl) (cod_285 rfl) (cod_285 rfl) (cod_285 rfl) rfl rfl (by omega) (by omega) ?_
  exact y_cI D (as := [(1, 597), (0, ((xs (i + 1).toNat).toInt)), (0, ((xs (i + 2).toNat).toInt)), (0, ((xs (i + 3).toNat).toInt)), (0, ((xs (i + 4).toNat).toInt)), (0, ((xs (i + 5).toNat).toInt))]) (rest := [(0, w1)]) (cod_285 rfl) rfl rfl rfl (Nat.le_of_ble_eq_true rfl) (rcv0 sl597 sq_p_597 (by decide)) (Nat.le_of_ble_eq_true rfl) T2
set_option maxRecDepth 100000 in
theorem law_1 (D : DY p room_1 s m args meth c G 285 cB sB) (Z : LwS G b L xs s) (S : CS shS E mm) (hi : 0 ≤ i ∧ i + 6 ≤ L) (kk : ∀ F m', CS shS F m' → Y p l e room_1 s m args below meth c Q G 285 cB sB 1368 [(5, 7), (1, 1), (1, 597), (1, 626), (0, i), v5, v6] [] m') :
    Y p l e room_1 s m args below meth c Q G 285 cB sB 285 [(5, 7), (1, 1), (1, 597), (1, 626), (0, i), v5, v6] [] mm := by
  refine y_s D (q := (.aload_n 1, 0, 0, 0)) (cod_285 rfl) rfl ?_
  refine y_arg (j := 1) D Z (cod_285 rfl) (cod_285 rfl) (cod_285 rfl) (cod_285 rfl) (cod_285 rfl) rfl rfl (by omega) (by omega) ?_
  have T : TrI 14 [(1, 1), (0, ((xs (i + 1).toNat).toInt))] mm fun w1 m1 => TrI 168 [(1, 597), (0, ((xs (i + 1).toNat).toInt))] m1 fun w2 m2 => Y p l e room_1 s m args below meth c Q G 285 cB sB 305 [(5, 7), (1, 1), (1, 597), (1, 626), (0, i), v5, v6] [(0, w2), (0, w1)] m2 := by
    exact p_text (K := fun w1 w2 m2 => Y p l e room_1 s m args below meth c Q G 285 cB sB 305 [(5, 7), (1, 1), (1, 597), (1, 626), (0, i), v5, v6] [(0, w2), (0, w1)] m2) S fun F m' w h => y_eqI D (cod_285 rfl) (by decide) (kk F m' h)
  refine y_cI D (as := [(1, 1), (0, ((xs (i + 1).toNat).toInt))]) (rest := []) (cod_285 rfl) rfl rfl rfl (Nat.le_of_ble_eq_true rfl) (rcv0 sq_l_1_0 sq_p_1 (by decide)) (Nat.le_of_ble_eq_true rfl) (TrI.imp T fun w1 m1 T2 => ?_)
  refine y_s D (q := (.aload_n 2, 0, 0, 0)) (cod_285 rfl) rfl ?_
  refine y_arg (j := 1) D Z (cod_285 rfl) (cod_285 rfl) (cod_285 rfl) (cod_285 rfl) (cod_285 rfl) rfl rfl (by omega) (by omega) ?_
  exact y_cI D (as := [(1, 597), (0, ((xs (i + 1).toNat).toInt))]) (rest := [(0, w1)]) (cod_285 rfl) rfl rfl rfl (Nat.le_of_ble_eq_true rfl) (rcv0 sl597 sq_p_597 (by decide)) (Nat.le_of_ble_eq_true rfl) T2
set_option maxRecDepth 100000 in
theorem law_2 (D : DY p room_1 s m args meth c G 285 cB sB) (Z : LwS G b L xs s) (S : CS shS E mm) (hi : 0 ≤ i ∧ i + 6 ≤ L) (kk : ∀ F m', CS shS F m' → Y p l e room_1 s m args below meth c Q G 285 cB sB 1368 [(5, 7), (1, 1), (1, 597), (1, 626), (0, i), v5, v6] [] m') :
    Y p l e room_1 s m args below meth c Q G 285 cB sB 310 [(5, 7), (1, 1), (1, 597), (1, 626), (0, i), v5, v6] [] mm := by
  refine y_s D (q := (.aload_n 1, 0, 0, 0)) (cod_285 rfl) rfl ?_
  refine y_arg (j := 1) D Z (cod_285 rfl) (cod_285 rfl) (cod_285 rfl) (cod_285 rfl) (cod_285 rfl) rfl rfl (by omega) (by omega) ?_
  have T : TrI 59 [(1, 1), (0, ((xs (i + 1).toNat).toInt))] mm fun w1 m1 => TrI 192 [(1, 597), (0, ((xs (i + 1).toNat).toInt))] m1 fun w2 m2 => Y p l e room_1 s m args below meth c Q G 285 cB sB 330 [(5, 7), (1, 1), (1, 597), (1, 626), (0, i), v5, v6] [(0, w2), (0, w1)] m2 := by
    exact p_page (K := fun w1 w2 m2 => Y p l e room_1 s m args below meth c Q G 285 cB sB 330 [(5, 7), (1, 1), (1, 597), (1, 626), (0, i), v5, v6] [(0, w2), (0, w1)] m2) S fun F m' w h => y_eqI D (cod_285 rfl) (by decide) (kk F m' h)
  refine y_cI D (as := [(1, 1), (0, ((xs (i + 1).toNat).toInt))]) (rest := []) (cod_285 rfl) rfl rfl rfl (Nat.le_of_ble_eq_true rfl) (rcv0 sq_l_1_0 sq_p_1 (by decide)) (Nat.le_of_ble_eq_true rfl) (TrI.imp T fun w1 m1 T2 => ?_)
  refine y_s D (q := (.aload_n 2, 0, 0, 0)) (cod_285 rfl) rfl ?_
  refine y_arg (j := 1) D Z (cod_285 rfl) (cod_285 rfl) (cod_285 rfl) (cod_285 rfl) (cod_285 rfl) rfl rfl (by omega) (by omega) ?_
  exact y_cI D (as := [(1, 597), (0, ((xs (i + 1).toNat).toInt))]) (rest := [(0, w1)]) (cod_285 rfl) rfl rfl rfl (Nat.le_of_ble_eq_true rfl) (rcv0 sl597 sq_p_597 (by decide)) (Nat.le_of_ble_eq_true rfl) T2
set_option maxRecDepth 100000 in
theorem law_3 (D : DY p room_1 s m args meth c G 285 cB sB) (Z : LwS G b L xs s) (S : CS shS E mm) (hi : 0 ≤ i ∧ i + 6 ≤ L) (kk : ∀ F m', CS shS F m' → Y p l e room_1 s m args below meth c Q G 285 cB sB 1368 [(5, 7), (1, 1), (1, 597), (1, 626), (0, i), v5, v6] [] m') :
    Y p l e room_1 s m args below meth c Q G 285 cB sB 335 [(5, 7), (1, 1), (1, 597), (1, 626), (0, i), v5, v6] [] mm := by
  refine y_s D (q := (.aload_n 1, 0, 0, 0)) (cod_285 rfl) rfl ?_
  refine y_arg (j := 1) D Z (cod_285 rfl) (cod_285 rfl) (cod_285 rfl) (cod_285 rfl) (cod_285 rfl) rfl rfl (by omega) (by omega) ?_
  have T : TrI 66 [(1, 1), (0, ((xs (i + 1).toNat).toInt))] mm fun w1 m1 => TrI 167 [(1, 597), (0, ((xs (i + 1).toNat).toInt))] m1 fun w2 m2 => Y p l e room_1 s m args below meth c Q G 285 cB sB 355 [(5, 7), (1, 1), (1, 597), (1, 626), (0, i), v5, v6] [(0, w2), (0, w1)] m2 := by
    exact p_fault (K := fun w1 w2 m2 => Y p l e room_1 s m args below meth c Q G 285 cB sB 355 [(5, 7), (1, 1), (1, 597), (1, 626), (0, i), v5, v6] [(0, w2), (0, w1)] m2) S fun F m' w h => y_eqI D (cod_285 rfl) (by decide) (kk F m' h)
  refine y_cI D (as := [(1, 1), (0, ((xs (i + 1).toNat).toInt))]) (rest := []) (cod_285 rfl) rfl rfl rfl (Nat.le_of_ble_eq_true rfl) (rcv0 sq_l_1_0 sq_p_1 (by decide)) (Nat.le_of_ble_eq_true rfl) (TrI.imp T fun w1 m1 T2 => ?_)
  refine y_s D (q := (.aload_n 2, 0, 0, 0)) (cod_285 rfl) rfl ?_
  refine y_arg (j := 1) D Z (cod_285 rfl) (cod_285 rfl) (cod_285 rfl) (cod_285 rfl) (cod_285 rfl) rfl rfl (by omega) (by omega) ?_
  exact y_cI D (as := [(1, 597), (0, ((xs (i + 1).toNat).toInt))]) (rest := [(0, w1)]) (cod_285 rfl) rfl rfl rfl (Nat.le_of_ble_eq_true rfl) (rcv0 sl597 sq_p_597 (by decide)) (Nat.le_of_ble_eq_true rfl) T2
set_option maxRecDepth 100000 in
theorem law_5 (D : DY p room_1 s m args meth c G 285 cB sB) (Z : LwS G b L xs s) (S : CS shS E mm) (hi : 0 ≤ i ∧ i + 6 ≤ L) (kk : ∀ F m', CS shS F m' → Y p l e room_1 s m args below meth c Q G 285 cB sB 1368 [(5, 7), (1, 1), (1, 597), (1, 626), (0, i), v5, v6] [] m') :
    Y p l e room_1 s m args below meth c Q G 285 cB sB 428 [(5, 7), (1, 1), (1, 597), (1, 626), (0, i), v5, v6] [] mm := by
  refine y_s D (q := (.aload_n 1, 0, 0, 0)) (cod_285 rfl) rfl ?_
  refine y_arg (j := 1) D Z (cod_285 rfl) (cod_285 rfl) (cod_285 rfl) (cod_285 rfl) (cod_285 rfl) rfl rfl (by omega) (by omega) ?_
  refine y_arg (j := 2) D Z (cod_285 rfl) (cod_285 rfl) (cod_285 rfl) (cod_285 rfl) (cod_285 rfl) rfl rfl (by omega) (by omega) ?_
  have T : TrI 67 [(1, 1), (0, ((xs (i + 1).toNat).toInt)), (0, ((xs (i + 2).toNat).toInt))] mm fun w1 m1 => TrI 204 [(1, 597), (0, ((xs (i + 1).toNat).toInt)), (0, ((xs (i + 2).toNat).toInt))] m1 fun w2 m2 => Y p l e room_1 s m args below meth c Q G 285 cB sB 460 [(5, 7), (1, 1), (1, 597), (1, 626), (0, i), v5, v6] [(0, w2), (0, w1)] m2 := by
    exact CS.pI (K := fun w1 w2 m2 => Y p l e room_1 s m args below meth c Q G 285 cB sB 460 [(5, 7), (1, 1), (1, 597), (1, 626), (0, i), v5, v6] [(0, w2), (0, w1)] m2) S (fun K kk => k67 S.b S.r K kk) (fun m1 B K kk => r204 m1 B K kk) fun m' h => y_eqI D (cod_285 rfl) (by decide) (kk E m' h)
  refine y_cI D (as := [(1, 1), (0, ((xs (i + 1).toNat).toInt)), (0, ((xs (i + 2).toNat).toInt))]) (rest := []) (cod_285 rfl) rfl rfl rfl (Nat.le_of_ble_eq_true rfl) (rcv0 sq_l_1_0 sq_p_1 (by decide)) (Nat.le_of_ble_eq_true rfl) (TrI.imp T fun w1 m1 T2 => ?_)
  refine y_s D (q := (.aload_n 2, 0, 0, 0)) (cod_285 rfl) rfl ?_
  refine y_arg (j := 1) D Z (cod_285 rfl) (cod_285 rfl) (cod_285 rfl) (cod_285 rfl) (cod_285 rfl) rfl rfl (by omega) (by omega) ?_
  refine y_arg (j := 2) D Z (cod_285 rfl) (cod_285 rfl) (cod_285 rfl) (cod_285 rfl) (cod_285 rfl) rfl rfl (by omega) (by omega) ?_
  exact y_cI D (as := [(1, 597), (0, ((xs (i + 1).toNat).toInt)), (0, ((xs (i + 2).toNat).toInt))]) (rest := [(0, w1)]) (cod_285 rfl) rfl rfl rfl (Nat.le_of_ble_eq_true rfl) (rcv0 sl597 sq_p_597 (by decide)) (Nat.le_of_ble_eq_true rfl) T2
set_option maxRecDepth 100000 in
theorem law_7 (D : DY p room_1 s m args meth c G 285 cB sB) (Z : LwS G b L xs s) (S : CS shS E mm) (hi : 0 ≤ i ∧ i + 6 ≤ L) (kk : ∀ F m', CS shS F m' → Y p l e room_1 s m args below meth c Q G 285 cB sB 1368 [(5, 7), (1, 1), (1, 597), (1, 626), (0, i), v5, v6] [] m') :
    Y p l e room_1 s m args below meth c Q G 285 cB sB 530 [(5, 7), (1, 1), (1, 597), (1, 626), (0, i), v5, v6] [] mm := by
  refine y_s D (q := (.aload_n 1, 0, 0, 0)) (cod_285 rfl) rfl ?_
  refine y_arg (j := 1) D Z (cod_285 rfl) (cod_285 rfl) (cod_285 rfl) (cod_285 rfl) (cod_285 rfl) rfl rfl (by omega) (by omega) ?_
  refine y_arg (j := 2) D Z (cod_285 rfl) (cod_285 rfl) (cod_285 rfl) (cod_285 rfl) (cod_285 rfl) rfl rfl (by omega) (by omega) ?_
  have T : TrI 73 [(1, 1), (0, ((xs (i + 1).toNat).toInt)), (0, ((xs (i + 2).toNat).toInt))] mm fun w1 m1 => TrI 209 [(1, 597), (0, ((xs (i + 1).toNat).toInt)), (0, ((xs (i + 2).toNat).toInt))] m1 fun w2 m2 => Y p l e room_1 s m args below meth c Q G 285 cB sB 562 [(5, 7), (1, 1), (1, 597), (1, 626), (0, i), v5, v6] [(0, w2), (0, w1)] m2 := by
    exact CS.pI (K := fun w1 w2 m2 => Y p l e room_1 s m args below meth c Q G 285 cB sB 562 [(5, 7), (1, 1), (1, 597), (1, 626), (0, i), v5, v6] [(0, w2), (0, w1)] m2) S (fun K kk => k73 S.b S.r K kk) (fun m1 B K kk => r209 m1 B K kk) fun m' h => y_eqI D (cod_285 rfl) (by decide) (kk E m' h)
  refine y_cI D (as := [(1, 1), (0, ((xs (i + 1).toNat).toInt)), (0, ((xs (i + 2).toNat).toInt))]) (rest := []) (cod_285 rfl) rfl rfl rfl (Nat.le_of_ble_eq_true rfl) (rcv0 sq_l_1_0 sq_p_1 (by decide)) (Nat.le_of_ble_eq_true rfl) (TrI.imp T fun w1 m1 T2 => ?_)
  refine y_s D (q := (.aload_n 2, 0, 0, 0)) (cod_285 rfl) rfl ?_
  refine y_arg (j := 1) D Z (cod_285 rfl) (cod_285 rfl) (cod_285 rfl) (cod_285 rfl) (cod_285 rfl) rfl rfl (by omega) (by omega) ?_
  refine y_arg (j := 2) D Z (cod_285 rfl) (cod_285 rfl) (cod_285 rfl) (cod_285 rfl) (cod_285 rfl) rfl rfl (by omega) (by omega) ?_
  exact y_cI D (as := [(1, 597), (0, ((xs (i + 1).toNat).toInt)), (0, ((xs (i + 2).toNat).toInt))]) (rest := [(0, w1)]) (cod_285 rfl) rfl rfl rfl (Nat.le_of_ble_eq_true rfl) (rcv0 sl597 sq_p_597 (by decide)) (Nat.le_of_ble_eq_true rfl) T2
set_option maxRecDepth 100000 in
theorem law_8 (D : DY p room_1 s m args meth c G 285 cB sB) (Z : LwS G b L xs s) (S : CS shS E mm) (hi : 0 ≤ i ∧ i + 6 ≤ L) (kk : ∀ F m', CS shS F m' → Y p l e room_1 s m args below meth c Q G 285 cB sB 1368 [(5, 7), (1, 1), (1, 597), (1, 626), (0, i), v5, v6] [] m') :
    Y p l e room_1 s m args below meth c Q G 285 cB sB 567 [(5, 7), (1, 1), (1, 597), (1, 626), (0, i), v5, v6] [] mm := by
  refine y_s D (q := (.aload_n 1, 0, 0, 0)) (cod_285 rfl) rfl ?_
  refine y_arg (j := 1) D Z (cod_285 rfl) (cod_285 rfl) (cod_285 rfl) (cod_285 rfl) (cod_285 rfl) rfl rfl (by omega) (by omega) ?_
  have T : TrL 75 [(1, 1), (0, ((xs (i + 1).toNat).toInt))] mm fun w1 m1 => TrL 212 [(1, 597), (0, ((xs (i + 1).toNat).toInt))] m1 fun w2 m2 => Y p l e room_1 s m args below meth c Q G 285 cB sB 587 [(5, 7), (1, 1), (1, 597), (1, 626), (0, i), v5, v6] [(2, w2), (2, w1)] m2 := by
    exact CS.pL (K := fun w1 w2 m2 => Y p l e room_1 s m args below meth c Q G 285 cB sB 587 [(5, 7), (1, 1), (1, 597), (1, 626), (0, i), v5, v6] [(2, w2), (2, w1)] m2) S (fun K kk => k75 S.b S.r K kk) (fun m1 B K kk => r212 m1 B K kk) fun m' h => y_eqL D (cod_285 rfl) (cod_285 rfl) (by decide) (kk E m' h)
  refine y_cL D (as := [(1, 1), (0, ((xs (i + 1).toNat).toInt))]) (rest := []) (cod_285 rfl) rfl rfl rfl (Nat.le_of_ble_eq_true rfl) (rcv0 sq_l_1_0 sq_p_1 (by decide)) (Nat.le_of_ble_eq_true rfl) (TrL.imp T fun w1 m1 T2 => ?_)
  refine y_s D (q := (.aload_n 2, 0, 0, 0)) (cod_285 rfl) rfl ?_
  refine y_arg (j := 1) D Z (cod_285 rfl) (cod_285 rfl) (cod_285 rfl) (cod_285 rfl) (cod_285 rfl) rfl rfl (by omega) (by omega) ?_
  exact y_cL D (as := [(1, 597), (0, ((xs (i + 1).toNat).toInt))]) (rest := [(2, w1)]) (cod_285 rfl) rfl rfl rfl (Nat.le_of_ble_eq_true rfl) (rcv0 sl597 sq_p_597 (by decide)) (Nat.le_of_ble_eq_true rfl) T2
set_option maxRecDepth 100000 in
theorem law_9 (D : DY p room_1 s m args meth c G 285 cB sB) (Z : LwS G b L xs s) (S : CS shS E mm) (hi : 0 ≤ i ∧ i + 6 ≤ L) (kk : ∀ F m', CS shS F m' → Y p l e room_1 s m args below meth c Q G 285 cB sB 1368 [(5, 7), (1, 1), (1, 597), (1, 626), (0, i), v5, v6] [] m') :
    Y p l e room_1 s m args below meth c Q G 285 cB sB 593 [(5, 7), (1, 1), (1, 597), (1, 626), (0, i), v5, v6] [] mm := by
  refine y_s D (q := (.aload_n 1, 0, 0, 0)) (cod_285 rfl) rfl ?_
  refine y_arg (j := 1) D Z (cod_285 rfl) (cod_285 rfl) (cod_285 rfl) (cod_285 rfl) (cod_285 rfl) rfl rfl (by omega) (by omega) ?_
  have T : TrI 104 [(1, 1), (0, ((xs (i + 1).toNat).toInt))] mm fun w1 m1 => TrI 221 [(1, 597), (0, ((xs (i + 1).toNat).toInt))] m1 fun w2 m2 => Y p l e room_1 s m args below meth c Q G 285 cB sB 613 [(5, 7), (1, 1), (1, 597), (1, 626), (0, i), v5, v6] [(0, w2), (0, w1)] m2 := by
    exact CS.pI (K := fun w1 w2 m2 => Y p l e room_1 s m args below meth c Q G 285 cB sB 613 [(5, 7), (1, 1), (1, 597), (1, 626), (0, i), v5, v6] [(0, w2), (0, w1)] m2) S (fun K kk => k104 S.b S.r K kk) (fun m1 B K kk => r221 m1 B K kk) fun m' h => y_eqI D (cod_285 rfl) (by decide) (kk E m' h)
  refine y_cI D (as := [(1, 1), (0, ((xs (i + 1).toNat).toInt))]) (rest := []) (cod_285 rfl) rfl rfl rfl (Nat.le_of_ble_eq_true rfl) (rcv0 sq_l_1_0 sq_p_1 (by decide)) (Nat.le_of_ble_eq_true rfl) (TrI.imp T fun w1 m1 T2 => ?_)
  refine y_s D (q := (.aload_n 2, 0, 0, 0)) (cod_285 rfl) rfl ?_
  refine y_arg (j := 1) D Z (cod_285 rfl) (cod_285 rfl) (cod_285 rfl) (cod_285 rfl) (cod_285 rfl) rfl rfl (by omega) (by omega) ?_
  exact y_cI D (as := [(1, 597), (0, ((xs (i + 1).toNat).toInt))]) (rest := [(0, w1)]) (cod_285 rfl) rfl rfl rfl (Nat.le_of_ble_eq_true rfl) (rcv0 sl597 sq_p_597 (by decide)) (Nat.le_of_ble_eq_true rfl) T2
set_option maxRecDepth 100000 in
theorem law_10 (D : DY p room_1 s m args meth c G 285 cB sB) (Z : LwS G b L xs s) (S : CS shS E mm) (hi : 0 ≤ i ∧ i + 6 ≤ L) (kk : ∀ F m', CS shS F m' → Y p l e room_1 s m args below meth c Q G 285 cB sB 1368 [(5, 7), (1, 1), (1, 597), (1, 626), (0, i), v5, v6] [] m') :
    Y p l e room_1 s m args below meth c Q G 285 cB sB 618 [(5, 7), (1, 1), (1, 597), (1, 626), (0, i), v5, v6] [] mm := by
  refine y_s D (q := (.aload_n 1, 0, 0, 0)) (cod_285 rfl) rfl ?_
  refine y_arg (j := 1) D Z (cod_285 rfl) (cod_285 rfl) (cod_285 rfl) (cod_285 rfl) (cod_285 rfl) rfl rfl (by omega) (by omega) ?_
  refine y_arg (j := 2) D Z (cod_285 rfl) (cod_285 rfl) (cod_285 rfl) (cod_285 rfl) (cod_285 rfl) rfl rfl (by omega) (by omega) ?_
  have T : TrI 106 [(1, 1), (0, ((xs (i + 1).toNat).toInt)), (0, ((xs (i + 2).toNat).toInt))] mm fun w1 m1 => TrI 222 [(1, 597), (0, ((xs (i + 1).toNat).toInt)), (0, ((xs (i + 2).toNat).toInt))] m1 fun w2 m2 => Y p l e room_1 s m args below meth c Q G 285 cB sB 650 [(5, 7), (1, 1), (1, 597), (1, 626), (0, i), v5, v6] [(0, w2), (0, w1)] m2 := by
    exact CS.pI (K := fun w1 w2 m2 => Y p l e room_1 s m args below meth c Q G 285 cB sB 650 [(5, 7), (1, 1), (1, 597), (1, 626), (0, i), v5, v6] [(0, w2), (0, w1)] m2) S (fun K kk => k106 S.b S.r K kk) (fun m1 B K kk => r222 m1 B K kk) fun m' h => y_eqI D (cod_285 rfl) (by decide) (kk E m' h)
  refine y_cI D (as := [(1, 1), (0, ((xs (i + 1).toNat).toInt)), (0, ((xs (i + 2).toNat).toInt))]) (rest := []) (cod_285 rfl) rfl rfl rfl (Nat.le_of_ble_eq_true rfl) (rcv0 sq_l_1_0 sq_p_1 (by decide)) (Nat.le_of_ble_eq_true rfl) (TrI.imp T fun w1 m1 T2 => ?_)
  refine y_s D (q := (.aload_n 2, 0, 0, 0)) (cod_285 rfl) rfl ?_
  refine y_arg (j := 1) D Z (cod_285 rfl) (cod_285 rfl) (cod_285 rfl) (cod_285 rfl) (cod_285 rfl) rfl rfl (by omega) (by omega) ?_
  refine y_arg (j := 2) D Z (cod_285 rfl) (cod_285 rfl) (cod_285 rfl) (cod_285 rfl) (cod_285 rfl) rfl rfl (by omega) (by omega) ?_
  exact y_cI D (as := [(1, 597), (0, ((xs (i + 1).toNat).toInt)), (0, ((xs (i + 2).toNat).toInt))]) (rest := [(0, w1)]) (cod_285 rfl) rfl rfl rfl (Nat.le_of_ble_eq_true rfl) (rcv0 sl597 sq_p_597 (by decide)) (Nat.le_of_ble_eq_true rfl) T2
set_option maxRecDepth 100000 in
theorem law_11 (D : DY p room_1 s m args meth c G 285 cB sB) (Z : LwS G b L xs s) (S : CS shS E mm) (hi : 0 ≤ i ∧ i + 6 ≤ L) (kk : ∀ F m', CS shS F m' → Y p l e room_1 s m args below meth c Q G 285 cB sB 1368 [(5, 7), (1, 1), (1, 597), (1, 626), (0, i), v5, v6] [] m') :
    Y p l e room_1 s m args below meth c Q G 285 cB sB 655 [(5, 7), (1, 1), (1, 597), (1, 626), (0, i), v5, v6] [] mm := by
  refine y_s D (q := (.aload_n 1, 0, 0, 0)) (cod_285 rfl) rfl ?_
  refine y_arg (j := 1) D Z (cod_285 rfl) (cod_285 rfl) (cod_285 rfl) (cod_285 rfl) (cod_285 rfl) rfl rfl (by omega) (by omega) ?_
  refine y_arg (j := 2) D Z (cod_285 rfl) (cod_285 rfl) (cod_285 rfl) (cod_285 rfl) (cod_285 rfl) rfl rfl (by omega) (by omega) ?_
  have T : TrI 107 [(1, 1), (0, ((xs (i + 1).toNat).toInt)), (0, ((xs (i + 2).toNat).toInt))] mm fun w1 m1 => TrI 226 [(1, 597), (0, ((xs (i + 1).toNat).toInt)), (0, ((xs (i + 2).toNat).toInt))] m1 fun w2 m2 => Y p l e room_1 s m args below meth c Q G 285 cB sB 687 [(5, 7), (1, 1), (1, 597), (1, 626), (0, i), v5, v6] [(0, w2), (0, w1)] m2 := by
    exact CS.pI (K := fun w1 w2 m2 => Y p l e room_1 s m args below meth c Q G 285 cB sB 687 [(5, 7), (1, 1), (1, 597), (1, 626), (0, i), v5, v6] [(0, w2), (0, w1)] m2) S (fun K kk => k107 S.b S.r K kk) (fun m1 B K kk => r226 m1 B K kk) fun m' h => y_eqI D (cod_285 rfl) (by decide) (kk E m' h)
  refine y_cI D (as := [(1, 1), (0, ((xs (i + 1).toNat).toInt)), (0, ((xs (i + 2).toNat).toInt))]) (rest := []) (cod_285 rfl) rfl rfl rfl (Nat.le_of_ble_eq_true rfl) (rcv0 sq_l_1_0 sq_p_1 (by decide)) (Nat.le_of_ble_eq_true rfl) (TrI.imp T fun w1 m1 T2 => ?_)
  refine y_s D (q := (.aload_n 2, 0, 0, 0)) (cod_285 rfl) rfl ?_
  refine y_arg (j := 1) D Z (cod_285 rfl) (cod_285 rfl) (cod_285 rfl) (cod_285 rfl) (cod_285 rfl) rfl rfl (by omega) (by omega) ?_
  refine y_arg (j := 2) D Z (cod_285 rfl) (cod_285 rfl) (cod_285 rfl) (cod_285 rfl) (cod_285 rfl) rfl rfl (by omega) (by omega) ?_
  exact y_cI D (as := [(1, 597), (0, ((xs (i + 1).toNat).toInt)), (0, ((xs (i + 2).toNat).toInt))]) (rest := [(0, w1)]) (cod_285 rfl) rfl rfl rfl (Nat.le_of_ble_eq_true rfl) (rcv0 sl597 sq_p_597 (by decide)) (Nat.le_of_ble_eq_true rfl) T2
set_option maxRecDepth 100000 in
theorem law_12 (D : DY p room_1 s m args meth c G 285 cB sB) (Z : LwS G b L xs s) (S : CS shS E mm) (hi : 0 ≤ i ∧ i + 6 ≤ L) (kk : ∀ F m', CS shS F m' → Y p l e room_1 s m args below meth c Q G 285 cB sB 1368 [(5, 7), (1, 1), (1, 597), (1, 626), (0, i), v5, v6] [] m') :
    Y p l e room_1 s m args below meth c Q G 285 cB sB 692 [(5, 7), (1, 1), (1, 597), (1, 626), (0, i), v5, v6] [] mm := by
  refine y_s D (q := (.aload_n 1, 0, 0, 0)) (cod_285 rfl) rfl ?_
  refine y_arg (j := 1) D Z (cod_285 rfl) (cod_285 rfl) (cod_285 rfl) (cod_285 rfl) (cod_285 rfl) rfl rfl (by omega) (by omega) ?_
  refine y_arg (j := 2) D Z (cod_285 rfl) (cod_285 rfl) (cod_285 rfl) (cod_285 rfl) (cod_285 rfl) rfl rfl (by omega) (by omega) ?_
  refine y_arg (j := 3) D Z (cod_285 rfl) (cod_285 rfl) (cod_285 rfl) (cod_285 rfl) (cod_285 rfl) rfl rfl (by omega) (by omega) ?_
  have T : TrI 108 [(1, 1), (0, ((xs (i + 1).toNat).toInt)), (0, ((xs (i + 2).toNat).toInt)), (0, ((xs (i + 3).toNat).toInt))] mm fun w1 m1 => TrI 232 [(1, 597), (0, ((xs (i + 1).toNat).toInt)), (0, ((xs (i + 2).toNat).toInt)), (0, ((xs (i + 3).toNat).toInt))] m1 fun w2 m2 => Y p l e room_1 s m args below meth c Q G 285 cB sB 736 [(5, 7), (1, 1), (1, 597), (1, 626), (0, i), v5, v6] [(0, w2), (0, w1)] m2 := by
    exact CS.pI (K := fun w1 w2 m2 => Y p l e room_1 s m args below meth c Q G 285 cB sB 736 [(5, 7), (1, 1), (1, 597), (1, 626), (0, i), v5, v6] [(0, w2), (0, w1)] m2) S (fun K kk => k108 S.b S.r K kk) (fun m1 B K kk => r232 m1 B K kk) fun m' h => y_eqI D (cod_285 rfl) (by decide) (kk E m' h)
  refine y_cI D (as := [(1, 1), (0, ((xs (i + 1).toNat).toInt)), (0, ((xs (i + 2).toNat).toInt)), (0, ((xs (i + 3).toNat).toInt))]) (rest := []) (cod_285 rfl) rfl rfl rfl (Nat.le_of_ble_eq_true rfl) (rcv0 sq_l_1_0 sq_p_1 (by decide)) (Nat.le_of_ble_eq_true rfl) (TrI.imp T fun w1 m1 T2 => ?_)
  refine y_s D (q := (.aload_n 2, 0, 0, 0)) (cod_285 rfl) rfl ?_
  refine y_arg (j := 1) D Z (cod_285 rfl) (cod_285 rfl) (cod_285 rfl) (cod_285 rfl) (cod_285 rfl) rfl rfl (by omega) (by omega) ?_
  refine y_arg (j := 2) D Z (cod_285 rfl) (cod_285 rfl) (cod_285 rfl) (cod_285 rfl) (cod_285 rfl) rfl rfl (by omega) (by omega) ?_
  refine y_arg (j := 3) D Z (cod_285 rfl) (cod_285 rfl) (cod_285 rfl) (cod_285 rfl) (cod_285 rfl) rfl rfl (by omega) (by omega) ?_
  exact y_cI D (as := [(1, 597), (0, ((xs (i + 1).toNat).toInt)), (0, ((xs (i + 2).toNat).toInt)), (0, ((xs (i + 3).toNat).toInt))]) (rest := [(0, w1)]) (cod_285 rfl) rfl rfl rfl (Nat.le_of_ble_eq_true rfl) (rcv0 sl597 sq_p_597 (by decide)) (Nat.le_of_ble_eq_true rfl) T2
set_option maxRecDepth 100000 in
theorem law_13 (D : DY p room_1 s m args meth c G 285 cB sB) (Z : LwS G b L xs s) (S : CS shS E mm) (hi : 0 ≤ i ∧ i + 6 ≤ L) (kk : ∀ F m', CS shS F m' → Y p l e room_1 s m args below meth c Q G 285 cB sB 1368 [(5, 7), (1, 1), (1, 597), (1, 626), (0, i), v5, v6] [] m') :
    Y p l e room_1 s m args below meth c Q G 285 cB sB 741 [(5, 7), (1, 1), (1, 597), (1, 626), (0, i), v5, v6] [] mm := by
  refine y_s D (q := (.aload_n 1, 0, 0, 0)) (cod_285 rfl) rfl ?_
  refine y_arg (j := 1) D Z (cod_285 rfl) (cod_285 rfl) (cod_285 rfl) (cod_285 rfl) (cod_285 rfl) rfl rfl (by omega) (by omega) ?_
  have T : TrI 111 [(1, 1), (0, ((xs (i + 1).toNat).toInt))] mm fun w1 m1 => TrI 235 [(1, 597), (0, ((xs (i + 1).toNat).toInt))] m1 fun w2 m2 => Y p l e room_1 s m args below meth c Q G 285 cB sB 761 [(5, 7), (1, 1), (1, 597), (1, 626), (0, i), v5, v6] [(0, w2), (0, w1)] m2 := by
    exact CS.pI (K := fun w1 w2 m2 => Y p l e room_1 s m args below meth c Q G 285 cB sB 761 [(5, 7), (1, 1), (1, 597), (1, 626), (0, i), v5, v6] [(0, w2), (0, w1)] m2) S (fun K kk => k111 S.b S.r K kk) (fun m1 B K kk => r235 m1 B K kk) fun m' h => y_eqI D (cod_285 rfl) (by decide) (kk E m' h)
  refine y_cI D (as := [(1, 1), (0, ((xs (i + 1).toNat).toInt))]) (rest := []) (cod_285 rfl) rfl rfl rfl (Nat.le_of_ble_eq_true rfl) (rcv0 sq_l_1_0 sq_p_1 (by decide)) (Nat.le_of_ble_eq_true rfl) (TrI.imp T fun w1 m1 T2 => ?_)
  refine y_s D (q := (.aload_n 2, 0, 0, 0)) (cod_285 rfl) rfl ?_
  refine y_arg (j := 1) D Z (cod_285 rfl) (cod_285 rfl) (cod_285 rfl) (cod_285 rfl) (cod_285 rfl) rfl rfl (by omega) (by omega) ?_
  exact y_cI D (as := [(1, 597), (0, ((xs (i + 1).toNat).toInt))]) (rest := [(0, w1)]) (cod_285 rfl) rfl rfl rfl (Nat.le_of_ble_eq_true rfl) (rcv0 sl597 sq_p_597 (by decide)) (Nat.le_of_ble_eq_true rfl) T2
set_option maxRecDepth 100000 in
theorem law_14 (D : DY p room_1 s m args meth c G 285 cB sB) (Z : LwS G b L xs s) (S : CS shS E mm) (hi : 0 ≤ i ∧ i + 6 ≤ L) (kk : ∀ F m', CS shS F m' → Y p l e room_1 s m args below meth c Q G 285 cB sB 1368 [(5, 7), (1, 1), (1, 597), (1, 626), (0, i), v5, v6] [] m') :
    Y p l e room_1 s m args below meth c Q G 285 cB sB 766 [(5, 7), (1, 1), (1, 597), (1, 626), (0, i), v5, v6] [] mm := by
  refine y_s D (q := (.aload_n 1, 0, 0, 0)) (cod_285 rfl) rfl ?_
  refine y_arg (j := 1) D Z (cod_285 rfl) (cod_285 rfl) (cod_285 rfl) (cod_285 rfl) (cod_285 rfl) rfl rfl (by omega) (by omega) ?_
  refine y_arg (j := 2) D Z (cod_285 rfl) (cod_285 rfl) (cod_285 rfl) (cod_285 rfl) (cod_285 rfl) rfl rfl (by omega) (by omega) ?_
  refine y_arg (j := 3) D Z (cod_285 rfl) (cod_285 rfl) (cod_285 rfl) (cod_285 rfl) (cod_285 rfl) rfl rfl (by omega) (by omega) ?_
  have T : TrI 112 [(1, 1), (0, ((xs (i + 1).toNat).toInt)), (0, ((xs (i + 2).toNat).toInt)), (0, ((xs (i + 3).toNat).toInt))] mm fun w1 m1 => TrI 238 [(1, 597), (0, ((xs (i + 1).toNat).toInt)), (0, ((xs (i + 2).toNat).toInt)), (0, ((xs (i + 3).toNat).toInt))] m1 fun w2 m2 => Y p l e room_1 s m args below meth c Q G 285 cB sB 810 [(5, 7), (1, 1), (1, 597), (1, 626), (0, i), v5, v6] [(0, w2), (0, w1)] m2 := by
    exact CS.pI (K := fun w1 w2 m2 => Y p l e room_1 s m args below meth c Q G 285 cB sB 810 [(5, 7), (1, 1), (1, 597), (1, 626), (0, i), v5, v6] [(0, w2), (0, w1)] m2) S (fun K kk => k112 S.b S.r K kk) (fun m1 B K kk => r238 m1 B K kk) fun m' h => y_eqI D (cod_285 rfl) (by decide) (kk E m' h)
  refine y_cI D (as := [(1, 1), (0, ((xs (i + 1).toNat).toInt)), (0, ((xs (i + 2).toNat).toInt)), (0, ((xs (i + 3).toNat).toInt))]) (rest := []) (cod_285 rfl) rfl rfl rfl (Nat.le_of_ble_eq_true rfl) (rcv0 sq_l_1_0 sq_p_1 (by decide)) (Nat.le_of_ble_eq_true rfl) (TrI.imp T fun w1 m1 T2 => ?_)
  refine y_s D (q := (.aload_n 2, 0, 0, 0)) (cod_285 rfl) rfl ?_
  refine y_arg (j := 1) D Z (cod_285 rfl) (cod_285 rfl) (cod_285 rfl) (cod_285 rfl) (cod_285 rfl) rfl rfl (by omega) (by omega) ?_
  refine y_arg (j := 2) D Z (cod_285 rfl) (cod_285 rfl) (cod_285 rfl) (cod_285 rfl) (cod_285 rfl) rfl rfl (by omega) (by omega) ?_
  refine y_arg (j := 3) D Z (cod_285 rfl) (cod_285 rfl) (cod_285 rfl) (cod_285 rfl) (cod_285 rfl) rfl rfl (by omega) (by omega) ?_
  exact y_cI D (as := [(1, 597), (0, ((xs (i + 1).toNat).toInt)), (0, ((xs (i + 2).toNat).toInt)), (0, ((xs (i + 3).toNat).toInt))]) (rest := [(0, w1)]) (cod_285 rfl) rfl rfl rfl (Nat.le_of_ble_eq_true rfl) (rcv0 sl597 sq_p_597 (by decide)) (Nat.le_of_ble_eq_true rfl) T2
end LAWC
