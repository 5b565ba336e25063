/-! the law, call by call: class and reference answer alike. Printed by wip/whole/gen49e.py -/
section LAWC
variable {p : Program} {l : Launch} {e : Env} {s : State} {m : MethodId} {args : Array Value} {below : List Frame} {meth : Method} {c : Code} {Q : State → Prop} {G : aG} {cB sB b L : Nat} {xs : Nat → Int32} {E mm : Mm} {i : Int} {v5 v6 : aV}
set_option maxRecDepth 100000 in
theorem law_15 (D : DY p room_1 s m args meth c G 285 cB sB) (Z : LwS G b L xs s) (S : CS shS E mm) (hi : 0 ≤ i ∧ i + 6 ≤ L) (kk : ∀ F m', CS shS F m' → Y p l e room_1 s m args below meth c Q G 285 cB sB 1368 [(5, 7), (1, 1), (1, 597), (1, 626), (0, i), v5, v6] [] m') :
    Y p l e room_1 s m args below meth c Q G 285 cB sB 815 [(5, 7), (1, 1), (1, 597), (1, 626), (0, i), v5, v6] [] mm := by
  refine y_s D (q := (.aload_n 1, 0, 0, 0)) (cod_285 rfl) rfl ?_
  have T : TrI 115 [(1, 1)] mm fun w1 m1 => TrI 240 [(1, 597)] m1 fun w2 m2 => Y p l e room_1 s m args below meth c Q G 285 cB sB 823 [(5, 7), (1, 1), (1, 597), (1, 626), (0, i), v5, v6] [(0, w2), (0, w1)] m2 := by
    exact CS.pI (K := fun w1 w2 m2 => Y p l e room_1 s m args below meth c Q G 285 cB sB 823 [(5, 7), (1, 1), (1, 597), (1, 626), (0, i), v5, v6] [(0, w2), (0, w1)] m2) S (fun K kk => k115 S.b S.r K kk) (fun m1 B K kk => r240 m1 B K kk) fun m' h => y_eqI D (cod_285 rfl) (by decide) (kk E m' h)
  refine y_cI D (as := [(1, 1)]) (rest := []) (cod_285 rfl) rfl rfl rfl (Nat.le_of_ble_eq_true rfl) (rcv0 sq_l_1_0 sq_p_1 (by decide)) (Nat.le_of_ble_eq_true rfl) (TrI.imp T fun w1 m1 T2 => ?_)
  refine y_s D (q := (.aload_n 2, 0, 0, 0)) (cod_285 rfl) rfl ?_
  exact y_cI D (as := [(1, 597)]) (rest := [(0, w1)]) (cod_285 rfl) rfl rfl rfl (Nat.le_of_ble_eq_true rfl) (rcv0 sl597 sq_p_597 (by decide)) (Nat.le_of_ble_eq_true rfl) T2
set_option maxRecDepth 100000 in
theorem law_16 (D : DY p room_1 s m args meth c G 285 cB sB) (Z : LwS G b L xs s) (S : CS shS E mm) (hi : 0 ≤ i ∧ i + 6 ≤ L) (kk : ∀ F m', CS shS F m' → Y p l e room_1 s m args below meth c Q G 285 cB sB 1368 [(5, 7), (1, 1), (1, 597), (1, 626), (0, i), v5, v6] [] m') :
    Y p l e room_1 s m args below meth c Q G 285 cB sB 828 [(5, 7), (1, 1), (1, 597), (1, 626), (0, i), v5, v6] [] mm := by
  refine y_s D (q := (.aload_n 1, 0, 0, 0)) (cod_285 rfl) rfl ?_
  refine y_arg (j := 1) D Z (cod_285 rfl) (cod_285 rfl) (cod_285 rfl) (cod_285 rfl) (cod_285 rfl) rfl rfl (by omega) (by omega) ?_
  have T : TrI 116 [(1, 1), (0, ((xs (i + 1).toNat).toInt))] mm fun w1 m1 => TrI 248 [(1, 597), (0, ((xs (i + 1).toNat).toInt))] m1 fun w2 m2 => Y p l e room_1 s m args below meth c Q G 285 cB sB 848 [(5, 7), (1, 1), (1, 597), (1, 626), (0, i), v5, v6] [(0, w2), (0, w1)] m2 := by
    exact CS.pI (K := fun w1 w2 m2 => Y p l e room_1 s m args below meth c Q G 285 cB sB 848 [(5, 7), (1, 1), (1, 597), (1, 626), (0, i), v5, v6] [(0, w2), (0, w1)] m2) S (fun K kk => k116 S.b S.r K kk) (fun m1 B K kk => r248 m1 B K kk) fun m' h => y_eqI D (cod_285 rfl) (by decide) (kk E m' h)
  refine y_cI D (as := [(1, 1), (0, ((xs (i + 1).toNat).toInt))]) (rest := []) (cod_285 rfl) rfl rfl rfl (Nat.le_of_ble_eq_true rfl) (rcv0 sq_l_1_0 sq_p_1 (by decide)) (Nat.le_of_ble_eq_true rfl) (TrI.imp T fun w1 m1 T2 => ?_)
  refine y_s D (q := (.aload_n 2, 0, 0, 0)) (cod_285 rfl) rfl ?_
  refine y_arg (j := 1) D Z (cod_285 rfl) (cod_285 rfl) (cod_285 rfl) (cod_285 rfl) (cod_285 rfl) rfl rfl (by omega) (by omega) ?_
  exact y_cI D (as := [(1, 597), (0, ((xs (i + 1).toNat).toInt))]) (rest := [(0, w1)]) (cod_285 rfl) rfl rfl rfl (Nat.le_of_ble_eq_true rfl) (rcv0 sl597 sq_p_597 (by decide)) (Nat.le_of_ble_eq_true rfl) T2
set_option maxRecDepth 100000 in
theorem law_17 (D : DY p room_1 s m args meth c G 285 cB sB) (Z : LwS G b L xs s) (S : CS shS E mm) (hi : 0 ≤ i ∧ i + 6 ≤ L) (kk : ∀ F m', CS shS F m' → Y p l e room_1 s m args below meth c Q G 285 cB sB 1368 [(5, 7), (1, 1), (1, 597), (1, 626), (0, i), v5, v6] [] m') :
    Y p l e room_1 s m args below meth c Q G 285 cB sB 853 [(5, 7), (1, 1), (1, 597), (1, 626), (0, i), v5, v6] [] mm := by
  refine y_s D (q := (.aload_n 1, 0, 0, 0)) (cod_285 rfl) rfl ?_
  refine y_arg (j := 1) D Z (cod_285 rfl) (cod_285 rfl) (cod_285 rfl) (cod_285 rfl) (cod_285 rfl) rfl rfl (by omega) (by omega) ?_
  have T : TrI 117 [(1, 1), (0, ((xs (i + 1).toNat).toInt))] mm fun w1 m1 => TrI 251 [(1, 597), (0, ((xs (i + 1).toNat).toInt))] m1 fun w2 m2 => Y p l e room_1 s m args below meth c Q G 285 cB sB 873 [(5, 7), (1, 1), (1, 597), (1, 626), (0, i), v5, v6] [(0, w2), (0, w1)] m2 := by
    exact CS.pI (K := fun w1 w2 m2 => Y p l e room_1 s m args below meth c Q G 285 cB sB 873 [(5, 7), (1, 1), (1, 597), (1, 626), (0, i), v5, v6] [(0, w2), (0, w1)] m2) S (fun K kk => k117 (xs_lt _) S.b S.r K kk) (fun m1 B K kk => r251 (xs_lt _) m1 B K kk) fun m' h => y_eqI D (cod_285 rfl) (by decide) (kk E m' h)
  refine y_cI D (as := [(1, 1), (0, ((xs (i + 1).toNat).toInt))]) (rest := []) (cod_285 rfl) rfl rfl rfl (Nat.le_of_ble_eq_true rfl) (rcv0 sq_l_1_0 sq_p_1 (by decide)) (Nat.le_of_ble_eq_true rfl) (TrI.imp T fun w1 m1 T2 => ?_)
  refine y_s D (q := (.aload_n 2, 0, 0, 0)) (cod_285 rfl) rfl ?_
  refine y_arg (j := 1) D Z (cod_285 rfl) (cod_285 rfl) (cod_285 rfl) (cod_285 rfl) (cod_285 rfl) rfl rfl (by omega) (by omega) ?_
  exact y_cI D (as := [(1, 597), (0, ((xs (i + 1).toNat).toInt))]) (rest := [(0, w1)]) (cod_285 rfl) rfl rfl rfl (Nat.le_of_ble_eq_true rfl) (rcv0 sl597 sq_p_597 (by decide)) (Nat.le_of_ble_eq_true rfl) T2
set_option maxRecDepth 100000 in
theorem law_18 (D : DY p room_1 s m args meth c G 285 cB sB) (Z : LwS G b L xs s) (S : CS shS E mm) (hi : 0 ≤ i ∧ i + 6 ≤ L) (kk : ∀ F m', CS shS F m' → Y p l e room_1 s m args below meth c Q G 285 cB sB 1368 [(5, 7), (1, 1), (1, 597), (1, 626), (0, i), v5, v6] [] m') :
    Y p l e room_1 s m args below meth c Q G 285 cB sB 878 [(5, 7), (1, 1), (1, 597), (1, 626), (0, i), v5, v6] [] mm := by
  refine y_s D (q := (.aload_n 1, 0, 0, 0)) (cod_285 rfl) rfl ?_
  refine y_arg (j := 1) D Z (cod_285 rfl) (cod_285 rfl) (cod_285 rfl) (cod_285 rfl) (cod_285 rfl) rfl rfl (by omega) (by omega) ?_
  have T : TrI 119 [(1, 1), (0, ((xs (i + 1).toNat).toInt))] mm fun w1 m1 => TrI 253 [(1, 597), (0, ((xs (i + 1).toNat).toInt))] m1 fun w2 m2 => Y p l e room_1 s m args below meth c Q G 285 cB sB 898 [(5, 7), (1, 1), (1, 597), (1, 626), (0, i), v5, v6] [(0, w2), (0, w1)] m2 := by
    exact CS.pI (K := fun w1 w2 m2 => Y p l e room_1 s m args below meth c Q G 285 cB sB 898 [(5, 7), (1, 1), (1, 597), (1, 626), (0, i), v5, v6] [(0, w2), (0, w1)] m2) S (fun K kk => k119 S.b S.r K kk) (fun m1 B K kk => r253 m1 B K kk) fun m' h => y_eqI D (cod_285 rfl) (by decide) (kk E m' h)
  refine y_cI D (as := [(1, 1), (0, ((xs (i + 1).toNat).toInt))]) (rest := []) (cod_285 rfl) rfl rfl rfl (Nat.le_of_ble_eq_true rfl) (rcv0 sq_l_1_0 sq_p_1 (by decide)) (Nat.le_of_ble_eq_true rfl) (TrI.imp T fun w1 m1 T2 => ?_)
  refine y_s D (q := (.aload_n 2, 0, 0, 0)) (cod_285 rfl) rfl ?_
  refine y_arg (j := 1) D Z (cod_285 rfl) (cod_285 rfl) (cod_285 rfl) (cod_285 rfl) (cod_285 rfl) rfl rfl (by omega) (by omega) ?_
  exact y_cI D (as := [(1, 597), (0, ((xs (i + 1).toNat).toInt))]) (rest := [(0, w1)]) (cod_285 rfl) rfl rfl rfl (Nat.le_of_ble_eq_true rfl) (rcv0 sl597 sq_p_597 (by decide)) (Nat.le_of_ble_eq_true rfl) T2
set_option maxRecDepth 100000 in
theorem law_19 (D : DY p room_1 s m args meth c G 285 cB sB) (Z : LwS G b L xs s) (S : CS shS E mm) (hi : 0 ≤ i ∧ i + 6 ≤ L) (kk : ∀ F m', CS shS F m' → Y p l e room_1 s m args below meth c Q G 285 cB sB 1368 [(5, 7), (1, 1), (1, 597), (1, 626), (0, i), v5, v6] [] m') :
    Y p l e room_1 s m args below meth c Q G 285 cB sB 903 [(5, 7), (1, 1), (1, 597), (1, 626), (0, i), v5, v6] [] mm := by
  refine y_s D (q := (.aload_n 1, 0, 0, 0)) (cod_285 rfl) rfl ?_
  have T : TrL 121 [(1, 1)] mm fun w1 m1 => TrL 255 [(1, 597)] m1 fun w2 m2 => Y p l e room_1 s m args below meth c Q G 285 cB sB 911 [(5, 7), (1, 1), (1, 597), (1, 626), (0, i), v5, v6] [(2, w2), (2, w1)] m2 := by
    exact CS.pL (K := fun w1 w2 m2 => Y p l e room_1 s m args below meth c Q G 285 cB sB 911 [(5, 7), (1, 1), (1, 597), (1, 626), (0, i), v5, v6] [(2, w2), (2, w1)] m2) S (fun K kk => k121 S.b S.r K kk) (fun m1 B K kk => r255 m1 B K kk) fun m' h => y_eqL D (cod_285 rfl) (cod_285 rfl) (by decide) (kk E m' h)
  refine y_cL D (as := [(1, 1)]) (rest := []) (cod_285 rfl) rfl rfl rfl (Nat.le_of_ble_eq_true rfl) (rcv0 sq_l_1_0 sq_p_1 (by decide)) (Nat.le_of_ble_eq_true rfl) (TrL.imp T fun w1 m1 T2 => ?_)
  refine y_s D (q := (.aload_n 2, 0, 0, 0)) (cod_285 rfl) rfl ?_
  exact y_cL D (as := [(1, 597)]) (rest := [(2, w1)]) (cod_285 rfl) rfl rfl rfl (Nat.le_of_ble_eq_true rfl) (rcv0 sl597 sq_p_597 (by decide)) (Nat.le_of_ble_eq_true rfl) T2
set_option maxRecDepth 100000 in
theorem law_20 (D : DY p room_1 s m args meth c G 285 cB sB) (Z : LwS G b L xs s) (S : CS shS E mm) (hi : 0 ≤ i ∧ i + 6 ≤ L) (kk : ∀ F m', CS shS F m' → Y p l e room_1 s m args below meth c Q G 285 cB sB 1368 [(5, 7), (1, 1), (1, 597), (1, 626), (0, i), v5, v6] [] m') :
    Y p l e room_1 s m args below meth c Q G 285 cB sB 917 [(5, 7), (1, 1), (1, 597), (1, 626), (0, i), v5, v6] [] mm := by
  refine y_s D (q := (.aload_n 1, 0, 0, 0)) (cod_285 rfl) rfl ?_
  refine y_arg (j := 1) D Z (cod_285 rfl) (cod_285 rfl) (cod_285 rfl) (cod_285 rfl) (cod_285 rfl) rfl rfl (by omega) (by omega) ?_
  refine y_arg (j := 2) D Z (cod_285 rfl) (cod_285 rfl) (cod_285 rfl) (cod_285 rfl) (cod_285 rfl) rfl rfl (by omega) (by omega) ?_
  have T : TrI 122 [(1, 1), (0, ((xs (i + 1).toNat).toInt)), (0, ((xs (i + 2).toNat).toInt))] mm fun w1 m1 => TrI 256 [(1, 597), (0, ((xs (i + 1).toNat).toInt)), (0, ((xs (i + 2).toNat).toInt))] m1 fun w2 m2 => Y p l e room_1 s m args below meth c Q G 285 cB sB 949 [(5, 7), (1, 1), (1, 597), (1, 626), (0, i), v5, v6] [(0, w2), (0, w1)] m2 := by
    exact CS.pI (K := fun w1 w2 m2 => Y p l e room_1 s m args below meth c Q G 285 cB sB 949 [(5, 7), (1, 1), (1, 597), (1, 626), (0, i), v5, v6] [(0, w2), (0, w1)] m2) S (fun K kk => k122 S.b S.r K kk) (fun m1 B K kk => r256 m1 B K kk) fun m' h => y_eqI D (cod_285 rfl) (by decide) (kk E m' h)
  refine y_cI D (as := [(1, 1), (0, ((xs (i + 1).toNat).toInt)), (0, ((xs (i + 2).toNat).toInt))]) (rest := []) (cod_285 rfl) rfl rfl rfl (Nat.le_of_ble_eq_true rfl) (rcv0 sq_l_1_0 sq_p_1 (by decide)) (Nat.le_of_ble_eq_true rfl) (TrI.imp T fun w1 m1 T2 => ?_)
  refine y_s D (q := (.aload_n 2, 0, 0, 0)) (cod_285 rfl) rfl ?_
  refine y_arg (j := 1) D Z (cod_285 rfl) (cod_285 rfl) (cod_285 rfl) (cod_285 rfl) (cod_285 rfl) rfl rfl (by omega) (by omega) ?_
  refine y_arg (j := 2) D Z (cod_285 rfl) (cod_285 rfl) (cod_285 rfl) (cod_285 rfl) (cod_285 rfl) rfl rfl (by omega) (by omega) ?_
  exact y_cI D (as := [(1, 597), (0, ((xs (i + 1).toNat).toInt)), (0, ((xs (i + 2).toNat).toInt))]) (rest := [(0, w1)]) (cod_285 rfl) rfl rfl rfl (Nat.le_of_ble_eq_true rfl) (rcv0 sl597 sq_p_597 (by decide)) (Nat.le_of_ble_eq_true rfl) T2
set_option maxRecDepth 100000 in
theorem law_21 (D : DY p room_1 s m args meth c G 285 cB sB) (Z : LwS G b L xs s) (S : CS shS E mm) (hi : 0 ≤ i ∧ i + 6 ≤ L) (kk : ∀ F m', CS shS F m' → Y p l e room_1 s m args below meth c Q G 285 cB sB 1368 [(5, 7), (1, 1), (1, 597), (1, 626), (0, i), v5, v6] [] m') :
    Y p l e room_1 s m args below meth c Q G 285 cB sB 954 [(5, 7), (1, 1), (1, 597), (1, 626), (0, i), v5, v6] [] mm := by
  refine y_s D (q := (.aload_n 1, 0, 0, 0)) (cod_285 rfl) rfl ?_
  refine y_arg (j := 1) D Z (cod_285 rfl) (cod_285 rfl) (cod_285 rfl) (cod_285 rfl) (cod_285 rfl) rfl rfl (by omega) (by omega) ?_
  have T : TrI 124 [(1, 1), (0, ((xs (i + 1).toNat).toInt))] mm fun w1 m1 => TrI 258 [(1, 597), (0, ((xs (i + 1).toNat).toInt))] m1 fun w2 m2 => Y p l e room_1 s m args below meth c Q G 285 cB sB 974 [(5, 7), (1, 1), (1, 597), (1, 626), (0, i), v5, v6] [(0, w2), (0, w1)] m2 := by
    exact CS.pI (K := fun w1 w2 m2 => Y p l e room_1 s m args below meth c Q G 285 cB sB 974 [(5, 7), (1, 1), (1, 597), (1, 626), (0, i), v5, v6] [(0, w2), (0, w1)] m2) S (fun K kk => k124 S.b S.r K kk) (fun m1 B K kk => r258 m1 B K kk) fun m' h => y_eqI D (cod_285 rfl) (by decide) (kk E m' h)
  refine y_cI D (as := [(1, 1), (0, ((xs (i + 1).toNat).toInt))]) (rest := []) (cod_285 rfl) rfl rfl rfl (Nat.le_of_ble_eq_true rfl) (rcv0 sq_l_1_0 sq_p_1 (by decide)) (Nat.le_of_ble_eq_true rfl) (TrI.imp T fun w1 m1 T2 => ?_)
  refine y_s D (q := (.aload_n 2, 0, 0, 0)) (cod_285 rfl) rfl ?_
  refine y_arg (j := 1) D Z (cod_285 rfl) (cod_285 rfl) (cod_285 rfl) (cod_285 rfl) (cod_285 rfl) rfl rfl (by omega) (by omega) ?_
  exact y_cI D (as := [(1, 597), (0, ((xs (i + 1).toNat).toInt))]) (rest := [(0, w1)]) (cod_285 rfl) rfl rfl rfl (Nat.le_of_ble_eq_true rfl) (rcv0 sl597 sq_p_597 (by decide)) (Nat.le_of_ble_eq_true rfl) T2
set_option maxRecDepth 100000 in
theorem law_22 (D : DY p room_1 s m args meth c G 285 cB sB) (Z : LwS G b L xs s) (S : CS shS E mm) (hi : 0 ≤ i ∧ i + 6 ≤ L) (kk : ∀ F m', CS shS F m' → Y p l e room_1 s m args below meth c Q G 285 cB sB 1368 [(5, 7), (1, 1), (1, 597), (1, 626), (0, i), v5, v6] [] m') :
    Y p l e room_1 s m args below meth c Q G 285 cB sB 979 [(5, 7), (1, 1), (1, 597), (1, 626), (0, i), v5, v6] [] mm := by
  refine y_s D (q := (.aload_n 1, 0, 0, 0)) (cod_285 rfl) rfl ?_
  have T : TrI 126 [(1, 1)] mm fun w1 m1 => TrI 260 [(1, 597)] m1 fun w2 m2 => Y p l e room_1 s m args below meth c Q G 285 cB sB 987 [(5, 7), (1, 1), (1, 597), (1, 626), (0, i), v5, v6] [(0, w2), (0, w1)] m2 := by
    exact CS.pI (K := fun w1 w2 m2 => Y p l e room_1 s m args below meth c Q G 285 cB sB 987 [(5, 7), (1, 1), (1, 597), (1, 626), (0, i), v5, v6] [(0, w2), (0, w1)] m2) S (fun K kk => k126 S.b S.r K kk) (fun m1 B K kk => r260 m1 B K kk) fun m' h => y_eqI D (cod_285 rfl) (by decide) (kk E m' h)
  refine y_cI D (as := [(1, 1)]) (rest := []) (cod_285 rfl) rfl rfl rfl (Nat.le_of_ble_eq_true rfl) (rcv0 sq_l_1_0 sq_p_1 (by decide)) (Nat.le_of_ble_eq_true rfl) (TrI.imp T fun w1 m1 T2 => ?_)
  refine y_s D (q := (.aload_n 2, 0, 0, 0)) (cod_285 rfl) rfl ?_
  exact y_cI D (as := [(1, 597)]) (rest := [(0, w1)]) (cod_285 rfl) rfl rfl rfl (Nat.le_of_ble_eq_true rfl) (rcv0 sl597 sq_p_597 (by decide)) (Nat.le_of_ble_eq_true rfl) T2
set_option maxRecDepth 100000 in
theorem law_23 (D : DY p room_1 s m args meth c G 285 cB sB) (Z : LwS G b L xs s) (S : CS shS E mm) (hi : 0 ≤ i ∧ i + 6 ≤ L) (kk : ∀ F m', CS shS F m' → Y p l e room_1 s m args below meth c Q G 285 cB sB 1368 [(5, 7), (1, 1), (1, 597), (1, 626), (0, i), v5, v6] [] m') :
    Y p l e room_1 s m args below meth c Q G 285 cB sB 992 [(5, 7), (1, 1), (1, 597), (1, 626), (0, i), v5, v6] [] mm := by
  refine y_s D (q := (.aload_n 1, 0, 0, 0)) (cod_285 rfl) rfl ?_
  have T : TrI 127 [(1, 1)] mm fun w1 m1 => TrI 261 [(1, 597)] m1 fun w2 m2 => Y p l e room_1 s m args below meth c Q G 285 cB sB 1000 [(5, 7), (1, 1), (1, 597), (1, 626), (0, i), v5, v6] [(0, w2), (0, w1)] m2 := by
    exact CS.pI (K := fun w1 w2 m2 => Y p l e room_1 s m args below meth c Q G 285 cB sB 1000 [(5, 7), (1, 1), (1, 597), (1, 626), (0, i), v5, v6] [(0, w2), (0, w1)] m2) S (fun K kk => k127 S.b S.r K kk) (fun m1 B K kk => r261 m1 B K kk) fun m' h => y_eqI D (cod_285 rfl) (by decide) (kk E m' h)
  refine y_cI D (as := [(1, 1)]) (rest := []) (cod_285 rfl) rfl rfl rfl (Nat.le_of_ble_eq_true rfl) (rcv0 sq_l_1_0 sq_p_1 (by decide)) (Nat.le_of_ble_eq_true rfl) (TrI.imp T fun w1 m1 T2 => ?_)
  refine y_s D (q := (.aload_n 2, 0, 0, 0)) (cod_285 rfl) rfl ?_
  exact y_cI D (as := [(1, 597)]) (rest := [(0, w1)]) (cod_285 rfl) rfl rfl rfl (Nat.le_of_ble_eq_true rfl) (rcv0 sl597 sq_p_597 (by decide)) (Nat.le_of_ble_eq_true rfl) T2
set_option maxRecDepth 100000 in
theorem law_24 (D : DY p room_1 s m args meth c G 285 cB sB) (Z : LwS G b L xs s) (S : CS shS E mm) (hi : 0 ≤ i ∧ i + 6 ≤ L) (kk : ∀ F m', CS shS F m' → Y p l e room_1 s m args below meth c Q G 285 cB sB 1368 [(5, 7), (1, 1), (1, 597), (1, 626), (0, i), v5, v6] [] m') :
    Y p l e room_1 s m args below meth c Q G 285 cB sB 1005 [(5, 7), (1, 1), (1, 597), (1, 626), (0, i), v5, v6] [] mm := by
  refine y_s D (q := (.aload_n 1, 0, 0, 0)) (cod_285 rfl) rfl ?_
  refine y_arg (j := 1) D Z (cod_285 rfl) (cod_285 rfl) (cod_285 rfl) (cod_285 rfl) (cod_285 rfl) rfl rfl (by omega) (by omega) ?_
  have T : TrI 128 [(1, 1), (0, ((xs (i + 1).toNat).toInt))] mm fun w1 m1 => TrI 262 [(1, 597), (0, ((xs (i + 1).toNat).toInt))] m1 fun w2 m2 => Y p l e room_1 s m args below meth c Q G 285 cB sB 1025 [(5, 7), (1, 1), (1, 597), (1, 626), (0, i), v5, v6] [(0, w2), (0, w1)] m2 := by
    exact CS.pI (K := fun w1 w2 m2 => Y p l e room_1 s m args below meth c Q G 285 cB sB 1025 [(5, 7), (1, 1), (1, 597), (1, 626), (0, i), v5, v6] [(0, w2), (0, w1)] m2) S (fun K kk => k128 S.b S.r K kk) (fun m1 B K kk => r262 m1 B K kk) fun m' h => y_eqI D (cod_285 rfl) (by decide) (kk E m' h)
  refine y_cI D (as := [(1, 1), (0, ((xs (i + 1).toNat).toInt))]) (rest := []) (cod_285 rfl) rfl rfl rfl (Nat.le_of_ble_eq_true rfl) (rcv0 sq_l_1_0 sq_p_1 (by decide)) (Nat.le_of_ble_eq_true rfl) (TrI.imp T fun w1 m1 T2 => ?_)
  refine y_s D (q := (.aload_n 2, 0, 0, 0)) (cod_285 rfl) rfl ?_
  refine y_arg (j := 1) D Z (cod_285 rfl) (cod_285 rfl) (cod_285 rfl) (cod_285 rfl) (cod_285 rfl) rfl rfl (by omega) (by omega) ?_
  exact y_cI D (as := [(1, 597), (0, ((xs (i + 1).toNat).toInt))]) (rest := [(0, w1)]) (cod_285 rfl) rfl rfl rfl (Nat.le_of_ble_eq_true rfl) (rcv0 sl597 sq_p_597 (by decide)) (Nat.le_of_ble_eq_true rfl) T2
set_option maxRecDepth 100000 in
theorem law_25 (D : DY p room_1 s m args meth c G 285 cB sB) (Z : LwS G b L xs s) (S : CS shS E mm) (hi : 0 ≤ i ∧ i + 6 ≤ L) (kk : ∀ F m', CS shS F m' → Y p l e room_1 s m args below meth c Q G 285 cB sB 1368 [(5, 7), (1, 1), (1, 597), (1, 626), (0, i), v5, v6] [] m') :
    Y p l e room_1 s m args below meth c Q G 285 cB sB 1030 [(5, 7), (1, 1), (1, 597), (1, 626), (0, i), v5, v6] [] mm := by
  refine y_s D (q := (.aload_n 1, 0, 0, 0)) (cod_285 rfl) rfl ?_
  refine y_arg (j := 1) D Z (cod_285 rfl) (cod_285 rfl) (cod_285 rfl) (cod_285 rfl) (cod_285 rfl) rfl rfl (by omega) (by omega) ?_
  have T : TrI 129 [(1, 1), (0, ((xs (i + 1).toNat).toInt))] mm fun w1 m1 => TrI 263 [(1, 597), (0, ((xs (i + 1).toNat).toInt))] m1 fun w2 m2 => Y p l e room_1 s m args below meth c Q G 285 cB sB 1050 [(5, 7), (1, 1), (1, 597), (1, 626), (0, i), v5, v6] [(0, w2), (0, w1)] m2 := by
    exact p_shortest (K := fun w1 w2 m2 => Y p l e room_1 s m args below meth c Q G 285 cB sB 1050 [(5, 7), (1, 1), (1, 597), (1, 626), (0, i), v5, v6] [(0, w2), (0, w1)] m2) S fun F m' w h => y_eqI D (cod_285 rfl) (by decide) (kk F m' h)
  refine y_cI D (as := [(1, 1), (0, ((xs (i + 1).toNat).toInt))]) (rest := []) (cod_285 rfl) rfl rfl rfl (Nat.le_of_ble_eq_true rfl) (rcv0 sq_l_1_0 sq_p_1 (by decide)) (Nat.le_of_ble_eq_true rfl) (TrI.imp T fun w1 m1 T2 => ?_)
  refine y_s D (q := (.aload_n 2, 0, 0, 0)) (cod_285 rfl) rfl ?_
  refine y_arg (j := 1) D Z (cod_285 rfl) (cod_285 rfl) (cod_285 rfl) (cod_285 rfl) (cod_285 rfl) rfl rfl (by omega) (by omega) ?_
  exact y_cI D (as := [(1, 597), (0, ((xs (i + 1).toNat).toInt))]) (rest := [(0, w1)]) (cod_285 rfl) rfl rfl rfl (Nat.le_of_ble_eq_true rfl) (rcv0 sl597 sq_p_597 (by decide)) (Nat.le_of_ble_eq_true rfl) T2
set_option maxRecDepth 100000 in
theorem law_26 (D : DY p room_1 s m args meth c G 285 cB sB) (Z : LwS G b L xs s) (S : CS shS E mm) (hi : 0 ≤ i ∧ i + 6 ≤ L) (kk : ∀ F m', CS shS F m' → Y p l e room_1 s m args below meth c Q G 285 cB sB 1368 [(5, 7), (1, 1), (1, 597), (1, 626), (0, i), v5, v6] [] m') :
    Y p l e room_1 s m args below meth c Q G 285 cB sB 1055 [(5, 7), (1, 1), (1, 597), (1, 626), (0, i), v5, v6] [] mm := by
  refine y_s D (q := (.aload_n 1, 0, 0, 0)) (cod_285 rfl) rfl ?_
  refine y_arg (j := 1) D Z (cod_285 rfl) (cod_285 rfl) (cod_285 rfl) (cod_285 rfl) (cod_285 rfl) rfl rfl (by omega) (by omega) ?_
  refine y_arg (j := 2) D Z (cod_285 rfl) (cod_285 rfl) (cod_285 rfl) (cod_285 rfl) (cod_285 rfl) rfl rfl (by omega) (by omega) ?_
  have T : TrI 140 [(1, 1), (0, ((xs (i + 1).toNat).toInt)), (0, ((xs (i + 2).toNat).toInt))] mm fun w1 m1 => TrI 271 [(1, 597), (0, ((xs (i + 1).toNat).toInt)), (0, ((xs (i + 2).toNat).toInt))] m1 fun w2 m2 => Y p l e room_1 s m args below meth c Q G 285 cB sB 1087 [(5, 7), (1, 1), (1, 597), (1, 626), (0, i), v5, v6] [(0, w2), (0, w1)] m2 := by
    exact p_shortByte (K := fun w1 w2 m2 => Y p l e room_1 s m args below meth c Q G 285 cB sB 1087 [(5, 7), (1, 1), (1, 597), (1, 626), (0, i), v5, v6] [(0, w2), (0, w1)] m2) S fun F m' w h => y_eqI D (cod_285 rfl) (by decide) (kk F m' h)
  refine y_cI D (as := [(1, 1), (0, ((xs (i + 1).toNat).toInt)), (0, ((xs (i + 2).toNat).toInt))]) (rest := []) (cod_285 rfl) rfl rfl rfl (Nat.le_of_ble_eq_true rfl) (rcv0 sq_l_1_0 sq_p_1 (by decide)) (Nat.le_of_ble_eq_true rfl) (TrI.imp T fun w1 m1 T2 => ?_)
  refine y_s D (q := (.aload_n 2, 0, 0, 0)) (cod_285 rfl) rfl ?_
  refine y_arg (j := 1) D Z (cod_285 rfl) (cod_285 rfl) (cod_285 rfl) (cod_285 rfl) (cod_285 rfl) rfl rfl (by omega) (by omega) ?_
  refine y_arg (j := 2) D Z (cod_285 rfl) (cod_285 rfl) (cod_285 rfl) (cod_285 rfl) (cod_285 rfl) rfl rfl (by omega) (by omega) ?_
  exact y_cI D (as := [(1, 597), (0, ((xs (i + 1).toNat).toInt)), (0, ((xs (i + 2).toNat).toInt))]) (rest := [(0, w1)]) (cod_285 rfl) rfl rfl rfl (Nat.le_of_ble_eq_true rfl) (rcv0 sl597 sq_p_597 (by decide)) (Nat.le_of_ble_eq_true rfl) T2
set_option maxRecDepth 100000 in
theorem law_27 (D : DY p room_1 s m args meth c G 285 cB sB) (Z : LwS G b L xs s) (S : CS shS E mm) (hi : 0 ≤ i ∧ i + 6 ≤ L) (kk : ∀ F m', CS shS F m' → Y p l e room_1 s m args below meth c Q G 285 cB sB 1368 [(5, 7), (1, 1), (1, 597), (1, 626), (0, i), v5, v6] [] m') :
    Y p l e room_1 s m args below meth c Q G 285 cB sB 1092 [(5, 7), (1, 1), (1, 597), (1, 626), (0, i), v5, v6] [] mm := by
  refine y_s D (q := (.aload_n 1, 0, 0, 0)) (cod_285 rfl) rfl ?_
  refine y_arg (j := 1) D Z (cod_285 rfl) (cod_285 rfl) (cod_285 rfl) (cod_285 rfl) (cod_285 rfl) rfl rfl (by omega) (by omega) ?_
  have T : TrI 141 [(1, 1), (0, ((xs (i + 1).toNat).toInt))] mm fun w1 m1 => TrI 234 [(1, 597), (0, ((xs (i + 1).toNat).toInt))] m1 fun w2 m2 => Y p l e room_1 s m args below meth c Q G 285 cB sB 1112 [(5, 7), (1, 1), (1, 597), (1, 626), (0, i), v5, v6] [(0, w2), (0, w1)] m2 := by
    exact CS.pI (K := fun w1 w2 m2 => Y p l e room_1 s m args below meth c Q G 285 cB sB 1112 [(5, 7), (1, 1), (1, 597), (1, 626), (0, i), v5, v6] [(0, w2), (0, w1)] m2) S (fun K kk => k141 S.b S.r K kk) (fun m1 B K kk => r234 m1 B K kk) fun m' h => y_eqI D (cod_285 rfl) (by decide) (kk E m' h)
  refine y_cI D (as := [(1, 1), (0, ((xs (i + 1).toNat).toInt))]) (rest := []) (cod_285 rfl) rfl rfl rfl (Nat.le_of_ble_eq_true rfl) (rcv0 sq_l_1_0 sq_p_1 (by decide)) (Nat.le_of_ble_eq_true rfl) (TrI.imp T fun w1 m1 T2 => ?_)
  refine y_s D (q := (.aload_n 2, 0, 0, 0)) (cod_285 rfl) rfl ?_
  refine y_arg (j := 1) D Z (cod_285 rfl) (cod_285 rfl) (cod_285 rfl) (cod_285 rfl) (cod_285 rfl) rfl rfl (by omega) (by omega) ?_
  exact y_cI D (as := [(1, 597), (0, ((xs (i + 1).toNat).toInt))]) (rest := [(0, w1)]) (cod_285 rfl) rfl rfl rfl (Nat.le_of_ble_eq_true rfl) (rcv0 sl597 sq_p_597 (by decide)) (Nat.le_of_ble_eq_true rfl) T2
end LAWC
