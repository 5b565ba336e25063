/-! the law's loop. Printed by wip/whole/gen49j.py -/
set_option maxRecDepth 100000 in
theorem mB285 : mB 285 = code := rfl
theorem mR285 : mR 285 = ret := by decide +kernel
section LOOP
variable {p : Program} {l : Launch} {e : Env} {s : State} {m : MethodId} {below : List Frame} {meth : Method} {c : Code} {G : aG} {b L : Nat} {xs : Nat → Int32} {a1 a2 : Nat}
theorem DYn {args : Array Value} {cB sB cB' sB' : Nat} (D : DY p room_1 s m args meth c G 285 cB sB) (h : cB' ≤ 601024 ∧ sB' ≤ 7293034) : DY p room_1 s m args meth c G 285 cB' sB' := ⟨D.1, D.2.1, D.2.2.1, D.2.2.2.1, h.1, h.2⟩
set_option maxRecDepth 100000 in
/-- the law's own end -/
theorem y_end {cB sB : Nat} {ls : List aV} {mm : Mm} (D : DY p room_1 s m #[Value.ref b] meth c G 285 cB sB) (Z : LwS G b L xs s) : Y p l e room_1 s m #[Value.ref b] below meth c (lw_Z below #[Value.ref b] s) G 285 cB sB 1374 ls [] mm := by
  refine y_s D (q := (.iconst 1, 0, 0, 0)) (cod_285 rfl) rfl ?_
  intro g1 g2 g3 lsA H locs cells slots hl hP hz hS h1 h2
  obtain ⟨C, -, -, -, hcB, hsB⟩ := D
  obtain ⟨hX, hbl, hG, hV, hL⟩ := Z
  refine va_forget (fun q hq => by have := hS.2.2 q hq; unfold aA at this; omega) ?_
  refine W.widen (k := 601024) (n := 7293034) (Nat.le_trans h1 hcB) (Nat.le_trans h2 hsB) ?_
  have e1 : cv G (0, 1) = .int 1 := by
    show Value.int (i3 1) = _
    rw [show i3 1 = (1 : Int32) by decide]
  show W p l e room_1 s m #[Value.ref b] below meth c H [] 601024 7293034 (lw_Z below #[Value.ref b] s) (F0 m 1375 lsA [cv G (0, 1)])
  rw [e1]
  exact lw_ret C.1 (C.2.1.trans mB285) (C.2.2.2.2.2.1.trans mR285) C.2.2.2.2.2.2.1 (by decide +kernel)
set_option maxRecDepth 100000 in
/-- one turn -/
theorem law_turn {cB sB cB' sB' : Nat} {E mm : Mm} {i : Int} {v5 v6 : aV} (hfl : l.stackTraces = false) (D : DY p room_1 s m #[Value.ref b] meth c G 285 cB sB) (D' : DY p room_1 s m #[Value.ref b] meth c G 285 cB' sB') (hx : xsts G a1 a2 s s.heap) (hc : cB + 1 ≤ cB' ∧ sB + 6 ≤ sB') (Z : LwS G b L xs s) (S : CS shS E mm) (hi : 0 ≤ i ∧ i + 6 ≤ L)
    (kk : ∀ F m' v5 v6, CS shS F m' → Y p l e room_1 s m #[Value.ref b] below meth c (lw_Z below #[Value.ref b] s) G 285 cB' sB' 1368 [(5, 7), (1, 1), (1, 597), (1, 626), (0, i), v5, v6] [] m') :
    Y p l e room_1 s m #[Value.ref b] below meth c (lw_Z below #[Value.ref b] s) G 285 cB sB 33 [(5, 7), (1, 1), (1, 597), (1, 626), (0, i), v5, v6] [] mm := by
  have kq : ∀ F m', CS shS F m' → Y p l e room_1 s m #[Value.ref b] below meth c (lw_Z below #[Value.ref b] s) G 285 cB sB 1368 [(5, 7), (1, 1), (1, 597), (1, 626), (0, i), v5, v6] [] m' := fun F m' S' => y_mono (by omega) (by omega) (kk F m' v5 v6 S')
  refine y_s D (q := (.aload_n 0, 0, 0, 0)) (cod_285 rfl) rfl ?_
  refine y_s D (q := (.iload 4, 0, 0, 0)) (cod_285 rfl) rfl ?_
  refine y_sld D Z (cod_285 rfl) hi.1 (by omega) ?_
  refine y_s D (q := (.bipush 63, 0, 0, 0)) (cod_285 rfl) rfl ?_
  refine y_s D (q := (.iand, 0, 0, 0)) (cod_285 rfl) rfl ?_
  refine y_tsw D (cod_285 rfl) (by decide) (by decide) (by decide) (kq E mm S) fun j o ho => ?_
  match j, ho with
  | 0, ho => cases ho; exact law_0 D Z S hi kq
  | 1, ho => cases ho; exact law_1 D Z S hi kq
  | 2, ho => cases ho; exact law_2 D Z S hi kq
  | 3, ho => cases ho; exact law_3 D Z S hi kq
  | 4, ho => cases ho; exact law_4 hfl D D' hx hc Z S hi kk
  | 5, ho => cases ho; exact law_5 D Z S hi kq
  | 6, ho => cases ho; exact law_6 D Z S hi kq
  | 7, ho => cases ho; exact law_7 D Z S hi kq
  | 8, ho => cases ho; exact law_8 D Z S hi kq
  | 9, ho => cases ho; exact law_9 D Z S hi kq
  | 10, ho => cases ho; exact law_10 D Z S hi kq
  | 11, ho => cases ho; exact law_11 D Z S hi kq
  | 12, ho => cases ho; exact law_12 D Z S hi kq
  | 13, ho => cases ho; exact law_13 D Z S hi kq
  | 14, ho => cases ho; exact law_14 D Z S hi kq
  | 15, ho => cases ho; exact law_15 D Z S hi kq
  | 16, ho => cases ho; exact law_16 D Z S hi kq
  | 17, ho => cases ho; exact law_17 D Z S hi kq
  | 18, ho => cases ho; exact law_18 D Z S hi kq
  | 19, ho => cases ho; exact law_19 D Z S hi kq
  | 20, ho => cases ho; exact law_20 D Z S hi kq
  | 21, ho => cases ho; exact law_21 D Z S hi kq
  | 22, ho => cases ho; exact law_22 D Z S hi kq
  | 23, ho => cases ho; exact law_23 D Z S hi kq
  | 24, ho => cases ho; exact law_24 D Z S hi kq
  | 25, ho => cases ho; exact law_25 D Z S hi kq
  | 26, ho => cases ho; exact law_26 D Z S hi kq
  | 27, ho => cases ho; exact law_27 D Z S hi kq
  | 28, ho => cases ho; exact law_28 D Z S hi kq
  | 29, ho => cases ho; exact law_29 D Z S hi kq
  | 30, ho => cases ho; exact law_30 D Z S hi kq
  | 31, ho => cases ho; exact law_31 D Z S hi kq
  | 32, ho => cases ho; exact law_32 D Z S hi kq
  | 33, ho => cases ho; exact law_33 D Z S hi kq
  | 34, ho => cases ho; exact law_34 D Z S hi kq
  | 35, ho => cases ho; exact law_35 D Z S hi kq
  | 36, ho => cases ho; exact law_36 D Z S hi kq
  | 37, ho => cases ho; exact law_37 D Z S hi kq
  | 38, ho => cases ho; exact law_38 D Z S hi kq
  | j + 39, ho => exact absurd ho (by simp)
set_option maxRecDepth 100000 in
theorem law_loop (hfl : l.stackTraces = false) (D : DY p room_1 s m #[Value.ref b] meth c G 285 0 0) (hx : xsts G a1 a2 s s.heap) (Z : LwS G b L xs s) : ∀ (n : Nat) (i : Int) (E mm : Mm) (v5 v6 : aV), n ≤ 512 → CS shS E mm → 0 ≤ i → i ≤ 3078 → (L : Int) - i < 6 * (n : Int) + 6 →
    Y p l e room_1 s m #[Value.ref b] below meth c (lw_Z below #[Value.ref b] s) G 285 (601024 - 4 * n) (7293034 - 40 * n) 23 [(5, 7), (1, 1), (1, 597), (1, 626), (0, i), v5, v6] [] mm := by
  have hL := Z.2.2.2.2
  intro n
  induction n with
  | zero =>
    intro i E mm v5 v6 hn S i0 i1 hm
    have D0 := DYn D (cB' := 601024 - 4 * 0) (sB' := 7293034 - 40 * 0) ⟨by omega, by omega⟩
    refine y_s D0 (q := (.iload 4, 0, 0, 0)) (cod_285 rfl) rfl ?_
    refine y_s D0 (q := (.aload_n 0, 0, 0, 0)) (cod_285 rfl) rfl ?_
    refine y_slen D0 Z (cod_285 rfl) ?_
    refine y_s D0 (q := (.bipush 6, 0, 0, 0)) (cod_285 rfl) rfl ?_
    refine y_s D0 (q := (.isub, 0, 0, 0)) (cod_285 rfl) rfl ?_
    rw [wrI (x := (L : Int) - 6) (by omega) (by omega)]
    exact y_ic (P := i > (L : Int) - 6) (tgt := 1374) D0 (cod_285 rfl) (by decide) xj_gt (fun _ => y_end D0 Z) fun h => absurd (show i > (L : Int) - 6 by omega) h
  | succ n ih =>
    intro i E mm v5 v6 hn S i0 i1 hm
    have D0 := DYn D (cB' := 601024 - 4 * (n + 1)) (sB' := 7293034 - 40 * (n + 1)) ⟨by omega, by omega⟩
    have D1 := DYn D (cB' := 601024 - 4 * n) (sB' := 7293034 - 40 * n) ⟨by omega, by omega⟩
    refine y_s D0 (q := (.iload 4, 0, 0, 0)) (cod_285 rfl) rfl ?_
    refine y_s D0 (q := (.aload_n 0, 0, 0, 0)) (cod_285 rfl) rfl ?_
    refine y_slen D0 Z (cod_285 rfl) ?_
    refine y_s D0 (q := (.bipush 6, 0, 0, 0)) (cod_285 rfl) rfl ?_
    refine y_s D0 (q := (.isub, 0, 0, 0)) (cod_285 rfl) rfl ?_
    rw [wrI (x := (L : Int) - 6) (by omega) (by omega)]
    refine y_ic (P := i > (L : Int) - 6) (tgt := 1374) D0 (cod_285 rfl) (by decide) xj_gt (fun _ => y_end D0 Z) fun h => ?_
    refine law_turn hfl D0 D1 hx ⟨by omega, by omega⟩ Z S ⟨i0, by omega⟩ fun F m' w5 w6 S' => ?_
    refine y_s D1 (np := 1371) (ls' := [(5, 7), (1, 1), (1, 597), (1, 626), (0, i + 6), w5, w6]) (st' := []) (q := (.iinc 4 6, 0, 0, 0)) (cod_285 rfl) ?_ ?_
    · have e6 : wr (i + 6) = i + 6 := wrI (by omega) (by omega)
      show oif (lsok [(5, 7), (1, 1), (1, 597), (1, 626), (0, i), w5, w6] 4) (some (1371, [(5, 7), (1, 1), (1, 597), (1, 626), (0, wr (i + 6)), w5, w6], [], mk m')) = _
      rw [e6]
      rfl
    · exact y_go (tgt := 23) D1 (cod_285 rfl) (by decide) (ih (i + 6) F m' w5 w6 (by omega) S' (by omega) (by omega) (by omega))
end LOOP
