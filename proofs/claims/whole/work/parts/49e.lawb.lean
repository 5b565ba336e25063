/-! THE LAW: the script, the comparisons -/
def LwS (G : aG) (b L : Nat) (xs : Nat → Int32) (s : State) : Prop := va_X b L xs s s.heap ∧ b < s.heap.size ∧ G.1 = s.heap.size ∧ gV G 7 = b ∧ L ≤ 3072
theorem xs_lt (x : Int32) : x.toInt < 2147483648 := (i32_in x).2
theorem sl597 : slot 597 0 = some none := by decide +kernel
section LBA
variable {p : Program} {l : Launch} {e : Env} {s : State} {m : MethodId} {args : Array Value} {below : List Frame} {meth : Method} {c : Code} {Q : State → Prop} {G : aG} {cB sB b L : Nat} {xs : Nat → Int32}
variable {pc : Nat} {ls st : List aV} {mm : Mm}
theorem y_mono {M : Nat} {R : Room} {cB' sB' : Nat} (h1 : cB ≤ cB') (h2 : sB ≤ sB') (k : Y p l e R s m args below meth c Q G M cB' sB' pc ls st mm) : Y p l e R s m args below meth c Q G M cB sB pc ls st mm :=
  fun g1 g2 g3 lsA H locs cells slots hl hP hz hS q1 q2 => k g1 g2 g3 lsA H locs cells slots hl hP hz hS (Nat.le_trans q1 h1) (Nat.le_trans q2 h2)
theorem y_slen {v : Int} {x y : Nat} (D : DY p room_1 s m args meth c G 285 cB sB) (Z : LwS G b L xs s) (hq : cod 285 pc = some (.arraylength, v, x, y)) (k : Y p l e room_1 s m args below meth c Q G 285 cB sB (pc + 1) ls ((0, (L : Int)) :: st) mm) : Y p l e room_1 s m args below meth c Q G 285 cB sB pc ls ((5, 7) :: st) mm := by
  intro g1 g2 g3 lsA H locs cells slots hl hP hz hS h1 h2
  obtain ⟨hX, hbl, hG, hV, hL⟩ := Z
  have C := D.1
  have hbA : ¬ aA G b := by unfold aA; omega
  have key := k g1 (gds_cons.mpr ⟨gd_int (by omega), (gds_cons.mp g2).2⟩) g3 lsA H locs cells slots hl hP hz hS h1 h2
  show W p l e room_1 s m args below meth c H locs cells slots _ (F0 m pc lsA (.ref (gV G (7 : Int).toNat) :: st.map (cv G)))
  rw [show gV G (7 : Int).toNat = b from hV]
  refine va_slen C.1 C.2.1 hX hbl hbA hS (cod_dec (by decide) hq) ?_
  rw [show Int32.ofNat L = i3 (L : Int) from Int32.ofInt_eq_ofNat.symm]
  exact key
theorem y_sld {v j : Int} {x y : Nat} (D : DY p room_1 s m args meth c G 285 cB sB) (Z : LwS G b L xs s) (hq : cod 285 pc = some (.iaload, v, x, y)) (h0 : 0 ≤ j) (hj : j < L) (k : Y p l e room_1 s m args below meth c Q G 285 cB sB (pc + 1) ls ((0, (xs j.toNat).toInt) :: st) mm) : Y p l e room_1 s m args below meth c Q G 285 cB sB pc ls ((0, j) :: (5, 7) :: st) mm := by
  intro g1 g2 g3 lsA H locs cells slots hl hP hz hS h1 h2
  obtain ⟨hX, hbl, hG, hV, hL⟩ := Z
  have C := D.1
  have hbA : ¬ aA G b := by unfold aA; omega
  have gj : -2147483648 ≤ j ∧ j < 2147483648 := by omega
  have key := k g1 (gds_cons.mpr ⟨gd_int (i32_in _), (gds_cons.mp (gds_cons.mp g2).2).2⟩) g3 lsA H locs cells slots hl hP hz hS h1 h2
  show W p l e room_1 s m args below meth c H locs cells slots _ (F0 m pc lsA (.int (i3 j) :: .ref (gV G (7 : Int).toNat) :: st.map (cv G)))
  rw [show gV G (7 : Int).toNat = b from hV]
  refine va_sld C.1 C.2.1 hX hbl hbA hS (i := i3 j) ?_ (cod_dec (by decide) hq) ?_
  · rw [vp_in_iff, i3_in gj]
    omega
  · rw [Clamp gj]
    have e9 : cv G (0, (xs j.toNat).toInt) = .int (xs j.toNat) := congrArg Value.int (i3_toInt _)
    rw [← e9]
    exact key
/-- script[i + j] -/
theorem y_arg {i j : Int} (D : DY p room_1 s m args meth c G 285 cB sB) (Z : LwS G b L xs s) (q0 : cod 285 pc = some (.aload_n 0, 0, 0, 0)) (q1 : cod 285 (pc + 1) = some (.iload 4, 0, 0, 0)) (q3 : cod 285 (pc + 3) = some (.iconst j, 0, 0, 0)) (q4 : cod 285 (pc + 4) = some (.iadd, 0, 0, 0)) (q5 : cod 285 (pc + 5) = some (.iaload, 0, 0, 0))
    (l0 : ls[0]? = some (5, 7)) (l4 : ls[4]? = some (0, i)) (h0 : 0 ≤ i ∧ 0 ≤ j ∧ j ≤ 5) (h1 : i + j < L) (k : Y p l e room_1 s m args below meth c Q G 285 cB sB (pc + 6) ls ((0, (xs (i + j).toNat).toInt) :: st) mm) : Y p l e room_1 s m args below meth c Q G 285 cB sB pc ls st mm := by
  have hL := Z.2.2.2.2
  refine y_s D (np := pc + 1) (ls' := ls) (st' := (5, 7) :: st) q0 ?_ ?_
  · show ldS (mk mm) ls st (pc + 1) 1 0 = _
    unfold ldS
    rw [l0]
    rfl
  refine y_s D (np := pc + 3) (ls' := ls) (st' := (0, i) :: (5, 7) :: st) q1 ?_ ?_
  · show ldS (mk mm) ls ((5, 7) :: st) (pc + 3) 0 4 = _
    unfold ldS
    rw [l4]
    rfl
  have hj : inI j = true := by
    have : j = 0 ∨ j = 1 ∨ j = 2 ∨ j = 3 ∨ j = 4 ∨ j = 5 := by omega
    rcases this with rfl | rfl | rfl | rfl | rfl | rfl <;> rfl
  refine y_s D (np := pc + 4) (ls' := ls) (st' := (0, j) :: (0, i) :: (5, 7) :: st) q3 ?_ ?_
  · show oif (inI j) (some (pc + 4, ls, (0, j) :: (0, i) :: (5, 7) :: st, mk mm)) = _
    rw [hj]
    rfl
  refine y_s D (np := pc + 5) (ls' := ls) (st' := (0, i + j) :: (5, 7) :: st) q4 ?_ (y_sld D Z q5 (by omega) h1 k)
  show some (pc + 5, ls, (0, wr (i + j)) :: (5, 7) :: st, mk mm) = _
  rw [wrI (x := i + j) (by omega) (by omega)]
theorem y_eqI {off w v : Int} {a b' : Nat} (D : DY p room_1 s m args meth c G 285 cB sB) (hq : cod 285 pc = some (.if_icmp .eq off, v, a, b')) (ht : (pc : Int) + off = ((1368 : Nat) : Int)) (k : Y p l e room_1 s m args below meth c Q G 285 cB sB 1368 ls [] mm) : Y p l e room_1 s m args below meth c Q G 285 cB sB pc ls [(0, w), (0, w)] mm :=
  y_ic (P := True) D hq ht (by simp [cmpI]) (fun _ => k) fun h => absurd trivial h
theorem y_lc0 {w v' : Int} {a' b'' : Nat} (D : DY p room_1 s m args meth c G 285 cB sB) (hq1 : cod 285 pc = some (.lcmp, v', a', b'')) (k : Y p l e room_1 s m args below meth c Q G 285 cB sB (pc + 1) ls ((0, 0) :: st) mm) : Y p l e room_1 s m args below meth c Q G 285 cB sB pc ls ((2, w) :: (2, w) :: st) mm := by
  refine y_s D (np := pc + 1) (ls' := ls) (st' := (0, 0) :: st) hq1 ?_ k
  show op2L (mk mm) ls ((2, w) :: (2, w) :: st) (pc + 1) 0 (fun x y => some (if y < x then 1 else if x = y then 0 else -1)) = _
  simp [op2L]
theorem y_eqL {off w v v' : Int} {a b' a' b'' : Nat} (D : DY p room_1 s m args meth c G 285 cB sB) (hq1 : cod 285 pc = some (.lcmp, v', a', b'')) (hq : cod 285 (pc + 1) = some (.ifCond .eq off, v, a, b')) (ht : ((pc + 1 : Nat) : Int) + off = ((1368 : Nat) : Int)) (k : Y p l e room_1 s m args below meth c Q G 285 cB sB 1368 ls [] mm) : Y p l e room_1 s m args below meth c Q G 285 cB sB pc ls [(2, w), (2, w)] mm :=
  y_lc0 D hq1 (y_if (P := True) D hq ht (by simp [cmpI]) (fun _ => k) fun h => absurd trivial h)
/-- '!= 0' as a number -/
theorem y_b01 {x : Int} (D : DY p room_1 s m args meth c G 285 cB sB) (q0 : cod 285 pc = some (.ifCond .eq 7, 0, 0, 0)) (q1 : cod 285 (pc + 3) = some (.iconst 1, 0, 0, 0)) (q2 : cod 285 (pc + 4) = some (.goto 4, 0, 0, 0)) (q3 : cod 285 (pc + 7) = some (.iconst 0, 0, 0, 0)) (k : Y p l e room_1 s m args below meth c Q G 285 cB sB (pc + 8) ls ((0, if x = 0 then 0 else 1) :: st) mm) : Y p l e room_1 s m args below meth c Q G 285 cB sB pc ls ((0, x) :: st) mm := by
  refine y_if (P := x = 0) (tgt := pc + 7) D q0 (by omega) xj_eq (fun h => ?_) (fun h => ?_)
  · rw [if_pos h] at k
    exact y_s D q3 rfl k
  · rw [if_neg h] at k
    exact y_s D q1 rfl (y_go (tgt := pc + 8) D q2 (by omega) k)
/-- the switch -/
theorem y_tsw {d lo hi : Int} {offs : Array Int} {x v : Int} {a b' : Nat} (D : DY p room_1 s m args meth c G 285 cB sB) (hq : cod 285 pc = some (.tableswitch d lo hi offs, v, a, b')) (hs : (offs.size : Int) = hi - lo + 1) (hd : 0 ≤ (pc : Int) + d) (ho : ∀ o ∈ offs.toList, 0 ≤ (pc : Int) + o) (kd : Y p l e room_1 s m args below meth c Q G 285 cB sB ((pc : Int) + d).toNat ls st mm) (ki : ∀ (i : Nat) (o : Int), offs.toList[i]? = some o → Y p l e room_1 s m args below meth c Q G 285 cB sB ((pc : Int) + o).toNat ls st mm) : Y p l e room_1 s m args below meth c Q G 285 cB sB pc ls ((0, x) :: st) mm := by
  by_cases h : x < lo ∨ hi < x
  · refine y_s D hq ?_ kd
    show swT (mk mm) ls ((0, x) :: st) pc d lo hi offs = _
    simp only [swT, if_pos h, jmp, if_pos hd]
  · have hi2 : (x - lo).toNat < offs.size := by omega
    have e9 : offs[(x - lo).toNat]? = some offs[(x - lo).toNat] := Array.getElem?_eq_getElem hi2
    have e2 : offs.toList[(x - lo).toNat]? = some offs[(x - lo).toNat] := by rw [Array.getElem?_toList]; exact e9
    refine y_s D hq ?_ (ki (x - lo).toNat _ e2)
    show swT (mk mm) ls ((0, x) :: st) pc d lo hi offs = _
    simp only [swT, if_neg h, e9, jmp]
    rw [if_pos (ho _ (List.mem_of_getElem? e2))]
end LBA
