theorem e_add (x y : Int) : i3 (wr (x + y)) = i3 x + i3 y := by rw [i3_wr]; exact Int32.ofInt_add x y
theorem e_sub (x y : Int) : i3 (wr (x - y)) = i3 x - i3 y := by rw [i3_wr]; exact Int32.ofInt_sub x y
theorem e_mul (x y : Int) : i3 (wr (x * y)) = i3 x * i3 y := by rw [i3_wr]; exact Int32.ofInt_mul x y
theorem l_add (x y : Int) : i6 (wl (x + y)) = i6 x + i6 y := by rw [i6_wl]; exact Int64.ofInt_add x y
theorem l_sub (x y : Int) : i6 (wl (x - y)) = i6 x - i6 y := by rw [i6_wl]; exact Int64.ofInt_sub x y
theorem l_mul (x y : Int) : i6 (wl (x * y)) = i6 x * i6 y := by rw [i6_wl]; exact Int64.ofInt_mul x y
theorem e_b (f : Int32 → Int32 → Int32) (x y : Int) : i3 (bI f x y) = f (i3 x) (i3 y) := i3_toInt _
theorem l_b (f : Int64 → Int64 → Int64) (x y : Int) : i6 (bL f x y) = f (i6 x) (i6 y) := i6_toInt _
theorem i3_ne0 {y : Int} (hy : -2147483648 ≤ y ∧ y < 2147483648) (h : ¬ y = 0) : ¬ i3 y = 0 := fun e => h ((i3_eq hy inZ).mp (by rw [e]; rfl))
theorem i6_ne0 {y : Int} (hy : -9223372036854775808 ≤ y ∧ y < 9223372036854775808) (h : ¬ y = 0) : ¬ i6 y = 0 := fun e => h ((i6_eq hy (by decide)).mp (by rw [e]; rfl))
theorem c_bi {n : Int} (h1 : -128 ≤ n) (h2 : n < 128) : (Int8.ofInt n).toInt32 = i3 n := by
  unfold i3
  exact Int8.toInt32_ofInt (by show (-128 : Int) ≤ n; exact h1) (by show n ≤ (127 : Int); omega)
theorem c_si {n : Int} (h1 : -32768 ≤ n) (h2 : n < 32768) : (Int16.ofInt n).toInt32 = i3 n := by
  unfold i3
  exact Int16.toInt32_ofInt (by show (-32768 : Int) ≤ n; exact h1) (by show n ≤ (32767 : Int); omega)
def Cx (G : aG) (p : Program) (s : State) (m : MethodId) (args : Array Value) (meth : Method) (c : Code) (M : Nat) : Prop :=
  p.tables.exec = Jvm.exec ∧ c.code = mB M ∧ c.maxLocals = mL M ∧ s.vm.findClass (mY M).cls = some m.cls ∧ (∀ w ∈ gT, w.before args s = true) ∧ meth.sig.returnType = mR M ∧ meth.locks = false ∧ meth.name = (mY M).name ∧ kn G s ∧ sts G s s.heap
/-- what is to be shown behind a step -/
def KK (p : Program) (l : Launch) (e : Env) (R : Room) (s : State) (m : MethodId) (args : Array Value) (below : List Frame) (meth : Method) (c : Code) (Q : State → Prop) (G : aG) (M : Nat) (al : Bool) (cells slots : Nat) (hp : aH) (z : Nat × List aV × List aV × aH) : Prop :=
  ∀ (lsA' : Array Slot) (H' : Heap) (locs' : List Loc) (cells' slots' : Nat), lok G z.2.1 lsA' (mL M) → reps G z.2.2.2 H' → szk al G z.2.2.2 H' → va_S (aA G) s.heap H' locs' → cells' + hp.length = cells + z.2.2.2.length → slots' + tot hp = slots + tot z.2.2.2 → W p l e R s m args below meth c H' locs' cells' slots' Q (F0 m z.1 lsA' (z.2.2.1.map (cv G)))
section SND
variable {p : Program} {l : Launch} {e : Env} {R : Room} {s : State} {m : MethodId} {args : Array Value} {below : List Frame} {meth : Method} {c : Code} {H : Heap} {locs : List Loc} {cells slots : Nat} {Q : State → Prop} {G : aG} {M : Nat} {al : Bool}
variable {pc : Nat} {ls st : List aV} {lsA : Array Slot} {hp : aH} {z : Nat × List aV × List aV × aH}
theorem if1_W {co : ClassFile.Cond} {off : Int} (hx : p.tables.exec = Jvm.exec) (hb : c.code = mB M) (hd : decode (mB M) pc = .ok (.ifCond co off, 3)) (h : if1 hp ls st pc co off = some z) (g2 : gds st) (hl : lok G ls lsA (mL M)) (hP : reps G hp H) (hz : szk al G hp H) (hS : va_S (aA G) s.heap H locs) (K : KK p l e R s m args below meth c Q G M al cells slots hp z) : W p l e R s m args below meth c H locs cells slots Q (F0 m pc lsA (st.map (cv G))) := by
  obtain ⟨x, st', tgt, rfl, ht, rfl⟩ := if1_inv h
  have gx := (gds_cons.mp g2).1.1 rfl
  simp only at gx
  cases co
  · refine lv_if_eq (tgt := tgt) hx hb hd ht (fun q => ?_) (fun q => ?_)
    · have e9 : cmpI .eq x 0 = true := by simp only [cmpI, decide_eq_true_eq]; exact (i3_eq gx inZ).mp q
      simp only [e9, if_true] at K
      exact K lsA H locs cells slots hl hP hz hS rfl rfl
    · have e9 : cmpI .eq x 0 = false := by simp only [cmpI, decide_eq_false_iff_not]; exact fun w => q ((i3_eq gx inZ).mpr w)
      simp only [e9, Bool.false_eq_true, if_false] at K
      exact K lsA H locs cells slots hl hP hz hS rfl rfl
  · refine lv_if_ne (tgt := tgt) hx hb hd ht (fun q => ?_) (fun q => ?_)
    · have e9 : cmpI .ne x 0 = true := by simp only [cmpI, decide_eq_true_eq]; exact fun w => q ((i3_eq gx inZ).mpr w)
      simp only [e9, if_true] at K
      exact K lsA H locs cells slots hl hP hz hS rfl rfl
    · have e9 : cmpI .ne x 0 = false := by simp only [cmpI, decide_eq_false_iff_not]; exact fun w => w ((i3_eq gx inZ).mp q)
      simp only [e9, Bool.false_eq_true, if_false] at K
      exact K lsA H locs cells slots hl hP hz hS rfl rfl
  · refine lv_if_lt (tgt := tgt) hx hb hd ht (fun q => ?_) (fun q => ?_)
    · have e9 : cmpI .lt x 0 = true := by simp only [cmpI, decide_eq_true_eq]; exact (i3_lt gx inZ).mp q
      simp only [e9, if_true] at K
      exact K lsA H locs cells slots hl hP hz hS rfl rfl
    · have e9 : cmpI .lt x 0 = false := by simp only [cmpI, decide_eq_false_iff_not]; exact fun w => q ((i3_lt gx inZ).mpr w)
      simp only [e9, Bool.false_eq_true, if_false] at K
      exact K lsA H locs cells slots hl hP hz hS rfl rfl
  · refine lv_if_ge (tgt := tgt) hx hb hd ht (fun q => ?_) (fun q => ?_)
    · have e9 : cmpI .ge x 0 = true := by simp only [cmpI, decide_eq_true_eq]; exact (i3_le inZ gx).mp q
      simp only [e9, if_true] at K
      exact K lsA H locs cells slots hl hP hz hS rfl rfl
    · have e9 : cmpI .ge x 0 = false := by simp only [cmpI, decide_eq_false_iff_not]; exact fun w => q ((i3_le inZ gx).mpr w)
      simp only [e9, Bool.false_eq_true, if_false] at K
      exact K lsA H locs cells slots hl hP hz hS rfl rfl
  · refine lv_if_gt (tgt := tgt) hx hb hd ht (fun q => ?_) (fun q => ?_)
    · have e9 : cmpI .gt x 0 = true := by simp only [cmpI, decide_eq_true_eq]; exact (i3_lt inZ gx).mp q
      simp only [e9, if_true] at K
      exact K lsA H locs cells slots hl hP hz hS rfl rfl
    · have e9 : cmpI .gt x 0 = false := by simp only [cmpI, decide_eq_false_iff_not]; exact fun w => q ((i3_lt inZ gx).mpr w)
      simp only [e9, Bool.false_eq_true, if_false] at K
      exact K lsA H locs cells slots hl hP hz hS rfl rfl
  · refine lv_if_le (tgt := tgt) hx hb hd ht (fun q => ?_) (fun q => ?_)
    · have e9 : cmpI .le x 0 = true := by simp only [cmpI, decide_eq_true_eq]; exact (i3_le gx inZ).mp q
      simp only [e9, if_true] at K
      exact K lsA H locs cells slots hl hP hz hS rfl rfl
    · have e9 : cmpI .le x 0 = false := by simp only [cmpI, decide_eq_false_iff_not]; exact fun w => q ((i3_le gx inZ).mpr w)
      simp only [e9, Bool.false_eq_true, if_false] at K
      exact K lsA H locs cells slots hl hP hz hS rfl rfl
theorem if2_W {co : ClassFile.Cond} {off : Int} (hx : p.tables.exec = Jvm.exec) (hb : c.code = mB M) (hd : decode (mB M) pc = .ok (.if_icmp co off, 3)) (h : if2 hp ls st pc co off = some z) (g2 : gds st) (hl : lok G ls lsA (mL M)) (hP : reps G hp H) (hz : szk al G hp H) (hS : va_S (aA G) s.heap H locs) (K : KK p l e R s m args below meth c Q G M al cells slots hp z) : W p l e R s m args below meth c H locs cells slots Q (F0 m pc lsA (st.map (cv G))) := by
  obtain ⟨x, y, st', tgt, rfl, ht, rfl⟩ := if2_inv h
  have gy := (gds_cons.mp g2).1.1 rfl
  have gx := (gds_cons.mp (gds_cons.mp g2).2).1.1 rfl
  simp only at gx gy
  cases co
  · refine lv_icmp_eq (tgt := tgt) hx hb hd ht (fun q => ?_) (fun q => ?_)
    · have e9 : cmpI .eq x y = true := by simp only [cmpI, decide_eq_true_eq]; exact (i3_eq gx gy).mp q
      simp only [e9, if_true] at K
      exact K lsA H locs cells slots hl hP hz hS rfl rfl
    · have e9 : cmpI .eq x y = false := by simp only [cmpI, decide_eq_false_iff_not]; exact fun w => q ((i3_eq gx gy).mpr w)
      simp only [e9, Bool.false_eq_true, if_false] at K
      exact K lsA H locs cells slots hl hP hz hS rfl rfl
  · refine lv_icmp_ne (tgt := tgt) hx hb hd ht (fun q => ?_) (fun q => ?_)
    · have e9 : cmpI .ne x y = true := by simp only [cmpI, decide_eq_true_eq]; exact fun w => q ((i3_eq gx gy).mpr w)
      simp only [e9, if_true] at K
      exact K lsA H locs cells slots hl hP hz hS rfl rfl
    · have e9 : cmpI .ne x y = false := by simp only [cmpI, decide_eq_false_iff_not]; exact fun w => w ((i3_eq gx gy).mp q)
      simp only [e9, Bool.false_eq_true, if_false] at K
      exact K lsA H locs cells slots hl hP hz hS rfl rfl
  · refine lv_icmp_lt (tgt := tgt) hx hb hd ht (fun q => ?_) (fun q => ?_)
    · have e9 : cmpI .lt x y = true := by simp only [cmpI, decide_eq_true_eq]; exact (i3_lt gx gy).mp q
      simp only [e9, if_true] at K
      exact K lsA H locs cells slots hl hP hz hS rfl rfl
    · have e9 : cmpI .lt x y = false := by simp only [cmpI, decide_eq_false_iff_not]; exact fun w => q ((i3_lt gx gy).mpr w)
      simp only [e9, Bool.false_eq_true, if_false] at K
      exact K lsA H locs cells slots hl hP hz hS rfl rfl
  · refine lv_icmp_ge (tgt := tgt) hx hb hd ht (fun q => ?_) (fun q => ?_)
    · have e9 : cmpI .ge x y = true := by simp only [cmpI, decide_eq_true_eq]; exact (i3_le gy gx).mp q
      simp only [e9, if_true] at K
      exact K lsA H locs cells slots hl hP hz hS rfl rfl
    · have e9 : cmpI .ge x y = false := by simp only [cmpI, decide_eq_false_iff_not]; exact fun w => q ((i3_le gy gx).mpr w)
      simp only [e9, Bool.false_eq_true, if_false] at K
      exact K lsA H locs cells slots hl hP hz hS rfl rfl
  · refine lv_icmp_gt (tgt := tgt) hx hb hd ht (fun q => ?_) (fun q => ?_)
    · have e9 : cmpI .gt x y = true := by simp only [cmpI, decide_eq_true_eq]; exact (i3_lt gy gx).mp q
      simp only [e9, if_true] at K
      exact K lsA H locs cells slots hl hP hz hS rfl rfl
    · have e9 : cmpI .gt x y = false := by simp only [cmpI, decide_eq_false_iff_not]; exact fun w => q ((i3_lt gy gx).mpr w)
      simp only [e9, Bool.false_eq_true, if_false] at K
      exact K lsA H locs cells slots hl hP hz hS rfl rfl
  · refine lv_icmp_le (tgt := tgt) hx hb hd ht (fun q => ?_) (fun q => ?_)
    · have e9 : cmpI .le x y = true := by simp only [cmpI, decide_eq_true_eq]; exact (i3_le gx gy).mp q
      simp only [e9, if_true] at K
      exact K lsA H locs cells slots hl hP hz hS rfl rfl
    · have e9 : cmpI .le x y = false := by simp only [cmpI, decide_eq_false_iff_not]; exact fun w => q ((i3_le gx gy).mpr w)
      simp only [e9, Bool.false_eq_true, if_false] at K
      exact K lsA H locs cells slots hl hP hz hS rfl rfl
end SND
