/-! THE START: what G is, the constructors, the loop -/
def tmK (i : Nat) : Term := if i = 0 then .string "ShortForms" 397 else .string "ShortForms$Script" 120
def gvF : List Cond := flatC (Jvm.Cond.and given_1 narrow_1)
def lnS : List Nat := [10, 144]
set_option maxRecDepth 100000 in
theorem fx_ex : ∀ i, i < 2 → Cond.exactly (tmK i) "java/lang/String" ∈ gvF := by decide +kernel
set_option maxRecDepth 100000 in
theorem fx_co : ∀ i, i < 2 → Cond.eq (.field (tmK i) "java/lang/String" "coder" "B") (.int 0) ∈ gvF := by decide +kernel
set_option maxRecDepth 100000 in
theorem fx_ar : ∀ i, i < 2 → Cond.arrayOf (.field (tmK i) "java/lang/String" "value" "[B") .byte ∈ gvF := by decide +kernel
set_option maxRecDepth 100000 in
theorem fx_le : ∀ i, i < 2 → Cond.eq (.length (.field (tmK i) "java/lang/String" "value" "[B")) (.int (Int32.ofNat (lnS.getD i 0))) ∈ gvF := by decide +kernel
set_option maxRecDepth 100000 in
theorem fx_el : ∀ i, i < 2 → ∀ j, j < lnS.getD i 0 → gvF[(if i = 0 then 191 else 43) + j]? = some (Cond.eq (.elem (.field (tmK i) "java/lang/String" "value" "[B") (.int (Int32.ofNat j))) (.int ((sb32.getD i []).getD j 0))) := by decide +kernel
set_option maxRecDepth 100000 in
theorem fx_ne : Cond.not (Cond.eq (tmK 1) (tmK 0)) ∈ gvF ∧ Cond.eq (tmK 0) (.string "ShortForms$Shortener" 107) ∈ gvF ∧ Cond.eq (.static "java/lang/String" "COMPACT_STRINGS" "Z") (.int 1) ∈ gvF ∧ Cond.isRef (.static "jdk/internal/util/Preconditions" "SIOOBE_FORMATTER" "Ljava/util/function/BiFunction;") ∈ gvF ∧ Cond.isRef (.static Bundle.tN "UNASSIGNED_STACK" Bundle.steD) ∈ gvF ∧ Cond.isRef (.static Bundle.tN "SUPPRESSED_SENTINEL" Bundle.listD) ∈ gvF ∧ Cond.not (.castable exN exI) ∈ gvF ∧ Cond.exactly (.string "ShortForms" 145) "java/lang/String" ∈ gvF ∧ Cond.exactly (.string "ShortForms" 183) "java/lang/String" ∈ gvF := by decide +kernel
set_option maxRecDepth 100000 in
theorem tb_in : (∀ w ∈ [Cond.arrayOver (.object RX7), Cond.arrayOver (.object RX1), Cond.arrayOver (.object RX2), Cond.arrayOver (.array .int), Cond.arrayOver (.array .long)], w ∈ lw_tbl) ∧ (∀ r ∈ vwCl, Cond.instantiable r.1 r.2.2 ∈ lw_tbl) := ⟨by decide +kernel, by decide +kernel⟩
set_option maxRecDepth 100000 in
theorem tb_st : ∀ w ∈ [Cond.laysStatic "java/lang/String" "COMPACT_STRINGS" "Z", Cond.initialized "java/lang/String", Cond.laysStatic "jdk/internal/util/Preconditions" "SIOOBE_FORMATTER" "Ljava/util/function/BiFunction;", Cond.initialized "jdk/internal/util/Preconditions", Cond.laysStatic Bundle.tN "UNASSIGNED_STACK" Bundle.steD, Cond.laysStatic Bundle.tN "SUPPRESSED_SENTINEL" Bundle.listD, Cond.initialized Bundle.tN, Cond.stringRef "ShortForms" 397 "~^'&@#%*+=", Cond.stringRef "ShortForms$Script" 120 "open    word    agree   pair    strange habit   seed    any     start   vowel   cons    end     sign    noun    verb    adj     prep    conj    ", Cond.stringRef "ShortForms$Shortener" 107 "~^'&@#%*+=", Cond.stringRef "ShortForms" 145 "no such reading", Cond.stringRef "ShortForms" 183 "no such what"], w ∈ lw_tbl := by decide +kernel
theorem ov_arr {args : Array Value} {s : State} {t : FieldType} (h : (Cond.arrayOver (.array t)).before args s = true) : ∃ c k comp, s.vm.findClass ("[" ++ (FieldType.array t).toString) = some c ∧ s.vm.classes[c]? = some k ∧ k.kind = .array comp (.array t) := by
  simp only [Cond.before, Cond.holds, Cond.value, beq_iff_eq] at h
  cases hc : s.vm.findClass (FieldType.array t).toString with
  | none => simp [hc] at h
  | some comp =>
    simp only [hc, Option.bind_some, Option.bind_eq_some_iff, Option.map_eq_some_iff] at h
    obtain ⟨c, hi, k, hk, hb⟩ := h
    cases hkind : k.kind with
    | array component ty =>
      rw [hkind] at hb
      simp at hb
      exact ⟨c, k, component, hb.2, hk, by rw [hkind, hb.1]⟩
    | _ => rw [hkind] at hb; simp at hb
theorem eq_ref {args : Array Value} {s : State} {t u : Term} {a : Nat} (h : (Cond.eq t u).before args s = true) (ht : t.eval args s none [] s = some (.ref a)) : u.eval args s none [] s = some (.ref a) := by
  cases hv : u.eval args s none [] s with
  | none => simp [Cond.before, Cond.holds, Cond.value, ht, hv] at h
  | some w =>
    simp [Cond.before, Cond.holds, Cond.value, ht, hv] at h
    cases w with
    | ref z =>
      have hz : a = z := by simpa using h
      rw [hz]
    | _ => simp at h
theorem begin_kn {args : Array Value} {s : State} (c0 : ClassId) (hts : ∀ w ∈ lw_tbl, w.before args s = true) : ∃ (dC : Nat → ClassId) (dI : Nat → Nat → Nat) (dA : Nat → ClassId), (∀ (ci : Nat) (r : vw_C), vwCl[ci]? = some r → u_Kn s r.1 r.2.1 r.2.2 (dC ci) (dI ci)) ∧ ∀ k, k < 9 → s.vm.findClass ("[" ++ (aft k).toString) = some (dA k) ∧ ArrOfT s (dA k) (aft k) ∧ (3 ≤ k → (Cond.arrayOver (aft k)).before #[] s = true) := by
  have htg : ∀ w ∈ gT, w.before args s = true := fun w h => hts w (List.mem_filter.mp h).1
  have h1 : ∀ ci : Nat, ∃ q : ClassId × (Nat → Nat), ∀ r, vwCl[ci]? = some r → u_Kn s r.1 r.2.1 r.2.2 q.1 q.2 := by
    intro ci
    cases h : vwCl[ci]? with
    | none => exact ⟨(c0, fun _ => 0), fun r h' => by cases h'⟩
    | some r =>
      obtain ⟨cC, iS, hk⟩ := u_known (C := r.1) (T := r.2.1) (N := r.2.2) (n := r.2.2) htg (cls_ok ci r h).2.1 (hts _ (tb_in.2 r (List.mem_of_getElem? h)))
      exact ⟨(cC, iS), fun r' h' => by cases h'; exact hk⟩
  obtain ⟨qc, hqc⟩ := Classical.axiomOfChoice h1
  have arr : ∀ {t : FieldType}, (∃ c k comp, s.vm.findClass ("[" ++ t.toString) = some c ∧ s.vm.classes[c]? = some k ∧ k.kind = .array comp t) → ∃ cA, s.vm.findClass ("[" ++ t.toString) = some cA ∧ ArrOfT s cA t := fun ⟨c, k, comp, q1, q2, q3⟩ => ⟨c, q1, fun n z => ⟨(fun k h => by cases h), k, q2, comp, q3⟩⟩
  have ob : ∀ {n : String}, Cond.arrayOver (.object n) ∈ lw_tbl → ∃ cA, s.vm.findClass ("[" ++ (FieldType.object n).toString) = some cA ∧ ArrOfT s cA (.object n) ∧ (Cond.arrayOver (.object n)).before #[] s = true := fun h => by
    obtain ⟨comp, c, k, -, -, q3, q4, q5⟩ := Cond.arrayOver_spec (hts _ h)
    obtain ⟨cA, a, b⟩ := arr ⟨c, k, comp, q5, q3, q4⟩
    exact ⟨cA, a, b, hts _ h⟩
  have oa : ∀ {t : FieldType}, Cond.arrayOver (.array t) ∈ lw_tbl → ∃ cA, s.vm.findClass ("[" ++ (FieldType.array t).toString) = some cA ∧ ArrOfT s cA (.array t) ∧ (Cond.arrayOver (.array t)).before #[] s = true := fun h => by
    obtain ⟨cA, a, b⟩ := arr (ov_arr (hts _ h))
    exact ⟨cA, a, b, over_moved (Vm.Alike.refl _) (hts _ h)⟩
  have ac : ∀ {t : FieldType}, Cond.arrayClass t ∈ gT → ∃ cA, s.vm.findClass ("[" ++ t.toString) = some cA ∧ ArrOfT s cA t := fun h => arr (Cond.arrayClass_spec (htg _ h))
  have h2 : ∀ k : Nat, ∃ cA : ClassId, k < 9 → s.vm.findClass ("[" ++ (aft k).toString) = some cA ∧ ArrOfT s cA (aft k) ∧ (3 ≤ k → (Cond.arrayOver (aft k)).before #[] s = true) := by
    intro k
    match k with
    | 0 => obtain ⟨cA, a, b⟩ := ac agI; exact ⟨cA, fun _ => ⟨a, b, fun h => absurd h (by decide)⟩⟩
    | 1 => obtain ⟨cA, a, b⟩ := ac agL; exact ⟨cA, fun _ => ⟨a, b, fun h => absurd h (by decide)⟩⟩
    | 2 => obtain ⟨cA, a, b⟩ := ac agZ; exact ⟨cA, fun _ => ⟨a, b, fun h => absurd h (by decide)⟩⟩
    | 3 => obtain ⟨cA, a, b, d⟩ := ob (tb_in.1 (Cond.arrayOver (.object RX7)) (by simp)); exact ⟨cA, fun _ => ⟨a, b, fun _ => d⟩⟩
    | 4 => obtain ⟨cA, a, b, d⟩ := ob (tb_in.1 (Cond.arrayOver (.object RX1)) (by simp)); exact ⟨cA, fun _ => ⟨a, b, fun _ => d⟩⟩
    | 5 => obtain ⟨cA, a, b, d⟩ := ob (tb_in.1 (Cond.arrayOver (.object RX2)) (by simp)); exact ⟨cA, fun _ => ⟨a, b, fun _ => d⟩⟩
    | 6 => obtain ⟨cA, a, b, d⟩ := oa (tb_in.1 (Cond.arrayOver (.array .int)) (by simp)); exact ⟨cA, fun _ => ⟨a, b, fun _ => d⟩⟩
    | 7 => obtain ⟨cA, a, b, d⟩ := oa (tb_in.1 (Cond.arrayOver (.array .long)) (by simp)); exact ⟨cA, fun _ => ⟨a, b, fun _ => d⟩⟩
    | 8 => obtain ⟨cA, a, b, d⟩ := ob (tb_in.1 (Cond.arrayOver (.object RX7)) (by simp)); exact ⟨cA, fun _ => ⟨a, b, fun _ => d⟩⟩
    | k + 9 => exact ⟨c0, fun h => by omega⟩
  obtain ⟨dA, hdA⟩ := Classical.axiomOfChoice h2
  exact ⟨fun ci => (qc ci).1, fun ci => (qc ci).2, dA, hqc, hdA⟩
theorem begin_G {args : Array Value} {s : State} (c0 : ClassId) (b : Nat) (hts : ∀ w ∈ lw_tbl, w.before args s = true) (hgv : ∀ w ∈ gvF, w.before args s = true) : ∃ G : aG, G.1 = s.heap.size ∧ gV G 7 = b ∧ kn G s ∧ sts G s s.heap ∧ nst s ∧ ∃ a1 a2, xsts G a1 a2 s s.heap := by
  obtain ⟨dC, dI, dA, k1, k2⟩ := begin_kn c0 hts
  have hA : ∀ a : Nat, a < s.heap.size → ¬ (fun q : Nat => s.heap.size ≤ q) a := fun a h q => absurd (show s.heap.size ≤ a from q) (Nat.not_le.mpr h)
  have st : ∀ {w : Cond}, w ∈ [Cond.laysStatic "java/lang/String" "COMPACT_STRINGS" "Z", Cond.initialized "java/lang/String", Cond.laysStatic "jdk/internal/util/Preconditions" "SIOOBE_FORMATTER" "Ljava/util/function/BiFunction;", Cond.initialized "jdk/internal/util/Preconditions", Cond.laysStatic Bundle.tN "UNASSIGNED_STACK" Bundle.steD, Cond.laysStatic Bundle.tN "SUPPRESSED_SENTINEL" Bundle.listD, Cond.initialized Bundle.tN, Cond.stringRef "ShortForms" 397 "~^'&@#%*+=", Cond.stringRef "ShortForms$Script" 120 "open    word    agree   pair    strange habit   seed    any     start   vowel   cons    end     sign    noun    verb    adj     prep    conj    ", Cond.stringRef "ShortForms$Shortener" 107 "~^'&@#%*+=", Cond.stringRef "ShortForms" 145 "no such reading", Cond.stringRef "ShortForms" 183 "no such what"] → w.before args s = true := fun h => hts _ (tb_st _ h)
  obtain ⟨n1, n2, n3, n4, n5, n6, n7, n8, n9⟩ := fx_ne
  obtain ⟨adK, adV, vS, ev⟩ := vk_Sof (args := args) (s := s) (N := 2) (tm := tmK) (len := lnS) (byt := sb32) (A := fun q : Nat => s.heap.size ≤ q) (fun i hi => by
      rcases (show i = 0 ∨ i = 1 by omega) with rfl | rfl <;> decide) (fun i hi => hgv _ (fx_ex i hi)) (fun i hi => hgv _ (fx_co i hi)) (fun i hi => hgv _ (fx_ar i hi)) (fun i hi => hgv _ (fx_le i hi)) (fun i hi j hj => hgv _ (List.mem_of_getElem? (fx_el i hi j hj)))
    (fun i j hi hj hij => by
      rcases (show (i = 0 ∧ j = 1) ∨ (i = 1 ∧ j = 0) by omega) with ⟨rfl, rfl⟩ | ⟨rfl, rfl⟩
      · exact Or.inr (hgv _ n1)
      · exact Or.inl (hgv _ n1)) hA
  have e0 : (Term.string "ShortForms" 397).eval args s none [] s = some (.ref (adK 0)) := ev 0 (by decide)
  have e1 : (Term.string "ShortForms$Script" 120).eval args s none [] s = some (.ref (adK 1)) := ev 1 (by decide)
  have e2 : (Term.string "ShortForms$Shortener" 107).eval args s none [] s = some (.ref (adK 0)) := eq_ref (hgv _ n2) e0
  obtain ⟨x1, -, -, -, ex1, -⟩ := Cond.exactly_spec (args := args) (first := s) (o := none) (s := s) (idx := []) (hgv _ n8)
  obtain ⟨x2, -, -, -, ex2, -⟩ := Cond.exactly_spec (args := args) (first := s) (o := none) (s := s) (idx := []) (hgv _ n9)
  obtain ⟨gf, hgf⟩ : ∃ gf : Nat, va_Z "jdk/internal/util/Preconditions" "SIOOBE_FORMATTER" "Ljava/util/function/BiFunction;" (if gf = 0 then .null else .ref (gf - 1)) (fun q : Nat => s.heap.size ≤ q) s s.heap := by
    rcases va_Zqof (A := fun q : Nat => s.heap.size ≤ q) (st (by simp)) (st (by simp)) (hgv _ n4) hA with h | ⟨t, h⟩
    · exact ⟨0, by rw [if_pos rfl]; exact h⟩
    · exact ⟨t + 1, by rw [if_neg (Nat.succ_ne_zero t)]; exact h⟩
  refine ⟨(s.heap.size, dC, dI, dA, adK, (fun i => if i = 7 then b else adV i), gf), rfl, rfl, ⟨k1, k2⟩, ⟨⟨fun i hi => ?_, vS.2⟩, fun w hw => ?_, ?_, hgf⟩, fun w hw => ?_, x1, x2, ?_, ?_, ?_, ?_, fun w hw => ?_, va_Nc.of (hgv _ n7)⟩
  · have h := vS.1 i hi
    show va_O "java/lang/String" (adK i) _ s s.heap ∧ va_OF "java/lang/String" "coder" "B" (.int 0) (adK i) _ s s.heap ∧ va_OF "java/lang/String" "value" "[B" (.ref (if i = 7 then b else adV i)) (adK i) _ s s.heap ∧ va_T .byte (if i = 7 then b else adV i) _ _ _ s s.heap
    rw [if_neg (by omega)]
    exact h
  · simp only [srT, List.mem_cons, List.not_mem_nil, or_false] at hw
    rcases hw with rfl | rfl | rfl
    · exact vk_R.of (st (by simp)) e0
    · exact vk_R.of (st (by simp)) e1
    · exact vk_R.of (st (by simp)) e2
  · exact va_Zof (st (by simp)) (st (by simp)) (va_eqt (hgv _ n3)) hA
  · have hn : isNest w = true := (List.mem_filter.mp hw).2
    have h1 := hts w (List.mem_append_right _ (List.mem_filter.mp hw).1)
    cases w <;> first | exact va_Nw.of rfl h1 | exact absurd hn (by simp [isNest])
  · exact vx_Zqof (st (by simp)) (st (by simp)) (hgv _ n5) hA
  · exact vx_Zqof (st (by simp)) (st (by simp)) (hgv _ n6) hA
  · exact vk_R.of (st (by simp)) ex1
  · exact vk_R.of (st (by simp)) ex2
  · exact va_Nw.of (xT_on w hw) (hts w (List.mem_append_right _ (List.mem_filter.mp hw).1))
