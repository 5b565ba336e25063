def okT : FieldType → Bool
  | .int => true
  | .boolean => true
  | .long => true
  | .object _ => true
  | .array _ => true
  | _ => false
theorem aty_ok (ci k : Nat) : okT (aty ci k) = true := by
  unfold aty
  split
  · unfold tyX0; split <;> rfl
  · unfold tyX1; split <;> rfl
  · unfold tyX2; split <;> rfl
  · unfold tyX3; split <;> rfl
  · unfold tyX4; split <;> rfl
  · unfold tyX5; split <;> rfl
  · unfold tyX6; split <;> rfl
  · unfold tyX7; split <;> rfl
  · unfold tyX8; split <;> rfl
  · unfold tyX9; split <;> rfl
  · unfold tyX10; split <;> rfl
  · unfold tyX11; split <;> rfl
  · unfold tyX12; split <;> rfl
theorem fits_cv {G : aG} {ci k : Nat} {w : Int} (hb : bok (aty ci k) w = true) : fits (aty ci k) (cv G (ftag ci k, w)) = true ∧ narrow (aty ci k) (cv G (ftag ci k, w)) = cv G (ftag ci k, w) := by
  have ho := aty_ok ci k
  unfold ftag
  generalize aty ci k = ty at hb ho
  cases ty with
  | boolean =>
    unfold bok at hb
    simp only [Bool.or_eq_true, beq_iff_eq] at hb
    rcases hb with rfl | rfl <;> exact ⟨rfl, rfl⟩
  | object n =>
    show fits (.object n) (if w ≤ 0 then Value.null else Value.ref _) = true ∧ narrow (.object n) (if w ≤ 0 then Value.null else Value.ref _) = (if w ≤ 0 then Value.null else Value.ref _)
    split <;> exact ⟨rfl, rfl⟩
  | array n =>
    show fits (.array n) (if w ≤ 0 then Value.null else Value.ref _) = true ∧ narrow (.array n) (if w ≤ 0 then Value.null else Value.ref _) = (if w ≤ 0 then Value.null else Value.ref _)
    split <;> exact ⟨rfl, rfl⟩
  | int => exact ⟨rfl, rfl⟩
  | long => exact ⟨rfl, rfl⟩
  | _ => exact absurd ho (by decide)
theorem get_field {G : aG} {a ci : Nat} {li : List Int} {H : Heap} {s : State} {args : Array Value} {r : vw_C} {k : Nat} {w : Int} (hts : ∀ w ∈ gT, w.before args s = true) (hk : kn G s) (hr : rc G a (20 + ci, li) H) (hc : vwCl[ci]? = some r) (hkr : k < r.2.2) (hw : li[k]? = some w) :
    ∃ (cf : ClassId) (kf : Class) (fi : Nat) (f : Field) (cell : Cell), s.fieldFound? (r.2.1 k).1 (r.2.1 k).2.1 (r.2.1 k).2.2.1 = some (cf, kf, fi, f) ∧ f.isStatic = false ∧ H[a]? = some cell ∧ cell.vm ≠ .unknown ∧ cell.slots[f.slot]? = some (cv G (ftag ci k, w)) := by
  obtain ⟨r', h1, h2, cell, q1, q2, q3, q4⟩ := rc_obj hr
  obtain rfl : r = r' := Option.some.inj (hc.symm.trans h1)
  obtain ⟨hS, hfc, kC, hkC, hkind⟩ := hk.1 ci r hc
  obtain ⟨cf, kf, fi, f, hi, hsl⟩ := hS k hkr
  refine ⟨cf, kf, fi, f, cell, hi, (u_facts hfc hkC (u_lays hts (cls_ok ci r hc).2.1 hkr) hi).1, q1, (by rw [q3]; exact (fun h => by cases h)), ?_⟩
  rw [hsl, q4 k hkr]
  simp only [getD_of hw]
section SND
variable {p : Program} {l : Launch} {e : Env} {R : Room} {s : State} {m : MethodId} {args : Array Value} {below : List Frame} {meth : Method} {c : Code} {H : Heap} {locs : List Loc} {cells slots : Nat} {Q : State → Prop} {G : aG} {M : Nat} {al : Bool}
variable {pc : Nat} {ls st : List aV} {lsA : Array Slot} {hp : aH} {z : Nat × List aV × List aV × aH}
theorem getf_W {idx ci k : Nat} {v : Int} (C : Cx G p s m args meth c M) (hd : decode (mB M) pc = .ok (.getfield idx, 3)) (hr : okR M (.getfield idx, v, ci, k)) (h : gfS hp ls st (pc + 3) ci k = some z) (hl : lok G ls lsA (mL M)) (hP : reps G hp H) (hz : szk al G hp H) (hS : va_S (aA G) s.heap H locs) (K : KK p l e R s m args below meth c Q G M al cells slots hp z) : W p l e R s m args below meth c H locs cells slots Q (F0 m pc lsA (st.map (cv G))) := by
  rcases gfS_inv h with ⟨a, st', li, w, rfl, e1, e2, rfl⟩ | ⟨i, st', rfl, hi, hh⟩
  · obtain ⟨r', h1, -⟩ := rc_obj (reps_at hP e1)
    obtain ⟨r, f1, f2, f3⟩ := hr.1 (cls_ok _ _ h1).1
    simp only at f1 f2 f3
    obtain ⟨cf, kf, fi, f, cell, g1, g2, g3, g4, g5⟩ := get_field C.2.2.2.2.1 C.2.2.2.2.2.2.2.2.1 (reps_at hP e1) f1 f2 e2
    show W p l e R s m args below meth c H locs cells slots Q (F0 m pc lsA (cv G (1, a) :: st'.map (cv G)))
    rw [cv_ref (cellAt_spec e1).1]
    exact W.getf C.1 C.2.1 C.2.2.2.1 (C.2.2.2.2.1 _ f3) g1 g2 g3 g4 g5 rfl rfl hd (K lsA H locs cells slots hl hP hz hS rfl rfl)
  · have hi2 : i.toNat < 2 := by omega
    obtain ⟨-, o1, o2, -⟩ := C.2.2.2.2.2.2.2.2.2.1.1 i.toNat hi2
    rcases hh with ⟨rfl, rfl⟩ | ⟨rfl, rfl⟩
    · exact vk_getf (n := "coder") (d := "B") C.1 C.2.1 o1 hS C.2.2.2.1 (C.2.2.2.2.1 _ (hr.2.1 rfl)) (fun _ q => q) hd (K lsA H locs cells slots hl hP hz hS rfl rfl)
    · exact vk_getf (n := "value") (d := "[B") C.1 C.2.1 o2 hS C.2.2.2.1 (C.2.2.2.2.1 _ (hr.2.2 rfl)) (fun _ q => q) hd (K lsA H locs cells slots hl hP hz hS rfl rfl)
theorem put_field {G : aG} {ci k : Nat} {li : List Int} {H : Heap} {s : State} {args : Array Value} {a : Nat} {w : Int} {idx : Nat} {M : Nat} {m : MethodId} {meth : Method} (hk : kn G s) (hts : ∀ w ∈ gT, w.before args s = true) (hown : s.vm.findClass (mY M).cls = some m.cls) (hmn : meth.name = (mY M).name) (hr : rc G a (20 + ci, li) H) (hR : okR M (.putfield idx, 0, ci, k)) (hkl : k < li.length) (hb : bok (aty ci k) w = true)
    {p : Program} {l : Launch} {e : Env} {R : Room} {below : List Frame} {c : Code} {locs : List Loc} {cells slots : Nat} {Q : State → Prop} {pc : Nat} {lsA : Array Slot} {rest : List Value} (hx : p.tables.exec = Jvm.exec) (hcb : c.code = mB M) (hd : decode (mB M) pc = .ok (.putfield idx, 3))
    (kk : ∀ H' : Heap, rc G a (20 + ci, li.set k w) H' → H'.size = H.size → (∀ q, q ≠ a → H'[q]? = H[q]?) → ∀ i, W p l e R s m args below meth c H' (locs ++ [⟨a, i⟩]) cells slots Q (F0 m (pc + 3) lsA rest)) : W p l e R s m args below meth c H locs cells slots Q (F0 m pc lsA (cv G (ftag ci k, w) :: .ref a :: rest)) := by
  obtain ⟨r', h1, h2, cell, q1, q2, q3, q4⟩ := rc_obj hr
  obtain ⟨r, f1, f2, f3, f4⟩ := hR (cls_ok _ _ h1).1
  simp only at f1 f2 f3 f4
  obtain rfl : r = r' := Option.some.inj (f1.symm.trans h1)
  obtain ⟨-, hcp1, hcp2, hcp3⟩ := cls_ok ci r f1
  obtain ⟨hS, hfc, kC, hkC, hkind⟩ := hk.1 ci r f1
  obtain ⟨cf, kf, fi, f, hi, hsl⟩ := hS k f2
  obtain ⟨hft, hnr⟩ := fits_cv (G := G) hb
  have hap : ∀ x y, x < r.2.2 → y < r.2.2 → x ≠ y → (gI G ci) x ≠ (gI G ci) y := by
    intro x y hx hy hne
    obtain ⟨_, _, _, fa, hia, ea⟩ := hS x hx
    obtain ⟨_, _, _, fb, hib, eb⟩ := hS y hy
    rw [← ea, ← eb]
    refine u_apart (u_lays hts hcp1 hx) (u_lays hts hcp1 hy) hia hib ?_
    rw [(State.fieldFound?_type hia (hcp2 x hx)).1, (State.fieldFound?_type hib (hcp2 y hy)).1]
    exact hcp3 x hx y hy hne
  have hnew : ∀ H' : Heap, H'[a]? = some (cell.setSlot f.slot (cv G (ftag ci k, w))) → rc G a (20 + ci, li.set k w) H' := by
    intro H' e1
    rw [hsl] at e1
    refine Or.inr ⟨Nat.le_add_right _ _, r, by simpa using f1, by simpa using h2, ?_⟩
    simp only [show 20 + ci - 20 = ci by omega]
    refine t_OB.to (V := updV (fun j => cv G (ftag ci j, li.getD j 0)) k (cv G (ftag ci k, w))) ⟨_, e1, q2, q3, t_set q4 hap f2 _⟩ fun j _ => ?_
    unfold updV
    rw [getD_set li k j w hkl]
    split
    · next e => rw [e]
    · rfl
  have hst := (u_facts hfc hkC (u_lays hts hcp1 f2) hi).1
  have hlay := hts _ (hcp1 _ (u_in_lay f2))
  unfold u_lay at hlay
  split at hlay
  · next hfin =>
    obtain ⟨g1, g2⟩ := f4 hfin
    have hcf : m.cls = cf := by
      obtain ⟨_, _, c', _, _, _, -, -, hf', -, -, -, hown2, -⟩ := Cond.laysFinal_spec hlay
      have e1 : c' = cf := by have := hi.symm.trans hf'; simp at this; exact this.1.symm
      rw [g2] at hown2
      rw [← e1]; exact Option.some.inj (hown.symm.trans hown2)
    have h6 := u_fits hfc hkC hkind (Or.inr hlay) hi (hcp2 k f2) hnr hft
    exact W.putFinK hx hcb hown (hts _ f3) hi hst hcf (hmn.trans g1) (by rw [q2]; exact h6) q1 q3 (by rw [hsl]; exact k2_hasslot (q4 k f2)) rfl rfl hd fun H' e1 e2 e3 => kk H' (hnew H' e1) e2 e3 _
  · have h6 := u_store hfc hkC hkind hlay hi (hcp2 k f2) hnr hft
    exact W.putK hx hcb (f := f) ⟨hown, hts _ f3, ⟨_, _, _, hi⟩, hst⟩ (by rw [q2]; exact h6) q1 q3 (by rw [hsl]; exact k2_hasslot (q4 k f2)) rfl rfl hd fun H' e1 e2 e3 => kk H' (hnew H' e1) e2 e3 _
theorem putf_W {idx ci k : Nat} {v : Int} (C : Cx G p s m args meth c M) (hd : decode (mB M) pc = .ok (.putfield idx, 3)) (hr : okR M (.putfield idx, v, ci, k)) (h : pfS hp ls st (pc + 3) ci k = some z) (hl : lok G ls lsA (mL M)) (hP : reps G hp H) (hz : szk al G hp H) (hS : va_S (aA G) s.heap H locs) (K : KK p l e R s m args below meth c Q G M al cells slots hp z) : W p l e R s m args below meth c H locs cells slots Q (F0 m pc lsA (st.map (cv G))) := by
  obtain ⟨w, a, st', li, rfl, e1, e2, e3, rfl⟩ := pfS_inv h
  show W p l e R s m args below meth c H locs cells slots Q (F0 m pc lsA (cv G (ftag ci k, w) :: cv G (1, a) :: st'.map (cv G)))
  rw [cv_ref (cellAt_spec e1).1]
  refine put_field (idx := idx) C.2.2.2.2.2.2.2.2.1 C.2.2.2.2.1 C.2.2.2.1 C.2.2.2.2.2.2.2.1 (reps_at hP e1) hr e2 e3 C.1 C.2.1 hd fun H' d1 d2 d3 i => ?_
  exact K lsA H' _ cells slots hl (reps_put hP e1 d1 d3) (szk_put hz d2) (aS_put hS d2 d3 (Nat.le_add_right _ _)) (by rw [put_len]) (by rw [put_tot e1 (by simp)])
end SND
