/-! what each helper of stp1 has done where it answers -/
theorem oif_inv {b : Bool} {r : aR} {z : Nat × List aV × List aV × aH} (h : oif b r = some z) : b = true ∧ r = some z := by
  unfold oif at h
  split at h
  · next e => exact ⟨e, h⟩
  · cases h
theorem ldS_inv {hp : aH} {ls st : List aV} {np t i : Nat} {z : Nat × List aV × List aV × aH} (h : ldS hp ls st np t i = some z) : ∃ w, ls[i]? = some w ∧ tok t w = true ∧ z = (np, ls, w :: st, hp) := by
  unfold ldS at h
  split at h
  · next w e =>
    split at h
    · next e2 => exact ⟨w, e, e2, (Option.some.inj h).symm⟩
    · cases h
  · cases h
theorem stS_inv {hp : aH} {ls st : List aV} {np t i : Nat} {z : Nat × List aV × List aV × aH} (h : stS hp ls st np t i = some z) : ∃ w st', st = w :: st' ∧ tok t w = true ∧ lsok ls i = true ∧ ((t = 2 ∧ i + 1 < ls.length ∧ z = (np, (ls.set i w).set (i + 1) (9, 0), st', hp)) ∨ (t ≠ 2 ∧ z = (np, ls.set i w, st', hp))) := by
  unfold stS at h
  split at h
  · next w st' =>
    split at h
    · next e =>
      rw [Bool.and_eq_true] at e
      refine ⟨w, st', rfl, e.1, e.2, ?_⟩
      split at h
      · next e2 =>
        split at h
        · next e3 => exact Or.inl ⟨e2, e3, (Option.some.inj h).symm⟩
        · cases h
      · next e2 => exact Or.inr ⟨e2, (Option.some.inj h).symm⟩
    · cases h
  · cases h
theorem op2_inv {hp : aH} {ls st : List aV} {np : Nat} {f : Int → Int → Option Int} {z : Nat × List aV × List aV × aH} (h : op2 hp ls st np f = some z) : ∃ x y st' r, st = (0, y) :: (0, x) :: st' ∧ f x y = some r ∧ z = (np, ls, (0, r) :: st', hp) := by
  unfold op2 at h
  split at h
  · next y x st' =>
    obtain ⟨r, h1, h2⟩ := Option.map_eq_some_iff.mp h
    exact ⟨x, y, st', r, rfl, h1, h2.symm⟩
  · cases h
theorem op2L_inv {hp : aH} {ls st : List aV} {np t : Nat} {f : Int → Int → Option Int} {z : Nat × List aV × List aV × aH} (h : op2L hp ls st np t f = some z) : ∃ x y st' r, st = (2, y) :: (2, x) :: st' ∧ f x y = some r ∧ z = (np, ls, (t, r) :: st', hp) := by
  unfold op2L at h
  split at h
  · next y x st' =>
    obtain ⟨r, h1, h2⟩ := Option.map_eq_some_iff.mp h
    exact ⟨x, y, st', r, rfl, h1, h2.symm⟩
  · cases h
theorem op1_inv {hp : aH} {ls st : List aV} {np t u : Nat} {f : Int → Int} {z : Nat × List aV × List aV × aH} (h : op1 hp ls st np t u f = some z) : ∃ x st', st = (t, x) :: st' ∧ z = (np, ls, (u, f x) :: st', hp) := by
  unfold op1 at h
  split at h
  · next a x st' =>
    split at h
    · next e =>
      subst e
      exact ⟨x, st', rfl, (Option.some.inj h).symm⟩
    · cases h
  · cases h
theorem jmp_inv {hp : aH} {ls st : List aV} {pc : Nat} {off : Int} {z : Nat × List aV × List aV × aH} (h : jmp hp ls st pc off = some z) : ∃ tgt : Nat, (pc : Int) + off = (tgt : Int) ∧ z = (tgt, ls, st, hp) := by
  unfold jmp at h
  split at h
  · next e => exact ⟨_, by omega, (Option.some.inj h).symm⟩
  · cases h
theorem if1_inv {hp : aH} {ls st : List aV} {pc : Nat} {c : ClassFile.Cond} {off : Int} {z : Nat × List aV × List aV × aH} (h : if1 hp ls st pc c off = some z) : ∃ (x : Int) (st' : List aV) (tgt : Nat), st = (0, x) :: st' ∧ (pc : Int) + off = (tgt : Int) ∧ z = (if cmpI c x 0 then tgt else pc + 3, ls, st', hp) := by
  unfold if1 at h
  split at h
  · next x st' =>
    split at h
    · next e => exact ⟨x, st', ((pc : Int) + off).toNat, rfl, by omega, (Option.some.inj h).symm⟩
    · cases h
  · cases h
theorem if2_inv {hp : aH} {ls st : List aV} {pc : Nat} {c : ClassFile.Cond} {off : Int} {z : Nat × List aV × List aV × aH} (h : if2 hp ls st pc c off = some z) : ∃ (x y : Int) (st' : List aV) (tgt : Nat), st = (0, y) :: (0, x) :: st' ∧ (pc : Int) + off = (tgt : Int) ∧ z = (if cmpI c x y then tgt else pc + 3, ls, st', hp) := by
  unfold if2 at h
  split at h
  · next y x st' =>
    split at h
    · next e => exact ⟨x, y, st', ((pc : Int) + off).toNat, rfl, by omega, (Option.some.inj h).symm⟩
    · cases h
  · cases h
theorem swT_inv {hp : aH} {ls st : List aV} {pc : Nat} {d lo hi : Int} {offs : Array Int} {z : Nat × List aV × List aV × aH} (h : swT hp ls st pc d lo hi offs = some z) : ∃ x st', st = (0, x) :: st' ∧ (((x < lo ∨ hi < x) ∧ jmp hp ls st' pc d = some z) ∨ (¬ x < lo ∧ ¬ hi < x ∧ ∃ off, offs[(x - lo).toNat]? = some off ∧ jmp hp ls st' pc off = some z)) := by
  unfold swT at h
  split at h
  · next x st' =>
    refine ⟨x, st', rfl, ?_⟩
    split at h
    · next e => exact Or.inl ⟨e, h⟩
    · next e =>
      split at h
      · next off e2 => exact Or.inr ⟨fun q => e (Or.inl q), fun q => e (Or.inr q), off, e2, h⟩
      · cases h
  · cases h
theorem swL_inv {hp : aH} {ls st : List aV} {pc : Nat} {d : Int} {ps : Array (Int × Int)} {z : Nat × List aV × List aV × aH} (h : swL hp ls st pc d ps = some z) : ∃ x st', st = (0, x) :: st' ∧ (ps.toList.zip (ps.toList.drop 1)).all (fun (a, next) => a.1 < next.1) = true ∧ jmp hp ls st' pc (Op.lookupswitch.offset ps.toList d x) = some z := by
  unfold swL at h
  split at h
  · next x st' =>
    refine ⟨x, st', rfl, ?_⟩
    split at h
    · next e => exact ⟨e, h⟩
    · cases h
  · cases h
theorem gfS_inv {hp : aH} {ls st : List aV} {np ci k : Nat} {z : Nat × List aV × List aV × aH} (h : gfS hp ls st np ci k = some z) : (∃ a st' l w, st = (1, a) :: st' ∧ cellAt hp a = some (20 + ci, l) ∧ l[k]? = some w ∧ z = (np, ls, (ftag ci k, w) :: st', hp)) ∨ (∃ i st', st = (4, i) :: st' ∧ (i = 0 ∨ i = 1) ∧ ((ci = 100 ∧ z = (np, ls, (0, 0) :: st', hp)) ∨ (ci = 101 ∧ z = (np, ls, (5, i) :: st', hp)))) := by
  unfold gfS at h
  split at h
  · next a st' =>
    split at h
    · next sh l e =>
      split at h
      · next e2 =>
        subst e2
        obtain ⟨w, h1, h2⟩ := Option.map_eq_some_iff.mp h
        exact Or.inl ⟨a, st', l, w, rfl, e, h1, h2.symm⟩
      · cases h
    · cases h
  · next i st' =>
    split at h
    · cases h
    · next hi =>
      refine Or.inr ⟨i, st', rfl, Classical.not_not.mp hi, ?_⟩
      split at h
      · next e => exact Or.inl ⟨e, (Option.some.inj h).symm⟩
      · split at h
        · next e => exact Or.inr ⟨e, (Option.some.inj h).symm⟩
        · cases h
  · cases h
theorem pfS_inv {hp : aH} {ls st : List aV} {np ci k : Nat} {z : Nat × List aV × List aV × aH} (h : pfS hp ls st np ci k = some z) : ∃ w a st' l, st = (ftag ci k, w) :: (1, a) :: st' ∧ cellAt hp a = some (20 + ci, l) ∧ k < l.length ∧ bok (aty ci k) w = true ∧ z = (np, ls, st', putAt hp a (20 + ci, l.set k w)) := by
  unfold pfS at h
  split at h
  · next t w a st' =>
    split at h
    · next sh l e =>
      split at h
      · next e2 =>
        obtain ⟨e3, e4, e5, e6⟩ := e2
        subst e3
        subst e4
        exact ⟨w, a, st', l, rfl, e, e5, e6, (Option.some.inj h).symm⟩
      · cases h
    · cases h
  · cases h
theorem alS_inv {hp : aH} {ls st : List aV} {np t lo hi : Nat} {z : Nat × List aV × List aV × aH} (h : alS hp ls st np t lo hi = some z) : ∃ j a st' sh l w, st = (0, j) :: (1, a) :: st' ∧ cellAt hp a = some (sh, l) ∧ lo ≤ sh ∧ sh ≤ hi ∧ 0 ≤ j ∧ l[j.toNat]? = some w ∧ z = (np, ls, (t, w) :: st', hp) := by
  unfold alS at h
  split at h
  · next j a st' =>
    split at h
    · next sh l e =>
      split at h
      · next e2 =>
        obtain ⟨w, h1, h2⟩ := Option.map_eq_some_iff.mp h
        exact ⟨j, a, st', sh, l, w, rfl, e, e2.1, e2.2.1, e2.2.2, h1, h2.symm⟩
      · cases h
    · cases h
  · cases h
theorem blS_inv {hp : aH} {ls st : List aV} {np : Nat} {z : Nat × List aV × List aV × aH} (h : blS hp ls st np = some z) : (∃ j i st', st = (0, j) :: (5, i) :: st' ∧ 0 ≤ j ∧ j < slen i ∧ (i = 0 ∨ i = 1) ∧ z = (np, ls, (0, sbyt i j.toNat) :: st', hp)) ∨ alS hp ls st np 0 2 2 = some z := by
  unfold blS at h
  split at h
  · next j i st' =>
    split at h
    · next e => exact Or.inl ⟨j, i, st', rfl, e.1, e.2.1, e.2.2, (Option.some.inj h).symm⟩
    · cases h
  · exact Or.inr h
theorem asS_inv {hp : aH} {ls st : List aV} {np t sh0 : Nat} {z : Nat × List aV × List aV × aH} (h : asS hp ls st np t sh0 = some z) : ∃ w j a st' l, st = (t, w) :: (0, j) :: (1, a) :: st' ∧ cellAt hp a = some (sh0, l) ∧ 0 ≤ j ∧ j.toNat < l.length ∧ bok (aft sh0) w = true ∧ z = (np, ls, st', putAt hp a (sh0, l.set j.toNat w)) := by
  unfold asS at h
  split at h
  · next t' w j a st' =>
    split at h
    · next sh l e =>
      split at h
      · next e2 =>
        obtain ⟨e3, e4, e5, e6, e7⟩ := e2
        subst e3
        subst e4
        exact ⟨w, j, a, st', l, rfl, e, e5, e6, e7, (Option.some.inj h).symm⟩
      · cases h
    · cases h
  · cases h
theorem arS_inv {hp : aH} {ls st : List aV} {np : Nat} {z : Nat × List aV × List aV × aH} (h : arS hp ls st np = some z) : ∃ w j a st' sh l lv, st = (1, w) :: (0, j) :: (1, a) :: st' ∧ cellAt hp a = some (sh, l) ∧ cellAt hp w = some (20 + aec sh, lv) ∧ (sh = 3 ∨ sh = 4 ∨ sh = 5 ∨ sh = 8) ∧ 0 ≤ j ∧ j.toNat < l.length ∧ z = (np, ls, st', putAt hp a (sh, l.set j.toNat w)) := by
  unfold arS at h
  split at h
  · next w j a st' =>
    split at h
    · next sh l sv lv e e1 =>
      split at h
      · next e2 =>
        obtain ⟨e3, e4, e5, e6⟩ := e2
        subst e4
        exact ⟨w, j, a, st', sh, l, lv, rfl, e, e1, e3, e5, e6, (Option.some.inj h).symm⟩
      · cases h
    · cases h
  · cases h
theorem anS_inv {hp : aH} {ls st : List aV} {np : Nat} {z : Nat × List aV × List aV × aH} (h : anS hp ls st np = some z) : (∃ a st' sh l, st = (1, a) :: st' ∧ cellAt hp a = some (sh, l) ∧ sh < 9 ∧ z = (np, ls, (0, (l.length : Int)) :: st', hp)) ∨ (∃ i st', st = (5, i) :: st' ∧ (i = 0 ∨ i = 1) ∧ z = (np, ls, (0, slen i) :: st', hp)) := by
  unfold anS at h
  split at h
  · next a st' =>
    split at h
    · next sh l e =>
      split at h
      · next e2 => exact Or.inl ⟨a, st', sh, l, rfl, e, e2, (Option.some.inj h).symm⟩
      · cases h
    · cases h
  · next i st' =>
    split at h
    · next e => exact Or.inr ⟨i, st', rfl, e, (Option.some.inj h).symm⟩
    · cases h
  · cases h
theorem naS_inv {hp : aH} {ls st : List aV} {np sh : Nat} {z : Nat × List aV × List aV × aH} (h : naS hp ls st np sh = some z) : ∃ n st', st = (0, n) :: st' ∧ 0 ≤ n ∧ n ≤ 60000 ∧ z = (np, ls, (1, (hp.length : Int) + 1) :: st', hp ++ [(sh, List.replicate n.toNat 0)]) := by
  unfold naS at h
  split at h
  · next n st' =>
    split at h
    · next e => exact ⟨n, st', rfl, e.1, e.2, (Option.some.inj h).symm⟩
    · cases h
  · cases h
theorem nmS_inv {hp : aH} {ls st : List aV} {np sh : Nat} {z : Nat × List aV × List aV × aH} (h : nmS hp ls st np sh = some z) : ∃ n k st', st = (0, k) :: (0, n) :: st' ∧ 0 ≤ n ∧ n ≤ 60000 ∧ 0 ≤ k ∧ k ≤ 60000 ∧ z = (np, ls, (1, (hp.length : Int) + 1) :: st', hp ++ (sh, (List.range n.toNat).map fun (i : Nat) => (hp.length : Int) + 2 + (i : Int)) :: List.replicate n.toNat (sh - 6, List.replicate k.toNat 0)) := by
  unfold nmS at h
  split at h
  · next k n st' =>
    split at h
    · next e => exact ⟨n, k, st', rfl, e.1, e.2.1, e.2.2.1, e.2.2.2, (Option.some.inj h).symm⟩
    · cases h
  · cases h
