/-! leastOf(247), sumsUp(242), laysPage(241) -/
theorem c247 {E m : Mm} {K : Int → Mm → Prop} {C : Int → Int → Bool} (T : InvT E) (Pg : InvP E) (W : InvW E) {d : Nat} (hd : (d + 1 : Nat) ≤ E 597 23) (Ca : CA E m) (R : RowS E m C d)
    (kk : K (cvt (minF (cN E (E 597 23 - 1 - d)) (bkS E C d))) m) : TrI 247 [(1, 597), (0, E 597 23 - 1 - d)] m K := by
  have P1 := Pg.1
  obtain ⟨w, hw⟩ : ∃ w, w = E 597 23 - 1 - (d : Int) := ⟨_, rfl⟩
  unfold RowS at R
  rw [← hw] at R kk ⊢
  have w10 : 0 ≤ w ∧ w < 10 := by omega
  have wE : 0 ≤ w ∧ w < E 597 23 := by omega
  have n1 := (chs_len T (w := w)).2
  have n24 : (cN E w : Int) ≤ 24 := by unfold cN; omega
  have hN : ((chs E w).length : Int) = cN E w := rfl
  have c1 := (Ca w wE.1 wE.2).1
  refine e247 _ ?_
  have loop : ∀ (n j : Nat) (v4 : aV), j + n = cN E w → X 247 5 [(1, 597), (0, w), (0, cvt (minF j (bkS E C d))), (0, j), v4] [] m (qI K) := by
    intro n
    induction n with
    | zero =>
      intro j v4 hj
      refine w247_5 _ _ _ v4 ⟨w10, fun h => absurd h (by rw [c1, hN]; omega), fun _ => ?_⟩
      rw [show j = cN E w by omega]
      exact kk
    | succ n ih =>
      intro j v4 hj
      have jE : 0 ≤ (j : Int) ∧ (j : Int) < cN E w := by omega
      have q3 : 0 ≤ 24 * w + (j : Int) ∧ 24 * w + (j : Int) < 240 := by omega
      have q1 : Unit → wr (wr (24 * w) + j) = 24 * w + j := fun _ => by
        rw [wrI (x := 24 * w) (by omega) (by omega), wrI (by omega) (by omega)]
      have qn : Unit → wr ((j : Int) + 1) = ((j + 1 : Nat) : Int) := fun _ => wrI (by omega) (by omega)
      have r := (bk_rng (C := C) T Pg W d j hd ⟨jE.1, by rw [← hw]; exact jE.2⟩).1
      have sM : minF (j + 1) (bkS E C d) = min (minF j (bkS E C d)) (bkS E C d j) := rfl
      have p5 : minF j (bkS E C d) ≤ 1000000 := minF_le
      have p6 : 0 ≤ minF j (bkS E C d) := minF_ge fun i i0 i1 => (bk_rng (C := C) T Pg W d i hd ⟨i0, by rw [← hw]; omega⟩).1.1
      refine w247_5 _ _ _ v4 ⟨w10, fun _ => ?_, fun h => absurd (show (j : Int) < m 615 w by rw [c1, hN]; exact jE.2) h⟩
      rw [q1 (), qn (), (R j jE.1 jE.2).1]
      generalize bkS E C d j = b at *
      have go : ∀ v v4, v = cvt (minF (j + 1) (bkS E C d)) → X 247 5 [(1, 597), (0, w), (0, v), (0, ((j + 1 : Nat) : Int)), v4] [] m (qI K) := fun v v4 e => by
        rw [e]
        exact ih (j + 1) v4 (by omega)
      refine ⟨q3, fun h => go _ _ ?_, fun h => ⟨fun h2 => go _ _ ?_, fun h2 => ⟨fun h3 => go _ _ ?_, fun h3 => go _ _ ?_⟩⟩⟩
      · rw [sM]
        unfold cvt at h
        split at h
        · omega
        · exact congrArg cvt (by omega)
      · rw [sM]
        unfold cvt at h h2 ⊢
        split at h <;> split at h2 <;> split <;> omega
      · rw [sM]
        unfold cvt at h h2 h3 ⊢
        split at h <;> split at h2 <;> split <;> omega
      · rw [sM]
        unfold cvt at h h2 h3 ⊢
        split at h <;> split at h2 <;> split <;> omega
  exact loop (cN E w) 0 (9, 0) (Nat.zero_add _)
def f242 (m m' : Mm) : Prop := ∀ x k, ¬ (x = 616 ∨ x = 617) → m' x k = m x k
theorem f242.ag {E m m' : Mm} (h : f242 m m') (A : Ag E m) : Ag E m' := A.fr fun x k hp => by
  unfold per at hp
  exact h x k (by omega)
theorem f242.ca {E m m' : Mm} (h : f242 m m') (C : CA E m) : CA E m' := fun w w0 w1 => by
  obtain ⟨c1, c2⟩ := C w w0 w1
  refine ⟨by rw [h _ _ (by omega)]; exact c1, fun j hj => ?_⟩
  rw [h _ _ (by omega), h _ _ (by omega)]
  exact c2 j hj
theorem f242.hm {m m' : Mm} {hk hv hp : Int} (h : f242 m m') (H : HM m hk hv hp) : HM m' hk hv hp := by
  unfold HM
  rw [h _ _ (by omega), h _ _ (by omega), h _ _ (by omega)]
  exact H
/-- the page's least -/
def totS (E : Mm) (C : Int → Int → Bool) : Int := if E 597 23 = 0 then 0 else minF (cN E 0) (bkS E C (E 597 23 - 1).toNat)
theorem c242 {E m : Mm} {K : Int → Mm → Prop} (T : InvT E) (Pg : InvP E) (W : InvW E) (A : Ag E m) {hk hv hp : Int} (Ca : CA E m) (H : HM m hk hv hp)
    (kk : ∀ m', f242 m m' → (∀ d : Nat, (d + 1 : Nat) ≤ E 597 23 → RowS E m' (canH E hk hv hp) d) → K (cvt (totS E (canH E hk hv hp))) m') : TrI 242 [(1, 597)] m K := by
  have P1 := Pg.1
  refine e242 ?_
  rw [A.n, wrI (by omega) (by omega)]
  have outer : ∀ (n d : Nat) (m1 : Mm) (v2 : aV), (d : Int) + n = E 597 23 → f242 m m1 → (∀ d' : Nat, d' < d → RowS E m1 (canH E hk hv hp) d') → X 242 7 [(1, 597), (0, E 597 23 - 1 - d), v2] [] m1 (qI K) := by
    intro n
    induction n with
    | zero =>
      intro d m1 v2 hd f R
      have A1 := f.ag A
      refine w242_7 _ v2 ⟨fun _ => ?_, fun h => absurd (show E 597 23 - 1 - (d : Int) < 0 by omega) h⟩
      rw [A1.n]
      refine ⟨fun h0 => ?_, fun h0 => ?_⟩
      · have e : cvt (totS E (canH E hk hv hp)) = 0 := by unfold totS; rw [if_pos h0]; rfl
        have := kk m1 f fun d' hd' => R d' (by omega)
        rw [e] at this
        exact this
      · have hz : E 597 23 - 1 - ((E 597 23 - 1).toNat : Int) = 0 := by omega
        have := c247 (K := fun v7 m5 => K v7 m5) (C := canH E hk hv hp) (d := (E 597 23 - 1).toNat) T Pg W (by omega) (f.ca Ca) (R _ (by omega)) (by
          rw [hz]
          have e : totS E (canH E hk hv hp) = minF (cN E 0) (bkS E (canH E hk hv hp) (E 597 23 - 1).toNat) := by unfold totS; rw [if_neg h0]
          rw [← e]
          exact kk m1 f fun d' hd' => R d' (by omega))
        rw [hz] at this
        exact this
    | succ n ih =>
      intro d m1 v2 hd f R
      have w10 : 0 ≤ E 597 23 - 1 - (d : Int) ∧ E 597 23 - 1 - (d : Int) < 10 := by omega
      have n1 := (chs_len T (w := E 597 23 - 1 - (d : Int))).2
      have hN : ((chs E (E 597 23 - 1 - (d : Int))).length : Int) = cN E (E 597 23 - 1 - d) := rfl
      have n24 : (cN E (E 597 23 - 1 - (d : Int)) : Int) ≤ 24 := by omega
      refine w242_7 _ v2 ⟨fun h => absurd h (by omega), fun _ => ?_⟩
      have inner : ∀ (l j : Nat) (m2 : Mm), j + l = cN E (E 597 23 - 1 - d) → f242 m m2 → (∀ d' : Nat, d' < d → RowS E m2 (canH E hk hv hp) d') → (∀ i, 0 ≤ i → i < (j : Int) → m2 616 (24 * (E 597 23 - 1 - d) + i) = cvt (bkS E (canH E hk hv hp) d i) ∧ m2 617 (24 * (E 597 23 - 1 - d) + i) = ctS E (canH E hk hv hp) d i) → X 242 13 [(1, 597), (0, E 597 23 - 1 - d), (0, j)] [] m2 (qI K) := by
        intro l
        induction l with
        | zero =>
          intro j m2 hj f2 R2 C2
          have C2a := (f2.ca Ca _ w10.1 (by omega)).1
          refine w242_13 _ _ ⟨w10, fun h => absurd h (by rw [C2a, hN]; omega), fun _ => ?_⟩
          rw [wrI (x := E 597 23 - 1 - d + -1) (by omega) (by omega), show E 597 23 - 1 - (d : Int) + -1 = E 597 23 - 1 - (d + 1 : Nat) by omega]
          refine ih (d + 1) m2 _ (by omega) f2 fun d' hd' => ?_
          by_cases hx : d' = d
          · subst hx
            exact fun i i0 i1 => C2 i i0 (by omega)
          · exact R2 d' (by omega)
        | succ l ihl =>
          intro j m2 hj f2 R2 C2
          have jE : 0 ≤ (j : Int) ∧ (j : Int) < cN E (E 597 23 - 1 - d) := by omega
          have C2a := (f2.ca Ca _ w10.1 (by omega)).1
          refine w242_13 _ _ ⟨w10, fun _ => ?_, fun h => absurd (show (j : Int) < m2 615 (E 597 23 - 1 - d) by rw [C2a, hN]; exact jE.2) h⟩
          refine c243 T Pg W (f2.ag A) (by omega) jE (f2.ca Ca) (f2.hm H) (fun d' hd' => R2 d' (by omega)) fun m3 f3 x6 x7 => ?_
          rw [wrI (x := (j : Int) + 1) (by omega) (by omega)]
          refine ihl (j + 1) m3 (by omega) (fun x k q => (f3 x k (by omega)).trans (f2 x k q)) (fun d' hd' i i0 i1 => ?_) fun i i0 i1 => ?_
          · have nn := (chs_len T (w := E 597 23 - 1 - (d' : Int))).2
            have nm : (cN E (E 597 23 - 1 - (d' : Int)) : Int) ≤ 24 := by unfold cN; omega
            rw [f3 _ _ (by omega), f3 _ _ (by omega)]
            exact R2 d' hd' i i0 i1
          · by_cases hx : i = j
            · rw [hx]
              exact ⟨x6, x7⟩
            · rw [f3 _ _ (by omega), f3 _ _ (by omega)]
              exact C2 i i0 (by omega)
      exact inner (cN E (E 597 23 - 1 - d)) 0 m1 (Nat.zero_add _) f R fun i i0 i1 => by omega
  have := outer (E 597 23).toNat 0 m (9, 0) (by omega) (fun _ _ _ => rfl) (fun d' h => absurd h (by omega))
  rw [show E 597 23 - 1 - ((0 : Nat) : Int) = E 597 23 - 1 by omega] at this
  exact this
