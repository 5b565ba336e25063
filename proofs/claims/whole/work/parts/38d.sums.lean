/-! sumsAt(243) -/
def CA (E m : Mm) : Prop := ∀ w, 0 ≤ w → w < E 597 23 → ChM m w (chs E w)
def HM (m : Mm) (hk hv hp : Int) : Prop := m 597 40 = hk ∧ m 597 38 = hv ∧ m 597 39 = hp
def f243 (m m' : Mm) (i : Int) : Prop := ∀ x k, ¬ ((x = 616 ∨ x = 617) ∧ k = i) → m' x k = m x k
theorem f243.ag {E m m' : Mm} {i : Int} (h : f243 m m' i) (A : Ag E m) : Ag E m' := A.fr fun x k hp => by
  unfold per at hp
  exact h x k (by omega)
theorem f243.ca {E m m' : Mm} {i : Int} (h : f243 m m' i) (C : CA E m) : CA E m' := fun w w0 w1 => by
  obtain ⟨c1, c2⟩ := C w w0 w1
  refine ⟨by rw [h _ _ (by omega)]; exact c1, fun j hj => ?_⟩
  rw [h _ _ (by omega), h _ _ (by omega)]
  exact c2 j hj
theorem f243.hm {m m' : Mm} {i hk hv hp : Int} (h : f243 m m' i) (H : HM m hk hv hp) : HM m' hk hv hp := by
  unfold HM
  rw [h _ _ (by omega), h _ _ (by omega), h _ _ (by omega)]
  exact H
theorem f243.u6 {m m' : Mm} {i v : Int} (h : f243 m m' i) : f243 m (umem m' 616 i v) i := fun x k hn => by
  rw [um_n (by omega)]
  exact h x k hn
theorem f243.u7 {m m' : Mm} {i v : Int} (h : f243 m m' i) : f243 m (umem m' 617 i v) i := fun x k hn => by
  rw [um_n (by omega)]
  exact h x k hn
theorem c243 {E m : Mm} {K : Mm → Prop} (T : InvT E) (Pg : InvP E) (W : InvW E) (A : Ag E m) {i hk hv hp : Int} {d : Nat} (hd : (d + 1 : Nat) ≤ E 597 23) (hi : 0 ≤ i ∧ i < cN E (E 597 23 - 1 - d)) (Ca : CA E m) (H : HM m hk hv hp) (R : ∀ d', d = d' + 1 → RowS E m (canH E hk hv hp) d')
    (kk : ∀ m', f243 m m' (24 * (E 597 23 - 1 - d) + i) → m' 616 (24 * (E 597 23 - 1 - d) + i) = cvt (bkS E (canH E hk hv hp) d i) → m' 617 (24 * (E 597 23 - 1 - d) + i) = ctS E (canH E hk hv hp) d i → K m') : TrV 243 [(1, 597), (0, E 597 23 - 1 - d), (0, i)] m K := by
  have P1 := Pg.1
  obtain ⟨w, hw⟩ : ∃ w, w = E 597 23 - 1 - (d : Int) := ⟨_, rfl⟩
  rw [← hw] at hi kk ⊢
  have w10 : 0 ≤ w ∧ w < 10 := by omega
  have wE : 0 ≤ w ∧ w < E 597 23 := by omega
  have n1 := (chs_len T (w := w)).2
  have n24 : (cN E w : Int) ≤ 24 := by unfold cN; omega
  have a1 := cE_in T Pg W wE hi
  have q3 : 0 ≤ 24 * w + i ∧ 24 * w + i < 240 := by omega
  have q1 : Unit → wr (wr (24 * w) + i) = 24 * w + i := fun _ => by
    rw [wrI (x := 24 * w) (by omega) (by omega), wrI (by omega) (by omega)]
  have q8 : Unit → wr (E 597 23 - 1) = E 597 23 - 1 := fun _ => wrI (by omega) (by omega)
  refine e243 _ _ ?_
  rw [q1 ()]
  refine ⟨q3, fun m3 e3 m5 e5 => ?_⟩
  have f5 : f243 m m5 (24 * w + i) := by
    rw [e5, e3]
    exact f243.u7 (f243.u6 (fun _ _ _ => rfl))
  have A5 := f5.ag A
  have C5 := f5.ca Ca
  have H5 := f5.hm H
  have h6 : m5 616 (24 * w + i) = -2 := by rw [e5, um_x (by decide), e3, um_s]
  have h7 : m5 617 (24 * w + i) = 0 := by rw [e5, um_s]
  refine c244 T Pg A5 wE hi (C5 w wE.1 wE.2) H5.1 H5.2.1 H5.2.2 ⟨fun hc => kk m5 f5 ?_ ?_, fun hc => ?_⟩
  · have hc' := bi_eq0.mp hc
    rw [h6]
    cases d with
    | zero =>
      rw [show w = E 597 23 - 1 by omega] at hc'
      unfold bkS
      rw [if_neg hc']
      rfl
    | succ d =>
      rw [hw] at hc'
      unfold bkS
      rw [if_neg hc']
      rfl
  · have hc' := bi_eq0.mp hc
    rw [h7]
    cases d with
    | zero =>
      rw [show w = E 597 23 - 1 by omega] at hc'
      unfold ctS
      rw [if_neg hc']
    | succ d =>
      rw [hw] at hc'
      unfold ctS
      rw [if_neg hc']
  · have hc' : canH E hk hv hp w i = true := Classical.byContradiction fun h => hc (bi_f h)
    rw [A5.n, q8 ()]
    refine ⟨fun h => fun m14 e14 m16 e16 => ?_, fun h => ?_⟩
    · have hd0 : d = 0 := by omega
      subst hd0
      rw [((C5 w wE.1 wE.2).at hi).2] at e14
      have h' := hc'
      rw [h] at h'
      refine kk m16 (by rw [e16, e14]; exact f5.u6.u7) ?_ ?_
      · rw [e16, um_x (by decide), e14, um_s]
        unfold bkS
        rw [if_pos h', ← h]
        unfold cvt
        rw [if_pos (by omega)]
      · rw [e16, um_s]
        unfold ctS
        rw [if_pos h']
    · obtain ⟨d', rfl⟩ : ∃ d', d = d' + 1 := ⟨d - 1, by omega⟩
      have R' := R d' rfl
      have hw1 : E 597 23 - 1 - (d' : Int) = w + 1 := by omega
      have w1E : 0 ≤ w + 1 ∧ w + 1 < E 597 23 := by omega
      have w110 : 0 ≤ w + 1 ∧ w + 1 < 10 := by omega
      have q9 : Unit → wr (w + 1) = w + 1 := fun _ => wrI (by omega) (by omega)
      have n2 := (chs_len T (w := w + 1)).2
      have m24 : (cN E (w + 1) : Int) ≤ 24 := by unfold cN; omega
      have hN : ((chs E (w + 1)).length : Int) = cN E (w + 1) := rfl
      obtain ⟨f, hf⟩ : ∃ f : Int → Int, f = fun j => if bt E (cE E w i) (cE E (w + 1) j) < 1000000 then bt E (cE E w i) (cE E (w + 1) j) + bkS E (canH E hk hv hp) d' j else 1000000 := ⟨_, rfl⟩
      obtain ⟨g, hg⟩ : ∃ g : Int → Int, g = fun j => if bt E (cE E w i) (cE E (w + 1) j) < 1000000 then ctS E (canH E hk hv hp) d' j else 0 := ⟨_, rfl⟩
      have eB : bkS E (canH E hk hv hp) (d' + 1) i = min 1000000 (cC E w i + minF (cN E (w + 1)) f) := by
        conv => lhs; unfold bkS
        rw [← hw, if_pos hc', hw1, hf]
      have eC : ctS E (canH E hk hv hp) (d' + 1) i = sumF (cN E (w + 1)) g := by
        conv => lhs; unfold ctS
        rw [← hw, if_pos hc', hw1, hg]
      unfold RowS at R'
      rw [hw1] at R'
      have d10 : d' ≤ 10 := by omega
      have gb : ∀ j, 0 ≤ g j ∧ g j ≤ 63403380965376 := fun j => by
        rw [hg]
        dsimp only
        split
        · exact ct_big T d10
        · decide
      have fb : ∀ j, 0 ≤ j → j < (cN E (w + 1) : Int) → 0 ≤ f j ∧ (f j < 1000000 → f j ≤ 132999) := fun j j0 j1 => by
        have a2 := cE_in T Pg W w1E ⟨j0, j1⟩
        have b := bt_rng T a1.2.1 a2.2.1
        have r := bk_rng (C := canH E hk hv hp) T Pg W d' j (by omega) ⟨j0, by rw [hw1]; exact j1⟩
        rw [hf]
        dsimp only
        split
        · rename_i hb
          have := b.2 hb
          refine ⟨by omega, fun hlt => ?_⟩
          have := r.2 (by omega)
          omega
        · exact ⟨by decide, fun h => absurd h (by decide)⟩
      have mb : ∀ j : Nat, (j : Int) ≤ cN E (w + 1) → (0 ≤ minF j f ∧ minF j f ≤ 1000000) ∧ (minF j f < 1000000 → minF j f ≤ 132999) := fun j hj => by
        refine ⟨⟨minF_ge fun i i0 i1 => (fb i i0 (by omega)).1, minF_le⟩, fun hlt => ?_⟩
        obtain ⟨k, k0, k1, k2⟩ := minF_ex hlt
        have := (fb k k0 (by omega)).2
        omega
      have loop : ∀ (n j : Nat) (m6 : Mm) (v5 v6 : aV), j + n = cN E (w + 1) → f243 m m6 (24 * w + i) → m6 616 (24 * w + i) = (if minF j f < 1000000 then cC E w i + minF j f else -2) → m6 617 (24 * w + i) = sumF j g → X 243 65 [(1, 597), (0, w), (0, i), (0, 24 * w + i), (0, j), v5, v6] [] m6 (qV K) := by
        intro n
        induction n with
        | zero =>
          intro j m6 v5 v6 hj f6 x6 x7
          have C6 := f6.ca Ca
          refine w243_65 _ _ _ _ v5 v6 ?_
          rw [q9 (), (C6 (w + 1) w1E.1 w1E.2).1, hN]
          refine ⟨w110, fun h => absurd h (by omega), fun _ => kk m6 f6 ?_ ?_⟩
          · rw [x6, eB, show j = cN E (w + 1) by omega]
            have := mb (cN E (w + 1)) (Int.le_refl _)
            unfold cvt
            split <;> split <;> omega
          · rw [x7, eC, show j = cN E (w + 1) by omega]
        | succ n ih =>
          intro j m6 v5 v6 hj f6 x6 x7
          have C6 := f6.ca Ca
          have A6 := f6.ag A
          have jE : 0 ≤ (j : Int) ∧ (j : Int) < cN E (w + 1) := by omega
          have a2 := cE_in T Pg W w1E jE
          have b := bt_rng T a1.2.1 a2.2.1
          have r := bk_rng (C := canH E hk hv hp) T Pg W d' j (by omega) ⟨jE.1, by rw [hw1]; exact jE.2⟩
          have cz := ct_no (C := canH E hk hv hp) T Pg W d' j (by omega) ⟨jE.1, by rw [hw1]; exact jE.2⟩
          have R6 := R' j jE.1 jE.2
          have q4 : 0 ≤ 24 * (w + 1) + (j : Int) ∧ 24 * (w + 1) + (j : Int) < 240 := by omega
          have qj : Unit → wr (wr (24 * (w + 1)) + j) = 24 * (w + 1) + j := fun _ => by
            rw [wrI (x := 24 * (w + 1)) (by omega) (by omega), wrI (by omega) (by omega)]
          have qn : Unit → wr ((j : Int) + 1) = ((j + 1 : Nat) : Int) := fun _ => wrI (by omega) (by omega)
          have mbj := mb j (by omega)
          have fbj := fb j jE.1 jE.2
          have sM : minF (j + 1) f = min (minF j f) (f j) := rfl
          have sS : sumF (j + 1) g = sumF j g + g j := rfl
          have s0 : 0 ≤ sumF j g ∧ sumF j g ≤ 24 * 63403380965376 := by
            refine ⟨sumF_ge fun i _ _ => (gb i).1, Int.le_trans (sumF_le fun i _ _ => (gb i).2) ?_⟩
            exact Int.mul_le_mul_of_nonneg_right (by omega) (by decide)
          refine w243_65 _ _ _ _ v5 v6 ?_
          rw [q9 (), (C6 (w + 1) w1E.1 w1E.2).1, hN]
          refine ⟨w110, fun _ => ?_, fun h => absurd jE.2 h⟩
          refine c246 T Pg W A6 ⟨wE.1, w1E.2⟩ hi jE (C6 w wE.1 wE.2) (C6 (w + 1) w1E.1 w1E.2) ?_
          rw [qj (), qn ()]
          have same : f j ≥ 1000000 → g j = 0 → ∀ v5 v6, X 243 65 [(1, 597), (0, w), (0, i), (0, 24 * w + i), (0, ((j + 1 : Nat) : Int)), v5, v6] [] m6 (qV K) := fun hf1 hg1 v5 v6 => by
            refine ih (j + 1) m6 v5 v6 (by omega) f6 ?_ ?_
            · rw [x6, sM, show min (minF j f) (f j) = minF j f by omega]
            · rw [x7, sS, hg1, Int.add_zero]
          by_cases hb : bt E (cE E w i) (cE E (w + 1) j) < 1000000
          · have fj : f j = bt E (cE E w i) (cE E (w + 1) j) + bkS E (canH E hk hv hp) d' j := by rw [hf]; exact if_pos hb
            have gj : g j = ctS E (canH E hk hv hp) d' j := by rw [hg]; exact if_pos hb
            have b2 := b.2 hb
            rw [if_pos hb]
            refine ⟨fun h => absurd h (by omega), fun _ => ⟨q4, ?_⟩⟩
            rw [f6 _ _ (by omega), R6.1]
            refine ⟨fun h => ?_, fun h => ⟨q3, fun m16 e16 => ?_⟩⟩
            · have hx : ¬ bkS E (canH E hk hv hp) d' j < 1000000 := fun hx => by
                unfold cvt at h
                rw [if_pos hx] at h
                omega
              exact same (by omega) (by rw [gj]; exact cz hx) _ _
            · have hx : bkS E (canH E hk hv hp) d' j < 1000000 := by
                unfold cvt at h
                split at h
                · assumption
                · exact absurd (by decide) h
              have hcv : cvt (bkS E (canH E hk hv hp) d' j) = bkS E (canH E hk hv hp) d' j := if_pos hx
              have r2 := r.2 hx
              have gbj := gb j
              rw [x7, f6 _ _ (by omega), R6.2, ← gj, wlI (by omega) (by omega), ← sS] at e16
              have f16 : f243 m m16 (24 * w + i) := by rw [e16]; exact f6.u7
              have y6 : m16 616 (24 * w + i) = (if minF j f < 1000000 then cC E w i + minF j f else -2) := by rw [e16, um_x (by decide)]; exact x6
              have y7 : m16 617 (24 * w + i) = sumF (j + 1) g := by rw [e16, um_s]
              have z6 : m16 616 (24 * (w + 1) + j) = bkS E (canH E hk hv hp) d' j := by rw [f16 _ _ (by omega), R6.1, hcv]
              have z4 : m16 614 (24 * w + i) = cC E w i := (((f16.ca Ca) w wE.1 wE.2).at hi).2
              rw [z4, z6, wrI (x := cC E w i + bt E (cE E w i) (cE E (w + 1) j)) (by omega) (by omega), wrI (by omega) (by omega)]
              have put : ∀ v, minF j f ≥ f j ∨ ¬ minF j f < 1000000 → X 243 168 [(1, 597), (0, w), (0, i), (0, 24 * w + i), (0, j), (0, 24 * (w + 1) + j), (0, v)] [] m16 (qV K) ∨ v ≠ bt E (cE E w i) (cE E (w + 1) j) := fun v hge => by
                by_cases hv1 : v = bt E (cE E w i) (cE E (w + 1) j)
                · left
                  subst hv1
                  refine w243_168 _ _ _ _ _ _ ⟨q3, q4, fun m5' e5' => ?_⟩
                  rw [z4, z6, wrI (x := cC E w i + bt E (cE E w i) (cE E (w + 1) j)) (by omega) (by omega), wrI (by omega) (by omega)] at e5'
                  rw [qn ()]
                  refine ih (j + 1) m5' _ _ (by omega) (by rw [e5']; exact f16.u6) ?_ ?_
                  · rw [e5', um_s, sM, show min (minF j f) (f j) = f j by omega, if_pos (by omega), fj]
                    omega
                  · rw [e5', um_x (by decide)]
                    exact y7
                · exact Or.inr hv1
              rw [y6]
              refine ⟨fun h2 => (put _ ?_).resolve_right (fun q => q rfl), fun h2 => ⟨fun h3 => (put _ ?_).resolve_right (fun q => q rfl), fun h3 => ?_⟩⟩
              · refine Or.inr fun h4 => ?_
                rw [if_pos h4] at h2
                omega
              · refine Or.inl ?_
                split at h3
                · omega
                · omega
              · have h4 : minF j f < 1000000 := Classical.byContradiction fun h4 => h2 (by rw [if_neg h4]; decide)
                rw [if_pos h4] at h3
                refine ih (j + 1) m16 _ _ (by omega) f16 ?_ y7
                rw [y6, sM, show min (minF j f) (f j) = minF j f by omega]
          · have fj : f j = 1000000 := by rw [hf]; exact if_neg hb
            have gj : g j = 0 := by rw [hg]; exact if_neg hb
            rw [if_neg hb]
            exact ⟨fun _ => same (by omega) gj _ _, fun h => absurd (by decide) h⟩
      exact loop (cN E (w + 1)) 0 m5 (9, 0) (9, 0) (Nat.zero_add _) f5 (by rw [h6]; rfl) (by rw [h7]; rfl)
