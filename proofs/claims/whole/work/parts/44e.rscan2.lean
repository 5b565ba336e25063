/-! the reference's scanner: words, the step -/
section RSC
variable {f : Int → Int} {n p s : Int} {m : Mm}
theorem f170.refl : f170 m m := fun _ _ _ _ => rfl
theorem ScR.fr {p' : Int} {m' : Mm} (S : ScR f n m p) (h : f170 m m') (h5 : m' 597 8 = p') (hp : 0 ≤ p' ∧ p' ≤ n) : ScR f n m' p' := by
  obtain ⟨b, c, d, e⟩ := S
  refine ⟨by rw [h _ _ (by decide) (by decide)]; exact b, h5, ⟨hp.1, hp.2, d.2.2⟩, fun i i0 i1 => by rw [h _ _ (by omega) (by omega)]; exact e i i0 i1⟩
theorem c173 {K : Mm → Prop} (S : ScR f n m p) (h11 : m 597 11 = p)
    (kk : ∀ m' w z, w = wdS f p (sc (isL f) n p - p) → z = sc (isL f) n p - p → f170 m m' → ScR f n m' (sc (isL f) n p) → m' 597 11 = p → m' 597 9 = (if w < 0 then (if z > 8 then 7 else 2) else 1) → (¬ w < 0 → m' 597 10 = w) → (w < 0 → ¬ z > 8 → m' 597 13 = z ∧ ∀ i, 0 ≤ i → i < z → m' 601 i = f (p + i) - 97) → K m') : TrV 173 [(1, 597)] m K := by
  have bk := sc_le (P := isL f) S.2.2.1.2.1
  have p0 := S.2.2.1.1
  generalize he : sc (isL f) n p = e at *
  have hl : ∀ i, p ≤ i → i < e → 97 ≤ f i ∧ f i ≤ 122 := fun i i0 i1 => of_decide_eq_true (bk.2.2.1 i i0 i1)
  have done : ∀ (q : Int) (m1 : Mm), q = e → f170 m m1 → ScR f n m1 q → m1 597 11 = p → TrI 174 [(1, 597), (0, m1 597 11), (0, m1 597 8)] m1 fun v18 m16 => ∀ m19, m19 = umem m16 597 10 v18 → ((m19 597 10) < 0 → ((wr ((m19 597 8) - (m19 597 11))) > 8 → X 173 72 [(1, 597), (9, 0)] [(0, 7), (1, 597)] m19 (qV K)) ∧ (¬ (wr ((m19 597 8) - (m19 597 11))) > 8 → X 173 72 [(1, 597), (9, 0)] [(0, 2), (1, 597)] m19 (qV K))) ∧ (¬ (m19 597 10) < 0 → X 173 72 [(1, 597), (9, 0)] [(0, 1), (1, 597)] m19 (qV K)) := by
    intro q m1 hq f1 S1 s11
    subst hq
    obtain ⟨b, c, d, g⟩ := id S1
    rw [s11, c]
    refine c174 ⟨by omega, bk.1⟩ bk.2.1 d.2.2 (fun i i0 i1 => (g i i0 i1).1) hl fun m2 e2 => ?_
    have x10 : m2 597 10 = wdS f p (q - p) := by rw [e2, um_s]
    have x8 : m2 597 8 = q := by rw [e2, um_k (by decide)]; exact c
    have x11 : m2 597 11 = p := by rw [e2, um_k (by decide)]; exact s11
    rw [x10, x8, x11, wrI (x := q - p) (by omega) (by omega)]
    have fin : ∀ s1, s1 ≠ 2 → s1 = (if wdS f p (q - p) < 0 then (if q - p > 8 then 7 else 2) else 1) → (wdS f p (q - p) < 0 → q - p > 8) → X 173 72 [(1, 597), (9, 0)] [(0, s1), (1, 597)] m2 (qV K) := by
      intro s1 h2 hs1 h8
      refine w173_72 _ _ fun m3 e3 => ?_
      have x9 : m3 597 9 = s1 := by rw [e3, um_s]
      rw [x9]
      refine ⟨fun z => absurd z h2, fun _ => ?_⟩
      have f3 : f170 m1 m3 := fun x k n1 n2 => by rw [e3, um_n (by omega), e2, um_n (by omega)]
      exact kk m3 _ _ rfl rfl (fun x k n1 n2 => (f3 x k n1 n2).trans (f1 x k n1 n2)) (S1.fr f3 (by rw [e3, um_k (by decide)]; exact x8) ⟨by omega, by omega⟩) (by rw [e3, um_k (by decide)]; exact x11) (by rw [x9]; exact hs1) (fun _ => by rw [e3, um_k (by decide)]; exact x10) fun z1 z2 => absurd (h8 z1) z2
    refine ⟨fun h => ⟨fun h8 => fin 7 (by decide) (by rw [if_pos h, if_pos h8]) fun _ => h8, fun h8 => ?_⟩, fun h => fin 1 (by decide) (by rw [if_neg h]) fun z => absurd z h⟩
    refine w173_72 _ _ fun m3 e3 => ?_
    have x9 : m3 597 9 = 2 := by rw [e3, um_s]
    rw [x9]
    refine ⟨fun _ m4 e4 => ?_, fun z => absurd rfl z⟩
    have y8 : m3 597 8 = q := by rw [e3, um_k (by decide)]; exact x8
    have y11 : m3 597 11 = p := by rw [e3, um_k (by decide)]; exact x11
    rw [y8, y11] at e4
    have e4' : m4 = umem m3 597 13 (q - p) := by rw [e4, wrI (by omega) (by omega)]
    clear e4
    have f4 : f170 m1 m4 := fun x k n1 n2 => by rw [e4', um_n (by omega), e3, um_n (by omega), e2, um_n (by omega)]
    have loop : ∀ (d i : Nat) (m5 : Mm), i + d = (q - p).toNat → (∀ x k, x ≠ 601 → m5 x k = m4 x k) → (∀ j, 0 ≤ j → j < (i : Int) → m5 601 j = f (p + j) - 97) → X 173 99 [(1, 597), (0, (i : Int))] [] m5 (qV K) := by
      intro d
      induction d with
      | zero =>
        intro i m5 hi f5 I5
        have z13 : m5 597 13 = q - p := by rw [f5 _ _ (by decide), e4', um_s]
        refine w173_99 _ ⟨fun z => absurd z (by omega), fun _ => ?_⟩
        have f6 : f170 m1 m5 := fun x k n1 n2 => by rw [f5 x k n2]; exact f4 x k n1 n2
        exact kk m5 _ _ rfl rfl (fun x k n1 n2 => (f6 x k n1 n2).trans (f1 x k n1 n2)) (S1.fr f6 (by rw [f5 _ _ (by decide), e4', um_k (by decide)]; exact y8) ⟨by omega, by omega⟩) (by rw [f5 _ _ (by decide), e4', um_k (by decide)]; exact y11) (by rw [f5 _ _ (by decide), e4', um_k (by decide), x9, if_pos h, if_neg h8]) (fun z => absurd h z) fun _ _ => ⟨z13, fun j j0 j1 => I5 j j0 (by omega)⟩
      | succ d ih =>
        intro i m5 hi f5 I5
        have z13 : m5 597 13 = q - p := by rw [f5 _ _ (by decide), e4', um_s]
        have z11 : m5 597 11 = p := by rw [f5 _ _ (by decide), e4', um_k (by decide)]; exact y11
        have z598 : m5 598 (p + i) = f (p + i) := by
          rw [f5 _ _ (by decide), e4', um_x (by decide), e3, um_x (by decide), e2, um_x (by decide)]
          exact (g _ (by omega) (by omega)).1
        have lf := hl (p + i) (by omega) (by omega)
        refine w173_99 _ ⟨fun _ => ?_, fun z => absurd (show (i : Int) < m5 597 13 by omega) z⟩
        rw [z11, wrI (x := p + (i : Int)) (by omega) (by omega), z598, wrI (x := f (p + (i : Int)) - 97) (by omega) (by omega), wrI (x := (i : Int) + 1) (by omega) (by omega)]
        refine ⟨by omega, by omega, fun m6 e6 => ih (i + 1) m6 (by omega) (fun x k hx => by rw [e6, um_x hx]; exact f5 x k hx) fun j j0 j1 => ?_⟩
        by_cases hj : j = i
        · rw [hj, e6, um_s]
        · rw [e6, um_k hj]
          exact I5 j j0 (by omega)
    exact loop (q - p).toNat 0 m4 (by omega) (fun _ _ _ => rfl) fun j j0 j1 => by omega
  have loop : ∀ (d : Nat) (q : Int) (m1 : Mm), (n - q).toNat = d → p ≤ q → sc (isL f) n q = e → f170 m m1 → ScR f n m1 q → m1 597 11 = p → X 173 0 [(1, 597), (9, 0)] [] m1 (qV K) := by
    intro d
    induction d with
    | zero =>
      intro q m1 hd hp hq f1 S1 s7
      obtain ⟨b, c, dd, g⟩ := id S1
      have : q = e := by rw [← hq]; exact (sc_n (by omega)).symm
      exact w173_0 ⟨fun h => absurd h (by omega), fun _ => done q m1 this f1 S1 s7⟩
    | succ d ih =>
      intro q m1 hd hp hq f1 S1 s7
      obtain ⟨b, c, dd, g⟩ := id S1
      have gq := (g q (by omega) (by omega)).1
      have dn := fun h => done q m1 h f1 S1 s7
      refine w173_0 ⟨fun _ => ?_, fun h => absurd (show m1 597 8 < m1 597 3 by omega) h⟩
      rw [c] at dn ⊢
      rw [gq]
      refine ⟨by omega, fun hl m2 e2 => ?_, fun hl => dn ?_⟩
      · rw [wrI (x := q + 1) (by omega) (by omega)] at e2
        have f2 : f170 m1 m2 := fun x k n1 n2 => by rw [e2, um_n (by omega)]
        exact ih (q + 1) m2 (by omega) (by omega) (by rw [← sc_t (show q < n by omega) (decide_eq_true hl)]; exact hq) (fun x k n1 n2 => (f2 x k n1 n2).trans (f1 x k n1 n2)) (S1.fr f2 (by rw [e2, um_s]) (by omega)) (by rw [e2, um_k (by decide)]; exact s7)
      · rw [← hq]
        exact (sc_f (by unfold isL; rw [decide_eq_true_eq]; exact hl)).symm
  exact loop (n - p).toNat p m rfl (Int.le_refl _) he f170.refl S h11
end RSC
