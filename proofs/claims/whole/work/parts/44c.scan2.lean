/-! the class's scanner: numbers, signs, the step -/
section SCN
variable {f : Int → Int} {n p s : Int} {m : Mm}
theorem c30 {K : Mm → Prop} (S : ScC f n m p) (h9 : m 3 9 = 0)
    (kk : ∀ m', (∀ x k, ¬ (x = 3 ∧ (k = 5 ∨ k = 6 ∨ k = 9)) → m' x k = m x k) → m' 3 5 = sc (isD f) n p → m' 3 6 = 3 → m' 3 9 = nvC f p (sc (isD f) n p - p).toNat → K m') : TrV 30 [(1, 3)] m K := by
  have bk := sc_le (P := isD f) S.2.2.2.1.2.1
  generalize he : sc (isD f) n p = e at *
  have loop : ∀ (d : Nat) (q : Int) (m1 : Mm), (n - q).toNat = d → p ≤ q → q ≤ e → sc (isD f) n q = e → f19 m m1 → (∀ x k, ¬ (x = 3 ∧ (k = 5 ∨ k = 6 ∨ k = 9)) → m1 x k = m x k) → ScC f n m1 q → m1 3 9 = nvC f p (q - p).toNat → X 30 0 [(1, 3)] [] m1 (qV K) := by
    intro d
    induction d with
    | zero =>
      intro q m1 hd hp hq0 hq f1 F1 S1 x9
      obtain ⟨a, b, c, dd, g⟩ := id S1
      have hqe : q = e := by rw [← hq]; exact (sc_n (by omega)).symm
      subst hqe
      exact w30_0 ⟨fun h => absurd h (by omega), fun _ m2 e2 => kk m2 (fun x k hx => by rw [e2, um_n (by omega)]; exact F1 x k hx) (by rw [e2, um_k (by decide)]; exact c) (by rw [e2, um_s]) (by rw [e2, um_k (by decide)]; exact x9)⟩
    | succ d ih =>
      intro q m1 hd hp hq0 hq f1 F1 S1 x9
      obtain ⟨a, b, c, dd, g⟩ := id S1
      have gq := (g q (by omega) (by omega)).1
      refine w30_0 ⟨fun _ => ?_, fun h => absurd (show m1 3 5 < m1 3 4 by omega) h⟩
      rw [a, c, gq]
      refine ⟨t_slot (by omega), fun hl => ⟨t_slot (by omega), fun m2 e2 m3 e3 => ?_⟩, fun hl m2 e2 => ?_⟩
      · have x35 : m2 3 5 = q := by rw [e2, um_k (by decide)]; exact c
        rw [x35] at e3
        have nv := (nv_eq (f := f) (s := p) (q - p).toNat fun i hi => of_decide_eq_true (bk.2.2.1 (p + i) (by omega) (by omega))).2.1
        have hlt : q < e := by
          rw [← hq, sc_t (show q < n by omega) (decide_eq_true hl)]
          have := sc_le (P := isD f) (show q + 1 ≤ n by omega)
          omega
        have e3' : m3 = umem m2 3 5 (q + 1) := by rw [e3, wrI (by omega) (by omega)]
        have e2' : m2 = umem m1 3 9 (nvC f p (q + 1 - p).toNat) := by
          rw [e2, x9, wrI (x := nvC f p (q - p).toNat * 10) (by omega) (by omega), wrI (x := nvC f p (q - p).toNat * 10 + f q) (by omega) (by omega), wrI (by omega) (by omega)]
          rw [show (q + 1 - p).toNat = (q - p).toNat + 1 by omega]
          show _ = umem m1 3 9 (min 1000000 (nvC f p (q - p).toNat * 10 + f (p + ((q - p).toNat : Nat)) - 48))
          rw [show p + (((q - p).toNat : Nat) : Int) = q by omega]
        clear e2 e3
        have f2 : f19 m1 m3 := fun x k hx => by rw [e3', um_n (by omega), e2', um_n (by omega)]
        exact ih (q + 1) m3 (by omega) (by omega) (by omega) (by rw [← sc_t (show q < n by omega) (decide_eq_true hl)]; exact hq) (fun x k hx => (f2 x k hx).trans (f1 x k hx)) (fun x k hx => by rw [e3', um_n (by omega), e2', um_n (by omega)]; exact F1 x k hx) (S1.fr f2 (by rw [e3', um_s]) (by omega)) (by rw [e3', um_k (by decide), e2', um_s])
      · have hqe : q = e := by
          rw [← hq]
          exact (sc_f (by unfold isD; rw [decide_eq_true_eq]; exact hl)).symm
        subst hqe
        exact kk m2 (fun x k hx => by rw [e2, um_n (by omega)]; exact F1 x k hx) (by rw [e2, um_k (by decide)]; exact c) (by rw [e2, um_s]) (by rw [e2, um_k (by decide)]; exact x9)
  exact loop (n - p).toNat p m rfl (Int.le_refl _) bk.1 he f19.refl (fun _ _ _ => rfl) S (by rw [h9, show (p - p).toNat = 0 by omega]; rfl)
theorem c31 {c : Int} {K : Mm → Prop} (S : ScC f n m p) (hp : p < n)
    (kk : ∀ m', (∀ x k, ¬ (x = 3 ∧ (k = 5 ∨ k = 6 ∨ k = 9)) → m' x k = m x k) → m' 3 5 = p + 1 → m' 3 6 = (if sgN c < 0 then (if c = 45 then 5 else if c = 59 then 6 else 7) else 4) → m' 3 9 = sgN c → K m') : TrV 31 [(1, 3), (0, c)] m K := by
  obtain ⟨a, b, h5, dd, g⟩ := S
  refine e31 _ fun m1 e1 => c32 fun m2 e2 => ?_
  rw [h5] at e1
  have e1' : m1 = umem m 3 5 (p + 1) := by rw [e1, wrI (by omega) (by omega)]
  clear e1
  have x9 : m2 3 9 = sgN c := by rw [e2, um_s]
  have fin : ∀ m', m' = umem m2 3 6 (if sgN c < 0 then (if c = 45 then 5 else if c = 59 then 6 else 7) else 4) → K m' := fun m' e' =>
    kk m' (fun x k hx => by rw [e', um_n (by omega), e2, um_n (by omega), e1', um_n (by omega)]) (by rw [e', um_k (by decide), e2, um_k (by decide), e1', um_s]) (by rw [e', um_s]) (by rw [e', um_k (by decide)]; exact x9)
  rw [x9]
  refine ⟨fun h => ⟨fun h1 m' e' => fin m' (by rw [if_pos h, if_pos h1]; exact e'), fun h1 => ⟨fun h2 m' e' => fin m' (by rw [if_pos h, if_neg h1, if_pos h2]; exact e'), fun h2 m' e' => fin m' (by rw [if_pos h, if_neg h1, if_neg h2]; exact e')⟩⟩, fun h m' e' => fin m' (by rw [if_neg h]; exact e')⟩
/-- the step(19) -/
theorem c19 {K : Mm → Prop} (S : ScC f n m p) (kk : ∀ m', f19 m m' → ScC f n m' (tk f n p).e → HoC m' (tk f n p) → K m') : TrV 19 [(1, 3)] m K := by
  have ht : ∀ s, sc (isB f) n p = s → tk f n p = if s < n then
    if isL f s = true then (if wdS f s (sc (isL f) n s - s) < 0 then 2 else 1, s, sc (isL f) n s - s, wdS f s (sc (isL f) n s - s), sc (isL f) n s)
    else if isD f s = true then (3, s, 0, nvC f s (sc (isD f) n s - s).toNat, sc (isD f) n s)
    else (if sgN (f s) < 0 then (if f s = 45 then 5 else if f s = 59 then 6 else 7) else 4, s, 0, sgN (f s), s + 1)
  else (0, s, 0, 0, s) := fun s hs => by subst hs; rfl
  have bk := sc_le (P := isB f) S.2.2.2.1.2.1
  generalize he : sc (isB f) n p = s at *
  have ht' := ht s rfl
  clear ht
  generalize tk f n p = t at *
  have done : ∀ (m1 : Mm), f19 m m1 → ScC f n m1 s → X 19 39 [(1, 3)] [] m1 (qV K) := by
    intro m1 f1 S1
    obtain ⟨a, b, h5, dd, g⟩ := id S1
    refine w19_39 fun m2 e2 m3 e3 m4 e4 => ?_
    rw [h5] at e2
    have f4 : f19 m1 m4 := fun x k hx => by rw [e4, um_n (by omega), e3, um_n (by omega), e2, um_n (by omega)]
    have x5 : m4 3 5 = s := by rw [e4, um_k (by decide), e3, um_k (by decide), e2, um_k (by decide)]; exact h5
    have x7 : m4 3 7 = s := by rw [e4, um_k (by decide), e3, um_k (by decide), e2, um_s]
    have x8 : m4 3 8 = 0 := by rw [e4, um_k (by decide), e3, um_s]
    have x9 : m4 3 9 = 0 := by rw [e4, um_s]
    have S4 := S1.fr f4 x5 ⟨by omega, by omega⟩
    have a4 := S4.1
    have b4 := S4.2.1
    have ff : ∀ m', f19 m4 m' → f19 m m' := fun m' h x k hx => by rw [h x k hx, f4 x k hx, f1 x k hx]
    rw [x5, a4, b4]
    refine ⟨fun hn => ?_, fun hn m5 e5 => ?_⟩
    · have gs : m4 2 s = f s := (S4.2.2.2.2 s (by omega) hn).1
      rw [gs]
      rw [if_pos hn] at ht'
      refine ⟨t_slot (by omega), fun hl => ?_, fun hl => ⟨t_slot (by omega), fun hd => ?_, fun hd => ⟨t_slot (by omega), ?_⟩⟩⟩
      · rw [if_pos (show isL f s = true from decide_eq_true hl)] at ht'
        subst ht'
        exact c22 S4 x7 ⟨by omega, Int.le_refl _⟩ fun m' f' S' y6 y7 y8 y9 => kk m' (ff m' f') S' ⟨y6, y7, y8, y9⟩
      · rw [if_neg (show ¬ isL f s = true by unfold isL; rw [decide_eq_true_eq]; exact hl), if_pos (show isD f s = true from decide_eq_true hd)] at ht'
        subst ht'
        have bd := sc_le (P := isD f) (show s ≤ n by omega)
        refine c30 S4 x9 fun m' f' y5 y6 y9 => ?_
        have f'' : f19 m4 m' := fun x k hx => f' x k (by omega)
        have y7 : m' 3 7 = s := by rw [f' _ _ (by decide)]; exact x7
        have y8 : m' 3 8 = 0 := by rw [f' _ _ (by decide)]; exact x8
        generalize hE : sc (isD f) n s = E at *
        generalize nvC f s (E - s).toNat = V at *
        exact kk m' (ff m' f'') (S4.fr f'' y5 ⟨show 0 ≤ E by omega, show E ≤ n by omega⟩) ⟨y6, y7, y8, y9⟩
      · rw [if_neg (show ¬ isL f s = true by unfold isL; rw [decide_eq_true_eq]; exact hl), if_neg (show ¬ isD f s = true by unfold isD; rw [decide_eq_true_eq]; exact hd)] at ht'
        subst ht'
        refine c31 S4 hn fun m' f' y5 y6 y9 => ?_
        have f'' : f19 m4 m' := fun x k hx => f' x k (by omega)
        have y7 : m' 3 7 = s := by rw [f' _ _ (by decide)]; exact x7
        have y8 : m' 3 8 = 0 := by rw [f' _ _ (by decide)]; exact x8
        generalize (if sgN (f s) < 0 then (if f s = 45 then 5 else if f s = 59 then 6 else 7) else 4 : Int) = U at *
        generalize sgN (f s) = V at *
        exact kk m' (ff m' f'') (S4.fr f'' y5 ⟨show 0 ≤ s + 1 by omega, show s + 1 ≤ n by omega⟩) ⟨y6, y7, y8, y9⟩
    · rw [if_neg hn] at ht'
      subst ht'
      have f5 : f19 m4 m5 := fun x k hx => by rw [e5, um_n (by omega)]
      exact kk m5 (ff m5 f5) (S4.fr f5 (by rw [e5, um_k (by decide)]; exact x5) ⟨show 0 ≤ s by omega, show s ≤ n by omega⟩) ⟨by rw [e5, um_s], by rw [e5, um_k (by decide)]; exact x7, by rw [e5, um_k (by decide)]; exact x8, by rw [e5, um_k (by decide)]; exact x9⟩
  have loop : ∀ (d : Nat) (q : Int) (m1 : Mm), (n - q).toNat = d → p ≤ q → sc (isB f) n q = s → f19 m m1 → ScC f n m1 q → X 19 0 [(1, 3)] [] m1 (qV K) := by
    intro d
    induction d with
    | zero =>
      intro q m1 hd hp hq f1 S1
      obtain ⟨a, b, c, dd, g⟩ := id S1
      have : q = s := by rw [← hq]; exact (sc_n (by omega)).symm
      subst this
      exact w19_0 ⟨fun h => absurd h (by omega), fun _ => done m1 f1 S1⟩
    | succ d ih =>
      intro q m1 hd hp hq f1 S1
      obtain ⟨a, b, c, dd, g⟩ := id S1
      have gq := (g q (by omega) (by omega)).1
      refine w19_0 ⟨fun _ => ?_, fun h => absurd (show m1 3 5 < m1 3 4 by omega) h⟩
      rw [a, c, gq]
      refine ⟨t_slot (by omega), fun hl m2 e2 => ?_, fun hl => ?_⟩
      · rw [wrI (x := q + 1) (by omega) (by omega)] at e2
        have f2 : f19 m1 m2 := fun x k hx => by rw [e2, um_n (by omega)]
        exact ih (q + 1) m2 (by omega) (by omega) (by rw [← sc_t (show q < n by omega) (decide_eq_true hl)]; exact hq) (fun x k hx => (f2 x k hx).trans (f1 x k hx)) (S1.fr f2 (by rw [e2, um_s]) (by omega))
      · have : q = s := by
          rw [← hq]
          exact (sc_f (by unfold isB; rw [decide_eq_true_eq]; exact hl)).symm
        subst this
        exact done m1 f1 S1
  exact loop (n - p).toNat p m rfl (Int.le_refl _) he f19.refl S
end SCN
