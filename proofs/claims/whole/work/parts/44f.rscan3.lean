/-! the reference's step(170) -/
section RSC
variable {f : Int → Int} {n p s : Int} {m : Mm}
theorem wd_rng {sz : Int} : -1 ≤ wdS f s sz ∧ wdS f s sz < 18 := by
  unfold wdS
  split
  · exact fstN_rng
  · decide
theorem c170 {K : Mm → Prop} (S : ScR f n m p) (kk : ∀ m', f170 m m' → ScR f n m' (tk f n p).e → HoR f m' (tk f n p) → K m') : TrV 170 [(1, 597)] m K := by
  have ht : ∀ s, sc (isB f) n p = s → tk f n p = if s < n then
    if isL f s = true then (if wdS f s (sc (isL f) n s - s) < 0 then 2 else 1, s, sc (isL f) n s - s, wdS f s (sc (isL f) n s - s), sc (isL f) n s)
    else if isD f s = true then (3, s, 0, nvC f s (sc (isD f) n s - s).toNat, sc (isD f) n s)
    else (if sgN (f s) < 0 then (if f s = 45 then 5 else if f s = 59 then 6 else 7) else 4, s, 0, sgN (f s), s + 1)
  else (0, s, 0, 0, s) := fun s hs => by subst hs; rfl
  have bk := sc_le (P := isB f) S.2.2.1.2.1
  have p0 := S.2.2.1.1
  generalize he : sc (isB f) n p = s at *
  have ht' := ht s rfl
  clear ht
  generalize tk f n p = t at *
  have done : ∀ (m1 : Mm), f170 m m1 → ScR f n m1 s → X 170 52 [(1, 597)] [] m1 (qV K) := by
    intro m1 f1 S1
    obtain ⟨b, h5, dd, g⟩ := id S1
    refine w170_52 fun m4 e4 => ?_
    rw [h5] at e4
    have f4 : f170 m1 m4 := fun x k n1 n2 => by rw [e4, um_n (by omega)]
    have x8 : m4 597 8 = s := by rw [e4, um_k (by decide)]; exact h5
    have x11 : m4 597 11 = s := by rw [e4, um_s]
    have S4 := S1.fr f4 x8 ⟨by omega, by omega⟩
    have b4 := S4.1
    have ff : ∀ m', f170 m4 m' → f170 m m' := fun m' h x k n1 n2 => by rw [h x k n1 n2, f4 x k n1 n2, f1 x k n1 n2]
    rw [x8, b4]
    refine ⟨fun hn => ?_, fun hn m5 e5 => ?_⟩
    · have gs : m4 598 s = f s := (S4.2.2.2 s (by omega) hn).1
      rw [gs]
      rw [if_pos hn] at ht'
      refine ⟨fun _ => ⟨by omega, fun hl => ?_, fun hl => ⟨fun _ => ⟨fun hd => ?_, fun hd => ?_⟩, fun q => absurd hn q⟩⟩, fun q => absurd hn q⟩
      · rw [if_pos (show isL f s = true from decide_eq_true hl)] at ht'
        subst ht'
        refine c173 S4 x11 fun m' w z hw hz f' S' y11 y9 y10 y13 => ?_
        rw [← hw, ← hz] at kk
        refine kk m' (ff m' f') S' ⟨y11, ?_, ?_, fun q => absurd (show (if w < 0 then (2 : Int) else 1) = 3 from q) (by split <;> decide), ?_⟩
        · rw [y9]
          show _ = rkT (if w < 0 then 2 else 1, s, z, w, sc (isL f) n s)
          unfold rkT
          by_cases h0 : w < 0
          · rw [if_pos h0]
            simp only [if_pos h0]
            by_cases h8 : z > 8
            · rw [if_pos h8]
              simp [Tk.k, Tk.sz, h8]
            · rw [if_neg h8]
              simp [Tk.k, Tk.sz, h8]
          · rw [if_neg h0]
            simp [Tk.k, Tk.sz, h0]
        · intro q
          by_cases h0 : w < 0
          · have q' : (if w < 0 then (2 : Int) else 1) = 1 ∨ (if w < 0 then (2 : Int) else 1) = 4 := q
            rw [if_pos h0] at q'
            omega
          · exact y10 h0
        · intro q
          have q' : rkT (if w < 0 then 2 else 1, s, z, w, sc (isL f) n s) = 2 := q
          unfold rkT at q'
          by_cases h0 : w < 0
          · by_cases h8 : z > 8
            · simp [Tk.k, Tk.sz, h0, h8] at q'
            · exact y13 h0 h8
          · simp [Tk.k, Tk.sz, h0] at q'
      · rw [if_neg (show ¬ isL f s = true by unfold isL; rw [decide_eq_true_eq]; exact hl), if_pos (show isD f s = true from decide_eq_true hd)] at ht'
        subst ht'
        have bd := sc_le (P := isD f) (show s ≤ n by omega)
        generalize hE : sc (isD f) n s = E at *
        intro m6 e6 m7 e7
        have f7 : f170 m4 m7 := fun x k n1 n2 => by rw [e7, um_n (by omega), e6, um_n (by omega)]
        have loop : ∀ (d : Nat) (q : Int) (m8 : Mm), (n - q).toNat = d → s ≤ q → q ≤ E → sc (isD f) n q = E → f170 m4 m8 → ScR f n m8 q → m8 597 11 = s → m8 597 9 = 3 → m8 597 10 = nvR f s (q - s).toNat → X 170 118 [(1, 597)] [] m8 (qV K) := by
          have nvb : ∀ q, s ≤ q → q ≤ E → NmE (nvC f s (q - s).toNat) (nvR f s (q - s).toNat) ∧ 0 ≤ nvR f s (q - s).toNat ∧ nvR f s (q - s).toNat ≤ 1000000 := fun q q0 q1 => by
            have := nv_eq (f := f) (s := s) (q - s).toNat fun i hi => of_decide_eq_true (bd.2.2.1 (s + i) (by omega) (by omega))
            exact ⟨this.1, this.2.2⟩
          have fin : ∀ (q : Int) (m8 : Mm), q = E → f170 m4 m8 → ScR f n m8 q → m8 597 11 = s → m8 597 9 = 3 → m8 597 10 = nvR f s (q - s).toNat → K m8 := by
            intro q m8 hq f8 S8 y11 y9 y10
            subst hq
            have := nvb q bd.1 (Int.le_refl _)
            refine kk m8 (ff m8 f8) S8 ⟨y11, y9, fun z => absurd (show (3 : Int) = 1 ∨ (3 : Int) = 4 from z) (by decide), fun _ => by rw [y10]; exact this, fun z => absurd (show (3 : Int) = 2 from z) (by decide)⟩
          intro d
          induction d with
          | zero =>
            intro q m8 hd hp hq0 hq f8 S8 y11 y9 y10
            obtain ⟨b, c, dd, g⟩ := id S8
            have hqe : q = E := by rw [← hq]; exact (sc_n (by omega)).symm
            exact w170_118 ⟨fun h => absurd h (by omega), fun _ => fin q m8 hqe f8 S8 y11 y9 y10⟩
          | succ d ih =>
            intro q m8 hd hp hq0 hq f8 S8 y11 y9 y10
            obtain ⟨b, c, dd, g⟩ := id S8
            have gq := g q (by omega) (by omega)
            have nb := nvb q hp hq0
            refine w170_118 ⟨fun _ => ?_, fun h => absurd (show m8 597 8 < m8 597 3 by omega) h⟩
            rw [c, gq.1]
            refine ⟨by omega, fun hl => ?_, fun hl => ?_⟩
            · have hlt : q < E := by
                rw [← hq, sc_t (show q < n by omega) (decide_eq_true hl)]
                have := sc_le (P := isD f) (show q + 1 ≤ n by omega)
                omega
              have nxt : ∀ m', m' = umem (umem m8 597 10 (nvR f s (q + 1 - s).toNat)) 597 8 (q + 1) → X 170 118 [(1, 597)] [] m' (qV K) := fun m' e' => by
                have f' : f170 m8 m' := fun x k n1 n2 => by rw [e', um_n (by omega), um_n (by omega)]
                exact ih (q + 1) m' (by omega) (by omega) (by omega) (by rw [← sc_t (show q < n by omega) (decide_eq_true hl)]; exact hq) (fun x k n1 n2 => (f' x k n1 n2).trans (f8 x k n1 n2)) (S8.fr f' (by rw [e', um_s]) (by omega)) (by rw [e', um_k (by decide), um_k (by decide)]; exact y11) (by rw [e', um_k (by decide), um_k (by decide)]; exact y9) (by rw [e', um_k (by decide), um_s])
              have ev : nvR f s (q + 1 - s).toNat = if nvR f s (q - s).toNat > 99999 then nvR f s (q - s).toNat else 10 * nvR f s (q - s).toNat + f q - 48 := by
                rw [show (q + 1 - s).toNat = (q - s).toNat + 1 by omega]
                show (if nvR f s (q - s).toNat > 99999 then nvR f s (q - s).toNat else 10 * nvR f s (q - s).toNat + f (s + ((q - s).toNat : Nat)) - 48) = _
                rw [show s + (((q - s).toNat : Nat) : Int) = q by omega]
              rw [y10]
              refine ⟨fun h9 m9 e9 m10 e10 => ?_, fun h9 m9 e9 m10 e10 => ?_⟩
              · have z8 : m9 597 8 = q := by rw [e9, um_k (by decide)]; exact c
                rw [z8, wrI (x := q + 1) (by omega) (by omega), e9] at e10
                rw [if_pos h9] at ev
                exact nxt m10 (by rw [ev]; exact e10)
              · have z8 : m9 597 8 = q := by rw [e9, um_k (by decide)]; exact c
                rw [z8, wrI (x := q + 1) (by omega) (by omega), e9, wrI (x := 10 * nvR f s (q - s).toNat) (by omega) (by omega), wrI (x := 10 * nvR f s (q - s).toNat + f q) (by omega) (by omega), wrI (x := 10 * nvR f s (q - s).toNat + f q - 48) (by omega) (by omega)] at e10
                rw [if_neg h9] at ev
                exact nxt m10 (by rw [ev]; exact e10)
            · have hqe : q = E := by
                rw [← hq]
                exact (sc_f (by unfold isD; rw [decide_eq_true_eq]; exact hl)).symm
              exact fin q m8 hqe f8 S8 y11 y9 y10
        exact loop (n - s).toNat s m7 rfl (Int.le_refl _) bd.1 hE f7 (S4.fr f7 (by rw [e7, um_k (by decide), e6, um_k (by decide)]; exact x8) ⟨by omega, by omega⟩) (by rw [e7, um_k (by decide), e6, um_k (by decide)]; exact x11) (by rw [e7, um_k (by decide), e6, um_s]) (by rw [e7, um_s, show (s - s).toNat = 0 by omega]; rfl)
      · rw [if_neg (show ¬ isL f s = true by unfold isL; rw [decide_eq_true_eq]; exact hl), if_neg (show ¬ isD f s = true by unfold isD; rw [decide_eq_true_eq]; exact hd)] at ht'
        subst ht'
        refine c176 fun m6 e6 => ?_
        have z10 : m6 597 10 = sgN (f s) := by rw [e6, um_s]
        have z8 : m6 597 8 = s := by rw [e6, um_k (by decide)]; exact x8
        have z598 : m6 598 s = f s := by rw [e6, um_x (by decide)]; exact gs
        have z11 : m6 597 11 = s := by rw [e6, um_k (by decide)]; exact x11
        rw [z8, z598, z10]
        have r59 : sgN 59 < 0 := by decide +kernel
        have r45 : sgN 45 < 0 := by decide +kernel
        have fin : ∀ c, c ≠ 2 → c = (if sgN (f s) < 0 then (if f s = 45 then 6 else if f s = 59 then 4 else 7) else 5) → ∀ m7, m7 = umem m6 597 9 c → ∀ m8, m8 = umem m7 597 8 (wr (m7 597 8 + 1)) → K m8 := by
          intro c hc2 hc m7 e7 m8 e8
          have w8 : m7 597 8 = s := by rw [e7, um_k (by decide)]; exact z8
          rw [w8] at e8
          have e8' : m8 = umem m7 597 8 (s + 1) := by rw [e8, wrI (by omega) (by omega)]
          clear e8
          have f8 : f170 m4 m8 := fun x k n1 n2 => by rw [e8', um_n (by omega), e7, um_n (by omega), e6, um_n (by omega)]
          have w10 : m8 597 10 = sgN (f s) := by rw [e8', um_k (by decide), e7, um_k (by decide)]; exact z10
          have w11 : m8 597 11 = s := by rw [e8', um_k (by decide), e7, um_k (by decide)]; exact z11
          have w9 : m8 597 9 = c := by rw [e8', um_k (by decide), e7, um_s]
          have rk : rkT (if sgN (f s) < 0 then (if f s = 45 then 5 else if f s = 59 then 6 else 7) else 4, s, 0, sgN (f s), s + 1) = c := by
            rw [hc]
            unfold rkT
            by_cases h0 : sgN (f s) < 0
            · by_cases h45 : f s = 45
              · simp [Tk.k, h45, r45]
              · by_cases h59 : f s = 59
                · simp [Tk.k, h59, r59]
                · simp [Tk.k, h0, h45, h59]
            · simp [Tk.k, Tk.sz, h0]
          have hU : ¬ (if sgN (f s) < 0 then (if f s = 45 then (5 : Int) else if f s = 59 then 6 else 7) else 4) = 3 := by
            by_cases h0 : sgN (f s) < 0
            · rw [if_pos h0]
              by_cases h45 : f s = 45
              · rw [if_pos h45]; decide
              · rw [if_neg h45]
                by_cases h59 : f s = 59
                · rw [if_pos h59]; decide
                · rw [if_neg h59]; decide
            · rw [if_neg h0]; decide
          clear hc
          generalize (if sgN (f s) < 0 then (if f s = 45 then (5 : Int) else if f s = 59 then 6 else 7) else 4) = U at *
          generalize sgN (f s) = V at *
          exact kk m8 (ff m8 f8) (S4.fr f8 (by rw [e8', um_s]) ⟨show 0 ≤ s + 1 by omega, show s + 1 ≤ n by omega⟩) ⟨w11, w9.trans rk.symm, fun _ => w10, fun q => absurd q hU, fun q => absurd (rk.symm.trans q) hc2⟩
        refine ⟨by omega, fun h59 => fin 4 (by decide) ?_, fun h59 => ⟨fun h45 => fin 6 (by decide) ?_, fun h45 => ⟨fun h0 => fin 7 (by decide) ?_, fun h0 => fin 5 (by decide) ?_⟩⟩⟩
        · rw [h59, if_pos r59]
          rfl
        · rw [h45, if_pos r45]
          rfl
        · rw [if_pos h0, if_neg h45, if_neg h59]
        · rw [if_neg h0]
    · rw [if_neg hn] at ht'
      subst ht'
      have f5 : f170 m4 m5 := fun x k n1 n2 => by rw [e5, um_n (by omega)]
      exact kk m5 (ff m5 f5) (S4.fr f5 (by rw [e5, um_k (by decide)]; exact x8) ⟨show 0 ≤ s by omega, show s ≤ n by omega⟩) ⟨by rw [e5, um_k (by decide)]; exact x11, by rw [e5, um_s]; rfl, fun q => absurd (show (0 : Int) = 1 ∨ (0 : Int) = 4 from q) (by decide), fun q => absurd (show (0 : Int) = 3 from q) (by decide), fun q => absurd (show (0 : Int) = 2 from q) (by decide)⟩
  have loop : ∀ (d : Nat) (q : Int) (m1 : Mm), (n - q).toNat = d → p ≤ q → sc (isB f) n q = s → f170 m m1 → ScR f n m1 q → X 170 0 [(1, 597)] [] m1 (qV K) := by
    intro d
    induction d with
    | zero =>
      intro q m1 hd hp hq f1 S1
      obtain ⟨b, c, dd, g⟩ := id S1
      have : q = s := by rw [← hq]; exact (sc_n (by omega)).symm
      subst this
      exact w170_0 ⟨fun h => absurd h (by omega), fun _ => done m1 f1 S1⟩
    | succ d ih =>
      intro q m1 hd hp hq f1 S1
      obtain ⟨b, c, dd, g⟩ := id S1
      have gq := (g q (by omega) (by omega)).1
      have nxt : (f q = 10 ∨ f q = 32) → ∀ m2, m2 = umem m1 597 8 (wr (q + 1)) → X 170 0 [(1, 597)] [] m2 (qV K) := fun hl m2 e2 => by
        rw [wrI (x := q + 1) (by omega) (by omega)] at e2
        have f2 : f170 m1 m2 := fun x k n1 n2 => by rw [e2, um_n (by omega)]
        exact ih (q + 1) m2 (by omega) (by omega) (by rw [← sc_t (show q < n by omega) (decide_eq_true hl)]; exact hq) (fun x k n1 n2 => (f2 x k n1 n2).trans (f1 x k n1 n2)) (S1.fr f2 (by rw [e2, um_s]) (by omega))
      refine w170_0 ⟨fun _ => ?_, fun h => absurd (show m1 597 8 < m1 597 3 by omega) h⟩
      rw [c, gq]
      refine ⟨by omega, fun hl m2 e2 => nxt (Or.inl hl) m2 e2, fun h1 => ⟨fun hl m2 e2 => nxt (Or.inr hl) m2 e2, fun h2 => ?_⟩⟩
      have : q = s := by
        rw [← hq]
        exact (sc_f (by unfold isB; rw [decide_eq_true_eq]; omega)).symm
      subst this
      exact done m1 f1 S1
  exact loop (n - p).toNat p m rfl (Int.le_refl _) he f170.refl S
end RSC
