/-! what BEST takes: countTaken(120), laysTakes(254); takes; opened -/
theorem cE_dark {E : Mm} {w i : Int} (hi : 0 ≤ i ∧ i < cN E w) (h : cE E w i = -3) : ¬ ocw E w < 1000000 := by
  have hl : i.toNat < (chs E w).length := by unfold cN at hi; omega
  have hq := List.getElem_mem hl
  have he : cE E w i = ((chs E w)[i.toNat]).1 := by
    unfold cE
    rw [List.getElem?_eq_getElem hl]
    rfl
  rw [he] at h
  have key : ∀ q ∈ chs E w, q.1 = -3 → ¬ ocw E w < 1000000 := by
    intro q hq h3
    unfold chs at hq
    split at hq
    · split at hq
      · rw [List.mem_singleton] at hq
        subst hq
        exact absurd (show (-2 : Int) = -3 from h3) (by decide)
      · assumption
    · have := chE_ge hq
      omega
  exact key _ hq h
def tkP (E : Mm) (w : Nat) : List Int := tkW E w (cE E w (bsP E w))
def tkC (E : Mm) : Nat → Int → Int
  | 0, _ => 0
  | n + 1, r => tkC E n r + ((tkP E n).count r : Nat)
def tkA (E : Mm) : Nat → Int
  | 0 => 0
  | n + 1 => tkA E n + ((tkP E n).length : Nat)
theorem bsP_rng {E : Mm} (T : InvT E) {w : Nat} : 0 ≤ bsP E w ∧ bsP E w < cN E w := plX_rng T
theorem tkC_rng {E : Mm} (T : InvT E) (Pg : InvP E) (r : Int) : ∀ n : Nat, (n : Int) ≤ E 597 23 → (0 ≤ tkC E n r ∧ tkC E n r ≤ 10 * n) ∧ 0 ≤ tkA E n ∧ tkA E n ≤ 10 * n := by
  intro n
  induction n with
  | zero => intro _; exact ⟨⟨Int.le_refl _, Int.le_refl _⟩, Int.le_refl _, Int.le_refl _⟩
  | succ n ih =>
    intro hn
    have := ih (by omega)
    have h1 := tkW_len T Pg (w := n) (who := cE E n (bsP E n)) ⟨by omega, by omega⟩
    have h2 : (tkP E n).count r ≤ (tkP E n).length := List.count_le_length
    unfold tkC tkA
    have h3 : (tkP E n).length ≤ 10 := h1
    omega
theorem count_take {l : List Int} {i : Nat} {r : Int} (h : i < l.length) : (((l.take (i + 1)).count r : Nat) : Int) = ((l.take i).count r : Nat) + if l[i] = r then 1 else 0 := by
  rw [take_one h, List.count_append, List.count_singleton]
  by_cases hx : l[i] = r
  · simp [hx]
  · simp [hx]
def f120 (m m' : Mm) : Prop := ∀ x k, ¬ (370 ≤ x ∧ x < 411) → x ≠ 596 → m' x k = m x k
theorem f120.r {m m' : Mm} (h : f120 m m') : fR m m' := fun x k _ n2 _ n4 => h x k (by omega) n4
theorem f120.s {E m m' : Mm} (Pg : InvP E) (h : f120 m m') (R : Res E m) : Res E m' := R.fr Pg fun x k x0 x1 _ => h x k (by omega) (by omega)
theorem c120 {E m : Mm} {K : Int → Mm → Prop} (B : BS E m) (R : Res E m)
    (kk : ∀ m', f120 m m' → (∀ r, 0 ≤ r → r < 24 → m' 596 r = tkC E (E 597 23).toNat r) → K (tkA E (E 597 23).toNat) m') : TrI 120 [(1, 1)] m K := by
  have P1 := B.p.1
  have T2 := B.t.2.1
  have T3 := B.t.2.2.1
  refine e120 ?_
  rw [← B.wo]
  refine c77 B.t B.ct rfl B.w77 fun m1 f1 O1 => ?_
  have g1 : f120 m m1 := fun x k n1 n2 => f1 x k (by omega) (by omega)
  have clear : ∀ (n r : Nat) (m2 : Mm), r + n = 24 → (∀ x k, x ≠ 596 → m2 x k = m1 x k) → (∀ i : Int, 0 ≤ i → i < r → m2 596 i = 0) → X 120 18 [(1, 1), (0, (r : Int)), (9, 0), (9, 0), (9, 0)] [] m2 (qI K) := by
    intro n
    induction n with
    | zero =>
      intro r m2 hr f2 Z2
      refine w120_18 _ _ _ _ ⟨fun h => absurd h (by omega), fun _ => ?_⟩
      -- the words
      have words : ∀ (n w : Nat) (m3 : Mm) (v3 v4 : aV), (w : Int) + n = E 597 23 → f120 m m3 → CO E m3 (m 1 3) → (∀ r, 0 ≤ r → r < 24 → m3 596 r = tkC E w r) → X 120 41 [(1, 1), (0, tkA E w), (0, (w : Int)), v3, v4] [] m3 (qI K) := by
        intro n
        induction n with
        | zero =>
          intro w m3 v3 v4 hw f3 O3 C3
          have B3 := B.fQ f3.r
          refine w120_41 _ _ v3 v4 ⟨B3.sP, fun h => absurd h (by rw [B3.pn]; omega), fun _ => ?_⟩
          have hwN : w = (E 597 23).toNat := by omega
          rw [hwN] at C3 ⊢
          exact kk m3 f3 C3
        | succ n ih =>
          intro w m3 v3 v4 hw f3 O3 C3
          have B3 := B.fQ f3.r
          have R3 := f3.s B.p R
          have wE : 0 ≤ (w : Int) ∧ (w : Int) < E 597 23 := by omega
          have hP := bsP_rng B.t (w := w)
          have n2 := (chs_len B.t (w := w)).2
          have n24 : (cN E w : Int) ≤ 24 := by unfold cN; omega
          have e5 : m3 512 w = bsP E w := R3.2.2.2.2.2.2 w wE.2
          have e4 : m3 (440 + (w : Int)) (bsP E w) = cE E w (bsP E w) := ((R3.2.1 w wE.1 wE.2).2.2.2.at hP).1
          have c1 := cE_in B.t B.p B.w wE hP
          have e3 : m3 1 3 = m 1 3 := f3 _ _ (by decide) (by decide)
          have hl10 : (tkP E w).length ≤ 10 := tkW_len B.t B.p wE
          have kr := tkC_rng B.t B.p
          refine w120_41 _ _ v3 v4 ⟨B3.sP, fun _ => ⟨by omega, by rw [e5]; omega, B3.sT, ?_⟩, fun h => absurd (show (w : Int) < m3 (m3 1 5) 4 by rw [B3.pn]; exact wE.2) h⟩
          rw [e5, e4, B3.en]
          -- the path counted
          have path : ∀ (m4 : Mm) (v3 : aV), v3.1 ≠ 2 → f120 m3 m4 → (∀ k, m4 596 k = m3 596 k) → CO E m4 (m 1 3) → m4 370 2 = (tkP E w).length → LA m4 371 0 (tkP E w) → X 120 131 [(1, 1), (0, tkA E w), (0, (w : Int)), v3, (0, 0)] [] m4 (qI K) := by
            intro m4 v3 hv f4 g4 O4 s4 L4
            have rng : ∀ x ∈ tkP E w, 0 ≤ x ∧ x < E 602 578 := tkW_rng B.t B.p wE
            have steps : ∀ (n i : Nat) (m5 : Mm), i + n = (tkP E w).length → (∀ x k, x ≠ 596 → m5 x k = m4 x k) → (∀ r, 0 ≤ r → r < 24 → m5 596 r = tkC E w r + (((tkP E w).take i).count r : Nat)) → X 120 131 [(1, 1), (0, tkA E w), (0, (w : Int)), v3, (0, (i : Int))] [] m5 (qI K) := by
              intro n
              induction n with
              | zero =>
                intro i m5 hi f5 C5
                have il : i = (tkP E w).length := by omega
                refine w120_131 _ _ v3 _ hv ⟨fun h => absurd h (by rw [f5 _ _ (by decide), s4]; omega), fun _ => ?_⟩
                have k0 := kr 0 w (by omega)
                rw [f5 _ _ (by decide), s4, wrI (x := tkA E w + _) (by omega) (by omega), wrI (x := (w : Int) + 1) (by omega) (by omega)]
                refine ih (w + 1) m5 _ _ (by omega) (fun x k n1 n2 => ?_) ?_ fun r r0 r1 => ?_
                · rw [f5 x k n2, f4 x k n1 n2]
                  exact f3 x k n1 n2
                · exact O4.fr fun x k x0 x1 => f5 x k (by omega)
                · rw [C5 r r0 r1, il, List.take_length]
                  rfl
              | succ n ihn =>
                intro i m5 hi f5 C5
                have il : i < (tkP E w).length := by omega
                have hr := rng _ (List.getElem_mem il)
                have e7 : m5 371 i = (tkP E w)[i] := by
                  rw [f5 _ _ (by decide), L4 i il]
                  omega
                have kc := kr ((tkP E w)[i]) w (by omega)
                have cl : ((tkP E w).take i).count ((tkP E w)[i]) ≤ ((tkP E w).take i).length := List.count_le_length
                have tl : ((tkP E w).take i).length = i := by rw [List.length_take]; omega
                refine w120_131 _ _ v3 _ hv ⟨fun _ => ⟨by omega, by rw [e7]; omega, fun m7 e => ?_⟩, fun h => absurd (show (i : Int) < m5 370 2 by rw [f5 _ _ (by decide), s4]; omega) h⟩
                rw [e7, C5 _ hr.1 (by omega), wrI (by omega) (by omega)] at e
                rw [wrI (x := (i : Int) + 1) (by omega) (by omega)]
                refine ihn (i + 1) m7 (by omega) (fun x k hn => by rw [e, um_x hn]; exact f5 x k hn) fun r r0 r1 => ?_
                rw [count_take il, e]
                by_cases hx : r = (tkP E w)[i]
                · rw [hx, um_s, if_pos rfl]
                  omega
                · rw [um_k hx, if_neg (fun h => hx h.symm), C5 r r0 r1]
                  omega
            refine steps (tkP E w).length 0 m4 (Nat.zero_add _) (fun _ _ _ => rfl) fun r r0 r1 => ?_
            rw [g4, C3 r r0 r1, List.take_zero]
            simp
          refine ⟨fun h => ⟨B3.sT, by omega, ?_⟩, fun h => ?_⟩
          · have hx := (cE_fin B.t hP).1 h.1
            have hT : tkP E w = xR E w (cE E w (bsP E w)) (E 604 w).toNat 0 := by
              unfold tkP tkW xRs
              rw [if_pos h.1, if_pos hx]
            rw [e3]
            have c3 : CT E m3 (m 1 3) := by rw [← e3]; exact (B.fQ f3.r).ct
            refine c109 B.t B.p B.w c3 (B.fQ f3.r).cp O3 wE h (fun m4 f4 hn _ => absurd hx hn) (fun m4 f4 _ s4 L4 => ?_)
            rw [← hT] at s4 L4
            exact path m4 (0, _) (by simp) (fun x k n1 n2 => f4 x k (by omega) (by omega)) (fun k => f4 _ _ (by decide) (by omega)) (f4.O O3) s4 L4
          · have c3 : CT E m3 (m 1 3) := by rw [← e3]; exact B3.ct
            refine c81 B.t B.p B.w c3 B3.cp O3 wE fun m4 f4 R4 => ?_
            have e5 : m4 1 5 = m3 1 5 := f4 _ _ (by decide)
            rw [e5]
            have fin : ∀ (m6 : Mm) (L : List Int), f85 m4 m6 → S8 m6 L (tkP E w) → X 120 131 [(1, 1), (0, tkA E w), (0, (w : Int)), (0, cE E w (bsP E w)), (0, 0)] [] m6 (qI K) := fun m6 L f6 S6 => path m6 (0, _) (by simp) (fun x k n1 n2 => by rw [f6 x k (by omega) (by omega)]; exact f4 x k (by omega)) (fun k => by rw [f6 _ _ (by decide) (by omega)]; exact f4 _ _ (by decide)) (f6.O (f4.O O3)) S6.2.2.1 S6.2.2.2
            refine c85 B.t B.p B.w (f4.T B.t c3) (f4.P B.p B3.cp) (f4.O O3) wE R4 (fun m6 f6 hn S6 => fin m6 [] f6 ?_) (fun m6 f6 hx S6 => fin m6 (wL E w (E 604 w).toNat (-1)) f6 ?_)
            · have hT : tkP E w = [] := by
                unfold tkP tkW wRs
                rw [if_neg (by omega), if_neg (show ¬ ocw E w < 1000000 from hn)]
                split <;> rfl
              rw [hT]
              exact S6
            · have h2 : cE E w (bsP E w) = -2 := by
                have hd : ¬ cE E w (bsP E w) = -3 := fun hd => cE_dark hP hd hx
                omega
              have hT : tkP E w = wR E w (E 604 w).toNat (-1) := by
                unfold tkP tkW wRs
                rw [if_neg (by omega), if_pos h2, if_pos (show ocw E w < 1000000 from hx)]
              rw [hT]
              exact S6
      refine words (E 597 23).toNat 0 m2 (9, 0) (9, 0) (by omega) (fun x k n1 n2 => by rw [f2 x k n2]; exact g1 x k n1 n2) (O1.fr fun x k x0 x1 => f2 x k (by omega)) fun r' r0 r1 => Z2 r' r0 (by omega)
    | succ n ih =>
      intro r m2 hr f2 Z2
      refine w120_18 _ _ _ _ ⟨fun _ => ⟨by omega, fun m5 e5 => ?_⟩, fun h => absurd (show (r : Int) < 24 by omega) h⟩
      rw [wrI (x := (r : Int) + 1) (by omega) (by omega)]
      refine ih (r + 1) m5 (by omega) (fun x k hn => by rw [e5, um_x hn]; exact f2 x k hn) fun i i0 i1 => ?_
      by_cases hx : i = r
      · rw [hx, e5, um_s]
      · rw [e5, um_k hx]
        exact Z2 i i0 (by omega)
  exact clear 24 0 m1 (by decide) (fun _ _ _ => rfl) fun i i0 i1 => by omega
def f254 (m m' : Mm) : Prop := ∀ x k, ¬ (x = 597 ∧ (k = 31 ∨ k = 33)) → ¬ (608 ≤ x ∧ x ≤ 619) → m' x k = m x k
theorem f254.g {m m' : Mm} (h : f254 m m') : gR m m' := fun x k n1 n2 => h x k (by omega) (by omega)
theorem f254.ag {E m m' : Mm} (h : f254 m m') (A : Ag E m) : Ag E m' := A.fr fun x k hp => by
  unfold per at hp
  exact h x k (by omega) (by omega)
theorem f254.h {E m m' : Mm} (h : f254 m m') (B : BS E m) : m' 597 40 = 0 := (h _ _ (by decide) (by decide)).trans B.h0
theorem c254' {E m : Mm} {K : Int → Mm → Prop} (T : InvT E) (Pg : InvP E) (W : InvW E) (A : Ag E m) (h40 : m 597 40 = 0)
    (kn : ∀ m', f254 m m' → ¬ totS E (canS E) < 1000000 → K (-2) m')
    (kk : ∀ m', f254 m m' → totS E (canS E) < 1000000 → (∀ r, 0 ≤ r → r < 24 → m' 619 r = tkC E (E 597 23).toNat r) → K (tkA E (E 597 23).toNat) m') : TrI 254 [(1, 597)] m K := by
  have P1 := Pg.1
  have T2 := T.2.1
  have tg := tot_ge T Pg W
  have cg := cvt_ge tg.1
  refine e254 ?_
  have clear : ∀ (n r : Nat) (m2 : Mm), r + n = 24 → (∀ x k, x ≠ 619 → m2 x k = m x k) → (∀ i : Int, 0 ≤ i → i < r → m2 619 i = 0) → X 254 2 [(1, 597), (0, (r : Int)), (9, 0), (9, 0)] [] m2 (qI K) := by
    intro n
    induction n with
    | zero =>
      intro r m2 hr f2 Z2
      have g2 : f254 m m2 := fun x k n1 n2 => f2 x k (by omega)
      have A2 := g2.ag A
      refine w254_2 _ _ _ ⟨fun h => absurd h (by omega), fun _ => ?_⟩
      refine c249 T Pg W A2 ((g2 _ _ (by decide) (by decide)).trans h40) fun m3 f3 C3 P3 => ⟨fun h => ?_, fun h => ?_⟩
      · exact kn m3 (fun x k n1 n2 => by rw [f3 x k (by omega)]; exact g2 x k n1 n2) (cg.1 h)
      · have ht := (cg.2 h).1
        have g3 : f254 m m3 := fun x k n1 n2 => by rw [f3 x k (by omega)]; exact g2 x k n1 n2
        have words : ∀ (n w : Nat) (m4 : Mm) (v3 : aV), (w : Int) + n = E 597 23 → f254 m m4 → (∀ x k, 613 ≤ x → x ≤ 618 → m4 x k = m3 x k) → (∀ r, 0 ≤ r → r < 24 → m4 619 r = tkC E w r) → X 254 35 [(1, 597), (0, tkA E w), (0, (w : Int)), v3] [] m4 (qI K) := by
          intro n
          induction n with
          | zero =>
            intro w m4 v3 hw f4 _ C4
            have A4 := f4.ag A
            refine w254_35 _ _ v3 ⟨fun h => absurd h (by rw [A4.n]; omega), fun _ => ?_⟩
            have hwN : w = (E 597 23).toNat := by omega
            rw [hwN] at C4 ⊢
            exact kk m4 f4 ht C4
          | succ n ih =>
            intro w m4 v3 hw f4 k4 C4
            have A4 := f4.ag A
            have wE : 0 ≤ (w : Int) ∧ (w : Int) < E 597 23 := by omega
            have hP := bsP_rng T (w := w)
            have n2 := (chs_len T (w := w)).2
            have n24 : (cN E w : Int) ≤ 24 := by unfold cN; omega
            have e5 : m4 618 w = bsP E w := by rw [k4 _ _ (by decide) (by decide)]; exact P3 ht w wE.2
            have q1 : wr (wr (24 * (w : Int)) + bsP E w) = 24 * (w : Int) + bsP E w := by
              rw [wrI (x := 24 * (w : Int)) (by omega) (by omega), wrI (by omega) (by omega)]
            have Cw : ChM m4 w (chs E w) := (C3.fr fun x k x0 x1 => k4 x k x0 (by clear q1; omega)) w wE.1 wE.2
            have hl10 : (tkP E w).length ≤ 10 := tkW_len T Pg wE
            have kr := tkC_rng T Pg
            refine w254_35 _ _ v3 ⟨fun _ => ⟨by clear q1; omega, ?_⟩, fun h => absurd (show (w : Int) < m4 597 23 by rw [A4.n]; exact wE.2) h⟩
            rw [e5, q1, (Cw.at hP).1]
            clear q1
            refine ⟨by omega, c239 T Pg W A4 wE hP fun m5 f5 S5 => ?_⟩
            have hT : tkW E w (cE E w (bsP E w)) = tkP E w := rfl
            rw [hT] at S5
            have rng : ∀ x ∈ tkP E w, 0 ≤ x ∧ x < E 602 578 := tkW_rng T Pg wE
            have steps : ∀ (n i : Nat) (m6 : Mm), i + n = (tkP E w).length → (∀ x k, x ≠ 619 → m6 x k = m5 x k) → (∀ r, 0 ≤ r → r < 24 → m6 619 r = tkC E w r + (((tkP E w).take i).count r : Nat)) → X 254 55 [(1, 597), (0, tkA E w), (0, (w : Int)), (0, (i : Int))] [] m6 (qI K) := by
              intro n
              induction n with
              | zero =>
                intro i m6 hi f6 C6
                have il : i = (tkP E w).length := by omega
                refine w254_55 _ _ _ ⟨fun h => absurd h (by rw [f6 _ _ (by decide), S5.2.2.1]; omega), fun _ => ?_⟩
                have k0 := kr 0 w (by omega)
                rw [f6 _ _ (by decide), S5.2.2.1, wrI (x := tkA E w + _) (by omega) (by omega), wrI (x := (w : Int) + 1) (by omega) (by omega)]
                refine ih (w + 1) m6 _ (by omega) (fun x k n1 n2 => ?_) (fun x k x0 x1 => ?_) fun r r0 r1 => ?_
                · rw [f6 x k (by omega), f5 x k (by omega) n1]
                  exact f4 x k n1 n2
                · rw [f6 x k (by omega), f5 x k (by omega) (by omega)]
                  exact k4 x k x0 x1
                · rw [C6 r r0 r1, il, List.take_length]
                  rfl
              | succ n ihn =>
                intro i m6 hi f6 C6
                have il : i < (tkP E w).length := by omega
                have hr := rng _ (List.getElem_mem il)
                have e7 : m6 611 i = (tkP E w)[i] := by
                  rw [f6 _ _ (by decide), S5.2.2.2 i il]
                  omega
                have kc := kr ((tkP E w)[i]) w (by omega)
                have cl : ((tkP E w).take i).count ((tkP E w)[i]) ≤ ((tkP E w).take i).length := List.count_le_length
                have tl : ((tkP E w).take i).length = i := by rw [List.length_take]; omega
                refine w254_55 _ _ _ ⟨fun _ => ⟨by omega, by rw [e7]; omega, fun m7 e => ?_⟩, fun h => absurd (show (i : Int) < m6 597 33 by rw [f6 _ _ (by decide), S5.2.2.1]; omega) h⟩
                rw [e7, C6 _ hr.1 (by omega), wrI (by omega) (by omega)] at e
                rw [wrI (x := (i : Int) + 1) (by omega) (by omega)]
                refine ihn (i + 1) m7 (by omega) (fun x k hn => by rw [e, um_x hn]; exact f6 x k hn) fun r r0 r1 => ?_
                rw [count_take il, e]
                by_cases hx : r = (tkP E w)[i]
                · rw [hx, um_s, if_pos rfl]
                  omega
                · rw [um_k hx, if_neg (fun h => hx h.symm), C6 r r0 r1]
                  omega
            refine steps (tkP E w).length 0 m5 (Nat.zero_add _) (fun _ _ _ => rfl) fun r r0 r1 => ?_
            rw [f5 _ _ (by decide) (by omega), C4 r r0 r1, List.take_zero]
            simp
        refine words (E 597 23).toNat 0 m3 (9, 0) (by omega) g3 (fun _ _ _ _ => rfl) fun r' r0 r1 => ?_
        rw [f3 _ _ (by decide)]
        exact Z2 r' r0 (by omega)
    | succ n ih =>
      intro r m2 hr f2 Z2
      refine w254_2 _ _ _ ⟨fun _ => ⟨by omega, fun m5 e5 => ?_⟩, fun h => absurd (show (r : Int) < 24 by omega) h⟩
      rw [wrI (x := (r : Int) + 1) (by omega) (by omega)]
      refine ih (r + 1) m5 (by omega) (fun x k hn => by rw [e5, um_x hn]; exact f2 x k hn) fun i i0 i1 => ?_
      by_cases hx : i = r
      · rw [hx, e5, um_s]
      · rw [e5, um_k hx]
        exact Z2 i i0 (by omega)
  exact clear 24 0 m (by decide) (fun _ _ _ => rfl) fun i i0 i1 => by omega
theorem c254 {E m : Mm} {K : Int → Mm → Prop} (B : BS E m)
    (kn : ∀ m', f254 m m' → ¬ totS E (canS E) < 1000000 → K (-2) m')
    (kk : ∀ m', f254 m m' → totS E (canS E) < 1000000 → (∀ r, 0 ≤ r → r < 24 → m' 619 r = tkC E (E 597 23).toNat r) → K (tkA E (E 597 23).toNat) m') : TrI 254 [(1, 597)] m K := c254' B.t B.p B.w B.a B.h0 kn kk
/-- takes -/
def s_tak (E : Mm) (r : Int) : Int := if 0 ≤ r ∧ r < E 602 578 then (if totS E (canS E) < 1000000 then tkC E (E 597 23).toNat r else -2) else -1
theorem k119 {E m : Mm} {r : Int} (B : BS E m) (R : RS E m) (K : Int → Mm → Prop) (kk : ∀ m', fR m m' → BS E m' → RS E m' → K (s_tak E r) m') : TrI 119 [(1, 1), (0, r)] m K := by
  have T2 := B.t.2.1
  refine e119 _ ⟨B.sT, ?_⟩
  rw [B.rn]
  unfold s_tak at kk
  refine ⟨fun h => c76 B R fun m5 f5 B5 z5 r5 a5 => ?_, fun h => ?_⟩
  · rw [if_pos h] at kk
    rw [r5.2.2.2.2.1]
    refine ⟨fun h2 => ?_, fun h2 => ?_⟩
    · rw [if_pos h2] at kk
      refine c120 B5 r5 fun m7 f7 C7 => ⟨by omega, ?_⟩
      rw [C7 r h.1 (by omega)]
      exact kk m7 (f5.tr f7.r) (B5.fQ f7.r) ⟨fun _ => f7.s B.p r5, a5.fr fun k => f7 _ _ (by decide) (by decide)⟩
    · rw [if_neg h2] at kk
      exact kk m5 f5 B5 ⟨fun _ => r5, a5⟩
  · rw [if_neg h] at kk
    exact kk m fR.refl B R
theorem r253 {E : Mm} {r : Int} (m : Mm) (B : BS E m) (K : Int → Mm → Prop) (kk : ∀ m', gR m m' → m' 597 40 = 0 → K (s_tak E r) m') : TrI 253 [(1, 597), (0, r)] m K := by
  have T2 := B.t.2.1
  have P1 := B.p.1
  refine e253 _ fun m1 e1 => ?_
  obtain ⟨f1, B1⟩ := B.th e1
  rw [B1.a.b.trans B.t.1, B1.a.r, in_w (by omega)]
  unfold s_tak at kk
  refine ⟨rfl, fun h => c254 B1 (fun m7 f7 ht => ⟨fun _ => ?_, fun h2 => absurd (by decide) h2⟩) (fun m7 f7 ht C7 => ⟨fun h2 => absurd h2 ?_, fun _ => ⟨by omega, ?_⟩⟩), fun h => ?_⟩
  · rw [if_pos h, if_neg ht] at kk
    exact kk m7 (f1.tr f7.g) (f7.h B1)
  · have := (tkC_rng B.t B.p 0 (E 597 23).toNat (by omega)).2
    omega
  · rw [if_pos h, if_pos ht] at kk
    rw [C7 r h.1 (by omega)]
    exact kk m7 (f1.tr f7.g) (f7.h B1)
  · rw [if_neg h] at kk
    exact kk m1 f1 B1.h0
