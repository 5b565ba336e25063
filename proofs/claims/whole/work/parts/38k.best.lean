/-! the class: choose(102): what BEST is -/
def fP (q : Int) (m m' : Mm) : Prop := ∀ x k, ¬ (q ≤ x ∧ x < q + 35) → m' x k = m x k
theorem ChC.fr {m m' : Mm} {c w : Int} {l : List (Int × Int)} (h : ChC m c w l) (h1 : m' (c + 27) w = m (c + 27) w) (h2 : ∀ k, m' (c + 29 + w) k = m (c + 29 + w) k) (h3 : ∀ k, m' (c + 40 + w) k = m (c + 40 + w) k) : ChC m' c w l := by
  refine ⟨by rw [h1]; exact h.1, fun i hi => ?_⟩
  rw [h2, h3]
  exact h.2 i hi
theorem CAC.fr {E m m' : Mm} {c : Int} (Pg : InvP E) (h : CAC E m c) (hf : ∀ x k, c ≤ x → x < c + 50 → m' x k = m x k) : CAC E m' c := by
  have P1 := Pg.1
  exact ⟨by rw [hf _ _ (by omega) (by omega)]; exact h.1, fun w w0 w1 => (h.2 w w0 w1).fr (hf _ _ (by omega) (by omega)) (fun k => hf _ _ (by omega) (by omega)) (fun k => hf _ _ (by omega) (by omega))⟩
theorem BkC.fr {E m m' : Mm} {q : Int} {C : Int → Int → Bool} {d : Nat} (h : BkC E m q C d) (h1 : ∀ k, m' (q + 14 + (E 597 23 - 1 - d)) k = m (q + 14 + (E 597 23 - 1 - d)) k) (h2 : ∀ k, m' (q + 25 + (E 597 23 - 1 - d)) k = m (q + 25 + (E 597 23 - 1 - d)) k) : BkC E m' q C d := fun j j0 j1 => by
  rw [h1, h2]
  exact h j j0 j1
/-- the place of a word in BEST, by what is left of the cost and by the entry ahead -/
def plX (E : Mm) (w l a : Int) : Int := max 0 (fstN (cN E w) fun k => decide (bt E a (cE E w k) + bkS E (canS E) (E 597 23 - 1 - w).toNat k = l))
def bsX (E : Mm) : Nat → Int × Int
  | 0 => (totS E (canS E), -2)
  | w + 1 => (bkS E (canS E) (E 597 23 - 1 - (w : Int)).toNat (plX E w (bsX E w).1 (bsX E w).2) - cC E w (plX E w (bsX E w).1 (bsX E w).2), cE E w (plX E w (bsX E w).1 (bsX E w).2))
def bsP (E : Mm) (w : Nat) : Int := plX E w (bsX E w).1 (bsX E w).2
theorem plX_rng {E : Mm} (T : InvT E) {w l a : Int} : 0 ≤ plX E w l a ∧ plX E w l a < cN E w := by
  have h1 := fstN_rng (n := cN E w) (f := fun k => decide (bt E a (cE E w k) + bkS E (canS E) (E 597 23 - 1 - w).toNat k = l))
  have h2 := (chs_len T (w := w)).1
  have h3 : (1 : Int) ≤ cN E w := by unfold cN; omega
  unfold plX
  omega
theorem bsX_lt {E : Mm} (T : InvT E) (Pg : InvP E) (W : InvW E) (w : Nat) (hw : (w : Int) ≤ E 597 23) : (bsX E w).2 < E 602 579 := by
  cases w with
  | zero =>
    have := T.2.2.1
    show (-2 : Int) < _
    omega
  | succ w => exact (cE_in T Pg W (w := w) (by omega) (plX_rng T)).2.1
theorem c102 {E m : Mm} {K : Mm → Prop} {t c q : Int} (T : InvT E) (Pg : InvP E) (W : InvW E) (Tt : CT E m t) (hc : c = 411 ∨ c = 461) (hq : q = 511 ∨ q = 546) (Ca : CAC E m c) (R : ∀ d : Nat, (d + 1 : Nat) ≤ E 597 23 → BkC E m q (canS E) d) (h1 : m q 1 = totS E (canS E))
    (kk : ∀ m', (∀ x k, x ≠ q + 1 → m' x k = m x k) → (∀ w : Nat, (w : Int) < E 597 23 → m' (q + 1) w = bsP E w) → K m') : TrV 102 [(1, q), (1, t), (1, c)] m K := by
  have P1 := Pg.1
  have sq := q_shp hq
  have sc := c_shp hc
  refine e102 _ _ _ sq Tt.shp sc ?_
  rw [h1]
  have tq : ¬ (6 ≤ q + 1 ∧ q + 1 < 210) := by omega
  have outer : ∀ (n w : Nat) (m1 : Mm) (v6 : aV), (w : Int) + n = E 597 23 → (∀ x k, x ≠ q + 1 → m1 x k = m x k) → (∀ v : Nat, v < w → m1 (q + 1) v = bsP E v) → X 102 12 [(1, q), (1, t), (1, c), (0, (bsX E w).1), (0, (bsX E w).2), (0, (w : Int)), v6] [] m1 (qV K) := by
    intro n
    induction n with
    | zero =>
      intro w m1 v6 hw f B
      refine w102_12 _ _ _ _ _ _ v6 sq Tt.shp sc ⟨fun h => absurd h ?_, fun _ => kk m1 f fun v hv => B v (by omega)⟩
      rw [f _ _ (by omega), Ca.1]
      omega
    | succ n ih =>
      intro w m1 v6 hw f B
      have w10 : 0 ≤ (w : Int) ∧ (w : Int) < 10 := by omega
      have wE : 0 ≤ (w : Int) ∧ (w : Int) < E 597 23 := by omega
      have n2 := (chs_len T (w := w)).2
      have n24 : (cN E w : Int) ≤ 24 := by unfold cN; omega
      have hN : ((chs E w).length : Int) = cN E w := rfl
      have alt := bsX_lt T Pg W w (by omega)
      have hx : bsX E (w + 1) = (bkS E (canS E) (E 597 23 - 1 - (w : Int)).toNat (plX E w (bsX E w).1 (bsX E w).2) - cC E w (plX E w (bsX E w).1 (bsX E w).2), cE E w (plX E w (bsX E w).1 (bsX E w).2)) := rfl
      have hP : bsP E w = plX E w (bsX E w).1 (bsX E w).2 := rfl
      have hpr := plX_rng T (w := w) (l := (bsX E w).1) (a := (bsX E w).2)
      obtain ⟨d, hd⟩ : ∃ d : Nat, d = (E 597 23 - 1 - (w : Int)).toNat := ⟨_, rfl⟩
      have hdw : E 597 23 - 1 - (d : Int) = w := by omega
      have Rd := R d (by omega)
      unfold BkC at Rd
      rw [hdw] at Rd
      have Cw := Ca.2 w wE.1 wE.2
      refine w102_12 _ _ _ _ _ _ v6 sq Tt.shp sc ⟨fun _ => ⟨w10, fun m5 e5 => ?_⟩, fun h => absurd (show (w : Int) < m1 c 9 by rw [f _ _ (by omega), Ca.1]; exact wE.2) h⟩
      have f5 : ∀ x k, x ≠ q + 1 → m5 x k = m x k := fun x k hn => by rw [e5, um_x hn]; exact f x k hn
      have B5 : ∀ v : Nat, v < w → m5 (q + 1) v = bsP E v := fun v hv => by rw [e5, um_k (by omega)]; exact B v hv
      have z5 : m5 (q + 1) w = 0 := by rw [e5, um_s]
      have cn5 : m5 (c + 27) w = cN E w := by rw [f5 _ _ (by omega), Cw.1, hN]
      rw [cn5, wrI (x := (cN E w : Int) - 1) (by omega) (by omega)]
      obtain ⟨g, hg⟩ : ∃ g : Int → Bool, g = fun k => decide (bt E (bsX E w).2 (cE E w k) + bkS E (canS E) (E 597 23 - 1 - (w : Int)).toNat k = (bsX E w).1) := ⟨_, rfl⟩
      have hpl : plX E w (bsX E w).1 (bsX E w).2 = max 0 (fstN (cN E w) g) := by rw [hg]; rfl
      have inner : ∀ (j : Nat) (m2 : Mm), j ≤ cN E w → (∀ x k, x ≠ q + 1 → m2 x k = m x k) → (∀ v : Nat, v < w → m2 (q + 1) v = bsP E v) →
          (((∀ p : Int, (j : Int) ≤ p → p < cN E w → g p = false) ∧ m2 (q + 1) w = 0) ∨ ((j : Int) ≤ m2 (q + 1) w ∧ m2 (q + 1) w < cN E w ∧ g (m2 (q + 1) w) = true ∧ ∀ p : Int, (j : Int) ≤ p → p < m2 (q + 1) w → g p = false)) →
          X 102 40 [(1, q), (1, t), (1, c), (0, (bsX E w).1), (0, (bsX E w).2), (0, (w : Int)), (0, (j : Int) - 1)] [] m2 (qV K) := by
        intro j
        induction j with
        | zero =>
          intro m2 hj f2 B2 I2
          have T2 : CT E m2 t := Tt.fr T fun x k x0 x1 => f2 x k (by omega)
          have hp : m2 (q + 1) w = plX E w (bsX E w).1 (bsX E w).2 := by
            rw [hpl]
            rcases I2 with ⟨i1, i2⟩ | ⟨i1, i2, i3, i4⟩
            · rw [fstN_no fun i i0 i1' => i1 i i0 i1', i2]
              rfl
            · rw [fstN_is (p := m2 (q + 1) w) (by omega) i2 i3 fun i i0 i1' => i4 i i0 i1']
              omega
          refine w102_40 _ _ _ _ _ _ _ sq Tt.shp sc ⟨fun _ => ?_, fun h => absurd (show ((0 : Nat) : Int) - 1 < 0 by decide) h⟩
          rw [hp]
          obtain ⟨p, hpp⟩ : ∃ p, p = plX E w (bsX E w).1 (bsX E w).2 := ⟨_, rfl⟩
          rw [← hpp] at hpr ⊢
          have v14 : m2 (q + 14 + w) p = bkS E (canS E) d p := by rw [f2 _ _ (by omega)]; exact (Rd p hpr.1 hpr.2).1
          have v29 : m2 (c + 29 + w) p = cE E w p := by rw [f2 _ _ (by omega)]; exact (Cw.at hpr).1
          have v40 : m2 (c + 40 + w) p = cC E w p := by rw [f2 _ _ (by omega)]; exact (Cw.at hpr).2
          have rb := (bk_rng (C := canS E) T Pg W d p (by omega) (by rw [hdw]; exact hpr)).1
          have rc := (cE_in T Pg W wE hpr).2.2
          rw [v14, v29, v40]
          refine ⟨w10, ⟨hpr.1, by omega⟩, ?_⟩
          have := ih (w + 1) m2 (0, ((0 : Nat) : Int) - 1) (by omega) f2 fun v hv => by
            by_cases hvw : v = w
            · rw [hvw, hP]
              exact hp
            · exact B2 v (by omega)
          rw [hx, ← hpp, ← hd] at this
          rw [wrI (x := bkS E (canS E) d p - cC E w p) (by omega) (by omega), wrI (x := (w : Int) + 1) (by omega) (by omega)]
          exact this
        | succ j ihj =>
          intro m2 hj f2 B2 I2
          have T2 : CT E m2 t := Tt.fr T fun x k x0 x1 => f2 x k (by omega)
          have jE : 0 ≤ (j : Int) ∧ (j : Int) < cN E w := by omega
          have v14 : m2 (q + 14 + w) j = bkS E (canS E) d j := by rw [f2 _ _ (by omega)]; exact (Rd j jE.1 jE.2).1
          have v29 : m2 (c + 29 + w) j = cE E w j := by rw [f2 _ _ (by omega)]; exact (Cw.at jE).1
          have rb := (bk_rng (C := canS E) T Pg W d j (by omega) (by rw [hdw]; exact jE)).1
          have rc := cE_in T Pg W wE jE
          have bb := (bt_rng T alt rc.2.1).1
          have gj : g j = decide (bt E (bsX E w).2 (cE E w j) + bkS E (canS E) d j = (bsX E w).1) := by rw [hg, hd]
          refine w102_40 _ _ _ _ _ _ _ sq Tt.shp sc ⟨fun h => absurd h (by omega), fun _ => ?_⟩
          rw [show ((j + 1 : Nat) : Int) - 1 = j by omega, v29, v14, jn_bt T T2 alt rc.2.1, wrI (x := bt E _ _ + _) (by omega) (by omega), wrI (x := (j : Int) + -1) (by omega) (by omega), show (j : Int) + -1 = j - 1 by omega]
          refine ⟨w10, ⟨jE.1, by omega⟩, v_T_of T T2, fun h m15 e15 => ?_, fun h => ?_⟩
          · refine ihj m15 (by omega) (fun x k hn => by rw [e15, um_x hn]; exact f2 x k hn) (fun v hv => by rw [e15, um_k (by omega)]; exact B2 v hv) (Or.inr ?_)
            rw [e15, um_s]
            exact ⟨Int.le_refl _, jE.2, by rw [gj]; exact decide_eq_true h, fun p p0 p1 => by omega⟩
          · have gf : g j = false := by rw [gj]; exact decide_eq_false h
            refine ihj m2 (by omega) f2 B2 ?_
            rcases I2 with ⟨i1, i2⟩ | ⟨i1, i2, i3, i4⟩
            · refine Or.inl ⟨fun p p0 p1 => ?_, i2⟩
              by_cases hpj : p = j
              · rw [hpj]; exact gf
              · exact i1 p (by omega) p1
            · refine Or.inr ⟨by omega, i2, i3, fun p p0 p1 => ?_⟩
              by_cases hpj : p = j
              · rw [hpj]; exact gf
              · exact i4 p (by omega) p1
      exact inner (cN E w) m5 (Nat.le_refl _) f5 B5 (Or.inl ⟨fun p p0 p1 => by omega, z5⟩)
  exact outer (E 597 23).toNat 0 m (9, 0) (by omega) (fun _ _ _ => rfl) fun v hv => absurd hv (by omega)
/-! fill(96) -/
theorem c96 {E m : Mm} {K : Mm → Prop} {t c q : Int} (T : InvT E) (Pg : InvP E) (W : InvW E) (Tt : CT E m t) (hc : c = 411 ∨ c = 461) (hq : q = 511 ∨ q = 546) (Ca : CAC E m c) (Fx : ∀ w, 0 ≤ w → w < E 597 23 → m 283 w = fxE E w)
    (kk : ∀ m', fP q m m' → (∀ d : Nat, (d + 1 : Nat) ≤ E 597 23 → BkC E m' q (canS E) d) → (∀ w : Nat, (w : Int) < E 597 23 → FwC E m' q (canS E) w) → m' q 1 = totS E (canS E) → m' q 2 = tcS E (canS E) → (∀ w : Nat, (w : Int) < E 597 23 → m' (q + 1) w = bsP E w) → K m') : TrV 96 [(1, q), (1, t), (1, c), (1, 283)] m K := by
  have P1 := Pg.1
  have sq := q_shp hq
  have sc := c_shp hc
  have s283 : ∀ w : Int, 0 ≤ w ∧ w < 10 → shp 283 = 0 ∧ slot 283 w = some none := fun w hw => by
    have h : ∀ w : Nat, w < 10 → slot 283 (w : Int) = some none := by decide +kernel
    obtain ⟨a, rfl⟩ := Int.eq_ofNat_of_zero_le hw.1
    exact ⟨by decide +kernel, h a (by omega)⟩
  have fC : ∀ m1, fP q m m1 → CAC E m1 c := fun m1 f => Ca.fr Pg fun x k x0 x1 => f x k (by omega)
  have fT : ∀ m1, fP q m m1 → CT E m1 t := fun m1 f => Tt.fr T fun x k x0 x1 => f x k (by omega)
  refine e96 _ _ _ _ sq Tt.shp sc ?_
  rw [Ca.1, wrI (x := E 597 23 - 1) (by omega) (by omega)]
  have fwd : ∀ (n w : Nat) (m1 : Mm) (v5 v6 : aV), (w : Int) + n = E 597 23 → fP q m m1 → (∀ d : Nat, (d + 1 : Nat) ≤ E 597 23 → BkC E m1 q (canS E) d) → (∀ v : Nat, v < w → FwC E m1 q (canS E) v) → X 96 82 [(1, q), (1, t), (1, c), (1, 283), (0, (w : Int)), v5, v6] [] m1 (qV K) := by
    intro n
    induction n with
    | zero =>
      intro w m1 v5 v6 hw f B F
      have C1 := fC m1 f
      refine w96_82 _ _ _ _ _ v5 v6 sq Tt.shp sc ⟨fun h => absurd h (by rw [C1.1]; omega), fun _ => ?_⟩
      refine c101 T Pg hc hq C1 B fun m3 f3 x1 x2 => ?_
      have f3' : fP q m m3 := fun x k hn => by rw [f3 x k (by omega)]; exact f x k hn
      refine c102 T Pg W (fT m3 f3') hc hq (fC m3 f3') (fun d hd => (B d hd).fr (fun k => f3 _ _ (by omega)) (fun k => f3 _ _ (by omega))) x1 fun m5 f5 B5 => ?_
      refine kk m5 (fun x k hn => by rw [f5 x k (by omega)]; exact f3' x k hn) (fun d hd => ((B d hd).fr (fun k => f3 _ _ (by omega)) (fun k => f3 _ _ (by omega))).fr (fun k => f5 _ _ (by omega)) (fun k => f5 _ _ (by omega))) (fun v hv j j0 j1 => ?_) ?_ ?_ B5
      · rw [f5 _ _ (by omega), f3 _ _ (by omega)]
        exact F v (by omega) j j0 j1
      · rw [f5 _ _ (by omega)]; exact x1
      · rw [f5 _ _ (by omega)]; exact x2
    | succ n ih =>
      intro w m1 v5 v6 hw f B F
      have C1 := fC m1 f
      have w10 : 0 ≤ (w : Int) ∧ (w : Int) < 10 := by omega
      have wE : 0 ≤ (w : Int) ∧ (w : Int) < E 597 23 := by omega
      have n2 := (chs_len T (w := w)).2
      have n24 : (cN E w : Int) ≤ 24 := by unfold cN; omega
      have hN : ((chs E w).length : Int) = cN E w := rfl
      have qw : Unit → wr ((w : Int) + 1) = ((w + 1 : Nat) : Int) := fun _ => wrI (by omega) (by omega)
      refine w96_82 _ _ _ _ _ v5 v6 sq Tt.shp sc ⟨fun _ => ⟨by decide, s283 _ w10, ⟨sc, w10, by rw [(C1.2 w wE.1 wE.2).1, hN]; exact n24⟩, ?_⟩, fun h => absurd (show (w : Int) < m1 c 9 by rw [C1.1]; exact wE.2) h⟩
      rw [show m1 283 w = fxE E w by rw [f _ _ (by omega)]; exact Fx w wE.1 wE.2]
      have cp : ∀ i : Int, 0 ≤ i ∧ i < cN E w → (canS E w i = true ↔ (plC m1 c w (fxE E w) < 0 ∨ plC m1 c w (fxE E w) = i)) := fun i hi => canS_pl T Pg W wE (C1.2 w wE.1 wE.2) hi
      generalize plC m1 c w (fxE E w) = pl at cp ⊢
      have inner : ∀ (l j : Nat) (m2 : Mm), j + l = cN E w → fP q m m2 → (∀ d : Nat, (d + 1 : Nat) ≤ E 597 23 → BkC E m2 q (canS E) d) → (∀ v : Nat, v < w → FwC E m2 q (canS E) v) → (∀ i : Int, 0 ≤ i → i < (j : Int) → m2 (q + 3 + w) i = fwS E (canS E) w i) → X 96 106 [(1, q), (1, t), (1, c), (1, 283), (0, (w : Int)), (0, pl), (0, (j : Int))] [] m2 (qV K) := by
        intro l
        induction l with
        | zero =>
          intro j m2 hj f2 B2 F2 I2
          have C2 := fC m2 f2
          refine w96_106 _ _ _ _ _ _ _ sq Tt.shp sc ⟨w10, fun h => absurd h (by rw [(C2.2 w wE.1 wE.2).1, hN]; omega), fun _ => ?_⟩
          rw [qw ()]
          refine ih (w + 1) m2 _ _ (by omega) f2 B2 fun v hv => ?_
          by_cases hvw : v = w
          · rw [hvw]
            exact fun i i0 i1 => I2 i i0 (by omega)
          · exact F2 v (by omega)
        | succ l ihl =>
          intro j m2 hj f2 B2 F2 I2
          have C2 := fC m2 f2
          have jE : 0 ≤ (j : Int) ∧ (j : Int) < cN E w := by omega
          have go : ∀ b : Bool, b = canS E w j → TrV 100 [(1, q), (1, t), (1, c), (0, (w : Int)), (0, (j : Int)), (0, if b = true then 1 else 0)] m2 fun m7 => X 96 106 [(1, q), (1, t), (1, c), (1, 283), (0, (w : Int)), (0, pl), (0, wr ((j : Int) + 1))] [] m7 (qV K) := by
            intro b hb
            refine c100 T Pg W (fT m2 f2) hc hq C2 wE.2 jE hb (fun w' hw' => F2 w' (by omega)) fun m7 e7 => ?_
            rw [wrI (x := (j : Int) + 1) (by omega) (by omega)]
            refine ihl (j + 1) m7 (by omega) (fun x k hn => ?_) (fun d hd => (B2 d hd).fr (fun k => ?_) (fun k => ?_)) (fun v hv i i0 i1 => ?_) fun i i0 i1 => ?_
            · rw [e7, um_n (by omega)]
              exact f2 x k hn
            · rw [e7, um_x (by omega)]
            · rw [e7, um_x (by omega)]
            · rw [e7, um_x (by omega)]
              exact F2 v hv i i0 i1
            · by_cases hij : i = j
              · rw [hij, e7, um_s]
              · rw [e7, um_k hij]
                exact I2 i i0 (by omega)
          refine w96_106 _ _ _ _ _ _ _ sq Tt.shp sc ⟨w10, fun _ => ⟨fun h => go true ((cp j jE).mpr (Or.inl h)).symm, fun h => ⟨fun h2 => go true ((cp j jE).mpr (Or.inr h2)).symm, fun h2 => go false ?_⟩⟩, fun h => absurd (show (j : Int) < m2 (c + 27) w by rw [(C2.2 w wE.1 wE.2).1, hN]; exact jE.2) h⟩
          exact ((Bool.not_eq_true _).mp fun hcn => ((cp j jE).mp hcn).elim h h2).symm
      exact inner (cN E w) 0 m1 (Nat.zero_add _) f B F fun i i0 i1 => by omega
  have back : ∀ (n d : Nat) (m1 : Mm) (v5 v6 : aV), (d : Int) + n = E 597 23 → fP q m m1 → (∀ d' : Nat, d' < d → BkC E m1 q (canS E) d') → X 96 8 [(1, q), (1, t), (1, c), (1, 283), (0, E 597 23 - 1 - d), v5, v6] [] m1 (qV K) := by
    intro n
    induction n with
    | zero =>
      intro d m1 v5 v6 hd f B
      refine w96_8 _ _ _ _ _ v5 v6 sq Tt.shp sc ⟨fun _ => fwd (E 597 23).toNat 0 m1 v5 v6 (by omega) f (fun d' hd' => B d' (by omega)) fun v hv => absurd hv (by omega), fun h => absurd (show E 597 23 - 1 - (d : Int) < 0 by omega) h⟩
    | succ n ih =>
      intro d m1 v5 v6 hd f B
      have C1 := fC m1 f
      obtain ⟨w, hw⟩ : ∃ w, w = E 597 23 - 1 - (d : Int) := ⟨_, rfl⟩
      have w10 : 0 ≤ w ∧ w < 10 := by omega
      have wE : 0 ≤ w ∧ w < E 597 23 := by omega
      have n2 := (chs_len T (w := w)).2
      have n24 : (cN E w : Int) ≤ 24 := by unfold cN; omega
      have hN : ((chs E w).length : Int) = cN E w := rfl
      rw [← hw]
      refine w96_8 _ _ _ _ _ v5 v6 sq Tt.shp sc ⟨fun h => absurd h (by omega), fun _ => ⟨by decide, s283 _ w10, ⟨sc, w10, by rw [(C1.2 w wE.1 wE.2).1, hN]; exact n24⟩, ?_⟩⟩
      rw [show m1 283 w = fxE E w by rw [f _ _ (by omega)]; exact Fx w wE.1 wE.2]
      have cp : ∀ i : Int, 0 ≤ i ∧ i < cN E w → (canS E w i = true ↔ (plC m1 c w (fxE E w) < 0 ∨ plC m1 c w (fxE E w) = i)) := fun i hi => canS_pl T Pg W wE (C1.2 w wE.1 wE.2) hi
      generalize plC m1 c w (fxE E w) = pl at cp ⊢
      have inner : ∀ (l j : Nat) (m2 : Mm), j + l = cN E w → fP q m m2 → (∀ d' : Nat, d' < d → BkC E m2 q (canS E) d') → (∀ i : Int, 0 ≤ i → i < (j : Int) → m2 (q + 14 + w) i = bkS E (canS E) d i ∧ m2 (q + 25 + w) i = ctS E (canS E) d i) → X 96 28 [(1, q), (1, t), (1, c), (1, 283), (0, w), (0, pl), (0, (j : Int))] [] m2 (qV K) := by
        intro l
        induction l with
        | zero =>
          intro j m2 hj f2 B2 I2
          have C2 := fC m2 f2
          refine w96_28 _ _ _ _ _ _ _ sq Tt.shp sc ⟨w10, fun h => absurd h (by rw [(C2.2 w wE.1 wE.2).1, hN]; omega), fun _ => ?_⟩
          rw [wrI (x := w + -1) (by omega) (by omega), show w + -1 = E 597 23 - 1 - ((d + 1 : Nat) : Int) by omega]
          refine ih (d + 1) m2 _ _ (by omega) f2 fun d' hd' => ?_
          by_cases hdd : d' = d
          · rw [hdd]
            intro i i0 i1
            rw [← hw] at i1 ⊢
            exact I2 i i0 (by omega)
          · exact B2 d' (by omega)
        | succ l ihl =>
          intro j m2 hj f2 B2 I2
          have C2 := fC m2 f2
          have jE : 0 ≤ (j : Int) ∧ (j : Int) < cN E w := by omega
          have go : ∀ b : Bool, b = canS E w j → TrV 98 [(1, q), (1, t), (1, c), (0, w), (0, (j : Int)), (0, if b = true then 1 else 0)] m2 fun m7 => X 96 28 [(1, q), (1, t), (1, c), (1, 283), (0, w), (0, pl), (0, wr ((j : Int) + 1))] [] m7 (qV K) := by
            intro b hb
            have := c98 (K := fun m7 => X 96 28 [(1, q), (1, t), (1, c), (1, 283), (0, w), (0, pl), (0, wr ((j : Int) + 1))] [] m7 (qV K)) (i := j) (b := b) T Pg W (fT m2 f2) hc hq C2 (show ((d + 1 : Nat) : Int) ≤ E 597 23 by omega) (by rw [← hw]; exact jE) (by rw [← hw]; exact hb) (fun d' hd' => B2 d' (by omega)) fun m7 e7 => by
              rw [← hw] at e7
              rw [wrI (x := (j : Int) + 1) (by omega) (by omega)]
              refine ihl (j + 1) m7 (by omega) (fun x k hn => ?_) (fun d' hd' => (B2 d' hd').fr (fun k => ?_) (fun k => ?_)) fun i i0 i1 => ?_
              · rw [e7, um_n (by omega), um_n (by omega)]
                exact f2 x k hn
              · rw [e7, um_x (by omega), um_x (by omega)]
              · rw [e7, um_x (by omega), um_x (by omega)]
              · by_cases hij : i = j
                · rw [hij, e7, um_x (by omega), um_s, um_s]
                  exact ⟨rfl, rfl⟩
                · rw [e7, um_x (by omega), um_k hij, um_k hij, um_x (by omega)]
                  exact I2 i i0 (by omega)
            rw [← hw] at this
            exact this
          refine w96_28 _ _ _ _ _ _ _ sq Tt.shp sc ⟨w10, fun _ => ⟨fun h => go true ((cp j jE).mpr (Or.inl h)).symm, fun h => ⟨fun h2 => go true ((cp j jE).mpr (Or.inr h2)).symm, fun h2 => go false ?_⟩⟩, fun h => absurd (show (j : Int) < m2 (c + 27) w by rw [(C2.2 w wE.1 wE.2).1, hN]; exact jE.2) h⟩
          exact ((Bool.not_eq_true _).mp fun hcn => ((cp j jE).mp hcn).elim h h2).symm
      exact inner (cN E w) 0 m1 (Nat.zero_add _) f B fun i i0 i1 => by omega
  have := back (E 597 23).toNat 0 m (9, 0) (9, 0) (by omega) (fun _ _ _ => rfl) fun d' h => absurd h (by omega)
  rw [show E 597 23 - 1 - ((0 : Nat) : Int) = E 597 23 - 1 by omega] at this
  exact this
