/-! the reference: isOn(250), laysBest(249) -/
theorem canH_0 {E : Mm} {hv hp : Int} : canH E 0 hv hp = canS E := by
  funext w i
  unfold canH
  rw [decide_eq_true (show (0 : Int) = 0 from rfl), Bool.true_or, Bool.true_and]
theorem bt_neg {E : Mm} {b : Int} : bt E (-2) b = 0 := by
  unfold bt
  rw [if_neg (by omega)]
theorem bs_ex {E : Mm} (T : InvT E) (Pg : InvP E) (W : InvW E) (h : totS E (canS E) < 1000000) : ∀ w : Nat, (w : Int) < E 597 23 → (bsX E w).1 < 1000000 ∧ ∃ k : Int, 0 ≤ k ∧ k < cN E w ∧ bt E (bsX E w).2 (cE E w k) + bkS E (canS E) (E 597 23 - 1 - (w : Int)).toNat k = (bsX E w).1 := by
  have P1 := Pg.1
  intro w
  induction w with
  | zero =>
    intro hw
    refine ⟨h, ?_⟩
    unfold totS at h
    rw [if_neg (show ¬ E 597 23 = 0 by omega)] at h
    obtain ⟨i, i0, i1, i2⟩ := minF_ex h
    refine ⟨i, i0, i1, ?_⟩
    show bt E (-2) _ + _ = totS E (canS E)
    unfold totS
    rw [if_neg (show ¬ E 597 23 = 0 by omega), bt_neg, i2, show E 597 23 - 1 - ((0 : Nat) : Int) = E 597 23 - 1 by omega]
    omega
  | succ w ih =>
    intro hw
    obtain ⟨hl, k, k0, k1, k2⟩ := ih (by omega)
    have hf := fstN_ex (f := fun k => decide (bt E (bsX E w).2 (cE E w k) + bkS E (canS E) (E 597 23 - 1 - (w : Int)).toNat k = (bsX E w).1)) k0 k1 (decide_eq_true k2)
    have hp : plX E w (bsX E w).1 (bsX E w).2 = fstN (cN E w) fun k => decide (bt E (bsX E w).2 (cE E w k) + bkS E (canS E) (E 597 23 - 1 - (w : Int)).toNat k = (bsX E w).1) := by
      unfold plX
      omega
    rw [← hp] at hf
    have hg := of_decide_eq_true hf.2
    have hpr := plX_rng T (w := w) (l := (bsX E w).1) (a := (bsX E w).2)
    have hx1 : (bsX E (w + 1)).1 = bkS E (canS E) (E 597 23 - 1 - (w : Int)).toNat (plX E w (bsX E w).1 (bsX E w).2) - cC E w (plX E w (bsX E w).1 (bsX E w).2) := rfl
    have hx2 : (bsX E (w + 1)).2 = cE E w (plX E w (bsX E w).1 (bsX E w).2) := rfl
    rw [hx1, hx2]
    have alt := bsX_lt T Pg W w (by omega)
    generalize plX E w (bsX E w).1 (bsX E w).2 = p at hg hpr ⊢
    obtain ⟨d, hd⟩ : ∃ d : Nat, d + 1 = (E 597 23 - 1 - (w : Int)).toNat := ⟨(E 597 23 - 1 - (w : Int)).toNat - 1, by omega⟩
    have hd2 : (E 597 23 - 1 - ((w + 1 : Nat) : Int)).toNat = d := by omega
    have e1 : E 597 23 - 1 - ((d + 1 : Nat) : Int) = w := by omega
    have e2 : E 597 23 - 1 - (d : Int) = ((w + 1 : Nat) : Int) := by omega
    rw [← hd] at hg ⊢
    rw [hd2]
    have c1 := cE_in T Pg W (w := w) (by omega) hpr
    have b0 := (bt_rng T alt c1.2.1).1
    have hb : bkS E (canS E) (d + 1) p < 1000000 := by omega
    have hu : bkS E (canS E) (d + 1) p = if canS E w p = true then min 1000000 (cC E w p + minF (cN E ((w + 1 : Nat) : Int)) fun j => if bt E (cE E w p) (cE E ((w + 1 : Nat) : Int) j) < 1000000 then bt E (cE E w p) (cE E ((w + 1 : Nat) : Int) j) + bkS E (canS E) d j else 1000000) else 1000000 := by
      conv => lhs; unfold bkS
      rw [e1, e2]
    rw [hu] at hb ⊢
    split at hb
    · rename_i hC
      rw [if_pos hC]
      have hm : minF (cN E ((w + 1 : Nat) : Int)) (fun j => if bt E (cE E w p) (cE E ((w + 1 : Nat) : Int) j) < 1000000 then bt E (cE E w p) (cE E ((w + 1 : Nat) : Int) j) + bkS E (canS E) d j else 1000000) < 1000000 := by omega
      obtain ⟨j, j0, j1, j2⟩ := minF_ex hm
      rw [j2] at hm hb ⊢
      split at hm
      · rename_i hbt
        rw [if_pos hbt] at hb ⊢
        exact ⟨by omega, j, j0, j1, by omega⟩
      · exact absurd hm (by decide)
    · exact absurd hb (by decide)
/-- what a place of BEST is -/
theorem bs_at {E : Mm} (T : InvT E) (Pg : InvP E) (W : InvW E) (h : totS E (canS E) < 1000000) {w : Nat} (hw : (w : Int) < E 597 23) : (bsX E w).1 < 1000000 ∧ bt E (bsX E w).2 (cE E w (bsP E w)) + bkS E (canS E) (E 597 23 - 1 - (w : Int)).toNat (bsP E w) = (bsX E w).1 ∧ ∀ k : Int, 0 ≤ k → k < bsP E w → ¬ bt E (bsX E w).2 (cE E w k) + bkS E (canS E) (E 597 23 - 1 - (w : Int)).toNat k = (bsX E w).1 := by
  obtain ⟨hl, k, k0, k1, k2⟩ := bs_ex T Pg W h w hw
  have hf := fstN_ex (f := fun k => decide (bt E (bsX E w).2 (cE E w k) + bkS E (canS E) (E 597 23 - 1 - (w : Int)).toNat k = (bsX E w).1)) k0 k1 (decide_eq_true k2)
  have hp : bsP E w = fstN (cN E w) fun k => decide (bt E (bsX E w).2 (cE E w k) + bkS E (canS E) (E 597 23 - 1 - (w : Int)).toNat k = (bsX E w).1) := by
    unfold bsP plX
    omega
  refine ⟨hl, ?_, fun i i0 i1 => ?_⟩
  · rw [← hp] at hf
    exact of_decide_eq_true hf.2
  · rw [hp] at i1
    exact of_decide_eq_false (fstN_lt (f := fun k => decide (bt E (bsX E w).2 (cE E w k) + bkS E (canS E) (E 597 23 - 1 - (w : Int)).toNat k = (bsX E w).1)) i0 i1)
theorem c250 {E m : Mm} {K : Int → Mm → Prop} (T : InvT E) (Pg : InvP E) (W : InvW E) (A : Ag E m) (Ca : CA E m) {w : Nat} {k l : Int} (hw : (w : Int) < E 597 23) (hk : 0 ≤ k ∧ k < cN E w) (R : ∀ d : Nat, (d + 1 : Nat) ≤ E 597 23 → RowS E m (canS E) d) (hl : l < 1000000) (P : ∀ v : Nat, v < w → m 618 v = bsP E v)
    (kk : K (bi (bt E (bsX E w).2 (cE E w k) + bkS E (canS E) (E 597 23 - 1 - (w : Int)).toNat k = l)) m) : TrI 250 [(1, 597), (0, (w : Int)), (0, k), (0, l)] m K := by
  have P1 := Pg.1
  obtain ⟨d, hd⟩ : ∃ d : Nat, d = (E 597 23 - 1 - (w : Int)).toNat := ⟨_, rfl⟩
  rw [← hd] at kk
  have hdw : E 597 23 - 1 - (d : Int) = w := by omega
  have Rd := R d (by omega)
  unfold RowS at Rd
  rw [hdw] at Rd
  have v6 := (Rd k hk.1 hk.2).1
  have n2 := (chs_len T (w := w)).2
  have n24 : (cN E w : Int) ≤ 24 := by unfold cN; omega
  have q3 : 0 ≤ 24 * (w : Int) + k ∧ 24 * (w : Int) + k < 240 := by omega
  have q1 : Unit → wr (wr (24 * (w : Int)) + k) = 24 * w + k := fun _ => by
    rw [wrI (x := 24 * (w : Int)) (by omega) (by omega), wrI (by omega) (by omega)]
  have alt := bsX_lt T Pg W w (by omega)
  have c1 := cE_in T Pg W (w := w) (by omega) hk
  have rb := (bt_rng T alt c1.2.1).1
  have rs := (bk_rng (C := canS E) T Pg W d k (by omega) (by rw [hdw]; exact hk)).1
  have tail : ∀ (s0 : Int) (v4 : aV), s0 = (if bt E (bsX E w).2 (cE E w k) < 1000000 then bt E (bsX E w).2 (cE E w k) else -1) → X 250 24 [(1, 597), (0, (w : Int)), (0, k), (0, l), v4] [(0, s0)] m (qI K) := by
    intro s0 v4 hs
    generalize bt E (bsX E w).2 (cE E w k) = b at hs kk rb
    refine w250_24 _ _ _ v4 _ ?_
    rw [q1 (), v6]
    generalize bkS E (canS E) d k = s at kk rs
    have no : ¬ b + s = l → K 0 m := fun hn => by rw [bi_f hn] at kk; exact kk
    have yes : b + s = l → K 1 m := fun hn => by rw [bi_t hn] at kk; exact kk
    refine ⟨fun h => no ?_, fun h => ⟨q3, fun h2 => no ?_, fun h2 => ?_⟩⟩
    · split at hs <;> omega
    · unfold cvt at h2
      split at h2
      · omega
      · omega
    · have hs2 : cvt s = s := by
        unfold cvt at h2 ⊢
        split at h2
        · rw [if_pos ‹_›]
        · exact absurd (by decide) h2
      have hb2 : s0 = b := by
        split at hs
        · exact hs
        · omega
      rw [hs2, hb2, wrI (x := b + s) (by omega) (by omega)]
      exact ⟨yes, no⟩
  refine e250 _ _ _ ⟨fun h => ?_, fun h => ?_⟩
  · obtain ⟨v, rfl⟩ : ∃ v, w = v + 1 := ⟨w - 1, by omega⟩
    have q9 : Unit → wr (((v + 1 : Nat) : Int) - 1) = v := fun _ => by
      rw [wrI (by omega) (by omega)]
      omega
    rw [q9 (), P v (by omega)]
    have hpr := plX_rng T (w := v) (l := (bsX E v).1) (a := (bsX E v).2)
    refine ⟨by omega, ?_⟩
    refine c246 T Pg W A (w := v) (i := bsP E v) (j := k) ⟨by omega, by omega⟩ hpr hk (Ca v (by omega) (by omega)) (Ca ((v : Int) + 1) (by omega) (by omega)) ?_
    exact tail _ _ rfl
  · have hw0 : w = 0 := by omega
    subst hw0
    refine tail 0 _ ?_
    show (0 : Int) = if bt E (-2) _ < 1000000 then bt E (-2) _ else -1
    rw [bt_neg]
    rfl
def f249 (m m' : Mm) : Prop := ∀ x k, ¬ (x = 608 ∨ x = 609 ∨ (612 ≤ x ∧ x ≤ 618)) → m' x k = m x k
theorem f249.ag {E m m' : Mm} (h : f249 m m') (A : Ag E m) : Ag E m' := A.fr fun x k hp => by
  unfold per at hp
  exact h x k (by omega)
theorem CA.fr {E m m' : Mm} (C : CA E m) (h : ∀ x k, 613 ≤ x → x ≤ 615 → m' x k = m x k) : CA E m' := fun w w0 w1 => by
  obtain ⟨c1, c2⟩ := C w w0 w1
  refine ⟨by rw [h _ _ (by omega) (by omega)]; exact c1, fun j hj => ?_⟩
  rw [h _ _ (by omega) (by omega), h _ _ (by omega) (by omega)]
  exact c2 j hj
theorem c249 {E m : Mm} {K : Int → Mm → Prop} (T : InvT E) (Pg : InvP E) (W : InvW E) (A : Ag E m) (H : m 597 40 = 0)
    (kk : ∀ m', f249 m m' → CA E m' → (totS E (canS E) < 1000000 → ∀ w : Nat, (w : Int) < E 597 23 → m' 618 w = bsP E w) → K (cvt (totS E (canS E))) m') : TrI 249 [(1, 597)] m K := by
  have P1 := Pg.1
  refine e249 (c241 T Pg W A fun m1 f1 C1 => ?_)
  have A1 := f1.ag A
  refine c242 T Pg W A1 (hk := 0) (hv := m1 597 38) (hp := m1 597 39) C1 ⟨(f1 _ _ (by decide)).trans H, rfl, rfl⟩ fun m3 f3 R3 => ?_
  rw [canH_0] at R3 ⊢
  have A3 := f3.ag A1
  have C3 := f3.ca C1
  have f13 : f249 m m3 := fun x k hn => by rw [f3 x k (by omega)]; exact f1 x k (by omega)
  by_cases ht : totS E (canS E) < 1000000
  · have hcv : cvt (totS E (canS E)) = totS E (canS E) := if_pos ht
    have t0 : 0 ≤ totS E (canS E) := by
      unfold totS
      split
      · decide
      · refine minF_ge fun i i0 i1 => ?_
        have hz : E 597 23 - 1 - ((E 597 23 - 1).toNat : Int) = 0 := by omega
        exact (bk_rng (C := canS E) T Pg W (E 597 23 - 1).toNat i (by omega) (by rw [hz]; exact ⟨i0, i1⟩)).1.1
    rw [hcv] at kk ⊢
    have outer : ∀ (n w : Nat) (m4 : Mm) (v4 : aV), (w : Int) + n = E 597 23 → (∀ x k, x ≠ 618 → m4 x k = m3 x k) → (∀ v : Nat, v < w → m4 618 v = bsP E v) → X 249 13 [(1, 597), (0, totS E (canS E)), (0, (bsX E w).1), (0, (w : Int)), v4] [] m4 (qI K) := by
      intro n
      induction n with
      | zero =>
        intro w m4 v4 hw f4 B4
        refine w249_13 _ _ _ v4 ⟨fun h => absurd h (by rw [f4 _ _ (by decide), A3.n]; omega), fun _ => kk m4 (fun x k hn => (f4 x k (by omega)).trans (f13 x k hn)) (C3.fr fun x k x0 x1 => f4 x k (by omega)) fun _ v hv => B4 v (by omega)⟩
      | succ n ih =>
        intro w m4 v4 hw f4 B4
        have wE : 0 ≤ (w : Int) ∧ (w : Int) < E 597 23 := by omega
        have w10 : 0 ≤ (w : Int) ∧ (w : Int) < 10 := by omega
        have n2 := (chs_len T (w := w)).2
        have n24 : (cN E w : Int) ≤ 24 := by unfold cN; omega
        obtain ⟨b1, b2, b3⟩ := bs_at T Pg W ht (w := w) wE.2
        have hpr : 0 ≤ bsP E w ∧ bsP E w < cN E w := plX_rng T
        have hx1 : (bsX E (w + 1)).1 = bkS E (canS E) (E 597 23 - 1 - (w : Int)).toNat (bsP E w) - cC E w (bsP E w) := rfl
        have hpp : ∃ p : Nat, (p : Int) = bsP E w := ⟨(bsP E w).toNat, by omega⟩
        obtain ⟨p, hp⟩ := hpp
        rw [← hp] at b2 b3 hx1 hpr
        have inner : ∀ (l k : Nat), k + l = p → X 249 28 [(1, 597), (0, totS E (canS E)), (0, (bsX E w).1), (0, (w : Int)), (0, (k : Int))] [] m4 (qI K) := by
          intro l
          have A4 : Ag E m4 := A3.fr fun x k hp => f4 x k (by unfold per at hp; omega)
          have C4 : CA E m4 := C3.fr fun x k x0 x1 => f4 x k (by omega)
          have R4 : ∀ d : Nat, (d + 1 : Nat) ≤ E 597 23 → RowS E m4 (canS E) d := fun d hd j j0 j1 => by
            rw [f4 _ _ (by decide), f4 _ _ (by decide)]
            exact R3 d hd j j0 j1
          induction l with
          | zero =>
            intro k hk
            have hk2 : k = p := by omega
            subst hk2
            refine w249_28 _ _ _ _ ?_
            refine c250 T Pg W A4 C4 wE.2 hpr R4 b1 B4 ?_
            rw [bi_t b2]
            refine ⟨fun h => absurd h (by decide), fun _ => ⟨w10, fun m8 e8 => ?_⟩⟩
            have q1 : Unit → wr (wr (24 * (w : Int)) + k) = 24 * w + k := fun _ => by
              rw [wrI (x := 24 * (w : Int)) (by omega) (by omega), wrI (by omega) (by omega)]
            have A8 : Ag E m8 := A4.fr fun x k hp => by rw [e8, um_x (by unfold per at hp; omega)]
            have C8 : CA E m8 := C4.fr fun x k x0 x1 => by rw [e8, um_x (by omega)]
            have f8 : ∀ x k, x ≠ 618 → m8 x k = m3 x k := fun x k hn => by rw [e8, um_x hn]; exact f4 x k hn
            have B8 : ∀ v : Nat, v < w + 1 → m8 618 v = bsP E v := fun v hv => by
              by_cases hvw : v = w
              · rw [hvw, e8, um_s, hp]
              · rw [e8, um_k (by omega)]
                exact B4 v (by omega)
            have vC := ((C8 w wE.1 wE.2).at hpr).2
            have c1 := cE_in T Pg W wE hpr
            have alt := bsX_lt T Pg W w (by omega)
            have rb := (bt_rng T alt c1.2.1).1
            have hdw : E 597 23 - 1 - ((E 597 23 - 1 - (w : Int)).toNat : Int) = w := by omega
            have rs := (bk_rng (C := canS E) T Pg W (E 597 23 - 1 - (w : Int)).toNat (k : Int) (by omega) (by rw [hdw]; exact hpr)).1
            rw [q1 (), vC]
            have fin : ∀ (s : Int) (m9 : Mm), m9 = m8 → s = bt E (bsX E w).2 (cE E w (k : Int)) → X 249 13 [(1, 597), (0, totS E (canS E)), (0, wr ((bsX E w).1 - (wr (cC E w (k : Int) + s)))), (0, wr ((w : Int) + 1)), (0, (k : Int))] [] m9 (qI K) := by
              intro s m9 h9 hs
              subst h9
              have := ih (w + 1) m9 (0, (k : Int)) (by omega) f8 B8
              rw [hx1] at this
              rw [wrI (x := cC E w (k : Int) + s) (by omega) (by omega), wrI (x := (bsX E w).1 - _) (by omega) (by omega), wrI (x := (w : Int) + 1) (by omega) (by omega), show (bsX E w).1 - (cC E w (k : Int) + s) = bkS E (canS E) (E 597 23 - 1 - (w : Int)).toNat (k : Int) - cC E w (k : Int) by omega]
              exact this
            refine ⟨by omega, fun h => ?_, fun h => ?_⟩
            · obtain ⟨v, hv⟩ : ∃ v, w = v + 1 := ⟨w - 1, by omega⟩
              have q9 : Unit → wr ((w : Int) - 1) = v := fun _ => by
                rw [wrI (by omega) (by omega)]
                omega
              rw [q9 (), B8 v (by omega)]
              have hprv := plX_rng T (w := v) (l := (bsX E v).1) (a := (bsX E v).2)
              have ha : (bsX E w).2 = cE E v (bsP E v) := by rw [hv]; rfl
              have hww : (v : Int) + 1 = w := by omega
              refine ⟨by omega, ?_⟩
              refine c246 T Pg W A8 (w := v) (i := bsP E v) (j := (k : Int)) ⟨by omega, by omega⟩ hprv (by rw [hww]; exact hpr) (C8 v (by omega) (by omega)) (C8 ((v : Int) + 1) (by omega) (by omega)) ?_
              rw [hww, ← ha, if_pos (by omega)]
              exact fin _ _ rfl rfl
            · have hw0 : w = 0 := by omega
              refine fin 0 m8 rfl ?_
              have ha : (bsX E w).2 = -2 := by rw [hw0]; rfl
              rw [ha, bt_neg]
          | succ l ihl =>
            intro k hk
            have kE : 0 ≤ (k : Int) ∧ (k : Int) < cN E w := by omega
            refine w249_28 _ _ _ _ ?_
            refine c250 T Pg W A4 C4 wE.2 kE R4 b1 B4 ?_
            rw [bi_f (b3 k kE.1 (by omega))]
            refine ⟨fun _ => ?_, fun h => absurd rfl h⟩
            rw [wrI (x := (k : Int) + 1) (by omega) (by omega)]
            exact ihl (k + 1) (by omega)
        refine w249_13 _ _ _ v4 ⟨fun _ => ⟨fun h => absurd h (by omega), fun _ => inner p 0 (Nat.zero_add _)⟩, fun h => absurd (show (w : Int) < m4 597 23 by rw [f4 _ _ (by decide), A3.n]; exact wE.2) h⟩
    exact outer (E 597 23).toNat 0 m3 (9, 0) (by omega) (fun _ _ _ => rfl) fun v hv => absurd hv (by omega)
  · have hcv : cvt (totS E (canS E)) = -2 := if_neg ht
    rw [hcv] at kk ⊢
    have fin := kk m3 f13 C3 fun h => absurd h ht
    exact w249_13 _ _ _ _ ⟨fun _ => ⟨fun _ => fin, fun h => absurd (by decide) h⟩, fun _ => fin⟩
