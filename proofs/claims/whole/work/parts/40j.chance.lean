/-! chance -/
def drD : Nat → Int → Int
  | 0, d => d
  | n + 1, d => nxD (drD n d)
def drA (E : Mm) (d : Int) : Nat → Int
  | 0 => -2
  | n + 1 => cE E n (drP E n (drD n d))
def drC (E : Mm) (d : Int) : Nat → Int
  | 0 => 0
  | n + 1 => drC E d n + (cC E n (drP E n (drD n d)) + bt E (drA E d n) (cE E n (drP E n (drD n d))))
theorem drA_lt {E : Mm} {d : Int} (T : InvT E) (Pg : InvP E) (W : InvW E) (n : Nat) (hn : (n : Int) ≤ E 597 23) : drA E d n < E 602 579 := by
  cases n with
  | zero =>
    have := T.2.2.1
    show (-2 : Int) < _
    omega
  | succ n => exact (cE_in T Pg W (w := n) (by omega) (drP_rng T)).2.1
theorem drC_rng {E : Mm} {d : Int} (T : InvT E) (Pg : InvP E) (W : InvW E) : ∀ n : Nat, (n : Int) ≤ E 597 23 → (0 ≤ drC E d n ∧ drC E d n ≤ 1100000 * n) ∧ (drC E d n < 1000000 → drC E d n ≤ 12000 * n) := by
  have P1 := Pg.1
  intro n
  induction n with
  | zero => intro _; exact ⟨⟨Int.le_refl _, Int.le_refl _⟩, fun _ => Int.le_refl _⟩
  | succ n ih =>
    intro hn
    have i := ih (by omega)
    have a := drA_lt (d := d) T Pg W n (by omega)
    have c := cE_in T Pg W (w := n) (by omega) (drP_rng T (d := drD n d))
    have b := bt_rng T a c.2.1
    unfold drC
    refine ⟨by omega, fun h => ?_⟩
    have := b.2 (by omega)
    have := i.2 (by omega)
    omega
/-- the runs -/
def chD (E : Mm) (d : Int) : Nat → Int
  | 0 => d
  | k + 1 => drD (E 597 23).toNat (chD E d k)
def chH (E : Mm) (d : Int) : Nat → Int
  | 0 => 0
  | k + 1 => chH E d k + if drC E (chD E d k) (E 597 23).toNat < 1000000 then 1 else 0
def chL (E : Mm) (d : Int) : Nat → Int
  | 0 => 1000000
  | k + 1 => min (chL E d k) (drC E (chD E d k) (E 597 23).toNat)
theorem chH_rng {E : Mm} {d : Int} : ∀ k : Nat, 0 ≤ chH E d k ∧ chH E d k ≤ k := by
  intro k
  induction k with
  | zero => exact ⟨Int.le_refl _, Int.le_refl _⟩
  | succ k ih =>
    unfold chH
    split <;> omega
theorem chL_rng {E : Mm} {d : Int} (T : InvT E) (Pg : InvP E) (W : InvW E) : ∀ k : Nat, 0 ≤ chL E d k ∧ chL E d k ≤ 1000000 := by
  have P1 := Pg.1
  intro k
  induction k with
  | zero => exact ⟨show (0 : Int) ≤ 1000000 by decide, Int.le_refl _⟩
  | succ k ih =>
    have := (drC_rng (d := chD E d k) T Pg W (E 597 23).toNat (by omega)).1
    unfold chL
    omega
def s_chc (E : Mm) (s n q : Int) : Int := if -1 ≤ s ∧ (1 ≤ n ∧ n ≤ 100) ∧ 0 ≤ q ∧ q ≤ 1 then (if q = 0 then chH E (if s = -1 then E 602 582 else s) n.toNat else cvt (chL E (if s = -1 then E 602 582 else s) n.toNat)) else -1
section CH
variable {sh : (Int → Int) → Int → List Int} {E m : Mm}
theorem c153 {w d : Int} {K : Int → Mm → Prop} (B : BS E m) (r : Res E m) (hw : 0 ≤ w ∧ w < E 597 23) (kk : K (drP E w d) m) : TrI 153 [(1, 1), (0, w), (2, lshr (nxD d) 16)] m K := by
  have P1 := B.p.1
  have h := chs_len B.t (w := w)
  have hn : 1 ≤ (cN E w : Int) ∧ (cN E w : Int) ≤ 24 := by unfold cN; omega
  have C := (r.2.1 w hw.1 hw.2).2.2.2
  have cn : m 438 w = (cN E w : Int) := C.1
  have pe : plC m 411 w (m 283 w) = plF E w := by
    rw [show m 283 w = fxE E w from B.fx hw.1 hw.2, plC_E C]
    rfl
  refine e153 _ _ ⟨by omega, ⟨by decide +kernel, by omega, by rw [show (411 : Int) + 27 = 438 by decide, cn]; exact hn.2⟩, ?_⟩
  rw [pe, cn]
  unfold drP at kk
  refine ⟨fun h1 => ⟨fun h2 => ⟨by omega, ?_⟩, fun h2 => absurd (show (cN E w : Int) > 0 by omega) h2⟩, fun h1 => ?_⟩
  · rw [if_pos h1] at kk
    rw [drw_c hn]
    exact kk
  · rw [if_neg h1] at kk
    exact kk
theorem k152 {s n q : Int} (B : BS E m) (R : RS E m) (K : Int → Mm → Prop) (kk : ∀ m', fR m m' → BS E m' → RS E m' → K (s_chc E s n q) m') : TrI 152 [(1, 1), (0, s), (0, n), (0, q)] m K := by
  have P1 := B.p.1
  have T := B.t
  unfold s_chc at kk
  have no : ¬ (-1 ≤ s ∧ (1 ≤ n ∧ n ≤ 100) ∧ 0 ≤ q ∧ q ≤ 1) → K (-1) m := fun h => by
    rw [if_neg h] at kk
    exact kk m fR.refl B R
  refine e152 _ _ _ ⟨fun h => no (by omega), fun h1 => ⟨fun h => no (by omega), fun h2 => ⟨fun h => no (by omega), fun h3 => ⟨fun h => no (by omega), fun h4 => ⟨fun h => no (by omega), fun h5 => ?_⟩⟩⟩⟩⟩
  rw [if_pos (by omega)] at kk
  refine q76 B R fun m1 f1 B1 R1 r1 => ?_
  have go := kk m1 f1 B1 R1
  have main : ∀ d : Int, (d = if s = -1 then E 602 582 else s) → X 152 62 [(1, 1), (0, s), (0, n), (0, q), (2, d), (9, 0), (0, 0), (0, 1000000), (0, 0), (9, 0), (9, 0), (9, 0), (9, 0), (9, 0)] [] m1 (qI K) := by
    intro d hd
    rw [← hd] at go
    have runs : ∀ (l k : Nat) (v9 v10 v11 v12 v13 : aV), (k : Int) + l = n → X 152 62 [(1, 1), (0, s), (0, n), (0, q), (2, chD E d k), (9, 0), (0, chH E d k), (0, chL E d k), (0, (k : Int)), v9, v10, v11, v12, v13] [] m1 (qI K) := by
      intro l
      induction l with
      | zero =>
        intro k v9 v10 v11 v12 v13 hk
        refine w152_62 _ _ _ _ _ _ _ v9 v10 v11 v12 v13 ⟨fun h => absurd h (by omega), fun _ => ⟨fun hq => ?_, fun hq => ?_⟩⟩
        · rw [if_pos hq, show n.toNat = k by omega] at go
          exact go
        · rw [if_neg hq, show n.toNat = k by omega] at go
          exact go
      | succ l ih =>
        intro k v9 v10 v11 v12 v13 hk
        have hh := chH_rng (E := E) (d := d) k
        have hl := chL_rng (d := d) T B.p B.w k
        refine w152_62 _ _ _ _ _ _ _ v9 v10 v11 v12 v13 ⟨fun _ => ?_, fun h => absurd (show (k : Int) < n by omega) h⟩
        have words : ∀ (j w : Nat) (v12 v13 : aV), (w : Int) + j = E 597 23 → X 152 78 [(1, 1), (0, s), (0, n), (0, q), (2, drD w (chD E d k)), (9, 0), (0, chH E d k), (0, chL E d k), (0, (k : Int)), (0, drC E (chD E d k) w), (0, drA E (chD E d k) w), (0, (w : Int)), v12, v13] [] m1 (qI K) := by
          intro j
          induction j with
          | zero =>
            intro w v12 v13 hw
            have hwN : w = (E 597 23).toNat := by omega
            have cr := drC_rng (d := chD E d k) T B.p B.w w (by omega)
            refine w152_78 _ _ _ _ _ _ _ _ _ _ v12 v13 ⟨B1.sP, fun h => absurd h (by rw [B1.pn]; omega), fun _ => ⟨fun hc => ?_, fun hc => ?_⟩⟩
            · rw [wrI (x := chH E d k + 1) (by omega) (by omega), wrI (x := (k : Int) + 1) (by omega) (by omega)]
              have := ih (k + 1) (0, drC E (chD E d k) w) (0, drA E (chD E d k) w) (0, (w : Int)) v12 v13 (by omega)
              rw [show chD E d (k + 1) = drD (E 597 23).toNat (chD E d k) from rfl, show chH E d (k + 1) = chH E d k + if drC E (chD E d k) (E 597 23).toNat < 1000000 then 1 else 0 from rfl, show chL E d (k + 1) = min (chL E d k) (drC E (chD E d k) (E 597 23).toNat) from rfl, ← hwN, if_pos hc] at this
              exact this
            · rw [wrI (x := (k : Int) + 1) (by omega) (by omega)]
              have := ih (k + 1) (0, drC E (chD E d k) w) (0, drA E (chD E d k) w) (0, (w : Int)) v12 v13 (by omega)
              rw [show chD E d (k + 1) = drD (E 597 23).toNat (chD E d k) from rfl, show chH E d (k + 1) = chH E d k + if drC E (chD E d k) (E 597 23).toNat < 1000000 then 1 else 0 from rfl, show chL E d (k + 1) = min (chL E d k) (drC E (chD E d k) (E 597 23).toNat) from rfl, ← hwN, if_neg hc, Int.add_zero, Int.min_eq_left (by omega)] at this
              exact this
          | succ j ihj =>
            intro w v12 v13 hw
            have wE : 0 ≤ (w : Int) ∧ (w : Int) < E 597 23 := by omega
            have hp := drP_rng T (E := E) (w := w) (d := drD w (chD E d k))
            have c1 := cE_in T B.p B.w wE hp
            have al := drA_lt (d := chD E d k) T B.p B.w w (by omega)
            have bb := (bt_rng T al c1.2.1).1
            have cr := (drC_rng (d := chD E d k) T B.p B.w w (by omega)).1
            have C := ((r1.2.1 w wE.1 wE.2).2.2.2).at hp
            have e4 : m1 (440 + (w : Int)) (drP E w (drD w (chD E d k))) = cE E w (drP E w (drD w (chD E d k))) := C.1
            have e5 : m1 (451 + (w : Int)) (drP E w (drD w (chD E d k))) = cC E w (drP E w (drD w (chD E d k))) := C.2
            have n2 := (chs_len T (w := w)).2
            have n24 : (cN E w : Int) ≤ 24 := by unfold cN; omega
            refine w152_78 _ _ _ _ _ _ _ _ _ _ v12 v13 ⟨B1.sP, fun _ => ?_, fun h => absurd (show (w : Int) < m1 (m1 1 5) 4 by rw [B1.pn]; exact wE.2) h⟩
            refine c153 B1 r1 wE ⟨by omega, by omega, B1.sT, v_T_of T B1.ct, ?_⟩
            have := ihj (w + 1) (0, drP E w (drD w (chD E d k))) (0, cE E w (drP E w (drD w (chD E d k)))) (by omega)
            rw [e4, e5, jn_bt T B1.ct al c1.2.1, wrI (x := cC E w _ + _) (by omega) (by omega), wrI (x := drC E (chD E d k) w + _) (by omega) (by omega), wrI (x := (w : Int) + 1) (by omega) (by omega)]
            exact this
        exact words (E 597 23).toNat 0 v12 v13 (by omega)
    exact runs n.toNat 0 (9, 0) (9, 0) (9, 0) (9, 0) (9, 0) (by omega)
  refine ⟨fun hs => ⟨B1.sT, main _ ?_⟩, fun hs => main _ ?_⟩
  · rw [if_pos hs]
    exact B1.ct.2.2.2.2.2.1
  · rw [if_neg hs]
/-- the reference's drawnCost(281) -/
def f281 (m m' : Mm) : Prop := ∀ x k, ¬ (x = 597 ∧ k = 50) → x ≠ 625 → m' x k = m x k
theorem f281.ag {m m' : Mm} (h : f281 m m') (A : Ag E m) : Ag E m' := A.fr fun x k hp => by
  unfold per at hp
  exact h x k (by omega) (by omega)
theorem c281 {d : Int} {K : Int → Mm → Prop} (T : InvT E) (Pg : InvP E) (W : InvW E) (A : Ag E m) (C : CA E m) (h40 : m 597 40 = 0) (hd : m 597 50 = d) (kk : ∀ m', f281 m m' → m' 597 50 = drD (E 597 23).toNat d → K (cvt (drC E d (E 597 23).toNat)) m') : TrI 281 [(1, 597)] m K := by
  have P1 := Pg.1
  refine e281 ?_
  have words : ∀ (n w : Nat) (m1 : Mm) (v3 v4 : aV), (w : Int) + n = E 597 23 → f281 m m1 → m1 597 50 = drD w d → (∀ v : Nat, v < w → m1 625 v = drP E v (drD v d)) → X 281 4 [(1, 597), (0, cvt (drC E d w)), (0, (w : Int)), v3, v4] [] m1 (qI K) := by
    intro n
    induction n with
    | zero =>
      intro w m1 v3 v4 hw f x I
      have A1 := f.ag A
      refine w281_4 _ _ v3 v4 ⟨fun h => absurd h (by rw [A1.n]; omega), fun _ => ?_⟩
      have hwN : w = (E 597 23).toNat := by omega
      rw [hwN] at x ⊢
      exact kk m1 f x
    | succ n ih =>
      intro w m1 v3 v4 hw f x I
      have A1 := f.ag A
      have wE : 0 ≤ (w : Int) ∧ (w : Int) < E 597 23 := by omega
      have n12 := chs_len T (w := w)
      have hn : 1 ≤ (cN E w : Int) ∧ (cN E w : Int) ≤ 24 := by unfold cN; omega
      have C1 : CA E m1 := C.fr fun x k x0 x1 => f x k (by omega) (by omega)
      have cn : m1 615 w = (cN E w : Int) := (C1 w wE.1 wE.2).1
      refine w281_4 _ _ v3 v4 ⟨fun _ => ⟨by omega, ?_⟩, fun h => absurd (show (w : Int) < m1 597 23 by rw [A1.n]; exact wE.2) h⟩
      rw [cn]
      refine e282 _ fun m2 e2 => ⟨by omega, ?_⟩
      rw [x] at e2
      have x2 : m2 597 50 = nxD (drD w d) := by rw [e2, um_s]; rfl
      rw [x2, drw_r hn]
      have f2 : f281 m m2 := fun x k n1 n2 => by rw [e2, um_n n1]; exact f x k n1 n2
      have A2 := f2.ag A
      have C2 : CA E m2 := C.fr fun x k x0 x1 => f2 x k (by omega) (by omega)
      have I2 : ∀ v : Nat, v < w → m2 625 v = drP E v (drD v d) := fun v hv => by rw [e2, um_x (by decide)]; exact I v hv
      have cn2 : m2 615 w = (cN E w : Int) := (C2 w wE.1 wE.2).1
      have hp := drP_rng T (E := E) (w := w) (d := drD w d)
      have c1 := cE_in T Pg W wE hp
      have al := drA_lt (d := d) T Pg W w (by omega)
      have bb := bt_rng T al c1.2.1
      have cr := drC_rng (d := d) T Pg W w (by omega)
      -- once the place is found
      have tail : ∀ (m8 : Mm) (s0 : Int) (v4 : aV), f281 m m8 → m8 597 50 = drD (w + 1) d → (∀ v : Nat, v < w + 1 → m8 625 v = drP E v (drD v d)) → s0 = (if bt E (drA E d w) (cE E w (drP E w (drD w d))) < 1000000 then bt E (drA E d w) (cE E w (drP E w (drD w d))) else -1) → X 281 77 [(1, 597), (0, cvt (drC E d w)), (0, (w : Int)), (0, drP E w (drD w d)), v4] [(0, s0)] m8 (qI K) := by
        intro m8 s0 v4 f8 x8 I8 hs
        have C8 : CA E m8 := C.fr fun x k x0 x1 => f8 x k (by omega) (by omega)
        have e14 := ((C8 w wE.1 wE.2).at hp).2
        have next := ih (w + 1) m8 (0, drP E w (drD w d)) (0, s0) (by omega) f8 x8 I8
        rw [show drC E d (w + 1) = drC E d w + (cC E w (drP E w (drD w d)) + bt E (drA E d w) (cE E w (drP E w (drD w d)))) from rfl] at next
        have q24 : wr (wr (24 * (w : Int)) + drP E w (drD w d)) = 24 * (w : Int) + drP E w (drD w d) := by
          rw [wrI (x := 24 * (w : Int)) (by omega) (by omega), wrI (by omega) (by omega)]
        refine w281_77 _ _ _ v4 _ ?_
        rw [q24, e14]
        clear q24
        generalize hb : bt E (drA E d w) (cE E w (drP E w (drD w d))) = b at *
        generalize hcc : drC E d w = c at *
        rw [wrI (x := (w : Int) + 1) (by omega) (by omega)]
        refine ⟨fun h => ?_, fun h => ⟨fun h2 => ?_, fun h2 => ⟨by omega, ?_⟩⟩⟩
        · have hbig : ¬ b < 1000000 := by
            intro hlt
            rw [if_pos hlt] at hs
            omega
          rw [show cvt (c + (cC E w (drP E w (drD w d)) + b)) = -2 from if_neg (by omega)] at next
          exact next
        · have hbig : ¬ c < 1000000 := by
            unfold cvt at h2
            split at h2 <;> omega
          rw [show cvt (c + (cC E w (drP E w (drD w d)) + b)) = -2 from if_neg (by omega)] at next
          exact next
        · have hb2 : b < 1000000 ∧ s0 = b := by
            split at hs
            · exact ⟨by omega, hs⟩
            · omega
          have hc2 : c < 1000000 ∧ cvt c = c := by
            unfold cvt at h2 ⊢
            split at h2
            · rename_i hlt
              exact ⟨hlt, if_pos hlt⟩
            · omega
          have g1 := bb.2 hb2.1
          have g2 := cr.2 hc2.1
          rw [show cvt (c + (cC E w (drP E w (drD w d)) + b)) = c + (cC E w (drP E w (drD w d)) + b) from if_pos (by omega)] at next
          rw [hc2.2, hb2.2, wrI (x := c + b) (by omega) (by omega), wrI (x := c + b + _) (by omega) (by omega), show c + b + cC E w (drP E w (drD w d)) = c + (cC E w (drP E w (drD w d)) + b) by omega]
          rw [hb2.2] at next
          exact next
      have h2 : plF E w < cN E w := (fstN_rng (n := cN E w) (f := fun j => decide (cE E w j = fxE E w))).2
      have hit : ∀ v4, X 281 23 [(1, 597), (0, cvt (drC E d w)), (0, (w : Int)), (0, drP E w (drD w d)), v4] [] m2 (qI K) := by
        intro v4
        have hcan : canS E w (drP E w (drD w d)) = true := (canS_F T Pg W wE hp).mpr (by
          unfold drP
          split
          · exact Or.inl ‹_›
          · exact Or.inr rfl)
        refine w281_23 _ _ _ v4 ?_
        refine c244 T Pg A2 wE hp (C2 w wE.1 wE.2) (hk := 0) (hv := m2 597 38) (hp := m2 597 39) ((f2 _ _ (by decide) (by decide)).trans h40) rfl rfl ?_
        rw [canH_0, bi_t hcan]
        refine ⟨fun h => absurd h (by decide), fun _ => ⟨by omega, fun m8 e8 => ?_⟩⟩
        have f8 : f281 m m8 := fun x k n1 n2 => by rw [e8, um_x n2]; exact f2 x k n1 n2
        have x8 : m8 597 50 = drD (w + 1) d := by rw [e8, um_x (by decide)]; exact x2
        have I8 : ∀ v : Nat, v < w + 1 → m8 625 v = drP E v (drD v d) := fun v hv => by
          by_cases hvw : v = w
          · rw [hvw, e8, um_s]
          · rw [e8, um_k (by omega)]
            exact I2 v (by omega)
        refine ⟨fun hw0 => ?_, fun hw0 => ?_⟩
        · obtain ⟨u, hu⟩ : ∃ u, w = u + 1 := ⟨w - 1, by omega⟩
          have q9 : Unit → wr ((w : Int) - 1) = u := fun _ => by
            rw [wrI (by omega) (by omega)]
            omega
          have hww : (u : Int) + 1 = w := by omega
          have hpu := drP_rng T (E := E) (w := u) (d := drD u d)
          have C8 : CA E m8 := C.fr fun x k x0 x1 => f8 x k (by omega) (by omega)
          have ha : drA E d w = cE E u (drP E u (drD u d)) := by rw [hu]; rfl
          rw [q9 (), I8 u (by omega)]
          refine ⟨by omega, ?_⟩
          refine c246 T Pg W (f8.ag A) (w := u) (i := drP E u (drD u d)) (j := drP E w (drD w d)) ⟨by omega, by omega⟩ hpu (by rw [hww]; exact hp) (C8 u (by omega) (by omega)) (C8 ((u : Int) + 1) (by omega) (by omega)) ?_
          rw [hww, ← ha]
          exact tail m8 _ v4 f8 x8 I8 rfl
        · refine tail m8 0 v4 f8 x8 I8 ?_
          have ha : drA E d w = -2 := by rw [show w = 0 by omega]; rfl
          rw [ha, bt_neg]
          rfl
      have search : ∀ (t k : Nat) (v4 : aV), (k : Int) < cN E w → ¬ plF E w < 0 → ((k : Int) + t = plF E w ∨ (k : Int) + t = plF E w + cN E w) → X 281 23 [(1, 597), (0, cvt (drC E d w)), (0, (w : Int)), (0, (k : Int)), v4] [] m2 (qI K) := by
        intro t
        induction t with
        | zero =>
          intro k v4 hk hn0 hc
          have hP : (k : Int) = drP E w (drD w d) := by
            unfold drP
            rw [if_neg hn0]
            omega
          rw [hP]
          exact hit v4
        | succ t iht =>
          intro k v4 hk hn0 hc
          have hkk : 0 ≤ (k : Int) ∧ (k : Int) < cN E w := ⟨by omega, hk⟩
          by_cases hkp : (k : Int) = plF E w
          · have hP : (k : Int) = drP E w (drD w d) := by
              unfold drP
              rw [if_neg hn0]
              exact hkp
            rw [hP]
            exact hit v4
          · have hcan : ¬ canS E w (k : Int) = true := fun q => ((canS_F T Pg W wE hkk).mp q).elim hn0 fun h => hkp h.symm
            refine w281_23 _ _ _ v4 ?_
            refine c244 T Pg A2 wE hkk (C2 w wE.1 wE.2) (hk := 0) (hv := m2 597 38) (hp := m2 597 39) ((f2 _ _ (by decide) (by decide)).trans h40) rfl rfl ?_
            rw [canH_0, bi_f hcan]
            refine ⟨fun _ => ⟨by omega, by rw [cn2]; omega, ?_⟩, fun h => absurd rfl h⟩
            rw [cn2, wrI (x := (k : Int) + 1) (by omega) (by omega), irem_up (cN E w) (by omega) k (by omega)]
            split
            · exact iht 0 v4 (by omega) hn0 (by omega)
            · exact iht (k + 1) v4 (by omega) hn0 (by omega)
      have dw := drw_rng (d := drD w d) hn
      obtain ⟨k0, hk0⟩ : ∃ k0 : Nat, (k0 : Int) = drw (drD w d) (cN E w) := ⟨(drw (drD w d) (cN E w)).toNat, by omega⟩
      rw [← hk0]
      by_cases hpl : plF E w < 0
      · have hP : (k0 : Int) = drP E w (drD w d) := by
          unfold drP
          rw [if_pos hpl]
          exact hk0
        rw [hP]
        exact hit _
      · by_cases hle : (k0 : Int) ≤ plF E w
        · exact search (plF E w - k0).toNat k0 _ (by omega) hpl (Or.inl (by omega))
        · exact search (plF E w + cN E w - k0).toNat k0 _ (by omega) hpl (Or.inr (by omega))
  exact words (E 597 23).toNat 0 m (9, 0) (9, 0) (by omega) (fun _ _ _ _ => rfl) hd fun v hv => absurd hv (by omega)
end CH
