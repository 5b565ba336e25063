/-! questions of the whole page: best, chosen, readings, forced, margin, second, sure, without -/
theorem tot_ge {E : Mm} (T : InvT E) (Pg : InvP E) (W : InvW E) : 0 ≤ totS E (canS E) ∧ totS E (canS E) ≤ 1000000 := by
  have P1 := Pg.1
  unfold totS
  split
  · decide
  · refine ⟨minF_ge fun i i0 i1 => ?_, minF_le⟩
    have hz : E 597 23 - 1 - ((E 597 23 - 1).toNat : Int) = 0 := by omega
    exact (bk_rng (C := canS E) T Pg W (E 597 23 - 1).toNat i (by omega) (by rw [hz]; exact ⟨i0, i1⟩)).1.1
theorem cvt_ge {c : Int} (h : 0 ≤ c) : (cvt c < 0 → ¬ c < 1000000) ∧ (¬ cvt c < 0 → c < 1000000 ∧ cvt c = c) := by
  unfold cvt
  split <;> omega
def s_bst (E : Mm) : Int := cvt (totS E (canS E))
theorem k115 {E m : Mm} (B : BS E m) (R : RS E m) (K : Int → Mm → Prop) (kk : ∀ m', fR m m' → BS E m' → RS E m' → K (s_bst E) m') : TrI 115 [(1, 1)] m K := by
  refine e115 (q76 B R fun m1 f1 B1 R1 r1 => ?_)
  rw [r1.2.2.2.2.1]
  exact kk m1 f1 B1 R1
theorem r240 {E : Mm} (m : Mm) (B : BS E m) (K : Int → Mm → Prop) (kk : ∀ m', gR m m' → m' 597 40 = 0 → K (s_bst E) m') : TrI 240 [(1, 597)] m K := by
  refine c240 B.t B.p B.w B.a (hv := m 597 38) (hp := m 597 39) ⟨B.h0, rfl, rfl⟩ fun m' f' => ?_
  rw [canH_0]
  exact kk m' (fun x k n1 n2 => f' x k (by omega) (by omega)) (by rw [f' _ _ (by decide) (by decide)]; exact B.h0)
theorem f249.g {m m' : Mm} (h : f249 m m') : gR m m' := fun x k n1 n2 => h x k (by omega)
theorem f249.h {E m m' : Mm} (h : f249 m m') (B : BS E m) : m' 597 40 = 0 := (h _ _ (by decide)).trans B.h0
/-- chosen -/
def s_chn (E : Mm) (w : Int) : Int := if 0 ≤ w ∧ w < E 597 23 then (if totS E (canS E) < 1000000 then bsP E w.toNat else -2) else -1
theorem k116 {E m : Mm} {w : Int} (B : BS E m) (R : RS E m) (K : Int → Mm → Prop) (kk : ∀ m', fR m m' → BS E m' → RS E m' → K (s_chn E w) m') : TrI 116 [(1, 1), (0, w)] m K := by
  have P1 := B.p.1
  refine e116 _ ⟨B.sP, ?_⟩
  rw [B.pn]
  unfold s_chn at kk
  refine ⟨fun h => q76 B R fun m5 f5 B5 R5 r5 => ?_, fun h => ?_⟩
  · rw [if_pos h] at kk
    rw [r5.2.2.2.2.1]
    refine ⟨fun h2 => ⟨by omega, ?_⟩, fun h2 => ?_⟩
    · rw [if_pos h2] at kk
      have := r5.2.2.2.2.2.2 w.toNat (by omega)
      rw [show ((w.toNat : Nat) : Int) = w by omega] at this
      rw [show m5 512 w = bsP E w.toNat from this]
      exact kk m5 f5 B5 R5
    · rw [if_neg h2] at kk
      exact kk m5 f5 B5 R5
  · rw [if_neg h] at kk
    exact kk m fR.refl B R
theorem r248 {E : Mm} {w : Int} (m : Mm) (B : BS E m) (K : Int → Mm → Prop) (kk : ∀ m', gR m m' → m' 597 40 = 0 → K (s_chn E w) m') : TrI 248 [(1, 597), (0, w)] m K := by
  have P1 := B.p.1
  have tg := tot_ge B.t B.p B.w
  have cg := cvt_ge tg.1
  refine e248 _ fun m1 e1 => ?_
  obtain ⟨f1, B1⟩ := B.th e1
  rw [B1.a.n, in_w (by omega)]
  unfold s_chn at kk
  refine ⟨fun h => c249 B.t B.p B.w B1.a B1.h0 fun m5 f5 _ P5 => ⟨fun h2 => ?_, fun h2 => ⟨by omega, ?_⟩⟩, fun h => ?_⟩
  · rw [if_pos h, if_neg (cg.1 h2)] at kk
    exact kk m5 (f1.tr f5.g) (f5.h B1)
  · have ht := (cg.2 h2).1
    rw [if_pos h, if_pos ht] at kk
    have := P5 ht w.toNat (by omega)
    rw [show ((w.toNat : Nat) : Int) = w by omega] at this
    rw [this]
    exact kk m5 (f1.tr f5.g) (f5.h B1)
  · rw [if_neg h] at kk
    exact kk m1 f1 B1.h0
/-- readings -/
theorem k121 {E m : Mm} (B : BS E m) (R : RS E m) (K : Int → Mm → Prop) (kk : ∀ m', fR m m' → BS E m' → RS E m' → K (tcS E (canS E)) m') : TrL 121 [(1, 1)] m K := by
  refine e121 (q76 B R fun m1 f1 B1 R1 r1 => ?_)
  rw [r1.2.2.2.2.2.1]
  exact kk m1 f1 B1 R1
theorem r255 {E : Mm} (m : Mm) (B : BS E m) (K : Int → Mm → Prop) (kk : ∀ m', gR m m' → m' 597 40 = 0 → K (tcS E (canS E)) m') : TrL 255 [(1, 597)] m K := by
  have P1 := B.p.1
  refine e255 fun m1 e1 => ?_
  obtain ⟨f1, B1⟩ := B.th e1
  refine c241 B.t B.p B.w B1.a fun m3 f3 C3 => ?_
  have A3 := f3.ag B1.a
  have g3 : gR m1 m3 := fun x k n1 n2 => f3 x k (by omega)
  refine c242 B.t B.p B.w A3 (hk := 0) (hv := m3 597 38) (hp := m3 597 39) C3 ⟨by rw [f3 _ _ (by decide)]; exact B1.h0, rfl, rfl⟩ fun m5 f5 R5 => ?_
  rw [canH_0] at R5
  have A5 := f5.ag A3
  have C5 := f5.ca C3
  have g5 : gR m m5 := (f1.tr g3).tr fun x k n1 n2 => f5 x k (by omega)
  have h5 : m5 597 40 = 0 := by rw [f5 _ _ (by decide), f3 _ _ (by decide)]; exact B1.h0
  have fin := kk m5 g5 h5
  unfold tcS at fin
  rw [A5.n]
  refine ⟨fun h => ?_, fun h => ?_⟩
  · rw [if_pos h] at fin
    exact fin
  · rw [if_neg h] at fin
    have hz : E 597 23 - 1 - ((E 597 23 - 1).toNat : Int) = 0 := by omega
    have R0 := R5 (E 597 23 - 1).toNat (by omega)
    unfold RowS at R0
    rw [hz] at R0
    have n2 := (chs_len B.t (w := 0)).2
    have n24 : (cN E 0 : Int) ≤ 24 := by unfold cN; omega
    have cn : m5 615 0 = (cN E 0 : Int) := (C5 0 (by decide) (by omega)).1
    have d10 : (E 597 23 - 1).toNat ≤ 10 := by omega
    have loop : ∀ (n j : Nat), j + n = cN E 0 → X 255 27 [(1, 597), (2, sumF j (ctS E (canS E) (E 597 23 - 1).toNat)), (9, 0), (0, (j : Int))] [] m5 (qL K) := by
      intro n
      induction n with
      | zero =>
        intro j hj
        refine w255_27 _ _ ⟨fun hh => absurd hh (by rw [cn]; omega), fun _ => ?_⟩
        rw [show j = cN E 0 by omega]
        exact fin
      | succ n ih =>
        intro j hj
        have jE : 0 ≤ (j : Int) ∧ (j : Int) < cN E 0 := by omega
        have sS : sumF (j + 1) (ctS E (canS E) (E 597 23 - 1).toNat) = sumF j (ctS E (canS E) (E 597 23 - 1).toNat) + ctS E (canS E) (E 597 23 - 1).toNat j := rfl
        have gj := ct_big (C := canS E) B.t (d := (E 597 23 - 1).toNat) (i := j) d10
        have s0 : 0 ≤ sumF j (ctS E (canS E) (E 597 23 - 1).toNat) ∧ sumF j (ctS E (canS E) (E 597 23 - 1).toNat) ≤ 24 * 63403380965376 := by
          refine ⟨sumF_ge fun i _ _ => (ct_big B.t d10).1, Int.le_trans (sumF_le fun i _ _ => (ct_big B.t d10).2) ?_⟩
          exact Int.mul_le_mul_of_nonneg_right (by omega) (by decide)
        have v7 := (R0 j jE.1 jE.2).2
        rw [show 24 * (0 : Int) + (j : Int) = j by omega] at v7
        refine w255_27 _ _ ⟨fun _ => ⟨by omega, ?_⟩, fun hh => absurd (show (j : Int) < m5 615 0 by rw [cn]; exact jE.2) hh⟩
        rw [v7, wlI (by omega) (by omega), ← sS, wrI (x := (j : Int) + 1) (by omega) (by omega)]
        exact ih (j + 1) (by omega)
    exact loop (cN E 0) 0 (Nat.zero_add _)
/-- forced -/
def s_frc (E : Mm) (w p : Int) : Int := if (0 ≤ w ∧ w < E 597 23) ∧ (0 ≤ p ∧ p < cN E w) then cvt (thS E w.toNat p) else -1
theorem k122 {E m : Mm} {w p : Int} (B : BS E m) (R : RS E m) (K : Int → Mm → Prop) (kk : ∀ m', fR m m' → BS E m' → RS E m' → K (s_frc E w p) m') : TrI 122 [(1, 1), (0, w), (0, p)] m K := by
  refine e122 _ _ (q76 B R fun m1 f1 B1 R1 r1 => ?_)
  have go := kk m1 f1 B1 R1
  unfold s_frc at go
  refine c113 B1 r1 (fun h => ⟨fun h0 => absurd h0 (by decide), fun _ => ?_⟩) (fun h => ⟨fun _ => ?_, fun h0 => absurd rfl h0⟩)
  · rw [if_pos h] at go
    obtain ⟨v, rfl⟩ := Int.eq_ofNat_of_zero_le h.1.1
    exact c123 B.t B.p B.w (Or.inl rfl) (Or.inl rfl) r1.ca r1.2.2 h.1.2 h.2 go
  · rw [if_neg h] at go
    exact go
theorem f257.g {m m' : Mm} (h : f257 m m') : gR m m' := fun x k n1 n2 => h x k (by omega) (by omega)
theorem r256 {E : Mm} {w p : Int} (m : Mm) (B : BS E m) (K : Int → Mm → Prop) (kk : ∀ m', gR m m' → m' 597 40 = 0 → K (s_frc E w p) m') : TrI 256 [(1, 597), (0, w), (0, p)] m K := by
  have P1 := B.p.1
  refine e256 _ _ fun m1 e1 => ?_
  obtain ⟨f1, B1⟩ := B.th e1
  rw [B1.a.n, in_w (by omega)]
  unfold s_frc at kk
  refine ⟨fun h => c241 B.t B.p B.w B1.a fun m5 f5 C5 => ⟨by omega, ?_⟩, fun h => ?_⟩
  · have n2 := (chs_len B.t (w := w)).2
    have n24 : (cN E w : Int) ≤ 24 := by unfold cN; omega
    have g5 : gR m m5 := f1.tr fun x k n1 n2 => f5 x k (by omega)
    have h5 : m5 597 40 = 0 := by rw [f5 _ _ (by decide)]; exact B1.h0
    rw [show m5 615 w = (cN E w : Int) from (C5 w h.1 h.2).1, in_w (by omega)]
    refine ⟨fun hp => ?_, fun hp => ?_⟩
    · rw [if_pos ⟨h, hp⟩] at kk
      refine c257 B.t B.p B.w (f5.ag B1.a) C5 fun m7 f7 x7 => ?_
      obtain ⟨v, rfl⟩ := Int.eq_ofNat_of_zero_le h.1
      rw [tot_on B.t B.p B.w h.2 hp]
      exact kk m7 (g5.tr f7.g) x7
    · rw [if_neg (fun q => hp q.2)] at kk
      exact kk m5 g5 h5
  · rw [if_neg (fun q => h q.1)] at kk
    exact kk m1 f1 B1.h0
/-- margin -/
def s_mrg (E : Mm) (w : Int) : Int := if 0 ≤ w ∧ w < E 597 23 then (if loS E w.toNat < 1000000 then loS E w.toNat - totS E (canS E) else -2) else -1
theorem lo_rng {E : Mm} (T : InvT E) (Pg : InvP E) (W : InvW E) {w : Nat} (hw : (w : Int) < E 597 23) : totS E (canS E) ≤ loS E w ∧ loS E w ≤ 1000000 := by
  have tg := tot_ge T Pg W
  unfold loS
  split
  · exact ot_ge T Pg W hw
  · omega
theorem k124 {E m : Mm} {w : Int} (B : BS E m) (R : RS E m) (K : Int → Mm → Prop) (kk : ∀ m', fR m m' → BS E m' → RS E m' → K (s_mrg E w) m') : TrI 124 [(1, 1), (0, w)] m K := by
  have P1 := B.p.1
  refine e124 _ ⟨B.sP, ?_⟩
  rw [B.pn]
  unfold s_mrg at kk
  refine ⟨fun h => q76 B R fun m5 f5 B5 R5 r5 => ?_, fun h => ?_⟩
  · rw [if_pos h] at kk
    obtain ⟨v, rfl⟩ := Int.eq_ofNat_of_zero_le h.1
    have lr := lo_rng B.t B.p B.w h.2
    have tg := tot_ge B.t B.p B.w
    refine c125 B.t B.p B.w (Or.inl rfl) (Or.inl rfl) r5.ca r5.2.2 h.2 ?_
    rw [r5.2.2.2.2.1]
    rw [show ((v : Int)).toNat = v from Int.toNat_natCast v] at kk
    refine ⟨fun h2 => ?_, fun h2 => ?_⟩
    · rw [if_pos h2] at kk
      rw [wrI (by omega) (by omega)]
      exact kk m5 f5 B5 R5
    · rw [if_neg h2] at kk
      exact kk m5 f5 B5 R5
  · rw [if_neg h] at kk
    exact kk m fR.refl B R
theorem r258 {E : Mm} {w : Int} (m : Mm) (B : BS E m) (K : Int → Mm → Prop) (kk : ∀ m', gR m m' → m' 597 40 = 0 → K (s_mrg E w) m') : TrI 258 [(1, 597), (0, w)] m K := by
  have P1 := B.p.1
  have tg := tot_ge B.t B.p B.w
  have cg := cvt_ge tg.1
  refine e258 _ fun m1 e1 => ?_
  obtain ⟨f1, B1⟩ := B.th e1
  rw [B1.a.n, in_w (by omega)]
  unfold s_mrg at kk
  refine ⟨fun h => c249 B.t B.p B.w B1.a B1.h0 fun m5 f5 C5 P5 => ⟨fun h2 => ?_, fun h2 => ?_⟩, fun h => ?_⟩
  · have ht := cg.1 h2
    rw [if_pos h] at kk
    unfold loS at kk
    rw [if_neg ht, if_neg (by decide)] at kk
    exact kk m5 (f1.tr f5.g) (f5.h B1)
  · obtain ⟨ht, hc⟩ := cg.2 h2
    rw [if_pos h] at kk
    obtain ⟨v, rfl⟩ := Int.eq_ofNat_of_zero_le h.1
    rw [show ((v : Int)).toNat = v from Int.toNat_natCast v] at kk
    have og := ot_ge B.t B.p B.w (w := v) (p := bsP E v) h.2
    have co := cvt_ge (c := otS E v (bsP E v)) (by omega)
    refine c259 B.t B.p B.w (f5.ag B1.a) C5 h.2 (P5 ht v h.2) fun m7 f7 x7 => ?_
    have go := kk m7 ((f1.tr f5.g).tr f7.g) x7
    unfold loS at go
    rw [if_pos ht] at go
    refine ⟨fun h3 => ?_, fun h3 => ?_⟩
    · rw [if_neg (co.1 h3)] at go
      exact go
    · obtain ⟨o1, o2⟩ := co.2 h3
      rw [if_pos o1] at go
      rw [o2, hc, wrI (by omega) (by omega)]
      exact go
  · rw [if_neg h] at kk
    exact kk m1 f1 B1.h0
/-- second -/
def s_sec (E : Mm) : Int := cvt (minF (E 597 23).toNat fun w => loS E w.toNat)
theorem k126 {E m : Mm} (B : BS E m) (R : RS E m) (K : Int → Mm → Prop) (kk : ∀ m', fR m m' → BS E m' → RS E m' → K (s_sec E) m') : TrI 126 [(1, 1)] m K := by
  have P1 := B.p.1
  refine e126 (q76 B R fun m1 f1 B1 R1 r1 => ?_)
  have go := kk m1 f1 B1 R1
  have loop : ∀ (n w : Nat), (w : Int) + n = E 597 23 → X 126 10 [(1, 1), (0, minF w fun w => loS E w.toNat), (0, (w : Int))] [] m1 (qI K) := by
    intro n
    induction n with
    | zero =>
      intro w hw
      refine w126_10 _ _ ⟨B1.sP, fun h => absurd h (by rw [B1.pn]; omega), fun _ => ?_⟩
      rw [show w = (E 597 23).toNat by omega]
      exact go
    | succ n ih =>
      intro w hw
      refine w126_10 _ _ ⟨B1.sP, fun _ => ?_, fun h => absurd (show (w : Int) < m1 (m1 1 5) 4 by rw [B1.pn]; omega) h⟩
      refine c125 B.t B.p B.w (Or.inl rfl) (Or.inl rfl) r1.ca r1.2.2 (by omega) ?_
      rw [wrI (x := (w : Int) + 1) (by omega) (by omega)]
      exact ih (w + 1) (by omega)
  exact loop (E 597 23).toNat 0 (by omega)
theorem r260 {E : Mm} (m : Mm) (B : BS E m) (K : Int → Mm → Prop) (kk : ∀ m', gR m m' → m' 597 40 = 0 → K (s_sec E) m') : TrI 260 [(1, 597)] m K := by
  have P1 := B.p.1
  have tg := tot_ge B.t B.p B.w
  have cg := cvt_ge tg.1
  refine e260 fun m1 e1 => ?_
  obtain ⟨f1, B1⟩ := B.th e1
  refine c249 B.t B.p B.w B1.a B1.h0 fun m3 f3 C3 P3 => ⟨fun h2 => ?_, fun h2 => ?_⟩
  · have ht := cg.1 h2
    have go := kk m3 (f1.tr f3.g) (f3.h B1)
    have e : s_sec E = -2 := by
      unfold s_sec
      have : minF (E 597 23).toNat (fun w => loS E w.toNat) = 1000000 := Int.le_antisymm minF_le (le_minF (Int.le_refl _) fun i i0 i1 => by
        unfold loS
        rw [if_neg ht]
        exact Int.le_refl _)
      rw [this]
      rfl
    rw [e] at go
    exact go
  · obtain ⟨ht, hc⟩ := cg.2 h2
    obtain ⟨f, hf⟩ : ∃ f : Int → Int, f = fun w => loS E w.toNat := ⟨_, rfl⟩
    have kk' : ∀ m', gR m m' → m' 597 40 = 0 → K (cvt (minF (E 597 23).toNat f)) m' := by
      rw [hf]
      exact kk
    have loop : ∀ (n w : Nat) (m4 : Mm) (v3 : aV), (w : Int) + n = E 597 23 → f257 m3 m4 → m4 597 40 = 0 → X 260 20 [(1, 597), (0, cvt (minF w f)), (0, (w : Int)), v3] [] m4 (qI K) := by
      intro n
      induction n with
      | zero =>
        intro w m4 v3 hw f4 z4
        have A4 := f4.ag (f3.ag B1.a)
        refine w260_20 _ _ v3 ⟨fun h => absurd h (by rw [A4.n]; omega), fun _ => ?_⟩
        rw [show w = (E 597 23).toNat by omega]
        exact kk' m4 ((f1.tr f3.g).tr f4.g) z4
      | succ n ih =>
        intro w m4 v3 hw f4 z4
        have A4 := f4.ag (f3.ag B1.a)
        have C4 : CA E m4 := C3.fr fun x k x0 x1 => f4 x k (by omega) (by omega)
        have hwE : (w : Int) < E 597 23 := by omega
        have og := ot_ge B.t B.p B.w (w := w) (p := bsP E w) hwE
        have fw : f w = otS E w (bsP E w) := by
          rw [hf]
          show loS E ((w : Int)).toNat = _
          rw [Int.toNat_natCast]
          exact if_pos ht
        have sM : minF (w + 1) f = min (minF w f) (f w) := rfl
        have p5 : minF w f ≤ 1000000 := minF_le
        have p6 : 0 ≤ minF w f := minF_ge fun i i0 i1 => by
          rw [hf]
          have := (lo_rng B.t B.p B.w (w := i.toNat) (by omega)).1
          show 0 ≤ loS E i.toNat
          omega
        refine w260_20 _ _ v3 ⟨fun _ => ?_, fun h => absurd (show (w : Int) < m4 597 23 by rw [A4.n]; exact hwE) h⟩
        refine c259 B.t B.p B.w A4 C4 hwE (by rw [f4 _ _ (by decide) (by omega)]; exact P3 ht w hwE) fun m5 f5 x5 => ?_
        rw [wrI (x := (w : Int) + 1) (by omega) (by omega), ← fw]
        have f35 : f257 m3 m5 := fun x k n1 n2 => (f5 x k n1 n2).trans (f4 x k n1 n2)
        have go : ∀ (v : Int) (v3 : aV), v = cvt (minF (w + 1) f) → X 260 20 [(1, 597), (0, v), (0, ((w + 1 : Nat) : Int)), v3] [] m5 (qI K) := fun v v3 hv => by
          rw [hv]
          exact ih (w + 1) m5 v3 (by omega) f35 x5
        have co := cvt_ge (c := f w) (by omega)
        have cm := cvt_ge p6
        refine ⟨fun h => go _ _ ?_, fun h => ⟨fun h2 => go _ _ ?_, fun h2 => ⟨fun h3 => go _ _ ?_, fun h3 => go _ _ ?_⟩⟩⟩
        · have := co.1 h
          rw [sM]
          exact congrArg cvt (by omega)
        · have := co.2 h
          have := cm.1 h2
          rw [sM]
          exact congrArg cvt (by omega)
        · have := co.2 h
          have := cm.2 h2
          rw [sM]
          exact congrArg cvt (by omega)
        · have := co.2 h
          have := cm.2 h2
          rw [sM]
          exact congrArg cvt (by omega)
    exact loop (E 597 23).toNat 0 m3 (9, 0) (by omega) (fun _ _ _ _ => rfl) (f3.h B1)
