/-- exact -/
def s_exa (E : Mm) (w e : Int) : Int := if 0 ≤ w ∧ w < E 597 23 then (if 0 ≤ e ∧ e < E 602 579 then cvt (xw E w e) else -1) else -1
theorem k107 {E m : Mm} {w e : Int} (B : BS E m) (R : RS E m) (K : Int → Mm → Prop) (kk : ∀ m', fR m m' → BS E m' → RS E m' → K (s_exa E w e) m') : TrI 107 [(1, 1), (0, w), (0, e)] m K := by
  have P1 := B.p.1
  have T3 := B.t.2.2.1
  refine e107 _ _ ⟨B.sP, ?_⟩
  rw [B.pn]
  unfold s_exa at kk
  refine ⟨fun h => ⟨B.sT, ?_⟩, fun h => ?_⟩
  · rw [B.en]
    rw [if_pos h] at kk
    refine ⟨fun h2 => q76 B R fun m5 f5 B5 R5 r5 => ⟨by omega, by omega, ?_⟩, fun h2 => ?_⟩
    · rw [if_pos h2] at kk
      rw [show m5 (427 + w) e = xw E w e from (r5.2.1 w h.1 h.2).2.1 e h2.1 (by omega)]
      exact kk m5 f5 B5 R5
    · rw [if_neg h2] at kk
      exact kk m fR.refl B R
  · rw [if_neg h] at kk
    exact kk m fR.refl B R
theorem r226 {E : Mm} {w e : Int} (m : Mm) (B : BS E m) (K : Int → Mm → Prop) (kk : ∀ m', gR m m' → m' 597 40 = 0 → K (s_exa E w e) m') : TrI 226 [(1, 597), (0, w), (0, e)] m K := by
  have P1 := B.p.1
  have T3 := B.t.2.2.1
  refine e226 _ _ fun m1 e1 => ?_
  obtain ⟨f1, B1⟩ := B.th e1
  rw [B1.a.n, in_w (by omega), B1.a.b.trans B.t.1, B1.a.e, in_w (by omega)]
  unfold s_exa at kk
  refine ⟨fun h => ⟨rfl, fun h2 => c227 B.t B.p B.w B1.a h h2 fun m5 f5 _ => ?_, fun h2 => ?_⟩, fun h => ?_⟩
  · rw [if_pos h, if_pos h2] at kk
    exact kk m5 (f1.tr fun x k n1 n2 => f5 x k (by omega)) (by rw [f5 _ _ (by decide)]; exact B1.h0)
  · rw [if_pos h, if_neg h2] at kk
    exact kk m1 f1 B1.h0
  · rw [if_neg h] at kk
    exact kk m1 f1 B1.h0
/-- exactBy -/
def xRs (E : Mm) (w e : Int) : List Int := if xw E w e < 1000000 then xR E w e (E 604 w).toNat 0 else []
def s_exb (E : Mm) (w e k : Int) : Int := if 0 ≤ w ∧ w < E 597 23 then (if 0 ≤ e ∧ e < E 602 579 then (if k < 0 then -1 else ltA (xRs E w e) 0 k) else -1) else -1
theorem xRs_len {E : Mm} (Pg : InvP E) {w e : Int} (hw : 0 ≤ w ∧ w < E 597 23) : (xRs E w e).length ≤ 10 := by
  have P2 := (Pg.2 w hw.1 hw.2).1
  unfold xRs
  split
  · have := xR_len (E := E) (w := w) (e := e) (E 604 w).toNat 0
    omega
  · decide
theorem k108 {E m : Mm} {w e k : Int} (B : BS E m) (R : RS E m) (K : Int → Mm → Prop) (kk : ∀ m', fR m m' → BS E m' → RS E m' → K (s_exb E w e k) m') : TrI 108 [(1, 1), (0, w), (0, e), (0, k)] m K := by
  have P1 := B.p.1
  have T3 := B.t.2.2.1
  refine e108 _ _ _ ⟨B.sP, ?_⟩
  rw [B.pn]
  unfold s_exb at kk
  have rs : ∀ m', (∀ x k, ¬ (370 ≤ x ∧ x < 411) → m' x k = m x k) → RS E m' := fun m' f => ⟨fun h => (R.1 (by rw [← f 1 17 (by decide)]; exact h)).fr B.p fun x k x0 x1 _ => f x k (by omega), R.2.fr fun k => f _ _ (by decide)⟩
  refine ⟨fun h => ⟨B.sT, ?_⟩, fun h => ?_⟩
  · rw [B.en]
    rw [if_pos h] at kk
    refine ⟨fun h2 => ⟨fun h3 => ?_, fun h3 => ?_⟩, fun h2 => ?_⟩
    · rw [if_pos h2, if_pos h3] at kk
      exact kk m fR.refl B R
    · rw [if_pos h2, if_neg h3] at kk
      rw [← B.wo]
      refine c77 B.t B.ct rfl B.w77 fun m3 f3 O3 => ?_
      have f3' : fR m m3 := fun x k n1 n2 n3 n4 => f3 x k (by omega) (by omega)
      have B3 := B.fQ f3'
      have e3 : m3 1 3 = m 1 3 := f3 _ _ (by decide) (by decide)
      have T3' : CT E m3 (m 1 3) := by rw [← e3]; exact B3.ct
      refine ⟨B3.sT, by omega, ?_⟩
      rw [e3]
      have hlen := xRs_len (e := e) B.p h
      refine c109 B.t B.p B.w T3' B3.cp O3 h h2 (fun m5 f5 hx x2 => ?_) (fun m5 f5 hx x2 L => ?_)
      · have fm : ∀ x k, ¬ (370 ≤ x ∧ x < 411) → m5 x k = m x k := fun x k n => by rw [f5 x k (by omega) (by omega)]; exact f3 x k (by omega) (by omega)
        have f5' : fR m m5 := fun x k n1 n2 n3 n4 => fm x k (by omega)
        rw [x2]
        have := kk m5 f5' (B.fQ f5') (rs m5 fm)
        unfold xRs at this
        rw [if_neg (show ¬ xw E w e < 1000000 from hx), ltA_n (by omega) (by simp; omega)] at this
        exact ⟨fun hh => absurd hh h3, fun _ => this⟩
      · have fm : ∀ x k, ¬ (370 ≤ x ∧ x < 411) → m5 x k = m x k := fun x k n => by rw [f5 x k (by omega) (by omega)]; exact f3 x k (by omega) (by omega)
        have f5' : fR m m5 := fun x k n1 n2 n3 n4 => fm x k (by omega)
        have hX : xRs E w e = xR E w e (E 604 w).toNat 0 := if_pos (show xw E w e < 1000000 from hx)
        rw [← hX] at x2 L
        rw [x2]
        have := kk m5 f5' (B.fQ f5') (rs m5 fm)
        refine ⟨fun hh => ⟨by omega, ?_⟩, fun hh => ?_⟩
        · rw [ltA_y (by omega) hh L]
          exact this
        · rw [ltA_n (by omega) hh] at this
          exact this
    · rw [if_neg h2] at kk
      exact kk m fR.refl B R
  · rw [if_neg h] at kk
    exact kk m fR.refl B R
theorem r232 {E : Mm} {w e k : Int} (m : Mm) (B : BS E m) (K : Int → Mm → Prop) (kk : ∀ m', gR m m' → m' 597 40 = 0 → K (s_exb E w e k) m') : TrI 232 [(1, 597), (0, w), (0, e), (0, k)] m K := by
  have P1 := B.p.1
  have T3 := B.t.2.2.1
  refine e232 _ _ _ fun m1 e1 => ?_
  obtain ⟨f1, B1⟩ := B.th e1
  rw [B1.a.n, in_w (by omega), B1.a.b.trans B.t.1, B1.a.e, in_w (by omega)]
  unfold s_exb at kk
  refine ⟨fun h => ⟨rfl, fun h2 => ⟨fun h3 => ?_, fun h3 => ?_⟩, fun h2 => ?_⟩, fun h => ?_⟩
  · rw [if_pos h, if_pos h2, if_pos h3] at kk
    exact kk m1 f1 B1.h0
  · rw [if_pos h, if_pos h2, if_neg h3] at kk
    have hlen := xRs_len (e := e) B.p h
    have fg : ∀ m5, f233 m1 m5 → gR m m5 ∧ m5 597 40 = 0 := fun m5 f5 => ⟨f1.tr fun x k n1 n2 => f5 x k (by omega) (by omega), by rw [f5 _ _ (by decide) (by decide)]; exact B1.h0⟩
    refine c233 B.t B.p B.w B1.a h h2 (fun m5 f5 hx => ⟨fun _ => ?_, fun hh => absurd rfl hh⟩) (fun m5 f5 hx S => ⟨fun hh => absurd hh (by decide), fun _ => ?_⟩)
    · have := kk m5 (fg m5 f5).1 (fg m5 f5).2
      unfold xRs at this
      rw [if_neg (show ¬ xw E w e < 1000000 from hx), ltA_n (by omega) (by simp; omega)] at this
      exact this
    · have hX : xRs E w e = xR E w e (E 604 w).toNat 0 := if_pos (show xw E w e < 1000000 from hx)
      have x2 := S.2.2.1
      have L := S.2.2.2
      rw [← hX] at x2 L
      rw [x2]
      have := kk m5 (fg m5 f5).1 (fg m5 f5).2
      refine ⟨fun hh => ⟨by omega, ?_⟩, fun hh => ?_⟩
      · rw [ltA_y (by omega) hh L]
        exact this
      · rw [ltA_n (by omega) hh] at this
        exact this
  · rw [if_pos h, if_neg h2] at kk
    exact kk m1 f1 B1.h0
  · rw [if_neg h] at kk
    exact kk m1 f1 B1.h0
/-- choices -/
def s_chs (E : Mm) (w : Int) : Int := if 0 ≤ w ∧ w < E 597 23 then (cN E w : Int) else -1
theorem k111 {E m : Mm} {w : Int} (B : BS E m) (R : RS E m) (K : Int → Mm → Prop) (kk : ∀ m', fR m m' → BS E m' → RS E m' → K (s_chs E w) m') : TrI 111 [(1, 1), (0, w)] m K := by
  have P1 := B.p.1
  refine e111 _ ⟨B.sP, ?_⟩
  rw [B.pn]
  unfold s_chs at kk
  refine ⟨fun h => q76 B R fun m5 f5 B5 R5 r5 => ⟨by omega, ?_⟩, fun h => ?_⟩
  · rw [if_pos h] at kk
    rw [show m5 438 w = (cN E w : Int) from (r5.2.1 w h.1 h.2).2.2.2.1]
    exact kk m5 f5 B5 R5
  · rw [if_neg h] at kk
    exact kk m fR.refl B R
theorem f236.g {m m' : Mm} {w : Int} (h : f236 m m' w) : gR m m' := fun x k n1 n2 => h x k (by omega) (by omega) (by omega)
theorem r235 {E : Mm} {w : Int} (m : Mm) (B : BS E m) (K : Int → Mm → Prop) (kk : ∀ m', gR m m' → m' 597 40 = 0 → K (s_chs E w) m') : TrI 235 [(1, 597), (0, w)] m K := by
  have P1 := B.p.1
  refine e235 _ fun m1 e1 => ?_
  obtain ⟨f1, B1⟩ := B.th e1
  rw [B1.a.n, in_w (by omega)]
  unfold s_chs at kk
  refine ⟨fun h => c236 B.t B.p B.w B1.a h fun m5 f5 C5 => ⟨by omega, ?_⟩, fun h => ?_⟩
  · rw [if_pos h] at kk
    rw [show m5 615 w = (cN E w : Int) from C5.1]
    exact kk m5 (f1.tr f5.g) (by rw [f5 _ _ (by decide) (by omega) (by omega)]; exact B1.h0)
  · rw [if_neg h] at kk
    exact kk m1 f1 B1.h0
/-- fits -/
def s_fit (E : Mm) (w : Int) : Int := if 0 ≤ w ∧ w < E 597 23 then mkE E w (E 602 579).toNat else -1
theorem k141 {E m : Mm} {w : Int} (B : BS E m) (R : RS E m) (K : Int → Mm → Prop) (kk : ∀ m', fR m m' → BS E m' → RS E m' → K (s_fit E w) m') : TrI 141 [(1, 1), (0, w)] m K := by
  have P1 := B.p.1
  refine e141 _ ⟨B.sP, ?_⟩
  rw [B.pn]
  unfold s_fit at kk
  refine ⟨fun h => q76 B R fun m5 f5 B5 R5 r5 => ⟨by omega, ?_⟩, fun h => ?_⟩
  · rw [if_pos h] at kk
    rw [show m5 437 w = mkE E w (E 602 579).toNat from (r5.2.1 w h.1 h.2).2.2.1]
    exact kk m5 f5 B5 R5
  · rw [if_neg h] at kk
    exact kk m fR.refl B R
theorem r234 {E : Mm} {w : Int} (m : Mm) (B : BS E m) (K : Int → Mm → Prop) (kk : ∀ m', gR m m' → m' 597 40 = 0 → K (s_fit E w) m') : TrI 234 [(1, 597), (0, w)] m K := by
  have P1 := B.p.1
  have T3 := B.t.2.2.1
  refine e234 _ fun m1 e1 => ?_
  obtain ⟨f1, B1⟩ := B.th e1
  rw [B1.a.n, in_w (by omega)]
  unfold s_fit at kk
  refine ⟨fun h => ?_, fun h => ?_⟩
  · rw [if_pos h] at kk
    have loop : ∀ (n e : Nat) (m2 : Mm), e + n = (E 602 579).toNat → f227 m1 m2 → X 234 19 [(1, 597), (0, w), (0, mkE E w e), (0, (e : Int))] [] m2 (qI K) := by
      intro n
      induction n with
      | zero =>
        intro e m2 he f2
        have A2 := f2.ag B1.a
        refine w234_19 _ _ _ ⟨A2.b.trans B.t.1, fun hh => absurd hh (by rw [A2.e]; omega), fun _ => ?_⟩
        rw [show e = (E 602 579).toNat by omega]
        exact kk m2 (f1.tr fun x k n1 n2 => f2 x k (by omega)) (by rw [f2 _ _ (by decide)]; exact B1.h0)
      | succ n ih =>
        intro e m2 he f2
        have A2 := f2.ag B1.a
        have eE : 0 ≤ (e : Int) ∧ (e : Int) < E 602 579 := by omega
        have px := xw_rng B.t B.w (w := w) (e := e)
        have go : ∀ (a : Int) (m5 : Mm), a = mkE E w (e + 1) → f227 m2 m5 → X 234 19 [(1, 597), (0, w), (0, a), (0, wr ((e : Int) + 1))] [] m5 (qI K) := fun a m5 ha f5 => by
          rw [ha, wrI (x := (e : Int) + 1) (by omega) (by omega)]
          exact ih (e + 1) m5 (by omega) fun x k hn => (f5 x k hn).trans (f2 x k hn)
        refine w234_19 _ _ _ ⟨A2.b.trans B.t.1, fun _ => ?_, fun hh => absurd (show (e : Int) < m2 602 579 by rw [A2.e]; exact eE.2) hh⟩
        refine c227 B.t B.p B.w A2 h eE fun m5 f5 _ => ?_
        show (cvt (xw E w e) < 0 → _) ∧ (¬ cvt (xw E w e) < 0 → _)
        refine ⟨fun hh => go _ m5 ?_ f5, fun hh => go _ m5 ?_ f5⟩
        · conv => rhs; unfold mkE
          rw [if_neg (fun hx => by unfold cvt at hh; rw [if_pos hx] at hh; omega)]
          exact ior_0 (mkE_32 e)
        · conv => rhs; unfold mkE
          rw [if_pos (by
            unfold cvt at hh
            split at hh
            · assumption
            · exact absurd (by decide) hh)]
    exact loop (E 602 579).toNat 0 m1 (Nat.zero_add _) (fun _ _ _ => rfl)
  · rw [if_neg h] at kk
    exact kk m1 f1 B1.h0
