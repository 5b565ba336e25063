/-! sure, without -/
def suB (E : Mm) : Nat → Int
  | 0 => 0
  | n + 1 => if loS E n > totS E (canS E) then ior (suB E n) (ishl 1 n) else suB E n
theorem suB_32 {E : Mm} : ∀ n : Nat, ∃ y : Int32, suB E n = y.toInt := by
  intro n
  induction n with
  | zero => exact ⟨0, rfl⟩
  | succ n ih =>
    unfold suB
    split
    · exact ⟨_, rfl⟩
    · exact ih
def s_sur (E : Mm) : Int := if totS E (canS E) < 1000000 then suB E (E 597 23).toNat else -2
theorem k127 {E m : Mm} (B : BS E m) (R : RS E m) (K : Int → Mm → Prop) (kk : ∀ m', fR m m' → BS E m' → RS E m' → K (s_sur E) m') : TrI 127 [(1, 1)] m K := by
  have P1 := B.p.1
  refine e127 (q76 B R fun m1 f1 B1 R1 r1 => ?_)
  have go := kk m1 f1 B1 R1
  unfold s_sur at go
  rw [r1.2.2.2.2.1]
  refine ⟨fun ht => ?_, fun ht => ?_⟩
  · rw [if_pos ht] at go
    have loop : ∀ (n w : Nat), (w : Int) + n = E 597 23 → X 127 24 [(1, 1), (0, suB E w), (0, (w : Int))] [] m1 (qI K) := by
      intro n
      induction n with
      | zero =>
        intro w hw
        refine w127_24 _ _ ⟨B1.sP, fun h => absurd h (by rw [B1.pn]; omega), fun _ => ?_⟩
        rw [show w = (E 597 23).toNat by omega]
        exact go
      | succ n ih =>
        intro w hw
        refine w127_24 _ _ ⟨B1.sP, fun _ => ?_, fun h => absurd (show (w : Int) < m1 (m1 1 5) 4 by rw [B1.pn]; omega) h⟩
        refine c125 B.t B.p B.w (Or.inl rfl) (Or.inl rfl) r1.ca r1.2.2 (by omega) ?_
        rw [wrI (x := (w : Int) + 1) (by omega) (by omega), r1.2.2.2.2.1]
        have := ih (w + 1) (by omega)
        unfold suB at this
        refine ⟨fun h => ?_, fun h => ?_⟩
        · rw [if_pos h] at this
          exact this
        · rw [if_neg h] at this
          exact this
    exact loop (E 597 23).toNat 0 (by omega)
  · rw [if_neg ht] at go
    exact go
theorem r261 {E : Mm} (m : Mm) (B : BS E m) (K : Int → Mm → Prop) (kk : ∀ m', gR m m' → m' 597 40 = 0 → K (s_sur E) m') : TrI 261 [(1, 597)] m K := by
  have P1 := B.p.1
  have tg := tot_ge B.t B.p B.w
  have cg := cvt_ge tg.1
  refine e261 fun m1 e1 => ?_
  obtain ⟨f1, B1⟩ := B.th e1
  unfold s_sur at kk
  refine c249 B.t B.p B.w B1.a B1.h0 fun m3 f3 C3 P3 => ⟨fun h2 => ?_, fun h2 => ?_⟩
  · have ht := cg.1 h2
    rw [if_neg ht] at kk
    exact kk m3 (f1.tr f3.g) (f3.h B1)
  · obtain ⟨ht, hc⟩ := cg.2 h2
    rw [if_pos ht] at kk
    rw [hc]
    have loop : ∀ (n w : Nat) (m4 : Mm), (w : Int) + n = E 597 23 → f257 m3 m4 → m4 597 40 = 0 → X 261 21 [(1, 597), (0, totS E (canS E)), (0, suB E w), (0, (w : Int))] [] m4 (qI K) := by
      intro n
      induction n with
      | zero =>
        intro w m4 hw f4 z4
        have A4 := f4.ag (f3.ag B1.a)
        refine w261_21 _ _ _ ⟨fun h => absurd h (by rw [A4.n]; omega), fun _ => ?_⟩
        rw [show w = (E 597 23).toNat by omega]
        exact kk m4 ((f1.tr f3.g).tr f4.g) z4
      | succ n ih =>
        intro w m4 hw f4 z4
        have A4 := f4.ag (f3.ag B1.a)
        have C4 : CA E m4 := C3.fr fun x k x0 x1 => f4 x k (by omega) (by omega)
        have hwE : (w : Int) < E 597 23 := by omega
        have og := ot_ge B.t B.p B.w (w := w) (p := bsP E w) hwE
        have lw : loS E w = otS E w (bsP E w) := if_pos ht
        refine w261_21 _ _ _ ⟨fun _ => ?_, fun h => absurd (show (w : Int) < m4 597 23 by rw [A4.n]; exact hwE) h⟩
        refine c259 B.t B.p B.w A4 C4 hwE (by rw [f4 _ _ (by decide) (by omega)]; exact P3 ht w hwE) fun m5 f5 x5 => ?_
        rw [wrI (x := (w : Int) + 1) (by omega) (by omega), ← lw]
        rw [← lw] at og
        have f35 : f257 m3 m5 := fun x k n1 n2 => (f5 x k n1 n2).trans (f4 x k n1 n2)
        have co := cvt_ge (c := loS E w) (by omega)
        have go := ih (w + 1) m5 (by omega) f35 x5
        unfold suB at go
        refine ⟨fun h => ?_, fun h => ?_⟩
        · have hle : ¬ loS E w > totS E (canS E) := by
            unfold cvt at h
            split at h <;> omega
          rw [if_neg hle] at go
          rw [ior_0 (suB_32 w)]
          exact go
        · have hle : loS E w > totS E (canS E) := by
            unfold cvt at h
            split at h <;> omega
          rw [if_pos hle] at go
          exact go
    exact loop (E 597 23).toNat 0 m3 (by omega) (fun _ _ _ _ => rfl) (f3.h B1)
/-! without: the same page with a reading left out -/
theorem InvT.er {E F : Mm} (T : InvT E) (h2 : ∀ k, F 602 k = E 602 k) (h3 : F 597 16 = E 597 16) : InvT F := by
  unfold InvT v_M esz at T ⊢
  simp only [h2, h3]
  exact T
theorem InvP.er {E F : Mm} (T : InvP E) (h2 : ∀ k, F 603 k = E 603 k) (h3 : ∀ k, F 604 k = E 604 k) (h4 : F 597 23 = E 597 23) : InvP F := by
  unfold InvP at T ⊢
  simp only [h2, h3, h4]
  exact T
theorem InvW.er {E F : Mm} (T : InvW E) (h2 : ∀ k, F 607 k = E 607 k) : InvW F := by
  unfold InvW at T ⊢
  simp only [h2]
  exact T
theorem CT.er {E F m : Mm} {t : Int} (T : CT E m t) (h2 : ∀ k, F 602 k = E 602 k) : CT F m t := by
  unfold CT CR CE at T ⊢
  simp only [h2]
  exact T
theorem CP.er {E F m : Mm} {p : Int} (T : CP E m p) (h2 : ∀ k, F 603 k = E 603 k) (h3 : ∀ k, F 604 k = E 604 k) (h4 : F 597 23 = E 597 23) : CP F m p := by
  unfold CP at T ⊢
  simp only [h2, h3, h4]
  exact T
theorem wnow_ge {E : Mm} {r : Int} : 0 ≤ wnow E r := by
  unfold wnow
  omega
/-- which entries fit doesn't hang on the weights; a reading left out adds none -/
theorem ex_sub {E F : Mm} {w e : Int} (h2 : ∀ k, k < 583 → F 602 k = E 602 k) (h3 : ∀ k, F 603 k = E 603 k) (h4 : ∀ k, F 604 k = E 604 k) (he : 0 ≤ e ∧ e < 24) (h8 : 0 ≤ esz E e ∧ esz E e ≤ 8) (hT : ∀ r, 0 ≤ r → r < E 602 578 → v_M E r) (WE : InvW E) (TE : InvT E) (hw : E 597 27 = -1) : ∀ (d : Nat) (k : Int), d ≤ 10 → 0 ≤ k ∧ k ≤ esz E e → ex F w e d k < 1000000 → ex E w e d k < 1000000 := by
  intro d
  induction d with
  | zero =>
    intro k _ hk h
    unfold ex at h ⊢
    have e1 : esz F e = esz E e := h2 _ (by omega)
    rw [e1] at h
    exact h
  | succ d ih =>
    intro k hd hk h
    have e1 : esz F e = esz E e := h2 _ (by omega)
    by_cases hs : E 603 (10 * w + (E 604 w - (d + 1 : Nat))) < 32
    · have hsF : F 603 (10 * w + (F 604 w - (d + 1 : Nat))) < 32 := by rw [h4, h3]; exact hs
      obtain ⟨q1, q2⟩ := ex_let hsF h
      unfold ex at h ⊢
      rw [if_pos hsF] at h
      rw [if_pos hs]
      split at h
      · rename_i hc
        have e2 : eL F e k = eL E e k := h2 _ (by omega)
        rw [h4, h3, e1, e2] at hc
        rw [if_pos hc]
        exact ih (k + 1) (by omega) (by omega) h
      · exact absurd h (by decide)
    · have hsF : ¬ F 603 (10 * w + (F 604 w - (d + 1 : Nat))) < 32 := by rw [h4, h3]; exact hs
      obtain ⟨q1, ⟨q2, q3⟩, q4, q5⟩ := xst_ok hsF h
      generalize xst F w e d k = r at q1 q2 q3 q4
      rw [h2 578 (by decide)] at q1
      have hM := hT r q1.1 q1.2
      have r24 := hM.2.1
      have hb := hM.2.2.2.1
      have hbs : bsz F r = bsz E r := h2 _ (by omega)
      have hst : stM F r e k = stM E r e k := by
        unfold stM
        rw [hbs, e1]
        congr 1
        refine allN_congr fun i i0 i1 => ?_
        have : bsz E r ≤ 6 := hb.2
        rw [h2 (11 * r + 5 + i) (by omega), h2 (264 + 11 * e + 3 + (k + i)) (by omega)]
      have hlo : lasO F e k = lasO E e k := by
        unfold lasO
        rw [h2 (264 + 11 * e + 3 + (k - 1)) (by omega)]
      have hfit : fitM E r (lasO E e k) w (E 604 w - (d + 1 : Nat)) = true := by
        rw [hlo] at q2
        unfold fitM at q2 ⊢
        rw [h2 (11 * r) (by omega), h2 (11 * r + 2) (by omega), h2 (11 * r + 3) (by omega), h3, h3, h4] at q2
        rw [Bool.and_eq_true] at q2 ⊢
        exact ⟨decide_eq_true (by omega), q2.2⟩
      rw [hst] at q3
      have hle := stM_le q3
      have hw0 := wnow_ge (E := F) (r := r)
      have hx : ex E w e d (k + bsz E r) < 1000000 := by
        refine ih (k + bsz E r) (by omega) ⟨?_, hle⟩ (by rw [← hbs]; omega)
        have : 0 ≤ bsz E r := hb.1
        omega
      have hx2 := ex_fin TE WE (w := w) (e := e) d (k + bsz E r) hx
      have hwr := wnow_rng TE WE r24.1 r24.2
      conv => lhs; unfold ex
      rw [if_neg hs]
      have hm := minF_at (n := (E 602 578).toNat) (f := gX E w e d k) (i := r) q1.1 (by omega)
      have hg : gX E w e d k r = wnow E r + ex E w e d (k + bsz E r) := by
        unfold gX
        rw [if_pos (by rw [Bool.and_eq_true]; exact ⟨hfit, q3⟩)]
      have hlt : minF (E 602 578).toNat (gX E w e d k) < 1000000 := by omega
      exact hlt
theorem xw_sub {E F : Mm} {w e : Int} (TE : InvT E) (PE : InvP E) (WE : InvW E) (h2 : ∀ k, k < 583 → F 602 k = E 602 k) (h3 : ∀ k, F 603 k = E 603 k) (h4 : ∀ k, F 604 k = E 604 k) (hwo : E 597 27 = -1) (hw : 0 ≤ w ∧ w < E 597 23) (he : 0 ≤ e ∧ e < E 602 579) (h : xw F w e < 1000000) : xw E w e < 1000000 := by
  have P2 := (PE.2 w hw.1 hw.2).1
  have T3 := TE.2.2.1
  have h8 := (TE.2.2.2.2.2.2.2.1 e he.1 he.2).1
  unfold xw at h ⊢
  rw [h4] at h
  exact ex_sub h2 h3 h4 ⟨he.1, by omega⟩ ⟨by omega, h8.2⟩ TE.2.2.2.2.2.2.1 WE TE hwo (E 604 w).toNat 0 (by omega) ⟨Int.le_refl _, by omega⟩ h
def eWo (E : Mm) (r : Int) : Mm := umem E 597 27 r
theorem eWo_x {E : Mm} {r x k : Int} (h : x ≠ 597) : eWo E r x k = E x k := um_x h
theorem eWo_k {E : Mm} {r x k : Int} (h : k ≠ 27) : eWo E r x k = E x k := um_k h
def s_wio (E : Mm) (r : Int) : Int := if 0 ≤ r ∧ r < E 602 578 then cvt (totS (eWo E r) (canS (eWo E r))) else -1
theorem k128 {E m : Mm} {r : Int} (B : BS E m) (R : RS E m) (K : Int → Mm → Prop) (kk : ∀ m', fR m m' → BS E m' → RS E m' → K (s_wio E r) m') : TrI 128 [(1, 1), (0, r)] m K := by
  have P1 := B.p.1
  refine e128 _ ⟨B.sT, ?_⟩
  rw [B.rn]
  unfold s_wio at kk
  refine ⟨fun h => c76 B R fun m5 f5 B5 z5 r5 a5 => ?_, fun h => ?_⟩
  · rw [if_pos h] at kk
    have FT : InvT (eWo E r) := B.t.er (fun k => eWo_x (by decide)) (eWo_k (by decide))
    have FP : InvP (eWo E r) := B.p.er (fun k => eWo_x (by decide)) (fun k => eWo_x (by decide)) (eWo_k (by decide))
    have FW : InvW (eWo E r) := B.w.er (fun k => eWo_x (by decide))
    have e27 : eWo E r 597 27 = r := um_s
    have e23 : eWo E r 597 23 = E 597 23 := eWo_k (by decide)
    have c5 : CT (eWo E r) m5 (m5 1 3) := B5.ct.er fun k => eWo_x (by decide)
    have w7 : ∀ s, 0 ≤ s → s < eWo E r 602 578 → v_W m5 280 s (eWo E r 602 581) ∧ max 0 (m5 (280 + 1) s - eWo E r 602 581 * m5 (280 + 2) s) = wnow (eWo E r) s := by
      intro s s0 s1
      rw [eWo_x (by decide)] at s1
      have := B5.w77 s s0 s1
      have e : wnow (eWo E r) s = wnow E s := by
        unfold wnow
        rw [eWo_x (by decide), eWo_x (by decide), eWo_x (by decide)]
      rw [e, eWo_x (by decide)]
      exact this
    have key := c77 (E := eWo E r) (K := fun m7 => TrV 79 [(1, 461), (1, (m7 1 3)), (1, (m7 1 5)), (1, 370), (1, 595)] m7 fun m9 => TrV 96 [(1, 546), (1, (m9 1 3)), (1, 461), (1, 283)] m9 fun m11 => K (if (m11 546 1) < 1000000 then (m11 546 1) else -2) m11) FT c5 rfl w7 fun m7 f7 O7 => by
      have B7 : BS E m7 := B5.fQ fun x k n1 n2 n3 n4 => f7 x k (by omega) (by omega)
      have e3 : m7 1 3 = m5 1 3 := f7 _ _ (by decide) (by decide)
      rw [e3]
      have c7 : CT (eWo E r) m7 (m5 1 3) := by rw [← e3]; exact B7.ct.er fun k => eWo_x (by decide)
      have p7 : CP (eWo E r) m7 (m7 1 5) := B7.cp.er (fun k => eWo_x (by decide)) (fun k => eWo_x (by decide)) (eWo_k (by decide))
      refine c79 FT FP FW c7 p7 O7 (Or.inr rfl) rfl (fun w w0 w1 e e0 e1 hb hx => ?_) fun m9 f9 x9 D9 => ?_
      · rw [e23] at w1
        rw [eWo_x (by decide)] at e1
        refine a5 w w0 w1 e e0 e1 (by rw [← f7 595 w (by decide) (by omega)]; exact hb) ?_
        exact xw_sub B.t B.p B.w (fun k _ => eWo_x (by decide)) (fun k => eWo_x (by decide)) (fun k => eWo_x (by decide)) B.wo ⟨w0, w1⟩ ⟨e0, e1⟩ hx
      · have B9 : BS E m9 := B7.fQ fun x k n1 n2 n3 n4 => f9 x k (by omega) (by omega) (by omega)
        have c9 : CT (eWo E r) m9 (m9 1 3) := B9.ct.er fun k => eWo_x (by decide)
        refine c96 FT FP FW c9 (Or.inr rfl) (Or.inr rfl) ⟨x9, fun v v0 v1 => (D9 v v0 v1).2.2.2⟩ (fun v v0 v1 => ?_) fun m11 f11 y1 y2 y3 y4 y5 => ?_
        · rw [e23] at v1
          have := B9.fx v0 v1
          unfold fxE at this ⊢
          rw [eWo_x (by decide)]
          exact this
        · rw [y3]
          have fa : ∀ x k, ¬ (370 ≤ x ∧ x < 411) → ¬ (461 ≤ x ∧ x < 511) → ¬ (546 ≤ x ∧ x < 581) → m11 x k = m5 x k := fun x k n1 n2 n3 => by
            rw [f11 x k (by omega), f9 x k (by omega) (by omega) (by omega), f7 x k (by omega) (by omega)]
          have f5' : fR m5 m11 := fun x k n1 n2 n3 n4 => fa x k (by omega) (by omega) (by omega)
          exact kk m11 (f5.tr f5') (B5.fQ f5') ⟨fun _ => r5.fr B.p fun x k x0 x1 x2 => fa x k (by omega) (by omega) (by omega), a5.fr fun k => fa _ _ (by decide) (by decide) (by decide)⟩
    rw [e27] at key
    exact key
  · rw [if_neg h] at kk
    exact kk m fR.refl B R
theorem r262 {E : Mm} {r : Int} (m : Mm) (B : BS E m) (K : Int → Mm → Prop) (kk : ∀ m', gR m m' → m' 597 40 = 0 → K (s_wio E r) m') : TrI 262 [(1, 597), (0, r)] m K := by
  have P1 := B.p.1
  have T2 := B.t.2.1
  refine e262 _ fun m1 e1 => ?_
  obtain ⟨f1, B1⟩ := B.th e1
  rw [B1.a.b.trans B.t.1, B1.a.r, in_w (by omega)]
  unfold s_wio at kk
  refine ⟨rfl, fun h => fun m7 e7 => ?_, fun h => ?_⟩
  · rw [if_pos h] at kk
    have FT : InvT (eWo E r) := B.t.er (fun k => eWo_x (by decide)) (eWo_k (by decide))
    have FP : InvP (eWo E r) := B.p.er (fun k => eWo_x (by decide)) (fun k => eWo_x (by decide)) (eWo_k (by decide))
    have FW : InvW (eWo E r) := B.w.er (fun k => eWo_x (by decide))
    have A7 : Ag (eWo E r) m7 := fun x k hp => by
      by_cases hx : x = 597 ∧ k = 27
      · rw [hx.1, hx.2, e7, um_s]
        exact um_s.symm
      · rw [e7, um_n hx]
        exact (B1.a x k hp).trans (um_n hx).symm
    refine c241 FT FP FW A7 fun m9 f9 C9 => ?_
    have A9 := f9.ag A7
    refine c242 FT FP FW A9 (hk := 0) (hv := m9 597 38) (hp := m9 597 39) C9 ⟨by rw [f9 _ _ (by decide), e7, um_k (by decide)]; exact B1.h0, rfl, rfl⟩ fun m11 f11 _ => ?_
    rw [canH_0]
    intro m14 e14
    refine kk m14 (f1.tr fun x k n1 n2 => ?_) ?_
    · by_cases hx : x = 597 ∧ k = 27
      · rw [hx.1, hx.2, e14, um_s, B1.a.w]
        exact B.wo.symm
      · rw [e14, um_n hx, f11 x k (by omega), f9 x k (by omega), e7, um_n hx]
    · rw [e14, um_k (by decide), f11 _ _ (by decide), f9 _ _ (by decide), e7, um_k (by decide)]
      exact B1.h0
  · rw [if_neg h] at kk
    exact kk m1 f1 B1.h0
