/-! what a choice gives and takes: hasChoice(113), lettersOf(114), followsChoice(239); choice -/
theorem chE_x {E : Mm} {w : Int} : ∀ n : Nat, ∀ q ∈ chE E w n, xw E w q.1 < 1000000 := by
  intro n
  induction n with
  | zero => intro q hq; exact absurd hq (List.not_mem_nil)
  | succ n ih =>
    intro q hq
    unfold chE at hq
    rw [List.mem_append] at hq
    rcases hq with hq | hq
    · exact ih q hq
    · split at hq
      · rw [List.mem_singleton] at hq
        subst hq
        assumption
      · exact absurd hq (List.not_mem_nil)
theorem chE_ge {E : Mm} {w : Int} : ∀ {n : Nat} {q : Int × Int}, q ∈ chE E w n → 0 ≤ q.1 := by
  intro n
  induction n with
  | zero => intro q hq; exact absurd hq (List.not_mem_nil)
  | succ n ih =>
    intro q hq
    unfold chE at hq
    rw [List.mem_append] at hq
    rcases hq with hq | hq
    · exact ih hq
    · split at hq
      · rw [List.mem_singleton] at hq
        subst hq
        exact Int.natCast_nonneg n
      · exact absurd hq (List.not_mem_nil)
theorem cE_fin {E : Mm} (T : InvT E) {w i : Int} (hi : 0 ≤ i ∧ i < cN E w) : (0 ≤ cE E w i → xw E w (cE E w i) < 1000000) ∧ (cE E w i = -2 → ocw E w < 1000000) := by
  have T3 := T.2.2.1
  have hl : i.toNat < (chs E w).length := by unfold cN at hi; omega
  have hq := List.getElem_mem hl
  have he : cE E w i = ((chs E w)[i.toNat]).1 := by
    unfold cE
    rw [List.getElem?_eq_getElem hl]
    rfl
  rw [he]
  have key : ∀ q ∈ chs E w, (0 ≤ q.1 → xw E w q.1 < 1000000) ∧ (q.1 = -2 → ocw E w < 1000000) := by
    intro q hq
    unfold chs at hq
    split at hq
    · split at hq
      · rename_i hx
        rw [List.mem_singleton] at hq
        subst hq
        exact ⟨fun h => absurd (show (0 : Int) ≤ -2 from h) (by decide), fun _ => hx⟩
      · rw [List.mem_singleton] at hq
        subst hq
        exact ⟨fun h => absurd (show (0 : Int) ≤ -3 from h) (by decide), fun h => absurd (show (-3 : Int) = -2 from h) (by decide)⟩
    · refine ⟨fun _ => chE_x _ q hq, fun h => ?_⟩
      have := chE_ge hq
      omega
  exact key _ hq
def wRs (E : Mm) (w : Int) : List Int := if ocw E w < 1000000 then wR E w (E 604 w).toNat (-1) else []
/-- the letters that a choice gives, the readings that it takes -/
def ltW (E : Mm) (w who : Int) : List Int := if 0 ≤ who then elt E who else if who = -2 then wLs E w else []
def tkW (E : Mm) (w who : Int) : List Int := if 0 ≤ who then xRs E w who else if who = -2 then wRs E w else []
theorem ltW_len {E : Mm} (T : InvT E) (Pg : InvP E) {w who : Int} (hw : 0 ≤ w ∧ w < E 597 23) (h : who < E 602 579) : (ltW E w who).length ≤ 60 := by
  unfold ltW
  split
  · have := (T.2.2.2.2.2.2.2.1 who ‹_› h).1
    rw [elt_len]
    omega
  · split
    · exact wLs_len T Pg hw
    · decide
theorem wRs_len {E : Mm} (T : InvT E) (Pg : InvP E) {w : Int} (hw : 0 ≤ w ∧ w < E 597 23) : (wRs E w).length ≤ 10 := by
  have P2 := (Pg.2 w hw.1 hw.2).1
  unfold wRs
  split
  · have := (wL_len T (w := w) (E 604 w).toNat (-1) ‹_›).2
    omega
  · decide
theorem tkW_len {E : Mm} (T : InvT E) (Pg : InvP E) {w who : Int} (hw : 0 ≤ w ∧ w < E 597 23) : (tkW E w who).length ≤ 10 := by
  unfold tkW
  split
  · exact xRs_len Pg hw
  · split
    · exact wRs_len T Pg hw
    · decide
theorem wnow_0 {E : Mm} {r : Int} : 0 ≤ wnow E r := by
  unfold wnow
  omega
theorem tkW_rng {E : Mm} (T : InvT E) (Pg : InvP E) {w who : Int} (hw : 0 ≤ w ∧ w < E 597 23) : ∀ r ∈ tkW E w who, 0 ≤ r ∧ r < E 602 578 := by
  intro r hr
  have P2 := (Pg.2 w hw.1 hw.2).1
  unfold tkW at hr
  split at hr
  · unfold xRs at hr
    split at hr
    · exact xR_rng (E 604 w).toNat 0 ‹_› (fun r _ _ => wnow_0) r hr
    · exact absurd hr (List.not_mem_nil)
  · split at hr
    · unfold wRs at hr
      split at hr
      · exact (wL_rng T Pg hw (E 604 w).toNat (-1) (by omega) ‹_›).2 r hr
      · exact absurd hr (List.not_mem_nil)
    · exact absurd hr (List.not_mem_nil)
theorem ltW_rng {E : Mm} (T : InvT E) (Pg : InvP E) {w who : Int} (hw : 0 ≤ w ∧ w < E 597 23) (h : who < E 602 579) : ∀ l ∈ ltW E w who, 0 ≤ l ∧ l < 26 := by
  intro l hl
  unfold ltW at hl
  split at hl
  · rename_i h0
    unfold elt at hl
    rw [List.mem_map] at hl
    obtain ⟨j, hj, rfl⟩ := hl
    rw [List.mem_range] at hj
    exact (T.2.2.2.2.2.2.2.1 who h0 h).2.2.2 j (by omega) (by omega)
  · split at hl
    · exact wLs_rng T Pg hw hl
    · exact absurd hl (List.not_mem_nil)
theorem c113 {E m : Mm} {K : Int → Mm → Prop} {w p : Int} (B : BS E m) (r : Res E m) (yes : (0 ≤ w ∧ w < E 597 23) ∧ (0 ≤ p ∧ p < cN E w) → K 1 m) (no : ¬ ((0 ≤ w ∧ w < E 597 23) ∧ (0 ≤ p ∧ p < cN E w)) → K 0 m) : TrI 113 [(1, 1), (0, w), (0, p)] m K := by
  have P1 := B.p.1
  refine e113 _ _ ⟨B.sP, ?_⟩
  rw [B.pn]
  refine ⟨fun h => ⟨fun h2 => no (by omega), fun h2 => ⟨by omega, ?_⟩⟩, fun h => no fun q => h q.1⟩
  rw [show m 438 w = (cN E w : Int) from (r.2.1 w h.1 h.2).2.2.2.1]
  exact ⟨fun h3 => yes ⟨h, by omega⟩, fun h3 => no (by omega)⟩
theorem c114 {E m : Mm} {K : Int → Mm → Prop} {w p : Int} (B : BS E m) (r : Res E m) (hw : 0 ≤ w ∧ w < E 597 23) (hp : 0 ≤ p ∧ p < cN E w) (kk : K ((ltW E w (cE E w p)).length) m) : TrI 114 [(1, 1), (0, w), (0, p)] m K := by
  have P1 := B.p.1
  have T3 := B.t.2.2.1
  have n2 := (chs_len B.t (w := w)).2
  have n24 : (cN E w : Int) ≤ 24 := by unfold cN; omega
  have D := r.2.1 w hw.1 hw.2
  have c1 := cE_in B.t B.p B.w hw hp
  have e4 : m (440 + w) p = cE E w p := (D.2.2.2.at hp).1
  refine e114 _ _ ⟨by omega, by omega, B.sT, ?_⟩
  rw [e4, B.en]
  unfold ltW at kk
  refine ⟨fun h => ⟨B.sT, by omega, ?_⟩, fun h => ⟨fun h2 => ?_, fun h2 => ?_⟩⟩
  · rw [if_pos h.1] at kk
    have := (B.ct.2.2.2.2.2.2.2.1 _ h.1 h.2).2.1
    rw [this]
    rw [elt_len] at kk
    have hs := (B.t.2.2.2.2.2.2.2.1 _ h.1 h.2).1
    rw [show (((esz E (cE E w p)).toNat : Nat) : Int) = E 602 (264 + 11 * cE E w p) by unfold esz at hs ⊢; omega] at kk
    exact kk
  · rw [if_neg (by omega), if_pos h2] at kk
    rw [show m 414 w = (wLs E w).length from D.1.2.2.1]
    exact kk
  · rw [if_neg (by omega), if_neg h2] at kk
    exact kk
def f239 (m m' : Mm) : Prop := ∀ x k, ¬ (608 ≤ x ∧ x ≤ 612) → ¬ (x = 597 ∧ (k = 31 ∨ k = 33)) → m' x k = m x k
theorem f239.ag {E m m' : Mm} (h : f239 m m') (A : Ag E m) : Ag E m' := A.fr fun x k hp => by
  unfold per at hp
  exact h x k (by omega) (by omega)
theorem c239 {E m : Mm} {K : Mm → Prop} {w p : Int} (T : InvT E) (Pg : InvP E) (W : InvW E) (A : Ag E m) (hw : 0 ≤ w ∧ w < E 597 23) (hp : 0 ≤ p ∧ p < cN E w)
    (kk : ∀ m', f239 m m' → S3 m' (ltW E w (cE E w p)) (tkW E w (cE E w p)) → K m') : TrV 239 [(1, 597), (0, w), (0, cE E w p)] m K := by
  have c1 := cE_in T Pg W hw hp
  have cf := cE_fin T hp
  refine e239 _ _ fun m1 e1 m3 e3 => ?_
  have f3 : f239 m m3 := fun x k n1 n2 => by rw [e3, um_n (by omega), e1, um_n (by omega)]
  unfold ltW tkW at kk
  refine ⟨fun h => ?_, fun h => ?_⟩
  · rw [if_neg (show ¬ 0 ≤ cE E w p by omega), if_neg (show ¬ 0 ≤ cE E w p by omega)] at kk
    refine ⟨fun h2 => ?_, fun h2 => ?_⟩
    · rw [if_pos h2, if_pos h2] at kk
      have hx := cf.2 h2
      unfold wLs wRs at kk
      rw [if_pos hx, if_pos hx] at kk
      refine c223 T Pg W (f3.ag A) hw (fun m5 _ _ hn => absurd hx hn) (fun m5 f5 _ _ S => kk m5 (fun x k n1 n2 => ?_) S)
      rw [f5 x k (by omega) n2]
      exact f3 x k n1 n2
    · rw [if_neg h2, if_neg h2] at kk
      refine kk m3 f3 ⟨?_, LA.nil, ?_, LA.nil⟩
      · rw [e3, um_k (by decide), e1, um_s]
        rfl
      · rw [e3, um_s]
        rfl
  · rw [if_pos (show 0 ≤ cE E w p by omega), if_pos (show 0 ≤ cE E w p by omega)] at kk
    have hx := cf.1 (by omega)
    unfold xRs at kk
    rw [if_pos hx] at kk
    refine c233 T Pg W (f3.ag A) hw ⟨by omega, c1.2.1⟩ (fun m5 _ hn => absurd hx hn) (fun m5 f5 _ S => kk m5 (fun x k n1 n2 => ?_) S)
    rw [f5 x k (by omega) n2]
    exact f3 x k n1 n2
/-- choice -/
def s_cho (E : Mm) (w p q : Int) : Int := if ((0 ≤ w ∧ w < E 597 23) ∧ (0 ≤ p ∧ p < cN E w)) ∧ 0 ≤ q ∧ q ≤ 2 then (if q = 0 then cE E w p else if q = 1 then cC E w p else (ltW E w (cE E w p)).length) else -9
theorem k112 {E m : Mm} {w p q : Int} (B : BS E m) (R : RS E m) (K : Int → Mm → Prop) (kk : ∀ m', fR m m' → BS E m' → RS E m' → K (s_cho E w p q) m') : TrI 112 [(1, 1), (0, w), (0, p), (0, q)] m K := by
  have P1 := B.p.1
  refine e112 _ _ _ (q76 B R fun m1 f1 B1 R1 r1 => ?_)
  have go := kk m1 f1 B1 R1
  unfold s_cho at go
  refine c113 B1 r1 (fun h => ?_) (fun h => ?_)
  · have n2 := (chs_len B.t (w := w)).2
    have n24 : (cN E w : Int) ≤ 24 := by unfold cN; omega
    have D := (r1.2.1 w h.1.1 h.1.2).2.2.2.at h.2
    refine ⟨fun h0 => absurd h0 (by decide), fun _ => ⟨fun h2 => ?_, fun h2 => ⟨by omega, by omega, ?_⟩, fun h2 => ⟨by omega, by omega, ?_⟩, fun h2 => ?_⟩⟩
    · rw [if_neg (by omega)] at go
      exact go
    · rw [if_pos ⟨h, by omega⟩, if_pos h2] at go
      rw [show m1 (440 + w) p = cE E w p from D.1]
      exact go
    · rw [if_pos ⟨h, by omega⟩, if_neg (by omega), if_pos h2] at go
      rw [show m1 (451 + w) p = cC E w p from D.2]
      exact go
    · rw [if_pos ⟨h, by omega⟩, if_neg (by omega), if_neg (by omega)] at go
      exact c114 B1 r1 h.1 h.2 go
  · rw [if_neg (fun q => h q.1)] at go
    exact ⟨fun _ => go, fun h0 => absurd rfl h0⟩
theorem r238 {E : Mm} {w p q : Int} (m : Mm) (B : BS E m) (K : Int → Mm → Prop) (kk : ∀ m', gR m m' → m' 597 40 = 0 → K (s_cho E w p q) m') : TrI 238 [(1, 597), (0, w), (0, p), (0, q)] m K := by
  have P1 := B.p.1
  refine e238 _ _ _ fun m1 e1 => ?_
  obtain ⟨f1, B1⟩ := B.th e1
  rw [B1.a.n, in_w (by omega)]
  unfold s_cho at kk
  refine ⟨fun h => ⟨fun hq => ?_, fun hq => ?_⟩, fun h => ?_⟩
  · refine c236 B.t B.p B.w B1.a h fun m7 f7 C7 => ⟨by omega, ?_⟩
    have n2 := (chs_len B.t (w := w)).2
    have n24 : (cN E w : Int) ≤ 24 := by unfold cN; omega
    have A7 := f7.ag B1.a
    have g7 : gR m m7 := f1.tr f7.g
    have h7 : m7 597 40 = 0 := by rw [f7 _ _ (by decide) (by omega) (by omega)]; exact B1.h0
    rw [show m7 615 w = (cN E w : Int) from C7.1, in_w (by omega)]
    refine ⟨fun hp => ?_, fun hp => ?_⟩
    · have q1 : wr (wr (24 * w) + p) = 24 * w + p := by
        rw [wrI (x := 24 * w) (by omega) (by omega), wrI (by omega) (by omega)]
      rw [q1, (C7.at hp).1, (C7.at hp).2]
      clear q1
      rw [if_pos ⟨⟨h, hp⟩, hq⟩] at kk
      refine ⟨fun h2 => ⟨fun h3 => ⟨by omega, ?_⟩, fun h3 => ⟨by omega, ?_⟩⟩, fun h2 => ⟨by omega, ?_⟩⟩
      · rw [if_pos h3] at kk
        exact kk m7 g7 h7
      · rw [if_neg h3, if_pos (by omega)] at kk
        exact kk m7 g7 h7
      · rw [if_neg (by omega), if_neg (by omega)] at kk
        refine c239 B.t B.p B.w A7 h hp fun m9 f9 S9 => ?_
        rw [S9.1]
        exact kk m9 (g7.tr fun x k n1 n2 => f9 x k (by omega) (by omega)) (by rw [f9 _ _ (by decide) (by decide)]; exact h7)
    · rw [if_neg (fun q => hp q.1.2)] at kk
      exact kk m7 g7 h7
  · rw [if_neg (fun q => hq q.2)] at kk
    exact kk m1 f1 B1.h0
  · rw [if_neg (fun q => h q.1.1)] at kk
    exact kk m1 f1 B1.h0
