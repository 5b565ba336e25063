/-! questions of the public face, one by one: the class's answer (k..), the reference's (r..), both of one value -/
theorem BS.pn {E m : Mm} (B : BS E m) : m (m 1 5) 4 = E 597 23 := B.2.2.2.2.2.2.2.2.1.2.1
theorem BS.rn {E m : Mm} (B : BS E m) : m (m 1 3) 5 = E 602 578 := B.2.2.2.2.2.2.1.2.1
theorem BS.en {E m : Mm} (B : BS E m) : m (m 1 3) 6 = E 602 579 := B.2.2.2.2.2.2.1.2.2.1
theorem BS.a {E m : Mm} (B : BS E m) : Ag E m := B.2.2.2.1
theorem BS.t {E m : Mm} (B : BS E m) : InvT E := B.1
theorem BS.p {E m : Mm} (B : BS E m) : InvP E := B.2.1
theorem BS.w {E m : Mm} (B : BS E m) : InvW E := B.2.2.1
theorem BS.h0 {E m : Mm} (B : BS E m) : m 597 40 = 0 := B.2.2.2.2.2.1
theorem BS.ct {E m : Mm} (B : BS E m) : CT E m (m 1 3) := B.2.2.2.2.2.2.1
theorem BS.cp {E m : Mm} (B : BS E m) : CP E m (m 1 5) := B.2.2.2.2.2.2.2.2.1
theorem BS.wo {E m : Mm} (B : BS E m) : E 597 27 = -1 := B.2.2.2.2.1
theorem BS.th {E m m1 : Mm} (B : BS E m) (e : m1 = umem m 597 0 0) : gR m m1 ∧ BS E m1 := by
  have f : gR m m1 := fun x k n1 n2 => by rw [e, um_n (by omega)]
  exact ⟨f, B.gQ f (by rw [e, um_k (by decide)]; exact B.h0)⟩
/-- isIn(w, 0, n - 1) -/
theorem in_w {w n : Int} (hn : 0 ≤ n ∧ n ≤ 100) : (0 ≤ w ∧ w ≤ wr (n - 1)) ↔ (0 ≤ w ∧ w < n) := by
  rw [wrI (by omega) (by omega)]
  omega
theorem pairI {E m : Mm} {M M' : Nat} {as as' : List aV} {s : Int} {K : Int → Int → Mm → Prop} (B : BS E m) (R : RS E m) (h1 : ∀ K : Int → Mm → Prop, (∀ m', fR m m' → BS E m' → RS E m' → K s m') → TrI M as m K) (h2 : ∀ m1 : Mm, BS E m1 → ∀ K : Int → Mm → Prop, (∀ m', gR m1 m' → m' 597 40 = 0 → K s m') → TrI M' as' m1 K)
    (kk : ∀ m1 m', fR m m1 → gR m1 m' → BS E m' → RS E m' → K s s m') : TrI M as m fun v m1 => TrI M' as' m1 fun v' m2 => K v v' m2 :=
  h1 _ fun m1 f1 B1 R1 => h2 m1 B1 _ fun m2 f2 z2 => kk m1 m2 f1 f2 (B1.gQ f2 z2) (R1.gQ B.p f2)
theorem pairL {E m : Mm} {M M' : Nat} {as as' : List aV} {s : Int} {K : Int → Int → Mm → Prop} (B : BS E m) (R : RS E m) (h1 : ∀ K : Int → Mm → Prop, (∀ m', fR m m' → BS E m' → RS E m' → K s m') → TrL M as m K) (h2 : ∀ m1 : Mm, BS E m1 → ∀ K : Int → Mm → Prop, (∀ m', gR m1 m' → m' 597 40 = 0 → K s m') → TrL M' as' m1 K)
    (kk : ∀ m1 m', fR m m1 → gR m1 m' → BS E m' → RS E m' → K s s m') : TrL M as m fun v m1 => TrL M' as' m1 fun v' m2 => K v v' m2 :=
  h1 _ fun m1 f1 B1 R1 => h2 m1 B1 _ fun m2 f2 z2 => kk m1 m2 f1 f2 (B1.gQ f2 z2) (R1.gQ B.p f2)
/-- refresh, for a question -/
theorem q76 {E m : Mm} {K : Mm → Prop} (B : BS E m) (R : RS E m) (kk : ∀ m', fR m m' → BS E m' → RS E m' → Res E m' → K m') : TrV 76 [(1, 1)] m K :=
  c76 B R fun m' f' B' _ r' a' => kk m' f' B' ⟨fun _ => r', a'⟩ r'
/-- openings -/
def s_opn (E : Mm) (w : Int) : Int := if 0 ≤ w ∧ w < E 597 23 then min 1000000000000 (oww E w) else -1
theorem k75 {E m : Mm} {w : Int} (B : BS E m) (R : RS E m) (K : Int → Mm → Prop) (kk : ∀ m', fR m m' → BS E m' → RS E m' → K (s_opn E w) m') : TrL 75 [(1, 1), (0, w)] m K := by
  have P1 := B.p.1
  refine e75 _ ⟨B.sP, ?_⟩
  rw [B.pn]
  refine ⟨fun h => q76 B R fun m5 f5 B5 R5 r5 => ⟨by omega, ?_⟩, fun h => ?_⟩
  · rw [show m5 412 w = oww E w from (r5.2.1 w h.1 h.2).1.2.1]
    have := kk m5 f5 B5 R5
    unfold s_opn at this
    rw [if_pos h] at this
    exact this
  · have := kk m fR.refl B R
    unfold s_opn at this
    rw [if_neg h] at this
    exact this
theorem r212 {E : Mm} {w : Int} (m : Mm) (B : BS E m) (K : Int → Mm → Prop) (kk : ∀ m', gR m m' → m' 597 40 = 0 → K (s_opn E w) m') : TrL 212 [(1, 597), (0, w)] m K := by
  have P1 := B.p.1
  refine e212 _ fun m1 e1 => ?_
  obtain ⟨f1, B1⟩ := B.th e1
  rw [B1.a.n, in_w (by omega)]
  refine ⟨fun h => c213 B.t B.p B.w B1.a h fun m5 f5 R5 => ?_, fun h => ?_⟩
  · have hr := (R5 (E 604 w).toNat (by have := (B.p.2 w h.1 h.2).1; omega) (-1) (by decide) (by decide)).1
    have h6 := (B.p.2 w h.1 h.2).1
    rw [show 27 * (E 604 w - ((E 604 w).toNat : Int)) + -1 + 1 = 0 by omega] at hr
    have := kk m5 (f1.tr fun x k n1 n2 => f5 x k (by omega) (by omega)) (by rw [f5 _ _ (by decide) (by decide)]; exact B1.h0)
    unfold s_opn at this
    rw [if_pos h] at this
    rw [hr]
    exact this
  · have := kk m1 f1 B1.h0
    unfold s_opn at this
    rw [if_neg h] at this
    exact this
/-- least -/
def s_lst (E : Mm) (w : Int) : Int := if 0 ≤ w ∧ w < E 597 23 then cvt (ocw E w) else -1
theorem k104 {E m : Mm} {w : Int} (B : BS E m) (R : RS E m) (K : Int → Mm → Prop) (kk : ∀ m', fR m m' → BS E m' → RS E m' → K (s_lst E w) m') : TrI 104 [(1, 1), (0, w)] m K := by
  have P1 := B.p.1
  refine e104 _ ⟨B.sP, ?_⟩
  rw [B.pn]
  refine ⟨fun h => q76 B R fun m5 f5 B5 R5 r5 => ⟨by omega, ?_⟩, fun h => ?_⟩
  · rw [show m5 413 w = ocw E w from (r5.2.1 w h.1 h.2).1.1]
    have := kk m5 f5 B5 R5
    unfold s_lst at this
    rw [if_pos h] at this
    exact this
  · have := kk m fR.refl B R
    unfold s_lst at this
    rw [if_neg h] at this
    exact this
theorem r221 {E : Mm} {w : Int} (m : Mm) (B : BS E m) (K : Int → Mm → Prop) (kk : ∀ m', gR m m' → m' 597 40 = 0 → K (s_lst E w) m') : TrI 221 [(1, 597), (0, w)] m K := by
  have P1 := B.p.1
  refine e221 _ fun m1 e1 => ?_
  obtain ⟨f1, B1⟩ := B.th e1
  rw [B1.a.n, in_w (by omega)]
  refine ⟨fun h => c213 B.t B.p B.w B1.a h fun m5 f5 R5 => ?_, fun h => ?_⟩
  · have hr := (R5 (E 604 w).toNat (by have := (B.p.2 w h.1 h.2).1; omega) (-1) (by decide) (by decide)).2
    have h6 := (B.p.2 w h.1 h.2).1
    rw [show 27 * (E 604 w - ((E 604 w).toNat : Int)) + -1 + 1 = 0 by omega] at hr
    have := kk m5 (f1.tr fun x k n1 n2 => f5 x k (by omega) (by omega)) (by rw [f5 _ _ (by decide) (by decide)]; exact B1.h0)
    unfold s_lst at this
    rw [if_pos h] at this
    rw [hr]
    exact this
  · have := kk m1 f1 B1.h0
    unfold s_lst at this
    rw [if_neg h] at this
    exact this
/-- letter i of a list, or none -/
def ltA (l : List Int) (off i : Int) : Int := if h : i.toNat < l.length then off + l[i.toNat] else -2
theorem ltA_y {l : List Int} {off i : Int} (h0 : 0 ≤ i) (h : i < l.length) {m : Mm} {x : Int} (L : LA m x off l) : m x i = ltA l off i := by
  have hl : i.toNat < l.length := by omega
  unfold ltA
  rw [dif_pos hl]
  have := L i.toNat hl
  rw [show ((i.toNat : Nat) : Int) = i by omega] at this
  exact this
theorem ltA_n {l : List Int} {off i : Int} (h0 : 0 ≤ i) (h : ¬ i < l.length) : ltA l off i = -2 := by
  unfold ltA
  rw [dif_neg (by omega)]
theorem ltA_off {l : List Int} {off i : Int} (h0 : 0 ≤ i) (h : i < l.length) : ltA l off i = off + ltA l 0 i := by
  have hl : i.toNat < l.length := by omega
  unfold ltA
  rw [dif_pos hl, dif_pos hl]
  omega
theorem ltA_rng {l : List Int} {i : Int} (h0 : 0 ≤ i) (h : i < l.length) (hr : ∀ x ∈ l, 0 ≤ x ∧ x < 26) : 0 ≤ ltA l 0 i ∧ ltA l 0 i < 26 := by
  have hl : i.toNat < l.length := by omega
  unfold ltA
  rw [dif_pos hl]
  have := hr _ (List.getElem_mem hl)
  omega
theorem wLs_len {E : Mm} (T : InvT E) (Pg : InvP E) {w : Int} (hw : 0 ≤ w ∧ w < E 597 23) : (wLs E w).length ≤ 60 := by
  have P2 := (Pg.2 w hw.1 hw.2).1
  unfold wLs
  split
  · have := (wL_len T (w := w) (E 604 w).toNat (-1) ‹_›).1
    omega
  · decide
/-- leastLetter -/
def s_lle (E : Mm) (w i : Int) : Int := if 0 ≤ w ∧ w < E 597 23 then (if i < 0 then -1 else ltA (wLs E w) 97 i) else -1
theorem k106 {E m : Mm} {w i : Int} (B : BS E m) (R : RS E m) (K : Int → Mm → Prop) (kk : ∀ m', fR m m' → BS E m' → RS E m' → K (s_lle E w i) m') : TrI 106 [(1, 1), (0, w), (0, i)] m K := by
  have P1 := B.p.1
  refine e106 _ _ ⟨B.sP, ?_⟩
  rw [B.pn]
  unfold s_lle at kk
  refine ⟨fun h => ?_, fun h => ?_⟩
  · rw [if_pos h] at kk
    refine ⟨fun hi => ?_, fun hi => q76 B R fun m5 f5 B5 R5 r5 => ⟨by omega, ?_⟩⟩
    · rw [if_pos hi] at kk
      exact kk m fR.refl B R
    · rw [if_neg hi] at kk
      have L := (r5.2.1 w h.1 h.2).1.2.2
      have hl := wLs_len B.t B.p h
      rw [show m5 414 w = (wLs E w).length from L.1]
      refine ⟨fun h2 => ⟨by omega, ?_⟩, fun h2 => ?_⟩
      · have : m5 (416 + w) i = ltA (wLs E w) 97 i := ltA_y (by omega) h2 L.2
        rw [this]
        exact kk m5 f5 B5 R5
      · have := kk m5 f5 B5 R5
        rw [ltA_n (by omega) h2] at this
        exact this
  · rw [if_neg h] at kk
    exact kk m fR.refl B R
theorem r222 {E : Mm} {w i : Int} (m : Mm) (B : BS E m) (K : Int → Mm → Prop) (kk : ∀ m', gR m m' → m' 597 40 = 0 → K (s_lle E w i) m') : TrI 222 [(1, 597), (0, w), (0, i)] m K := by
  have P1 := B.p.1
  refine e222 _ _ fun m1 e1 => ?_
  obtain ⟨f1, B1⟩ := B.th e1
  rw [B1.a.n, in_w (by omega)]
  unfold s_lle at kk
  refine ⟨fun h => ?_, fun h => ?_⟩
  · rw [if_pos h] at kk
    refine ⟨fun hi => ?_, fun hi => ?_⟩
    · rw [if_pos hi] at kk
      exact kk m1 f1 B1.h0
    · rw [if_neg hi] at kk
      have hl := wLs_len B.t B.p h
      have fg : ∀ m5, (∀ x k, ¬ (608 ≤ x ∧ x ≤ 611) → ¬ (x = 597 ∧ (k = 31 ∨ k = 33)) → m5 x k = m1 x k) → gR m m5 ∧ m5 597 40 = 0 := fun m5 f5 => ⟨f1.tr fun x k n1 n2 => f5 x k (by omega) (by omega), by rw [f5 _ _ (by decide) (by decide)]; exact B1.h0⟩
      refine c223 B.t B.p B.w B1.a h (fun m5 f5 _ hx => ⟨fun _ => ?_, fun h2 => absurd rfl h2⟩) (fun m5 f5 _ hx S => ⟨fun h2 => absurd h2 (by decide), fun _ => ?_⟩)
      · have := kk m5 (fg m5 f5).1 (fg m5 f5).2
        unfold wLs at this
        rw [if_neg (show ¬ ocw E w < 1000000 from hx), ltA_n (by omega) (by simp; omega)] at this
        exact this
      · have hW : wLs E w = wL E w (E 604 w).toNat (-1) := if_pos (show ocw E w < 1000000 from hx)
        rw [← hW] at S
        rw [S.1]
        refine ⟨fun h2 => ⟨by omega, ?_⟩, fun h2 => ?_⟩
        · have e0 : m5 610 i = ltA (wLs E w) 0 i := ltA_y (by omega) h2 S.2.1
          have := kk m5 (fg m5 f5).1 (fg m5 f5).2
          rw [ltA_off (by omega) h2, ← e0] at this
          have hb : 0 ≤ m5 610 i ∧ m5 610 i < 26 := by
            rw [e0]
            exact ltA_rng (by omega) h2 fun l hl => wLs_rng B.t B.p h hl
          rw [wrI (by omega) (by omega)]
          exact this
        · have := kk m5 (fg m5 f5).1 (fg m5 f5).2
          rw [ltA_n (by omega) h2] at this
          exact this
  · rw [if_neg h] at kk
    exact kk m1 f1 B1.h0
