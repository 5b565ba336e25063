/-! fault, entry, letter, written, open, fixed, keep, count -/
section BQ
variable {sh : (Int → Int) → Int → List Int} {E m : Mm}
theorem CS.to (S : CS sh E m) : TO E m := S.2.2.2.1
theorem CS.th {m1 : Mm} (S : CS sh E m) (e : m1 = umem m 597 0 0) : CS sh E m1 := by
  obtain ⟨f1, B1⟩ := S.b.th e
  exact S.gQ f1 B1.h0
theorem p_fault {a : Int} {K : Int → Int → Mm → Prop} (S : CS sh E m) (kk : ∀ F m' s, CS sh F m' → K s s m') : TrI 66 [(1, 1), (0, a)] m fun v1 m1 => TrI 167 [(1, 597), (0, a)] m1 fun v2 m2 => K v1 v2 m2 := by
  obtain ⟨-, -, t3, t4⟩ := S.to.1
  have go : ∀ v, (a = 0 → v = m 597 4) → (¬ a = 0 → a = 1 → v = m 597 5) → (¬ a = 0 → ¬ a = 1 → v = -1) → TrI 167 [(1, 597), (0, a)] m fun v2 m2 => K v v2 m2 := fun v h1 h2 h3 => by
    refine e167 _ fun m1 e1 => ?_
    have S1 := S.th e1
    rw [e1, um_k (by decide), um_k (by decide), ← e1]
    exact ⟨fun h => by rw [h1 h]; exact kk E m1 _ S1, fun h => ⟨fun q => by rw [h2 h q]; exact kk E m1 _ S1, fun q => by rw [h3 h q]; exact kk E m1 _ S1⟩⟩
  refine e66 _ ⟨fun h => go _ (fun _ => t3) (fun q => absurd h q) fun q => absurd h q, fun h => ⟨fun q => go _ (fun p => absurd p h) (fun _ _ => t4) fun _ p => absurd q p, fun q => go _ (fun p => absurd p h) (fun _ p => absurd p q) fun _ _ => rfl⟩⟩
/-- entry -/
def s_ent (E : Mm) (e q : Int) : Int := if (0 ≤ e ∧ e < E 602 579) ∧ 0 ≤ q ∧ q ≤ 2 then E 602 (264 + 11 * e + q) else -1
theorem k67 {e q : Int} (B : BS E m) (R : RS E m) (K : Int → Mm → Prop) (kk : ∀ m', fR m m' → BS E m' → RS E m' → K (s_ent E e q) m') : TrI 67 [(1, 1), (0, e), (0, q)] m K := by
  have T3 := B.t.2.2.1
  have go := kk m fR.refl B R
  unfold s_ent at go
  refine e67 _ _ ⟨B.sT, ?_⟩
  rw [B.en]
  refine ⟨fun h => ⟨B.sT, by omega, fun h2 => ?_, fun h2 => ?_, fun h2 => ?_, fun h2 => ?_⟩, fun h => ?_⟩
  · rw [if_neg (by omega)] at go
    exact go
  · have := (B.ct.2.2.2.2.2.2.2.1 e h.1 h.2).2.1
    rw [if_pos (by omega), h2, Int.add_zero, ← this] at go
    exact go
  · have := (B.ct.2.2.2.2.2.2.2.1 e h.1 h.2).2.2.1
    rw [if_pos (by omega), h2, ← this] at go
    exact go
  · have := (B.ct.2.2.2.2.2.2.2.1 e h.1 h.2).2.2.2.1
    rw [if_pos (by omega), h2, ← this] at go
    exact go
  · rw [if_neg (fun q => h q.1)] at go
    exact go
theorem r204 {e q : Int} (m : Mm) (B : BS E m) (K : Int → Mm → Prop) (kk : ∀ m', gR m m' → m' 597 40 = 0 → K (s_ent E e q) m') : TrI 204 [(1, 597), (0, e), (0, q)] m K := by
  have T3 := B.t.2.2.1
  refine e204 _ _ fun m1 e1 => ?_
  obtain ⟨f1, B1⟩ := B.th e1
  have go := kk m1 f1 B1.h0
  unfold s_ent at go
  rw [B1.a.b.trans B.t.1, B1.a.e, in_w (by omega)]
  refine ⟨rfl, fun h => ⟨fun h2 => ?_, fun h2 => ?_⟩, fun h => ?_⟩
  · have qq : wr (wr (264 + wr (11 * e)) + q) = 264 + 11 * e + q := by
      rw [wrI (x := 11 * e) (by omega) (by omega), wrI (x := 264 + 11 * e) (by omega) (by omega), wrI (by omega) (by omega)]
    rw [qq]
    clear qq
    rw [if_pos ⟨h, h2⟩] at go
    rw [B1.a.a (show 264 + 11 * e + q < 583 by omega)]
    exact ⟨⟨rfl, by omega⟩, go⟩
  · rw [if_neg (fun q => h2 q.2)] at go
    exact go
  · rw [if_neg (fun q => h q.1)] at go
    exact go
/-- letter -/
def s_let (E : Mm) (o w i : Int) : Int := if i < 0 then -1 else if o = 0 then (if 0 ≤ w ∧ w < E 602 579 then (if i < esz E w then 97 + E 602 (264 + 11 * w + 3 + i) else -2) else -1) else (if 0 ≤ w ∧ w < E 602 578 then (if i < bsz E w then 97 + E 602 (11 * w + 5 + i) else -2) else -1)
theorem k69 {o w i : Int} (B : BS E m) (R : RS E m) (K : Int → Mm → Prop) (kk : ∀ m', fR m m' → BS E m' → RS E m' → K (s_let E o w i) m') : TrI 69 [(1, 1), (0, o), (0, w), (0, i)] m K := by
  have T2 := B.t.2.1
  have T3 := B.t.2.2.1
  have go := kk m fR.refl B R
  unfold s_let at go
  refine e69 _ _ _ ⟨fun h => ?_, fun h => ?_⟩
  · rw [if_pos h] at go
    exact go
  · rw [if_neg h] at go
    refine ⟨fun h2 => ⟨B.sT, ?_⟩, fun h2 => ⟨B.sT, ?_⟩⟩
    · rw [if_pos h2] at go
      rw [B.en]
      refine ⟨fun h3 => ?_, fun h3 => ?_⟩
      · rw [if_pos h3] at go
        have ce := B.ct.2.2.2.2.2.2.2.1 w h3.1 h3.2
        have hl := (B.t.2.2.2.2.2.2.2.1 w h3.1 h3.2)
        refine w69_29 _ _ _ _ ⟨fun _ => ⟨B.sT, by omega, ce.v B.t h3, ?_⟩, fun q => absurd h2 q⟩
        have sz : m (m 1 3 + 54 + 2 * w) 1 = esz E w := ce.2.1
        unfold lAt
        rw [sz]
        by_cases h4 : i < esz E w
        · rw [if_pos h4] at go
          have e4 := ce.2.2.2.2 i (by omega) (by unfold esz at h4; exact h4)
          have hr := hl.2.2.2 i (by omega) h4
          rw [if_pos ⟨by omega, h4⟩, e4]
          exact ⟨fun q => by omega, fun _ => go⟩
        · rw [if_neg h4] at go
          rw [if_neg (fun q => h4 q.2)]
          exact ⟨fun _ => go, fun q => absurd rfl q⟩
      · rw [if_neg h3] at go
        exact go
    · rw [if_neg h2] at go
      rw [B.rn]
      refine ⟨fun h3 => ?_, fun h3 => ?_⟩
      · rw [if_pos h3] at go
        have cr := B.ct.2.2.2.2.2.2.1 w h3.1 h3.2
        have hM := B.t.2.2.2.2.2.2.1 w h3.1 h3.2
        refine w69_29 _ _ _ _ ⟨fun q => absurd q h2, fun _ => ⟨B.sT, by omega, cr.v hM, ?_⟩⟩
        have sz : m (m 1 3 + 6 + 2 * w) 2 = bsz E w := cr.2.2.1
        unfold lAt
        rw [sz]
        by_cases h4 : i < bsz E w
        · rw [if_pos h4] at go
          have e4 := cr.2.2.2.1 i (by omega) (by unfold bsz at h4; exact h4)
          have hr := hM.2.2.2.2.2.2 i (by omega) h4
          rw [if_pos ⟨by omega, h4⟩, e4]
          exact ⟨fun q => by omega, fun _ => go⟩
        · rw [if_neg h4] at go
          rw [if_neg (fun q => h4 q.2)]
          exact ⟨fun _ => go, fun q => absurd rfl q⟩
      · rw [if_neg h3] at go
        exact go
theorem r206 {o w i : Int} (m : Mm) (B : BS E m) (K : Int → Mm → Prop) (kk : ∀ m', gR m m' → m' 597 40 = 0 → K (s_let E o w i) m') : TrI 206 [(1, 597), (0, o), (0, w), (0, i)] m K := by
  have T2 := B.t.2.1
  have T3 := B.t.2.2.1
  refine e206 _ _ _ fun m1 e1 => ?_
  obtain ⟨f1, B1⟩ := B.th e1
  have go := kk m1 f1 B1.h0
  have b0 := B1.a.b.trans B.t.1
  unfold s_let at go
  rw [b0, B1.a.e, B1.a.r, in_w (by omega), in_w (by omega)]
  refine ⟨fun h => ?_, fun h => ?_⟩
  · rw [if_pos h] at go
    exact go
  · rw [if_neg h] at go
    refine ⟨fun h2 => ⟨rfl, fun h3 => ?_, fun h3 => ?_⟩, fun h2 => ⟨rfl, fun h3 => ?_, fun h3 => ?_⟩⟩
    · rw [if_pos h2, if_pos h3] at go
      have hl := (B.t.2.2.2.2.2.2.2.1 w h3.1 h3.2)
      have q1 : wr (264 + wr (11 * w)) = 264 + 11 * w := by
        rw [wrI (x := 11 * w) (by omega) (by omega), wrI (by omega) (by omega)]
      refine w206_34 _ _ _ _ ⟨fun _ => ?_, fun q => absurd h2 q⟩
      rw [q1]
      have q1' : 0 ≤ 264 + 11 * w ∧ 264 + 11 * w < 583 := by clear q1; omega
      rw [B1.a.a q1'.2]
      refine ⟨⟨b0, q1'.1, by clear q1; omega⟩, w206_63 _ _ _ _ _ ⟨fun h4 => ⟨fun _ => ?_, fun q => absurd h2 q⟩, fun h4 => ?_⟩⟩
      · have h5 : i < esz E w := h4
        have q2 : wr (wr (wr (264 + wr (11 * w)) + 3) + i) = 264 + 11 * w + 3 + i := by
          rw [q1, wrI (x := 264 + 11 * w + 3) (by clear q1; omega) (by clear q1; omega), wrI (by clear q1; omega) (by clear q1; omega)]
        rw [q2]
        clear q1 q2
        have hr := hl.2.2.2 i (by omega) h5
        rw [if_pos h5] at go
        rw [B1.a.a (show 264 + 11 * w + 3 + i < 583 by omega), wrI (by omega) (by omega)]
        exact ⟨⟨b0, by omega⟩, go⟩
      · rw [if_neg (show ¬ i < esz E w from h4)] at go
        exact go
    · rw [if_pos h2, if_neg h3] at go
      exact go
    · rw [if_neg h2, if_pos h3] at go
      have hM := B.t.2.2.2.2.2.2.1 w h3.1 h3.2
      have h6 := hM.2.2.2.1
      have q1 : wr (wr (11 * w) + 1) = 11 * w + 1 := by
        rw [wrI (x := 11 * w) (by omega) (by omega), wrI (by omega) (by omega)]
      refine w206_34 _ _ _ _ ⟨fun q => absurd q h2, fun _ => ?_⟩
      rw [q1]
      have q1' : 0 ≤ 11 * w + 1 ∧ 11 * w + 1 < 583 := by clear q1; omega
      rw [B1.a.a q1'.2]
      refine ⟨⟨b0, q1'.1, by clear q1; omega⟩, w206_63 _ _ _ _ _ ⟨fun h4 => ⟨fun q => absurd q h2, fun _ => ?_⟩, fun h4 => ?_⟩⟩
      · have h5 : i < bsz E w := h4
        have q2 : wr (wr (wr (11 * w) + 5) + i) = 11 * w + 5 + i := by
          rw [wrI (x := 11 * w) (by clear q1; omega) (by clear q1; omega), wrI (x := 11 * w + 5) (by clear q1; omega) (by clear q1; omega), wrI (by clear q1; omega) (by clear q1; omega)]
        rw [q2]
        clear q1 q2
        have hr := hM.2.2.2.2.2.2 i (by omega) h5
        rw [if_pos h5] at go
        rw [B1.a.a (show 11 * w + 5 + i < 583 by omega), wrI (by omega) (by omega)]
        exact ⟨⟨b0, by omega⟩, go⟩
      · rw [if_neg (show ¬ i < bsz E w from h4)] at go
        exact go
    · rw [if_neg h2, if_neg h3] at go
      exact go
/-- written -/
def s_wri (E : Mm) (w i : Int) : Int := if 0 ≤ w ∧ w < E 597 23 then (if i < 0 then -1 else if i < E 604 w then byB (E 603 (10 * w + i)) else -2) else -1
theorem k73 {w i : Int} (B : BS E m) (R : RS E m) (K : Int → Mm → Prop) (kk : ∀ m', fR m m' → BS E m' → RS E m' → K (s_wri E w i) m') : TrI 73 [(1, 1), (0, w), (0, i)] m K := by
  have P1 := B.p.1
  have go := kk m fR.refl B R
  unfold s_wri at go
  refine e73 _ _ ⟨B.sP, ?_⟩
  rw [B.pn]
  refine ⟨fun h => ?_, fun h => ?_⟩
  · rw [if_pos h] at go
    refine ⟨fun h2 => ?_, fun h2 => ?_⟩
    · rw [if_pos h2] at go
      exact go
    · rw [if_neg h2] at go
      have P2 := (B.p.2 w h.1 h.2).1
      have cp := B.cp.2.2 w h.1 h.2
      rw [cp.1]
      refine ⟨B.sP, by omega, fun h3 => ⟨by omega, ?_⟩, fun h3 => ?_⟩
      · rw [if_pos h3] at go
        rw [(cp.2.2 i (by omega) h3).2.2]
        exact go
      · rw [if_neg h3] at go
        exact go
  · rw [if_neg h] at go
    exact go
theorem c211 {b : Int} {K : Int → Mm → Prop} (hb : (0 ≤ b ∧ b < 26) ∨ (32 ≤ b ∧ b < 42)) (kk : K (byB b) m) : TrI 211 [(1, 597), (0, b)] m K := by
  unfold byB at kk
  refine e211 _ ⟨fun h => ?_, fun h => ?_⟩
  · rw [if_pos h] at kk
    rw [wrI (by omega) (by omega)]
    exact kk
  · rw [if_neg h] at kk
    have q : wr (b - 32) = b - 32 := wrI (by omega) (by omega)
    rw [q]
    clear q
    exact ⟨by omega, kk⟩
theorem r209 {w i : Int} (m : Mm) (B : BS E m) (K : Int → Mm → Prop) (kk : ∀ m', gR m m' → m' 597 40 = 0 → K (s_wri E w i) m') : TrI 209 [(1, 597), (0, w), (0, i)] m K := by
  have P1 := B.p.1
  refine e209 _ _ fun m1 e1 => ?_
  obtain ⟨f1, B1⟩ := B.th e1
  have go := kk m1 f1 B1.h0
  unfold s_wri at go
  rw [B1.a.n, in_w (by omega)]
  refine ⟨fun h => ?_, fun h => ?_⟩
  · rw [if_pos h] at go
    refine ⟨fun h2 => ?_, fun h2 => ?_⟩
    · rw [if_pos h2] at go
      exact go
    · rw [if_neg h2] at go
      have P2 := (B.p.2 w h.1 h.2)
      rw [B1.a.s]
      refine ⟨by omega, fun h3 => ?_, fun h3 => ?_⟩
      · rw [if_pos h3] at go
        have hb := P2.2 i (by omega) h3
        have P3 := P2.1
        have q : wr (wr (10 * w) + i) = 10 * w + i := by
          rw [wrI (x := 10 * w) (by omega) (by omega), wrI (by omega) (by omega)]
        rw [q]
        clear q
        rw [B1.a.p]
        exact ⟨by omega, c211 hb go⟩
      · rw [if_neg h3] at go
        exact go
  · rw [if_neg h] at go
    exact go
end BQ
