/-! count; open where it throws nothing -/
section CQ
variable {sh : (Int → Int) → Int → List Int} {E m : Mm}
/-- words whose first choice is one -/
def wtS (E : Mm) (who : Int) : Nat → Int
  | 0 => 0
  | n + 1 => wtS E who n + (if cE E n 0 = who then 1 else 0)
theorem wt_rng {E : Mm} {who : Int} : ∀ n : Nat, 0 ≤ wtS E who n ∧ wtS E who n ≤ n := by
  intro n
  induction n with
  | zero => exact ⟨Int.le_refl _, Int.le_refl _⟩
  | succ n ih =>
    unfold wtS
    split <;> omega
theorem c160 {who : Int} {K : Int → Mm → Prop} (B : BS E m) (r : Res E m) (kk : K (wtS E who (E 597 23).toNat) m) : TrI 160 [(1, 1), (0, who)] m K := by
  have P1 := B.p.1
  refine e160 _ ?_
  have loop : ∀ (n w : Nat), (w : Int) + n = E 597 23 → X 160 4 [(1, 1), (0, who), (0, wtS E who w), (0, (w : Int))] [] m (qI K) := by
    intro n
    induction n with
    | zero =>
      intro w hw
      refine w160_4 _ _ _ ⟨B.sP, fun h => absurd h (by rw [B.pn]; omega), fun _ => ?_⟩
      rw [show w = (E 597 23).toNat by omega]
      exact kk
    | succ n ih =>
      intro w hw
      have := ih (w + 1) (by omega)
      have wr' := wt_rng (E := E) (who := who) w
      have n1 := (chs_len B.t (w := w)).1
      have h0 : (0 : Int) ≤ 0 ∧ (0 : Int) < cN E w := ⟨Int.le_refl _, by unfold cN; omega⟩
      have e4 : m (440 + (w : Int)) 0 = cE E w 0 := ((r.2.1 w (by omega) (by omega)).2.2.2.at h0).1
      refine w160_4 _ _ _ ⟨B.sP, fun _ => ⟨by omega, ?_⟩, fun h => absurd (show (w : Int) < m (m 1 5) 4 by rw [B.pn]; omega) h⟩
      rw [e4, wrI (x := (w : Int) + 1) (by omega) (by omega)]
      unfold wtS at this
      refine ⟨fun h => ?_, fun h => ?_⟩
      · rw [if_pos h] at this
        rw [wrI (x := wtS E who w + 1) (by omega) (by omega)]
        exact this
      · rw [if_neg h, Int.add_zero] at this
        exact this
  exact loop (E 597 23).toNat 0 (by omega)
theorem c284 {who : Int} {K : Int → Mm → Prop} (B : BS E m) (kk : ∀ m', gR m m' → m' 597 40 = 0 → K (wtS E who (E 597 23).toNat) m') : TrI 284 [(1, 597), (0, who)] m K := by
  have P1 := B.p.1
  refine e284 _ ?_
  have loop : ∀ (n w : Nat) (m1 : Mm), (w : Int) + n = E 597 23 → gR m m1 → m1 597 40 = 0 → X 284 4 [(1, 597), (0, who), (0, wtS E who w), (0, (w : Int))] [] m1 (qI K) := by
    intro n
    induction n with
    | zero =>
      intro w m1 hw f z
      have B1 := B.gQ f z
      refine w284_4 _ _ _ ⟨fun h => absurd h (by rw [B1.a.n]; omega), fun _ => ?_⟩
      rw [show w = (E 597 23).toNat by omega]
      exact kk m1 f z
    | succ n ih =>
      intro w m1 hw f z
      have B1 := B.gQ f z
      have wr' := wt_rng (E := E) (who := who) w
      have n1 := (chs_len B.t (w := w)).1
      have h0 : (0 : Int) ≤ 0 ∧ (0 : Int) < cN E w := ⟨Int.le_refl _, by unfold cN; omega⟩
      refine w284_4 _ _ _ ⟨fun _ => ?_, fun h => absurd (show (w : Int) < m1 597 23 by rw [B1.a.n]; omega) h⟩
      refine c236 B1.t B1.p B1.w B1.a ⟨by omega, by omega⟩ fun m3 f3 C3 => ?_
      have e3 : m3 613 (24 * (w : Int)) = cE E w 0 := by
        have := (C3.at h0).1
        rw [Int.add_zero] at this
        exact this
      have q : wr (24 * (w : Int)) = 24 * w := wrI (by omega) (by omega)
      rw [q]
      clear q
      have := ih (w + 1) m3 (by omega) (f.tr f3.g) (by rw [f3 _ _ (by decide) (by omega) (by omega)]; exact z)
      rw [e3, wrI (x := (w : Int) + 1) (by omega) (by omega)]
      unfold wtS at this
      refine ⟨by omega, fun h => ?_, fun h => ?_⟩
      · rw [if_pos h] at this
        rw [wrI (x := wtS E who w + 1) (by omega) (by omega)]
        exact this
      · rw [if_neg h] at this
        rw [wrI (x := wtS E who w + 0) (by omega) (by omega)]
        exact this
  exact loop (E 597 23).toNat 0 m (by omega) gR.refl B.h0
theorem p_count {a : Int} {K : Int → Int → Mm → Prop} (S : CS sh E m) (kk : ∀ F m' s, CS sh F m' → K s s m') : TrI 159 [(1, 1), (0, a)] m fun v1 m1 => TrI 283 [(1, 597), (0, a)] m1 fun v2 m2 => K v1 v2 m2 := by
  have B := S.b
  have T := B.t
  -- the reference, for each question
  have rf : ∀ (m0 : Mm) (v : Int), CS sh E m0 → (a < 0 ∨ 9 < a → v = -1) → (a = 0 → v = E 602 578) → (a = 1 → v = E 602 579) → (a = 2 → v = E 597 23) → (a = 3 → v = E 602 580) → (a = 4 → v = E 602 581) → (a = 5 → v = tmS E) → (a = 6 → v = m0 597 25) → (a = 7 → v = m0 597 2) → (a = 8 → v = wtS E (-3) (E 597 23).toNat) → (a = 9 → v = wtS E (-2) (E 597 23).toNat) → TrI 283 [(1, 597), (0, a)] m0 fun v2 m2 => K v v2 m2 := by
    intro m0 v S0 h h0 h1 h2 h3 h4 h5 h6 h7 h8 h9
    refine e283 _ fun m1 e1 => ?_
    have S1 := S0.th e1
    have B1 := S1.b
    have b0 := B1.a.b.trans T.1
    rw [B1.a.r, B1.a.e, B1.a.n, B1.a.g, B1.a.a (show (581 : Int) < 583 by decide)]
    have x25 : m1 597 25 = m0 597 25 := by rw [e1, um_k (by decide)]
    have x2 : m1 597 2 = m0 597 2 := by rw [e1, um_k (by decide)]
    rw [x25, x2]
    refine ⟨fun q => ?_, fun q => ⟨b0, ?_⟩, fun q => ⟨b0, ?_⟩, fun q => ?_, fun q => ⟨b0, ?_⟩, fun q => ⟨b0, ?_⟩, fun q => ?_, fun q => ?_, fun q => ?_, fun q => ?_, fun q => ?_⟩
    · rw [h q]; exact kk E m1 _ S1
    · rw [h0 q]; exact kk E m1 _ S1
    · rw [h1 q]; exact kk E m1 _ S1
    · rw [h2 q]; exact kk E m1 _ S1
    · rw [h3 q]; exact kk E m1 _ S1
    · rw [h4 q]; exact kk E m1 _ S1
    · rw [h5 q]
      exact c275 T B.w B1.a (kk E m1 _ S1)
    · rw [h6 q]; exact kk E m1 _ S1
    · rw [h7 q]; exact kk E m1 _ S1
    · rw [h8 q]
      exact c284 B1 fun m2 f2 z2 => kk E m2 _ (S1.gQ f2 z2)
    · rw [h9 q]
      exact c284 B1 fun m2 f2 z2 => kk E m2 _ (S1.gQ f2 z2)
  have one : ∀ (m0 : Mm) (v : Int) (i : Int), a = i → CS sh E m0 → v = (if i = 0 then E 602 578 else if i = 1 then E 602 579 else if i = 2 then E 597 23 else if i = 3 then E 602 580 else if i = 4 then E 602 581 else if i = 5 then tmS E else if i = 6 then m0 597 25 else if i = 7 then m0 597 2 else if i = 8 then wtS E (-3) (E 597 23).toNat else wtS E (-2) (E 597 23).toNat) → 0 ≤ i ∧ i ≤ 9 → TrI 283 [(1, 597), (0, a)] m0 fun v2 m2 => K v v2 m2 := by
    intro m0 v i ha S0 hv hi
    subst ha
    refine rf m0 v S0 (fun q => by omega) (fun q => ?_) (fun q => ?_) (fun q => ?_) (fun q => ?_) (fun q => ?_) (fun q => ?_) (fun q => ?_) (fun q => ?_) (fun q => ?_) (fun q => ?_) <;> rw [hv, q] <;> rfl
  have ct := B.ct
  refine e159 _ ⟨fun q => ?_, fun q => ⟨B.sT, ?_⟩, fun q => ⟨B.sT, ?_⟩, fun q => ⟨B.sP, ?_⟩, fun q => ⟨B.sT, ?_⟩, fun q => ⟨B.sT, ?_⟩, fun q => ?_, fun q => ?_, fun q => ?_, fun q => ?_, fun q => ?_⟩
  · exact rf m _ S (fun _ => rfl) (fun p => by omega) (fun p => by omega) (fun p => by omega) (fun p => by omega) (fun p => by omega) (fun p => by omega) (fun p => by omega) (fun p => by omega) (fun p => by omega) (fun p => by omega)
  · exact one m _ 0 q S B.rn (by decide)
  · exact one m _ 1 q S B.en (by decide)
  · exact one m _ 2 q S B.pn (by decide)
  · exact one m _ 3 q S ct.2.2.2.1 (by decide)
  · exact one m _ 4 q S ct.2.2.2.2.1 (by decide)
  · exact c146 B (one m _ 5 q S rfl (by decide))
  · exact one m _ 6 q S S.ps.1.1 (by decide)
  · exact one m _ 7 q S S.to.1.1.1 (by decide)
  · exact q76 B S.r fun m1 f1 B1 R1 r1 => c160 B1 r1 (one m1 _ 8 q (S.fQ f1 R1) rfl (by decide))
  · exact q76 B S.r fun m1 f1 B1 R1 r1 => c160 B1 r1 (one m1 _ 9 q (S.fQ f1 R1) rfl (by decide))
/-- open, where there is such a reading and such a question -/
def s_opq (E : Mm) (r q : Int) : Int := if q < 4 then E 602 (11 * r + q) else if q = 4 then E 607 r else if q = 5 then E 607 (24 + r) else wnow E r
theorem k161 {r q : Int} {K : Int → Mm → Prop} (S : CS sh E m) (hr : 0 ≤ r ∧ r < E 602 578) (hq : 0 ≤ q ∧ q ≤ 6) (kk : K (s_opq E r q) m) : TrI 161 [(1, 1), (0, r), (0, q)] m K := by
  have B := S.b
  have T2 := B.t.2.1
  unfold s_opq at kk
  have cr := B.ct.2.2.2.2.2.2.1 r hr.1 hr.2
  have os := S.to.2 r hr.1 hr.2
  have mk := B.2.2.2.2.2.2.2.2.2.2.1 r hr.1 (by omega)
  have ww := B.w77 r hr.1 hr.2
  have t8 : m (m 1 3) 8 = E 602 581 := B.ct.2.2.2.2.1
  refine e161 _ _ ⟨B.sT, ?_⟩
  rw [B.rn]
  refine ⟨fun _ => ⟨B.sT, by omega, fun h => by omega, fun h => ?_, fun h => ?_, fun h => ?_, fun h => ?_, fun h => ?_, fun h => ?_, fun h => ?_⟩, fun h => absurd hr h⟩
  · rw [if_pos (by omega), h, Int.add_zero, ← cr.2.1] at kk
    exact kk
  · rw [if_pos (by omega), h, ← cr.2.2.1] at kk
    exact kk
  · rw [if_pos (by omega), h, ← os.1] at kk
    exact kk
  · rw [if_pos (by omega), h, ← os.2] at kk
    exact kk
  · rw [if_neg (by omega), if_pos h, ← mk.1] at kk
    exact kk
  · rw [if_neg (by omega), if_neg (by omega), if_pos h, ← mk.2] at kk
    exact kk
  · rw [if_neg (by omega), if_neg (by omega), if_neg (by omega)] at kk
    rw [t8]
    refine ⟨ww.1, ?_⟩
    rw [ww.2]
    exact kk
/-- the reference's open: 0, 1 or 2 in 'thrown', and the answer -/
def thO (E : Mm) (r q : Int) : Int := if 0 ≤ r ∧ r < E 602 578 then (if 0 ≤ q ∧ q ≤ 6 then 0 else 2) else 1
theorem r200 {r q : Int} {K : Int → Mm → Prop} (S : CS sh E m) (kk : ∀ m' v, CS sh E m' → m' 597 0 = thO E r q → (thO E r q = 0 → v = s_opq E r q) → m' 626 0 = m 626 0 → K v m') : TrI 200 [(1, 597), (0, r), (0, q)] m K := by
  have T2 := S.b.t.2.1
  refine e200 _ _ fun m1 e1 => ?_
  have S1 := S.th e1
  have B1 := S1.b
  have b0 := B1.a.b.trans B1.t.1
  have z1 : m1 597 0 = 0 := by rw [e1, um_s]
  rw [B1.a.r, in_w (by omega)]
  have thr : ∀ m8 v, m8 = umem m1 597 0 v → CS sh E m8 ∧ m8 597 0 = v := fun m8 v e8 => ⟨S1.gQ (fun x k n1 n2 => by rw [e8, um_n (by omega)]) (by rw [e8, um_k (by decide)]; exact B1.h0), by rw [e8, um_s]⟩
  refine ⟨b0, fun h => ?_, fun h => fun m31 e31 => ?_⟩
  · have q0 : wr (0 + r) = r := by rw [wrI (by omega) (by omega), Int.zero_add]
    have q24 : wr (24 + r) = 24 + r := wrI (by clear q0; omega) (by clear q0; omega)
    have qq : ∀ k, 0 ≤ k ∧ k ≤ 6 → wr (wr (11 * r) + k) = 11 * r + k := fun k hk => by
      rw [wrI (x := 11 * r) (by clear q0 q24; omega) (by clear q0 q24; omega), wrI (by clear q0 q24; omega) (by clear q0 q24; omega)]
    rw [q0, q24]
    clear q0 q24
    have go : (0 ≤ q ∧ q ≤ 6) → ∀ v, v = s_opq E r q → K v m1 := fun hq v hv => by
      refine kk m1 v S1 ?_ (fun _ => hv) (by rw [e1, um_x (by decide)])
      unfold thO
      rw [if_pos h, if_pos hq]
      exact z1
    refine ⟨fun hq => fun m8 e8 => ?_, fun hq => ?_, fun hq => ?_, fun hq => ?_, fun hq => ?_, fun hq => ⟨by omega, ?_⟩, fun hq => ⟨by omega, ?_⟩, fun hq => ⟨v_V_of B1.a B1.t B1.w h.1 (by omega), ?_⟩⟩
    · have := thr m8 2 e8
      have ht : thO E r q = 2 := by unfold thO; rw [if_pos h, if_neg (by omega)]
      exact kk m8 0 this.1 (by rw [ht]; exact this.2) (fun z => by omega) (by rw [e8, um_x (by decide), e1, um_x (by decide)])
    · rw [qq q (by omega), B1.a.a (show 11 * r + q < 583 by omega)]
      exact ⟨⟨b0, by omega⟩, go (by omega) _ (by unfold s_opq; rw [if_pos (by omega)])⟩
    · rw [qq q (by omega), B1.a.a (show 11 * r + q < 583 by omega)]
      exact ⟨⟨b0, by omega⟩, go (by omega) _ (by unfold s_opq; rw [if_pos (by omega)])⟩
    · rw [qq q (by omega), B1.a.a (show 11 * r + q < 583 by omega)]
      exact ⟨⟨b0, by omega⟩, go (by omega) _ (by unfold s_opq; rw [if_pos (by omega)])⟩
    · rw [qq q (by omega), B1.a.a (show 11 * r + q < 583 by omega)]
      exact ⟨⟨b0, by omega⟩, go (by omega) _ (by unfold s_opq; rw [if_pos (by omega)])⟩
    · rw [B1.a.t (show r < 58 by omega)]
      exact go (by omega) _ (by unfold s_opq; rw [if_neg (by omega), if_pos hq])
    · rw [B1.a.t (show 24 + r < 58 by omega)]
      exact go (by omega) _ (by unfold s_opq; rw [if_neg (by omega), if_neg (by omega), if_pos hq])
    · rw [wnow_ag B1.a (by omega)]
      exact go (by omega) _ (by unfold s_opq; rw [if_neg (by omega), if_neg (by omega), if_neg (by omega)])
  · have := thr m31 1 e31
    have ht : thO E r q = 1 := by unfold thO; rw [if_neg h]
    exact kk m31 0 this.1 (by rw [ht]; exact this.2) (fun z => by omega) (by rw [e31, um_x (by decide), e1, um_x (by decide)])
end CQ
