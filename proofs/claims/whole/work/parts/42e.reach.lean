/-! the reference: canTake(268), isReached(267), laysReached(265), signOf(176) -/
theorem c176 {m : Mm} {K : Int → Mm → Prop} {c : Int} (kk : K (sgN c) m) : TrI 176 [(1, 597), (0, c)] m K := by
  refine e176 _ ?_
  have loop : ∀ (n k : Nat), k + n = 10 → (∀ i : Int, 0 ≤ i → i < k → ¬ cs 600 i = c) → X 176 2 [(1, 597), (0, c), (0, (k : Int))] [] m (qI K) := by
    intro n
    induction n with
    | zero =>
      intro k hk hall
      refine w176_2 _ _ ⟨fun h => absurd h (by omega), fun _ => ?_⟩
      have : sgN c = -1 := fstN_no fun i i0 i1 => decide_eq_false (hall i i0 (by omega))
      rw [this] at kk
      exact kk
    | succ n ih =>
      intro k hk hall
      refine w176_2 _ _ ⟨fun _ => ⟨by omega, fun h => ?_, fun h => ?_⟩, fun h => absurd (show (k : Int) < 10 by omega) h⟩
      · have : sgN c = k := fstN_is (n := 10) (f := fun k => decide (cs 600 k = c)) (p := (k : Int)) (by omega) (by omega) (decide_eq_true h) fun i i0 i1 => decide_eq_false (hall i i0 i1)
        rw [this] at kk
        exact kk
      · rw [wrI (x := (k : Int) + 1) (by omega) (by omega)]
        refine ih (k + 1) (by omega) fun i i0 i1 => ?_
        by_cases hi : i = k
        · rw [hi]; exact h
        · exact hall i i0 (by omega)
  exact loop 10 0 (by decide) fun i i0 i1 => by omega
theorem c268 {E m : Mm} {K : Int → Mm → Prop} {r e k : Int} (T : InvT E) (A : Ag E m) (he : 0 ≤ e ∧ e < E 602 579) (hk : 0 ≤ k ∧ k ≤ zsz (E 602) e) (hr : 0 ≤ r ∧ r < E 602 578) (kk : K (bi (canT (E 602) r e k = true)) m) : TrI 268 [(1, 597), (0, r), (0, e), (0, k)] m K := by
  have T2 := T.2.1
  have T3 := T.2.2.1
  have zr := zsz_rng T he
  have hM := T.2.2.2.2.2.2.1 r hr.1 hr.2
  have e24 : e < 24 := by omega
  refine e268 _ _ _ ⟨⟨A.b.trans T.1, ⟨he.1, e24⟩, hk.1, by omega⟩, v_M_ag A hM, ?_⟩
  rw [A.a (show 11 * r + 2 < 583 by omega), lasO_ag A e24 (by omega), bhd_ag A hM e24 (by omega)]
  rw [canT_E] at kk
  refine ⟨fun h => ⟨v_B_of A T hr he hk, fun h2 => ?_, fun h2 => ?_⟩, fun h => ?_⟩
  · rw [bi_f (by
      rw [Bool.and_eq_true]
      rintro ⟨-, hs⟩
      unfold bhd at h2
      rw [if_pos hs] at h2
      have : 0 ≤ bsz E r := hM.2.2.2.1.1
      omega)] at kk
    exact kk
  · rw [bi_t (by
      rw [Bool.and_eq_true]
      refine ⟨h, ?_⟩
      unfold bhd at h2
      split at h2
      · assumption
      · exact absurd (by decide) h2)] at kk
    exact kk
  · rw [bi_f (by
      rw [Bool.and_eq_true]
      exact fun z => h z.1)] at kk
    exact kk
theorem canT_bhd {E : Mm} {r e k : Int} (h : canT (E 602) r e k = true) : bhd E r e k = k + E 602 (11 * r + 1) ∧ k + E 602 (11 * r + 1) ≤ zsz (E 602) e := by
  rw [canT_E, Bool.and_eq_true] at h
  unfold bhd
  rw [if_pos h.2]
  exact ⟨rfl, stM_le h.2⟩
def ReM (E m : Mm) (e : Int) (d : Nat) : Prop := ∀ k c, 0 ≤ k → k ≤ zsz (E 602) e → 0 ≤ c → c ≤ 30 → m 620 (279 * d + 31 * k + c) = if RE (E 602) e d k c = true then 1 else 0
theorem c267 {E m : Mm} {K : Int → Mm → Prop} {e k c : Int} {d : Nat} (T : InvT E) (A : Ag E m) (he : 0 ≤ e ∧ e < E 602 579) (hk : 0 ≤ k ∧ k ≤ zsz (E 602) e) (hc : 0 ≤ c ∧ c ≤ 30) (hd : d < 9) (Rd : ∀ d', d = d' + 1 → ReM E m e d') (kk : K (if RE (E 602) e d k c = true then 1 else 0) m) : TrI 267 [(1, 597), (0, e), (0, (d : Int)), (0, k), (0, c)] m K := by
  have T2 := T.2.1
  have T3 := T.2.2.1
  have zr := zsz_rng T he
  have b0 := A.b.trans T.1
  have qe : wr (264 + wr (11 * e)) = 264 + 11 * e := by
    rw [wrI (x := 11 * e) (by omega) (by omega), wrI (by omega) (by omega)]
  refine e267 _ _ _ _ ?_
  rw [qe, A.a (show 264 + 11 * e < 583 by clear qe; omega)]
  clear qe
  have hz : E 602 (264 + 11 * e) = zsz (E 602) e := rfl
  rw [hz]
  refine ⟨⟨b0, by omega, by omega⟩, fun h0 => ?_, fun h0 => ?_⟩
  · have hd0 : d = 0 := by omega
    subst hd0
    have hRE : RE (E 602) e 0 k c = (decide (k = zsz (E 602) e) && letB c (-1)) := rfl
    refine ⟨fun h => ⟨by omega, fun h2 => ?_, fun h2 => ?_⟩, fun h => ?_⟩
    · rw [hRE, if_pos (by rw [Bool.and_eq_true, decide_eq_true_eq]; exact ⟨h, h2⟩)] at kk
      exact kk
    · rw [hRE, if_neg (by rw [Bool.and_eq_true]; exact fun z => h2 z.2)] at kk
      exact kk
    · rw [hRE, if_neg (by rw [Bool.and_eq_true, decide_eq_true_eq]; exact fun z => h z.1)] at kk
      exact kk
  · obtain ⟨d', rfl⟩ : ∃ d', d = d' + 1 := ⟨d - 1, by omega⟩
    have R' := Rd d' rfl
    have yes : (∃ b, 0 ≤ b ∧ b ≤ E 602 578 ∧ nxB (E 602) e k c b = true ∧ RE (E 602) e d' (nxK (E 602) k b) (cdA (E 602) b) = true) → K 1 m := fun h => by
      rw [if_pos ((RE_by T2.1).mpr h)] at kk
      exact kk
    have no : (∀ b, 0 ≤ b → b ≤ E 602 578 → ¬ (nxB (E 602) e k c b = true ∧ RE (E 602) e d' (nxK (E 602) k b) (cdA (E 602) b) = true)) → K 0 m := fun h => by
      rw [if_neg (fun z => by
        obtain ⟨b, b0, b1, b2⟩ := (RE_by T2.1).mp z
        exact h b b0 b1 b2)] at kk
      exact kk
    have qd : wr (((d' + 1 : Nat) : Int) - 1) = (d' : Int) := by
      rw [wrI (by omega) (by omega)]
      omega
    have own : nxB (E 602) e k c 0 = (decide (k < zsz (E 602) e) && letB c (zL (E 602) e k)) := rfl
    have rd : ∀ r : Int, r ≠ -1 → nxB (E 602) e k c (r + 1) = (letB c 32 && canT (E 602) r e k) := fun r hr => by
      unfold nxB
      rw [if_neg (by clear qd; omega), show r + 1 - 1 = r by clear qd; omega]
    -- the readings, where the own letter doesn't do
    have reads : letB c 32 = true → ¬ (nxB (E 602) e k c 0 = true ∧ RE (E 602) e d' (nxK (E 602) k 0) (cdA (E 602) 0) = true) → ∀ v5 : aV, v5.1 ≠ 2 → X 267 94 [(1, 597), (0, e), (0, ((d' + 1 : Nat) : Int)), (0, k), (0, c), v5, (0, 0)] [] m (qI K) := by
      intro h32 h00 v5 hv5
      have loop : ∀ (n r : Nat), (r : Int) + n = E 602 578 → (∀ b, 0 ≤ b → b ≤ (r : Int) → ¬ (nxB (E 602) e k c b = true ∧ RE (E 602) e d' (nxK (E 602) k b) (cdA (E 602) b) = true)) → X 267 94 [(1, 597), (0, e), (0, ((d' + 1 : Nat) : Int)), (0, k), (0, c), v5, (0, (r : Int))] [] m (qI K) := by
        intro n
        induction n with
        | zero =>
          intro r hr hall
          exact w267_94 _ _ _ _ v5 _ hv5 ⟨b0, fun h => absurd h (by rw [A.r]; clear qd; omega), fun _ => no fun b b0 b1 => hall b b0 (by clear qd; omega)⟩
        | succ n ih =>
          intro r hr hall
          have hrr : 0 ≤ (r : Int) ∧ (r : Int) < E 602 578 := by clear qd; omega
          have hM := T.2.2.2.2.2.2.1 r hrr.1 hrr.2
          have next : ¬ (nxB (E 602) e k c ((r : Int) + 1) = true ∧ RE (E 602) e d' (nxK (E 602) k ((r : Int) + 1)) (cdA (E 602) ((r : Int) + 1)) = true) → X 267 94 [(1, 597), (0, e), (0, ((d' + 1 : Nat) : Int)), (0, k), (0, c), v5, (0, wr ((r : Int) + 1))] [] m (qI K) := fun hn => by
            rw [wrI (x := (r : Int) + 1) (by clear qd; omega) (by clear qd; omega)]
            refine ih (r + 1) (by clear qd; omega) fun b b0 b1 => ?_
            by_cases hb : b = (r : Int) + 1
            · rw [hb]; exact hn
            · exact hall b b0 (by clear qd; omega)
          refine w267_94 _ _ _ _ v5 _ hv5 ⟨b0, fun _ => ?_, fun h => absurd (show (r : Int) < m 602 578 by rw [A.r]; exact hrr.2) h⟩
          refine c268 T A he hk hrr ?_
          have e24 : e < 24 := by clear qd; omega
          by_cases hcan : canT (E 602) r e k = true
          · obtain ⟨h1, h2⟩ := canT_bhd hcan
            have h3 := hM.2.2.2.1
            have h4 := hM.2.2.2.2.2.1
            have q3 : wr (wr (11 * (r : Int)) + 3) = 11 * (r : Int) + 3 := by
              rw [wrI (x := 11 * (r : Int)) (by clear qd; omega) (by clear qd; omega), wrI (by clear qd; omega) (by clear qd; omega)]
            rw [bi_t hcan]
            refine ⟨fun h => absurd h (by decide), fun _ => ⟨v_B_of A T hrr he hk, ?_⟩⟩
            rw [q3, bhd_ag A hM e24 (by clear qd q3; omega), h1, qd, A.a (show 11 * (r : Int) + 3 < 583 by clear qd q3; omega)]
            have q4 : wr (wr (wr (279 * (d' : Int)) + wr (31 * (k + E 602 (11 * (r : Int) + 1)))) + E 602 (11 * (r : Int) + 3)) = 279 * (d' : Int) + 31 * (k + E 602 (11 * (r : Int) + 1)) + E 602 (11 * (r : Int) + 3) := by
              rw [wrI (x := 279 * (d' : Int)) (by clear qd q3; omega) (by clear qd q3; omega), wrI (x := 31 * (k + E 602 (11 * (r : Int) + 1))) (by clear qd q3; omega) (by clear qd q3; omega), wrI (x := 279 * (d' : Int) + _) (by clear qd q3; omega) (by clear qd q3; omega), wrI (by clear qd q3; omega) (by clear qd q3; omega)]
            rw [q4, R' (k + E 602 (11 * (r : Int) + 1)) (E 602 (11 * (r : Int) + 3)) (by clear qd q3 q4; omega) h2 h4.1 h4.2]
            clear q3 q4
            have hK : nxK (E 602) k ((r : Int) + 1) = k + E 602 (11 * (r : Int) + 1) := by
              unfold nxK
              rw [if_neg (by clear qd; omega), show (r : Int) + 1 - 1 = r by clear qd; omega]
            have hA : cdA (E 602) ((r : Int) + 1) = E 602 (11 * (r : Int) + 3) := by
              unfold cdA
              rw [if_neg (by clear qd; omega), show (r : Int) + 1 - 1 = r by clear qd; omega]
            have hB : nxB (E 602) e k c ((r : Int) + 1) = true := by
              rw [rd r (by clear qd; omega), Bool.and_eq_true]
              exact ⟨h32, hcan⟩
            refine ⟨⟨b0, by clear qd; omega⟩, by clear qd; omega, fun h => ?_, fun h => ?_⟩
            · refine next fun z => ?_
              rw [hK, hA] at z
              rw [if_pos z.2] at h
              exact absurd h (by decide)
            · refine yes ⟨(r : Int) + 1, by clear qd; omega, by clear qd; omega, hB, ?_⟩
              rw [hK, hA]
              split at h
              · assumption
              · exact absurd rfl h
          · rw [bi_f hcan]
            refine ⟨fun _ => next fun z => ?_, fun h => absurd rfl h⟩
            have := z.1
            rw [rd r (by clear qd; omega), Bool.and_eq_true] at this
            exact hcan this.2
      refine loop (E 602 578).toNat 0 (by clear qd; omega) fun b b0 b1 => ?_
      rw [show b = 0 by clear qd; omega]
      exact h00
    have noread : ¬ letB c 32 = true → ¬ (nxB (E 602) e k c 0 = true ∧ RE (E 602) e d' (nxK (E 602) k 0) (cdA (E 602) 0) = true) → K 0 m := fun h32 h00 => no fun b b0 b1 z => by
      by_cases hb : b = 0
      · rw [hb] at z
        exact h00 z
      · have := z.1
        rw [show b = (b - 1) + 1 by clear qd; omega, rd (b - 1) (by clear qd; omega), Bool.and_eq_true] at this
        exact h32 this.1
    have K0 : nxK (E 602) k 0 = k + 1 := rfl
    have A0 : cdA (E 602) 0 = 0 := rfl
    refine ⟨fun hlt => ?_, fun hge => ⟨by clear qd; omega, fun h32 => ?_, fun h32 => ?_⟩⟩
    · have qL : wr (wr (264 + 11 * e + 3) + k) = 264 + 11 * e + 3 + k := by
        rw [wrI (x := 264 + 11 * e + 3) (by clear qd; omega) (by clear qd; omega), wrI (by clear qd; omega) (by clear qd; omega)]
      rw [qL, A.a (show 264 + 11 * e + 3 + k < 583 by clear qd qL; omega), show E 602 (264 + 11 * e + 3 + k) = zL (E 602) e k from rfl, qd]
      have q5 : wr (wr (wr (279 * (d' : Int)) + wr (31 * wr (k + 1))) + 0) = 279 * (d' : Int) + 31 * (k + 1) + 0 := by
        rw [wrI (x := k + 1) (by clear qd qL; omega) (by clear qd qL; omega), wrI (x := 279 * (d' : Int)) (by clear qd qL; omega) (by clear qd qL; omega), wrI (x := 31 * (k + 1)) (by clear qd qL; omega) (by clear qd qL; omega), wrI (x := 279 * (d' : Int) + _) (by clear qd qL; omega) (by clear qd qL; omega), wrI (by clear qd qL; omega) (by clear qd qL; omega)]
      rw [q5, R' (k + 1) 0 (by clear qd qL q5; omega) (by clear qd qL q5; omega) (Int.le_refl _) (by decide)]
      clear qL q5
      refine ⟨⟨b0, by clear qd; omega⟩, by clear qd; omega, fun hl => ⟨by clear qd; omega, fun h0 => ⟨by clear qd; omega, fun h32 => ?_, fun h32 => ?_⟩, fun h1 => ?_⟩, fun hl => ⟨by clear qd; omega, fun h32 => ?_, fun h32 => ?_⟩⟩
      · refine reads h32 (fun z => ?_) (0, _) (by simp)
        rw [K0, A0] at z
        rw [if_pos z.2] at h0
        exact absurd h0 (by decide)
      · refine noread h32 fun z => ?_
        rw [K0, A0] at z
        rw [if_pos z.2] at h0
        exact absurd h0 (by decide)
      · refine yes ⟨0, Int.le_refl _, T2.1, ?_, ?_⟩
        · rw [own, Bool.and_eq_true, decide_eq_true_eq]
          exact ⟨hlt, hl⟩
        · rw [K0, A0]
          split at h1
          · assumption
          · exact absurd rfl h1
      · refine reads h32 (fun z => ?_) (0, _) (by simp)
        have := z.1
        rw [own, Bool.and_eq_true] at this
        exact hl this.2
      · refine noread h32 fun z => ?_
        have := z.1
        rw [own, Bool.and_eq_true] at this
        exact hl this.2
    · refine reads h32 (fun z => ?_) (0, _) (by simp)
      have := z.1
      rw [own, Bool.and_eq_true, decide_eq_true_eq] at this
      exact hge this.1
    · refine noread h32 fun z => ?_
      have := z.1
      rw [own, Bool.and_eq_true, decide_eq_true_eq] at this
      exact hge this.1
theorem c265 {E m : Mm} {K : Mm → Prop} {e : Int} (T : InvT E) (A : Ag E m) (he : 0 ≤ e ∧ e < E 602 579) (kk : ∀ m', (∀ x k, x ≠ 620 → m' x k = m x k) → (∀ d : Nat, d < 9 → ReM E m' e d) → K m') : TrV 265 [(1, 597), (0, e)] m K := by
  have T2 := T.2.1
  have T3 := T.2.2.1
  have zr := zsz_rng T he
  refine e265 _ ?_
  have fA : ∀ m1 : Mm, (∀ x k, x ≠ 620 → m1 x k = m x k) → Ag E m1 := fun m1 f => A.fr fun x k hp => by
    unfold per at hp
    exact f x k (by omega)
  have lefts : ∀ (n d : Nat) (m1 : Mm) (v3 v4 : aV), d + n = 9 → (∀ x k, x ≠ 620 → m1 x k = m x k) → (∀ d' : Nat, d' < d → ReM E m1 e d') → X 265 2 [(1, 597), (0, e), (0, (d : Int)), v3, v4] [] m1 (qV K) := by
    intro n
    induction n with
    | zero =>
      intro d m1 v3 v4 hd f R
      exact w265_2 _ _ v3 v4 ⟨fun h => absurd h (by omega), fun _ => kk m1 f fun d' hd' => R d' (by omega)⟩
    | succ n ih =>
      intro d m1 v3 v4 hd f R
      refine w265_2 _ _ v3 v4 ⟨fun _ => ?_, fun h => absurd (show (d : Int) < 9 by omega) h⟩
      have qe : wr (264 + wr (11 * e)) = 264 + 11 * e := by
        rw [wrI (x := 11 * e) (by omega) (by omega), wrI (by omega) (by omega)]
      have places : ∀ (n k : Nat) (m2 : Mm) (v4 : aV), (k : Int) + n = zsz (E 602) e + 1 → (∀ x k, x ≠ 620 → m2 x k = m x k) → (∀ d' : Nat, d' < d → ReM E m2 e d') → (∀ i c, 0 ≤ i → i < (k : Int) → 0 ≤ c → c ≤ 30 → m2 620 (279 * d + 31 * i + c) = if RE (E 602) e d i c = true then 1 else 0) → X 265 10 [(1, 597), (0, e), (0, (d : Int)), (0, (k : Int)), v4] [] m2 (qV K) := by
        intro n
        induction n with
        | zero =>
          intro k m2 v4 hk f2 R2 I2
          have A2 := fA m2 f2
          refine w265_10 _ _ _ v4 ?_
          rw [qe, A2.a (show 264 + 11 * e < 583 by clear qe; omega), show E 602 (264 + 11 * e) = zsz (E 602) e from rfl]
          refine ⟨⟨A2.b.trans T.1, by clear qe; omega, by clear qe; omega⟩, fun _ => ?_, fun h => absurd (show (k : Int) > zsz (E 602) e by clear qe; omega) h⟩
          rw [wrI (x := (d : Int) + 1) (by clear qe; omega) (by clear qe; omega)]
          refine ih (d + 1) m2 _ v4 (by clear qe; omega) f2 fun d' hd' => ?_
          by_cases hx : d' = d
          · rw [hx]
            exact fun i c i0 i1 c0 c1 => I2 i c i0 (by clear qe; omega) c0 c1
          · exact R2 d' (by clear qe; omega)
        | succ n ihk =>
          intro k m2 v4 hk f2 R2 I2
          have A2 := fA m2 f2
          have hkk : 0 ≤ (k : Int) ∧ (k : Int) ≤ zsz (E 602) e := by clear qe; omega
          refine w265_10 _ _ _ v4 ?_
          rw [qe, A2.a (show 264 + 11 * e < 583 by clear qe; omega), show E 602 (264 + 11 * e) = zsz (E 602) e from rfl]
          refine ⟨⟨A2.b.trans T.1, by clear qe; omega, by clear qe; omega⟩, fun h => absurd h (by clear qe; omega), fun _ => ?_⟩
          have codes : ∀ (n c : Nat) (m3 : Mm), c + n = 31 → (∀ x k, x ≠ 620 → m3 x k = m x k) → (∀ d' : Nat, d' < d → ReM E m3 e d') → (∀ i c', 0 ≤ i → 0 ≤ c' → c' ≤ 30 → (i < (k : Int) ∨ (i = k ∧ c' < (c : Int))) → m3 620 (279 * d + 31 * i + c') = if RE (E 602) e d i c' = true then 1 else 0) → X 265 29 [(1, 597), (0, e), (0, (d : Int)), (0, (k : Int)), (0, (c : Int))] [] m3 (qV K) := by
            intro n
            induction n with
            | zero =>
              intro c m3 hc f3 R3 I3
              refine w265_29 _ _ _ _ ⟨fun h => absurd h (by clear qe; omega), fun _ => ?_⟩
              rw [wrI (x := (k : Int) + 1) (by clear qe; omega) (by clear qe; omega)]
              exact ihk (k + 1) m3 _ (by clear qe; omega) f3 R3 fun i c' i0 i1 c0 c1 => I3 i c' i0 c0 c1 (by clear qe; omega)
            | succ n ihc =>
              intro c m3 hc f3 R3 I3
              have q5 : wr (wr (wr (279 * (d : Int)) + wr (31 * (k : Int))) + c) = 279 * (d : Int) + 31 * (k : Int) + c := by
                rw [wrI (x := 279 * (d : Int)) (by clear qe; omega) (by clear qe; omega), wrI (x := 31 * (k : Int)) (by clear qe; omega) (by clear qe; omega), wrI (x := 279 * (d : Int) + _) (by clear qe; omega) (by clear qe; omega), wrI (by clear qe; omega) (by clear qe; omega)]
              refine w265_29 _ _ _ _ ⟨fun _ => ?_, fun h => absurd (show (c : Int) < 31 by clear qe q5; omega) h⟩
              refine c267 T (fA m3 f3) he hkk (by clear qe q5; omega) (by clear qe q5; omega) (fun d' hd' => R3 d' (by clear qe q5; omega)) ?_
              rw [q5]
              refine ⟨by clear qe q5; omega, ?_, fun m10 e10 => ?_⟩
              · split
                · exact Or.inr rfl
                · exact Or.inl rfl
              · rw [wrI (x := (c : Int) + 1) (by clear qe q5; omega) (by clear qe q5; omega)]
                refine ihc (c + 1) m10 (by clear qe q5; omega) (fun x s hn => by rw [e10, um_x hn]; exact f3 x s hn) (fun d' hd' i c' i0 i1 c0 c1 => ?_) fun i c' i0 c0 c1 h => ?_
                · rw [e10, um_k (by clear qe q5; omega)]
                  exact R3 d' hd' i c' i0 i1 c0 c1
                · by_cases hx : i = k ∧ c' = c
                  · rw [hx.1, hx.2, e10, um_s]
                  · rw [e10, um_k (by clear qe q5; omega)]
                    exact I3 i c' i0 c0 c1 (by clear qe q5; omega)
          exact codes 31 0 m2 (by decide) f2 R2 fun i c' i0 c0 c1 h => I2 i c' i0 (by clear qe; omega) c0 c1
      exact places (zsz (E 602) e + 1).toNat 0 m1 v4 (by clear qe; omega) f R fun i c i0 i1 c0 c1 => by clear qe; omega
  exact lefts 9 0 m (9, 0) (9, 0) (by decide) (fun _ _ _ => rfl) fun d' h => absurd h (by omega)
