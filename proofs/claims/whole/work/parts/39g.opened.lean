/-! opened -/
/-- what stands at place l of BEST's letters from word w on (n words) -/
def opF (E : Mm) : Nat → Nat → Int → Int
  | 0, _, _ => -2
  | n + 1, w, l => if 0 < w ∧ l = 0 then 32 else if l - (if 0 < w then 1 else 0) < ((ltW E w (cE E w (bsP E w))).length : Nat) then ltA (ltW E w (cE E w (bsP E w))) 97 (l - (if 0 < w then 1 else 0)) else opF E n (w + 1) (l - (if 0 < w then 1 else 0) - ((ltW E w (cE E w (bsP E w))).length : Nat))
def s_ope (E : Mm) (i : Int) : Int := if i < 0 then -1 else if totS E (canS E) < 1000000 then opF E (E 597 23).toNat 0 i else -2
theorem c118 {E m : Mm} {K : Int → Mm → Prop} {w p i : Int} (B : BS E m) (r : Res E m) (hw : 0 ≤ w ∧ w < E 597 23) (hp : 0 ≤ p ∧ p < cN E w) (hi : 0 ≤ i ∧ i < (ltW E w (cE E w p)).length) (kk : K (ltA (ltW E w (cE E w p)) 97 i) m) : TrI 118 [(1, 1), (0, w), (0, p), (0, i)] m K := by
  have P1 := B.p.1
  have T3 := B.t.2.2.1
  have n2 := (chs_len B.t (w := w)).2
  have n24 : (cN E w : Int) ≤ 24 := by unfold cN; omega
  have D := r.2.1 w hw.1 hw.2
  have c1 := cE_in B.t B.p B.w hw hp
  have e4 : m (440 + w) p = cE E w p := (D.2.2.2.at hp).1
  have hl60 := ltW_len B.t B.p (w := w) (who := cE E w p) hw c1.2.1
  refine e118 _ _ _ ⟨by omega, by omega, B.sT, ?_⟩
  rw [e4, B.en]
  unfold ltW at kk hi hl60
  refine ⟨fun h => ?_, fun h => ⟨fun h2 => ⟨by omega, ?_⟩, fun h2 => absurd (show i < 60 by omega) h2⟩⟩
  · rw [if_pos h.1] at kk hi
    have ce := B.ct.2.2.2.2.2.2.2.1 _ h.1 h.2
    refine ⟨B.sT, by omega, ce.v B.t h, ?_⟩
    have hs : m (m 1 3 + 54 + 2 * cE E w p) 1 = esz E (cE E w p) := ce.2.1
    have h8 := (B.t.2.2.2.2.2.2.2.1 _ h.1 h.2).1
    rw [elt_len] at hi
    unfold lAt
    rw [hs, if_pos ⟨hi.1, by omega⟩]
    have := ce.2.2.2.2 i hi.1 (by unfold esz at hi; omega)
    rw [this]
    have e : ltA (elt E (cE E w p)) 97 i = 97 + E 602 (264 + 11 * cE E w p + 3 + i) := by
      have hl : i.toNat < (elt E (cE E w p)).length := by rw [elt_len]; omega
      unfold ltA
      rw [dif_pos hl, elt_at]
      unfold eL
      rw [show ((i.toNat : Nat) : Int) = i by omega]
    rw [← e]
    exact kk
  · rw [if_neg (by omega)] at kk hi
    split at hi
    · rename_i h3
      rw [if_pos h3] at kk
      have : m (416 + w) i = ltA (wLs E w) 97 i := ltA_y hi.1 hi.2 D.1.2.2.2
      rw [this]
      exact kk
    · exact absurd hi.2 (by simp; omega)
theorem k117 {E m : Mm} {i : Int} (hi32 : i < 2147483648) (B : BS E m) (R : RS E m) (K : Int → Mm → Prop) (kk : ∀ m', fR m m' → BS E m' → RS E m' → K (s_ope E i) m') : TrI 117 [(1, 1), (0, i)] m K := by
  have P1 := B.p.1
  unfold s_ope at kk
  refine e117 _ ⟨fun h => ?_, fun h => c76 B R fun m3 f3 B3 z3 r3 a3 => ?_⟩
  · rw [if_pos h] at kk
    exact kk m fR.refl B R
  · rw [if_neg h] at kk
    rw [r3.2.2.2.2.1]
    refine ⟨fun ht => ?_, fun ht => ?_⟩
    · rw [if_pos ht] at kk
      generalize hz : opF E (E 597 23).toNat 0 i = z at kk
      have go := kk m3 f3 B3 ⟨fun _ => r3, a3⟩
      have loop : ∀ (n w : Nat) (l : Int) (v4 : aV), (w : Int) + n = E 597 23 → 0 ≤ l ∧ l < 2147483648 → opF E n w l = z → X 117 30 [(1, 1), (0, i), (0, l), (0, (w : Int)), v4] [] m3 (qI K) := by
        intro n
        induction n with
        | zero =>
          intro w l v4 hw hl e
          refine w117_30 _ _ _ v4 (by simp) ⟨B3.sP, fun h => absurd h (by rw [B3.pn]; omega), fun _ => ?_⟩
          rw [← e] at go
          exact go
        | succ n ih =>
          intro w l v4 hw hl e
          have wE : 0 ≤ (w : Int) ∧ (w : Int) < E 597 23 := by omega
          have hP := bsP_rng B.t (w := w)
          have e5 : m3 512 w = bsP E w := r3.2.2.2.2.2.2 w wE.2
          have c1 := cE_in B.t B.p B.w wE hP
          have hl60 := ltW_len B.t B.p (w := w) (who := cE E w (bsP E w)) wE c1.2.1
          unfold opF at e
          have body : ∀ (l' : Int) (v4 : aV), 0 ≤ l' ∧ l' < 2147483648 → (if l' < ((ltW E w (cE E w (bsP E w))).length : Nat) then ltA (ltW E w (cE E w (bsP E w))) 97 l' else opF E n (w + 1) (l' - ((ltW E w (cE E w (bsP E w))).length : Nat))) = z → X 117 55 [(1, 1), (0, i), (0, l'), (0, (w : Int)), v4] [] m3 (qI K) := by
            intro l' v4 hl' e'
            refine w117_55 _ _ _ v4 (by simp) ⟨by omega, ?_⟩
            rw [e5]
            refine c114 B3 r3 wE hP ⟨fun h2 => ?_, fun h2 => ?_⟩
            · rw [if_pos h2] at e'
              rw [e5]
              refine c118 B3 r3 wE hP ⟨hl'.1, h2⟩ ?_
              rw [e']
              exact go
            · rw [if_neg h2] at e'
              rw [wrI (x := l' - _) (by omega) (by omega), wrI (x := (w : Int) + 1) (by omega) (by omega)]
              exact ih (w + 1) _ _ (by omega) (by omega) e'
          refine w117_30 _ _ _ v4 (by simp) ⟨B3.sP, fun _ => ⟨fun hw0 => ⟨fun hl0 => ?_, fun hl0 => ?_⟩, fun hw0 => ?_⟩, fun h => absurd (show (w : Int) < m3 (m3 1 5) 4 by rw [B3.pn]; exact wE.2) h⟩
          · rw [if_pos ⟨by omega, hl0⟩] at e
            rw [← e] at go
            exact go
          · rw [if_neg (fun q => hl0 q.2), if_pos (show 0 < w by omega)] at e
            rw [wrI (x := l + -1) (by omega) (by omega), show l + -1 = l - 1 by omega]
            exact body _ _ (by omega) e
          · rw [if_neg (fun q => hw0 (by omega)), if_neg (show ¬ 0 < w by omega)] at e
            rw [Int.sub_zero] at e
            exact body _ _ hl e
      exact loop (E 597 23).toNat 0 i (9, 0) (by omega) (by omega) hz
    · rw [if_neg ht] at kk
      exact kk m3 f3 B3 ⟨fun _ => r3, a3⟩
theorem r251 {E : Mm} {i : Int} (hi32 : i < 2147483648) (m : Mm) (B : BS E m) (K : Int → Mm → Prop) (kk : ∀ m', gR m m' → m' 597 40 = 0 → K (s_ope E i) m') : TrI 251 [(1, 597), (0, i)] m K := by
  have P1 := B.p.1
  have tg := tot_ge B.t B.p B.w
  have cg := cvt_ge tg.1
  refine e251 _ fun m1 e1 => ?_
  obtain ⟨f1, B1⟩ := B.th e1
  unfold s_ope at kk
  refine ⟨fun h => ?_, fun h => c249 B.t B.p B.w B1.a B1.h0 fun m3 f3 C3 P3 => ⟨fun h2 => ?_, fun h2 => ?_⟩⟩
  · rw [if_pos h] at kk
    exact kk m1 f1 B1.h0
  · rw [if_neg h, if_neg (cg.1 h2)] at kk
    exact kk m3 (f1.tr f3.g) (f3.h B1)
  · have ht := (cg.2 h2).1
    rw [if_neg h, if_pos ht] at kk
    generalize hz : opF E (E 597 23).toNat 0 i = z at kk
    have loop : ∀ (n w : Nat) (l : Int) (m4 : Mm), (w : Int) + n = E 597 23 → 0 ≤ l ∧ l < 2147483648 → f239 m3 m4 → opF E n w l = z → X 251 25 [(1, 597), (0, i), (0, l), (0, (w : Int))] [] m4 (qI K) := by
      intro n
      induction n with
      | zero =>
        intro w l m4 hw hl f4 e
        have A4 := f4.ag (f3.ag B1.a)
        refine w251_25 _ _ _ ⟨fun h => absurd h (by rw [A4.n]; omega), fun _ => ?_⟩
        have go := kk m4 ((f1.tr f3.g).tr fun x k n1 n2 => f4 x k (by omega) (by omega)) (by rw [f4 _ _ (by decide) (by decide)]; exact f3.h B1)
        rw [← e] at go
        exact go
      | succ n ih =>
        intro w l m4 hw hl f4 e
        have A4 := f4.ag (f3.ag B1.a)
        have go := kk m4 ((f1.tr f3.g).tr fun x k n1 n2 => f4 x k (by omega) (by omega)) (by rw [f4 _ _ (by decide) (by decide)]; exact f3.h B1)
        have wE : 0 ≤ (w : Int) ∧ (w : Int) < E 597 23 := by omega
        have hP := bsP_rng B.t (w := w)
        have n2 := (chs_len B.t (w := w)).2
        have n24 : (cN E w : Int) ≤ 24 := by unfold cN; omega
        have e5 : m4 618 w = bsP E w := by rw [f4 _ _ (by decide) (by omega)]; exact P3 ht w wE.2
        have q1 : Unit → wr (wr (24 * (w : Int)) + bsP E w) = 24 * (w : Int) + bsP E w := fun _ => by
          rw [wrI (x := 24 * (w : Int)) (by omega) (by omega), wrI (by omega) (by omega)]
        have Cw : ChM m4 w (chs E w) := (C3.fr fun x k x0 x1 => f4 x k (by omega) (by omega)) w wE.1 wE.2
        have c1 := cE_in B.t B.p B.w wE hP
        have hl60 := ltW_len B.t B.p (w := w) (who := cE E w (bsP E w)) wE c1.2.1
        unfold opF at e
        have body : ∀ (s1 l' : Int) (v2 : aV), l' = l - s1 → 0 ≤ l' ∧ l' < 2147483648 → (if l' < ((ltW E w (cE E w (bsP E w))).length : Nat) then ltA (ltW E w (cE E w (bsP E w))) 97 l' else opF E n (w + 1) (l' - ((ltW E w (cE E w (bsP E w))).length : Nat))) = z → X 251 54 [(1, 597), (0, i), v2, (0, (w : Int))] [(0, s1), (0, l)] m4 (qI K) := by
          intro s1 l' v2 hs hl' e'
          refine w251_54 _ _ _ _ _ (by simp) ?_
          rw [e5, q1 (), (Cw.at hP).1, ← hs, wrI (x := l') (by omega) (by omega)]
          refine ⟨by omega, by omega, c239 B.t B.p B.w A4 wE hP fun m5 f5 S5 => ?_⟩
          have f35 : f239 m3 m5 := fun x k n1 n2 => by rw [f5 x k n1 n2]; exact f4 x k n1 n2
          rw [S5.1]
          refine ⟨fun h2 => ⟨by omega, ?_⟩, fun h2 => ?_⟩
          · rw [if_pos h2, ltA_off hl'.1 h2] at e'
            have e0 : m5 610 l' = ltA (ltW E w (cE E w (bsP E w))) 0 l' := ltA_y hl'.1 h2 S5.2.1
            have hr := ltA_rng hl'.1 h2 (ltW_rng B.t B.p wE c1.2.1)
            rw [e0, wrI (by omega) (by omega), e']
            exact kk m5 ((f1.tr f3.g).tr fun x k n1 n2 => f35 x k (by omega) (by omega)) (by rw [f35 _ _ (by decide) (by decide)]; exact f3.h B1)
          · rw [if_neg h2] at e'
            rw [wrI (x := l' - _) (by omega) (by omega), wrI (x := (w : Int) + 1) (by omega) (by omega)]
            exact ih (w + 1) _ m5 (by omega) (by omega) f35 e'
        refine w251_25 _ _ _ ⟨fun _ => ⟨fun hw0 => ⟨fun hl0 => ?_, fun hl0 => ⟨fun _ => ?_, fun h => absurd hw0 h⟩⟩, fun hw0 => ⟨fun h => absurd h hw0, fun _ => ?_⟩⟩, fun h => absurd (show (w : Int) < m4 597 23 by rw [A4.n]; exact wE.2) h⟩
        · rw [if_pos ⟨by omega, hl0⟩] at e
          rw [← e] at go
          exact go
        · rw [if_neg (fun q => hl0 q.2), if_pos (show 0 < w by omega)] at e
          exact body 1 _ _ rfl (by omega) e
        · rw [if_neg (fun q => hw0 (by omega)), if_neg (show ¬ 0 < w by omega)] at e
          rw [Int.sub_zero] at e
          exact body 0 l _ (by omega) hl e
    exact loop (E 597 23).toNat 0 i m3 (by omega) (by omega) (fun _ _ _ _ => rfl) hz
