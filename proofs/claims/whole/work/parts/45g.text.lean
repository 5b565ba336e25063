/-! a whole text: the spec, the class's loop -/
section TXS
variable {f : Int → Int} {n p p0 : Int} {B : Bk}
def OkR (n p0 : Int) : Rs → Prop := OutR (fun _ _ => True) fun B' p' => BI B' ∧ p0 ≤ p' ∧ p' ≤ n
theorem clo_ok (I : BI B) (h0 : p0 ≤ p) (hp : p ≤ n) : OkR n p0 (clo f n B p) := by
  unfold clo
  have te := tk_e (f := f) hp
  split
  · exact ⟨I, by show p0 ≤ (tk f n p).e; omega, te.2.2.1⟩
  · exact trivial
theorem nuS_ok {bd : Int} {k : Int → Int → Rs} (h0 : p0 ≤ p) (hp : p ≤ n) (h : ∀ v e, 0 ≤ v → v ≤ bd → p0 ≤ e → e ≤ n → OkR n p0 (k v e)) : OkR n p0 (nuS f n p bd k) := by
  unfold nuS
  have te := tk_e (f := f) hp
  have tw := tk_w (f := f) hp
  by_cases h3 : (tk f n p).k = 3
  · rw [if_neg (fun z => z h3)]
    have := tw.2.2.1 h3
    split
    · exact trivial
    · exact h _ _ this.1 (by omega) (by omega) te.2.2.1
  · rw [if_pos h3]
    exact trivial
theorem rd1_ok {pl : Int} (I : BI B) (h0 : p0 ≤ p) (hp : p ≤ n) : OkR n p0 (rd1 f n B pl p) := by
  unfold rd1
  split <;> rename_i hB
  · split <;> rename_i h4
    · have te := tk_e (f := f) hp
      have sg := (tk_w (f := f) hp).2.1 h4
      generalize (tk f n p).v = s at *
      generalize (tk f n p).e = p2 at *
      have go : ∀ lp sz p3, 0 ≤ sz → sz ≤ 6 → (∀ i, 0 ≤ i → i < sz → 97 ≤ f (lp + i) ∧ f (lp + i) ≤ 122) → p0 ≤ p3 → p3 ≤ n → OkR n p0 (rd3 f n B s lp sz p3) := by
        intro lp sz p3 z0 z1 hl h3 h3'
        unfold rd3
        split <;> rename_i c
        · exact trivial
        · have te3 := tk_e (f := f) h3'
          have r0 := cd_rng (f := f) (who := 0) (Or.inl rfl) h3'
          rw [if_pos rfl] at r0
          unfold rd4
          have h5 : (tk f n p3).e ≤ n := te3.2.2.1
          split <;> rename_i c'
          · exact trivial
          · have te4 := tk_e (f := f) h5
            have r1 := cd_rng (f := f) (who := 1) (Or.inr rfl) h5
            rw [if_neg (by decide)] at r1
            unfold rd5
            exact nuS_ok (by omega) te4.2.2.1 fun v e _ _ e0 e1 => clo_ok (I.rd hB sg ⟨z0, z1⟩ ⟨by omega, by omega⟩ ⟨by omega, by omega⟩ hl) e0 e1
      unfold rd2
      have hp2 : p2 ≤ n := by omega
      have te2 := tk_e (f := f) hp2
      split
      · exact go _ _ _ (Int.le_refl _) (by decide) (fun i i0 i1 => by omega) (by omega) te2.2.2.1
      · split <;> rename_i q
        · have b := (tk_w (f := f) hp2).1 q.1
          exact go _ _ _ (by omega) q.2 (fun i i0 i1 => b.2.2 _ (by omega) (by omega)) (by omega) te2.2.2.1
        · exact trivial
    · exact trivial
  · exact trivial
theorem en1_ok {pl : Int} (I : BI B) (h0 : p0 ≤ p) (hp : p ≤ n) : OkR n p0 (en1 f n B pl p) := by
  unfold en1
  have te := tk_e (f := f) hp
  split <;> rename_i hB
  · split <;> rename_i q
    · have b := (tk_w (f := f) hp).1 q.1
      unfold en2
      have h5 : (tk f n p).e ≤ n := te.2.2.1
      have te2 := tk_e (f := f) h5
      split <;> rename_i c
      · exact trivial
      · have kl := kd_lt (T := tk f n (tk f n p).e)
        unfold en3
        exact nuS_ok (by omega) te2.2.2.1 fun v e v0 v1 e0 e1 => clo_ok (I.en hB ⟨b.1, q.2⟩ ⟨by omega, kl.2⟩ ⟨v0, v1⟩ fun i i0 i1 => b.2.2 _ (by omega) (by omega)) e0 e1
    · exact trivial
  · exact trivial
theorem paS_ok {w : Int} (I : BI B) (h0 : p0 ≤ p) (hp : p ≤ n) : OkR n p0 (paS f n B w p) := by
  unfold paS
  have te := tk_e (f := f) hp
  have h5 : (tk f n p).e ≤ n := te.2.2.1
  have te2 := tk_e (f := f) h5
  split <;> rename_i c
  · exact trivial
  · split <;> rename_i c2
    · exact trivial
    · have kl := kd_lt (T := tk f n p)
      have kl2 := kd_lt (T := tk f n (tk f n p).e)
      simp only []
      split
      · split
        · exact trivial
        · exact clo_ok (I.bup (q := 528 + (5 * kdS (tk f n p) + kdS (tk f n (tk f n p).e))) (v := 1) (Or.inl (by omega))) (by omega) te2.2.2.1
      · split
        · exact trivial
        · exact nuS_ok (by omega) te2.2.2.1 fun v e v0 v1 e0 e1 => clo_ok ((I.bup (q := 610 + (5 * kdS (tk f n p) + kdS (tk f n (tk f n p).e))) (v := 1) (Or.inr (Or.inr (Or.inr (Or.inr (Or.inr (Or.inr (by omega)))))))).bup (q := 553 + (5 * kdS (tk f n p) + kdS (tk f n (tk f n p).e))) (v := v) (Or.inr (Or.inl (by omega)))) e0 e1
theorem seS_ok {i pl : Int} (hi : 0 ≤ i ∧ i < 3) (I : BI B) (h0 : p0 ≤ p) (hp : p ≤ n) : OkR n p0 (seS f n B i pl p) := by
  unfold seS
  split
  · exact trivial
  · refine nuS_ok h0 hp fun v e v0 v1 e0 e1 => clo_ok ((I.bup (q := 600 + i) (v := 1) (Or.inr (Or.inr (Or.inr (Or.inr (Or.inr (Or.inl (by omega)))))))).bup (q := 580 + i) (v := v) ?_) e0 e1
    unfold okU
    by_cases c0 : i = 0
    · rw [if_pos c0] at v1
      omega
    · rw [if_neg c0] at v1
      by_cases c1 : i = 1
      · rw [if_pos c1] at v1
        omega
      · rw [if_neg c1] at v1
        omega
theorem clS_ok {T : Tk} (I : BI B) (h : T.e ≤ n) : OkR n T.e (clS f n B T) := by
  unfold clS
  split <;> rename_i q
  · split
    · exact rd1_ok I (Int.le_refl _) h
    · split
      · exact en1_ok I (Int.le_refl _) h
      · split
        · exact paS_ok I (Int.le_refl _) h
        · split
          · exact paS_ok I (Int.le_refl _) h
          · exact seS_ok (by omega) I (Int.le_refl _) h
  · exact trivial
/-- a text from p on: the fault and its place, or the book and the clauses' count -/
def txS (f : Int → Int) (n : Int) : Nat → Bk → Int → Int → Rs
  | 0, B, _, c => .inr (B, c)
  | d + 1, B, p, c => if (tk f n p).k = 0 then .inr (B, c) else match clS f n B (tk f n p) with
    | .inl q => .inl q
    | .inr q => txS f n d q.1 q.2 (c + 1)
def B0 : Bk := fun k => if k = 580 then 500 else 0
theorem B0_ok : BI B0 := by
  refine ⟨by decide, by decide, by decide, by decide, by decide, fun r r0 r1 => ?_, fun e e0 e1 => ?_, fun k k0 k1 => ?_, fun i i0 i1 => ?_⟩
  · have : r < 0 := r1
    omega
  · have : e < 0 := e1
    omega
  · unfold B0
    rw [if_neg (by omega), if_neg (by omega), if_neg (by omega)]
    decide
  · unfold B0
    rw [if_neg (by omega)]
    decide
variable {t : Int} {m : Mm}
/-- the class's loop over the clauses -/
theorem c15l {u1 u2 : aV} {K : Int → Mm → Prop} : ∀ (d : Nat) (B : Bk) (p c : Int) (m : Mm), n - p < d → 0 ≤ c → c ≤ p → StC f n B t m p → OutR (fun e x => ∀ m', fC t m m' → m' 3 0 = e → m' 3 1 = x → K (-1) m') (fun B' c' => ∀ m', fC t m m' → m' 3 0 = 0 → m' 3 1 = -1 → TbC B' m' t → K c' m') (txS f n d B p c) → X 15 40 [(1, 3), u1, u2, (1, t), (0, c)] [] m (qI K) := by
  intro d
  induction d with
  | zero =>
    intro B p c m hd c0 cp S kk
    have := S.b
    omega
  | succ d ih =>
    intro B p c m hd c0 cp S kk
    have hb := S.b
    have hn : m 3 4 = n := S.1.2.1
    refine w15_40 _ _ _ _ S.sh ⟨fun q => absurd q (by omega), fun _ => ?_⟩
    refine s19 S fun m1 f1 S1 H1 => ?_
    have te := tk_e (f := f) hb.2.1
    unfold txS at kk
    rw [H1.1]
    refine ⟨fun h => ?_, fun h => ?_⟩
    · rw [if_pos h] at kk
      have kk' : ∀ m', fC t m m' → m' 3 0 = 0 → m' 3 1 = -1 → TbC B m' t → K c m' := kk
      exact kk' m1 f1.fC S1.2.1 S1.2.2.1 S1.2.2.2
    · rw [if_neg h] at kk
      have pr := te.2.2.2 h
      have ok := clS_ok (f := f) (T := tk f n p) S.2.2.2.1 te.2.2.1
      refine c41 (K := fun v m' => (v = 0 → K (-1) m') ∧ (¬ v = 0 → X 15 40 [(1, 3), u1, u2, (1, t), (0, wr (c + 1))] [] m' (qI K))) (fun v m' _ h0 h1 => ⟨fun z => (h0 z).1 rfl, h1⟩) S1 H1 ?_
      unfold OC OkR at *
      revert kk ok
      generalize clS f n B (tk f n p) = r
      intro kk ok
      cases r with
      | inl q =>
        have kk' : ∀ m', fC t m m' → m' 3 0 = q.1 → m' 3 1 = q.2 → K (-1) m' := kk
        exact fun m' a b e => ⟨fun _ => kk' m' (f1.fC.tr a) b e, fun z => absurd rfl z⟩
      | inr q =>
        obtain ⟨o1, o2, o3⟩ := ok
        refine fun m' a S' => ⟨fun z => absurd z (by decide), fun _ => ?_⟩
        rw [wrI (x := c + 1) (by omega) (by omega)]
        refine ih q.1 q.2 (c + 1) m' (by omega) (by omega) (by omega) S' ?_
        have kk' : OutR (fun e x => ∀ m', fC t m m' → m' 3 0 = e → m' 3 1 = x → K (-1) m') (fun B' c' => ∀ m', fC t m m' → m' 3 0 = 0 → m' 3 1 = -1 → TbC B' m' t → K c' m') (txS f n d q.1 q.2 (c + 1)) := kk
        revert kk'
        generalize txS f n d q.1 q.2 (c + 1) = r2
        intro kk'
        have ga : fC t m m' := f1.fC.tr a
        cases r2 with
        | inl z => exact fun m2 g b e => kk' m2 (ga.tr g) b e
        | inr z => exact fun m2 g b e h => kk' m2 (ga.tr g) b e h
/-- a text as the class reads it(15): the table behind t is the spare one -/
theorem c15 {K : Int → Mm → Prop} (ht : t = 6 ∨ t = 108) (hn : 0 ≤ n ∧ n ≤ 900) (hf : ∀ i, 0 ≤ i → i < n → m 2 i = f i ∧ 0 ≤ f i ∧ f i < 256)
    (kk : OutR (fun e x => ∀ m', fC t m m' → m' 3 0 = e → m' 3 1 = x → K (-1) m') (fun B' c' => ∀ m', fC t m m' → m' 3 0 = 0 → m' 3 1 = -1 → TbC B' m' t → K c' m') (txS f n (n + 1).toNat B0 0 0)) : TrI 15 [(1, 3), (1, 2), (0, n), (1, t)] m K := by
  have sht : shp t = 30 := by obtain rfl | rfl := ht <;> decide +kernel
  have al : alen 2 = 900 := by decide +kernel
  refine e15 _ _ _ sht ⟨by decide, e16 _ _ ⟨by decide, fun m1 e1 => ⟨by decide, fun m2 e2 m3 e3 m4 e4 m5 e5 => ?_⟩⟩⟩
  rw [al, show min n 900 = n by omega] at e2
  refine e18 _ sht fun n1 g1 n2 g2 n3 g3 n4 g4 n5 g5 => ?_
  have F5 : ∀ x k, ¬ (x = 3 ∧ (k = 3 ∨ k = 4 ∨ k = 5 ∨ k = 0 ∨ k = 1)) → ¬ (x = t ∧ 5 ≤ k ∧ k ≤ 9) → n5 x k = m x k := fun x k h1 h2 => by
    rw [g5, um_n (by omega), g4, um_n (by omega), g3, um_n (by omega), g2, um_n (by omega), g1, um_n (by omega), e5, um_n (by omega), e4, um_n (by omega), e3, um_n (by omega), e2, um_n (by omega), e1, um_n (by omega)]
  have F5t : n5 t 5 = 0 ∧ n5 t 6 = 0 ∧ n5 t 7 = 500 ∧ n5 t 8 = 0 ∧ n5 t 9 = 0 := by
    refine ⟨?_, ?_, ?_, ?_, ?_⟩
    · rw [g5, um_k (by decide), g4, um_k (by decide), g3, um_k (by decide), g2, um_k (by decide), g1, um_s]
    · rw [g5, um_k (by decide), g4, um_k (by decide), g3, um_k (by decide), g2, um_s]
    · rw [g5, um_k (by decide), g4, um_k (by decide), g3, um_s]
    · rw [g5, um_k (by decide), g4, um_s]
    · rw [g5, um_s]
  have g15 : ∀ k, n5 3 k = m5 3 k := fun k => by
    rw [g5, um_n (by omega), g4, um_n (by omega), g3, um_n (by omega), g2, um_n (by omega), g1, um_n (by omega)]
  have F53 : n5 3 3 = 2 ∧ n5 3 4 = n ∧ n5 3 5 = 0 ∧ n5 3 0 = 0 ∧ n5 3 1 = -1 := by
    rw [g15, g15, g15, g15, g15]
    refine ⟨?_, ?_, ?_, ?_, ?_⟩
    · rw [e5, um_k (by decide), e4, um_k (by decide), e3, um_k (by decide), e2, um_k (by decide), e1, um_s]
    · rw [e5, um_k (by decide), e4, um_k (by decide), e3, um_k (by decide), e2, um_s]
    · rw [e5, um_k (by decide), e4, um_k (by decide), e3, um_s]
    · rw [e5, um_k (by decide), e4, um_s]
    · rw [e5, um_s]
  clear g15 e1 e2 e3 e4 e5 g1 g2 g3 g4 g5
  have l1 : ∀ (d k : Nat) (a : Mm), k + d = 25 → (∀ x j, ¬ (t + 3 ≤ x ∧ x < t + 6) → a x j = n5 x j) → (∀ j, 0 ≤ j → j < (k : Int) → a (t + 3) j = 0 ∧ a (t + 4) j = 0 ∧ a (t + 5) j = 0) → X 18 29 [(1, t), (0, (k : Int))] [] a (qV fun m5 => X 15 13 [(1, 3), (1, 2), (0, n), (1, t), (0, 0)] [] m5 (qI K)) := by
    intro d
    induction d with
    | zero =>
      intro k a hk fa Ia
      refine w18_29 _ _ sht ⟨fun q => absurd q (by omega), fun _ => ?_⟩
      have l2 : ∀ (d i : Nat) (b : Mm), i + d = 3 → (∀ x j, x ≠ 4 → b x j = a x j) → (∀ j, 0 ≤ j → j < (i : Int) → b 4 j = 0) → X 15 13 [(1, 3), (1, 2), (0, n), (1, t), (0, (i : Int))] [] b (qI K) := by
        intro d
        induction d with
        | zero =>
          intro i b hi fb Ib
          refine w15_13 _ _ _ _ sht ⟨fun q => absurd q (by omega), fun _ => ?_⟩
          have gf : fC t m b := fun x j h1 h2 h3 => by rw [fb x j h2, fa x j (by omega), F5 x j (by omega) (by omega)]
          have S : StC f n B0 t b 0 := by
            have y3 : ∀ k, b 3 k = n5 3 k := fun k => by rw [fb 3 k (by decide), fa 3 k (by omega)]
            have yt : ∀ k, b t k = n5 t k := fun k => by rw [fb t k (by omega), fa t k (by omega)]
            refine ⟨⟨by rw [y3]; exact F53.1, by rw [y3]; exact F53.2.1, by rw [y3]; exact F53.2.2.1, ⟨Int.le_refl _, hn.1, hn.2⟩, fun i i0 i1 => by rw [gf 2 i (by decide) (by decide) (by omega)]; exact hf i i0 i1⟩, by rw [y3]; exact F53.2.2.2.1, by rw [y3]; exact F53.2.2.2.2, B0_ok, ⟨ht, by rw [yt]; exact F5t.1, by rw [yt]; exact F5t.2.1, by rw [yt]; exact F5t.2.2.1, by rw [yt]; exact F5t.2.2.2.1, by rw [yt]; exact F5t.2.2.2.2, fun r r0 r1 => ?_, fun e e0 e1 => ?_, fun k k0 k1 => ?_⟩, fun r r0 r1 => ?_, fun j j0 j1 => ?_, fun k k0 k1 => ?_⟩
            · have : r < 0 := r1
              omega
            · have : e < 0 := e1
              omega
            · have := Ia k k0 (by omega)
              rw [fb _ _ (by omega), fb _ _ (by omega), EB_t, EB_t]
              unfold B0
              rw [if_neg (by omega), if_neg (by omega)]
              exact ⟨this.1, this.2.2⟩
            · have : r < 0 := r1
              omega
            · rw [Ib j j0 (by omega)]
              unfold B0
              rw [if_neg (by omega)]
            · have := Ia k k0 (by omega)
              rw [fb _ _ (by omega)]
              unfold B0
              rw [if_neg (by omega)]
              exact this.2.1
          refine c15l (n + 1).toNat B0 0 0 b (by omega) (Int.le_refl _) (Int.le_refl _) S ?_
          revert kk
          generalize txS f n (n + 1).toNat B0 0 0 = r
          intro kk
          cases r with
          | inl q => exact fun m' g b e => kk m' (gf.tr g) b e
          | inr q => exact fun m' g b e h => kk m' (gf.tr g) b e h
        | succ d ih =>
          intro i b hi fb Ib
          refine w15_13 _ _ _ _ sht ⟨fun _ => ⟨by omega, fun b1 e1 => ?_⟩, fun q => absurd (show (i : Int) < 3 by omega) q⟩
          rw [wrI (x := (i : Int) + 1) (by omega) (by omega)]
          refine ih (i + 1) b1 (by omega) (fun x j hx => by rw [e1, um_x hx]; exact fb x j hx) fun j j0 j1 => ?_
          by_cases hj : j = i
          · rw [hj, e1, um_s]
          · rw [e1, um_k hj]
            exact Ib j j0 (by omega)
      exact l2 3 0 a (by omega) (fun _ _ _ => rfl) fun j j0 j1 => by omega
    | succ d ih =>
      intro k a hk fa Ia
      refine w18_29 _ _ sht ⟨fun _ => ⟨by omega, fun a1 e1 a2 e2 a3 e3 => ?_⟩, fun q => absurd (show (k : Int) < 25 by omega) q⟩
      rw [wrI (x := (k : Int) + 1) (by omega) (by omega)]
      refine ih (k + 1) a3 (by omega) (fun x j hx => by rw [e3, um_n (by omega), e2, um_n (by omega), e1, um_n (by omega)]; exact fa x j hx) fun j j0 j1 => ?_
      by_cases hj : j = k
      · rw [hj, e3, um_x (by omega), um_x (by omega), um_s, e2, um_x (by omega), um_s, e1, um_s]
        exact ⟨rfl, rfl, rfl⟩
      · rw [e3, um_k hj, um_k hj, um_k hj, e2, um_k hj, um_k hj, um_k hj, e1, um_k hj, um_k hj, um_k hj]
        exact Ia j j0 (by omega)
  exact l1 25 0 n5 (by omega) (fun _ _ _ => rfl) fun j j0 j1 => by omega
end TXS
