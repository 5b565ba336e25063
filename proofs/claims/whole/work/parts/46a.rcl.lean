/-! the reference reads a clause: the small methods -/
def fRf (m m' : Mm) : Prop := ∀ x k, ¬ (x = 597 ∧ ((4 ≤ k ∧ k ≤ 5) ∨ (8 ≤ k ∧ k ≤ 14) ∨ k = 17 ∨ k = 18)) → x ≠ 601 → ¬ (x = 602 ∧ 583 ≤ k) → m' x k = m x k
def TbR (B : Bk) (m : Mm) : Prop := m 597 16 = 1 ∧ (∀ k, 0 ≤ k → k < 583 → m 602 (583 + k) = B k) ∧ (∀ i, 0 ≤ i → i < 3 → (iand (ishr (m 597 17) i) 1 = 1 ↔ B (600 + i) = 1)) ∧ ∀ k, 0 ≤ k → k < 25 → (iand (ishr (m 597 18) k) 1 = 1 ↔ B (610 + k) = 1)
def StR (f : Int → Int) (n : Int) (B : Bk) (m : Mm) (p : Int) : Prop := ScR f n m (tk f n p).e ∧ HoR f m (tk f n p) ∧ TbR B m ∧ (0 ≤ p ∧ p ≤ n) ∧ m 597 4 = 0 ∧ m 597 5 = -1
def FR (m : Mm) (K : Int → Mm → Prop) (c x : Int) : Prop := ∀ m', fRf m m' → m' 597 4 = c → m' 597 5 = x → K 0 m'
def GR (f : Int → Int) (n : Int) (m : Mm) (K : Int → Mm → Prop) (B : Bk) (p : Int) : Prop := ∀ m', fRf m m' → StR f n B m' p → K 1 m'
def OR (f : Int → Int) (n : Int) (m : Mm) (K : Int → Mm → Prop) (r : Rs) : Prop := OutR (FR m K) (GR f n m K) r
theorem rk_1 {T : Tk} (h : 0 ≤ T.k ∧ T.k ≤ 7) : (rkT T = 1 ↔ T.k = 1) ∧ (rkT T = 3 ↔ T.k = 3) ∧ (rkT T = 5 ↔ T.k = 4) ∧ (rkT T = 6 ↔ T.k = 5) ∧ (rkT T = 4 ↔ T.k = 6) ∧ (rkT T = 2 ↔ T.k = 2 ∧ T.sz ≤ 8) ∧ (rkT T = 0 ↔ T.k = 0) := by
  unfold rkT
  by_cases h4 : T.k = 4
  · rw [if_pos h4]; omega
  · rw [if_neg h4]
    by_cases h5 : T.k = 5
    · rw [if_pos h5]; omega
    · rw [if_neg h5]
      by_cases h6 : T.k = 6
      · rw [if_pos h6]; omega
      · rw [if_neg h6]
        by_cases h2 : T.k = 2 ∧ T.sz > 8
        · rw [if_pos h2]; omega
        · rw [if_neg h2]; omega
section RCL
variable {f : Int → Int} {n p : Int} {B : Bk} {m m' : Mm} {K : Int → Mm → Prop}
theorem fRf.refl : fRf m m := fun _ _ _ _ _ => rfl
theorem fRf.tr {m1 m2 : Mm} (h : fRf m m1) (h2 : fRf m1 m2) : fRf m m2 := fun x k a b c => (h2 x k a b c).trans (h x k a b c)
theorem f170.R (h : f170 m m') : fRf m m' := fun x k a b _ => h x k (by omega) b
theorem FR.mv {m1 : Mm} {c x : Int} (h : FR m K c x) (g : fRf m m1) : FR m1 K c x := fun m' a b d => h m' (g.tr a) b d
theorem OR.mv {m1 : Mm} {r : Rs} (h : OR f n m K r) (g : fRf m m1) : OR f n m1 K r := by
  unfold OR OutR at h ⊢
  cases r with
  | inl q => exact FR.mv h g
  | inr q => exact fun m' f' a => h m' (g.tr f') a
theorem TbR.fr (T : TbR B m) (h : f170 m m') : TbR B m' := by
  obtain ⟨a, b, c, d⟩ := T
  refine ⟨by rw [h _ _ (by decide) (by decide)]; exact a, fun k k0 k1 => by rw [h _ _ (by omega) (by omega)]; exact b k k0 k1, fun i i0 i1 => by rw [h _ _ (by decide) (by decide)]; exact c i i0 i1, fun k k0 k1 => by rw [h _ _ (by decide) (by decide)]; exact d k k0 k1⟩
/-- the step -/
theorem s170 {K : Mm → Prop} (S : StR f n B m p) (kk : ∀ m', f170 m m' → StR f n B m' (tk f n p).e → K m') : TrV 170 [(1, 597)] m K := by
  have te := tk_e (f := f) S.2.2.2.1.2
  have b := S.2.2.2.1
  exact c170 S.1 fun m' f' S' H' => kk m' f' ⟨S', H', S.2.2.1.fr f', ⟨by omega, te.2.2.1⟩, by rw [f' _ _ (by decide) (by decide)]; exact S.2.2.2.2.1, by rw [f' _ _ (by decide) (by decide)]; exact S.2.2.2.2.2⟩
/-- a cell outside -/
theorem StR.um {k v : Int} (S : StR f n B m p) (h : m' = umem m 597 k v) (hk : k = 14) : StR f n B m' p := by
  subst hk
  have e : ∀ x j, ¬ (x = 597 ∧ j = 14) → m' x j = m x j := fun x j q => by rw [h, um_n q]
  obtain ⟨⟨a, b, c, d⟩, ⟨h1, h2, h3, h4, h5⟩, ⟨t1, t2, t3, t4⟩, g, g2, g3⟩ := S
  refine ⟨⟨by rw [e _ _ (by decide)]; exact a, by rw [e _ _ (by decide)]; exact b, c, fun i i0 i1 => by rw [e _ _ (by omega)]; exact d i i0 i1⟩, ⟨by rw [e _ _ (by decide)]; exact h1, by rw [e _ _ (by decide)]; exact h2, fun q => by rw [e _ _ (by decide)]; exact h3 q, fun q => by rw [e _ _ (by decide)]; exact h4 q, fun q => ?_⟩, ⟨by rw [e _ _ (by decide)]; exact t1, fun k k0 k1 => by rw [e _ _ (by omega)]; exact t2 k k0 k1, fun i i0 i1 => by rw [e _ _ (by decide)]; exact t3 i i0 i1, fun i i0 i1 => by rw [e _ _ (by decide)]; exact t4 i i0 i1⟩, g, by rw [e _ _ (by decide)]; exact g2, by rw [e _ _ (by decide)]; exact g3⟩
  rw [e _ _ (by decide)]
  exact ⟨(h5 q).1, fun i i0 i1 => by rw [e _ _ (by omega)]; exact (h5 q).2 i i0 i1⟩
/-- a cell of the book -/
theorem StR.wr {q v : Int} (S : StR f n B m p) (hq : 0 ≤ q ∧ q < 583) (h : m' = umem m 602 (583 + q) v) : StR f n (bkU q v B) m' p ∧ fRf m m' := by
  have e : ∀ x j, ¬ (x = 602 ∧ j = 583 + q) → m' x j = m x j := fun x j q => by rw [h, um_n q]
  obtain ⟨⟨a, b, c, d⟩, ⟨h1, h2, h3, h4, h5⟩, ⟨t1, t2, t3, t4⟩, g, g2, g3⟩ := S
  refine ⟨⟨⟨by rw [e _ _ (by omega)]; exact a, by rw [e _ _ (by omega)]; exact b, c, fun i i0 i1 => by rw [e _ _ (by omega)]; exact d i i0 i1⟩, ⟨by rw [e _ _ (by omega)]; exact h1, by rw [e _ _ (by omega)]; exact h2, fun q => by rw [e _ _ (by omega)]; exact h3 q, fun q => by rw [e _ _ (by omega)]; exact h4 q, fun q => ?_⟩, ⟨by rw [e _ _ (by omega)]; exact t1, fun k k0 k1 => ?_, fun i i0 i1 => by rw [e _ _ (by omega), bkU_n (by omega)]; exact t3 i i0 i1, fun i i0 i1 => by rw [e _ _ (by omega), bkU_n (by omega)]; exact t4 i i0 i1⟩, g, by rw [e _ _ (by omega)]; exact g2, by rw [e _ _ (by omega)]; exact g3⟩, fun x k _ _ h3 => e x k (by omega)⟩
  · rw [e _ _ (by omega)]
    exact ⟨(h5 q).1, fun i i0 i1 => by rw [e _ _ (by omega)]; exact (h5 q).2 i i0 i1⟩
  · by_cases hk : k = q
    · rw [hk, h, um_s, bkU_s]
    · rw [bkU_n hk, e _ _ (by omega)]
      exact t2 k k0 k1
theorem StR.eq {B' : Bk} (S : StR f n B m p) (h : ∀ k, (0 ≤ k ∧ k < 583) ∨ (600 ≤ k ∧ k < 603) ∨ (610 ≤ k ∧ k < 635) → B' k = B k) : StR f n B' m p := by
  obtain ⟨s1, s2, ⟨t1, t2, t3, t4⟩, g⟩ := S
  exact ⟨s1, s2, ⟨t1, fun k k0 k1 => by rw [h k (by omega)]; exact t2 k k0 k1, fun i i0 i1 => by rw [h _ (by omega)]; exact t3 i i0 i1, fun i i0 i1 => by rw [h _ (by omega)]; exact t4 i i0 i1⟩, g⟩
/-- a fault is noted -/
theorem FR.at {c x y : Int} (h : FR m K c x) (hy : y = x) : ∀ m1, m1 = umem m 597 4 c → ∀ m2, m2 = umem m1 597 5 y → K 0 m2 := fun m1 e1 m2 e2 => by
  subst hy
  exact h m2 (fun a k h1 _ _ => by rw [e2, um_n (by omega), e1, um_n (by omega)]) (by rw [e2, um_k (by decide), e1, um_s]) (by rw [e2, um_s])
theorem c184 {bd : Int} (hb : bd ≤ 99999) (S : StR f n B m p) (b1 : ¬ (tk f n p).k = 3 → FR m K 1 (tk f n p).pl) (b2 : (tk f n p).k = 3 → (tk f n p).v > bd → FR m K 2 (tk f n p).pl) (kk : (tk f n p).k = 3 → ¬ (tk f n p).v > bd → ∀ m', fRf m m' → StR f n B m' (tk f n p).e → m' 597 14 = (tk f n p).v → K 1 m') : TrI 184 [(1, 597), (0, bd)] m K := by
  obtain ⟨h1, h2, h3, h4, h5⟩ := S.2.1
  have rk := rk_1 (tk_w (f := f) S.2.2.2.1.2).2.2.2.2
  refine e184 _ ?_
  rw [h2]
  refine ⟨fun q => ?_, fun q => FR.at (b1 fun z => q (rk.2.1.mpr z)) h1⟩
  have k3 := rk.2.1.mp q
  obtain ⟨a1, a2, a3⟩ := h4 k3
  unfold NmE at a1
  refine ⟨fun q2 => FR.at (b2 k3 (by omega)) h1, fun q2 => fun m1 e1 => s170 (S.um e1 rfl) fun m2 f2 S2 => ?_⟩
  have ev : m 597 10 = (tk f n p).v := by omega
  rw [ev] at e1
  refine kk k3 (by omega) m2 (fRf.tr (m1 := m1) (fun x k a _ _ => by rw [e1, um_n (by omega)]) f2.R) S2 ?_
  rw [f2 _ _ (by decide) (by decide), e1, um_s]
/-- a kind(187) -/
theorem c187 (S : StR f n B m p) (b1 : kdS (tk f n p) < 0 → FR m K 1 (tk f n p).pl) (kk : ¬ kdS (tk f n p) < 0 → ∀ m', fRf m m' → StR f n B m' (tk f n p).e → m' 597 14 = 13 + kdS (tk f n p) → K 1 m') : TrI 187 [(1, 597), (0, 13), (0, 17)] m K := by
  obtain ⟨h1, h2, h3, h4, h5⟩ := S.2.1
  have rk := rk_1 (tk_w (f := f) S.2.2.2.1.2).2.2.2.2
  unfold kdS at b1 kk
  refine e187 _ _ ?_
  rw [h2]
  refine ⟨fun q => ?_, fun q => FR.at (b1 (by rw [if_neg (fun z => q (rk.1.mpr z.1))]; decide)) h1⟩
  have k1 := rk.1.mp q
  have v1 := h3 (Or.inl k1)
  rw [v1]
  refine ⟨fun q2 m1 e1 => s170 (S.um e1 rfl) fun m2 f2 S2 => ?_, fun q2 => FR.at (b1 (by rw [if_neg (fun z => q2 z.2)]; decide)) h1⟩
  have c : (tk f n p).k = 1 ∧ 13 ≤ (tk f n p).v ∧ (tk f n p).v ≤ 17 := ⟨k1, q2⟩
  rw [if_pos c] at kk
  refine kk (by omega) m2 (fRf.tr (m1 := m1) (fun x k a _ _ => by rw [e1, um_n (by omega)]) f2.R) S2 ?_
  rw [f2 _ _ (by decide) (by decide), e1, um_s]
  omega
/-- a condition(183) -/
theorem cd_tab {who a1 a2 V c : Int} (hw : (who = 0 ∧ a1 = 8 ∧ a2 = -1) ∨ (who = 1 ∧ a1 = 11 ∧ a2 = 12)) (hV : 0 ≤ V) (hc : c = if V = 7 then 0 else if V = 8 then (if who = 0 then 1 else -1) else if V = 9 then 2 else if V = 10 then 3 else if V = 11 then (if who = 0 then -1 else 1) else if V = 12 then (if who = 0 then -1 else 30) else -1) : (V = 7 → c = 0) ∧ (V = 9 → c = 2) ∧ (V = 10 → c = 3) ∧ (¬ V = 7 → ¬ V = 9 → ¬ V = 10 → V = a1 → c = 1) ∧ (¬ V = 7 → ¬ V = 9 → ¬ V = 10 → ¬ V = a1 → V = a2 → c = 30) ∧ (¬ V = 7 → ¬ V = 9 → ¬ V = 10 → ¬ V = a1 → ¬ V = a2 → c = -1) := by
  obtain ⟨rfl, rfl, rfl⟩ | ⟨rfl, rfl, rfl⟩ := hw
  · simp only [if_true] at hc
    repeat' split at hc
    all_goals omega
  · simp only [show ¬ (1 : Int) = 0 by decide, if_false] at hc
    repeat' split at hc
    all_goals omega
theorem c183 {who a1 a2 : Int} (hw : (who = 0 ∧ a1 = 8 ∧ a2 = -1) ∨ (who = 1 ∧ a1 = 11 ∧ a2 = 12)) (S : StR f n B m p) (b1 : cdS f who (tk f n p) < 0 → FR m K 1 (tk f n p).pl) (kk : ¬ cdS f who (tk f n p) < 0 → ∀ m', fRf m m' → StR f n B m' (tk f n p).e → m' 597 14 = cdS f who (tk f n p) → K 1 m') : TrI 183 [(1, 597), (0, a1), (0, a2)] m K := by
  obtain ⟨h1, h2, h3, -, h5⟩ := S.2.1
  have tw := tk_w (f := f) S.2.2.2.1.2
  have rk := rk_1 tw.2.2.2.2
  have tw1 := tw.1
  have tw4 := tw.2.2.2.1
  have rk1 := rk.1
  have rk2 := rk.2.2.2.2.2.1
  clear tw rk
  have go : ∀ c, cdS f who (tk f n p) = c → 0 ≤ c → ∀ m1, m1 = umem m 597 14 c → TrV 170 [(1, 597)] m1 fun m2 => K 1 m2 := fun c hc c0 m1 e1 => s170 (S.um e1 rfl) fun m2 f2 S2 => by
    rw [hc] at kk
    refine kk (Int.not_lt.mpr c0) m2 (fRf.tr (m1 := m1) (fun x k a _ _ => by rw [e1, um_n (fun z => a ⟨z.1, Or.inr (Or.inl ⟨by rw [z.2]; decide, by rw [z.2]; decide⟩)⟩)]) f2.R) S2 ?_
    rw [f2 _ _ (by decide) (by decide), e1, um_s]
  have bad' : cdS f who (tk f n p) = -1 → ∀ m1, m1 = umem m 597 4 1 → ∀ m2, m2 = umem m1 597 5 (m 597 11) → K 0 m2 := fun hc => FR.at (b1 (by rw [hc]; decide)) h1
  have rest : ¬ ((tk f n p).k = 2 ∧ (tk f n p).sz = 1) → X 183 31 [(1, 597), (0, a1), (0, a2)] [] m (qI K) := by
    intro hq
    have cd : cdS f who (tk f n p) = if (tk f n p).k = 1 then (if (tk f n p).v = 7 then 0 else if (tk f n p).v = 8 then (if who = 0 then 1 else -1) else if (tk f n p).v = 9 then 2 else if (tk f n p).v = 10 then 3 else if (tk f n p).v = 11 then (if who = 0 then -1 else 1) else if (tk f n p).v = 12 then (if who = 0 then -1 else 30) else -1) else -1 := by
      unfold cdS
      rw [if_neg hq]
    by_cases k1 : (tk f n p).k = 1
    · have r1 : m 597 9 = 1 := by rw [h2]; exact rk1.mpr k1
      have v1 := h3 (Or.inl k1)
      have vr := tw4 k1
      rw [if_pos k1] at cd
      obtain ⟨d7, d9, d10, da, db, dc⟩ := cd_tab hw vr.1 cd
      clear cd b1 kk tw1 tw4 rk1 rk2 h5 h3 h2
      generalize hV : (tk f n p).v = V at *
      generalize cdS f who (tk f n p) = c at *
      refine w183_31 _ _ ?_
      rw [r1, v1]
      have t3 : ¬ V = 7 → ¬ V = 9 → ¬ V = 10 → ¬ V = a1 → X 183 122 [(1, 597), (0, a1), (0, a2)] [] m (qI K) := fun n7 n9 n10 na => by
        refine w183_122 _ _ ?_
        rw [r1, v1]
        exact ⟨fun _ => ⟨fun q m1 e1 => go 30 (db n7 n9 n10 na q) (by decide) m1 e1, fun q => bad' (dc n7 n9 n10 na q)⟩, fun q => absurd rfl q⟩
      have t2 : ¬ V = 7 → ¬ V = 9 → ¬ V = 10 → X 183 98 [(1, 597), (0, a1), (0, a2)] [] m (qI K) := fun n7 n9 n10 => by
        refine w183_98 _ _ ?_
        rw [r1, v1]
        exact ⟨fun _ => ⟨fun q m1 e1 => go 1 (da n7 n9 n10 q) (by decide) m1 e1, t3 n7 n9 n10⟩, fun q => absurd rfl q⟩
      have t82 : V = 9 ∨ V = 10 → X 183 82 [(1, 597), (0, a1), (0, a2)] [] m (qI K) := fun q => by
        refine w183_82 _ _ ?_
        rw [v1]
        intro m1 e1
        obtain q | q := q
        · exact go 2 (d9 q) (by decide) m1 (by rw [e1, q]; rfl)
        · exact go 3 (d10 q) (by decide) m1 (by rw [e1, q]; rfl)
      exact ⟨fun _ => ⟨fun q m1 e1 => go 0 (d7 q) (Int.le_refl _) m1 e1, fun q7 => ⟨fun _ => ⟨fun q => t82 (Or.inl q), fun q9 => ⟨fun q => t82 (Or.inr q), fun q10 => t2 q7 q9 q10⟩⟩, fun q => absurd rfl q⟩⟩, fun q => absurd rfl q⟩
    · have r1 : ¬ m 597 9 = 1 := by rw [h2]; exact fun z => k1 (rk1.mp z)
      rw [if_neg k1] at cd
      have b98 : X 183 98 [(1, 597), (0, a1), (0, a2)] [] m (qI K) := w183_98 _ _ ⟨fun q => absurd q r1, fun _ => w183_122 _ _ ⟨fun q => absurd q r1, fun _ => bad' cd⟩⟩
      exact w183_31 _ _ ⟨fun q => absurd q r1, fun _ => ⟨fun q => absurd q r1, fun _ => b98⟩⟩
  refine e183 _ _ ?_
  rw [h2]
  refine ⟨fun q => ?_, fun q => rest fun z => q (rk2.mpr ⟨z.1, by rw [z.2]; decide⟩)⟩
  have h5' := h5 q
  have k2 := rk2.mp q
  rw [h5'.1]
  refine ⟨fun q2 m1 e1 => ?_, fun q2 => rest fun z => q2 z.2⟩
  have l := h5'.2 0 (Int.le_refl _) (by rw [q2]; decide)
  have b := tw1 k2.1
  have lb := b.2.2 (tk f n p).pl (Int.le_refl _) (by rw [← b.2.1, q2]; exact Int.lt_succ _)
  rw [Int.add_zero] at l
  have cd : cdS f who (tk f n p) = 4 + f (tk f n p).pl - 97 := by
    unfold cdS
    rw [if_pos ⟨k2.1, q2⟩]
  clear b1 kk h5 h5' rest bad' tw1 tw4 b rk1 rk2 hw h2 h3
  generalize f (tk f n p).pl = L at *
  rw [l, wrI (x := 4 + (L - 97)) (by omega) (by omega)] at e1
  exact go (4 + (L - 97)) (by omega) (by omega) m1 e1
end RCL
