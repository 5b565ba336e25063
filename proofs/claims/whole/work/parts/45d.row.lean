/-! a new row of the class's table -/
section ROW
variable {f : Int → Int} {n p t : Int} {B : Bk} {m m' : Mm}
theorem x_sh {t r : Int} (ht : t = 6 ∨ t = 108) (hr : 0 ≤ r ∧ r < 24) : shp (t + 6 + 2 * r) = 27 ∧ shp (t + 6 + 2 * r + 1) = 0 ∧ alen (t + 6 + 2 * r + 1) = 6 ∧ (∀ i, 0 ≤ i → i < 6 → slot (t + 6 + 2 * r + 1) i = some none) ∧ shp (t + 54 + 2 * r) = 21 ∧ shp (t + 54 + 2 * r + 1) = 0 ∧ alen (t + 54 + 2 * r + 1) = 8 ∧ ∀ i, 0 ≤ i → i < 8 → slot (t + 54 + 2 * r + 1) i = some none := by
  have h1 : ∀ r : Nat, r < 24 → shp (6 + 6 + 2 * (r : Int)) = 27 ∧ shp (6 + 6 + 2 * (r : Int) + 1) = 0 ∧ alen (6 + 6 + 2 * (r : Int) + 1) = 6 ∧ (∀ i : Nat, i < 6 → slot (6 + 6 + 2 * (r : Int) + 1) i = some none) ∧ shp (6 + 54 + 2 * (r : Int)) = 21 ∧ shp (6 + 54 + 2 * (r : Int) + 1) = 0 ∧ alen (6 + 54 + 2 * (r : Int) + 1) = 8 ∧ ∀ i : Nat, i < 8 → slot (6 + 54 + 2 * (r : Int) + 1) i = some none := by decide +kernel
  have h2 : ∀ r : Nat, r < 24 → shp (108 + 6 + 2 * (r : Int)) = 27 ∧ shp (108 + 6 + 2 * (r : Int) + 1) = 0 ∧ alen (108 + 6 + 2 * (r : Int) + 1) = 6 ∧ (∀ i : Nat, i < 6 → slot (108 + 6 + 2 * (r : Int) + 1) i = some none) ∧ shp (108 + 54 + 2 * (r : Int)) = 21 ∧ shp (108 + 54 + 2 * (r : Int) + 1) = 0 ∧ alen (108 + 54 + 2 * (r : Int) + 1) = 8 ∧ ∀ i : Nat, i < 8 → slot (108 + 54 + 2 * (r : Int) + 1) i = some none := by decide +kernel
  obtain ⟨k, rfl⟩ := Int.eq_ofNat_of_zero_le hr.1
  have q : ∀ {N : Nat} {a : Int}, (∀ i : Nat, i < N → slot a i = some none) → ∀ i : Int, 0 ≤ i → i < N → slot a i = some none := fun h i i0 i1 => by
    obtain ⟨j, rfl⟩ := Int.eq_ofNat_of_zero_le i0
    exact h j (by omega)
  obtain rfl | rfl := ht
  · obtain ⟨a1, a2, a3, a4, a5, a6, a7, a8⟩ := h1 k (by omega)
    exact ⟨a1, a2, a3, q a4, a5, a6, a7, q a8⟩
  · obtain ⟨a1, a2, a3, a4, a5, a6, a7, a8⟩ := h2 k (by omega)
    exact ⟨a1, a2, a3, q a4, a5, a6, a7, q a8⟩
theorem TbC.rd {sg lp sz c0 c1 pr : Int} (T : TbC B m t) (hB : B 578 < 24) (hs : 0 ≤ sg ∧ sg < 10) (hz : 0 ≤ sz ∧ sz ≤ 6) (h0 : 0 ≤ c0 ∧ c0 ≤ 29) (h1 : 0 ≤ c1 ∧ c1 ≤ 30) (hl : ∀ i, 0 ≤ i → i < sz → 97 ≤ f (lp + i) ∧ f (lp + i) ≤ 122)
    (h : ∀ x k, ((t ≤ x ∧ x < t + 6 + 2 * B 578) ∧ ¬ (x = t ∧ k = 5)) ∨ (t + 54 ≤ x ∧ x < t + 54 + 2 * B 579) ∨ x = 4 → m' x k = m x k) (h5 : m' t 5 = B 578 + 1)
    (x1 : m' (t + 6 + 2 * B 578) 1 = sg) (x2 : m' (t + 6 + 2 * B 578) 2 = sz) (x3 : m' (t + 6 + 2 * B 578) 3 = c0) (x4 : m' (t + 6 + 2 * B 578) 4 = c1) (x5 : m' (t + 6 + 2 * B 578) 5 = msk c0) (x6 : m' (t + 6 + 2 * B 578) 6 = msk c1) (x7 : m' (t + 6 + 2 * B 578) 7 = pr) (xl : ∀ i, 0 ≤ i → i < sz → m' (t + 6 + 2 * B 578 + 1) i = f (lp + i)) : TbC (rdB f B sg lp sz c0 c1 pr) m' t := by
  obtain ⟨I, ⟨a1, a2, a3, a4, a5, a6, a7, a8, a9⟩, os, st, pt⟩ := T
  have I1 := I.1
  have I2 := I.2.1
  have I' := I.rd (f := f) (lp := lp) (pr := pr) hB hs hz ⟨h0.1, by omega⟩ h1 hl
  obtain ⟨v1, v2, v3, v4, v5, v6, v7⟩ := rdB_v (f := f) (sg := sg) (lp := lp) (c0 := c0) (c1 := c1) (pr := pr) ⟨I1.1, hB⟩ hz.2
  have o : ∀ k, k ≠ 578 → ¬ (11 * B 578 ≤ k ∧ k < 11 * B 578 + 11) → rdB f B sg lp sz c0 c1 pr k = B k := fun k => rdB_o hz.2
  generalize rdB f B sg lp sz c0 c1 pr = B' at *
  have sx := x_sh (t := t) (r := B 578) a1 ⟨I1.1, hB⟩
  have e : ∀ k, k ≠ 5 → m' t k = m t k := fun k hk => h t k (Or.inl (by omega))
  refine ⟨I', ⟨a1, by rw [h5]; exact v1.symm, ?_, ?_, ?_, ?_, fun r r0 r1 => ?_, fun y y0 y1 => ?_, fun k k0 k1 => ?_⟩, fun r r0 r1 => ?_, fun i i0 i1 => ?_, fun k k0 k1 => ?_⟩
  · rw [e _ (by decide), EB_t, o _ (by decide) (by omega)]; exact a3
  · rw [e _ (by decide), EB_t, o _ (by decide) (by omega)]; exact a4
  · rw [e _ (by decide), EB_t, o _ (by decide) (by omega)]; exact a5
  · rw [e _ (by decide), EB_t, o _ (by decide) (by omega)]; exact a6
  · rw [EB_t, v1] at r1
    by_cases hr : r = B 578
    · subst hr
      refine ⟨sx.1, by rw [EB_t, v2]; exact x1, by rw [EB_t, v3]; exact x2, fun i i0 i1 => ?_, by rw [EB_t, v6]; exact x7, fun l l0 l1 => ?_, fun c c0' c1' => ?_⟩
      · rw [EB_t, v3] at i1
        rw [EB_t, v7 i i0 i1, xl i i0 i1]
        omega
      · rw [EB_t, v4, x5]
        obtain ⟨a, rfl⟩ := Int.eq_ofNat_of_zero_le h0.1
        obtain ⟨b, rfl⟩ := Int.eq_ofNat_of_zero_le l0
        exact msk_0 a (by omega) b (by omega)
      · rw [EB_t, v5, x6]
        obtain ⟨a, rfl⟩ := Int.eq_ofNat_of_zero_le h1.1
        obtain ⟨b, rfl⟩ := Int.eq_ofNat_of_zero_le c0'
        exact msk_1 a (by omega) b (by omega)
    · have r1' : r < B 578 := by omega
      refine (a7 r r0 r1').eq ?_ (fun j j0 j1 => ?_) (fun k => h _ _ (by omega)) fun k => h _ _ (by omega)
      · exact (I.2.2.2.2.2.1 r r0 r1').2.1.2
      · rw [EB_t, EB_t]
        exact o _ (by omega) (by omega)
  · rw [EB_t, o 579 (by decide) (by omega)] at y1
    refine (a8 y y0 y1).eq ?_ (fun j j0 j1 => ?_) (fun k => h _ _ (by omega)) fun k => h _ _ (by omega)
    · exact (I.2.2.2.2.2.2.1 y y0 y1).1.2
    · rw [EB_t, EB_t]
      exact o _ (by omega) (by omega)
  · rw [h (t + 3) k (by omega), h (t + 5) k (by omega), EB_t, EB_t, o _ (by omega) (by omega), o _ (by omega) (by omega)]
    exact a9 k k0 k1
  · rw [v1] at r1
    by_cases hr : r = B 578
    · subst hr
      rw [v4, v5]
      exact ⟨x3, x4⟩
    · rw [h _ _ (by omega), h _ _ (by omega), o _ (by omega) (by omega), o _ (by omega) (by omega)]
      exact os r r0 (by omega)
  · rw [h _ _ (by omega), o _ (by omega) (by omega)]
    exact st i i0 i1
  · rw [h _ _ (by omega), o _ (by omega) (by omega)]
    exact pt k k0 k1
theorem TbC.en {lp sz kd pr : Int} (T : TbC B m t) (hB : B 579 < 24) (hz : 1 ≤ sz ∧ sz ≤ 8) (h0 : 0 ≤ kd ∧ kd < 5) (h1 : 0 ≤ pr ∧ pr ≤ 9) (hl : ∀ i, 0 ≤ i → i < sz → 97 ≤ f (lp + i) ∧ f (lp + i) ≤ 122)
    (h : ∀ x k, ((t ≤ x ∧ x < t + 6 + 2 * B 578) ∧ ¬ (x = t ∧ k = 6)) ∨ (t + 54 ≤ x ∧ x < t + 54 + 2 * B 579) ∨ x = 4 → m' x k = m x k) (h5 : m' t 6 = B 579 + 1)
    (x1 : m' (t + 54 + 2 * B 579) 1 = sz) (x2 : m' (t + 54 + 2 * B 579) 2 = kd) (x3 : m' (t + 54 + 2 * B 579) 3 = pr) (xl : ∀ i, 0 ≤ i → i < sz → m' (t + 54 + 2 * B 579 + 1) i = f (lp + i)) : TbC (enB f B lp sz kd pr) m' t := by
  obtain ⟨I, ⟨a1, a2, a3, a4, a5, a6, a7, a8, a9⟩, os, st, pt⟩ := T
  have I1 := I.1
  have I2 := I.2.1
  have I' := I.en (f := f) (lp := lp) hB hz h0 h1 hl
  obtain ⟨v1, v2, v3, v4, v7⟩ := enB_v (f := f) (lp := lp) (kd := kd) (pr := pr) ⟨I2.1, hB⟩ hz.2
  have o : ∀ k, k ≠ 579 → ¬ (264 + 11 * B 579 ≤ k ∧ k < 264 + 11 * B 579 + 11) → enB f B lp sz kd pr k = B k := fun k => enB_o hz.2
  generalize enB f B lp sz kd pr = B' at *
  have sx := x_sh (t := t) (r := B 579) a1 ⟨I2.1, hB⟩
  have e : ∀ k, k ≠ 6 → m' t k = m t k := fun k hk => h t k (Or.inl (by omega))
  refine ⟨I', ⟨a1, ?_, by rw [h5]; exact v1.symm, ?_, ?_, ?_, fun r r0 r1 => ?_, fun y y0 y1 => ?_, fun k k0 k1 => ?_⟩, fun r r0 r1 => ?_, fun i i0 i1 => ?_, fun k k0 k1 => ?_⟩
  · rw [e _ (by decide), EB_t, o _ (by decide) (by omega)]; exact a2
  · rw [e _ (by decide), EB_t, o _ (by decide) (by omega)]; exact a4
  · rw [e _ (by decide), EB_t, o _ (by decide) (by omega)]; exact a5
  · rw [e _ (by decide), EB_t, o _ (by decide) (by omega)]; exact a6
  · rw [EB_t, o 578 (by decide) (by omega)] at r1
    refine (a7 r r0 r1).eq ?_ (fun j j0 j1 => ?_) (fun k => h _ _ (by omega)) fun k => h _ _ (by omega)
    · exact (I.2.2.2.2.2.1 r r0 r1).2.1.2
    · rw [EB_t, EB_t]
      exact o _ (by omega) (by omega)
  · rw [EB_t, v1] at y1
    by_cases hr : y = B 579
    · subst hr
      refine ⟨sx.2.2.2.2.1, by rw [EB_t, v2]; exact x1, by rw [EB_t, v3]; exact x2, by rw [EB_t, v4]; exact x3, fun i i0 i1 => ?_⟩
      rw [EB_t, v2] at i1
      rw [EB_t, v7 i i0 i1, xl i i0 i1]
      omega
    · have y1' : y < B 579 := by omega
      refine (a8 y y0 y1').eq ?_ (fun j j0 j1 => ?_) (fun k => h _ _ (by omega)) fun k => h _ _ (by omega)
      · exact (I.2.2.2.2.2.2.1 y y0 y1').1.2
      · rw [EB_t, EB_t]
        exact o _ (by omega) (by omega)
  · rw [h (t + 3) k (by omega), h (t + 5) k (by omega), EB_t, EB_t, o _ (by omega) (by omega), o _ (by omega) (by omega)]
    exact a9 k k0 k1
  · rw [o 578 (by decide) (by omega)] at r1
    rw [h _ _ (by omega), h _ _ (by omega), o _ (by omega) (by omega), o _ (by omega) (by omega)]
    exact os r r0 r1
  · rw [h _ _ (by omega), o _ (by omega) (by omega)]
    exact st i i0 i1
  · rw [h _ _ (by omega), o _ (by omega) (by omega)]
    exact pt k k0 k1
theorem StC.fw (S : StC f n B t m p) (h : ∀ x k, x = 2 ∨ x = 3 ∨ x = 4 ∨ (t ≤ x ∧ x < t + 6 + 2 * B 578) ∨ (t + 54 ≤ x ∧ x < t + 54 + 2 * B 579) → m' x k = m x k) : StC f n B t m' p := by
  obtain ⟨⟨a, b, c, d, e⟩, g, g2, T⟩ := S
  refine ⟨⟨by rw [h _ _ (by omega)]; exact a, by rw [h _ _ (by omega)]; exact b, by rw [h _ _ (by omega)]; exact c, d, fun i i0 i1 => by rw [h _ _ (by omega)]; exact e i i0 i1⟩, by rw [h _ _ (by omega)]; exact g, by rw [h _ _ (by omega)]; exact g2, T.fr fun x k hx => h x k (by omega)⟩
/-- letters are copied(44) -/
theorem c44 {a L : Int} {K : Int → Mm → Prop} (S : ScC f n m (tk f n p).e) (hp : 0 ≤ p ∧ p ≤ n) (H : HoC m (tk f n p)) (ha : 1 ≤ a ∧ a ≠ 2 ∧ a ≠ 3 ∧ shp a = 0 ∧ alen a = L ∧ ∀ i, 0 ≤ i → i < L → slot a i = some none) (hL : L ≤ 8)
    (b1 : ¬ ((tk f n p).k = 2 ∧ (tk f n p).sz ≤ L) → FC t m K 1 (tk f n p).pl) (kk : (tk f n p).k = 2 → (tk f n p).sz ≤ L → ∀ m', (∀ x k, x ≠ a → m' x k = m x k) → (∀ i, 0 ≤ i → i < (tk f n p).sz → m' a i = f ((tk f n p).pl + i)) → K 1 m') : TrI 44 [(1, 3), (1, a)] m K := by
  have w := (tk_w (f := f) hp.2).1
  have te := tk_e (f := f) hp.2
  obtain ⟨q1, q2, q3, q4⟩ := H
  generalize tk f n p = T at *
  refine e44 _ ?_
  rw [q1, q3, ha.2.2.2.2.1]
  refine ⟨fun h => ⟨ha.1, ⟨ha.1, by rw [ha.2.2.2.1]; decide⟩, fun h2 => c42 (t := t) q2 (b1 fun q => by omega).w, fun h2 => ?_⟩, fun h => c42 (t := t) q2 (b1 fun q => h q.1).w⟩
  have b := w h
  have bs := S.2.2.2.1
  have loop : ∀ (d i : Nat) (m1 : Mm), i + d = T.sz.toNat → (∀ x k, x ≠ a → m1 x k = m x k) → (∀ j, 0 ≤ j → j < (i : Int) → m1 a j = f (T.pl + j)) → X 44 25 [(1, 3), (1, a), (0, (i : Int))] [] m1 (qI K) := by
    intro d
    induction d with
    | zero =>
      intro i m1 hi f1 I1
      refine w44_25 _ _ ⟨fun z => absurd (show (i : Int) < T.sz by rw [← q3, ← f1 3 8 (by omega)]; exact z) (by omega), fun _ => ?_⟩
      exact kk h (by omega) m1 f1 fun j j0 j1 => I1 j j0 (by omega)
    | succ d ih =>
      intro i m1 hi f1 I1
      have y7 : m1 3 7 = T.pl := by rw [f1 _ _ (by omega)]; exact q2
      have y8 : m1 3 8 = T.sz := by rw [f1 _ _ (by omega)]; exact q3
      have y3 : m1 3 3 = 2 := by rw [f1 _ _ (by omega)]; exact S.1
      have yf : m1 2 (T.pl + i) = f (T.pl + i) := by rw [f1 _ _ (by omega)]; exact (S.2.2.2.2 _ (by omega) (by omega)).1
      refine w44_25 _ _ ⟨fun _ => ?_, fun z => absurd (show (i : Int) < m1 3 8 by omega) z⟩
      rw [y3, y7, wrI (x := T.pl + (i : Int)) (by omega) (by omega), yf, wrI (x := (i : Int) + 1) (by omega) (by omega)]
      refine ⟨ha.1, t_slot (by omega), ⟨ha.2.2.2.1, ha.2.2.2.2.2 _ (by omega) (by omega)⟩, fun m2 e2 => ih (i + 1) m2 (by omega) (fun x k hx => by rw [e2, um_x hx]; exact f1 x k hx) fun j j0 j1 => ?_⟩
      by_cases hj : j = i
      · rw [hj, e2, um_s]
      · rw [e2, um_k hj]
        exact I1 j j0 (by omega)
  exact loop T.sz.toNat 0 m (by omega) (fun _ _ _ => rfl) fun j j0 j1 => by omega
theorem c47 {x c0 c1 : Int} {K : Mm → Prop} (hx : shp x = 27) (kk : ∀ m', (∀ y k, ¬ (y = x ∧ 3 ≤ k ∧ k ≤ 6) → m' y k = m y k) → m' x 3 = c0 → m' x 4 = c1 → m' x 5 = msk c0 → m' x 6 = msk c1 → K m') : TrV 47 [(1, x), (0, c0), (0, c1)] m K := by
  refine e47 _ _ _ hx fun m1 e1 m2 e2 => c48 fun m3 e3 => c48 fun m4 e4 => ?_
  refine kk m4 (fun y k h => by rw [e4, um_n (by omega), e3, um_n (by omega), e2, um_n (by omega), e1, um_n (by omega)]) ?_ ?_ ?_ ?_
  · rw [e4, um_k (by decide), e3, um_k (by decide), e2, um_k (by decide), e1, um_s]
  · rw [e4, um_k (by decide), e3, um_k (by decide), e2, um_s]
  · rw [e4, um_k (by decide), e3, um_s]
  · rw [e4, um_s]
end ROW
