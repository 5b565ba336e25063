/-! takeLeast(80), fill(79) -/
def wLs (E : Mm) (w : Int) : List Int := if ocw E w < 1000000 then wL E w (E 604 w).toNat (-1) else []
def oww (E : Mm) (w : Int) : Int := ow E w (E 604 w).toNat (-1)
/-- a word's least opening as the class keeps it -/
def WoC (E m : Mm) (c w : Int) : Prop := m (c + 2) w = ocw E w ∧ m (c + 1) w = oww E w ∧ m (c + 3) w = (wLs E w).length ∧ LA m (c + 5 + w) 97 (wLs E w)
theorem c80 {E m : Mm} {K : Mm → Prop} {t p c w : Int} (T : InvT E) (Pg : InvP E) (W : InvW E) (Tt : CT E m t) (Pp : CP E m p) (O : CO E m t) (hc : c = 411 ∨ c = 461) (hw : 0 ≤ w ∧ w < E 597 23)
    (kk : ∀ m', f80 m m' c w → WoC E m' c w → K m') : TrV 80 [(1, c), (1, p), (1, 370), (0, w)] m K := by
  have P2 := (Pg.2 w hw.1 hw.2).1
  have P1 := Pg.1
  have w10 : 0 ≤ w ∧ w < 10 := by omega
  have sc := c_shp hc
  refine e80 _ _ _ sc Pp.shp (c81 T Pg W Tt Pp O hw fun m1 f1 R1 => ?_)
  have c0 := R1 (E 604 w).toNat (by omega) (-1) (by decide) (by decide)
  have c8 : m1 376 0 = ocw E w := by
    have := c0.1
    rw [show 376 + (E 604 w - ((E 604 w).toNat : Int)) = 376 by omega] at this
    exact this
  have c9 : m1 388 0 = oww E w := by
    have := c0.2
    rw [show 388 + (E 604 w - ((E 604 w).toNat : Int)) = 388 by omega] at this
    exact this
  have tail : ∀ m3, f85 m1 m3 → S8 m3 (wLs E w) (if ocw E w < 1000000 then wR E w (E 604 w).toNat (-1) else []) → (0 ≤ w ∧ w < 10) ∧ ∀ m7, m7 = umem m3 (c + 2) w (m3 376 0) → ∀ m9, m9 = umem m7 (c + 1) w (m7 388 0) → ∀ m11, m11 = umem m9 (c + 3) w (m9 370 3) → X 80 45 [(1, c), (1, p), (1, 370), (0, w), (0, 0)] [] m11 (qV K) := by
    intro m3 f3 S
    refine ⟨w10, fun m7 e7 m9 e9 m11 e11 => ?_⟩
    have hL60 : (wLs E w).length ≤ 60 := by
      unfold wLs
      split
      · have := (wL_len T (w := w) (E 604 w).toNat (-1) ‹_›).1
        omega
      · decide
    have g7 : m7 388 0 = oww E w := by rw [e7, um_x (by omega), f3 _ _ (by decide) (by decide)]; exact c9
    have g9 : m9 370 3 = (wLs E w).length := by rw [e9, um_x (by omega), e7, um_x (by omega)]; exact S.1
    rw [g7] at e9
    rw [g9] at e11
    rw [f3 _ _ (by decide) (by decide), c8] at e7
    have f11 : f80 m m11 c w := fun x k q1 q2 q3 => by
      rw [e11, um_n (fun hh => q3 (by unfold wC; omega)), e9, um_n (fun hh => q3 (by unfold wC; omega)), e7, um_n (fun hh => q3 (by unfold wC; omega)), f3 x k (by omega) q2]
      exact f1 x k (by omega)
    have o11 : ∀ x k, ¬ (x = c + 1 ∨ x = c + 2 ∨ x = c + 3) → m11 x k = m3 x k := fun x k q => by
      rw [e11, um_x (by omega), e9, um_x (by omega), e7, um_x (by omega)]
    have loop : ∀ (n i : Nat) (m5 : Mm), i + n = (wLs E w).length → (∀ x k, x ≠ c + 5 + w → m5 x k = m11 x k) → LA m5 (c + 5 + w) 97 ((wLs E w).take i) → X 80 45 [(1, c), (1, p), (1, 370), (0, w), (0, i)] [] m5 (qV K) := by
      intro n
      induction n with
      | zero =>
        intro i m5 hi f5 L5
        have h3 : m5 370 3 = (wLs E w).length := by rw [f5 _ _ (by omega), o11 _ _ (by omega)]; exact S.1
        refine w80_45 _ _ _ _ sc ⟨fun h => absurd h (by rw [h3]; omega), fun _ => kk m5 (fun x k q1 q2 q3 => ?_) ⟨?_, ?_, ?_, ?_⟩⟩
        · rw [f5 x k (fun hh => q3 (by unfold wC; omega))]
          exact f11 x k q1 q2 q3
        · rw [f5 _ _ (by omega), e11, um_x (by omega), e9, um_x (by omega), e7, um_s]
        · rw [f5 _ _ (by omega), e11, um_x (by omega), e9, um_s]
        · rw [f5 _ _ (by omega), e11, um_s]
        · rw [show i = (wLs E w).length by omega, List.take_length] at L5
          exact L5
      | succ n ih =>
        intro i m5 hi f5 L5
        have il : i < (wLs E w).length := by omega
        have h3 : m5 370 3 = (wLs E w).length := by rw [f5 _ _ (by omega), o11 _ _ (by omega)]; exact S.1
        have h4 : m5 372 i = 97 + (wLs E w)[i] := by rw [f5 _ _ (by omega), o11 _ _ (by omega)]; exact S.2.1 i il
        have hlen : ((wLs E w).take i).length = i := by rw [List.length_take]; omega
        refine w80_45 _ _ _ _ sc ⟨fun _ => ⟨w10, by omega, fun m7 e7' => ?_⟩, fun h => absurd (show (i : Int) < m5 370 3 by rw [h3]; omega) h⟩
        rw [h4] at e7'
        rw [wrI (x := (i : Int) + 1) (by omega) (by omega)]
        refine ih (i + 1) m7 (by omega) (fun x k q => ?_) ?_
        · rw [e7', um_x q]
          exact f5 x k q
        · rw [take_one il]
          refine L5.snoc (fun k k0 k1 => ?_) ?_
          · rw [e7', um_k (by omega)]
          · rw [hlen, e7', um_s]
    exact loop (wLs E w).length 0 m11 (Nat.zero_add _) (fun _ _ _ => rfl) (by rw [List.take_zero]; exact LA.nil)
  refine c85 T Pg W (f1.T T Tt) (f1.P Pg Pp) (f1.O O) hw R1 (fun m3 f3 hx S => tail m3 f3 ?_) (fun m3 f3 hx S => tail m3 f3 ?_)
  · unfold wLs
    rw [if_neg (show ¬ ocw E w < 1000000 from hx), if_neg (show ¬ ocw E w < 1000000 from hx)]
    exact S
  · unfold wLs
    rw [if_pos (show ocw E w < 1000000 from hx), if_pos (show ocw E w < 1000000 from hx)]
    exact S
/-- all that stands of a word in the class's choices -/
def WdC (E m : Mm) (c w : Int) : Prop := WoC E m c w ∧ EnC E m c w (E 602 579).toNat ∧ m (c + 26) w = mkE E w (E 602 579).toNat ∧ ChC m c w (chs E w)
theorem WdC.fr {E m m' : Mm} {c w : Int} (h : WdC E m c w) (hf : ∀ x k, wC c w x k → m' x k = m x k) : WdC E m' c w := by
  obtain ⟨⟨h1, h2, h3, h4⟩, h5, h6, h7, h8⟩ := h
  refine ⟨⟨?_, ?_, ?_, h4.fr fun k _ _ => hf _ _ (by unfold wC; omega)⟩, fun e e0 e1 => ?_, ?_, ?_, fun i hi => ?_⟩
  · rw [hf _ _ (by unfold wC; omega)]; exact h1
  · rw [hf _ _ (by unfold wC; omega)]; exact h2
  · rw [hf _ _ (by unfold wC; omega)]; exact h3
  · rw [hf _ _ (by unfold wC; omega)]; exact h5 e e0 e1
  · rw [hf _ _ (by unfold wC; omega)]; exact h6
  · rw [hf _ _ (by unfold wC; omega)]; exact h7
  · rw [hf _ _ (by unfold wC; omega), hf _ _ (by unfold wC; omega)]; exact h8 i hi
/-- the frame of a whole fill -/
def f79 (m m' : Mm) (c : Int) : Prop := ∀ x k, ¬ (x = 371 ∨ x = 372 ∨ (376 ≤ x ∧ x < 411)) → ¬ (x = 370 ∧ (k = 2 ∨ k = 3)) → ¬ (c ≤ x ∧ x < c + 50) → m' x k = m x k
theorem f79.T {E m m' : Mm} {t c : Int} (T : InvT E) (hc : 411 ≤ c) (h : f79 m m' c) (q : CT E m t) : CT E m' t := q.fr T fun x k h1 h2 => h x k (by omega) (by omega) (by omega)
theorem f79.P {E m m' : Mm} {p c : Int} (T : InvP E) (hc : 411 ≤ c) (h : f79 m m' c) (q : CP E m p) : CP E m' p := q.fr T fun x k h1 h2 => h x k (by omega) (by omega) (by omega)
theorem f79.O {E m m' : Mm} {t c : Int} (hc : 411 ≤ c) (h : f79 m m' c) (q : CO E m t) : CO E m' t := by
  obtain ⟨h1, h2, h3⟩ := q
  refine ⟨by rw [h _ _ (by omega) (by omega) (by omega)]; exact h1, by rw [h _ _ (by omega) (by omega) (by omega)]; exact h2, fun r r0 r1 => ?_⟩
  rw [h _ _ (by omega) (by omega) (by omega), h _ _ (by omega) (by omega) (by omega)]
  exact h3 r r0 r1
theorem c79 {E m : Mm} {K : Mm → Prop} {t p c a : Int} (T : InvT E) (Pg : InvP E) (W : InvW E) (Tt : CT E m t) (Pp : CP E m p) (O : CO E m t) (hc : c = 411 ∨ c = 461) (ha : a = 595)
    (hm : ∀ w, 0 ≤ w → w < E 597 23 → ∀ e, 0 ≤ e → e < E 602 579 → ¬ iand (ishr (m a w) e) 1 = 1 → ¬ xw E w e < 1000000)
    (kk : ∀ m', f79 m m' c → m' c 9 = E 597 23 → (∀ w, 0 ≤ w → w < E 597 23 → WdC E m' c w) → K m') : TrV 79 [(1, c), (1, t), (1, p), (1, 370), (1, a)] m K := by
  have P1 := Pg.1
  have T3 := T.2.2.1
  have T4 := T.2.2.2.1
  have c4 : 411 ≤ c ∧ c ≤ 461 := by omega
  have sc := c_shp hc
  obtain ⟨N, hN⟩ : ∃ N : Nat, (N : Int) = E 597 23 := ⟨(E 597 23).toNat, by omega⟩
  refine e79 _ _ _ _ sc Tt.shp Pp.shp fun m1 e1 => ?_
  have f1 : f79 m m1 c := fun x k q1 q2 q3 => by rw [e1, um_x (by omega)]
  have z1 : m1 c 9 = E 597 23 := by rw [e1, um_s]; exact Pp.2.1
  have loop : ∀ (n w : Nat) (m2 : Mm), w + n = N → f79 m m2 c → m2 c 9 = E 597 23 → (∀ v : Int, 0 ≤ v → v < w → WdC E m2 c v) → X 79 11 [(1, c), (1, t), (1, p), (1, 370), (1, a), (0, w)] [] m2 (qV K) := by
    intro n
    induction n with
    | zero =>
      intro w m2 hw f z D
      exact w79_11 _ _ _ _ _ sc Tt.shp Pp.shp ⟨fun h => absurd h (by rw [z]; omega), fun _ => kk m2 f z fun v v0 v1 => D v v0 (by omega)⟩
    | succ n ih =>
      intro w m2 hw f z D
      have hwE : 0 ≤ (w : Int) ∧ (w : Int) < E 597 23 := by omega
      have w10 : 0 ≤ (w : Int) ∧ (w : Int) < 10 := by omega
      have hww : Unit → wr ((w : Int) + 1) = ((w + 1 : Nat) : Int) := fun _ => wrI (by omega) (by omega)
      have next : ∀ m5, f80 m2 m5 c w → WdC E m5 c w → X 79 11 [(1, c), (1, t), (1, p), (1, 370), (1, a), (0, ((w + 1 : Nat) : Int))] [] m5 (qV K) := by
        intro m5 f5 D5
        refine ih (w + 1) m5 (by omega) (fun x k q1 q2 q3 => ?_) ?_ fun v v0 v1 => ?_
        · rw [f5 x k q1 q2 (fun g => q3 (by have := wC_ge w10 g; omega))]
          exact f x k q1 q2 q3
        · rw [f5 _ _ (by omega) (by omega) (fun g => by have := wC_ge w10 g; omega)]
          exact z
        · by_cases hv : v = w
          · rw [hv]
            exact D5
          · refine (D v v0 (by omega)).fr fun x k g => ?_
            have := wC_ge (w := v) (by omega) g
            refine f5 x k (by omega) (by omega) fun g2 => ?_
            unfold wC at g g2
            omega
      refine w79_11 _ _ _ _ _ sc Tt.shp Pp.shp ⟨fun _ => ?_, fun h => absurd (show (w : Int) < m2 c 9 by rw [z]; exact hwE.2) h⟩
      refine c80 T Pg W (f.T T c4.1 Tt) (f.P Pg c4.1 Pp) (f.O c4.1 O) hc hwE fun m3 f3 D3 => ?_
      have am : m3 a w = m a w := by
        rw [f3 _ _ (by omega) (by omega) (fun g => by have := wC_ge w10 g; omega)]
        exact f _ _ (by omega) (by omega) (by omega)
      have f23 : f79 m m3 c := fun x k q1 q2 q3 => by
        rw [f3 x k q1 q2 (fun g => q3 (by have := wC_ge w10 g; omega))]
        exact f x k q1 q2 q3
      have sa : shp a = 0 ∧ slot a w = some none := by
        rw [ha]
        refine ⟨by decide +kernel, ?_⟩
        have : ∀ w : Nat, w < 10 → slot 595 (w : Int) = some none := by decide +kernel
        exact this w (by omega)
      refine ⟨by omega, sa, ?_⟩
      rw [am]
      refine c90 T Pg W (f23.T T c4.1 Tt) (f23.P Pg c4.1 Pp) (f23.O c4.1 O) hc hwE (hm w hwE.1 hwE.2) fun m9 f9 y1 y2 y3 y5 En Mk C9 => ?_
      have D9 : WoC E m9 c w := ⟨(y2 _).trans D3.1, (y1 _).trans D3.2.1, (y3 _).trans D3.2.2.1, D3.2.2.2.fr fun k _ _ => y5 k⟩
      have f29 : f80 m2 m9 c w := f3.tr f9
      have T9 : CT E m9 t := f9.T T w10 c4.1 (f23.T T c4.1 Tt)
      have s7 : m9 t 7 = E 602 580 := T9.2.2.2.1
      have last : ∀ m5 (v x : Int), f80 m2 m5 c w → WoC E m5 c w → EnC E m5 c w (E 602 579).toNat → m5 (c + 26) w = mkE E w (E 602 579).toNat → ChC m5 c w [] → chs E w = [(v, x)] → ∀ K', (∀ m6, f80 m2 m6 c w → WdC E m6 c w → K' m6) → TrV 95 [(1, c), (0, w), (0, v), (0, x)] m5 K' := by
        intro m5 v x f5 o5 n5 k5 C5 hch K' kx
        refine c95 hc w10 C5 (by decide) fun m6 f6 C6 => kx m6 (fun y k q1 q2 q3 => ?_) ⟨⟨?_, ?_, ?_, o5.2.2.2.fr fun k _ _ => f6 _ _ (by omega) (by omega)⟩, fun e e0 e1 => ?_, ?_, ?_⟩
        · rw [f6 _ _ (fun hh => q3 (by unfold wC; omega)) (fun hh => q3 (by unfold wC; omega))]
          exact f5 y k q1 q2 q3
        · rw [f6 _ _ (by omega) (by omega)]; exact o5.1
        · rw [f6 _ _ (by omega) (by omega)]; exact o5.2.1
        · rw [f6 _ _ (by omega) (by omega)]; exact o5.2.2.1
        · rw [f6 _ _ (by omega) (by omega)]; exact n5 e e0 e1
        · rw [f6 _ _ (by omega) (by omega)]; exact k5
        · rw [hch]; exact C6
      have pO := ocw_rng T W (w := w)
      rw [C9.1, D9.1, s7]
      refine ⟨by omega, fun h0 => ?_, fun h0 => ?_⟩
      · have hnil : chE E w (E 602 579).toNat = [] := List.length_eq_zero_iff.mp (by omega)
        have C9' : ChC m9 c w [] := by rw [← hnil]; exact C9
        refine ⟨fun hx => ?_, fun hx => ?_⟩
        · have hf := oc_fin T W (w := w) _ _ hx
          have hch : chs E w = [(-2, wr (ocw E w + E 602 580))] := by
            unfold chs
            rw [if_pos hnil, if_pos hx, wrI (by omega) (by omega)]
          refine last m9 _ _ f29 D9 En Mk C9' hch _ fun m6 f6 D6 => ?_
          refine w79_84 _ _ _ _ _ sc Tt.shp Pp.shp ⟨w10, fun h => ?_, fun _ => ?_⟩
          · rw [D6.2.2.2.1, hch] at h
            exact absurd h (by simp)
          · rw [hww ()]
            exact next m6 f6 D6
        · have hch : chs E w = [(-3, wr (2 * E 602 580))] := by
            unfold chs
            rw [if_pos hnil, if_neg hx, wrI (by omega) (by omega)]
          refine w79_84 _ _ _ _ _ sc Tt.shp Pp.shp ⟨w10, fun _ => ?_, fun h => absurd (by rw [C9'.1]; rfl) h⟩
          rw [s7]
          refine last m9 _ _ f29 D9 En Mk C9' hch _ fun m6 f6 D6 => ?_
          rw [hww ()]
          exact next m6 f6 D6
      · have hne : chE E w (E 602 579).toNat ≠ [] := fun hn => h0 (by rw [hn]; rfl)
        have hch : chs E w = chE E w (E 602 579).toNat := by unfold chs; rw [if_neg hne]
        refine w79_84 _ _ _ _ _ sc Tt.shp Pp.shp ⟨w10, fun h => absurd (C9.1.symm.trans h) h0, fun _ => ?_⟩
        rw [hww ()]
        exact next m9 f29 ⟨D9, En, Mk, by rw [hch]; exact C9⟩
  exact loop N 0 m1 (Nat.zero_add _) f1 z1 fun v v0 v1 => absurd v1 (by omega)
