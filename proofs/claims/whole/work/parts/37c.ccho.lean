/-! the class's choices: add(95), takeEntries(90), takeLeast(80), fill(79) -/
def wC (c w x k : Int) : Prop := ((x = c + 1 ∨ x = c + 2 ∨ x = c + 3 ∨ x = c + 26 ∨ x = c + 27) ∧ k = w) ∨ x = c + 5 + w ∨ x = c + 16 + w ∨ x = c + 29 + w ∨ x = c + 40 + w
def f80 (m m' : Mm) (c w : Int) : Prop := ∀ x k, ¬ (x = 371 ∨ x = 372 ∨ (376 ≤ x ∧ x < 411)) → ¬ (x = 370 ∧ (k = 2 ∨ k = 3)) → ¬ wC c w x k → m' x k = m x k
theorem f80.tr {m m1 m2 : Mm} {c w : Int} (h : f80 m m1 c w) (h2 : f80 m1 m2 c w) : f80 m m2 c w := fun x k q1 q2 q3 => (h2 x k q1 q2 q3).trans (h x k q1 q2 q3)
theorem wC_ge {c w x k : Int} (hw : 0 ≤ w ∧ w < 10) (h : wC c w x k) : c + 1 ≤ x ∧ x < c + 50 := by
  unfold wC at h
  omega
theorem f80.T {E m m' : Mm} {t c w : Int} (T : InvT E) (hw : 0 ≤ w ∧ w < 10) (hc : 411 ≤ c) (h : f80 m m' c w) (q : CT E m t) : CT E m' t := q.fr T fun x k h1 h2 => h x k (by omega) (by omega) (fun g => by have := wC_ge hw g; omega)
theorem f80.P {E m m' : Mm} {p c w : Int} (T : InvP E) (hw : 0 ≤ w ∧ w < 10) (hc : 411 ≤ c) (h : f80 m m' c w) (q : CP E m p) : CP E m' p := q.fr T fun x k h1 h2 => h x k (by omega) (by omega) (fun g => by have := wC_ge hw g; omega)
theorem f80.O {E m m' : Mm} {t c w : Int} (hw : 0 ≤ w ∧ w < 10) (hc : 411 ≤ c) (h : f80 m m' c w) (q : CO E m t) : CO E m' t := by
  have g : ∀ x k, (x = 370 ∨ x = 373 ∨ x = 374) → ¬ (x = 370 ∧ (k = 2 ∨ k = 3)) → m' x k = m x k := fun x k h1 h2 => h x k (by omega) h2 (fun g => by have := wC_ge hw g; omega)
  obtain ⟨h1, h2, h3⟩ := q
  refine ⟨by rw [g _ _ (by omega) (by omega)]; exact h1, by rw [g _ _ (by omega) (by omega)]; exact h2, fun r r0 r1 => ?_⟩
  rw [g _ _ (by omega) (by omega), g _ _ (by omega) (by omega)]
  exact h3 r r0 r1
def ChC (m : Mm) (c w : Int) (l : List (Int × Int)) : Prop := m (c + 27) w = l.length ∧ ∀ (i : Nat) (h : i < l.length), m (c + 29 + w) i = (l[i]).1 ∧ m (c + 40 + w) i = (l[i]).2
theorem c_shp {c : Int} (h : c = 411 ∨ c = 461) : shp c = 20 := by
  obtain h | h := h <;> rw [h] <;> decide +kernel
theorem c95 {m : Mm} {K : Mm → Prop} {c w v x : Int} {l : List (Int × Int)} (hc : c = 411 ∨ c = 461) (hw : 0 ≤ w ∧ w < 10) (C : ChC m c w l) (hl : l.length < 24)
    (kk : ∀ m', (∀ y k, ¬ (y = c + 29 + w ∨ y = c + 40 + w) → ¬ (y = c + 27 ∧ k = w) → m' y k = m y k) → ChC m' c w (l ++ [(v, x)]) → K m') : TrV 95 [(1, c), (0, w), (0, v), (0, x)] m K := by
  obtain ⟨c1, c2⟩ := C
  refine e95 _ _ _ _ (c_shp hc) ⟨hw, ?_⟩
  rw [c1]
  refine ⟨fun _ => ⟨by omega, fun m7 e7 m9 e9 m11 e11 => ?_⟩, fun h => absurd (show (l.length : Int) < 24 by omega) h⟩
  rw [wrI (by omega) (by omega)] at e11
  refine kk m11 (fun y k n1 n2 => ?_) ⟨?_, fun i hi => ?_⟩
  · rw [e11, um_n (by omega), e9, um_n (by omega), e7, um_n (by omega)]
  · rw [e11, um_s, List.length_append]
    rfl
  · rw [List.length_append, List.length_singleton] at hi
    by_cases hh : i < l.length
    · rw [List.getElem_append_left hh, e11, um_x (by omega), um_x (by omega), e9, um_x (by omega), um_k (by omega), e7, um_k (by omega), um_x (by omega)]
      exact c2 i hh
    · have : i = l.length := by omega
      subst this
      rw [e11, um_x (by omega), um_x (by omega), e9, um_x (by omega), um_s, e7, um_s]
      simp
/-- what stands of a word's entries -/
def EnC (E m : Mm) (c w : Int) (n : Nat) : Prop := ∀ e : Int, 0 ≤ e → e < n → m (c + 16 + w) e = xw E w e
theorem c90 {E m : Mm} {K : Mm → Prop} {t p c w a : Int} (T : InvT E) (Pg : InvP E) (W : InvW E) (Tt : CT E m t) (Pp : CP E m p) (O : CO E m t) (hc : c = 411 ∨ c = 461) (hw : 0 ≤ w ∧ w < E 597 23)
    (ha : ∀ e, 0 ≤ e → e < E 602 579 → ¬ iand (ishr a e) 1 = 1 → ¬ xw E w e < 1000000)
    (kk : ∀ m', f80 m m' c w → (∀ k, m' (c + 1) k = m (c + 1) k) → (∀ k, m' (c + 2) k = m (c + 2) k) → (∀ k, m' (c + 3) k = m (c + 3) k) → (∀ k, m' (c + 5 + w) k = m (c + 5 + w) k) → EnC E m' c w (E 602 579).toNat → m' (c + 26) w = mkE E w (E 602 579).toNat → ChC m' c w (chE E w (E 602 579).toNat) → K m') : TrV 90 [(1, c), (1, t), (1, p), (1, 370), (0, w), (0, a)] m K := by
  have P1 := Pg.1
  have T3 := T.2.2.1
  have w10 : 0 ≤ w ∧ w < 10 := by omega
  have c4 : 411 ≤ c := by omega
  have sc := c_shp hc
  refine e90 _ _ _ _ _ sc Tt.shp Pp.shp ⟨w10, fun m3 e3 m5 e5 => ?_⟩
  have loop : ∀ (n e : Nat) (m1 : Mm) (v7 v8 : aV), e + n = (E 602 579).toNat → f80 m m1 c w → (∀ k, m1 (c + 1) k = m (c + 1) k) → (∀ k, m1 (c + 2) k = m (c + 2) k) → (∀ k, m1 (c + 3) k = m (c + 3) k) → (∀ k, m1 (c + 5 + w) k = m (c + 5 + w) k) → EnC E m1 c w e → m1 (c + 26) w = mkE E w e → ChC m1 c w (chE E w e) → X 90 19 [(1, c), (1, t), (1, p), (1, 370), (0, w), (0, a), (0, e), v7, v8] [] m1 (qV K) := by
    intro n
    induction n with
    | zero =>
      intro e m1 v7 v8 he f y1 y2 y3 y5 z1 z2 z3
      have hen : e = (E 602 579).toNat := by omega
      subst hen
      have T1 := f.T T w10 c4 Tt
      exact w90_19 _ _ _ _ _ _ v7 v8 sc Tt.shp Pp.shp ⟨fun h => absurd h (by rw [T1.2.2.1]; omega), fun _ => kk m1 f y1 y2 y3 y5 z1 z2 z3⟩
    | succ n ih =>
      intro e m1 v7 v8 he f y1 y2 y3 y5 z1 z2 z3
      have T1 := f.T T w10 c4 Tt
      have P1m := f.P Pg w10 c4 Pp
      have O1 := f.O w10 c4 O
      have heE : (e : Int) < E 602 579 := by omega
      have e24 : (0 : Int) ≤ e ∧ (e : Int) < 24 := ⟨Int.natCast_nonneg e, Int.lt_of_lt_of_le heE T3.2⟩
      have hl := chE_len (E := E) (w := w) e
      have hl24 : (chE E w e).length < 24 := by omega
      have hee : wr ((e : Int) + 1) = ((e + 1 : Nat) : Int) := wrI (by omega) (by omega)
      -- behind the cost
      have put : ∀ (m2 : Mm) (v7 v8 : aV), v7.1 ≠ 2 → f91 m1 m2 → X 90 70 [(1, c), (1, t), (1, p), (1, 370), (0, w), (0, a), (0, e), v7, v8] [(0, xw E w e)] m2 (qV K) := by
        intro m2 v7 v8 hv f2
        have g2 : f80 m m2 c w := fun x k q1 q2 q3 => (f2 x k (by omega)).trans (f x k q1 q2 q3)
        refine w90_70 _ _ _ _ _ _ v7 v8 _ sc Tt.shp Pp.shp hv ⟨w10, e24, fun m5 e5 => ?_⟩
        have g5 : f80 m m5 c w := fun x k q1 q2 q3 => by
          rw [e5, um_x (fun hh => q3 (by unfold wC; omega))]
          exact g2 x k q1 q2 q3
        have s5 : ∀ x k, x ≠ c + 16 + w → ¬ (400 ≤ x ∧ x < 411) → m5 x k = m1 x k := fun x k q1 q2 => by
          rw [e5, um_x q1]
          exact f2 x k q2
        have En5 : EnC E m5 c w (e + 1) := fun i i0 i1 => by
          by_cases hi : i = e
          · rw [hi, e5, um_s]
          · rw [e5, um_k hi, f2 _ _ (by omega)]
            exact z1 i i0 (Int.lt_iff_le_and_ne.mpr ⟨Int.le_of_lt_add_one (show i < (e : Int) + 1 from i1), hi⟩)
        have y1' : ∀ k, m5 (c + 1) k = m (c + 1) k := fun k => (s5 _ _ (by omega) (by omega)).trans (y1 k)
        have y2' : ∀ k, m5 (c + 2) k = m (c + 2) k := fun k => (s5 _ _ (by omega) (by omega)).trans (y2 k)
        have y3' : ∀ k, m5 (c + 3) k = m (c + 3) k := fun k => (s5 _ _ (by omega) (by omega)).trans (y3 k)
        have y5' : ∀ k, m5 (c + 5 + w) k = m (c + 5 + w) k := fun k => (s5 _ _ (by omega) (by omega)).trans (y5 k)
        have z3' : ChC m5 c w (chE E w e) := ⟨(s5 _ _ (by omega) (by omega)).trans z3.1, fun i h => by rw [s5 _ _ (by omega) (by omega), s5 _ _ (by omega) (by omega)]; exact z3.2 i h⟩
        have z2' : m5 (c + 26) w = mkE E w e := (s5 _ _ (by omega) (by omega)).trans z2
        refine ⟨fun hx => fun m9 e9 => ?_, fun hx => ?_⟩
        · rw [z2'] at e9
          have s9 : ∀ x k, x ≠ c + 26 → m9 x k = m5 x k := fun x k q1 => by rw [e9, um_x q1]
          have z39 : ChC m9 c w (chE E w e) := ⟨(s9 _ _ (by omega)).trans z3'.1, fun i h => by rw [s9 _ _ (by omega), s9 _ _ (by omega)]; exact z3'.2 i h⟩
          refine c95 hc w10 z39 hl24 fun m' f' C' => ?_
          rw [hee]
          refine ih (e + 1) m' _ _ (by omega) (fun x k q1 q2 q3 => ?_) (fun k => ?_) (fun k => ?_) (fun k => ?_) (fun k => ?_) (fun i i0 i1 => ?_) ?_ ?_
          · rw [f' _ _ (fun hh => q3 (by unfold wC; omega)) (fun hh => q3 (by unfold wC; omega)), e9, um_n (fun hh => q3 (by unfold wC; omega))]
            exact g5 x k q1 q2 q3
          · rw [f' _ _ (by omega) (by omega), s9 _ _ (by omega)]
            exact y1' k
          · rw [f' _ _ (by omega) (by omega), s9 _ _ (by omega)]
            exact y2' k
          · rw [f' _ _ (by omega) (by omega), s9 _ _ (by omega)]
            exact y3' k
          · rw [f' _ _ (by omega) (by omega), s9 _ _ (by omega)]
            exact y5' k
          · rw [f' _ _ (by omega) (by omega), s9 _ _ (by omega)]
            exact En5 i i0 i1
          · rw [f' _ _ (by omega) (by omega), e9, um_s]
            conv => rhs; unfold mkE
            rw [if_pos hx]
          · conv => arg 4; unfold chE
            rw [if_pos hx]
            exact C'
        · rw [hee]
          refine ih (e + 1) m5 _ _ (by omega) g5 y1' y2' y3' y5' En5 ?_ ?_
          · rw [z2']
            conv => rhs; unfold mkE
            rw [if_neg hx]
          · conv => arg 4; unfold chE
            rw [if_neg hx, List.append_nil]
            exact z3'
      refine w90_19 _ _ _ _ _ _ v7 v8 sc Tt.shp Pp.shp ⟨fun _ => ⟨fun hb => ?_, fun hb => ?_⟩, fun h => absurd (show (e : Int) < m1 t 6 by rw [T1.2.2.1]; exact heE) h⟩
      · refine w90_44 _ _ _ _ _ _ v7 v8 _ sc Tt.shp Pp.shp ⟨fun h => absurd h (by decide), fun _ => ⟨e24, ?_⟩⟩
        exact c91 T Pg W T1 P1m O1 hw ⟨e24.1, heE⟩ fun m2 f2 _ => put m2 _ v8 (by decide) f2
      · have hx := ha e e24.1 heE hb
        have hx2 := xw_rng T W (w := w) (e := e)
        refine w90_44 _ _ _ _ _ _ v7 v8 _ sc Tt.shp Pp.shp ⟨fun _ => ?_, fun h => absurd rfl h⟩
        rw [show (1000000 : Int) = xw E w e by omega]
        exact put m1 _ v8 (by decide) (fun _ _ _ => rfl)
  have s5 : ∀ x k, ¬ ((x = c + 26 ∨ x = c + 27) ∧ k = w) → m5 x k = m x k := fun x k q => by rw [e5, e3, um_n (by omega), um_n (by omega)]
  exact loop (E 602 579).toNat 0 m5 (9, 0) (9, 0) (by omega) (fun x k q1 q2 q3 => s5 x k (fun hh => q3 (by unfold wC; omega))) (fun k => s5 _ _ (by omega)) (fun k => s5 _ _ (by omega)) (fun k => s5 _ _ (by omega)) (fun k => s5 _ _ (by omega)) (fun i i0 i1 => absurd i1 (by omega)) (by rw [e5, um_s]; rfl) ⟨by rw [e5, um_x (by omega), e3, um_s]; rfl, fun i h => absurd h (Nat.not_lt_zero i)⟩
