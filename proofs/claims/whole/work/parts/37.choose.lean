/-! a word's choices: chooses(237), laysChoices(236) -/
def xw (E : Mm) (w e : Int) : Int := ex E w e (E 604 w).toNat 0
def ocw (E : Mm) (w : Int) : Int := oc E w (E 604 w).toNat (-1)
def chE (E : Mm) (w : Int) : Nat → List (Int × Int)
  | 0 => []
  | n + 1 => chE E w n ++ (if xw E w n < 1000000 then [((n : Int), xw E w n)] else [])
def chs (E : Mm) (w : Int) : List (Int × Int) := if chE E w (E 602 579).toNat = [] then (if ocw E w < 1000000 then [(-2, ocw E w + E 602 580)] else [(-3, 2 * E 602 580)]) else chE E w (E 602 579).toNat
theorem chE_len {E : Mm} {w : Int} : ∀ n : Nat, (chE E w n).length ≤ n := by
  intro n
  induction n with
  | zero => exact Nat.le_refl _
  | succ n ih =>
    unfold chE
    rw [List.length_append]
    split <;> simp <;> omega
theorem chs_len {E : Mm} (T : InvT E) {w : Int} : 1 ≤ (chs E w).length ∧ (chs E w).length ≤ 24 := by
  have := chE_len (E := E) (w := w) (E 602 579).toNat
  have := T.2.2.1
  unfold chs
  split
  · split <;> simp
  · rename_i h
    have := List.length_pos_iff.mpr h
    omega
theorem xw_rng {E : Mm} (T : InvT E) (W : InvW E) {w e : Int} : 0 ≤ xw E w e ∧ xw E w e ≤ 1000000 := ex_rng T W _ _
theorem ocw_rng {E : Mm} (T : InvT E) (W : InvW E) {w : Int} : 0 ≤ ocw E w ∧ ocw E w ≤ 1000000 := oc_rng T W _ _
/-- a choice's entry and cost stand in their ranges -/
theorem chE_in {E : Mm} {w : Int} (T : InvT E) (W : InvW E) : ∀ n : Nat, ∀ q ∈ chE E w n, (0 ≤ q.1 ∧ q.1 < n) ∧ 0 ≤ q.2 ∧ q.2 < 1000000 := by
  intro n
  induction n with
  | zero => intro q hq; exact absurd hq (List.not_mem_nil)
  | succ n ih =>
    intro q hq
    unfold chE at hq
    rw [List.mem_append] at hq
    rcases hq with hq | hq
    · have := ih q hq
      omega
    · split at hq
      · rw [List.mem_singleton] at hq
        subst hq
        have := (xw_rng T W (w := w) (e := n)).1
        exact ⟨by simp; omega, this, ‹_›⟩
      · exact absurd hq (List.not_mem_nil)
def ChM (m : Mm) (w : Int) (l : List (Int × Int)) : Prop := m 615 w = l.length ∧ ∀ (i : Nat) (h : i < l.length), m 613 (24 * w + i) = (l[i]).1 ∧ m 614 (24 * w + i) = (l[i]).2
def f236 (m m' : Mm) (w : Int) : Prop := ∀ x k, ¬ (x = 608 ∨ x = 609 ∨ x = 612) → ¬ ((x = 613 ∨ x = 614) ∧ 24 * w ≤ k ∧ k < 24 * w + 24) → ¬ (x = 615 ∧ k = w) → m' x k = m x k
theorem f236.ag {E m m' : Mm} {w : Int} (h : f236 m m' w) (A : Ag E m) : Ag E m' := A.fr fun x k hp => by
  unfold per at hp
  exact h x k (by omega) (by omega) (by omega)
theorem f236.tr {m m1 m2 : Mm} {w : Int} (h : f236 m m1 w) (h2 : f236 m1 m2 w) : f236 m m2 w := fun x k q1 q2 q3 => (h2 x k q1 q2 q3).trans (h x k q1 q2 q3)
theorem c237 {m : Mm} {K : Mm → Prop} {w v c : Int} {l : List (Int × Int)} (hw : 0 ≤ w ∧ w < 10) (C : ChM m w l) (hl : l.length < 24) (kk : ∀ m', f236 m m' w → (∀ k, m' 608 k = m 608 k) → (∀ k, m' 609 k = m 609 k) → ChM m' w (l ++ [(v, c)]) → K m') : TrV 237 [(1, 597), (0, w), (0, v), (0, c)] m K := by
  obtain ⟨c1, c2⟩ := C
  have q1 : wr (wr (24 * w) + l.length) = 24 * w + l.length := by
    rw [wrI (x := 24 * w) (by omega) (by omega), wrI (by omega) (by omega)]
  have q2 : 0 ≤ 24 * w + (l.length : Int) ∧ 24 * w + (l.length : Int) < 240 := by omega
  refine e237 _ _ _ ⟨hw, ?_⟩
  rw [c1, q1]
  refine ⟨q2, fun m5 e5 => ?_⟩
  have c5 : m5 615 w = l.length := by rw [e5, um_x (by decide)]; exact c1
  rw [c5, q1]
  refine ⟨q2, fun m9 e9 m11 e11 => ?_⟩
  have c9 : m9 615 w = l.length := by rw [e9, um_x (by decide)]; exact c5
  rw [c9, wrI (by omega) (by omega)] at e11
  refine kk m11 (fun x k n1 n2 n3 => ?_) (fun k => ?_) (fun k => ?_) ⟨?_, fun i hi => ?_⟩
  · rw [e11, e9, e5, um_n (by omega), um_n (by omega), um_n (by omega)]
  · rw [e11, e9, e5, um_x (by decide), um_x (by decide), um_x (by decide)]
  · rw [e11, e9, e5, um_x (by decide), um_x (by decide), um_x (by decide)]
  · rw [e11, um_s, List.length_append]
    rfl
  · rw [List.length_append, List.length_singleton] at hi
    by_cases hc : i < l.length
    · rw [List.getElem_append_left hc, e11, um_x (by decide), um_x (by decide), e9, um_x (by decide), um_k (by omega), e5, um_k (by omega), um_x (by decide)]
      exact c2 i hc
    · have : i = l.length := by omega
      subst this
      rw [e11, um_x (by decide), um_x (by decide), e9, um_x (by decide), um_s, e5, um_s]
      simp
theorem c236 {E m : Mm} {K : Mm → Prop} (T : InvT E) (Pg : InvP E) (W : InvW E) (A : Ag E m) {w : Int} (hw : 0 ≤ w ∧ w < E 597 23)
    (kk : ∀ m', f236 m m' w → ChM m' w (chs E w) → K m') : TrV 236 [(1, 597), (0, w)] m K := by
  have P2 := (Pg.2 w hw.1 hw.2).1
  have P1 := Pg.1
  have T3 := T.2.2.1
  have T4 := T.2.2.2.1
  have w10 : 0 ≤ w ∧ w < 10 := by omega
  refine e236 _ ⟨w10, fun m3 e3 => ?_⟩
  have f3 : f236 m m3 w := fun x k n1 n2 n3 => by rw [e3, um_n (by omega)]
  have C3 : ChM m3 w [] := ⟨by rw [e3, um_s]; rfl, fun i h => absurd h (Nat.not_lt_zero i)⟩
  have loop : ∀ (n e : Nat) (m1 : Mm) (v3 : aV), e + n = (E 602 579).toNat → f236 m m1 w → ChM m1 w (chE E w e) → X 236 9 [(1, 597), (0, w), (0, e), v3] [] m1 (qV K) := by
    intro n
    induction n with
    | zero =>
      intro e m1 v3 he f C
      have A1 := f.ag A
      have hen : e = (E 602 579).toNat := by omega
      refine w236_9 _ _ v3 ⟨A1.b.trans T.1, fun h => absurd h (by rw [A1.e]; omega), fun _ => ⟨w10, fun hpos => ?_, fun hpos => ?_⟩⟩
      · refine kk m1 f ?_
        rw [C.1] at hpos
        unfold chs
        rw [if_neg (fun h0 => by rw [hen, h0] at hpos; exact absurd hpos (by decide)), ← hen]
        exact C
      · rw [C.1] at hpos
        have hnil : chE E w e = [] := List.length_eq_zero_iff.mp (by omega)
        rw [hnil] at C
        refine c213 T Pg W A1 hw fun m9 f9 R9 => ?_
        have f19 : f236 m1 m9 w := fun x k n1 n2 n3 => f9 x k (by omega) (by omega)
        have A9 := f19.ag A1
        have C9 : ChM m9 w [] := ⟨by rw [f9 _ _ (by decide) (by decide)]; exact C.1, fun i h => absurd h (Nat.not_lt_zero i)⟩
        have c9 : m9 609 0 = cvt (ocw E w) := by
          have := (R9 (E 604 w).toNat (by omega) (-1) (by decide) (by decide)).2
          rw [show 27 * (E 604 w - ((E 604 w).toNat : Int)) + -1 + 1 = 0 by omega] at this
          exact this
        have p3 := ocw_rng T W (w := w)
        rw [c9, A9.g]
        have hch : chs E w = if ocw E w < 1000000 then [(-2, ocw E w + E 602 580)] else [(-3, 2 * E 602 580)] := by
          unfold chs
          rw [← hen, hnil, if_pos rfl]
        refine ⟨A9.b.trans T.1, fun h => ?_, fun h => ?_⟩
        · have hc : ¬ ocw E w < 1000000 := fun hc => by
            unfold cvt at h
            rw [if_pos hc] at h
            omega
          refine c237 w10 C9 (by decide) fun m' f' _ _ C' => kk m' ((f.tr f19).tr f') ?_
          rw [hch, if_neg hc]
          rw [wrI (by omega) (by omega)] at C'
          exact C'
        · have hc : ocw E w < 1000000 := by
            unfold cvt at h
            split at h
            · assumption
            · exact absurd (by decide) h
          have hf := oc_fin T W (w := w) _ _ hc
          have hcv : cvt (ocw E w) = ocw E w := if_pos hc
          rw [hcv]
          refine c237 w10 C9 (by decide) fun m' f' _ _ C' => kk m' ((f.tr f19).tr f') ?_
          rw [hch, if_pos hc]
          rw [wrI (by omega) (by omega)] at C'
          exact C'
    | succ n ih =>
      intro e m1 v3 he f C
      have A1 := f.ag A
      have heE : (e : Int) < E 602 579 := by omega
      have e24 : (0 : Int) ≤ e ∧ (e : Int) < 24 := ⟨Int.natCast_nonneg e, Int.lt_of_lt_of_le heE T3.2⟩
      have hl := chE_len (E := E) (w := w) e
      have hl24 : (chE E w e).length < 24 := by omega
      have p3 := xw_rng T W (w := w) (e := e)
      refine w236_9 _ _ v3 ⟨A1.b.trans T.1, fun _ => ?_, fun h => absurd (show (e : Int) < m1 602 579 by rw [A1.e]; exact heE) h⟩
      refine c227 T Pg W A1 hw ⟨e24.1, heE⟩ fun m19 f19' _ => ?_
      have f19 : f236 m1 m19 w := fun x k n1 n2 n3 => f19' x k (by omega)
      have C19 : ChM m19 w (chE E w e) := ⟨by rw [f19' _ _ (by decide)]; exact C.1, fun i h => by rw [f19' _ _ (by decide), f19' _ _ (by decide)]; exact C.2 i h⟩
      rw [wrI (x := (e : Int) + 1) (by omega) (by omega)]
      show (cvt (xw E w e) < 0 → _) ∧ (¬ cvt (xw E w e) < 0 → _)
      refine ⟨fun h => ?_, fun h => ?_⟩
      · have hc : ¬ xw E w e < 1000000 := fun hc => by
          unfold cvt at h
          rw [if_pos hc] at h
          omega
        refine ih (e + 1) m19 _ (by omega) (f.tr f19) ?_
        unfold chE
        rw [if_neg hc, List.append_nil]
        exact C19
      · have hc : xw E w e < 1000000 := by
          unfold cvt at h
          split at h
          · assumption
          · exact absurd (by decide) h
        have hcv : cvt (ex E w e (E 604 w).toNat 0) = xw E w e := if_pos hc
        rw [hcv]
        refine c237 w10 C19 hl24 fun m' f' _ _ C' => ih (e + 1) m' _ (by omega) ((f.tr f19).tr f') ?_
        conv => arg 3; unfold chE
        rw [if_pos hc]
        exact C'
  exact loop (E 602 579).toNat 0 m3 (9, 0) (by omega) f3 C3
