/-! the least way through a word: the letters and readings of it -/
def rl (E : Mm) (r : Int) : List Int := (List.range (E 602 (11 * r + 1)).toNat).map fun i : Nat => E 602 (11 * r + 5 + i)
def wst (E : Mm) (w : Int) (d : Nat) (last : Int) : Int := fstN (E 602 578).toNat fun r => fitM E r last w (E 604 w - (d + 1 : Nat)) && decide (wnow E r + oc E w d (lasB E r last) = oc E w (d + 1) last)
def wL (E : Mm) (w : Int) : Nat → Int → List Int
  | 0, _ => []
  | d + 1, last => if E 603 (10 * w + (E 604 w - (d + 1 : Nat))) < 32 then E 603 (10 * w + (E 604 w - (d + 1 : Nat))) :: wL E w d (E 603 (10 * w + (E 604 w - (d + 1 : Nat)))) else rl E (wst E w d last) ++ wL E w d (lasB E (wst E w d last) last)
def wR (E : Mm) (w : Int) : Nat → Int → List Int
  | 0, _ => []
  | d + 1, last => if E 603 (10 * w + (E 604 w - (d + 1 : Nat))) < 32 then wR E w d (E 603 (10 * w + (E 604 w - (d + 1 : Nat)))) else wst E w d last :: wR E w d (lasB E (wst E w d last) last)
theorem fstN_ex {n : Nat} {f : Int → Bool} {i : Int} (h0 : 0 ≤ i) (h1 : i < n) (h : f i = true) : 0 ≤ fstN n f ∧ f (fstN n f) = true := by
  induction n with
  | zero => omega
  | succ n ih =>
    unfold fstN
    by_cases hp : 0 ≤ fstN n f
    · rw [if_pos hp]
      refine ⟨hp, ?_⟩
      apply Classical.byContradiction
      intro hc
      have : ∀ (k : Nat), 0 ≤ fstN k f → f (fstN k f) = true := by
        intro k
        induction k with
        | zero => intro h; exact absurd h (show ¬ (0 : Int) ≤ -1 by decide)
        | succ k ihk =>
          unfold fstN
          intro hk
          split at hk
          · rename_i hk2
            rw [if_pos hk2]
            exact ihk hk2
          · rename_i hk2
            rw [if_neg hk2]
            split at hk
            · rename_i hk3
              rw [if_pos hk3]
              exact hk3
            · exact absurd hk (by decide)
      exact hc (this n hp)
    · rw [if_neg hp]
      by_cases hi : i < n
      · exact absurd (ih hi).1 hp
      · have : i = n := by omega
        subst this
        rw [if_pos h]
        exact ⟨by omega, h⟩
/-- a first one: below it none -/
theorem fstN_lt {n : Nat} {f : Int → Bool} {i : Int} (h0 : 0 ≤ i) (h1 : i < fstN n f) : f i = false := by
  induction n with
  | zero => unfold fstN at h1; omega
  | succ n ih =>
    unfold fstN at h1
    split at h1
    · exact ih h1
    · split at h1
      · apply Classical.byContradiction
        intro hc
        exact absurd (fstN_ex h0 h1 (by simpa using hc)).1 ‹_›
      · omega
theorem wst_ok {E : Mm} {w last : Int} {d : Nat} (hs : ¬ E 603 (10 * w + (E 604 w - (d + 1 : Nat))) < 32) (h : oc E w (d + 1) last < 1000000) :
    (0 ≤ wst E w d last ∧ wst E w d last < E 602 578) ∧ fitM E (wst E w d last) last w (E 604 w - (d + 1 : Nat)) = true ∧ wnow E (wst E w d last) + oc E w d (lasB E (wst E w d last) last) = oc E w (d + 1) last := by
  have e : oc E w (d + 1) last = minF (E 602 578).toNat (gCo E w d last) := by
    conv => lhs; unfold oc
    rw [if_neg hs]
    rfl
  rw [e] at h
  obtain ⟨i, i0, i1, i2⟩ := minF_ex h
  have hf : fitM E i last w (E 604 w - (d + 1 : Nat)) = true := by
    rw [i2] at h
    unfold gCo at h
    split at h
    · assumption
    · exact absurd h (by decide)
  have hv : wnow E i + oc E w d (lasB E i last) = oc E w (d + 1) last := by
    rw [e, i2]
    unfold gCo
    rw [if_pos hf]
  have := fstN_ex (f := fun r => fitM E r last w (E 604 w - (d + 1 : Nat)) && decide (wnow E r + oc E w d (lasB E r last) = oc E w (d + 1) last)) i0 i1 (by show (_ && _) = true; rw [Bool.and_eq_true]; exact ⟨hf, decide_eq_true hv⟩)
  have hr := fstN_rng (n := (E 602 578).toNat) (f := fun r => fitM E r last w (E 604 w - (d + 1 : Nat)) && decide (wnow E r + oc E w d (lasB E r last) = oc E w (d + 1) last))
  have h2 := this.2
  rw [Bool.and_eq_true, decide_eq_true_eq] at h2
  exact ⟨⟨this.1, by unfold wst; omega⟩, h2.1, h2.2⟩
theorem rl_len {E : Mm} {r : Int} (h : v_M E r) : ((rl E r).length : Int) = E 602 (11 * r + 1) ∧ (rl E r).length ≤ 6 := by
  obtain ⟨-, -, -, g4, -⟩ := h
  unfold rl
  rw [List.length_map, List.length_range]
  omega
theorem wL_len {E : Mm} (T : InvT E) {w : Int} : ∀ (d : Nat) (last : Int), oc E w d last < 1000000 → (wL E w d last).length ≤ 6 * d ∧ (wR E w d last).length ≤ d := by
  intro d
  induction d with
  | zero => intro last _; exact ⟨Nat.le_refl _, Nat.le_refl _⟩
  | succ d ih =>
    intro last h
    unfold wL wR
    by_cases hs : E 603 (10 * w + (E 604 w - (d + 1 : Nat))) < 32
    · rw [if_pos hs, if_pos hs]
      have e : oc E w (d + 1) last = oc E w d (E 603 (10 * w + (E 604 w - (d + 1 : Nat)))) := by
        conv => lhs; unfold oc
        rw [if_pos hs]
      have := ih _ (e ▸ h)
      simp only [List.length_cons]
      omega
    · rw [if_neg hs, if_neg hs]
      obtain ⟨h1, h2, h3⟩ := wst_ok hs h
      have hM := T.2.2.2.2.2.2.1 _ h1.1 h1.2
      have hl := (rl_len hM).2
      have hW : 0 ≤ wnow E (wst E w d last) := by unfold wnow; omega
      have := ih (lasB E (wst E w d last) last) (by omega)
      simp only [List.length_cons, List.length_append]
      omega
/-- an array's first cells are a list -/
def LA (m : Mm) (x off : Int) (l : List Int) : Prop := ∀ (i : Nat) (h : i < l.length), m x i = off + l[i]
theorem LA.fr {m m' : Mm} {x off : Int} {l : List Int} (h : LA m x off l) (hf : ∀ k : Int, 0 ≤ k → k < l.length → m' x k = m x k) : LA m' x off l := fun i hi => (hf i (by omega) (by omega)).trans (h i hi)
theorem LA.snoc {m m' : Mm} {x off v : Int} {l : List Int} (h : LA m x off l) (hf : ∀ k : Int, 0 ≤ k → k < l.length → m' x k = m x k) (hv : m' x l.length = off + v) : LA m' x off (l ++ [v]) := by
  intro i hi
  rw [List.length_append, List.length_singleton] at hi
  by_cases hc : i < l.length
  · rw [List.getElem_append_left hc]
    exact (hf i (by omega) (by omega)).trans (h i hc)
  · have : i = l.length := by omega
    subst this
    simp [hv]
theorem LA.nil {m : Mm} {x off : Int} : LA m x off [] := fun i h => absurd h (Nat.not_lt_zero i)
/-- the reference's readingAt(225) -/
theorem l225 {E m : Mm} {K : Int → Mm → Prop} (T : InvT E) (Pg : InvP E) (W : InvW E) (A : Ag E m) {w last : Int} {d : Nat} (hw : 0 ≤ w ∧ w < E 597 23) (hd : (d + 1 : Nat) ≤ E 604 w) (hl : -1 ≤ last ∧ last < 26) (R : ∀ d : Nat, (d : Int) ≤ E 604 w → Row E m w d) (hs : ¬ E 603 (10 * w + (E 604 w - (d + 1 : Nat))) < 32) (hc : oc E w (d + 1) last < 1000000)
    (k : K (wst E w d last) m) : ∀ (n r : Nat), r + n = (wst E w d last).toNat → X 225 3 [(1, 597), (0, w), (0, E 604 w - (d + 1 : Nat)), (0, last), (0, r)] [] m (qI K) := by
  obtain ⟨h1, h2, h3⟩ := wst_ok hs hc
  have P2 := (Pg.2 w hw.1 hw.2).1
  have P1 := Pg.1
  have T2 := T.2.1
  have body : ∀ r : Nat, (r : Int) < E 602 578 → ((fitM E r last w (E 604 w - (d + 1 : Nat)) = true ∧ wnow E r + oc E w d (lasB E r last) = oc E w (d + 1) last) → K r m) →
      (¬ (fitM E r last w (E 604 w - (d + 1 : Nat)) = true ∧ wnow E r + oc E w d (lasB E r last) = oc E w (d + 1) last) → X 225 3 [(1, 597), (0, w), (0, E 604 w - (d + 1 : Nat)), (0, last), (0, ((r + 1 : Nat) : Int))] [] m (qI K)) →
      X 225 3 [(1, 597), (0, w), (0, E 604 w - (d + 1 : Nat)), (0, last), (0, r)] [] m (qI K) := by
    intro r hrE yes no
    have hM : v_M E r := T.2.2.2.2.2.2.1 r (by omega) hrE
    have hMm := v_M_ag A hM
    have r24 : (0 : Int) ≤ r ∧ (r : Int) < 24 := ⟨Int.natCast_nonneg r, Int.lt_of_lt_of_le hrE T2.2⟩
    have hrr : wr ((r : Int) + 1) = ((r + 1 : Nat) : Int) := wrI (by omega) (by omega)
    refine w225_3 _ _ _ _ ⟨⟨hMm, by omega, by rw [A.s]; omega, by rw [A.s]; omega⟩, fun hf => ?_, fun hf => ?_⟩
    · rw [fit_ag A r24.2] at hf
      rw [lasB_ag A hM, wnow_ag A r24.2]
      have hL := lasB_rng hM hl
      have p7 := wnow_rng T W (r := r) r24.1 r24.2
      have p3 := oc_rng T W (w := w) d (lasB E r last)
      have p4 := oc_fin T W (w := w) d (lasB E r last)
      have hj : wr (wr (wr (27 * wr (E 604 w - (d + 1 : Nat) + 1)) + lasB E r last) + 1) = 27 * (E 604 w - d) + lasB E r last + 1 := by
        rw [wrI (x := E 604 w - (d + 1 : Nat) + 1) (by omega) (by omega), wrI (x := 27 * (E 604 w - (d + 1 : Nat) + 1)) (by omega) (by omega), wrI (x := _ + lasB E r last) (by omega) (by omega), wrI (by omega) (by omega)]
        omega
      have hj2 : wr (wr (wr (27 * (E 604 w - (d + 1 : Nat))) + last) + 1) = 27 * (E 604 w - (d + 1 : Nat)) + last + 1 := by
        rw [wrI (x := 27 * (E 604 w - (d + 1 : Nat))) (by omega) (by omega), wrI (x := 27 * (E 604 w - (d + 1 : Nat)) + last) (by omega) (by omega), wrI (by omega) (by omega)]
      rw [hj, hj2, (R d (by omega) _ hL.1 hL.2).2, (R (d + 1) (by omega) _ hl.1 hl.2).2, hrr]
      have c2 : cvt (oc E w (d + 1) last) = oc E w (d + 1) last := if_pos hc
      rw [c2]
      refine ⟨hMm, by omega, fun h => no fun hh => ?_, fun h => ⟨v_V_of A T W r24.1 r24.2, hMm, by omega, ?_⟩⟩
      · unfold cvt at h
        split at h <;> omega
      · have c1 : oc E w d (lasB E r last) < 1000000 ∧ cvt (oc E w d (lasB E r last)) = oc E w d (lasB E r last) := by
          unfold cvt at h ⊢
          split at h
          · exact ⟨‹_›, if_pos ‹_›⟩
          · exact absurd h (by decide)
        rw [c1.2, wrI (by omega) (by omega)]
        exact ⟨fun h => yes ⟨hf, h⟩, fun h => no fun hh => h hh.2⟩
    · rw [fit_ag A r24.2] at hf
      rw [hrr]
      exact no fun hh => hf hh.1
  intro n
  induction n with
  | zero =>
    intro r hr
    refine body r (by omega) (fun _ => ?_) fun h => absurd ⟨?_, ?_⟩ h
    · rw [show (r : Int) = wst E w d last by omega]
      exact k
    · rw [show (r : Int) = wst E w d last by omega]
      exact h2
    · rw [show (r : Int) = wst E w d last by omega]
      exact h3
  | succ n ih =>
    intro r hr
    refine body r (by omega) (fun h => ?_) fun h => ih (r + 1) (by omega)
    have := fstN_lt (n := (E 602 578).toNat) (f := fun r => fitM E r last w (E 604 w - (d + 1 : Nat)) && decide (wnow E r + oc E w d (lasB E r last) = oc E w (d + 1) last)) (i := r) (by omega) (by unfold wst at hr; omega)
    exact absurd this (by show ¬ (_ && _) = false; rw [h.1, decide_eq_true h.2]; decide)
theorem c225 {E m : Mm} {K : Int → Mm → Prop} (T : InvT E) (Pg : InvP E) (W : InvW E) (A : Ag E m) {w last : Int} {d : Nat} (hw : 0 ≤ w ∧ w < E 597 23) (hd : (d + 1 : Nat) ≤ E 604 w) (hl : -1 ≤ last ∧ last < 26) (R : ∀ d : Nat, (d : Int) ≤ E 604 w → Row E m w d) (hs : ¬ E 603 (10 * w + (E 604 w - (d + 1 : Nat))) < 32) (hc : oc E w (d + 1) last < 1000000)
    (k : K (wst E w d last) m) : TrI 225 [(1, 597), (0, w), (0, E 604 w - (d + 1 : Nat)), (0, last)] m K :=
  e225 _ _ _ (l225 T Pg W A hw hd hl R hs hc k (wst E w d last).toNat 0 (by omega))
