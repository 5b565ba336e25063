/-! the class's scanner -/
section SCN
variable {f : Int → Int} {n p s : Int} {m : Mm}
theorem f19.refl : f19 m m := fun _ _ _ => rfl
theorem c22 {K : Mm → Prop} (S : ScC f n m p) (h7 : m 3 7 = s) (hs : 0 ≤ s ∧ s ≤ p)
    (kk : ∀ m', f19 m m' → ScC f n m' (sc (isL f) n p) → m' 3 6 = (if wdS f s (sc (isL f) n p - s) < 0 then 2 else 1) → m' 3 7 = s → m' 3 8 = sc (isL f) n p - s → m' 3 9 = wdS f s (sc (isL f) n p - s) → K m') : TrV 22 [(1, 3)] m K := by
  have bk := sc_le (P := isL f) S.2.2.2.1.2.1
  generalize he : sc (isL f) n p = e at *
  have loop : ∀ (d : Nat) (q : Int) (m1 : Mm), (n - q).toNat = d → p ≤ q → sc (isL f) n q = e → f19 m m1 → ScC f n m1 q → m1 3 7 = s → X 22 0 [(1, 3)] [] m1 (qV K) := by
    have done : ∀ (q : Int) (m1 : Mm), q = e → f19 m m1 → ScC f n m1 q → m1 3 7 = s → X 22 39 [(1, 3)] [] m1 (qV K) := by
      intro q m1 hq f1 S1 s7
      subst hq
      have S1' := S1
      obtain ⟨a, b, c, d, g⟩ := S1
      refine w22_39 fun m2 e2 => ?_
      rw [c, s7] at e2
      have e2' : m2 = umem m1 3 8 (q - s) := by rw [e2, wrI (by omega) (by omega)]
      clear e2
      have f2 : f19 m1 m2 := fun x k hx => by rw [e2', um_n (by omega)]
      have S2 := S1'.fr f2 (p' := q) (by rw [e2', um_k (by decide)]; exact c) (by omega)
      refine c23 S2.1 (by rw [e2', um_k (by decide)]; exact s7) (by rw [e2', um_s]) hs.1 (show 0 ≤ q - s ∧ s + (q - s) ≤ n by omega) d.2.2 (fun i i0 i1 => (S2.2.2.2.2 i i0 i1).1) ?_
      intro m6 e6
      have x9 : m6 3 9 = wdS f s (q - s) := by rw [e6, um_s]
      rw [x9]
      have fin : ∀ m', m' = umem m6 3 6 (if wdS f s (q - s) < 0 then 2 else 1) → K m' := fun m' e' => by
        have f' : f19 m1 m' := fun x k hx => by rw [e', um_n (by omega), e6, um_n (by omega)]; exact f2 x k hx
        refine kk m' (fun x k hx => (f' x k hx).trans (f1 x k hx)) (S1'.fr f' (by rw [e', um_k (by decide), e6, um_k (by decide), e2', um_k (by decide)]; exact c) (by omega)) (by rw [e', um_s]) (by rw [e', um_k (by decide), e6, um_k (by decide), e2', um_k (by decide)]; exact s7) (by rw [e', um_k (by decide), e6, um_k (by decide), e2', um_s]) (by rw [e', um_k (by decide)]; exact x9)
      refine ⟨fun h m10 e10 => fin m10 (by rw [if_pos h]; exact e10), fun h m12 e12 => fin m12 (by rw [if_neg h]; exact e12)⟩
    intro d
    induction d with
    | zero =>
      intro q m1 hd hp hq f1 S1 s7
      obtain ⟨a, b, c, dd, g⟩ := id S1
      have : q = e := by rw [← hq]; exact (sc_n (by omega)).symm
      exact w22_0 ⟨fun h => absurd h (by omega), fun _ => done q m1 this f1 S1 s7⟩
    | succ d ih =>
      intro q m1 hd hp hq f1 S1 s7
      obtain ⟨a, b, c, dd, g⟩ := id S1
      have gq := (g q (by omega) (by omega)).1
      refine w22_0 ⟨fun _ => ?_, fun h => absurd (show m1 3 5 < m1 3 4 by omega) h⟩
      rw [a, c, gq]
      refine ⟨t_slot (by omega), fun hl m2 e2 => ?_, fun hl => done q m1 ?_ f1 S1 s7⟩
      · rw [wrI (x := q + 1) (by omega) (by omega)] at e2
        have f2 : f19 m1 m2 := fun x k hx => by rw [e2, um_n (by omega)]
        exact ih (q + 1) m2 (by omega) (by omega) (by rw [← sc_t (show q < n by omega) (decide_eq_true hl)]; exact hq) (fun x k hx => (f2 x k hx).trans (f1 x k hx)) (S1.fr f2 (by rw [e2, um_s]) (by omega)) (by rw [e2, um_k (by decide)]; exact s7)
      · rw [← hq]
        exact (sc_f (by unfold isL; rw [decide_eq_true_eq]; exact hl)).symm
  exact loop (n - p).toNat p m rfl (Int.le_refl _) he f19.refl S h7
end SCN
