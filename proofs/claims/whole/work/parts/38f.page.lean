/-! laysPage(241) -/
def f241 (m m' : Mm) : Prop := ∀ x k, ¬ (x = 608 ∨ x = 609 ∨ (612 ≤ x ∧ x ≤ 615)) → m' x k = m x k
theorem f241.ag {E m m' : Mm} (h : f241 m m') (A : Ag E m) : Ag E m' := A.fr fun x k hp => by
  unfold per at hp
  exact h x k (by omega)
theorem f236.ch {m m' : Mm} {w v : Int} {l : List (Int × Int)} (h : f236 m m' w) (hv : v ≠ w) (hl : l.length ≤ 24) (C : ChM m v l) : ChM m' v l := by
  refine ⟨by rw [h _ _ (by omega) (by omega) (by omega)]; exact C.1, fun i hi => ?_⟩
  rw [h _ _ (by omega) (by omega) (by omega), h _ _ (by omega) (by omega) (by omega)]
  exact C.2 i hi
theorem c241 {E m : Mm} {K : Mm → Prop} (T : InvT E) (Pg : InvP E) (W : InvW E) (A : Ag E m)
    (kk : ∀ m', f241 m m' → CA E m' → K m') : TrV 241 [(1, 597)] m K := by
  have P1 := Pg.1
  refine e241 ?_
  have loop : ∀ (n w : Nat) (m1 : Mm), (w : Int) + n = E 597 23 → f241 m m1 → (∀ v, 0 ≤ v → v < (w : Int) → ChM m1 v (chs E v)) → X 241 2 [(1, 597), (0, w)] [] m1 (qV K) := by
    intro n
    induction n with
    | zero =>
      intro w m1 hw f C
      have A1 := f.ag A
      exact w241_2 _ ⟨fun h => absurd h (by rw [A1.n]; omega), fun _ => kk m1 f fun v v0 v1 => C v v0 (by omega)⟩
    | succ n ih =>
      intro w m1 hw f C
      have A1 := f.ag A
      refine w241_2 _ ⟨fun _ => ?_, fun h => absurd (show (w : Int) < m1 597 23 by rw [A1.n]; omega) h⟩
      refine c236 T Pg W A1 ⟨by omega, by omega⟩ fun m2 f2 c2 => ?_
      rw [wrI (x := (w : Int) + 1) (by omega) (by omega)]
      refine ih (w + 1) m2 (by omega) (fun x k q => (f2 x k (by omega) (by omega) (by omega)).trans (f x k q)) fun v v0 v1 => ?_
      by_cases hv : v = w
      · rw [hv]
        exact c2
      · exact f2.ch hv (chs_len T).2 (C v v0 (by omega))
  exact loop (E 597 23).toNat 0 m (by omega) (fun _ _ _ => rfl) fun v v0 v1 => by omega
/-- best(240), the reference: the page's least, or none -/
theorem c240 {E m : Mm} {K : Int → Mm → Prop} (T : InvT E) (Pg : InvP E) (W : InvW E) (A : Ag E m) {hv hp : Int} (H : HM m 0 hv hp)
    (kk : ∀ m', (∀ x k, ¬ (x = 608 ∨ x = 609 ∨ (612 ≤ x ∧ x ≤ 617)) → ¬ (x = 597 ∧ k = 0) → m' x k = m x k) → K (cvt (totS E (canH E 0 hv hp))) m') : TrI 240 [(1, 597)] m K := by
  refine e240 fun m1 e1 => ?_
  have A1 : Ag E m1 := A.fr fun x k hp => by
    unfold per at hp
    rw [e1, um_n (by omega)]
  have H1 : HM m1 0 hv hp := by
    unfold HM
    rw [e1, um_k (by decide), um_k (by decide), um_k (by decide)]
    exact H
  refine c241 T Pg W A1 fun m3 f3 C3 => ?_
  have H3 : HM m3 0 hv hp := by
    unfold HM
    rw [f3 _ _ (by decide), f3 _ _ (by decide), f3 _ _ (by decide)]
    exact H1
  refine c242 T Pg W (f3.ag A1) C3 H3 fun m5 f5 _ => kk m5 fun x k q1 q2 => ?_
  rw [f5 _ _ (by omega), f3 _ _ (by omega), e1, um_n q2]
