/-! the class: through(123), leastOther(125); the reference: leastWith(257), otherwise(259) -/
/-- what the class's paths q hold -/
def PaC (E m : Mm) (q : Int) : Prop := (∀ d : Nat, (d + 1 : Nat) ≤ E 597 23 → BkC E m q (canS E) d) ∧ (∀ w : Nat, (w : Int) < E 597 23 → FwC E m q (canS E) w) ∧ m q 1 = totS E (canS E) ∧ m q 2 = tcS E (canS E) ∧ ∀ w : Nat, (w : Int) < E 597 23 → m (q + 1) w = bsP E w
theorem PaC.fr {E m m' : Mm} {q : Int} (Pg : InvP E) (h : PaC E m q) (hf : ∀ x k, q ≤ x → x < q + 35 → m' x k = m x k) : PaC E m' q := by
  have P1 := Pg.1
  obtain ⟨h1, h2, h3, h4, h5⟩ := h
  refine ⟨fun d hd => (h1 d hd).fr (fun k => hf _ _ (by omega) (by omega)) (fun k => hf _ _ (by omega) (by omega)), fun w hw j j0 j1 => ?_, ?_, ?_, fun w hw => ?_⟩
  · rw [hf _ _ (by omega) (by omega)]
    exact h2 w hw j j0 j1
  · rw [hf _ _ (by omega) (by omega)]; exact h3
  · rw [hf _ _ (by omega) (by omega)]; exact h4
  · rw [hf _ _ (by omega) (by omega)]; exact h5 w hw
theorem PaC.bk {E m : Mm} {q : Int} (h : PaC E m q) {w : Nat} {p : Int} (hw : (w : Int) < E 597 23) (hp : 0 ≤ p ∧ p < cN E w) : m (q + 14 + w) p = Bw E (canS E) w p := by
  have := h.1 (E 597 23 - 1 - (w : Int)).toNat (by omega)
  unfold BkC at this
  rw [show E 597 23 - 1 - ((E 597 23 - 1 - (w : Int)).toNat : Int) = w by omega] at this
  exact (this p hp.1 hp.2).1
theorem c123 {E m : Mm} {K : Int → Mm → Prop} {c q p : Int} {w : Nat} (T : InvT E) (Pg : InvP E) (W : InvW E) (hc : c = 411 ∨ c = 461) (hq : q = 511 ∨ q = 546) (Ca : CAC E m c) (Pa : PaC E m q) (hw : (w : Int) < E 597 23) (hp : 0 ≤ p ∧ p < cN E w)
    (kk : K (thS E w p) m) : TrI 123 [(1, q), (1, c), (0, (w : Int)), (0, p)] m K := by
  have P1 := Pg.1
  have n2 := (chs_len T (w := w)).2
  have n24 : (cN E w : Int) ≤ 24 := by unfold cN; omega
  have a1 := cE_in T Pg W (w := w) ⟨by omega, hw⟩ hp
  have rB := Bw_rng (C := canS E) T Pg W hw hp
  have rF := fw_rng (C := canS E) T Pg W w p hw hp
  refine e123 _ _ _ _ (q_shp hq) (c_shp hc) ?_
  rw [show m (q + 3 + (w : Int)) p = fwS E (canS E) w p from Pa.2.1 w hw p hp.1 hp.2, Pa.bk hw hp, ((Ca.2 w (by omega) hw).at hp).2]
  unfold thS cmb at kk
  refine ⟨by omega, by omega, fun h1 => ⟨fun h2 => ?_, fun h2 => ?_⟩, fun h1 => ?_⟩
  · have fF := fw_fin (C := canS E) T Pg W w p hw hp h1
    have := rB.2 h2
    rw [if_pos ⟨h1, h2⟩] at kk
    rw [wrI (x := fwS E (canS E) w p + Bw E (canS E) w p) (by omega) (by omega), wrI (by omega) (by omega)]
    exact kk
  · rw [if_neg (fun h => h2 h.2)] at kk
    exact kk
  · rw [if_neg (fun h => h1 h.1)] at kk
    exact kk
/-- the least other reading of the page with another choice of a word -/
def loS (E : Mm) (w : Nat) : Int := if totS E (canS E) < 1000000 then otS E w (bsP E w) else 1000000
theorem c125 {E m : Mm} {K : Int → Mm → Prop} {c q : Int} {w : Nat} (T : InvT E) (Pg : InvP E) (W : InvW E) (hc : c = 411 ∨ c = 461) (hq : q = 511 ∨ q = 546) (Ca : CAC E m c) (Pa : PaC E m q) (hw : (w : Int) < E 597 23)
    (kk : K (loS E w) m) : TrI 125 [(1, q), (1, c), (0, (w : Int))] m K := by
  have P1 := Pg.1
  have n2 := (chs_len T (w := w)).2
  have n24 : (cN E w : Int) ≤ 24 := by unfold cN; omega
  have hN : ((chs E w).length : Int) = cN E w := rfl
  refine e125 _ _ _ (q_shp hq) (c_shp hc) ?_
  rw [Pa.2.2.1]
  unfold loS at kk
  refine ⟨fun ht => ?_, fun ht => ?_⟩
  · rw [if_pos ht] at kk
    obtain ⟨f, hf⟩ : ∃ f : Int → Int, f = fun i => if i = bsP E w then 1000000 else thS E w i := ⟨_, rfl⟩
    have loop : ∀ (n j : Nat), j + n = cN E w → X 125 18 [(1, q), (1, c), (0, (w : Int)), (0, minF j f), (0, (j : Int))] [] m (qI K) := by
      intro n
      induction n with
      | zero =>
        intro j hj
        refine w125_18 _ _ _ _ _ (q_shp hq) (c_shp hc) ⟨by omega, fun h => absurd h (by rw [(Ca.2 w (by omega) hw).1, hN]; omega), fun _ => ?_⟩
        unfold otS at kk
        rw [hf, show j = cN E w by omega]
        exact kk
      | succ n ih =>
        intro j hj
        have jE : 0 ≤ (j : Int) ∧ (j : Int) < cN E w := by omega
        have sM : minF (j + 1) f = min (minF j f) (f j) := rfl
        have pM : minF j f ≤ 1000000 := minF_le
        have qn : Unit → wr ((j : Int) + 1) = ((j + 1 : Nat) : Int) := fun _ => wrI (by omega) (by omega)
        refine w125_18 _ _ _ _ _ (q_shp hq) (c_shp hc) ⟨by omega, fun _ => ?_, fun h => absurd (show (j : Int) < m (c + 27) w by rw [(Ca.2 w (by omega) hw).1, hN]; exact jE.2) h⟩
        rw [Pa.2.2.2.2 w hw, qn ()]
        refine ⟨fun h => ?_, fun h => ?_⟩
        · have fj : f j = 1000000 := by rw [hf]; exact if_pos h
          have := ih (j + 1) (by omega)
          rw [sM, fj, Int.min_eq_left pM] at this
          exact this
        · have fj : f j = thS E w j := by rw [hf]; exact if_neg h
          refine c123 T Pg W hc hq Ca Pa hw jE ?_
          have := ih (j + 1) (by omega)
          rw [sM, fj] at this
          exact this
    exact loop (cN E w) 0 (Nat.zero_add _)
  · rw [if_neg ht] at kk
    exact kk
/-- leastWith(257): the frame, the answer -/
def f257 (m m' : Mm) : Prop := ∀ x k, ¬ (x = 616 ∨ x = 617) → ¬ (x = 597 ∧ (k = 38 ∨ k = 39 ∨ k = 40)) → m' x k = m x k
theorem f257.ag {E m m' : Mm} (h : f257 m m') (A : Ag E m) : Ag E m' := A.fr fun x k hp => by
  unfold per at hp
  exact h x k (by omega) (by omega)
theorem c257 {E m : Mm} {K : Int → Mm → Prop} (T : InvT E) (Pg : InvP E) (W : InvW E) (A : Ag E m) (Ca : CA E m) {hv hp hk : Int}
    (kk : ∀ m', f257 m m' → m' 597 40 = 0 → K (cvt (totS E (canH E hk hv hp))) m') : TrI 257 [(1, 597), (0, hv), (0, hp), (0, hk)] m K := by
  refine e257 _ _ _ fun m1 e1 m3 e3 m5 e5 => ?_
  have f5 : f257 m m5 := fun x k n1 n2 => by rw [e5, um_n (by omega), e3, um_n (by omega), e1, um_n (by omega)]
  have H5 : HM m5 hk hv hp := ⟨by rw [e5, um_s], by rw [e5, um_k (by decide), e3, um_k (by decide), e1, um_s], by rw [e5, um_k (by decide), e3, um_s]⟩
  refine c242 T Pg W (f5.ag A) (Ca.fr fun x k x0 x1 => f5 x k (by omega) (by omega)) H5 fun m7 f7 _ => ?_
  intro m10 e10
  refine kk m10 (fun x k n1 n2 => ?_) (by rw [e10, um_s])
  rw [e10, um_n (by omega), f7 x k (by omega)]
  exact f5 x k n1 n2
theorem c259 {E m : Mm} {K : Int → Mm → Prop} (T : InvT E) (Pg : InvP E) (W : InvW E) (A : Ag E m) (Ca : CA E m) {w : Nat} (hw : (w : Int) < E 597 23) (B : m 618 w = bsP E w)
    (kk : ∀ m', f257 m m' → m' 597 40 = 0 → K (cvt (otS E w (bsP E w))) m') : TrI 259 [(1, 597), (0, (w : Int))] m K := by
  have P1 := Pg.1
  refine e259 _ ⟨by omega, ?_⟩
  rw [B]
  refine c257 T Pg W A Ca fun m' f' x' => ?_
  rw [tot_off T Pg W hw]
  exact kk m' f' x'
