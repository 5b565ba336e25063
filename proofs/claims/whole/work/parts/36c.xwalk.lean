/-! the exact walk: followsExact(233), walkExact(109) -/
def xst (E : Mm) (w e : Int) (d : Nat) (k : Int) : Int := fstN (E 602 578).toNat fun r => decide (gX E w e d k r = ex E w e (d + 1) k)
def xR (E : Mm) (w e : Int) : Nat → Int → List Int
  | 0, _ => []
  | d + 1, k => if E 603 (10 * w + (E 604 w - (d + 1 : Nat))) < 32 then xR E w e d (k + 1) else xst E w e d k :: xR E w e d (k + bsz E (xst E w e d k))
theorem xst_ok {E : Mm} {w e k : Int} {d : Nat} (hs : ¬ E 603 (10 * w + (E 604 w - (d + 1 : Nat))) < 32) (h : ex E w e (d + 1) k < 1000000) :
    (0 ≤ xst E w e d k ∧ xst E w e d k < E 602 578) ∧ (fitM E (xst E w e d k) (lasO E e k) w (E 604 w - (d + 1 : Nat)) = true ∧ stM E (xst E w e d k) e k = true) ∧ wnow E (xst E w e d k) + ex E w e d (k + bsz E (xst E w e d k)) = ex E w e (d + 1) k ∧ gX E w e d k (xst E w e d k) = ex E w e (d + 1) k := by
  have he : ex E w e (d + 1) k = minF (E 602 578).toNat (gX E w e d k) := by
    conv => lhs; unfold ex
    rw [if_neg hs]
    rfl
  have h' := h
  rw [he] at h
  obtain ⟨i, i0, i1, i2⟩ := minF_ex h
  have := fstN_ex (f := fun r => decide (gX E w e d k r = ex E w e (d + 1) k)) i0 i1 (decide_eq_true (by rw [he, i2]))
  have hr := fstN_rng (n := (E 602 578).toNat) (f := fun r => decide (gX E w e d k r = ex E w e (d + 1) k))
  have h2 := of_decide_eq_true this.2
  have h3 : gX E w e d k (xst E w e d k) = ex E w e (d + 1) k := h2
  have h4 := h3
  rw [gX_eq] at h4
  split at h4
  · exact ⟨⟨this.1, by unfold xst; omega⟩, ‹_›, h4, h3⟩
  · omega
theorem xR_len {E : Mm} {w e : Int} : ∀ (d : Nat) (k : Int), (xR E w e d k).length ≤ d := by
  intro d
  induction d with
  | zero => intro k; exact Nat.le_refl _
  | succ d ih =>
    intro k
    unfold xR
    split
    · have := ih (k + 1)
      omega
    · have := ih (k + bsz E (xst E w e d k))
      simp only [List.length_cons]
      omega
/-- where the letter of a word's byte fits, the entry's place goes on -/
theorem ex_let {E : Mm} {w e k : Int} {d : Nat} (hs : E 603 (10 * w + (E 604 w - (d + 1 : Nat))) < 32) (h : ex E w e (d + 1) k < 1000000) : k < esz E e ∧ ex E w e (d + 1) k = ex E w e d (k + 1) := by
  unfold ex at h
  rw [if_pos hs] at h
  split at h
  · rename_i hk
    refine ⟨hk.1, ?_⟩
    conv => lhs; unfold ex
    rw [if_pos hs, if_pos hk]
  · exact absurd h (by decide)
def elt (E : Mm) (e : Int) : List Int := (List.range (esz E e).toNat).map fun i : Nat => eL E e i
theorem elt_at {E : Mm} {e : Int} {i : Nat} (h : i < (elt E e).length) : (elt E e)[i] = eL E e i := by
  simp [elt]
theorem elt_len {E : Mm} {e : Int} : (elt E e).length = (esz E e).toNat := by
  unfold elt
  rw [List.length_map, List.length_range]
def f233 (m m' : Mm) : Prop := ∀ x k, ¬ (610 ≤ x ∧ x ≤ 612) → ¬ (x = 597 ∧ (k = 31 ∨ k = 33)) → m' x k = m x k
theorem f233.ag {E m m' : Mm} (h : f233 m m') (A : Ag E m) : Ag E m' := A.fr fun x k hp => by
  unfold per at hp
  exact h x k (by omega) (by omega)
theorem c233 {E m : Mm} {K : Int → Mm → Prop} (T : InvT E) (Pg : InvP E) (W : InvW E) (A : Ag E m) {w e : Int} (hw : 0 ≤ w ∧ w < E 597 23) (he : 0 ≤ e ∧ e < E 602 579)
    (kn : ∀ m', f233 m m' → ¬ ex E w e (E 604 w).toNat 0 < 1000000 → K 0 m')
    (kk : ∀ m', f233 m m' → ex E w e (E 604 w).toNat 0 < 1000000 → S3 m' (elt E e) (xR E w e (E 604 w).toNat 0) → K 1 m') : TrI 233 [(1, 597), (0, w), (0, e)] m K := by
  have P2 := (Pg.2 w hw.1 hw.2).1
  have P1 := Pg.1
  have T2 := T.2.1
  have T3 := T.2.2.1
  have h8 := (T.2.2.2.2.2.2.2.1 e he.1 he.2).1
  have e24 : 0 ≤ e ∧ e < 24 := ⟨he.1, Int.lt_of_lt_of_le he.2 T3.2⟩
  have w10 : 0 ≤ w ∧ w < 10 := by omega
  have hE : esz E e = E 602 (264 + 11 * e) := rfl
  have qe : wr (264 + wr (11 * e)) = 264 + 11 * e := by
    rw [wrI (x := 11 * e) (by omega) (by omega), wrI (by omega) (by omega)]
  have qe3 : 0 ≤ 264 + 11 * e ∧ 264 + 11 * e < 1166 := by omega
  have hll := elt_len (E := E) (e := e)
  obtain ⟨RR, hRR⟩ : ∃ RR, xR E w e (E 604 w).toNat 0 = RR := ⟨_, rfl⟩
  -- the letters at the end
  have letters : ∀ (n i : Nat) (m1 : Mm) (v1 v3 v5 : aV) (R : List Int), v3.1 ≠ 2 → i + n = (elt E e).length → f233 m m1 → S3 m1 ((elt E e).take i) R → R = RR → ex E w e (E 604 w).toNat 0 < 1000000 → X 233 134 [(1, 597), v1, (0, e), v3, (0, i), v5] [] m1 (qI K) := by
    intro n
    induction n with
    | zero =>
      intro i m1 v1 v3 v5 R hv hi f S eR hc
      have A1 := f.ag A
      refine w233_134 _ _ _ _ _ hv ?_
      rw [qe, A1.a (show 264 + 11 * e < 583 by omega), ← hE]
      refine ⟨⟨A1.b.trans T.1, qe3⟩, fun h => absurd h (by omega), fun _ => kk m1 f hc ?_⟩
      rw [show i = (elt E e).length by omega, List.take_length, eR, ← hRR] at S
      exact S
    | succ n ih =>
      intro i m1 v1 v3 v5 R hv hi f S eR hc
      have A1 := f.ag A
      have il : i < (elt E e).length := by omega
      have q4 : wr (wr (264 + 11 * e + 3) + i) = 264 + 11 * e + 3 + i := by
        rw [wrI (x := 264 + 11 * e + 3) (by omega) (by omega), wrI (by omega) (by omega)]
      have q6 : 0 ≤ 264 + 11 * e + 3 + (i : Int) ∧ 264 + 11 * e + 3 + (i : Int) < 1166 := by omega
      have hlen : ((elt E e).take i).length = i := by rw [List.length_take]; omega
      refine w233_134 _ _ _ _ _ hv ?_
      rw [qe, A1.a (show 264 + 11 * e < 583 by omega), ← hE, q4, A1.a (show 264 + 11 * e + 3 + (i : Int) < 583 by omega)]
      refine ⟨⟨A1.b.trans T.1, qe3⟩, fun _ => ⟨⟨A1.b.trans T.1, q6⟩, by rw [S.1]; omega, fun m9 e9 m11 e11 => ?_⟩, fun h => absurd (show (i : Int) < esz E e by omega) h⟩
      have e31 : m9 597 31 = ((elt E e).take i).length := by rw [e9, um_x (by decide)]; exact S.1
      rw [e31, wrI (x := (((elt E e).take i).length : Int) + 1) (by omega) (by omega)] at e11
      rw [show E 602 (264 + 11 * e + 3 + (i : Int)) = (elt E e)[i] from (elt_at il).symm] at e9
      rw [wrI (x := (i : Int) + 1) (by omega) (by omega)]
      refine ih (i + 1) m11 _ _ _ R hv (by omega) (fun x k' n1 n2 => ?_) ?_ eR hc
      · rw [e11, e9, um_n (by omega), um_n (by omega)]
        exact f x k' n1 n2
      · rw [take_one il, e11, e9]
        exact S.put
  refine e233 _ _ fun m1 e1 m3 e3 => ?_
  have f3 : f233 m m3 := fun x k' n1 n2 => by rw [e3, e1, um_n (by omega), um_n (by omega)]
  refine c227 T Pg W (f3.ag A) hw he fun m5 f5' R5 => ?_
  have f5 : f233 m m5 := fun x k' n1 n2 => (f5' x k' (by omega)).trans (f3 x k' n1 n2)
  have S5 : S3 m5 [] [] := ⟨by rw [f5' _ _ (by decide), e3, um_s]; rfl, LA.nil, by rw [f5' _ _ (by decide), e3, um_k (by decide), e1, um_s]; rfl, LA.nil⟩
  have p3 := ex_rng T W (w := w) (e := e) (E 604 w).toNat 0
  refine ⟨fun h => kn m5 f5 fun hlt => ?_, fun h => ?_⟩
  · unfold cvt at h
    rw [if_pos hlt] at h
    omega
  have hc0 : ex E w e (E 604 w).toNat 0 < 1000000 := by
    unfold cvt at h
    split at h
    · assumption
    · exact absurd (by decide) h
  have walk : ∀ (d : Nat) (k : Int) (m6 : Mm) (R : List Int) (v5 : aV), (d : Int) ≤ E 604 w → (0 ≤ k ∧ k ≤ esz E e) → ex E w e d k < 1000000 → f233 m m6 → (∀ d : Nat, (d : Int) ≤ E 604 w → RowX E m6 w e d) → S3 m6 [] R → R.length + d ≤ 10 → R ++ xR E w e d k = RR → X 233 26 [(1, 597), (0, w), (0, e), (0, k), (0, E 604 w - d), v5] [] m6 (qI K) := by
    intro d
    induction d with
    | zero =>
      intro k m6 R v5 hd hk hc f Rx S n2 eR
      have A6 := f.ag A
      refine w233_26 _ _ _ _ v5 ⟨w10, fun h => absurd h (by rw [A6.s]; omega), fun _ => ?_⟩
      unfold xR at eR
      rw [List.append_nil] at eR
      exact letters (elt E e).length 0 m6 _ _ _ R (by simp) (Nat.zero_add _) f (by rw [List.take_zero]; exact S) eR hc0
    | succ d ih =>
      intro k m6 R v5 hd hk hc f Rx S n2 eR
      have A6 := f.ag A
      have a10 : 0 ≤ 10 * w + (E 604 w - (d + 1 : Nat)) ∧ 10 * w + (E 604 w - (d + 1 : Nat)) < 100 := by omega
      have q2 : wr (wr (10 * w) + (E 604 w - (d + 1 : Nat))) = 10 * w + (E 604 w - (d + 1 : Nat)) := by
        rw [wrI (x := 10 * w) (by omega) (by omega), wrI (by omega) (by omega)]
      have q5 : wr (E 604 w - (d + 1 : Nat) + 1) = E 604 w - d := by
        rw [wrI (by omega) (by omega)]
        omega
      have q8 : (0 : Int) ≤ R.length ∧ (R.length : Int) < 10 := by omega
      have qi : wr (wr (9 * (E 604 w - (d + 1 : Nat))) + k) = 9 * (E 604 w - (d + 1 : Nat)) + k := by
        rw [wrI (x := 9 * (E 604 w - (d + 1 : Nat))) (by omega) (by omega), wrI (by omega) (by omega)]
      have qi2 : 0 ≤ 9 * (E 604 w - ((d + 1 : Nat) : Int)) + k ∧ 9 * (E 604 w - ((d + 1 : Nat) : Int)) + k < 99 := by omega
      refine w233_26 _ _ _ _ v5 ⟨w10, fun _ => ?_, fun h => absurd (show E 604 w - ((d + 1 : Nat) : Int) < m6 604 w by rw [A6.s]; omega) h⟩
      rw [q2, A6.p, q5]
      refine ⟨a10, fun hs => ?_, fun hs => ?_⟩
      · obtain ⟨hk1, hx⟩ := ex_let hs hc
        unfold xR at eR
        rw [if_pos hs] at eR
        rw [wrI (x := k + 1) (by omega) (by omega)]
        exact ih (k + 1) m6 R v5 (by omega) (by omega) (hx ▸ hc) f Rx S (by omega) eR
      · obtain ⟨h1, ⟨h2, h2'⟩, h3, h4⟩ := xst_ok hs hc
        unfold xR at eR
        rw [if_neg hs] at eR
        have hle := stM_le h2'
        have hM := T.2.2.2.2.2.2.1 _ h1.1 h1.2
        have g4 := hM.2.2.2.1
        have hB : bsz E (xst E w e d k) = E 602 (11 * xst E w e d k + 1) := rfl
        have r24 : 0 ≤ xst E w e d k ∧ xst E w e d k < 24 := ⟨h1.1, Int.lt_of_lt_of_le h1.2 T2.2⟩
        have hW := (wnow_rng T W r24.1 r24.2).1
        have search : ∀ (n r : Nat), r + n = (xst E w e d k).toNat → X 233 63 [(1, 597), (0, w), (0, e), (0, k), (0, E 604 w - (d + 1 : Nat)), (0, r)] [] m6 (qI K) := by
          have cell := Rx (d + 1) (by omega) k hk.1 hk.2
          unfold CelX at cell
          rw [show cvt (ex E w e (d + 1) k) = ex E w e (d + 1) k from if_pos hc] at cell
          have body : ∀ r : Nat, (r : Int) < E 602 578 → (gX E w e d k r = ex E w e (d + 1) k → r = (xst E w e d k).toNat) → (gX E w e d k r ≠ ex E w e (d + 1) k → X 233 63 [(1, 597), (0, w), (0, e), (0, k), (0, E 604 w - (d + 1 : Nat)), (0, ((r + 1 : Nat) : Int))] [] m6 (qI K)) → X 233 63 [(1, 597), (0, w), (0, e), (0, k), (0, E 604 w - (d + 1 : Nat)), (0, r)] [] m6 (qI K) := by
            intro r hrE yes no
            have hr24 : (0 : Int) ≤ r ∧ (r : Int) < 24 := ⟨Int.natCast_nonneg r, Int.lt_of_lt_of_le hrE T2.2⟩
            have px := (ex_rng T W (w := w) (e := e) (d + 1) k).1
            refine w233_63 _ _ _ _ _ ?_
            refine c229 T Pg W A6 hw he hd hk ⟨hr24.1, hrE⟩ (Rx d (by omega)) ?_
            rw [qi, cell]
            refine ⟨qi2, fun hq => ?_, fun hq => ?_⟩
            · have hg : gX E w e d k r = ex E w e (d + 1) k := by
                split at hq
                · exact hq
                · omega
              have hrx := yes hg
              have hrx' : (r : Int) = xst E w e d k := by omega
              refine ⟨by rw [S.2.2.1]; exact q8, fun m10 e10 m12 e12 => ?_⟩
              have e33 : m10 597 33 = R.length := by rw [e10, um_x (by decide)]; exact S.2.2.1
              rw [e33, wrI (x := (R.length : Int) + 1) (by omega) (by omega)] at e12
              have f12 : f233 m m12 := fun x k' n1 n3 => by
                rw [e12, e10, um_n (by omega), um_n (by omega)]
                exact f x k' n1 n3
              have hbh : bhd E (xst E w e d k) e k = k + bsz E (xst E w e d k) := by unfold bhd; rw [if_pos h2']
              refine ⟨v_B_of (f12.ag A) T ⟨hr24.1, hrE⟩ he hk, ?_⟩
              rw [bhd_ag (f12.ag A) (T.2.2.2.2.2.2.1 r hr24.1 hrE) e24.2 (by omega), hrx', hbh, q5]
              refine ih _ m12 (R ++ [xst E w e d k]) _ (by omega) (by omega) (by omega) f12 (fun d' hd' l l0 l1 => ?_) ?_ ?_ ?_
              · unfold CelX
                rw [e12, um_x (by decide), e10, um_x (by decide)]
                exact Rx d' hd' l l0 l1
              · rw [e12, e10, hrx']
                exact S.take
              · rw [List.length_append, List.length_singleton]
                omega
              · rw [List.append_assoc]
                exact eR
            · rw [wrI (x := (r : Int) + 1) (by omega) (by omega)]
              refine no fun hg => hq ?_
              rw [hg, if_pos hc]
          intro n
          induction n with
          | zero =>
            intro r hr
            exact body r (by omega) (fun _ => by omega) (fun h => absurd (by rw [show (r : Int) = xst E w e d k by omega]; exact h4) h)
          | succ n ihn =>
            intro r hr
            refine body r (by omega) (fun hg => ?_) (fun _ => ihn (r + 1) (by omega))
            have := fstN_lt (n := (E 602 578).toNat) (f := fun r => decide (gX E w e d k r = ex E w e (d + 1) k)) (i := r) (by omega) (by unfold xst at hr; omega)
            exact absurd hg (of_decide_eq_false this)
        exact search (xst E w e d k).toNat 0 (by omega)
  have := walk (E 604 w).toNat 0 m5 [] (9, 0) (by omega) (by omega) hc0 f5 R5 S5 (by simp; omega) hRR
  rw [show E 604 w - ((E 604 w).toNat : Int) = 0 by omega] at this
  exact this
