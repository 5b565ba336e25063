/-! the class: findEnds(131), findMore(134), clear(137), firstByte(138) -/
def EdC (E m : Mm) (e : Int) (d : Nat) : Prop := ∀ k last, 0 ≤ k → k ≤ zsz (E 602) e → 0 ≤ last → last ≤ E 602 578 → m (584 + d) (25 * k + last) = if RE (E 602) e d k (cdA (E 602) last) = true then 1 else 0
theorem EdC.fr {E m m' : Mm} {e : Int} {d : Nat} (h : EdC E m e d) (f : ∀ k, m' (584 + d) k = m (584 + d) k) : EdC E m' e d := fun k last k0 k1 l0 l1 => by
  rw [f]
  exact h k last k0 k1 l0 l1
theorem c131 {E m : Mm} {K : Mm → Prop} {t e : Int} (T : InvT E) (Tt : CT E m t) (he : 0 ≤ e ∧ e < E 602 579) (kk : ∀ m', (∀ x k, x ≠ 584 → m' x k = m x k) → EdC E m' e 0 → K m') : TrV 131 [(1, 581), (1, t), (1, t + 54 + 2 * e)] m K := by
  have T2 := T.2.1
  have zr := zsz_rng T he
  have ce := Tt.2.2.2.2.2.2.2.1 e he.1 he.2
  have tt := Tt.1
  have n1 : ∀ m1 : Mm, (∀ x k, x ≠ 584 → m1 x k = m x k) → m1 (t + 54 + 2 * e) 1 = zsz (E 602) e := fun m1 f => by
    have := T.2.2.1
    rw [f _ _ (by omega)]
    exact ce.2.1
  have r1 : ∀ m1 : Mm, (∀ x k, x ≠ 584 → m1 x k = m x k) → m1 t 5 = E 602 578 := fun m1 f => by rw [f _ _ (by omega)]; exact Tt.2.1
  have cT : ∀ m1 : Mm, (∀ x k, x ≠ 584 → m1 x k = m x k) → CT E m1 t := fun m1 f => Tt.fr T fun x k x0 x1 => f x k (by omega)
  refine e131 _ _ Tt.shp ce.1 ?_
  have outer : ∀ (n k : Nat) (m1 : Mm) (v4 v5 : aV), (k : Int) + n = zsz (E 602) e + 1 → (∀ x k, x ≠ 584 → m1 x k = m x k) → (∀ i last, 0 ≤ i → i < (k : Int) → 0 ≤ last → last ≤ E 602 578 → m1 584 (25 * i + last) = if RE (E 602) e 0 i (cdA (E 602) last) = true then 1 else 0) → X 131 2 [(1, 581), (1, t), (1, t + 54 + 2 * e), (0, (k : Int)), v4, v5] [] m1 (qV K) := by
    intro n
    induction n with
    | zero =>
      intro k m1 v4 v5 hk f I
      exact w131_2 _ _ _ v4 v5 Tt.shp ce.1 ⟨fun _ => kk m1 f fun i last i0 i1 l0 l1 => I i last i0 (by omega) l0 l1, fun h => absurd (show (k : Int) > m1 (t + 54 + 2 * e) 1 by rw [n1 m1 f]; omega) h⟩
    | succ n ih =>
      intro k m1 v4 v5 hk f I
      refine w131_2 _ _ _ v4 v5 Tt.shp ce.1 ⟨fun h => absurd h (by rw [n1 m1 f]; omega), fun _ => ?_⟩
      have inner : ∀ (j l : Nat) (m2 : Mm) (v5 : aV), (l : Int) + j = E 602 578 + 1 → (∀ x k, x ≠ 584 → m2 x k = m x k) → (∀ i last, 0 ≤ i → 0 ≤ last → last ≤ E 602 578 → (i < (k : Int) ∨ (i = k ∧ last < l)) → m2 584 (25 * i + last) = if RE (E 602) e 0 i (cdA (E 602) last) = true then 1 else 0) → X 131 13 [(1, 581), (1, t), (1, t + 54 + 2 * e), (0, (k : Int)), (0, (l : Int)), v5] [] m2 (qV K) := by
        intro j
        induction j with
        | zero =>
          intro l m2 v5 hl f2 I2
          refine w131_13 _ _ _ _ v5 Tt.shp ce.1 ⟨fun _ => ?_, fun h => absurd (show (l : Int) > m2 t 5 by rw [r1 m2 f2]; omega) h⟩
          rw [wrI (x := (k : Int) + 1) (by omega) (by omega)]
          exact ih (k + 1) m2 _ v5 (by omega) f2 fun i last i0 i1 l0 l1 => I2 i last i0 l0 l1 (by omega)
        | succ j ihj =>
          intro l m2 v5 hl f2 I2
          have hll : 0 ≤ (l : Int) ∧ (l : Int) ≤ E 602 578 := by omega
          have al := ahd_let T (cT m2 f2) hll (c := 0) (by decide)
          rw [show nxE 0 = -1 from rfl] at al
          have q : wr (wr ((k : Int) * 25) + l) = 25 * (k : Int) + l := by
            rw [wrI (x := (k : Int) * 25) (by omega) (by omega), wrI (by omega) (by omega)]
            omega
          have qi : 0 ≤ 25 * (k : Int) + l ∧ 25 * (k : Int) + l < 225 := by clear q; omega
          have ql : wr ((l : Int) + 1) = ((l + 1 : Nat) : Int) := wrI (by clear q; omega) (by clear q; omega)
          have st : ∀ s0 : Int, s0 = (if RE (E 602) e 0 k (cdA (E 602) l) = true then 1 else 0) → X 131 48 [(1, 581), (1, t), (1, t + 54 + 2 * e), (0, (k : Int)), (0, (l : Int)), v5] [(0, s0)] m2 (qV K) := by
            intro s0 hs
            refine w131_48 _ _ _ _ v5 _ Tt.shp ce.1 ?_
            rw [q, ql]
            have go : ∀ m5 v, m5 = umem m2 584 (25 * (k : Int) + l) v → v = (if RE (E 602) e 0 k (cdA (E 602) l) = true then 1 else 0) → X 131 13 [(1, 581), (1, t), (1, t + 54 + 2 * e), (0, (k : Int)), (0, ((l + 1 : Nat) : Int)), (0, s0)] [] m5 (qV K) := fun m5 v e5 hv => by
              refine ihj (l + 1) m5 _ (by clear q ql; omega) (fun x k hn => by rw [e5, um_x hn]; exact f2 x k hn) fun i last i0 l0 l1 h => ?_
              by_cases hx : i = k ∧ last = l
              · rw [hx.1, hx.2, e5, um_s]
                exact hv
              · rw [e5, um_k (by clear q ql; omega)]
                exact I2 i last i0 l0 l1 (by clear q ql; omega)
            refine ⟨fun h => ⟨qi, fun m5 e5 => go m5 0 e5 (h.symm.trans hs)⟩, fun h => ⟨qi, fun m9 e9 => go m9 1 e9 ?_⟩⟩
            split at hs
            · rw [if_pos ‹_›]
            · exact absurd hs h
          clear q ql
          have hRE : RE (E 602) e 0 k (cdA (E 602) l) = (decide ((k : Int) = zsz (E 602) e) && letB (cdA (E 602) l) (-1)) := rfl
          refine w131_13 _ _ _ _ v5 Tt.shp ce.1 ⟨fun h => absurd h (by rw [r1 m2 f2]; omega), fun _ => ⟨fun h => ⟨⟨Tt.shp, hll.1, by omega⟩, fun h2 => st 1 ?_, fun h2 => st 0 ?_⟩, fun h => st 0 ?_⟩⟩
          · rw [n1 m2 f2] at h
            rw [hRE, if_pos (by rw [Bool.and_eq_true, decide_eq_true_eq]; exact ⟨h, al.mp h2⟩)]
          · rw [hRE, if_neg (by rw [Bool.and_eq_true]; exact fun z => h2 (al.mpr z.2))]
          · rw [n1 m2 f2] at h
            rw [hRE, if_neg (by rw [Bool.and_eq_true, decide_eq_true_eq]; exact fun z => h z.1)]
      exact inner (E 602 578 + 1).toNat 0 m1 v5 (by omega) f fun i last i0 l0 l1 h => I i last i0 (by omega) l0 l1
  exact outer (zsz (E 602) e + 1).toNat 0 m (9, 0) (9, 0) (by omega) (fun _ _ _ => rfl) fun i last i0 i1 l0 l1 => by omega
theorem c134 {E m : Mm} {K : Mm → Prop} {t e : Int} {d : Nat} (T : InvT E) (Tt : CT E m t) (he : 0 ≤ e ∧ e < E 602 579) (hd : d < 8) (Ed : EdC E m e d) (kk : ∀ m', (∀ x k, x ≠ 584 + ((d + 1 : Nat) : Int) → m' x k = m x k) → EdC E m' e (d + 1) → K m') : TrV 134 [(1, 581), (1, t), (1, t + 54 + 2 * e), (0, ((d + 1 : Nat) : Int))] m K := by
  have T2 := T.2.1
  have zr := zsz_rng T he
  have ce := Tt.2.2.2.2.2.2.2.1 e he.1 he.2
  have tt := Tt.1
  have T3 := T.2.2.1
  obtain ⟨y, hy⟩ : ∃ y, y = 584 + ((d + 1 : Nat) : Int) := ⟨_, rfl⟩
  rw [← hy] at kk
  have fr1 : ∀ m1 : Mm, (∀ x k, x ≠ y → m1 x k = m x k) → m1 (t + 54 + 2 * e) 1 = zsz (E 602) e := fun m1 f => by
    rw [f _ _ (by omega)]
    exact ce.2.1
  have r1 : ∀ m1 : Mm, (∀ x k, x ≠ y → m1 x k = m x k) → m1 t 5 = E 602 578 := fun m1 f => by rw [f _ _ (by omega)]; exact Tt.2.1
  have cT : ∀ m1 : Mm, (∀ x k, x ≠ y → m1 x k = m x k) → CT E m1 t := fun m1 f => Tt.fr T fun x k x0 x1 => f x k (by omega)
  refine e134 _ _ _ Tt.shp ce.1 ?_
  have outer : ∀ (n k : Nat) (m1 : Mm) (v5 v6 v7 v8 : aV), (k : Int) + n = zsz (E 602) e + 1 → (∀ x k, x ≠ y → m1 x k = m x k) → (∀ i last, 0 ≤ i → i < (k : Int) → 0 ≤ last → last ≤ E 602 578 → m1 y (25 * i + last) = if RE (E 602) e (d + 1) i (cdA (E 602) last) = true then 1 else 0) → X 134 3 [(1, 581), (1, t), (1, t + 54 + 2 * e), (0, ((d + 1 : Nat) : Int)), (0, (k : Int)), v5, v6, v7, v8] [] m1 (qV K) := by
    intro n
    induction n with
    | zero =>
      intro k m1 v5 v6 v7 v8 hk f I
      exact w134_3 _ _ _ _ v5 v6 v7 v8 Tt.shp ce.1 ⟨fun _ => kk m1 f fun i last i0 i1 l0 l1 => by rw [← hy]; exact I i last i0 (by omega) l0 l1, fun h => absurd (show (k : Int) > m1 (t + 54 + 2 * e) 1 by rw [fr1 m1 f]; omega) h⟩
    | succ n ih =>
      intro k m1 v5 v6 v7 v8 hk f I
      refine w134_3 _ _ _ _ v5 v6 v7 v8 Tt.shp ce.1 ⟨fun h => absurd h (by rw [fr1 m1 f]; omega), fun _ => ?_⟩
      have kE : 0 ≤ (k : Int) ∧ (k : Int) ≤ zsz (E 602) e := by omega
      have inner : ∀ (j l : Nat) (m2 : Mm) (v6 v7 v8 : aV), (l : Int) + j = E 602 578 + 1 → (∀ x k, x ≠ y → m2 x k = m x k) → (∀ i last, 0 ≤ i → 0 ≤ last → last ≤ E 602 578 → (i < (k : Int) ∨ (i = k ∧ last < l)) → m2 y (25 * i + last) = if RE (E 602) e (d + 1) i (cdA (E 602) last) = true then 1 else 0) → X 134 15 [(1, 581), (1, t), (1, t + 54 + 2 * e), (0, ((d + 1 : Nat) : Int)), (0, (k : Int)), (0, (l : Int)), v6, v7, v8] [] m2 (qV K) := by
        intro j
        induction j with
        | zero =>
          intro l m2 v6 v7 v8 hl f2 I2
          refine w134_15 _ _ _ _ _ v6 v7 v8 Tt.shp ce.1 ⟨fun _ => ?_, fun h => absurd (show (l : Int) > m2 t 5 by rw [r1 m2 f2]; omega) h⟩
          rw [wrI (x := (k : Int) + 1) (by omega) (by omega)]
          exact ih (k + 1) m2 _ v6 v7 v8 (by omega) f2 fun i last i0 i1 l0 l1 => I2 i last i0 l0 l1 (by omega)
        | succ j ihj =>
          intro l m2 v6 v7 v8 hl f2 I2
          have hll : 0 ≤ (l : Int) ∧ (l : Int) ≤ E 602 578 := by omega
          have q : wr (wr ((k : Int) * 25) + l) = 25 * (k : Int) + l := by
            rw [wrI (x := (k : Int) * 25) (by omega) (by omega), wrI (by omega) (by omega)]
            omega
          have qi : 0 ≤ 25 * (k : Int) + l ∧ 25 * (k : Int) + l < 225 := by clear q; omega
          have ql : wr ((l : Int) + 1) = ((l + 1 : Nat) : Int) := wrI (by clear q; omega) (by clear q; omega)
          refine w134_15 _ _ _ _ _ v6 v7 v8 Tt.shp ce.1 ⟨fun h => absurd h (by rw [r1 m2 f2]; clear q ql; omega), fun _ => ?_⟩
          rw [q]
          refine ⟨by clear q ql; omega, qi, fun m7 e7 => ?_⟩
          rw [← hy] at e7
          -- by which bytes one can go on
          have bys : ∀ (n b : Nat) (m3 : Mm) (v8 : aV), (b : Int) + n = E 602 578 + 1 → (∀ x s, x ≠ y → m3 x s = m x s) → (∀ s, ¬ s = 25 * (k : Int) + l → m3 y s = m2 y s) → ((m3 y (25 * (k : Int) + l) = 1 ∧ ∃ b', 0 ≤ b' ∧ b' < (b : Int) ∧ nxB (E 602) e k (cdA (E 602) l) b' = true ∧ RE (E 602) e d (nxK (E 602) k b') (cdA (E 602) b') = true) ∨ (m3 y (25 * (k : Int) + l) = 0 ∧ ∀ b', 0 ≤ b' → b' < (b : Int) → ¬ (nxB (E 602) e k (cdA (E 602) l) b' = true ∧ RE (E 602) e d (nxK (E 602) k b') (cdA (E 602) b') = true))) → X 134 47 [(1, 581), (1, t), (1, t + 54 + 2 * e), (0, ((d + 1 : Nat) : Int)), (0, (k : Int)), (0, (l : Int)), (0, 25 * (k : Int) + l), (0, (b : Int)), v8] [] m3 (qV K) := by
            intro n
            induction n with
            | zero =>
              intro b m3 v8 hb f3 g3 J3
              refine w134_47 _ _ _ _ _ _ _ v8 Tt.shp ce.1 ⟨fun _ => ?_, fun h => absurd (show (b : Int) > m3 t 5 by rw [r1 m3 f3]; clear q ql; omega) h⟩
              rw [ql]
              refine ihj (l + 1) m3 _ _ _ (by clear q ql; omega) f3 fun i last i0 l0 l1 h => ?_
              by_cases hx : i = k ∧ last = l
              · rw [hx.1, hx.2]
                rcases J3 with ⟨j1, b', j2, j3, j4⟩ | ⟨j1, j2⟩
                · rw [j1, if_pos ((RE_by T2.1).mpr ⟨b', j2, by clear q ql; omega, j4⟩)]
                · rw [j1, if_neg (fun z => by
                    obtain ⟨b', b0, b1, b2⟩ := (RE_by T2.1).mp z
                    exact j2 b' b0 (by clear q ql; omega) b2)]
              · rw [g3 _ (by clear q ql; omega)]
                exact I2 i last i0 l0 l1 (by clear q ql; omega)
            | succ n ihb =>
              intro b m3 v8 hb f3 g3 J3
              have hbb : 0 ≤ (b : Int) ∧ (b : Int) ≤ E 602 578 := by clear q ql; omega
              have qb : wr ((b : Int) + 1) = ((b + 1 : Nat) : Int) := wrI (by clear q ql; omega) (by clear q ql; omega)
              have qd : wr (((d + 1 : Nat) : Int) - 1) = (d : Int) := by
                rw [wrI (by clear q ql qb; omega) (by clear q ql qb; omega)]
                clear q ql qb
                omega
              refine w134_47 _ _ _ _ _ _ _ v8 Tt.shp ce.1 ⟨fun h => absurd h (by rw [r1 m3 f3]; clear q ql qb qd; omega), fun _ => ?_⟩
              rw [qb, qd]
              clear qb qd
              refine c135 T (cT m3 f3) he kE hll hbb (fun hx => ?_) (fun hx => ?_)
              · have nr := nx_rng T he kE.1 hbb hx
                have qn : 0 ≤ 25 * nxK (E 602) k b + b ∧ 25 * nxK (E 602) k b + (b : Int) < 225 := by clear q ql; omega
                have ev : m3 (584 + (d : Int)) (25 * nxK (E 602) k b + b) = if RE (E 602) e d (nxK (E 602) k b) (cdA (E 602) b) = true then 1 else 0 := by
                  rw [f3 _ _ (by clear q ql; omega)]
                  exact Ed _ _ nr.1.1 nr.1.2 hbb.1 hbb.2
                refine ⟨fun h => absurd h (by clear q ql; omega), fun _ => ⟨by clear q ql; omega, qn, fun h1 => ⟨by clear q ql; omega, qi, fun m18 e18 => ?_⟩, fun h1 => ?_⟩⟩
                · rw [← hy] at e18
                  rw [ev] at h1
                  have hRE : RE (E 602) e d (nxK (E 602) k b) (cdA (E 602) b) = true := by
                    split at h1
                    · assumption
                    · exact absurd h1 (by decide)
                  refine ihb (b + 1) m18 _ (by clear q ql; omega) (fun x s hn => by rw [e18, um_x hn]; exact f3 x s hn) (fun s hs => by rw [e18, um_k hs]; exact g3 s hs) (Or.inl ⟨by rw [e18, um_s], b, hbb.1, by clear q ql; omega, hx, hRE⟩)
                · rw [ev] at h1
                  have hRE : ¬ RE (E 602) e d (nxK (E 602) k b) (cdA (E 602) b) = true := fun z => h1 (by rw [if_pos z])
                  refine ihb (b + 1) m3 _ (by clear q ql; omega) f3 g3 ?_
                  rcases J3 with ⟨j1, b', j2, j3, j4⟩ | ⟨j1, j2⟩
                  · exact Or.inl ⟨j1, b', j2, by clear q ql; omega, j4⟩
                  · refine Or.inr ⟨j1, fun b' b0 b1 z => ?_⟩
                    by_cases hbe : b' = b
                    · rw [hbe] at z
                      exact hRE z.2
                    · exact j2 b' b0 (by clear q ql; omega) z
              · refine ⟨fun _ => ?_, fun h => absurd (by decide) h⟩
                refine ihb (b + 1) m3 _ (by clear q ql; omega) f3 g3 ?_
                rcases J3 with ⟨j1, b', j2, j3, j4⟩ | ⟨j1, j2⟩
                · exact Or.inl ⟨j1, b', j2, by clear q ql; omega, j4⟩
                · refine Or.inr ⟨j1, fun b' b0 b1 z => ?_⟩
                  by_cases hbe : b' = b
                  · rw [hbe] at z
                    exact hx z.1
                  · exact j2 b' b0 (by clear q ql; omega) z
          exact bys (E 602 578 + 1).toNat 0 m7 v8 (by clear q ql; omega) (fun x s hn => by rw [e7, um_x hn]; exact f2 x s hn) (fun s hs => by rw [e7, um_k hs]) (Or.inr ⟨by rw [e7, um_s], fun b' b0 b1 => by clear q ql; omega⟩)
      exact inner (E 602 578 + 1).toNat 0 m1 v6 v7 v8 (by omega) f fun i last i0 l0 l1 h => I i last i0 (by omega) l0 l1
  exact outer (zsz (E 602) e + 1).toNat 0 m (9, 0) (9, 0) (9, 0) (9, 0) (by omega) (fun _ _ _ => rfl) fun i last i0 i1 l0 l1 => by omega
/-- clear(137) -/
theorem b_slot {x s : Int} (hx : x = 593 ∨ x = 594) (hs : 0 ≤ s ∧ s < 225) : shp x = 2 ∧ slot x s = some none := by
  have h1 : ∀ s : Nat, s < 225 → slot 593 (s : Int) = some none := by decide +kernel
  have h2 : ∀ s : Nat, s < 225 → slot 594 (s : Int) = some none := by decide +kernel
  obtain ⟨a, rfl⟩ := Int.eq_ofNat_of_zero_le hs.1
  rcases hx with rfl | rfl
  · exact ⟨by decide +kernel, h1 a (by omega)⟩
  · exact ⟨by decide +kernel, h2 a (by omega)⟩
theorem c137 {m : Mm} {K : Mm → Prop} {x : Int} (hx : x = 593 ∨ x = 594) (kk : ∀ m', (∀ y k, y ≠ x → m' y k = m y k) → (∀ s, 0 ≤ s → s < 225 → m' x s = 0) → K m') : TrV 137 [(1, x)] m K := by
  refine e137 _ ?_
  have loop : ∀ (n s : Nat) (m1 : Mm), s + n = 225 → (∀ y k, y ≠ x → m1 y k = m y k) → (∀ i : Int, 0 ≤ i → i < s → m1 x i = 0) → X 137 2 [(1, x), (0, (s : Int))] [] m1 (qV K) := by
    intro n
    induction n with
    | zero =>
      intro s m1 hs f Z
      exact w137_2 _ _ ⟨fun h => absurd h (by omega), fun _ => kk m1 f fun i i0 i1 => Z i i0 (by omega)⟩
    | succ n ih =>
      intro s m1 hs f Z
      refine w137_2 _ _ ⟨fun _ => ⟨by omega, b_slot hx (by omega), fun m7 e7 => ?_⟩, fun h => absurd (show (s : Int) < 225 by omega) h⟩
      rw [wrI (x := (s : Int) + 1) (by omega) (by omega)]
      refine ih (s + 1) m7 (by omega) (fun y k hn => by rw [e7, um_x hn]; exact f y k hn) fun i i0 i1 => ?_
      by_cases hi : i = s
      · rw [hi, e7, um_s]
      · rw [e7, um_k hi]
        exact Z i i0 (by omega)
  exact loop 225 0 m (by decide) (fun _ _ _ => rfl) fun i i0 i1 => by omega
