/-! the reference: firstBy(269), laysShortest(264); shortest, shortByte on both sides -/
theorem ord_at : ∀ k : Nat, k < 9 → (0 ≤ sgN (cs 621 (k : Int)) ∧ sgN (cs 621 (k : Int)) < 10) ∧ byB (32 + sgN (cs 621 (k : Int))) = cs 621 (k : Int) ∧ cs 621 (k : Int) < 97 := by decide +kernel
theorem ord_le : ∀ k : Nat, k < 9 → ∀ s : Nat, s < 10 → (List.range k).any (fun i => decide (cs 600 (s : Int) = cs 621 (i : Int))) = true ∨ cs 621 (k : Int) ≤ cs 600 (s : Int) := by decide +kernel
theorem ord_all : ∀ s : Nat, s < 10 → (List.range 9).any (fun i => decide (cs 600 (s : Int) = cs 621 (i : Int))) = true ∨ cs 600 (s : Int) = 126 := by decide +kernel
theorem ra_ex {k : Nat} {v : Int} (h : (List.range k).any (fun i => decide (v = cs 621 (i : Int))) = true) : ∃ i : Nat, i < k ∧ v = cs 621 (i : Int) := by
  rw [List.any_eq_true] at h
  obtain ⟨i, h1, h2⟩ := h
  exact ⟨i, List.mem_range.mp h1, of_decide_eq_true h2⟩
theorem go_val {E m : Mm} {e x u : Int} {d : Nat} {H : hS} (T : InvT E) (he : 0 ≤ e ∧ e < E 602 579) (R : RepR E m e x H) (h : goS (E 602) e d H u) : (97 ≤ u ∧ u ≤ 122) ∨ ∃ s : Nat, s < 10 ∧ u = cs 600 (s : Int) := by
  obtain ⟨k, c, b, hH, hb, hx, hR, rfl⟩ := h
  have hk := ((R.2 k c).mp hH).1
  unfold nxB at hx
  unfold byT
  by_cases h0 : b = 0
  · rw [if_pos h0, Bool.and_eq_true, decide_eq_true_eq] at hx
    rw [if_pos h0]
    have := zL_rng T he ⟨hk.1, hx.1⟩
    exact Or.inl (by omega)
  · rw [if_neg h0]
    have hs := (T.2.2.2.2.2.2.1 (b - 1) (by omega) (by omega)).2.2.1
    exact Or.inr ⟨(E 602 (11 * (b - 1))).toNat, by omega, congrArg (cs 600) (by omega)⟩
theorem c269 {E m : Mm} {K : Int → Mm → Prop} {e : Int} {d : Nat} {H : hS} (T : InvT E) (A : Ag E m) (he : 0 ≤ e ∧ e < E 602 579) (hd : d < 9) (Rd : ReM E m e d) (R : RepR E m e 623 H) (hex : ∃ u, goS (E 602) e d H u)
    (kk : ∀ m' ib, (∀ x k, x ≠ 624 → m' x k = m x k) → ((0 ≤ ib ∧ ib < 26) ∨ (32 ≤ ib ∧ ib < 42)) → lsT (E 602) e d H (byB ib) → RepR E m' e 624 (stp (E 602) e d H (byB ib)) → K ib m') : TrI 269 [(1, 597), (0, e), (0, (d : Int))] m K := by
  have fA : ∀ m1 : Mm, (∀ x k, x ≠ 624 → m1 x k = m x k) → Ag E m1 := fun m1 f => A.fr fun x k hp => by
    unfold per at hp
    exact f x k (by omega)
  have fR : ∀ m1 : Mm, (∀ x k, x ≠ 624 → m1 x k = m x k) → ReM E m1 e d := fun m1 f k c k0 k1 c0 c1 => by
    rw [f _ _ (by decide)]
    exact Rd k c k0 k1 c0 c1
  have f3 : ∀ m1 : Mm, (∀ x k, x ≠ 624 → m1 x k = m x k) → RepR E m1 e 623 H := fun m1 f => by
    have h : ∀ s, m1 623 s = m 623 s := fun s => f _ _ (by decide)
    unfold RepR
    simp only [h]
    exact R
  refine e269 _ _ ?_
  have letters : ∀ (n l : Nat) (m1 : Mm) (v4 : aV), l + n = 26 → (∀ x k, x ≠ 624 → m1 x k = m x k) → (∀ i : Nat, i < 9 → ¬ goS (E 602) e d H (cs 621 (i : Int))) → (∀ i : Int, 0 ≤ i → i < l → ¬ goS (E 602) e d H (97 + i)) → X 269 45 [(1, 597), (0, e), (0, (d : Int)), (0, (l : Int)), v4] [] m1 (qI K) := by
    intro n
    induction n with
    | zero =>
      intro l m1 v4 hl f hs hall
      refine w269_45 _ _ _ v4 ⟨fun h => absurd h (by omega), fun _ => ?_⟩
      have hb : byB 32 = 126 := by decide +kernel
      have only : ∀ u, goS (E 602) e d H u → u = 126 := fun u hu => by
        rcases go_val T he R hu with h | ⟨s, h1, h2⟩
        · have := hall (u - 97) (by omega) (by omega)
          rw [show 97 + (u - 97) = u by omega] at this
          exact absurd hu this
        · rcases ord_all s h1 with h | h
          · obtain ⟨i, i1, i2⟩ := ra_ex h
            rw [h2, i2] at hu
            exact absurd hu (hs i i1)
          · rw [h2, h]
      refine c270 T (fA m1 f) he hd (Or.inr (by decide)) (fR m1 f) (f3 m1 f) (fun m3 f13 g R3 => ⟨fun h => absurd h (by decide), fun _ => ?_⟩) (fun m3 f13 g => ⟨fun _ => ?_, fun h => absurd rfl h⟩)
      · refine kk m3 32 (fun x k hn => (f13 x k hn).trans (f x k hn)) (Or.inr (by decide)) ⟨g, fun u hu => ?_⟩ R3
        rw [only u hu, hb]
        exact Int.le_refl _
      · obtain ⟨u, hu⟩ := hex
        rw [hb, ← only u hu] at g
        exact absurd hu g
    | succ n ih =>
      intro l m1 v4 hl f hs hall
      have hll : 0 ≤ (l : Int) ∧ (l : Int) < 26 := by omega
      have hb : byB (l : Int) = 97 + l := if_pos (by omega)
      refine w269_45 _ _ _ v4 ⟨fun _ => ?_, fun h => absurd hll.2 h⟩
      refine c270 T (fA m1 f) he hd (Or.inl hll) (fR m1 f) (f3 m1 f) (fun m3 f13 g R3 => ⟨fun h => absurd h (by decide), fun _ => ?_⟩) (fun m3 f13 g => ⟨fun _ => ?_, fun h => absurd rfl h⟩)
      · refine kk m3 l (fun x k hn => (f13 x k hn).trans (f x k hn)) (Or.inl hll) ⟨g, fun u hu => ?_⟩ R3
        rw [hb]
        rcases go_val T he R hu with h | ⟨s, h1, h2⟩
        · apply Classical.byContradiction
          intro hn
          have := hall (u - 97) (by omega) (by omega)
          rw [show 97 + (u - 97) = u by omega] at this
          exact this hu
        · rcases ord_all s h1 with h | h
          · obtain ⟨i, i1, i2⟩ := ra_ex h
            rw [h2, i2] at hu
            exact absurd hu (hs i i1)
          · rw [h2, h]
            omega
      · rw [wrI (x := (l : Int) + 1) (by omega) (by omega)]
        refine ih (l + 1) m3 _ (by omega) (fun x k hn => (f13 x k hn).trans (f x k hn)) hs fun i i0 i1 => ?_
        by_cases hi : i = l
        · rw [hi, ← hb]
          exact g
        · exact hall i i0 (by omega)
  have signs : ∀ (n k : Nat) (m1 : Mm) (v4 : aV), k + n = 9 → (∀ x k, x ≠ 624 → m1 x k = m x k) → (∀ i : Nat, i < k → ¬ goS (E 602) e d H (cs 621 (i : Int))) → X 269 2 [(1, 597), (0, e), (0, (d : Int)), (0, (k : Int)), v4] [] m1 (qI K) := by
    intro n
    induction n with
    | zero =>
      intro k m1 v4 hk f hall
      refine w269_2 _ _ _ v4 ⟨fun h => absurd h (by omega), fun _ => ?_⟩
      exact letters 26 0 m1 v4 (by decide) f (fun i hi => hall i (by omega)) fun i i0 i1 => by omega
    | succ n ih =>
      intro k m1 v4 hk f hall
      obtain ⟨o1, o2, o3⟩ := ord_at k (by omega)
      refine w269_2 _ _ _ v4 ⟨fun _ => ⟨by omega, c176 ?_⟩, fun h => absurd (show (k : Int) < 9 by omega) h⟩
      rw [wrI (x := 32 + sgN (cs 621 (k : Int))) (by omega) (by omega)]
      refine c270 T (fA m1 f) he hd (Or.inr (by omega)) (fR m1 f) (f3 m1 f) (fun m3 f13 g R3 => ⟨fun h => absurd h (by decide), fun _ => ?_⟩) (fun m3 f13 g => ⟨fun _ => ?_, fun h => absurd rfl h⟩)
      · refine kk m3 _ (fun x k hn => (f13 x k hn).trans (f x k hn)) (Or.inr (by omega)) ⟨g, fun u hu => ?_⟩ R3
        rw [o2]
        rcases go_val T he R hu with h | ⟨s, h1, h2⟩
        · omega
        · rcases ord_le k (by omega) s h1 with h | h
          · obtain ⟨i, i1, i2⟩ := ra_ex h
            rw [h2, i2] at hu
            exact absurd hu (hall i i1)
          · rw [h2]
            exact h
      · rw [wrI (x := (k : Int) + 1) (by omega) (by omega)]
        refine ih (k + 1) m3 _ (by omega) (fun x k hn => (f13 x k hn).trans (f x k hn)) fun i hi => ?_
        by_cases hik : i = k
        · rw [hik, ← o2]
          exact g
        · exact hall i (by omega)
  exact signs 9 0 m (9, 0) (by decide) (fun _ _ _ => rfl) fun i hi => by omega
def f264 (m m' : Mm) : Prop := ∀ x k, ¬ (620 ≤ x ∧ x ≤ 624) → m' x k = m x k
theorem f264.ag {E m m' : Mm} (f : f264 m m') (A : Ag E m) : Ag E m' := A.fr fun x k hp => by
  unfold per at hp
  exact f x k (by omega)
theorem f264.g {m m' : Mm} (f : f264 m m') : gR m m' := fun x k n1 n2 => f x k (by omega)
theorem c264 {E m : Mm} {K : Int → Mm → Prop} {e : Int} (T : InvT E) (A : Ag E m) (he : 0 ≤ e ∧ e < E 602 579)
    (kk : ∀ m', f264 m m' → (shS (E 602) e).length ≤ 8 → (∀ i (h : i < (shS (E 602) e).length), ((0 ≤ m' 622 (i : Int) ∧ m' 622 (i : Int) < 26) ∨ (32 ≤ m' 622 (i : Int) ∧ m' 622 (i : Int) < 42)) ∧ byB (m' 622 (i : Int)) = (shS (E 602) e)[i]) → K ((shS (E 602) e).length) m') : TrI 264 [(1, 597), (0, e)] m K := by
  have T2 := T.2.1
  have T3 := T.2.2.1
  have zr := zsz_rng T he
  refine e264 _ (c265 T A he fun m1 f1 R1 => ?_)
  have f1' : f264 m m1 := fun x k hn => f1 x k (by omega)
  -- the fewest bytes
  obtain ⟨z, hz⟩ : ∃ z : Nat, (z : Int) = zsz (E 602) e := ⟨(zsz (E 602) e).toNat, by omega⟩
  have own : RE (E 602) e z 0 0 = true := RE_own T he z 0 (Int.le_refl _) (by omega)
  have first : ∀ (n N : Nat), N + n = z → 1 ≤ N → (∀ d : Nat, d < N → ¬ RE (E 602) e d 0 0 = true) → X 264 7 [(1, 597), (0, e), (0, (N : Int)), (9, 0), (9, 0)] [] m1 (qI K) := by
    -- behind it: the bytes, one by one
    have spells : ∀ N : Nat, N ≤ z → RE (E 602) e N 0 0 = true → (∀ d : Nat, d < N → ¬ RE (E 602) e d 0 0 = true) → X 264 29 [(1, 597), (0, e), (0, (N : Int)), (0, 0), (9, 0)] [] m1 (qI K) := by
      intro N hNz hRE hno
      have bytes : ∀ (rem j : Nat) (m2 : Mm) (H : hS) (pre : List Int) (v4 : aV), j + rem = N → (∀ x k, ¬ (622 ≤ x ∧ x ≤ 624) → m2 x k = m1 x k) → RepR E m2 e 623 H → (∃ k c, H k c ∧ RE (E 602) e rem k c = true) → pre.length = j → (∀ i (h : i < pre.length), ((0 ≤ m2 622 (i : Int) ∧ m2 622 (i : Int) < 26) ∨ (32 ≤ m2 622 (i : Int) ∧ m2 622 (i : Int) < 42)) ∧ byB (m2 622 (i : Int)) = pre[i]) → (∀ tl, Sp (E 602) e rem H tl → Sp (E 602) e N H0 (pre ++ tl)) → X 264 59 [(1, 597), (0, e), (0, (N : Int)), (0, (j : Int)), v4] [] m2 (qI K) := by
        intro rem
        induction rem with
        | zero =>
          intro j m2 H pre v4 hj f2 R2 hx hl B hS
          have hS' := hS [] rfl
          rw [List.append_nil] at hS'
          have hsh := shS_eq (T := E 602) (e := e) ⟨N, hRE, hno, by omega, hS'⟩
          refine w264_59 _ _ _ v4 ⟨fun h => absurd h (by omega), fun _ => ?_⟩
          have := kk m2 (fun x k hn => (f2 x k (by omega)).trans (f1' x k hn)) (by rw [hsh]; omega) (by rw [hsh]; exact B)
          rw [hsh, show pre.length = N by omega] at this
          exact this
        | succ d ih =>
          intro j m2 H pre v4 hj f2 R2 hx hl B hS
          have q : wr (wr ((N : Int) - 1) - j) = (d : Int) := by
            rw [wrI (x := (N : Int) - 1) (by omega) (by omega), wrI (by omega) (by omega)]
            omega
          have qj : wr ((j : Int) + 1) = ((j + 1 : Nat) : Int) := wrI (by clear q; omega) (by clear q; omega)
          refine w264_59 _ _ _ v4 ⟨fun _ => ?_, fun h => absurd (show (j : Int) < (N : Int) by clear q qj; omega) h⟩
          rw [q]
          clear q
          have A2 : Ag E m2 := (A.fr fun x k hp => by
            unfold per at hp
            rw [f2 x k (by omega)]
            exact f1 x k (by omega))
          have Rd : ReM E m2 e d := fun k c k0 k1 c0 c1 => by
            rw [f2 _ _ (by decide)]
            exact R1 d (by clear qj; omega) k c k0 k1 c0 c1
          have hex : ∃ u, goS (E 602) e d H u := by
            obtain ⟨k, c, hH, hR⟩ := hx
            obtain ⟨b, b0, b1, b2, b3⟩ := (RE_by T2.1).mp hR
            exact ⟨_, k, c, b, hH, ⟨b0, b1⟩, b2, b3, rfl⟩
          refine c269 T A2 he (by clear qj; omega) Rd R2 hex fun m3 ib f3 hib hls R3 => ⟨by clear qj; omega, fun m8 e8 => ?_⟩
          have copy : ∀ (n i : Nat) (m4 : Mm), i + n = 279 → (∀ x k, x ≠ 623 → m4 x k = m8 x k) → (∀ s : Int, 0 ≤ s → s < i → m4 623 s = m3 624 s) → X 264 83 [(1, 597), (0, e), (0, (N : Int)), (0, (j : Int)), (0, (i : Int))] [] m4 (qI K) := by
            intro n
            induction n with
            | zero =>
              intro i m4 hi f4 Cp
              refine w264_83 _ _ _ _ ⟨fun h => absurd h (by clear qj; omega), fun _ => ?_⟩
              rw [qj]
              have e3 : ∀ s, 0 ≤ s → s < 279 → m4 623 s = m3 624 s := fun s s0 s1 => Cp s s0 (by clear qj; omega)
              have e22 : ∀ s, m4 622 s = if s = j then ib else m2 622 s := fun s => by
                rw [f4 _ _ (by decide), e8]
                by_cases hs : s = j
                · rw [if_pos hs, hs, um_s]
                · rw [if_neg hs, um_k hs, f3 _ _ (by decide)]
              refine ih (j + 1) m4 (stp (E 602) e d H (byB ib)) (pre ++ [byB ib]) _ (by clear qj; omega) (fun x k hn => ?_) ?_ ?_ ?_ (fun i hi => ?_) fun tl htl => ?_
              · rw [f4 _ _ (by clear qj; omega), e8, um_x (by clear qj; omega), f3 _ _ (by clear qj; omega)]
                exact f2 x k hn
              · refine ⟨fun s s0 s1 => ?_, fun k c => ?_⟩
                · rw [e3 s s0 s1]
                  exact R3.1 s s0 s1
                · rw [R3.2 k c]
                  constructor
                  · rintro ⟨h1, h2, h3⟩
                    exact ⟨h1, h2, by rw [e3 _ (by clear qj; omega) (by clear qj; omega)]; exact h3⟩
                  · rintro ⟨h1, h2, h3⟩
                    exact ⟨h1, h2, by rw [← e3 _ (by clear qj; omega) (by clear qj; omega)]; exact h3⟩
              · obtain ⟨k, c, b, hH, hb, hnx, hRE', hby⟩ := hls.1
                exact ⟨_, _, ⟨k, c, b, hH, hb, hnx, hRE', hby, rfl, rfl⟩, hRE'⟩
              · rw [List.length_append, List.length_singleton]
                clear qj
                omega
              · rw [e22]
                rw [List.length_append, List.length_singleton] at hi
                by_cases hij : i = pre.length
                · subst hij
                  rw [if_pos (by clear qj; omega)]
                  refine ⟨hib, ?_⟩
                  simp
                · have hil : i < pre.length := by clear qj; omega
                  rw [if_neg (by clear qj; omega), List.getElem_append_left hil]
                  exact B i hil
              · rw [List.append_assoc]
                exact hS _ ⟨byB ib, tl, rfl, hls, htl⟩
            | succ n ihc =>
              intro i m4 hi f4 Cp
              have e4 : m4 624 i = m3 624 i := by rw [f4 _ _ (by decide), e8, um_x (by decide)]
              refine w264_83 _ _ _ _ ⟨fun _ => ⟨by clear qj; omega, ?_, fun m7 e7 => ?_⟩, fun h => absurd (show (i : Int) < 279 by clear qj; omega) h⟩
              · rw [e4]
                exact (R3.1 i (by clear qj; omega) (by clear qj; omega)).imp (fun h => h) fun h => h.1
              · rw [wrI (x := (i : Int) + 1) (by clear qj; omega) (by clear qj; omega)]
                rw [e4] at e7
                refine ihc (i + 1) m7 (by clear qj; omega) (fun x k hn => by rw [e7, um_x hn]; exact f4 x k hn) fun s s0 s1 => ?_
                by_cases hs : s = i
                · rw [hs, e7, um_s]
                · rw [e7, um_k hs]
                  exact Cp s s0 (by clear qj; omega)
          exact copy 279 0 m8 (by decide) (fun _ _ _ => rfl) fun s s0 s1 => by clear qj; omega
      have start : ∀ (n i : Nat) (m2 : Mm), i + n = 279 → (∀ x k, x ≠ 623 → m2 x k = m1 x k) → (∀ s : Int, 0 ≤ s → s < i → m2 623 s = if s = 0 then 1 else 0) → X 264 29 [(1, 597), (0, e), (0, (N : Int)), (0, (i : Int)), (9, 0)] [] m2 (qI K) := by
        intro n
        induction n with
        | zero =>
          intro i m2 hi f2 Z
          have e3 : ∀ s, 0 ≤ s → s < 279 → m2 623 s = if s = 0 then 1 else 0 := fun s s0 s1 => Z s s0 (by omega)
          refine w264_29 _ _ _ _ ⟨fun h => absurd h (by omega), fun _ => ?_⟩
          refine bytes N 0 m2 H0 [] (9, 0) (by omega) (fun x k hn => f2 x k (by omega)) ⟨fun s s0 s1 => ?_, fun k c => ?_⟩ ⟨0, 0, ⟨rfl, rfl⟩, hRE⟩ rfl (fun i h => absurd h (Nat.not_lt_zero i)) fun tl h => h
          · rw [e3 s s0 s1]
            by_cases hs : s = 0
            · rw [if_pos hs]
              exact Or.inr ⟨rfl, 0, 0, ⟨Int.le_refl _, by omega⟩, ⟨Int.le_refl _, by decide⟩, hs⟩
            · rw [if_neg hs]
              exact Or.inl rfl
          · constructor
            · rintro ⟨rfl, rfl⟩
              exact ⟨⟨Int.le_refl _, by omega⟩, ⟨Int.le_refl _, by decide⟩, by rw [e3 _ (by decide) (by decide)]; rfl⟩
            · rintro ⟨hk, hc, h1⟩
              rw [e3 _ (by omega) (by omega)] at h1
              have h0 : 31 * k + c = 0 := by
                split at h1
                · assumption
                · exact absurd h1 (by decide)
              exact ⟨by omega, by omega⟩
        | succ n ihs =>
          intro i m2 hi f2 Z
          have qi : Unit → wr ((i : Int) + 1) = ((i + 1 : Nat) : Int) := fun _ => wrI (by omega) (by omega)
          have next : ∀ (m7 : Mm) (v : Int), m7 = umem m2 623 (i : Int) v → v = (if (i : Int) = 0 then 1 else 0) → X 264 29 [(1, 597), (0, e), (0, (N : Int)), (0, ((i + 1 : Nat) : Int)), (9, 0)] [] m7 (qI K) := fun m7 v e7 hv => by
            refine ihs (i + 1) m7 (by omega) (fun x k hn => by rw [e7, um_x hn]; exact f2 x k hn) fun s s0 s1 => ?_
            by_cases hs : s = i
            · rw [hs, e7, um_s]
              exact hv
            · rw [e7, um_k hs]
              exact Z s s0 (by omega)
          refine w264_29 _ _ _ _ ⟨fun _ => ⟨fun h => ⟨by omega, fun m11 e11 => ?_⟩, fun h => ⟨by omega, fun m7 e7 => ?_⟩⟩, fun h => absurd (show (i : Int) < 279 by omega) h⟩
          · rw [qi ()]
            exact next m11 1 e11 (by rw [if_pos h])
          · rw [qi ()]
            exact next m7 0 e7 (by rw [if_neg h])
      exact start 279 0 m1 (by decide) (fun _ _ _ => rfl) fun s s0 s1 => by omega
    intro n
    induction n with
    | zero =>
      intro N hN h1 hno
      have hNz : N = z := by omega
      have ev : m1 620 (279 * (N : Int)) = 1 := by
        have := R1 N (by omega) 0 0 (Int.le_refl _) (by omega) (Int.le_refl _) (by decide)
        rw [hNz, if_pos own, ← hNz, show 279 * (N : Int) + 31 * 0 + 0 = 279 * (N : Int) by omega] at this
        exact this
      have q : wr (wr (wr (279 * (N : Int)) + wr (31 * 0)) + 0) = 279 * (N : Int) := by
        rw [wrI (x := 279 * (N : Int)) (by omega) (by omega), wrI (x := (31 : Int) * 0) (by decide) (by decide), wrI (x := 279 * (N : Int) + _) (by omega) (by omega), wrI (by omega) (by omega)]
        omega
      refine w264_7 _ _ _ _ ?_
      rw [q, ev]
      clear q
      refine ⟨by omega, fun h => absurd h (by decide), fun _ => spells N (by omega) (by rw [hNz]; exact own) hno⟩
    | succ n ih =>
      intro N hN h1 hno
      have ev : m1 620 (279 * (N : Int)) = if RE (E 602) e N 0 0 = true then 1 else 0 := by
        have := R1 N (by omega) 0 0 (Int.le_refl _) (by omega) (Int.le_refl _) (by decide)
        rw [show 279 * (N : Int) + 31 * 0 + 0 = 279 * (N : Int) by omega] at this
        exact this
      have q : wr (wr (wr (279 * (N : Int)) + wr (31 * 0)) + 0) = 279 * (N : Int) := by
        rw [wrI (x := 279 * (N : Int)) (by omega) (by omega), wrI (x := (31 : Int) * 0) (by decide) (by decide), wrI (x := 279 * (N : Int) + _) (by omega) (by omega), wrI (by omega) (by omega)]
        omega
      refine w264_7 _ _ _ _ ?_
      rw [q, ev]
      clear q
      refine ⟨by omega, fun h => ?_, fun h => ?_⟩
      · have hn : ¬ RE (E 602) e N 0 0 = true := fun y => by
          rw [if_pos y] at h
          exact absurd h (by decide)
        rw [wrI (x := (N : Int) + 1) (by omega) (by omega)]
        refine ih (N + 1) (by omega) (by omega) fun d hd => ?_
        by_cases hdN : d = N
        · rw [hdN]
          exact hn
        · exact hno d (by omega)
      · have hy : RE (E 602) e N 0 0 = true := by
          split at h
          · assumption
          · exact absurd rfl h
        exact spells N (by omega) hy hno
  refine first (z - 1) 1 (by omega) (Nat.le_refl _) fun d hd => ?_
  have : d = 0 := by omega
  subst this
  intro h
  have hRE : RE (E 602) e 0 0 0 = (decide ((0 : Int) = zsz (E 602) e) && letB 0 (-1)) := rfl
  rw [hRE, Bool.and_eq_true, decide_eq_true_eq] at h
  omega
section SH
variable {E m : Mm}
theorem p_shortest {e : Int} {K : Int → Int → Mm → Prop} (S : CS shS E m) (kk : ∀ F m' s, CS shS F m' → K s s m') : TrI 129 [(1, 1), (0, e)] m fun v1 m1 => TrI 263 [(1, 597), (0, e)] m1 fun v2 m2 => K v1 v2 m2 := by
  have B := S.b
  have T := B.t
  have T3 := T.2.2.1
  have rf : ∀ m0, CS shS E m0 → ∀ v, v = (if 0 ≤ e ∧ e < E 602 579 then ((shS (E 602) e).length : Int) else -1) → TrI 263 [(1, 597), (0, e)] m0 fun v2 m2 => K v v2 m2 := fun m0 S0 v hv => by
    refine e263 _ fun m1 e1 => ?_
    have S1 := S0.th e1
    have B1 := S1.b
    rw [B1.a.b.trans T.1, B1.a.e, in_w (by omega)]
    refine ⟨rfl, fun h => c264 T B1.a h fun m7 f7 _ _ => ?_, fun h => ?_⟩
    · rw [hv, if_pos h]
      exact kk E m7 _ (S1.gQ f7.g (by rw [f7 _ _ (by decide)]; exact B1.h0))
    · rw [hv, if_neg h]
      exact kk E m1 _ S1
  refine e129 _ ⟨B.sT, ?_⟩
  rw [B.en]
  refine ⟨fun h => c130 T B.ct h S.2.2.2.2 fun m5 f5 S5 l5 L5 _ => ?_, fun h => rf m S _ (by rw [if_neg h])⟩
  rw [l5]
  refine rf m5 ?_ _ (by rw [if_pos h])
  exact ⟨B.fr fun x k hp => by
      unfold per at hp
      exact f5 x k (by omega), RS.fr B S.r fun x k hp => f5 x k (by omega), S.ps.fr fun x k hp => f5 x k (by omega), S.to.fr B fun x k hp => f5 x k (by omega), S5⟩
theorem p_shortByte {e i : Int} {K : Int → Int → Mm → Prop} (S : CS shS E m) (kk : ∀ F m' s, CS shS F m' → K s s m') : TrI 140 [(1, 1), (0, e), (0, i)] m fun v1 m1 => TrI 271 [(1, 597), (0, e), (0, i)] m1 fun v2 m2 => K v1 v2 m2 := by
  have B := S.b
  have T := B.t
  have T3 := T.2.2.1
  have rf : ∀ m0, CS shS E m0 → ∀ v, v = (if 0 ≤ e ∧ e < E 602 579 then (if i < 0 then -1 else ltA (shS (E 602) e) 0 i) else -1) → TrI 271 [(1, 597), (0, e), (0, i)] m0 fun v2 m2 => K v v2 m2 := fun m0 S0 v hv => by
    refine e271 _ _ fun m1 e1 => ?_
    have S1 := S0.th e1
    have B1 := S1.b
    rw [B1.a.b.trans T.1, B1.a.e, in_w (by omega)]
    refine ⟨rfl, fun h => ⟨fun h2 => ?_, fun h2 => c264 T B1.a h fun m9 f9 l8 L9 => ?_⟩, fun h => ?_⟩
    · rw [hv, if_pos h, if_pos h2]
      exact kk E m1 _ S1
    · rw [if_pos h, if_neg h2] at hv
      have S9 := S1.gQ f9.g (by rw [f9 _ _ (by decide)]; exact B1.h0)
      refine ⟨fun h3 => ⟨by omega, ?_⟩, fun h3 => ?_⟩
      · have hl : i.toNat < (shS (E 602) e).length := by omega
        obtain ⟨h4, h5⟩ := L9 i.toNat hl
        rw [show ((i.toNat : Nat) : Int) = i by omega] at h4 h5
        refine c211 h4 ?_
        have : v = byB (m9 622 i) := by
          rw [hv, h5]
          unfold ltA
          rw [dif_pos hl]
          omega
        rw [this]
        exact kk E m9 _ S9
      · rw [hv, ltA_n (by omega) h3]
        exact kk E m9 _ S9
    · rw [hv, if_neg h]
      exact kk E m1 _ S1
  refine e140 _ _ ⟨B.sT, ?_⟩
  rw [B.en]
  refine ⟨fun h => ⟨fun h2 => rf m S _ (by rw [if_pos h, if_pos h2]), fun h2 => c130 T B.ct h S.2.2.2.2 fun m5 f5 S5 l5 L5 l8 => ?_⟩, fun h => rf m S _ (by rw [if_neg h])⟩
  have CS5 : CS shS E m5 := ⟨B.fr fun x k hp => by
      unfold per at hp
      exact f5 x k (by omega), RS.fr B S.r fun x k hp => f5 x k (by omega), S.ps.fr fun x k hp => f5 x k (by omega), S.to.fr B fun x k hp => f5 x k (by omega), S5⟩
  rw [l5]
  refine ⟨fun h3 => ⟨by omega, ?_⟩, fun h3 => ?_⟩
  · rw [ltA_y (by omega) h3 L5]
    exact rf m5 CS5 _ (by rw [if_pos h, if_neg h2])
  · exact rf m5 CS5 _ (by rw [if_pos h, if_neg h2, ltA_n (by omega) h3])
end SH
