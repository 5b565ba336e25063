/-! page, both sides -/
def ePg (E m : Mm) : Mm := fun x k => if x = 603 ∨ x = 604 ∨ x = 607 ∨ x = 597 then m x k else E x k
theorem ePg_m {E m : Mm} {x k : Int} (h : x = 603 ∨ x = 604 ∨ x = 607 ∨ x = 597) : ePg E m x k = m x k := if_pos h
theorem ePg_E {E m : Mm} {x k : Int} (h : ¬ (x = 603 ∨ x = 604 ∨ x = 607 ∨ x = 597)) : ePg E m x k = E x k := if_neg h
section PPG
variable {sh : (Int → Int) → Int → List Int} {E m m' : Mm}
theorem pgS_c {f : Int → Int} {n : Int} : ∀ (d : Nat) (G : Bk) (q w : Int), GI G → (w = 0 ∨ (w = 1 ∧ 1 ≤ G 0)) → OutR (fun _ _ => True) (fun _ c' => 0 ≤ c') (pgS f n d G q w) := by
  intro d
  induction d with
  | zero => exact fun G q w I _ => I.1.1
  | succ d ih =>
    intro G q w I hw
    unfold pgS
    split
    · split
      · exact ih G _ 0 I (Or.inl rfl)
      · split <;> rename_i hb
        · exact trivial
        · split <;> rename_i w0
          · split <;> rename_i h10
            · exact trivial
            · obtain ⟨W, s, a0, a1, a2, a3, a4, a5, a6, a7, a8, a9, a10, a11, a12, I'⟩ := I.app (G1 := pgN G) (Or.inr ⟨rfl, by omega⟩) (bc_rng hb)
              exact ih _ _ 1 I' (Or.inr ⟨rfl, by omega⟩)
          · split <;> rename_i h10
            · exact trivial
            · obtain ⟨W, s, a0, a1, a2, a3, a4, a5, a6, a7, a8, a9, a10, a11, a12, I'⟩ := I.app (G1 := G) (Or.inl ⟨rfl, by omega, by omega⟩) (bc_rng hb)
              exact ih _ _ 1 I' (Or.inr ⟨rfl, by omega⟩)
    · exact I.1.1
theorem CS.pg {G : Bk} {m1 m2 : Mm} (S : CS sh E m) (I : GI G) (C : PgC G m m1) (R : PgR G m1 m2) : CS sh (ePg E m2) m2 := by
  obtain ⟨BB, -, P, T, H⟩ := S
  obtain ⟨iT, Pg, W, A, b1, b2, b3, b4, b5, b6, b7, b8⟩ := id BB
  obtain ⟨c1, ⟨k1, k2, k3, k4, k5, k6, k8, k9⟩, CC, c5, c6⟩ := C
  obtain ⟨r1, ⟨l1, l2, l3, l5, l6, l7⟩, r3, r5⟩ := R
  have t3 := b3.1
  have p5 := b5.1
  have I1 := I.1
  have T2 := iT.2.1
  have T3 := iT.2.2.1
  have cls : ∀ x k, x < 597 → m2 x k = m1 x k := fun x k h => r1 x k (by omega) (by omega) (by omega) (by omega) (by omega) (by omega)
  have keep : ∀ x k, ¬ (x = 1 ∧ (k = 1 ∨ k = 5 ∨ k = 6 ∨ k = 17)) → x ≠ 3 → ¬ (210 ≤ x ∧ x < 280) → x ≠ 283 → ¬ (x = 284 ∧ (k = 2 ∨ k = 3)) → x ≠ 595 → ¬ (x = 597 ∧ (k = 0 ∨ (2 ≤ k ∧ k ≤ 5) ∨ k = 8 ∨ k = 23 ∨ k = 25 ∨ k = 26)) → ¬ (603 ≤ x ∧ x ≤ 606) → ¬ (x = 607 ∧ 48 ≤ k ∧ k < 58) → m2 x k = m x k := fun x k h1 h2 h3 h4 h5 h6 h7 h8 h9 => by
    rw [r1 x k h7 (by omega) (by omega) (by omega) (by omega) h9]
    exact c1 x k h1 h2 (by omega) h4 h5 h6
  have e13 : m2 1 3 = m 1 3 := keep _ _ (by decide) (by decide) (by decide) (by decide) (by decide) (by decide) (by decide) (by decide) (by decide)
  have e14 : m2 1 4 = m 1 4 := keep _ _ (by decide) (by decide) (by decide) (by decide) (by decide) (by decide) (by decide) (by decide) (by decide)
  have e15 : m2 1 5 = m 1 6 := by rw [cls _ _ (by decide)]; exact k2
  have e16 : m2 1 6 = m 1 5 := by rw [cls _ _ (by decide)]; exact k3
  have n597 : ∀ k, k = 16 ∨ k = 27 ∨ k = 40 → m2 597 k = m 597 k := fun k h => keep _ _ (by omega) (by omega) (by omega) (by omega) (by omega) (by omega) (by omega) (by omega) (by omega)
  have mk : ∀ r, r < 48 → m2 607 r = m 607 r := fun r h => keep _ _ (by omega) (by omega) (by omega) (by omega) (by omega) (by omega) (by omega) (by omega) (by omega)
  have E602 : ∀ k, ePg E m2 602 k = E 602 k := fun k => ePg_E (by decide)
  have E597 : ∀ k, ePg E m2 597 k = m2 597 k := fun k => ePg_m (by decide)
  have E607 : ∀ k, ePg E m2 607 k = m2 607 k := fun k => ePg_m (by decide)
  have E604 : ∀ k, ePg E m2 604 k = m2 604 k := fun k => ePg_m (by decide)
  have E603 : ∀ k, ePg E m2 603 k = m2 603 k := fun k => ePg_m (by decide)
  have x16 : ePg E m2 597 16 = E 597 16 := by rw [E597, n597 16 (Or.inl rfl)]; exact A.b
  refine ⟨⟨iT.er E602 x16, ⟨by rw [E597, l5]; exact I1, fun w w0 w1 => ?_⟩, fun r r0 r1' => ?_, fun x k hp => ?_, by rw [E597, n597 27 (by decide), ← b1]; exact A.w, by rw [n597 40 (by decide)]; exact b2, ?_, by rw [e13, e14]; exact b4, ?_, by rw [e15, e16]; omega, fun r r0 r1' => ?_, fun w w0 w1 => ?_⟩, ⟨fun h => ?_, fun w w0 w1 e e0 e1 hbit => ?_⟩, ⟨⟨?_, ?_⟩, ⟨?_, Or.inl l7⟩, ?_, ⟨fun r r0 r1' => ?_, rfl⟩, fun h => ?_, fun k k0 k1 => ?_⟩, ⟨TS.nil ?_ l1 ?_ ?_, fun r r0 r1' => ?_⟩, ?_⟩
  · rw [E597, l5] at w1
    rw [E604, (r3 w w0 w1).1]
    refine ⟨(I.2 w w0 w1).1, fun i i0 i1 => ?_⟩
    rw [E603, (r3 w w0 w1).2 i i0 i1]
    exact (I.2 w w0 w1).2 i i0 i1
  · rw [E607, E607, mk _ (by omega), mk _ (by omega)]
    exact P.v1 r0 r1'
  · unfold per at hp
    by_cases h : x = 603 ∨ x = 604 ∨ x = 607 ∨ x = 597
    · exact (ePg_m h).symm
    · rw [ePg_E h, keep x k (by omega) (by omega) (by omega) (by omega) (by omega) (by omega) (by omega) (by omega) (by omega)]
      exact A x k (by unfold per; omega)
  · rw [e13]
    exact (b3.fr iT fun x k x0 x1 => keep x k (by omega) (by omega) (by omega) (by omega) (by omega) (by omega) (by omega) (by omega) (by omega)).er E602
  · rw [e15]
    have C2 : CP (EG G) m2 (m 1 6) := CC.fs I fun x k x0 x1 => cls x k (by omega)
    obtain ⟨q1, q2, q3⟩ := C2
    refine ⟨q1, by rw [q2, E597, l5, EG_n], fun w w0 w1 => ?_⟩
    rw [E597, l5] at w1
    have q := q3 w w0 (by rw [EG_n]; exact w1)
    rw [EG_s] at q
    rw [E604, (r3 w w0 w1).1]
    refine ⟨q.1, q.2.1, fun i i0 i1 => ?_⟩
    have q' := q.2.2 i i0 i1
    rw [EG_b, show 100 + (10 * w + i) = 100 + 10 * w + i by omega] at q'
    rw [E603, (r3 w w0 w1).2 i i0 i1]
    exact q'
  · rw [E607, E607, mk _ (by omega), mk _ (by omega), keep 281 _ (by omega) (by omega) (by omega) (by omega) (by omega) (by omega) (by omega) (by omega) (by omega), keep 282 _ (by omega) (by omega) (by omega) (by omega) (by omega) (by omega) (by omega) (by omega) (by omega)]
    exact BB.m1 r0 r1'
  · rw [E607, cls _ _ (by decide), c5 w w0 w1, r5 w w0 w1, nx_9]
  · rw [cls _ _ (by decide), k4] at h
    omega
  · exfalso
    rw [E597, l5] at w1
    rw [E602] at e1
    rw [cls _ _ (by decide), c6 w w0 (by omega)] at hbit
    have bz : ∀ i : Nat, i < 24 → iand (ishr 16777215 i) 1 = 1 := by decide +kernel
    obtain ⟨j, rfl⟩ := Int.eq_ofNat_of_zero_le e0
    exact hbit (bz j (by omega))
  · rw [cls _ _ (by decide), k8, l6]
  · rw [l6]; decide
  · rw [cls _ _ (by decide), k9, l7]
  · exact P.2.2.1.fr fun k => keep _ _ (by omega) (by omega) (by omega) (by omega) (by omega) (by omega) (by omega) (by omega) (by omega)
  · rw [Int.zero_add, Int.zero_add, mk _ (by omega), mk _ (by omega)]
    exact P.v1 r0 r1'
  · rw [l7] at h
    exact absurd h (by decide)
  · rw [l6] at k1
    omega
  · rw [cls _ _ (by decide)]; exact k1
  · rw [cls _ _ (by decide), k5, l2]
  · rw [cls _ _ (by decide), k6, l3]
  · rw [E602] at r1'
    rw [e13, E602, E602, keep _ _ (by omega) (by omega) (by omega) (by omega) (by omega) (by omega) (by omega) (by omega) (by omega), keep _ _ (by omega) (by omega) (by omega) (by omega) (by omega) (by omega) (by omega) (by omega) (by omega)]
    exact T.2 r r0 r1'
  · exact (H.fr fun x k h => keep _ _ (by omega) (by omega) (by omega) (by omega) (by omega) (by omega) (by omega) (by omega) (by omega)).er (funext E602)
theorem p_page {n : Int} {K : Int → Int → Mm → Prop} (S : CS sh E m) (kk : ∀ F m' s, CS sh F m' → K s s m') : TrI 59 [(1, 1), (0, n)] m fun v1 m1 => TrI 192 [(1, 597), (0, n)] m1 fun v2 m2 => K v1 v2 m2 := by
  obtain ⟨⟨t1, t2, t3⟩, hb, t5, t6⟩ := id S.to.1
  have B := S.b
  obtain ⟨iT, Pg, W, A, b1, b2, b3, b4, b5, b6, b7, b8⟩ := id B
  have c5 := b5.1
  have hf : ∀ i, 0 ≤ i → i < m 597 2 → m 2 i = m 2 i ∧ 0 ≤ m 2 i ∧ m 2 i < 256 := fun i i0 i1 => ⟨rfl, by rw [(hb i i0 i1).1]; exact (hb i i0 i1).2⟩
  refine c59 (f := m 2) (N := m 597 2) (by omega) t1 ⟨t2, t3⟩ hf (fun q => ?_) fun n0 n1 => ?_
  · exact c192 (f := m 2) (N := m 597 2) rfl ⟨t2, t3⟩ (fun i i0 i1 => ⟨(hb i i0 i1).1.symm, (hf i i0 i1).2⟩) (fun _ m' e' => kk E m' _ (S.th e')) fun n0 n1 => absurd ⟨n0, n1⟩ q
  · have ok := pgS_c (f := m 2) (n := n) (n + 1).toNat G0 0 0 G0_ok (Or.inl rfl)
    have both : ∀ m1 : Mm, (∀ x k, 597 ≤ x → m1 x k = m x k) → ∀ K : Int → Mm → Prop, OutR (fun e x => ∀ m', fU m1 m' → m' 597 2 = 0 → m' 597 4 = e → m' 597 5 = x → K (-1) m') (fun G' c' => GI G' → ∀ m', PgR G' m1 m' → K c' m') (pgS (m 2) n (n + 1).toNat G0 0 0) → TrI 192 [(1, 597), (0, n)] m1 K := fun m1 g K h =>
      c192 (f := m 2) (N := m 597 2) (g _ _ (by decide)) ⟨t2, t3⟩ (fun i i0 i1 => by rw [g _ _ (by decide)]; exact ⟨(hb i i0 i1).1.symm, (hf i i0 i1).2⟩) (fun q => absurd ⟨n0, n1⟩ q) fun _ _ => h
    revert ok both
    generalize pgS (m 2) n (n + 1).toNat G0 0 0 = r
    intro ok both
    cases r with
    | inl q =>
      intro m1 f1 y1 y0 y0'
      refine both m1 (fun x k h => f1 x k (by omega) (by omega) (by omega)) _ ?_
      intro m2 f2 z2 z4 z5
      have lo : ∀ x k, x < 597 → m2 x k = m1 x k := fun x k h => f2 x k (by omega) (by omega) (by omega)
      refine kk E m2 _ (S.fa (fun x k h1 h2 h3 h4 h5 h6 h7 h8 h9 h10 h11 h12 => ?_) (TS.nil (by rw [lo _ _ (by decide)]; exact y1) z2 (by rw [lo _ _ (by decide), y0, z4]) (by rw [lo _ _ (by decide), y0', z5])))
      rw [f2 x k (by omega) h10 h11]
      exact f1 x k h1 h3 h6
    | inr q =>
      refine ⟨ok, fun I m1 C => ?_⟩
      refine both m1 (fun x k h => C.1 x k (by omega) (by omega) (by omega) (by omega) (by omega) (by omega)) _ ?_
      intro _ m2 R
      exact kk _ m2 _ (S.pg I C R)
end PPG
