/-! feed -/
def fdB (a s : Int) : Int := iand (ishr a s) 255
theorem fd_x (x : Int32) {s : Int} (hs : s = 24 ∨ s = 16 ∨ s = 8 ∨ s = 0) : ((x.toUInt32 >>> ((i3 s).toUInt32 &&& Int32.toUInt32 31)).toInt32 &&& i3 255) = ((x >>> (i3 s &&& 31)) &&& i3 255) := by
  have key : ∀ s : Nat, s ≤ 24 → (x.toBitVec >>> s) &&& 255#32 = (x.toBitVec.sshiftRight s) &&& 255#32 := by
    intro s h
    apply BitVec.eq_of_getLsbD_eq
    intro i hi
    rw [BitVec.getLsbD_and, BitVec.getLsbD_and]
    by_cases h8 : i < 8
    · rw [BitVec.getLsbD_sshiftRight, BitVec.getLsbD_ushiftRight]
      simp [show s + i < 32 by omega, show ¬ 32 ≤ i by omega]
    · have : (255#32).getLsbD i = false := by
        have : ∀ i : Nat, i < 32 → ¬ i < 8 → (255#32).getLsbD i = false := by decide +kernel
        exact this i hi h8
      rw [this, Bool.and_false, Bool.and_false]
  rcases hs with rfl | rfl | rfl | rfl
  all_goals
    apply Int32.toBitVec_inj.mp
    rw [Int32.toBitVec_and, Int32.toBitVec_and]
  · exact key 24 (by decide)
  · exact key 16 (by decide)
  · exact key 8 (by decide)
  · exact key 0 (by decide)
theorem fd_b (a : Int) {s : Int} (hs : s = 24 ∨ s = 16 ∨ s = 8 ∨ s = 0) : iand (iushr a s) 255 = fdB a s := by
  unfold fdB iand iushr ishr bI
  rw [i3_toInt, i3_toInt]
  exact congrArg Int32.toInt (fd_x _ hs)
theorem and255 (y : Int) : 0 ≤ iand y 255 ∧ iand y 255 < 256 := by
  unfold iand bI
  have h1 : (i3 y &&& i3 255).toBitVec = (i3 y).toBitVec &&& 255#32 := Int32.toBitVec_and ..
  have h2 : ((i3 y).toBitVec &&& 255#32).toNat ≤ 255 := by
    rw [BitVec.toNat_and]
    exact Nat.and_le_right
  have h3 : (i3 y &&& i3 255).toInt = ((i3 y).toBitVec &&& 255#32).toInt := by rw [← h1]; rfl
  rw [h3, BitVec.toInt_eq_toNat_of_lt (by omega)]
  omega
def fb4 (a i : Int) : Int := if i = 0 then fdB a 24 else if i = 1 then fdB a 16 else if i = 2 then fdB a 8 else fdB a 0
def fdT (f : Int → Int) (n a i : Int) : Int := if i < n then f i else fb4 a (i - n)
theorem fdT_rng {f : Int → Int} {n a : Int} (h : ∀ i, 0 ≤ i → i < n → 0 ≤ f i ∧ f i < 256) : ∀ i, 0 ≤ i → i < n + 4 → 0 ≤ fdT f n a i ∧ fdT f n a i < 256 := fun i i0 i1 => by
  unfold fdT
  split
  · exact h i i0 (by omega)
  · unfold fb4
    split
    · exact and255 _
    · split
      · exact and255 _
      · split
        · exact and255 _
        · exact and255 _
theorem c13 {m : Mm} {K : Mm → Prop} {a n : Int} {f : Int → Int} (h : m 1 1 = n) (n0 : 0 ≤ n) (n1 : n + 4 ≤ 900) (hf : ∀ i, 0 ≤ i → i < n → m 2 i = f i)
    (kk : ∀ m', (∀ x k, ¬ (x = 1 ∧ k = 1) → x ≠ 2 → m' x k = m x k) → m' 1 1 = n + 4 → (∀ i, 0 ≤ i → i < n + 4 → m' 2 i = fdT f n a i) → K m') : TrV 13 [(1, 1), (0, a)] m K := by
  have step : ∀ (s : Int) (k : Int) (m : Mm), (s = 24 ∨ s = 16 ∨ s = 8 ∨ s = 0) → m 1 1 = k → 0 ≤ k → k < 900 → (∀ m', (∀ x j, ¬ (x = 1 ∧ j = 1) → ¬ (x = 2 ∧ j = k) → m' x j = m x j) → m' 1 1 = k + 1 → m' 2 k = fdB a s → X 13 3 [(1, 1), (0, a), (0, s - 8)] [] m' (qV K)) → X 13 3 [(1, 1), (0, a), (0, s)] [] m (qV K) := by
    intro s k m hs hk k0 k1 go
    refine w13_3 _ _ ⟨fun q => absurd q (by omega), fun _ => ⟨fun _ => ?_, fun q => absurd (show m 1 1 < 900 by omega) q⟩⟩
    rw [hk, fd_b a hs, wrI (x := s + -8) (by omega) (by omega)]
    refine ⟨⟨k0, k1⟩, fun m1 e1 m2 e2 => ?_⟩
    have x1 : m1 1 1 = k := by rw [e1, um_x (by decide)]; exact hk
    rw [x1] at e2
    have e2' : m2 = umem m1 1 1 (k + 1) := by rw [e2, wrI (by omega) (by omega)]
    clear e2
    refine go m2 (fun x j n1 n2 => by rw [e2', um_n n1, e1, um_n n2]) (by rw [e2', um_s]) (by rw [e2', um_x (by decide), e1, um_s])
  refine e13 _ ?_
  refine step 24 n m (by decide) h n0 (by omega) fun m1 f1 s1 b1 => ?_
  refine step 16 (n + 1) m1 (by decide) s1 (by omega) (by omega) fun m2 f2 s2 b2 => ?_
  refine step 8 (n + 1 + 1) m2 (by decide) s2 (by omega) (by omega) fun m3 f3 s3 b3 => ?_
  refine step 0 (n + 1 + 1 + 1) m3 (by decide) s3 (by omega) (by omega) fun m4 f4 s4 b4 => ?_
  refine w13_3 _ _ ⟨fun _ => ?_, fun q => absurd (show (0 : Int) - 8 < 0 by decide) q⟩
  refine kk m4 (fun x k n1 n2 => by rw [f4 x k n1 (by omega), f3 x k n1 (by omega), f2 x k n1 (by omega), f1 x k n1 (by omega)]) (by omega) fun i i0 i1 => ?_
  unfold fdT
  split
  · rw [f4 _ _ (by omega) (by omega), f3 _ _ (by omega) (by omega), f2 _ _ (by omega) (by omega), f1 _ _ (by omega) (by omega)]
    exact hf i i0 (by omega)
  · unfold fb4
    split
    · rw [f4 _ _ (by omega) (by omega), f3 _ _ (by omega) (by omega), f2 _ _ (by omega) (by omega), show i = n by omega]
      exact b1
    · split
      · rw [f4 _ _ (by omega) (by omega), f3 _ _ (by omega) (by omega), show i = n + 1 by omega]
        exact b2
      · split
        · rw [f4 _ _ (by omega) (by omega), show i = n + 1 + 1 by omega]
          exact b3
        · rw [show i = n + 1 + 1 + 1 by omega]
          exact b4
theorem c166 {m : Mm} {K : Mm → Prop} {a n : Int} {f : Int → Int} (h : m 597 2 = n) (n0 : 0 ≤ n) (n1 : n + 4 ≤ 900) (hf : ∀ i, 0 ≤ i → i < n → m 598 i = f i)
    (kk : ∀ m', (∀ x k, ¬ (x = 597 ∧ k = 2) → x ≠ 598 → m' x k = m x k) → m' 597 2 = n + 4 → (∀ i, 0 ≤ i → i < n + 4 → m' 598 i = fdT f n a i) → K m') : TrV 166 [(1, 597), (0, a)] m K := by
  have step : ∀ (s : Int) (k : Int) (m : Mm), 0 ≤ s → s < 32 → m 597 2 = k → 0 ≤ k → k < 900 → (∀ m', (∀ x j, ¬ (x = 597 ∧ j = 2) → ¬ (x = 598 ∧ j = k) → m' x j = m x j) → m' 597 2 = k + 1 → m' 598 k = fdB a s → X 166 3 [(1, 597), (0, a), (0, s - 8)] [] m' (qV K)) → X 166 3 [(1, 597), (0, a), (0, s)] [] m (qV K) := by
    intro s k m hs hs' hk k0 k1 go
    refine w166_3 _ _ ⟨fun q => absurd q (by omega), fun _ => ?_⟩
    rw [hk, wrI (x := s + -8) (by omega) (by omega)]
    refine ⟨⟨k0, by omega⟩, fun m1 e1 m2 e2 => ?_⟩
    have x1 : m1 597 2 = k := by rw [e1, um_x (by decide)]; exact hk
    rw [x1] at e2
    have e2' : m2 = umem m1 597 2 (k + 1) := by rw [e2, wrI (by omega) (by omega)]
    clear e2
    refine go m2 (fun x j n1 n2 => by rw [e2', um_n n1, e1, um_n n2]) (by rw [e2', um_s]) (by rw [e2', um_x (by decide), e1, um_s]; rfl)
  refine e166 _ ?_
  refine step 24 n m (by decide) (by decide) h n0 (by omega) fun m1 f1 s1 b1 => ?_
  refine step 16 (n + 1) m1 (by decide) (by decide) s1 (by omega) (by omega) fun m2 f2 s2 b2 => ?_
  refine step 8 (n + 1 + 1) m2 (by decide) (by decide) s2 (by omega) (by omega) fun m3 f3 s3 b3 => ?_
  refine step 0 (n + 1 + 1 + 1) m3 (by decide) (by decide) s3 (by omega) (by omega) fun m4 f4 s4 b4 => ?_
  refine w166_3 _ _ ⟨fun _ => ?_, fun q => absurd (show (0 : Int) - 8 < 0 by decide) q⟩
  refine kk m4 (fun x k n1 n2 => by rw [f4 x k n1 (by omega), f3 x k n1 (by omega), f2 x k n1 (by omega), f1 x k n1 (by omega)]) (by omega) fun i i0 i1 => ?_
  unfold fdT
  split
  · rw [f4 _ _ (by omega) (by omega), f3 _ _ (by omega) (by omega), f2 _ _ (by omega) (by omega), f1 _ _ (by omega) (by omega)]
    exact hf i i0 (by omega)
  · unfold fb4
    split
    · rw [f4 _ _ (by omega) (by omega), f3 _ _ (by omega) (by omega), f2 _ _ (by omega) (by omega), show i = n by omega]
      exact b1
    · split
      · rw [f4 _ _ (by omega) (by omega), f3 _ _ (by omega) (by omega), show i = n + 1 by omega]
        exact b2
      · split
        · rw [f4 _ _ (by omega) (by omega), show i = n + 1 + 1 by omega]
          exact b3
        · rw [show i = n + 1 + 1 + 1 by omega]
          exact b4
section FQ
variable {sh : (Int → Int) → Int → List Int} {E m : Mm}
/-- a call that leaves all but the tape and the fault -/
theorem CS.tp {md : Mm} (S : CS sh E m) (f : ∀ x k, ¬ (x = 1 ∧ k = 1) → x ≠ 2 → x ≠ 3 → ¬ (x = 597 ∧ k ≤ 14) → x ≠ 598 → x ≠ 601 → md x k = m x k) (hT : TS md) : CS sh E md := by
  obtain ⟨B, R, P, T, H⟩ := S
  have B' : BS E md := B.fr fun x k h => by
    unfold per at h
    exact f x k (by omega) (by omega) (by omega) (by omega) (by omega) (by omega)
  refine ⟨B', RS.fr B R fun x k h => f x k (by omega) (by omega) (by omega) (by omega) (by omega) (by omega), P.fr fun x k h => f x k (by omega) (by omega) (by omega) (by omega) (by omega) (by omega), ⟨hT, fun r r0 r1 => ?_⟩, H.fr fun x k h => f x k (by omega) (by omega) (by omega) (by omega) (by omega) (by omega)⟩
  have T2 := B.t.2.1
  have b3 := B.ct.1
  rw [f 1 3 (by omega) (by omega) (by omega) (by omega) (by omega) (by omega), f _ _ (by omega) (by omega) (by omega) (by omega) (by omega) (by omega), f _ _ (by omega) (by omega) (by omega) (by omega) (by omega) (by omega)]
  exact T.2 r r0 r1
theorem p_feed {a b c d e : Int} {K : Int → Int → Mm → Prop} (S : CS sh E m) (kk : ∀ F m' s, CS sh F m' → K s s m') : TrI 12 [(1, 1), (0, a), (0, b), (0, c), (0, d), (0, e)] m fun v1 m1 => TrI 165 [(1, 597), (0, a), (0, b), (0, c), (0, d), (0, e)] m1 fun v2 m2 => K v1 v2 m2 := by
  obtain ⟨⟨t1, t2, t3⟩, hb, t5, t6⟩ := id S.to.1
  refine e12 _ _ _ _ _ ⟨fun h => ?_, fun h => ?_⟩
  · refine e165 _ _ _ _ _ fun m1 e1 => ?_
    have S1 := S.th e1
    have x1 : m1 597 2 = m 597 2 := by rw [e1, um_k (by decide)]
    rw [x1, wrI (x := m 597 2 + 20) (by omega) (by omega)]
    exact ⟨fun _ => kk E m1 _ S1, fun q => absurd (show m 597 2 + 20 > 900 by omega) q⟩
  · generalize hN : m 597 2 = N at *
    have h2 : ∀ i, 0 ≤ i → i < N → m 2 i = m 598 i := fun i i0 i1 => (hb i i0 i1).1
    refine c13 t1 t2 (by omega) h2 fun ma fa sa ba => ?_
    refine c13 sa (by omega) (by omega) ba fun mb fb sb bb => ?_
    refine c13 sb (by omega) (by omega) bb fun mc fc sc bc => ?_
    refine c13 sc (by omega) (by omega) bc fun md fd sd bd => ?_
    refine c13 sd (by omega) (by omega) bd fun me fe se be => ?_
    have f1 : ∀ x k, ¬ (x = 1 ∧ k = 1) → x ≠ 2 → me x k = m x k := fun x k n1 n2 => by
      rw [fe x k n1 n2, fd x k n1 n2, fc x k n1 n2, fb x k n1 n2, fa x k n1 n2]
    refine e165 _ _ _ _ _ fun m1 e1 => ?_
    have f2 : ∀ x k, ¬ (x = 1 ∧ k = 1) → x ≠ 2 → ¬ (x = 597 ∧ k = 0) → m1 x k = m x k := fun x k n1 n2 n3 => by
      rw [e1, um_n n3]
      exact f1 x k n1 n2
    have x1 : m1 597 2 = N := by rw [f2 _ _ (by decide) (by decide) (by decide)]; exact hN
    rw [x1, wrI (x := N + 20) (by omega) (by omega)]
    refine ⟨fun q => absurd q (by omega), fun _ => ?_⟩
    have g0 : ∀ i, 0 ≤ i → i < N → m1 598 i = m 598 i := fun i i0 i1 => f2 _ _ (by omega) (by omega) (by omega)
    refine c166 x1 t2 (by omega) g0 fun na ga ua va => ?_
    refine c166 ua (by omega) (by omega) va fun nb gb ub vb => ?_
    refine c166 ub (by omega) (by omega) vb fun nc gc uc vc => ?_
    refine c166 uc (by omega) (by omega) vc fun nd gd ud vd => ?_
    refine c166 ud (by omega) (by omega) vd fun ne ge ue ve => ?_
    have f3 : ∀ x k, ¬ (x = 1 ∧ k = 1) → x ≠ 2 → ¬ (x = 597 ∧ (k = 0 ∨ k = 2)) → x ≠ 598 → ne x k = m x k := fun x k n1 n2 n3 n4 => by
      rw [ge x k (by omega) n4, gd x k (by omega) n4, gc x k (by omega) n4, gb x k (by omega) n4, ga x k (by omega) n4]
      exact f2 x k n1 n2 (by omega)
    have c11 : ne 1 1 = me 1 1 := by
      rw [ge _ _ (by decide) (by decide), gd _ _ (by decide) (by decide), gc _ _ (by decide) (by decide), gb _ _ (by decide) (by decide), ga _ _ (by decide) (by decide), e1, um_x (by decide)]
    have c2 : ∀ i, ne 2 i = me 2 i := fun i => by
      rw [ge _ _ (by omega) (by omega), gd _ _ (by omega) (by omega), gc _ _ (by omega) (by omega), gb _ _ (by omega) (by omega), ga _ _ (by omega) (by omega), e1, um_x (by omega)]
    have fin : CS sh E ne := by
      refine S.tp (fun x k n1 n2 n3 n4 n5 n6 => f3 x k n1 n2 (by omega) n5) ⟨⟨by rw [c11, se, ue], by omega, by omega⟩, fun i i0 i1 => ?_, ?_, ?_⟩
      · rw [ue] at i1
        rw [c2, be i i0 i1, ve i i0 i1]
        exact ⟨rfl, fdT_rng (fdT_rng (fdT_rng (fdT_rng (fdT_rng fun i i0 i1 => (hb i i0 i1).2)))) i i0 i1⟩
      · rw [f3 3 0 (by decide) (by decide) (by decide) (by decide), f3 597 4 (by decide) (by decide) (by decide) (by decide)]
        exact t5
      · rw [f3 3 1 (by decide) (by decide) (by decide) (by decide), f3 597 5 (by decide) (by decide) (by decide) (by decide)]
        exact t6
    rw [show me 1 1 = ne 597 2 by rw [se, ue]]
    exact kk E ne _ fin
end FQ
