/-! forget, learn -/
section MK
variable {sh : (Int → Int) → Int → List Int} {E m : Mm}
/-- all counts together -/
def tmS (E : Mm) : Int := sumF (E 602 578).toNat fun r => E 607 (24 + r)
theorem tm_rng {E : Mm} (W : InvW E) (n : Nat) (h : n ≤ 24) : 0 ≤ sumF n (fun r => E 607 (24 + r)) ∧ sumF n (fun r => E 607 (24 + r)) ≤ n * 999 :=
  ⟨sumF_ge fun i i0 i1 => (W i i0 (by omega)).2.1, sumF_le fun i i0 i1 => (W i i0 (by omega)).2.2⟩
theorem c146 {K : Int → Mm → Prop} (B : BS E m) (kk : K (tmS E) m) : TrI 146 [(1, 1)] m K := by
  have T2 := B.t.2.1
  refine e146 ?_
  have loop : ∀ (n r : Nat), r + n = (E 602 578).toNat → X 146 4 [(1, 1), (0, sumF r fun r => E 607 (24 + r)), (0, (r : Int))] [] m (qI K) := by
    intro n
    induction n with
    | zero =>
      intro r hr
      refine w146_4 _ _ ⟨B.sT, fun h => absurd h (by rw [B.rn]; omega), fun _ => ?_⟩
      rw [show r = (E 602 578).toNat by omega]
      exact kk
    | succ n ih =>
      intro r hr
      have hm := (B.2.2.2.2.2.2.2.2.2.2.1 r (by omega) (by omega)).2
      have t1 := tm_rng B.w r (by omega)
      have t2 := (B.w r (by omega) (by omega)).2
      refine w146_4 _ _ ⟨B.sT, fun _ => ⟨by omega, ?_⟩, fun h => absurd (show (r : Int) < m (m 1 3) 5 by rw [B.rn]; omega) h⟩
      rw [hm, wrI (x := _ + E 607 (24 + (r : Int))) (by omega) (by omega), wrI (x := (r : Int) + 1) (by omega) (by omega)]
      exact ih (r + 1) (by omega)
  exact loop (E 602 578).toNat 0 (Nat.zero_add _)
theorem c275 {K : Int → Mm → Prop} (T : InvT E) (W : InvW E) (A : Ag E m) (kk : K (tmS E) m) : TrI 275 [(1, 597)] m K := by
  have T2 := T.2.1
  refine e275 ?_
  have loop : ∀ (n r : Nat), r + n = (E 602 578).toNat → X 275 4 [(1, 597), (0, sumF r fun r => E 607 (24 + r)), (0, (r : Int))] [] m (qI K) := by
    intro n
    induction n with
    | zero =>
      intro r hr
      refine w275_4 _ _ ⟨A.b.trans T.1, fun h => absurd h (by rw [A.r]; omega), fun _ => ?_⟩
      rw [show r = (E 602 578).toNat by omega]
      exact kk
    | succ n ih =>
      intro r hr
      have t1 := tm_rng W r (by omega)
      have t2 := (W r (by omega) (by omega)).2
      refine w275_4 _ _ ⟨A.b.trans T.1, fun _ => ?_, fun h => absurd (show (r : Int) < m 602 578 by rw [A.r]; omega) h⟩
      have q : wr (24 + (r : Int)) = 24 + r := wrI (by omega) (by omega)
      rw [q]
      clear q
      refine ⟨by omega, ?_⟩
      rw [A.t (show 24 + (r : Int) < 58 by omega), wrI (x := _ + E 607 (24 + (r : Int))) (by omega) (by omega), wrI (x := (r : Int) + 1) (by omega) (by omega)]
      exact ih (r + 1) (by omega)
  exact loop (E 602 578).toNat 0 (Nat.zero_add _)
theorem c55 {K : Mm → Prop} (kk : ∀ m', (∀ x k, x ≠ 282 → m' x k = m x k) → (∀ r, 0 ≤ r → r < 24 → m' 282 r = 0) → K m') : TrV 55 [(1, 280)] m K := by
  have s : shp 280 = 22 := by decide +kernel
  refine e55 _ s ?_
  have loop : ∀ (n r : Nat) (m1 : Mm), r + n = 24 → (∀ x k, x ≠ 282 → m1 x k = m x k) → (∀ i : Int, 0 ≤ i → i < r → m1 282 i = 0) → X 55 2 [(1, 280), (0, (r : Int))] [] m1 (qV K) := by
    intro n
    induction n with
    | zero =>
      intro r m1 hr f Z
      exact w55_2 _ _ s ⟨fun h => absurd h (by omega), fun _ => kk m1 f fun i i0 i1 => Z i i0 (by omega)⟩
    | succ n ih =>
      intro r m1 hr f Z
      refine w55_2 _ _ s ⟨fun _ => ⟨by omega, fun m5 e5 => ?_⟩, fun h => absurd (show (r : Int) < 24 by omega) h⟩
      rw [wrI (x := (r : Int) + 1) (by omega) (by omega)]
      refine ih (r + 1) m5 (by omega) (fun x k hn => by rw [e5, um_x (by omega)]; exact f x k hn) fun i i0 i1 => ?_
      by_cases hi : i = r
      · rw [hi, e5]
        exact um_s
      · rw [e5, um_k hi]
        exact Z i i0 (by omega)
  exact loop 24 0 m (by decide) (fun _ _ _ => rfl) fun i i0 i1 => by omega
/-- forget -/
theorem p_forget {K : Int → Int → Mm → Prop} (S : CS sh E m) (kk : ∀ F m' s, CS sh F m' → K s s m') : TrI 145 [(1, 1)] m fun v1 m1 => TrI 274 [(1, 597)] m1 fun v2 m2 => K v1 v2 m2 := by
  have B := S.b
  refine e145 (c146 B (q143 S.ps fun ma Na => c55 fun m6 f6 Z6 => fun m8 e8 => ?_))
  refine e274 fun mb eb => ?_
  have fb : ∀ x k, ¬ (x = 1 ∧ k = 17) → ¬ (281 ≤ x ∧ x < 284) → ¬ (x = 597 ∧ (k = 0 ∨ k = 31 ∨ k = 33 ∨ k = 38 ∨ k = 39)) → ¬ (608 ≤ x ∧ x < 627) → mb x k = ma x k := fun x k n1 n2 n3 n4 => by rw [eb, um_n (by omega), e8, um_n (by omega), f6 x k (by omega)]
  obtain ⟨fm, A, n25, h40⟩ := two_ag S Na fb
  refine q273 n25 S.ps.1.2 fun mc Nr => ?_
  have Ac : Ag E mc := A.fr fun x k hp => by
    unfold per at hp
    exact Nr.g (by omega) (by omega)
  refine c275 B.t B.w Ac ?_
  have r7 : ∀ k, 0 ≤ k → k < 58 → mc 607 k = m 607 k := fun k k0 k1 => by rw [Nr.g (by omega) (by omega)]; exact fm _ _ (by omega) (by omega) (by omega) (by omega) (by omega)
  have loop : ∀ (n r : Nat) (md : Mm), r + n = 24 → (∀ x k, ¬ (x = 607 ∧ 24 ≤ k ∧ k < 24 + (r : Int)) → md x k = mc x k) → (∀ i : Int, 0 ≤ i → i < r → md 607 (24 + i) = 0) → X 274 16 [(1, 597), (0, tmS E), (0, (r : Int))] [] md (qI fun v2 m2 => K (tmS E) v2 m2) := by
    intro n
    induction n with
    | zero =>
      intro r md hr fd Z
      refine w274_16 _ _ ⟨fun h => absurd h (by omega), fun _ => kk (eSt E md) md _ ?_⟩
      refine S.two Na fb Nr (g := fun k => if 24 ≤ k ∧ k < 48 then 0 else m 607 k) (fun x k n1 => fd x k (by omega)) (fun k k0 k1 => ?_) (fun k k0 k1 => ?_) (fun r r0 r1 => ?_) ?_
      · show _ = if 24 ≤ k ∧ k < 48 then 0 else m 607 k
        split
        · have := Z (k - 24) (by omega) (by omega)
          rw [show 24 + (k - 24) = k by omega] at this
          exact this
        · rw [fd _ _ (by omega)]
          exact r7 k k0 k1
      · show _ = nx (E 597 23) k (if 24 ≤ k ∧ k < 48 then 0 else m 607 k)
        have P1 := B.p.1
        have := B.mk k k0 k1
        rw [Int.zero_add, mkc_i] at this
        rw [mkc_i]
        have e3 : ∀ x k, 281 ≤ x → x < 284 → mb x k = m6 x k := fun x k x0 x1 => by rw [eb, um_n (by omega), e8, um_n (by omega)]
        rw [e3 _ _ (by omega) (by omega), e3 _ _ (by omega) (by omega), e3 _ _ (by omega) (by omega)]
        by_cases h1 : k < 24
        · rw [if_pos h1] at this
          rw [if_pos h1, if_neg (show ¬ (24 ≤ k ∧ k < 48) by omega), ← this, f6 _ _ (by decide)]
          exact Na.g (by omega) (by omega) (by omega)
        · rw [if_neg h1] at this
          rw [if_neg h1]
          by_cases h2 : k < 48
          · rw [if_pos h2, if_pos (show 24 ≤ k ∧ k < 48 by omega), nx_l (by omega)]
            exact Z6 (k - 24) (by omega) (by omega)
          · rw [if_neg h2] at this
            rw [if_neg h2, if_neg (show ¬ (24 ≤ k ∧ k < 48) by omega), ← this, f6 _ _ (by decide)]
            exact Na.g (by omega) (by omega) (by omega)
      · show (0 ≤ (if 24 ≤ r ∧ r < 48 then 0 else m 607 r) ∧ (if 24 ≤ r ∧ r < 48 then 0 else m 607 r) ≤ 999) ∧ (0 ≤ (if 24 ≤ 24 + r ∧ 24 + r < 48 then 0 else m 607 (24 + r)) ∧ (if 24 ≤ 24 + r ∧ 24 + r < 48 then 0 else m 607 (24 + r)) ≤ 999)
        rw [if_neg (by omega), if_pos (by omega)]
        exact ⟨(S.ps.v1 r0 r1).1, by decide⟩
      · rw [eb, um_n (by omega), e8, um_s]
    | succ n ih =>
      intro r md hr fd Z
      have q : wr (24 + (r : Int)) = 24 + r := wrI (by omega) (by omega)
      refine w274_16 _ _ ⟨fun _ => ?_, fun h => absurd (show (r : Int) < 24 by omega) h⟩
      rw [q]
      clear q
      refine ⟨by omega, fun m5 e5 => ?_⟩
      rw [wrI (x := (r : Int) + 1) (by omega) (by omega)]
      refine ih (r + 1) m5 (by omega) (fun x k hn => by rw [e5, um_n (by omega)]; exact fd x k (by omega)) fun i i0 i1 => ?_
      by_cases hi : i = r
      · rw [hi, e5, um_s]
      · rw [e5, um_k (by omega)]
        exact Z i i0 (by omega)
  exact loop 24 0 mc (by decide) (fun _ _ _ => rfl) fun i i0 i1 => by omega
/-- learn -/
theorem p_learn {K : Int → Int → Mm → Prop} (S : CS sh E m) (kk : ∀ F m' s, CS sh F m' → K s s m') : TrI 142 [(1, 1)] m fun v1 m1 => TrI 272 [(1, 597)] m1 fun v2 m2 => K v1 v2 m2 := by
  have P1 := S.b.p.1
  have T2 := S.b.t.2.1
  refine e142 (c76 S.b S.r fun m1 f1 B1 z1 r1 a1 => ?_)
  rw [r1.2.2.2.2.1]
  have S1 : CS sh E m1 := S.fQ f1 ⟨fun _ => r1, a1⟩
  have kr := tkC_rng B1.t B1.p
  have ar := (kr 0 (E 597 23).toNat (by omega)).2
  refine ⟨fun ht => c120 B1 r1 fun m5 f5 C5 => ?_, fun ht => ?_⟩
  · have S5 : CS sh E m5 := S1.fQ f5.r ⟨fun _ => f5.s B1.p r1, a1.fr fun k => f5 _ _ (by decide) (by decide)⟩
    have B5 := S5.b
    refine q143 S5.ps fun ma Na => ?_
    -- the new counts
    obtain ⟨g, hg⟩ : ∃ g : Int → Int, g = fun k => if 24 ≤ k ∧ k < 24 + E 602 578 then min 999 (m5 607 k + tkC E (E 597 23).toNat (k - 24)) else m5 607 k := ⟨_, rfl⟩
    have a282 : ∀ r, 0 ≤ r → r < 24 → ma 282 r = m5 607 (24 + r) := fun r r0 r1 => by rw [Na.g (by omega) (by omega) (by omega)]; exact (B5.m1 r0 r1).2
    have a596 : ∀ r, 0 ≤ r → r < 24 → ma 596 r = tkC E (E 597 23).toNat r := fun r r0 r1 => by rw [Na.g (by omega) (by omega) (by omega)]; exact C5 r r0 r1
    have lc : ∀ (n r : Nat) (m6 : Mm), r + n = (E 602 578).toNat → (∀ x k, ¬ (x = 282 ∧ 0 ≤ k ∧ k < (r : Int)) → m6 x k = ma x k) → (∀ i : Int, 0 ≤ i → i < r → m6 282 i = g (24 + i)) → X 142 38 [(1, 1), (0, tkA E (E 597 23).toNat), (0, (r : Int))] [] m6 (qI fun v1 m1 => TrI 272 [(1, 597)] m1 fun v2 m2 => K v1 v2 m2) := by
      intro n
      induction n with
      | zero =>
        intro r m6 hr f6 Z6
        have t6 : m6 1 3 = m5 1 3 := by rw [f6 _ _ (by omega)]; exact Na.g (by omega) (by omega) (by omega)
        have tr := B5.ct.1
        have c6 : m6 (m5 1 3) 5 = E 602 578 := by rw [f6 _ _ (by omega), Na.g (by omega) (by omega) (by omega)]; exact B5.rn
        refine w142_38 _ _ ?_
        rw [t6]
        refine ⟨B5.sT, fun h => absurd h (by rw [c6]; omega), fun _ => fun m8 e8 => ?_⟩
        refine e272 fun mt et => ?_
        have fb0 : ∀ x k, ¬ (x = 1 ∧ k = 17) → ¬ (281 ≤ x ∧ x < 284) → ¬ (x = 597 ∧ (k = 0 ∨ k = 31 ∨ k = 33 ∨ k = 38 ∨ k = 39)) → ¬ (608 ≤ x ∧ x < 627) → mt x k = ma x k := fun x k n1 n2 n3 n4 => by rw [et, um_n (by omega), e8, um_n (by omega), f6 x k (by omega)]
        obtain ⟨fm0, A0, n250, h400⟩ := two_ag S5 Na fb0
        -- the reference's own count of BEST's readings stands over a state that only agrees
        have X2 : TrI 254 [(1, 597)] mt fun v5 m3 => (v5 < 0 → K (tkA E (E 597 23).toNat) (-2) m3) ∧ (¬ v5 < 0 → TrV 273 [(1, 597)] m3 fun m8 => X 272 23 [(1, 597), (0, v5), (0, 0), (9, 0)] [] m8 (qI fun v2 m2 => K (tkA E (E 597 23).toNat) v2 m2)) := by
          refine c254' B5.t B5.p B5.w A0 h400 (fun m3 f3 hn => absurd ht hn) (fun mb f3 _ C3 => ⟨fun h => absurd h (by omega), fun _ => ?_⟩)
          have fb : ∀ x k, ¬ (x = 1 ∧ k = 17) → ¬ (281 ≤ x ∧ x < 284) → ¬ (x = 597 ∧ (k = 0 ∨ k = 31 ∨ k = 33 ∨ k = 38 ∨ k = 39)) → ¬ (608 ≤ x ∧ x < 627) → mb x k = ma x k := fun x k n1 n2 n3 n4 => by rw [f3 x k (by omega) (by omega)]; exact fb0 x k n1 n2 n3 n4
          obtain ⟨fm, A, n25, h40⟩ := two_ag S5 Na fb
          refine q273 n25 S5.ps.1.2 fun mc Nr => ?_
          have r7 : ∀ k, 0 ≤ k → k < 58 → mc 607 k = m5 607 k := fun k k0 k1 => by rw [Nr.g (by omega) (by omega)]; exact fm _ _ (by omega) (by omega) (by omega) (by omega) (by omega)
          have c619 : ∀ r, 0 ≤ r → r < 24 → mc 619 r = tkC E (E 597 23).toNat r := fun r r0 r1 => by rw [Nr.g (by omega) (by omega)]; exact C3 r r0 r1
          have lr : ∀ (n r : Nat) (md : Mm) (v3 : aV), r + n = (E 602 578).toNat → (∀ x k, ¬ (x = 607 ∧ 24 ≤ k ∧ k < 24 + (r : Int)) → md x k = mc x k) → (∀ i : Int, 0 ≤ i → i < r → md 607 (24 + i) = g (24 + i)) → X 272 23 [(1, 597), (0, tkA E (E 597 23).toNat), (0, (r : Int)), v3] [] md (qI fun v2 m2 => K (tkA E (E 597 23).toNat) v2 m2) := by
            intro n
            induction n with
            | zero =>
              intro r md v3 hr fd Z
              have Ad : Ag E mc := A.fr fun x k hp => by
                unfold per at hp
                exact Nr.g (by omega) (by omega)
              have d16 : md 597 16 = 0 := by rw [fd _ _ (by omega)]; exact Ad.b.trans B5.t.1
              have d578 : md 602 578 = E 602 578 := by rw [fd _ _ (by omega)]; exact Ad.r
              refine w272_23 _ _ v3 ⟨d16, fun h => absurd h (by rw [d578]; omega), fun _ => kk (eSt E md) md _ ?_⟩
              refine S5.two Na fb Nr (g := g) (fun x k n1 => fd x k (by omega)) (fun k k0 k1 => ?_) (fun k k0 k1 => ?_) (fun s s0 s1 => ?_) ?_
              · by_cases hk : 24 ≤ k ∧ k < 24 + E 602 578
                · have := Z (k - 24) (by omega) (by omega)
                  rw [show 24 + (k - 24) = k by omega] at this
                  exact this
                · rw [fd _ _ (by omega), hg]
                  show _ = if 24 ≤ k ∧ k < 24 + E 602 578 then _ else m5 607 k
                  rw [if_neg hk]
                  exact r7 k k0 k1
              · have e3 : ∀ x k, 281 ≤ x → x < 284 → mb x k = m6 x k := fun x k x0 x1 => by rw [f3 x k (by omega) (by omega), et, um_n (by omega), e8, um_n (by omega)]
                have := B5.mk k k0 k1
                rw [Int.zero_add] at this
                rw [mkc_i] at this ⊢
                rw [e3 _ _ (by omega) (by omega), e3 _ _ (by omega) (by omega), e3 _ _ (by omega) (by omega)]
                by_cases hk : 24 ≤ k ∧ k < 24 + E 602 578
                · have P1 := B5.p.1
                  rw [if_neg (show ¬ k < 24 by omega), if_pos (show k < 48 by omega), Z6 (k - 24) (by omega) (by omega), show 24 + (k - 24) = k by omega, nx_l (by omega)]
                · have gk : g k = m5 607 k := by
                    rw [hg]
                    show (if 24 ≤ k ∧ k < 24 + E 602 578 then _ else m5 607 k) = _
                    rw [if_neg hk]
                  rw [gk, ← this, f6 _ _ (by omega), f6 _ _ (by omega), f6 _ _ (by omega), Na.g (by omega) (by omega) (by omega), Na.g (by omega) (by omega) (by omega), Na.g (by omega) (by omega) (by omega)]
              · have h1 := S5.ps.v1 s0 s1
                have h2 := (kr s (E 597 23).toNat (by omega)).1
                have h3 : g s = m5 607 s := by
                  rw [hg]
                  show (if 24 ≤ s ∧ s < 24 + E 602 578 then _ else m5 607 s) = _
                  rw [if_neg (by omega)]
                rw [h3]
                refine ⟨h1.1, ?_⟩
                rw [hg]
                show 0 ≤ (if 24 ≤ 24 + s ∧ 24 + s < 24 + E 602 578 then min 999 (m5 607 (24 + s) + tkC E (E 597 23).toNat (24 + s - 24)) else m5 607 (24 + s)) ∧ (if 24 ≤ 24 + s ∧ 24 + s < 24 + E 602 578 then min 999 (m5 607 (24 + s) + tkC E (E 597 23).toNat (24 + s - 24)) else m5 607 (24 + s)) ≤ 999
                rw [show 24 + s - 24 = s by omega]
                split <;> omega
              · rw [f3 _ _ (by decide) (by decide), et, um_n (by omega), e8, um_s]
            | succ n ih =>
              intro r md v3 hr fd Z
              have Ad : Ag E mc := A.fr fun x k hp => by
                unfold per at hp
                exact Nr.g (by omega) (by omega)
              have d16 : md 597 16 = 0 := by rw [fd _ _ (by omega)]; exact Ad.b.trans B5.t.1
              have d578 : md 602 578 = E 602 578 := by rw [fd _ _ (by omega)]; exact Ad.r
              have h2 := (kr (r : Int) (E 597 23).toNat (by omega)).1
              have h1 := (S5.ps.v1 (r := (r : Int)) (by omega) (by omega)).2
              have q : wr (24 + (r : Int)) = 24 + r := wrI (by omega) (by omega)
              have vg : g (24 + (r : Int)) = min 999 (m5 607 (24 + r) + tkC E (E 597 23).toNat r) := by
                rw [hg]
                show (if 24 ≤ 24 + (r : Int) ∧ 24 + (r : Int) < 24 + E 602 578 then min 999 (m5 607 (24 + r) + tkC E (E 597 23).toNat (24 + (r : Int) - 24)) else _) = _
                rw [if_pos (by clear q; omega), show 24 + (r : Int) - 24 = r by clear q; omega]
              refine w272_23 _ _ v3 ⟨d16, fun _ => ?_, fun h => absurd (show (r : Int) < md 602 578 by rw [d578]; clear q; omega) h⟩
              rw [q]
              clear q
              rw [fd 607 _ (by omega), fd 619 _ (by omega), r7 _ (by omega) (by omega), c619 _ (by omega) (by omega), wrI (x := m5 607 (24 + (r : Int)) + _) (by omega) (by omega), wrI (x := (r : Int) + 1) (by omega) (by omega)]
              have next : ∀ (m9 : Mm) (v3 : aV), m9 = umem md 607 (24 + r) (g (24 + r)) → X 272 23 [(1, 597), (0, tkA E (E 597 23).toNat), (0, ((r + 1 : Nat) : Int)), v3] [] m9 (qI fun v2 m2 => K (tkA E (E 597 23).toNat) v2 m2) := fun m9 v3 e9 => by
                refine ih (r + 1) m9 v3 (by omega) (fun x k hn => by rw [e9, um_n (by omega)]; exact fd x k (by omega)) fun i i0 i1 => ?_
                by_cases hi : i = r
                · rw [hi, e9, um_s]
                · rw [e9, um_k (by omega)]
                  exact Z i i0 (by omega)
              refine ⟨by omega, by omega, fun h m13 e13 => next m13 _ ?_, fun h m11 e11 => next m11 _ ?_⟩
              · rw [e13, vg, Int.min_eq_left (by omega)]
              · rw [e11, vg, Int.min_eq_right (by omega)]
          exact lr (E 602 578).toNat 0 mc (9, 0) (by omega) (fun _ _ _ => rfl) fun i i0 i1 => by omega
        exact X2
      | succ n ih =>
        intro r m6 hr f6 Z6
        have t6 : m6 1 3 = m5 1 3 := by rw [f6 _ _ (by omega)]; exact Na.g (by omega) (by omega) (by omega)
        have tr := B5.ct.1
        have c6 : m6 (m5 1 3) 5 = E 602 578 := by rw [f6 _ _ (by omega), Na.g (by omega) (by omega) (by omega)]; exact B5.rn
        have h2 := (kr (r : Int) (E 597 23).toNat (by omega)).1
        have h1 := (S5.ps.v1 (r := (r : Int)) (by omega) (by omega)).2
        have vg : g (24 + (r : Int)) = min 999 (m5 607 (24 + r) + tkC E (E 597 23).toNat r) := by
          rw [hg]
          show (if 24 ≤ 24 + (r : Int) ∧ 24 + (r : Int) < 24 + E 602 578 then min 999 (m5 607 (24 + r) + tkC E (E 597 23).toNat (24 + (r : Int) - 24)) else _) = _
          rw [if_pos (by omega), show 24 + (r : Int) - 24 = r by omega]
        refine w142_38 _ _ ?_
        rw [t6]
        refine ⟨B5.sT, fun _ => ⟨by omega, fun m9 e9 => ?_⟩, fun h => absurd (show (r : Int) < m6 (m5 1 3) 5 by rw [c6]; omega) h⟩
        rw [f6 282 _ (by omega), f6 596 _ (by omega), a282 _ (by omega) (by omega), a596 _ (by omega) (by omega), wrI (by omega) (by omega), ← vg] at e9
        rw [wrI (x := (r : Int) + 1) (by omega) (by omega)]
        refine ih (r + 1) m9 (by omega) (fun x k hn => by rw [e9, um_n (by omega)]; exact f6 x k (by omega)) fun i i0 i1 => ?_
        by_cases hi : i = r
        · rw [hi, e9, um_s]
        · rw [e9, um_k hi]
          exact Z6 i i0 (by omega)
    exact lc (E 602 578).toNat 0 ma (by omega) (fun _ _ _ => rfl) fun i i0 i1 => by omega
  · refine e272 fun m2 e2 => ?_
    obtain ⟨f2, B2⟩ := B1.th e2
    refine c254 B2 (fun m3 f3 _ => ⟨fun _ => kk E m3 (-2) (S1.gQ (f2.tr f3.g) (f3.h B2)), fun h => absurd (by decide) h⟩) (fun m3 f3 h _ => absurd h ht)
end MK
