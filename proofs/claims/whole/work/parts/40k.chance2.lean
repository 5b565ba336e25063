/-! the reference's chance(280) -/
theorem r280 {E : Mm} {s n q : Int} (m : Mm) (B : BS E m) (K : Int → Mm → Prop) (kk : ∀ m', gR m m' → m' 597 40 = 0 → K (s_chc E s n q) m') : TrI 280 [(1, 597), (0, s), (0, n), (0, q)] m K := by
  have P1 := B.p.1
  have T := B.t
  unfold s_chc at kk
  refine e280 _ _ _ fun m1 e1 => ?_
  obtain ⟨f1, B1⟩ := B.th e1
  have no : ¬ (-1 ≤ s ∧ (1 ≤ n ∧ n ≤ 100) ∧ 0 ≤ q ∧ q ≤ 1) → K (-1) m1 := fun h => by
    rw [if_neg h] at kk
    exact kk m1 f1 B1.h0
  have main : ∀ (d : Int) (m2 : Mm), (-1 ≤ s ∧ (1 ≤ n ∧ n ≤ 100) ∧ 0 ≤ q ∧ q ≤ 1) → (d = if s = -1 then E 602 582 else s) → m2 = umem m1 597 50 d → TrV 241 [(1, 597)] m2 fun m3 => ∀ m4, m4 = umem m3 597 40 0 → X 280 71 [(1, 597), (0, s), (0, n), (0, q), (0, 0), (0, -2), (0, 0), (9, 0)] [] m4 (qI K) := by
    intro d m2 hv hd e2
    rw [if_pos hv, ← hd] at kk
    have A2 : Ag E m2 := B1.a.fr fun x k hp => by
      unfold per at hp
      rw [e2, um_n (by omega)]
    refine c241 T B.p B.w A2 fun m3 f3 C3 => fun m4 e4 => ?_
    have f4 : gR m m4 := fun x k n1 n2 => by rw [e4, um_n (by omega), f3 x k (by omega), e2, um_n (by omega)]; exact f1 x k n1 n2
    have z4 : m4 597 40 = 0 := by rw [e4, um_s]
    have x4 : m4 597 50 = d := by rw [e4, um_k (by decide), f3 _ _ (by decide), e2, um_s]
    have C4 : CA E m4 := C3.fr fun x k x0 x1 => by rw [e4, um_x (by omega)]
    have A4 : Ag E m4 := B.a.fr fun x k hp => by
      unfold per at hp
      exact f4 x k (by omega) (by omega)
    have runs : ∀ (l k : Nat) (m5 : Mm) (v7 : aV), (k : Int) + l = n → f281 m4 m5 → m5 597 50 = chD E d k → X 280 71 [(1, 597), (0, s), (0, n), (0, q), (0, chH E d k), (0, cvt (chL E d k)), (0, (k : Int)), v7] [] m5 (qI K) := by
      intro l
      induction l with
      | zero =>
        intro k m5 v7 hk f5 x5
        have go := kk m5 (f4.tr fun x k n1 n2 => f5 x k (by omega) (by omega)) (by rw [f5 _ _ (by decide) (by decide)]; exact z4)
        refine w280_71 _ _ _ _ _ _ v7 ⟨fun h => absurd h (by omega), fun _ => ⟨fun hq => ?_, fun hq => ?_⟩⟩
        · rw [if_pos hq, show n.toNat = k by omega] at go
          exact go
        · rw [if_neg hq, show n.toNat = k by omega] at go
          exact go
      | succ l ih =>
        intro k m5 v7 hk f5 x5
        have hh := chH_rng (E := E) (d := d) k
        have hl := chL_rng (d := d) T B.p B.w k
        have cr := (drC_rng (d := chD E d k) T B.p B.w (E 597 23).toNat (by omega)).1
        refine w280_71 _ _ _ _ _ _ v7 ⟨fun _ => ?_, fun h => absurd (show (k : Int) < n by omega) h⟩
        refine c281 T B.p B.w (f5.ag A4) (C4.fr fun x k x0 x1 => f5 x k (by omega) (by omega)) (by rw [f5 _ _ (by decide) (by decide)]; exact z4) x5 fun m6 f6 x6 => ?_
        have f46 : f281 m4 m6 := fun x k n1 n2 => (f6 x k n1 n2).trans (f5 x k n1 n2)
        have e1' : chD E d (k + 1) = drD (E 597 23).toNat (chD E d k) := rfl
        have e2' : chH E d (k + 1) = chH E d k + if drC E (chD E d k) (E 597 23).toNat < 1000000 then 1 else 0 := rfl
        have e3' : chL E d (k + 1) = min (chL E d k) (drC E (chD E d k) (E 597 23).toNat) := rfl
        rw [wrI (x := (k : Int) + 1) (by omega) (by omega)]
        have next : ∀ (a5 v : Int), chH E d (k + 1) = v → cvt (chL E d (k + 1)) = a5 → ∀ v7, X 280 71 [(1, 597), (0, s), (0, n), (0, q), (0, v), (0, a5), (0, ((k + 1 : Nat) : Int)), v7] [] m6 (qI K) := fun a5 v h1 h2 v7 => by
          rw [← h1, ← h2]
          exact ih (k + 1) m6 v7 (by omega) f46 (by rw [e1']; exact x6)
        generalize drC E (chD E d k) (E 597 23).toNat = c at *
        generalize chL E d k = lo at *
        have cc := cvt_ge (c := c) cr.1
        have cl := cvt_ge (c := lo) hl.1
        refine ⟨fun h => next _ _ ?_ ?_ _, fun h => ?_⟩
        · rw [e2', if_neg (cc.1 h), Int.add_zero]
        · rw [e3']
          have := cc.1 h
          exact congrArg cvt (by omega)
        · obtain ⟨c1, c2⟩ := cc.2 h
          have hH : chH E d (k + 1) = wr (chH E d k + 1) := by rw [e2', if_pos c1, wrI (by omega) (by omega)]
          refine ⟨fun h2 => next _ _ hH ?_ _, fun h2 => ⟨fun h3 => next _ _ hH ?_ _, fun h3 => next _ _ hH ?_ _⟩⟩
          · have := cl.1 h2
            rw [e3']
            exact congrArg cvt (by omega)
          · have := cl.2 h2
            rw [e3']
            exact congrArg cvt (by omega)
          · have := cl.2 h2
            rw [e3']
            exact congrArg cvt (by omega)
    exact runs n.toNat 0 m4 (9, 0) (by omega) (fun _ _ _ _ => rfl) x4
  refine ⟨fun h => no (by omega), fun h1 => ⟨fun h2 => ⟨fun h3 => ⟨fun h => ⟨B1.a.b.trans T.1, fun m19 e19 => ?_⟩, fun h => fun m11 e11 => ?_⟩, fun h3 => no (by omega)⟩, fun h2 => no (by omega)⟩⟩
  · have e582 : m1 602 582 = E 602 582 := B1.a.a (by decide)
    rw [e582] at e19
    exact main _ m19 (by omega) (by rw [if_pos (by omega)]) e19
  · exact main s m11 (by omega) (by rw [if_neg (by omega)]) e11
