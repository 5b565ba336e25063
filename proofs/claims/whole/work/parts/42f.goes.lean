/-! the reference: goesBy(270) -/
theorem sd31 : ∀ s : Nat, s < 279 → idiv (s : Int) 31 = ((s / 31 : Nat) : Int) ∧ irem (s : Int) 31 = ((s % 31 : Nat) : Int) := by decide +kernel
theorem sd31_at {k c : Int} (hk : 0 ≤ k ∧ k ≤ 8) (hc : 0 ≤ c ∧ c ≤ 30) : idiv (31 * k + c) 31 = k ∧ irem (31 * k + c) 31 = c := by
  have h := sd31 (31 * k + c).toNat (by omega)
  rw [show (((31 * k + c).toNat : Nat) : Int) = 31 * k + c by omega] at h
  omega
theorem lex31 {k c k' c' : Int} (hc : 0 ≤ c ∧ c ≤ 30) (hc' : 0 ≤ c' ∧ c' ≤ 30) (h : 31 * k + c = 31 * k' + c') : k = k' ∧ c = c' := by omega
/-- the states that stand in a row of the reference's: H -/
def RepR (E m : Mm) (e x : Int) (H : hS) : Prop := (∀ i, 0 ≤ i → i < 279 → m x i = 0 ∨ (m x i = 1 ∧ ∃ k c, (0 ≤ k ∧ k ≤ zsz (E 602) e) ∧ (0 ≤ c ∧ c ≤ 30) ∧ i = 31 * k + c)) ∧ ∀ k c, H k c ↔ (0 ≤ k ∧ k ≤ zsz (E 602) e) ∧ (0 ≤ c ∧ c ≤ 30) ∧ m x (31 * k + c) = 1
def GdR (E : Mm) (e : Int) (d : Nat) (H : hS) (v : Int) (k c b : Int) : Prop := H k c ∧ (0 ≤ b ∧ b ≤ E 602 578) ∧ nxB (E 602) e k c b = true ∧ RE (E 602) e d (nxK (E 602) k b) (cdA (E 602) b) = true ∧ byT (E 602) e k b = v
def toR (E : Mm) (k b : Int) : Int := 31 * nxK (E 602) k b + cdA (E 602) b
theorem sg_inj : ∀ s : Nat, s < 10 → ∀ s' : Nat, s' < 10 → cs 600 (s : Int) = cs 600 (s' : Int) → s = s' := by decide +kernel
theorem sg_let : ∀ s : Nat, s < 10 → cs 600 (s : Int) < 97 ∨ 122 < cs 600 (s : Int) := by decide +kernel
theorem sgi {s s' : Int} (h : 0 ≤ s ∧ s < 10) (h' : 0 ≤ s' ∧ s' < 10) (e : cs 600 s = cs 600 s') : s = s' := by
  have := sg_inj s.toNat (by omega) s'.toNat (by omega)
  rw [show ((s.toNat : Nat) : Int) = s by omega, show ((s'.toNat : Nat) : Int) = s' by omega] at this
  have := this e
  omega
theorem sgl {s : Int} (h : 0 ≤ s ∧ s < 10) : cs 600 s < 97 ∨ 122 < cs 600 s := by
  have := sg_let s.toNat (by omega)
  rw [show ((s.toNat : Nat) : Int) = s by omega] at this
  exact this
/-- which pairs write a letter, a sign -/
theorem by_let {E : Mm} (T : InvT E) {e k c b v : Int} (he : 0 ≤ e ∧ e < E 602 579) (hk : 0 ≤ k) (hb : 0 ≤ b ∧ b ≤ E 602 578) (hv : 0 ≤ v ∧ v < 26) : (nxB (E 602) e k c b = true ∧ byT (E 602) e k b = byB v) ↔ (b = 0 ∧ k < zsz (E 602) e ∧ zL (E 602) e k = v ∧ letB c v = true) := by
  have hB : byB v = 97 + v := if_pos (by omega)
  unfold nxB byT
  rw [hB]
  by_cases h0 : b = 0
  · rw [if_pos h0, if_pos h0, Bool.and_eq_true, decide_eq_true_eq]
    constructor
    · rintro ⟨⟨h1, h2⟩, h3⟩
      have : zL (E 602) e k = v := by omega
      rw [this] at h2
      exact ⟨h0, h1, this, h2⟩
    · rintro ⟨-, h1, h2, h3⟩
      rw [h2]
      exact ⟨⟨h1, h3⟩, rfl⟩
  · rw [if_neg h0, if_neg h0]
    have hM := T.2.2.2.2.2.2.1 (b - 1) (by omega) (by omega)
    have := sgl hM.2.2.1
    constructor
    · rintro ⟨_, h⟩
      omega
    · rintro ⟨h, _⟩
      exact absurd h h0
theorem by_sgn {E : Mm} (T : InvT E) {e k c b s : Int} (he : 0 ≤ e ∧ e < E 602 579) (hk : 0 ≤ k) (hb : 0 ≤ b ∧ b ≤ E 602 578) (hs : 0 ≤ s ∧ s < 10) : (nxB (E 602) e k c b = true ∧ byT (E 602) e k b = byB (32 + s)) ↔ (1 ≤ b ∧ letB c 32 = true ∧ canT (E 602) (b - 1) e k = true ∧ E 602 (11 * (b - 1)) = s) := by
  have hB : byB (32 + s) = cs 600 s := by
    unfold byB
    rw [if_neg (by omega)]
    exact congrArg (cs 600) (by omega)
  have hl := sgl hs
  unfold nxB byT
  rw [hB]
  by_cases h0 : b = 0
  · rw [if_pos h0, if_pos h0, Bool.and_eq_true, decide_eq_true_eq]
    constructor
    · rintro ⟨⟨h1, _⟩, h3⟩
      have := zL_rng T he ⟨hk, h1⟩
      omega
    · rintro ⟨h, _⟩
      omega
  · rw [if_neg h0, if_neg h0, Bool.and_eq_true]
    have hM := T.2.2.2.2.2.2.1 (b - 1) (by omega) (by omega)
    constructor
    · rintro ⟨⟨h1, h2⟩, h3⟩
      exact ⟨by omega, h1, h2, sgi hM.2.2.1 hs h3⟩
    · rintro ⟨_, h1, h2, h3⟩
      exact ⟨⟨h1, h2⟩, by rw [h3]⟩
theorem c270 {E m : Mm} {K : Int → Mm → Prop} {e ib : Int} {d : Nat} {H : hS} (T : InvT E) (A : Ag E m) (he : 0 ≤ e ∧ e < E 602 579) (hd : d < 9) (hib : (0 ≤ ib ∧ ib < 26) ∨ (32 ≤ ib ∧ ib < 42)) (Rd : ReM E m e d) (R : RepR E m e 623 H)
    (yes : ∀ m', (∀ x k, x ≠ 624 → m' x k = m x k) → goS (E 602) e d H (byB ib) → RepR E m' e 624 (stp (E 602) e d H (byB ib)) → K 1 m') (no : ∀ m', (∀ x k, x ≠ 624 → m' x k = m x k) → ¬ goS (E 602) e d H (byB ib) → K 0 m') : TrI 270 [(1, 597), (0, e), (0, ib), (0, (d : Int))] m K := by
  have T2 := T.2.1
  have T3 := T.2.2.1
  have zr := zsz_rng T he
  obtain ⟨v, hv⟩ : ∃ v, v = byB ib := ⟨_, rfl⟩
  rw [← hv] at yes no
  have hH : ∀ k c, H k c → (0 ≤ k ∧ k ≤ zsz (E 602) e) ∧ 0 ≤ c ∧ c ≤ 30 := fun k c h => ⟨((R.2 k c).mp h).1, ((R.2 k c).mp h).2.1⟩
  have to_rng : ∀ k c b, GdR E e d H v k c b → (0 ≤ nxK (E 602) k b ∧ nxK (E 602) k b ≤ zsz (E 602) e) ∧ 0 ≤ cdA (E 602) b ∧ cdA (E 602) b ≤ 30 := fun k c b g => nx_rng T he (hH k c g.1).1.1 g.2.1 g.2.2.1
  have fA : ∀ m1 : Mm, (∀ x k, x ≠ 624 → m1 x k = m x k) → Ag E m1 := fun m1 f => A.fr fun x k hp => by
    unfold per at hp
    exact f x k (by omega)
  have fR : ∀ m1 : Mm, (∀ x k, x ≠ 624 → m1 x k = m x k) → ReM E m1 e d := fun m1 f k c k0 k1 c0 c1 => by
    rw [f _ _ (by decide)]
    exact Rd k c k0 k1 c0 c1
  -- where all pairs of P have been looked at
  have fin : ∀ (m1 : Mm) (a : Int), (∀ x k, x ≠ 624 → m1 x k = m x k) → ((a = 1 ∧ ∃ k c b, GdR E e d H v k c b) ∨ (a = 0 ∧ ∀ k c b, ¬ GdR E e d H v k c b)) → (∀ s, 0 ≤ s → s < 279 → (m1 624 s = 0 ∧ ∀ k c b, GdR E e d H v k c b → toR E k b ≠ s) ∨ (m1 624 s = 1 ∧ ∃ k c b, GdR E e d H v k c b ∧ toR E k b = s)) → K a m1 := by
    intro m1 a f ha I
    rcases ha with ⟨rfl, k, c, b, g⟩ | ⟨rfl, hno⟩
    · refine yes m1 f ⟨k, c, b, g⟩ ⟨fun s s0 s1 => ?_, fun k' c' => ?_⟩
      · rcases I s s0 s1 with ⟨h, _⟩ | ⟨h, k, c, b, g, hto⟩
        · exact Or.inl h
        · have := to_rng k c b g
          exact Or.inr ⟨h, _, _, this.1, this.2, hto.symm⟩
      · constructor
        · rintro ⟨k, c, b, h1, h2, h3, h4, h5, rfl, rfl⟩
          have g : GdR E e d H v k c b := ⟨h1, h2, h3, h4, h5⟩
          have tr := to_rng k c b g
          refine ⟨tr.1, tr.2, ?_⟩
          rcases I (31 * nxK (E 602) k b + cdA (E 602) b) (by omega) (by omega) with ⟨_, h⟩ | ⟨h, _⟩
          · exact absurd rfl (h k c b g)
          · exact h
        · rintro ⟨hk, hc, h1⟩
          rcases I (31 * k' + c') (by omega) (by omega) with ⟨h, _⟩ | ⟨_, k, c, b, g, hto⟩
          · rw [h] at h1
            exact absurd h1 (by decide)
          · have tr := to_rng k c b g
            obtain ⟨p1, p2⟩ := lex31 tr.2 hc hto
            exact ⟨k, c, b, g.1, g.2.1, g.2.2.1, g.2.2.2.1, g.2.2.2.2, p1.symm, p2.symm⟩
    · exact no m1 f fun ⟨k, c, b, g⟩ => hno k c b g
  have states : ∀ (n i : Nat) (m1 : Mm) (a : Int) (v6 v7 v8 : aV), i + n = 279 → (∀ x k, x ≠ 624 → m1 x k = m x k) → ((a = 1 ∧ ∃ k c b, GdR E e d H v k c b) ∨ (a = 0 ∧ ∀ k c b, GdR E e d H v k c b → ¬ 31 * k + c < (i : Int))) → (∀ s, 0 ≤ s → s < 279 → (m1 624 s = 0 ∧ ∀ k c b, GdR E e d H v k c b → 31 * k + c < (i : Int) → toR E k b ≠ s) ∨ (m1 624 s = 1 ∧ ∃ k c b, GdR E e d H v k c b ∧ toR E k b = s)) → X 270 31 [(1, 597), (0, e), (0, ib), (0, (d : Int)), (0, a), (0, (i : Int)), v6, v7, v8] [] m1 (qI K) := by
    intro n
    induction n with
    | zero =>
      intro i m1 a v6 v7 v8 hi f ha I
      have hlt : ∀ k c b, GdR E e d H v k c b → 31 * k + c < (i : Int) := fun k c b g => by
        have := hH k c g.1
        omega
      refine w270_31 _ _ _ _ _ v6 v7 v8 ⟨fun h => absurd h (by omega), fun _ => ⟨ha.elim (fun h => Or.inr h.1) fun h => Or.inl h.1, ?_⟩⟩
      exact fin m1 a f (ha.imp (fun h => h) fun h => ⟨h.1, fun k c b g => h.2 k c b g (hlt k c b g)⟩) fun s s0 s1 => (I s s0 s1).imp (fun h => ⟨h.1, fun k c b g => h.2 k c b g (hlt k c b g)⟩) fun h => h
    | succ n ih =>
      intro i m1 a v6 v7 v8 hi f ha I
      have qi : Unit → wr ((i : Int) + 1) = ((i + 1 : Nat) : Int) := fun _ => wrI (by omega) (by omega)
      have A1 := fA m1 f
      have b0 := A1.b.trans T.1
      have R1 := fR m1 f
      -- a state by which nothing comes
      have skip : (∀ k c b, GdR E e d H v k c b → 31 * k + c ≠ (i : Int)) → ∀ v6 v7 v8, X 270 31 [(1, 597), (0, e), (0, ib), (0, (d : Int)), (0, a), (0, ((i + 1 : Nat) : Int)), v6, v7, v8] [] m1 (qI K) := fun hno v6 v7 v8 => ih (i + 1) m1 a v6 v7 v8 (by omega) f (ha.imp (fun h => h) fun h => ⟨h.1, fun k c b g hlt => by
          have := hno k c b g
          exact h.2 k c b g (by omega)⟩) fun s s0 s1 => (I s s0 s1).imp (fun h => ⟨h.1, fun k c b g hlt => by
          have := hno k c b g
          exact h.2 k c b g (by omega)⟩) fun h => h
      refine w270_31 _ _ _ _ _ v6 v7 v8 ⟨fun _ => ⟨by omega, ?_⟩, fun h => absurd (show (i : Int) < 279 by omega) h⟩
      rw [f 623 _ (by decide), qi ()]
      rcases R.1 i (by omega) (by omega) with h0 | ⟨h1, k, c, hk, hc, hi2⟩
      · refine ⟨fun _ => skip (fun k c b g hq => ?_) _ _ _, fun h => absurd h0 h⟩
        have := ((R.2 k c).mp g.1).2.2
        rw [hq, h0] at this
        exact absurd this (by decide)
      · have hHk : H k c := (R.2 k c).mpr ⟨hk, hc, by rw [← hi2]; exact h1⟩
        obtain ⟨q1, q2⟩ := sd31_at (k := k) (c := c) (by omega) hc
        have only : ∀ k' c' b, GdR E e d H v k' c' b → 31 * k' + c' = (i : Int) → k' = k ∧ c' = c := fun k' c' b g hq => lex31 (hH k' c' g.1).2 hc (by omega)
        rw [hi2, q1, q2, ← hi2]
        refine ⟨fun h => absurd (h1.symm.trans h) (by decide), fun _ => ⟨by omega, fun hl => ⟨fun hlo => ?_, fun hhi => ?_⟩, fun hl => skip (fun k' c' b g hq => ?_) _ _ _⟩⟩
        · -- a letter
          have hib2 : 0 ≤ ib ∧ ib < 26 := by omega
          have qe : wr (264 + wr (11 * e)) = 264 + 11 * e := by
            rw [wrI (x := 11 * e) (by omega) (by omega), wrI (by omega) (by omega)]
          have gd0 : ∀ b, GdR E e d H v k c b ↔ (b = 0 ∧ k < zsz (E 602) e ∧ zL (E 602) e k = ib ∧ RE (E 602) e d (k + 1) 0 = true) := fun b => by
            constructor
            · rintro ⟨_, g2, g3, g4, g5⟩
              rw [hv] at g5
              obtain ⟨p1, p2, p3, p4⟩ := (by_let T he hk.1 g2 hib2).mp ⟨g3, g5⟩
              rw [p1] at g4
              exact ⟨p1, p2, p3, g4⟩
            · rintro ⟨p1, p2, p3, p4⟩
              obtain ⟨g3, g5⟩ := (by_let (c := c) T he hk.1 (b := b) (by omega) hib2).mpr ⟨p1, p2, p3, hl⟩
              rw [p1] at g3 g5 ⊢
              rw [← hv] at g5
              exact ⟨hHk, by omega, g3, p4, g5⟩
          -- with what has been found
          have tail : ∀ s0 : Int, ((s0 = 1 ∧ GdR E e d H v k c 0) ∨ (s0 = 0 ∧ ∀ b, ¬ GdR E e d H v k c b)) → X 270 127 [(1, 597), (0, e), (0, ib), (0, (d : Int)), (0, a), (0, (i : Int)), (0, k), v7, v8] [(0, s0)] m1 (qI K) := by
            intro s0 hs
            refine w270_127 _ _ _ _ _ _ v7 v8 _ ?_
            rw [qi ()]
            rcases hs with ⟨rfl, g⟩ | ⟨rfl, hno⟩
            · have p := (gd0 0).mp g
              have q31 : wr (31 * wr (k + 1)) = 31 * (k + 1) := by
                rw [wrI (x := k + 1) (by omega) (by omega), wrI (by omega) (by omega)]
              rw [q31]
              clear q31
              have hto : toR E k 0 = 31 * (k + 1) := by
                show 31 * (k + 1) + 0 = _
                omega
              refine ⟨fun h => absurd h (by decide), fun _ => ⟨by omega, fun m9 e9 => ?_⟩⟩
              have f9 : ∀ x k, x ≠ 624 → m9 x k = m x k := fun x k hn => by rw [e9, um_x hn]; exact f x k hn
              have go : X 270 31 [(1, 597), (0, e), (0, ib), (0, (d : Int)), (0, 1), (0, ((i + 1 : Nat) : Int)), (0, k), (0, 1), v8] [] m9 (qI K) := by
                refine ih (i + 1) m9 1 _ _ v8 (by omega) f9 (Or.inl ⟨rfl, k, c, 0, g⟩) fun s s0 s1 => ?_
                by_cases hs : s = 31 * (k + 1)
                · refine Or.inr ⟨?_, k, c, 0, g, hto.trans hs.symm⟩
                  rw [hs, e9, um_s]
                · rw [e9, um_k hs]
                  refine (I s s0 s1).imp (fun h => ⟨h.1, fun k' c' b g' hlt => ?_⟩) fun h => h
                  by_cases hq : 31 * k' + c' = (i : Int)
                  · obtain ⟨r1, r2⟩ := only k' c' b g' hq
                    rw [r1, r2] at g'
                    rw [r1, ((gd0 b).mp g').1, hto]
                    exact fun z => hs z.symm
                  · exact h.2 k' c' b g' (by omega)
              exact ⟨fun _ => ⟨fun z => absurd z (by decide), fun _ => go⟩, fun _ => go⟩
            · have hskip : ∀ k' c' b, GdR E e d H v k' c' b → 31 * k' + c' ≠ (i : Int) := fun k' c' b g' hq => by
                obtain ⟨r1, r2⟩ := only k' c' b g' hq
                rw [r1, r2] at g'
                exact hno b g'
              refine ⟨fun _ => ⟨fun ha0 => ⟨fun _ => ?_, fun z => absurd rfl z⟩, fun ha0 => ?_⟩, fun z => absurd rfl z⟩
              · rw [← ha0]
                exact skip hskip _ _ _
              · have : a = 1 := ha.elim (fun h => h.1) fun h => absurd h.1 ha0
                rw [← this]
                exact skip hskip _ _ _
          rw [qe, A1.a (show 264 + 11 * e < 583 by clear qe; omega), show E 602 (264 + 11 * e) = zsz (E 602) e from rfl]
          refine ⟨⟨b0, by clear qe; omega, by clear qe; omega⟩, fun hkn => ?_, fun hkn => tail 0 (Or.inr ⟨rfl, fun b g => hkn ((gd0 b).mp g).2.1⟩)⟩
          have qL : wr (wr (264 + 11 * e + 3) + k) = 264 + 11 * e + 3 + k := by
            rw [wrI (x := 264 + 11 * e + 3) (by clear qe; omega) (by clear qe; omega), wrI (by clear qe; omega) (by clear qe; omega)]
          rw [qL, A1.a (show 264 + 11 * e + 3 + k < 583 by clear qe qL; omega), show E 602 (264 + 11 * e + 3 + k) = zL (E 602) e k from rfl]
          refine ⟨⟨b0, by clear qe qL; omega, by clear qe qL; omega⟩, fun hL => ?_, fun hL => tail 0 (Or.inr ⟨rfl, fun b g => hL ((gd0 b).mp g).2.2.1⟩)⟩
          have q5 : wr (wr (wr (279 * (d : Int)) + wr (31 * wr (k + 1))) + 0) = 279 * (d : Int) + 31 * (k + 1) + 0 := by
            rw [wrI (x := k + 1) (by clear qe qL; omega) (by clear qe qL; omega), wrI (x := 279 * (d : Int)) (by clear qe qL; omega) (by clear qe qL; omega), wrI (x := 31 * (k + 1)) (by clear qe qL; omega) (by clear qe qL; omega), wrI (x := 279 * (d : Int) + _) (by clear qe qL; omega) (by clear qe qL; omega), wrI (by clear qe qL; omega) (by clear qe qL; omega)]
          rw [q5, R1 (k + 1) 0 (by clear qe qL q5; omega) (by clear qe qL q5; omega) (Int.le_refl _) (by decide)]
          clear q5 qL qe
          refine ⟨by omega, fun h => tail 0 (Or.inr ⟨rfl, fun b g => ?_⟩), fun h => tail 1 (Or.inl ⟨rfl, (gd0 0).mpr ⟨rfl, hkn, hL, ?_⟩⟩)⟩
          · rw [if_pos ((gd0 b).mp g).2.2.2] at h
            exact absurd h (by decide)
          · split at h
            · assumption
            · exact absurd rfl h
        · -- a sign
          have hib2 : 32 ≤ ib ∧ ib < 42 := by omega
          have hl32 : letB c 32 = true := by rw [← letB_sg (b := ib) (by omega)]; exact hl
          have gdr : ∀ b, GdR E e d H v k c b ↔ ((1 ≤ b ∧ b ≤ E 602 578) ∧ canT (E 602) (b - 1) e k = true ∧ E 602 (11 * (b - 1)) = ib - 32 ∧ RE (E 602) e d (nxK (E 602) k b) (cdA (E 602) b) = true) := fun b => by
            have hbb : byB ib = byB (32 + (ib - 32)) := congrArg byB (by omega)
            constructor
            · rintro ⟨_, g2, g3, g4, g5⟩
              rw [hv, hbb] at g5
              obtain ⟨p1, p2, p3, p4⟩ := (by_sgn T he hk.1 g2 (by omega)).mp ⟨g3, g5⟩
              exact ⟨⟨p1, g2.2⟩, p3, p4, g4⟩
            · rintro ⟨p1, p2, p3, p4⟩
              obtain ⟨g3, g5⟩ := (by_sgn (c := c) T he hk.1 (b := b) (s := ib - 32) (by omega) (by omega)).mpr ⟨p1.1, hl32, p2, p3⟩
              rw [← hbb, ← hv] at g5
              exact ⟨hHk, by omega, g3, p4, g5⟩
          have reads : ∀ (n r : Nat) (m2 : Mm) (a : Int) (v8 : aV), (r : Int) + n = E 602 578 → (∀ x k, x ≠ 624 → m2 x k = m x k) → ((a = 1 ∧ ∃ k c b, GdR E e d H v k c b) ∨ (a = 0 ∧ ∀ k' c' b, GdR E e d H v k' c' b → ¬ (31 * k' + c' < (i : Int) ∨ (31 * k' + c' = (i : Int) ∧ b ≤ (r : Int))))) → (∀ s, 0 ≤ s → s < 279 → (m2 624 s = 0 ∧ ∀ k' c' b, GdR E e d H v k' c' b → (31 * k' + c' < (i : Int) ∨ (31 * k' + c' = (i : Int) ∧ b ≤ (r : Int))) → toR E k' b ≠ s) ∨ (m2 624 s = 1 ∧ ∃ k c b, GdR E e d H v k c b ∧ toR E k b = s)) → X 270 170 [(1, 597), (0, e), (0, ib), (0, (d : Int)), (0, a), (0, (i : Int)), (0, k), (0, (r : Int)), v8] [] m2 (qI K) := by
            intro n
            induction n with
            | zero =>
              intro r m2 a v8 hr f2 ha2 I2
              have A2 := fA m2 f2
              refine w270_170 _ _ _ _ _ _ _ v8 ⟨A2.b.trans T.1, fun h => absurd h (by rw [A2.r]; omega), fun _ => ?_⟩
              rw [qi ()]
              have hle : ∀ k' c' b, GdR E e d H v k' c' b → 31 * k' + c' < ((i + 1 : Nat) : Int) → (31 * k' + c' < (i : Int) ∨ (31 * k' + c' = (i : Int) ∧ b ≤ (r : Int))) := fun k' c' b g hlt => by
                have := g.2.1
                omega
              exact ih (i + 1) m2 a _ _ v8 (by omega) f2 (ha2.imp (fun h => h) fun h => ⟨h.1, fun k' c' b g hlt => h.2 k' c' b g (hle k' c' b g hlt)⟩) fun s s0 s1 => (I2 s s0 s1).imp (fun h => ⟨h.1, fun k' c' b g hlt => h.2 k' c' b g (hle k' c' b g hlt)⟩) fun h => h
            | succ n ihr =>
              intro r m2 a v8 hr f2 ha2 I2
              have A2 := fA m2 f2
              have b2 := A2.b.trans T.1
              have R2 := fR m2 f2
              have hrr : 0 ≤ (r : Int) ∧ (r : Int) < E 602 578 := by omega
              have hM := T.2.2.2.2.2.2.1 r hrr.1 hrr.2
              have h3 := hM.2.2.2.1
              have h4 := hM.2.2.2.2.2.1
              have h5 := hM.2.2.1
              have e24 : e < 24 := by omega
              have qr : Unit → wr ((r : Int) + 1) = ((r + 1 : Nat) : Int) := fun _ => wrI (by omega) (by omega)
              have hrm : (r : Int) + 1 - 1 = r := by omega
              have hrn : ((r + 1 : Nat) : Int) = (r : Int) + 1 := by omega
              -- a reading by which nothing comes
              have pass : (¬ GdR E e d H v k c ((r : Int) + 1)) → ∀ v8, X 270 170 [(1, 597), (0, e), (0, ib), (0, (d : Int)), (0, a), (0, (i : Int)), (0, k), (0, ((r + 1 : Nat) : Int)), v8] [] m2 (qI K) := fun hn v8 => by
                have back : ∀ k' c' b, GdR E e d H v k' c' b → (31 * k' + c' < (i : Int) ∨ (31 * k' + c' = (i : Int) ∧ b ≤ ((r + 1 : Nat) : Int))) → (31 * k' + c' < (i : Int) ∨ (31 * k' + c' = (i : Int) ∧ b ≤ (r : Int))) := fun k' c' b g hlt => by
                  by_cases hq : 31 * k' + c' = (i : Int) ∧ b = (r : Int) + 1
                  · obtain ⟨r1, r2⟩ := only k' c' b g hq.1
                    rw [r1, r2, hq.2] at g
                    exact absurd g hn
                  · omega
                exact ihr (r + 1) m2 a v8 (by omega) f2 (ha2.imp (fun h => h) fun h => ⟨h.1, fun k' c' b g hlt => h.2 k' c' b g (back k' c' b g hlt)⟩) fun s s0 s1 => (I2 s s0 s1).imp (fun h => ⟨h.1, fun k' c' b g hlt => h.2 k' c' b g (back k' c' b g hlt)⟩) fun h => h
              have q11 : wr (11 * (r : Int)) = 11 * r := wrI (by omega) (by omega)
              have qib : wr (ib - 32) = ib - 32 := wrI (by clear q11; omega) (by clear q11; omega)
              refine w270_170 _ _ _ _ _ _ _ v8 ⟨b2, fun _ => ?_, fun h => absurd (show (r : Int) < m2 602 578 by rw [A2.r]; exact hrr.2) h⟩
              rw [q11, qib, A2.a (show 11 * (r : Int) < 583 by clear q11 qib; omega), qr ()]
              clear qib
              refine ⟨⟨b2, by clear q11; omega, by clear q11; omega⟩, fun hsg => ?_, fun hsg => pass (fun g => hsg ?_) _⟩
              · refine c268 T A2 he hk hrr ?_
                by_cases hcan : canT (E 602) r e k = true
                · obtain ⟨h1', h2'⟩ := canT_bhd hcan
                  have q3 : wr (11 * (r : Int) + 3) = 11 * (r : Int) + 3 := wrI (by clear q11; omega) (by clear q11; omega)
                  rw [bi_t hcan]
                  refine ⟨fun h => absurd h (by decide), fun _ => ⟨v_B_of A2 T hrr he hk, ?_⟩⟩
                  rw [q3, bhd_ag A2 hM e24 (by clear q11 q3; omega), h1', A2.a (show 11 * (r : Int) + 3 < 583 by clear q11 q3; omega)]
                  have q4 : wr (wr (31 * (k + E 602 (11 * (r : Int) + 1))) + E 602 (11 * (r : Int) + 3)) = 31 * (k + E 602 (11 * (r : Int) + 1)) + E 602 (11 * (r : Int) + 3) := by
                    rw [wrI (x := 31 * (k + E 602 (11 * (r : Int) + 1))) (by clear q11 q3; omega) (by clear q11 q3; omega), wrI (by clear q11 q3; omega) (by clear q11 q3; omega)]
                  rw [q4]
                  have q6 : wr (wr (279 * (d : Int)) + (31 * (k + E 602 (11 * (r : Int) + 1)) + E 602 (11 * (r : Int) + 3))) = 279 * (d : Int) + 31 * (k + E 602 (11 * (r : Int) + 1)) + E 602 (11 * (r : Int) + 3) := by
                    rw [wrI (x := 279 * (d : Int)) (by clear q11 q3 q4; omega) (by clear q11 q3 q4; omega), wrI (by clear q11 q3 q4; omega) (by clear q11 q3 q4; omega)]
                    clear q11 q3 q4
                    omega
                  rw [q6, R2 _ _ (by clear q11 q3 q4 q6; omega) h2' h4.1 h4.2]
                  clear q11 q3 q4 q6
                  have hK : nxK (E 602) k ((r : Int) + 1) = k + E 602 (11 * (r : Int) + 1) := by
                    unfold nxK
                    rw [if_neg (by omega), hrm]
                  have hA : cdA (E 602) ((r : Int) + 1) = E 602 (11 * (r : Int) + 3) := by
                    unfold cdA
                    rw [if_neg (by omega), hrm]
                  refine ⟨⟨b2, by omega, by omega⟩, by omega, fun h => pass (fun g => ?_) _, fun h => ⟨by omega, fun m24 e24' => ?_⟩⟩
                  · have := ((gdr _).mp g).2.2.2
                    rw [hK, hA] at this
                    rw [if_pos this] at h
                    exact absurd h (by decide)
                  · have hRE : RE (E 602) e d (k + E 602 (11 * (r : Int) + 1)) (E 602 (11 * (r : Int) + 3)) = true := by
                      split at h
                      · assumption
                      · exact absurd rfl h
                    have g : GdR E e d H v k c ((r : Int) + 1) := (gdr _).mpr ⟨by omega, by rw [hrm]; exact hcan, by rw [hrm]; exact hsg, by rw [hK, hA]; exact hRE⟩
                    have hto : toR E k ((r : Int) + 1) = 31 * (k + E 602 (11 * (r : Int) + 1)) + E 602 (11 * (r : Int) + 3) := by
                      unfold toR
                      rw [hK, hA]
                    refine ihr (r + 1) m24 1 _ (by omega) (fun x k hn => by rw [e24', um_x hn]; exact f2 x k hn) (Or.inl ⟨rfl, k, c, _, g⟩) fun s s0 s1 => ?_
                    by_cases hs : s = 31 * (k + E 602 (11 * (r : Int) + 1)) + E 602 (11 * (r : Int) + 3)
                    · refine Or.inr ⟨?_, k, c, _, g, hto.trans hs.symm⟩
                      rw [hs, e24', um_s]
                    · rw [e24', um_k hs]
                      refine (I2 s s0 s1).imp (fun h => ⟨h.1, fun k' c' b g' hlt => ?_⟩) fun h => h
                      by_cases hq : 31 * k' + c' = (i : Int) ∧ b = (r : Int) + 1
                      · obtain ⟨r1, r2⟩ := only k' c' b g' hq.1
                        rw [r1, hq.2, hto]
                        exact fun z => hs z.symm
                      · exact h.2 k' c' b g' (by omega)
                · rw [bi_f hcan]
                  refine ⟨fun _ => pass (fun g => hcan ?_) _, fun h => absurd rfl h⟩
                  have := ((gdr _).mp g).2.1
                  rw [hrm] at this
                  exact this
              · have := ((gdr _).mp g).2.2.1
                rw [hrm] at this
                exact this
          refine reads (E 602 578).toNat 0 m1 a v8 (by omega) f (ha.imp (fun h => h) fun h => ⟨h.1, fun k' c' b g hlt => ?_⟩) fun s s0 s1 => (I s s0 s1).imp (fun h => ⟨h.1, fun k' c' b g hlt => ?_⟩) fun h => h
          · rcases hlt with hlt | hlt
            · exact h.2 k' c' b g hlt
            · obtain ⟨r1, r2⟩ := only k' c' b g hlt.1
              rw [r1, r2] at g
              have := ((gdr b).mp g).1
              omega
          · rcases hlt with hlt | hlt
            · exact h.2 k' c' b g hlt
            · obtain ⟨r1, r2⟩ := only k' c' b g hlt.1
              rw [r1, r2] at g
              have := ((gdr b).mp g).1
              omega
        · -- what comes is not let
          obtain ⟨r1, r2⟩ := only k' c' b g hq
          rw [r1, r2] at g
          refine hl ?_
          have g5 := g.2.2.2.2
          rw [hv] at g5
          rcases hib with hib2 | hib2
          · exact ((by_let T he hk.1 g.2.1 hib2).mp ⟨g.2.2.1, g5⟩).2.2.2
          · rw [letB_sg (b := ib) (by omega)]
            rw [show byB ib = byB (32 + (ib - 32)) from congrArg byB (by omega)] at g5
            exact ((by_sgn T he hk.1 g.2.1 (by omega)).mp ⟨g.2.2.1, g5⟩).2.1
  refine e270 _ _ _ ?_
  have clear : ∀ (n i : Nat) (m1 : Mm), i + n = 279 → (∀ x k, x ≠ 624 → m1 x k = m x k) → (∀ s : Int, 0 ≤ s → s < i → m1 624 s = 0) → X 270 3 [(1, 597), (0, e), (0, ib), (0, (d : Int)), (0, (i : Int)), (9, 0), (9, 0), (9, 0), (9, 0)] [] m1 (qI K) := by
    intro n
    induction n with
    | zero =>
      intro i m1 hi f Z
      refine w270_3 _ _ _ _ _ _ _ _ ⟨fun h => absurd h (by omega), fun _ => ?_⟩
      exact states 279 0 m1 0 (9, 0) (9, 0) (9, 0) (by decide) f (Or.inr ⟨rfl, fun k c b g hlt => by
        have := hH k c g.1
        omega⟩) fun s s0 s1 => Or.inl ⟨Z s s0 (by omega), fun k c b g hlt => by
        have := hH k c g.1
        omega⟩
    | succ n ih =>
      intro i m1 hi f Z
      refine w270_3 _ _ _ _ _ _ _ _ ⟨fun _ => ⟨by omega, fun m5 e5 => ?_⟩, fun h => absurd (show (i : Int) < 279 by omega) h⟩
      rw [wrI (x := (i : Int) + 1) (by omega) (by omega)]
      refine ih (i + 1) m5 (by omega) (fun x k hn => by rw [e5, um_x hn]; exact f x k hn) fun s s0 s1 => ?_
      by_cases hs : s = i
      · rw [hs, e5, um_s]
      · rw [e5, um_k hs]
        exact Z s s0 (by omega)
  exact clear 279 0 m (by decide) (fun _ _ _ => rfl) fun s s0 s1 => by omega
