/-! what stands between two entries: joint(99), between(246) -/
def kiE (E : Mm) (e : Int) : Int := E 602 (264 + 11 * e + 1)
def foE (E : Mm) (e : Int) : Int := E 602 (264 + 11 * e + 2)
def bt (E : Mm) (a b : Int) : Int := if 0 ≤ a ∧ 0 ≤ b then (if E 602 (528 + (5 * kiE E a + kiE E b)) = 1 ∧ ¬ foE E a = foE E b then 1000000 else E 602 (553 + (5 * kiE E a + kiE E b))) else 0
theorem ki_rng {E : Mm} (T : InvT E) {a : Int} (h : 0 ≤ a ∧ a < E 602 579) : 0 ≤ kiE E a ∧ kiE E a < 5 := (T.2.2.2.2.2.2.2.1 a h.1 h.2).2.1
theorem bt_rng {E : Mm} (T : InvT E) {a b : Int} (ha : a < E 602 579) (hb : b < E 602 579) : (0 ≤ bt E a b ∧ bt E a b ≤ 1000000) ∧ (bt E a b < 1000000 → bt E a b ≤ 999) := by
  unfold bt
  by_cases h : 0 ≤ a ∧ 0 ≤ b
  · rw [if_pos h]
    have k1 := ki_rng T ⟨h.1, ha⟩
    have k2 := ki_rng T ⟨h.2, hb⟩
    have := (T.2.2.2.2.2.2.2.2 (5 * kiE E a + kiE E b) (by omega) (by omega)).2
    split
    · exact ⟨by decide, fun h => absurd h (by decide)⟩
    · exact ⟨by omega, fun _ => this.2⟩
  · rw [if_neg h]
    exact ⟨by decide, fun _ => by decide⟩
theorem jn_bt {E m : Mm} {t a b : Int} (T : InvT E) (Tt : CT E m t) (ha : a < E 602 579) (hb : b < E 602 579) : jnC m t a b = bt E a b := by
  unfold jnC bt
  by_cases h : 0 ≤ a ∧ 0 ≤ b
  · have k1 := ki_rng T ⟨h.1, ha⟩
    have k2 := ki_rng T ⟨h.2, hb⟩
    have e1 := Tt.2.2.2.2.2.2.2.1 a h.1 ha
    have e2 := Tt.2.2.2.2.2.2.2.1 b h.2 hb
    have x1 : m (t + 54 + 2 * a) 2 = kiE E a := e1.2.2.1
    have x2 : m (t + 54 + 2 * b) 2 = kiE E b := e2.2.2.1
    have x3 : m (t + 54 + 2 * a) 3 = foE E a := e1.2.2.2.1
    have x4 : m (t + 54 + 2 * b) 3 = foE E b := e2.2.2.2.1
    obtain ⟨y1, y2⟩ := Tt.2.2.2.2.2.2.2.2 (5 * kiE E a + kiE E b) (by omega) (by omega)
    have z := (T.2.2.2.2.2.2.2.2 (5 * kiE E a + kiE E b) (by omega) (by omega)).1
    rw [Tt.2.2.1, if_pos (by omega), if_pos h, x1, x2, x3, x4, show kiE E a * 5 + kiE E b = 5 * kiE E a + kiE E b by omega, y1, y2]
    by_cases hc : E 602 (528 + (5 * kiE E a + kiE E b)) = 1 ∧ ¬ foE E a = foE E b
    · rw [if_pos hc, if_pos ⟨by omega, hc.2⟩]
    · rw [if_neg hc, if_neg (fun q => hc ⟨by omega, q.2⟩)]
  · rw [if_neg h, if_neg (by omega)]
theorem v_T_of {E m : Mm} {t : Int} (T : InvT E) (Tt : CT E m t) : v_T m t := by
  refine ⟨Tt.shp, by rw [Tt.2.2.1]; exact T.2.2.1, fun e e0 e1 => ?_⟩
  rw [Tt.2.2.1] at e1
  rw [(Tt.2.2.2.2.2.2.2.1 e e0 e1).2.2.1]
  exact ki_rng T ⟨e0, e1⟩
/-- the entries that choices name, and their costs -/
theorem chs_in {E : Mm} (T : InvT E) (Pg : InvP E) (W : InvW E) {w : Int} (hw : 0 ≤ w ∧ w < E 597 23) : ∀ q ∈ chs E w, (q.1 = -2 ∨ q.1 = -3 ∨ 0 ≤ q.1) ∧ q.1 < E 602 579 ∧ 0 ≤ q.2 ∧ q.2 ≤ 10989 := by
  intro q hq
  have T4 := T.2.2.2.1
  have T3 := T.2.2.1
  have P2 := (Pg.2 w hw.1 hw.2).1
  unfold chs at hq
  split at hq
  · have p := ocw_rng T W (w := w)
    split at hq
    · rename_i hx
      rw [List.mem_singleton] at hq
      subst hq
      have hf : ocw E w ≤ 999 * ((E 604 w).toNat : Int) := oc_fin T W (w := w) _ _ hx
      exact ⟨Or.inl rfl, by show (-2 : Int) < _; omega, by show 0 ≤ ocw E w + E 602 580; omega, by show ocw E w + E 602 580 ≤ _; omega⟩
    · rw [List.mem_singleton] at hq
      subst hq
      exact ⟨Or.inr (Or.inl rfl), by show (-3 : Int) < _; omega, by show 0 ≤ 2 * E 602 580; omega, by show 2 * E 602 580 ≤ _; omega⟩
  · have h := chE_in T W _ q hq
    have hx : q.2 = xw E w q.1 := by
      have : ∀ n : Nat, ∀ q ∈ chE E w n, q.2 = xw E w q.1 := by
        intro n
        induction n with
        | zero => intro q hq; exact absurd hq (List.not_mem_nil)
        | succ n ih =>
          intro q hq
          unfold chE at hq
          rw [List.mem_append] at hq
          rcases hq with hq | hq
          · exact ih q hq
          · split at hq
            · rw [List.mem_singleton] at hq
              subst hq
              rfl
            · exact absurd hq (List.not_mem_nil)
      exact this _ q hq
    have hf : xw E w q.1 ≤ 999 * ((E 604 w).toNat : Int) := ex_fin T W (w := w) (e := q.1) _ _ (by have := h.2.2; rw [hx] at this; exact this)
    exact ⟨Or.inr (Or.inr h.1.1), by omega, h.2.1, by omega⟩
/-- a choice's entry and cost, by its place -/
def cE (E : Mm) (w i : Int) : Int := ((chs E w)[i.toNat]?.getD (0, 0)).1
def cC (E : Mm) (w i : Int) : Int := ((chs E w)[i.toNat]?.getD (0, 0)).2
def cN (E : Mm) (w : Int) : Nat := (chs E w).length
theorem cE_in {E : Mm} (T : InvT E) (Pg : InvP E) (W : InvW E) {w i : Int} (hw : 0 ≤ w ∧ w < E 597 23) (hi : 0 ≤ i ∧ i < cN E w) : (cE E w i = -2 ∨ cE E w i = -3 ∨ 0 ≤ cE E w i) ∧ cE E w i < E 602 579 ∧ 0 ≤ cC E w i ∧ cC E w i ≤ 10989 := by
  have hl : i.toNat < (chs E w).length := by unfold cN at hi; omega
  have := chs_in T Pg W hw _ (List.getElem_mem hl)
  unfold cE cC
  rw [List.getElem?_eq_getElem hl]
  exact this
theorem ChM.at {E m : Mm} {w i : Int} (C : ChM m w (chs E w)) (hi : 0 ≤ i ∧ i < cN E w) : m 613 (24 * w + i) = cE E w i ∧ m 614 (24 * w + i) = cC E w i := by
  have hl : i.toNat < (chs E w).length := by unfold cN at hi; omega
  have := C.2 i.toNat hl
  rw [show ((i.toNat : Nat) : Int) = i by omega] at this
  unfold cE cC
  rw [List.getElem?_eq_getElem hl]
  exact this
theorem ChC.at {E m : Mm} {c w i : Int} (C : ChC m c w (chs E w)) (hi : 0 ≤ i ∧ i < cN E w) : m (c + 29 + w) i = cE E w i ∧ m (c + 40 + w) i = cC E w i := by
  have hl : i.toNat < (chs E w).length := by unfold cN at hi; omega
  have := C.2 i.toNat hl
  rw [show ((i.toNat : Nat) : Int) = i by omega] at this
  unfold cE cC
  rw [List.getElem?_eq_getElem hl]
  exact this
/-- between(246) -/
theorem c246 {E m : Mm} {K : Int → Mm → Prop} (T : InvT E) (Pg : InvP E) (W : InvW E) (A : Ag E m) {w i j : Int} (hw : 0 ≤ w ∧ w + 1 < E 597 23) (hi : 0 ≤ i ∧ i < cN E w) (hj : 0 ≤ j ∧ j < cN E (w + 1)) (C1 : ChM m w (chs E w)) (C2 : ChM m (w + 1) (chs E (w + 1)))
    (kk : K (if bt E (cE E w i) (cE E (w + 1) j) < 1000000 then bt E (cE E w i) (cE E (w + 1) j) else -1) m) : TrI 246 [(1, 597), (0, w), (0, i), (0, j)] m K := by
  have P1 := Pg.1
  have T3 := T.2.2.1
  have n1 := (chs_len T (w := w)).2
  have n2 := (chs_len T (w := w + 1)).2
  have hi24 : 0 ≤ i ∧ i < 24 := by unfold cN at hi; omega
  have hj24 : 0 ≤ j ∧ j < 24 := by unfold cN at hj; omega
  have w10 : 0 ≤ w ∧ w < 9 := by omega
  have a1 := cE_in T Pg W (w := w) (by omega) hi
  have a2 := cE_in T Pg W (w := w + 1) (by omega) hj
  have g1 := (C1.at hi).1
  have g2 := (C2.at hj).1
  have q3 : 0 ≤ 24 * w + i ∧ 24 * w + i < 240 := by omega
  have q4 : 0 ≤ 24 * (w + 1) + j ∧ 24 * (w + 1) + j < 240 := by omega
  have q1 : wr (wr (24 * w) + i) = 24 * w + i := by
    rw [wrI (x := 24 * w) (by omega) (by omega), wrI (by omega) (by omega)]
  have q2 : wr (wr (24 * wr (w + 1)) + j) = 24 * (w + 1) + j := by
    rw [wrI (x := w + 1) (by omega) (by omega), wrI (x := 24 * (w + 1)) (by omega) (by omega), wrI (by omega) (by omega)]
  refine e246 _ _ _ ?_
  rw [q1, q2, g1, g2]
  clear q1 q2
  generalize cE E w i = a at *
  generalize cE E (w + 1) j = b at *
  have hbt := bt_rng T a1.2.1 a2.2.1
  have b0 := A.b.trans T.1
  refine ⟨q3, q4, fun ha => ?_, fun ha => ⟨fun hb => ?_, fun hb => ?_⟩⟩
  · have : bt E a b = 0 := by unfold bt; rw [if_neg (by omega)]
    rw [this] at kk
    exact kk
  · have : bt E a b = 0 := by unfold bt; rw [if_neg (by omega)]
    rw [this] at kk
    exact kk
  · have k1 := ki_rng T (a := a) ⟨by omega, a1.2.1⟩
    have k2 := ki_rng T (a := b) ⟨by omega, a2.2.1⟩
    have pr := (T.2.2.2.2.2.2.2.2 (5 * kiE E a + kiE E b) (by omega) (by omega)).2
    have ha24 : 0 ≤ a ∧ a < 24 := by omega
    have hb24 : 0 ≤ b ∧ b < 24 := by omega
    have r1 : ∀ x c : Int, 0 ≤ x ∧ x < 24 → 0 ≤ c ∧ c ≤ 2 → wr (wr (264 + wr (11 * x)) + c) = 264 + 11 * x + c := fun x c hx hc => by
      rw [wrI (x := 11 * x) (by omega) (by omega), wrI (x := 264 + 11 * x) (by omega) (by omega), wrI (by omega) (by omega)]
    have r2 : ∀ c : Int, 0 ≤ c ∧ c < 600 → wr (c + wr (wr (5 * kiE E a) + kiE E b)) = c + (5 * kiE E a + kiE E b) := fun c hc => by
      rw [wrI (x := 5 * kiE E a) (by omega) (by omega), wrI (x := 5 * kiE E a + kiE E b) (by omega) (by omega), wrI (by omega) (by omega)]
    rw [r1 a 1 ha24 (by decide), r1 b 1 hb24 (by decide), r1 a 2 ha24 (by decide), r1 b 2 hb24 (by decide)]
    rw [A.a (show 264 + 11 * a + 1 < 583 by omega), A.a (show 264 + 11 * b + 1 < 583 by omega), A.a (show 264 + 11 * a + 2 < 583 by omega), A.a (show 264 + 11 * b + 2 < 583 by omega)]
    have s1 : E 602 (264 + 11 * a + 1) = kiE E a := rfl
    have s2 : E 602 (264 + 11 * b + 1) = kiE E b := rfl
    have s3 : E 602 (264 + 11 * a + 2) = foE E a := rfl
    have s4 : E 602 (264 + 11 * b + 2) = foE E b := rfl
    rw [s1, s2, s3, s4, r2 528 (by decide), r2 553 (by decide), A.a (show 528 + (5 * kiE E a + kiE E b) < 583 by omega), A.a (show 553 + (5 * kiE E a + kiE E b) < 583 by omega)]
    have hb : bt E a b = if E 602 (528 + (5 * kiE E a + kiE E b)) = 1 ∧ ¬ foE E a = foE E b then 1000000 else E 602 (553 + (5 * kiE E a + kiE E b)) := by
      unfold bt
      rw [if_pos (by omega)]
    have fin : ¬ (E 602 (528 + (5 * kiE E a + kiE E b)) = 1 ∧ ¬ foE E a = foE E b) → K (E 602 (553 + (5 * kiE E a + kiE E b))) m := fun hn => by
      rw [if_neg hn] at hb
      rw [hb, if_pos (by omega)] at kk
      exact kk
    refine ⟨⟨b0, by omega⟩, ⟨b0, by omega⟩, ⟨b0, by omega⟩, fun h1 => ⟨⟨b0, by omega⟩, ⟨b0, by omega⟩, fun h2 => ⟨⟨b0, by omega⟩, fin fun q => q.2 h2⟩, fun h2 => ?_⟩, fun h1 => ⟨⟨b0, by omega⟩, fin fun q => h1 q.1⟩⟩
    rw [if_pos ⟨h1, h2⟩] at hb
    rw [hb, if_neg (by decide)] at kk
    exact kk
