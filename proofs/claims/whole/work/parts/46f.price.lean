/-! the readings' prices of a book; the clauses' count -/
def BP (B : Bk) : Prop := ∀ r, 0 ≤ r → r < B 578 → 0 ≤ B (11 * r + 4) ∧ B (11 * r + 4) ≤ 999
section BPS
variable {f : Int → Int} {n p : Int} {B : Bk}
def OkP : Rs → Prop := OutR (fun _ _ => True) fun B' _ => BP B'
theorem clo_p (h : BP B) : OkP (clo f n B p) := by
  unfold clo
  split
  · exact h
  · exact trivial
theorem nuS_p {bd : Int} {k : Int → Int → Rs} (hp : p ≤ n) (h : ∀ v e, 0 ≤ v → v ≤ bd → OkP (k v e)) : OkP (nuS f n p bd k) := by
  unfold nuS
  by_cases h3 : (tk f n p).k = 3
  · rw [if_neg (fun z => z h3)]
    have := (tk_w (f := f) hp).2.2.1 h3
    split
    · exact trivial
    · exact h _ _ this.1 (by omega)
  · rw [if_pos h3]
    exact trivial
theorem BP.rd {sg lp sz c0 c1 pr : Int} (h : BP B) (h0 : 0 ≤ B 578) (hB : B 578 < 24) (hz : sz ≤ 6) (hp : 0 ≤ pr ∧ pr ≤ 999) : BP (rdB f B sg lp sz c0 c1 pr) := by
  obtain ⟨v1, -, -, -, -, v6, -⟩ := rdB_v (f := f) (sg := sg) (lp := lp) (c0 := c0) (c1 := c1) (pr := pr) ⟨h0, hB⟩ hz
  intro r r0 r1
  rw [v1] at r1
  by_cases hr : r = B 578
  · rw [hr, v6]
    exact hp
  · rw [rdB_o hz (by omega) (by omega)]
    exact h r r0 (by omega)
theorem BP.o {B' : Bk} (h : BP B) (hb : B 578 ≤ 24) (e : ∀ k, k < 264 ∨ k = 578 → B' k = B k) : BP B' := fun r r0 r1 => by
  rw [e 578 (Or.inr rfl)] at r1
  rw [e _ (by omega)]
  exact h r r0 r1
theorem clS_p {T : Tk} (I : BI B) (h : BP B) (hT : T.e ≤ n) : OkP (clS f n B T) := by
  have I1 := I.1
  have I2 := I.2.1
  have pa : ∀ w, OkP (paS f n B w T.e) := fun w => by
    unfold paS
    have te := tk_e (f := f) hT
    have h5 : (tk f n T.e).e ≤ n := te.2.2.1
    have te2 := tk_e (f := f) h5
    split <;> rename_i c
    · exact trivial
    · split <;> rename_i c2
      · exact trivial
      · simp only []
        split
        · split
          · exact trivial
          · refine clo_p (h.o I1.2 fun k hk => if_neg ?_)
            have kl := kd_lt (T := tk f n T.e)
            have kl2 := kd_lt (T := tk f n (tk f n T.e).e)
            omega
        · split
          · exact trivial
          · refine nuS_p te2.2.2.1 fun v e v0 v1 => clo_p (h.o I1.2 fun k hk => ?_)
            have kl := kd_lt (T := tk f n T.e)
            have kl2 := kd_lt (T := tk f n (tk f n T.e).e)
            rw [if_neg (by omega), if_neg (by omega)]
  unfold clS
  split <;> rename_i q
  · split
    · unfold rd1
      split <;> rename_i hB
      · split
        · have te := tk_e (f := f) hT
          have go : ∀ s lp sz p3, sz ≤ 6 → p3 ≤ n → OkP (rd3 f n B s lp sz p3) := by
            intro s lp sz p3 z1 h3
            unfold rd3
            have te3 := tk_e (f := f) h3
            split
            · exact trivial
            · unfold rd4
              have te4 := tk_e (f := f) (show (tk f n p3).e ≤ n from te3.2.2.1)
              split
              · exact trivial
              · unfold rd5
                exact nuS_p te4.2.2.1 fun v e v0 v1 => clo_p (h.rd I1.1 hB z1 ⟨v0, v1⟩)
          unfold rd2
          have te2 := tk_e (f := f) (show (tk f n T.e).e ≤ n from te.2.2.1)
          split
          · exact go _ _ _ _ (by decide) te2.2.2.1
          · split <;> rename_i q
            · exact go _ _ _ _ q.2 te2.2.2.1
            · exact trivial
        · exact trivial
      · exact trivial
    · split
      · unfold en1
        have te := tk_e (f := f) hT
        split
        · split <;> rename_i q
          · unfold en2
            have te2 := tk_e (f := f) (show (tk f n T.e).e ≤ n from te.2.2.1)
            split
            · exact trivial
            · unfold en3
              exact nuS_p te2.2.2.1 fun v e v0 v1 => clo_p (h.o I1.2 fun k hk => enB_o q.2 (by omega) (by omega))
          · exact trivial
        · exact trivial
      · split
        · exact pa 0
        · split
          · exact pa 1
          · unfold seS
            split
            · exact trivial
            · refine nuS_p hT fun v e v0 v1 => clo_p (h.o I1.2 fun k hk => ?_)
              rw [if_neg (by omega), if_neg (by omega)]
  · exact trivial
/-- of a whole text -/
theorem txS_ok : ∀ (d : Nat) (B : Bk) (p c : Int), BI B → BP B → p ≤ n → OutR (fun _ _ => True) (fun B' c' => BI B' ∧ BP B' ∧ c ≤ c') (txS f n d B p c) := by
  intro d
  induction d with
  | zero => exact fun B p c I h _ => ⟨I, h, Int.le_refl _⟩
  | succ d ih =>
    intro B p c I h hp
    have te := tk_e (f := f) hp
    unfold txS
    split
    · exact ⟨I, h, Int.le_refl _⟩
    · have o1 := clS_ok (f := f) (T := tk f n p) I te.2.2.1
      have o2 := clS_p (f := f) (T := tk f n p) I h te.2.2.1
      unfold OkR at o1
      unfold OkP at o2
      generalize clS f n B (tk f n p) = r at *
      cases r with
      | inl q => exact trivial
      | inr q =>
        have := ih q.1 q.2 (c + 1) o1.1 o2 o1.2.2
        show OutR _ _ (txS f n d q.1 q.2 (c + 1))
        revert this
        generalize txS f n d q.1 q.2 (c + 1) = r2
        intro this
        cases r2 with
        | inl z => exact trivial
        | inr z => exact ⟨this.1, this.2.1, by have := this.2.2; show c ≤ z.2; omega⟩
end BPS
