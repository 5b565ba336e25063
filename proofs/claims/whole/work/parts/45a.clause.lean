/-! the clauses of a text: what both make of them. A book B: 0 .. 582 the table, 600 .. 602 the settings told, 610 .. 634 the pairs' prices told -/
abbrev Bk := Int → Int
abbrev Rs := (Int × Int) ⊕ (Bk × Int)
abbrev bad (c x : Int) : Rs := .inl (c, x)
/-- the close of a clause -/
def clo (f : Int → Int) (n : Int) (B : Bk) (p : Int) : Rs := if (tk f n p).k = 6 then .inr (B, (tk f n p).e) else bad 1 (tk f n p).pl
/-- a condition's code -/
def cdS (f : Int → Int) (who : Int) (t : Tk) : Int := if t.k = 2 ∧ t.sz = 1 then 4 + f t.pl - 97 else if t.k = 1 then (if t.v = 7 then 0 else if t.v = 8 then (if who = 0 then 1 else -1) else if t.v = 9 then 2 else if t.v = 10 then 3 else if t.v = 11 then (if who = 0 then -1 else 1) else if t.v = 12 then (if who = 0 then -1 else 30) else -1) else -1
/-- a kind's number -/
def kdS (t : Tk) : Int := if t.k = 1 ∧ 13 ≤ t.v ∧ t.v ≤ 17 then t.v - 13 else -1
/-- a number with its bound -/
def nuS (f : Int → Int) (n : Int) (p bd : Int) (k : Int → Int → Rs) : Rs := if (tk f n p).k ≠ 3 then bad 1 (tk f n p).pl else if (tk f n p).v > bd then bad 2 (tk f n p).pl else k (tk f n p).v (tk f n p).e
/-- a reading -/
def rdB (f : Int → Int) (B : Bk) (sg lp sz c0 c1 pr : Int) : Bk := fun k =>
  if k = 578 then B 578 + 1 else if k = 11 * B 578 then sg else if k = 11 * B 578 + 1 then sz else if k = 11 * B 578 + 2 then c0 else if k = 11 * B 578 + 3 then c1 else if k = 11 * B 578 + 4 then pr
  else if 11 * B 578 + 5 ≤ k ∧ k < 11 * B 578 + 5 + sz then f (lp + (k - (11 * B 578 + 5))) - 97 else B k
def rd5 (f : Int → Int) (n : Int) (B : Bk) (sg lp sz c0 c1 p : Int) : Rs := nuS f n p 999 fun v e => clo f n (rdB f B sg lp sz c0 c1 v) e
def rd4 (f : Int → Int) (n : Int) (B : Bk) (sg lp sz c0 p : Int) : Rs := if cdS f 1 (tk f n p) < 0 then bad 1 (tk f n p).pl else rd5 f n B sg lp sz c0 (cdS f 1 (tk f n p)) (tk f n p).e
def rd3 (f : Int → Int) (n : Int) (B : Bk) (sg lp sz p : Int) : Rs := if cdS f 0 (tk f n p) < 0 then bad 1 (tk f n p).pl else rd4 f n B sg lp sz (cdS f 0 (tk f n p)) (tk f n p).e
def rd2 (f : Int → Int) (n : Int) (B : Bk) (sg p : Int) : Rs := if (tk f n p).k = 5 then rd3 f n B sg (tk f n p).pl 0 (tk f n p).e else if (tk f n p).k = 2 ∧ (tk f n p).sz ≤ 6 then rd3 f n B sg (tk f n p).pl (tk f n p).sz (tk f n p).e else bad 1 (tk f n p).pl
def rd1 (f : Int → Int) (n : Int) (B : Bk) (pl p : Int) : Rs := if B 578 < 24 then (if (tk f n p).k = 4 then rd2 f n B (tk f n p).v (tk f n p).e else bad 1 (tk f n p).pl) else bad 2 pl
/-- an entry -/
def enB (f : Int → Int) (B : Bk) (lp sz kd pr : Int) : Bk := fun k =>
  if k = 579 then B 579 + 1 else if k = 264 + 11 * B 579 then sz else if k = 264 + 11 * B 579 + 1 then kd else if k = 264 + 11 * B 579 + 2 then pr
  else if 264 + 11 * B 579 + 3 ≤ k ∧ k < 264 + 11 * B 579 + 3 + sz then f (lp + (k - (264 + 11 * B 579 + 3))) - 97 else B k
def en3 (f : Int → Int) (n : Int) (B : Bk) (lp sz kd p : Int) : Rs := nuS f n p 9 fun v e => clo f n (enB f B lp sz kd v) e
def en2 (f : Int → Int) (n : Int) (B : Bk) (lp sz p : Int) : Rs := if kdS (tk f n p) < 0 then bad 1 (tk f n p).pl else en3 f n B lp sz (kdS (tk f n p)) (tk f n p).e
def en1 (f : Int → Int) (n : Int) (B : Bk) (pl p : Int) : Rs := if B 579 < 24 then (if (tk f n p).k = 2 ∧ (tk f n p).sz ≤ 8 then en2 f n B (tk f n p).pl (tk f n p).sz (tk f n p).e else bad 1 (tk f n p).pl) else bad 2 pl
/-- pairs that agree (w = 0), pairs' prices (w = 1) -/
def paS (f : Int → Int) (n : Int) (B : Bk) (w p : Int) : Rs :=
  if kdS (tk f n p) < 0 then bad 1 (tk f n p).pl else
  if kdS (tk f n (tk f n p).e) < 0 then bad 1 (tk f n (tk f n p).e).pl else
  let j := 5 * kdS (tk f n p) + kdS (tk f n (tk f n p).e)
  if w = 0 then (if B (528 + j) = 1 then bad 3 (tk f n (tk f n p).e).pl else clo f n (fun k => if k = 528 + j then 1 else B k) (tk f n (tk f n p).e).e)
  else (if B (610 + j) = 1 then bad 3 (tk f n (tk f n p).e).pl else nuS f n (tk f n (tk f n p).e).e 999 fun v e => clo f n (fun k => if k = 553 + j then v else if k = 610 + j then 1 else B k) e)
/-- a setting -/
def seS (f : Int → Int) (n : Int) (B : Bk) (i pl p : Int) : Rs := if B (600 + i) = 1 then bad 3 pl else nuS f n p (if i = 0 then 999 else if i = 1 then 99 else 99999) fun v e => clo f n (fun k => if k = 580 + i then v else if k = 600 + i then 1 else B k) e
/-- a clause whose first token is t -/
def clS (f : Int → Int) (n : Int) (B : Bk) (t : Tk) : Rs :=
  if t.k = 1 ∧ 0 ≤ t.v ∧ t.v ≤ 6 then (if t.v = 0 then rd1 f n B t.pl t.e else if t.v = 1 then en1 f n B t.pl t.e else if t.v = 2 then paS f n B 0 t.e else if t.v = 3 then paS f n B 1 t.e else seS f n B (t.v - 4) t.pl t.e) else bad 1 t.pl
/-- what a book keeps -/
def BI (B : Bk) : Prop := (0 ≤ B 578 ∧ B 578 ≤ 24) ∧ (0 ≤ B 579 ∧ B 579 ≤ 24) ∧ (0 ≤ B 580 ∧ B 580 ≤ 999) ∧ (0 ≤ B 581 ∧ B 581 ≤ 99) ∧ (0 ≤ B 582 ∧ B 582 ≤ 99999) ∧
  (∀ r, 0 ≤ r → r < B 578 → (0 ≤ B (11 * r) ∧ B (11 * r) < 10) ∧ (0 ≤ B (11 * r + 1) ∧ B (11 * r + 1) ≤ 6) ∧ (0 ≤ B (11 * r + 2) ∧ B (11 * r + 2) ≤ 30) ∧ (0 ≤ B (11 * r + 3) ∧ B (11 * r + 3) ≤ 30) ∧ ∀ i, 0 ≤ i → i < B (11 * r + 1) → 0 ≤ B (11 * r + 5 + i) ∧ B (11 * r + 5 + i) < 26) ∧
  (∀ e, 0 ≤ e → e < B 579 → (1 ≤ B (264 + 11 * e) ∧ B (264 + 11 * e) ≤ 8) ∧ (0 ≤ B (264 + 11 * e + 1) ∧ B (264 + 11 * e + 1) < 5) ∧ (0 ≤ B (264 + 11 * e + 2) ∧ B (264 + 11 * e + 2) ≤ 9) ∧ ∀ i, 0 ≤ i → i < B (264 + 11 * e) → 0 ≤ B (264 + 11 * e + 3 + i) ∧ B (264 + 11 * e + 3 + i) < 26) ∧
  (∀ k, 0 ≤ k → k < 25 → (B (528 + k) = 0 ∨ B (528 + k) = 1) ∧ (0 ≤ B (553 + k) ∧ B (553 + k) ≤ 999) ∧ (B (610 + k) = 0 ∨ B (610 + k) = 1)) ∧ ∀ i, 0 ≤ i → i < 3 → B (600 + i) = 0 ∨ B (600 + i) = 1
def EB (B : Bk) : Mm := fun x k => if x = 602 then B k else 0
theorem EB_t {B : Bk} {k : Int} : EB B 602 k = B k := if_pos rfl
theorem BI.T {B : Bk} (h : BI B) : InvT (EB B) := by
  obtain ⟨h1, h2, h3, h4, h5, h6, h7, h8, h9⟩ := h
  refine ⟨rfl, h1, h2, h3, h4, h5, fun r r0 r1 => ?_, h7, fun k k0 k1 => ⟨(h8 k k0 k1).1, (h8 k k0 k1).2.1⟩⟩
  have r1' : r < B 578 := r1
  exact ⟨rfl, ⟨r0, by omega⟩, h6 r r0 r1'⟩
/-- what is known of a token -/
theorem tk_w {f : Int → Int} {n p : Int} (h : p ≤ n) : ((tk f n p).k = 2 → 1 ≤ (tk f n p).sz ∧ (tk f n p).pl + (tk f n p).sz = (tk f n p).e ∧ ∀ i, (tk f n p).pl ≤ i → i < (tk f n p).e → 97 ≤ f i ∧ f i ≤ 122) ∧ ((tk f n p).k = 4 → 0 ≤ (tk f n p).v ∧ (tk f n p).v < 10) ∧ ((tk f n p).k = 3 → 0 ≤ (tk f n p).v ∧ (tk f n p).v ≤ 1000000) ∧ ((tk f n p).k = 1 → 0 ≤ (tk f n p).v ∧ (tk f n p).v < 18) ∧ 0 ≤ (tk f n p).k ∧ (tk f n p).k ≤ 7 := by
  have h1 := sc_le (P := isB f) h
  unfold tk
  generalize sc (isB f) n p = s at h1
  by_cases hs : s < n
  · simp only [if_pos hs]
    by_cases hl : isL f s = true
    · simp only [if_pos hl]
      have h2 := sc_le (P := isL f) (show s ≤ n by omega)
      have h3 : sc (isL f) n s = sc (isL f) n (s + 1) := sc_t hs hl
      have h4 := sc_le (P := isL f) (show s + 1 ≤ n by omega)
      generalize sc (isL f) n s = e at *
      have hw := wd_rng (f := f) (s := s) (sz := e - s)
      generalize wdS f s (e - s) = w at *
      by_cases h0 : w < 0
      · simp only [if_pos h0]
        exact ⟨fun _ => ⟨show 1 ≤ e - s by omega, show s + (e - s) = e by omega, fun i i0 i1 => of_decide_eq_true (h2.2.2.1 i i0 i1)⟩, fun q => absurd (show (2 : Int) = 4 from q) (by decide), fun q => absurd (show (2 : Int) = 3 from q) (by decide), fun q => absurd (show (2 : Int) = 1 from q) (by decide), show (0 : Int) ≤ 2 by decide, show (2 : Int) ≤ 7 by decide⟩
      · simp only [if_neg h0]
        exact ⟨fun q => absurd (show (1 : Int) = 2 from q) (by decide), fun q => absurd (show (1 : Int) = 4 from q) (by decide), fun q => absurd (show (1 : Int) = 3 from q) (by decide), fun _ => ⟨show 0 ≤ w by omega, hw.2⟩, show (0 : Int) ≤ 1 by decide, show (1 : Int) ≤ 7 by decide⟩
    · simp only [if_neg hl]
      by_cases hd : isD f s = true
      · simp only [if_pos hd]
        have h2 := sc_le (P := isD f) (show s ≤ n by omega)
        generalize sc (isD f) n s = e at *
        have nv := (nv_eq (f := f) (s := s) (e - s).toNat fun i hi => of_decide_eq_true (h2.2.2.1 (s + i) (by omega) (by omega))).2.1
        generalize nvC f s (e - s).toNat = V at *
        exact ⟨fun q => absurd (show (3 : Int) = 2 from q) (by decide), fun q => absurd (show (3 : Int) = 4 from q) (by decide), fun _ => nv, fun q => absurd (show (3 : Int) = 1 from q) (by decide), show (0 : Int) ≤ 3 by decide, show (3 : Int) ≤ 7 by decide⟩
      · simp only [if_neg hd]
        have hV := sgN_rng (c := f s)
        generalize sgN (f s) = V at *
        have : ∀ U : Int, U = (if V < 0 then (if f s = 45 then 5 else if f s = 59 then 6 else 7) else 4) → (U = 4 → 0 ≤ V) ∧ 4 ≤ U ∧ U ≤ 7 := fun U hU => by
          by_cases h0 : V < 0
          · rw [if_pos h0] at hU
            split at hU
            · omega
            · split at hU <;> omega
          · rw [if_neg h0] at hU
            omega
        have := this _ rfl
        generalize (if V < 0 then (if f s = 45 then 5 else if f s = 59 then 6 else 7) else 4 : Int) = U at *
        refine ⟨fun q => ?_, fun q => ⟨this.1 q, hV.2⟩, fun q => ?_, fun q => ?_, show 0 ≤ U by omega, this.2.2⟩
        · have : U = 2 := q
          omega
        · have : U = 3 := q
          omega
        · have : U = 1 := q
          omega
  · simp only [if_neg hs]
    exact ⟨fun q => absurd (show (0 : Int) = 2 from q) (by decide), fun q => absurd (show (0 : Int) = 4 from q) (by decide), fun q => absurd (show (0 : Int) = 3 from q) (by decide), fun q => absurd (show (0 : Int) = 1 from q) (by decide), show (0 : Int) ≤ 0 by decide, show (0 : Int) ≤ 7 by decide⟩
