/-! the whole relation between two calls: CS -/
def MkV (m : Mm) (N o : Int) : Prop := (∀ r, 0 ≤ r → r < 24 → (0 ≤ m 607 (o + r) ∧ m 607 (o + r) ≤ 999) ∧ (0 ≤ m 607 (o + (24 + r)) ∧ m 607 (o + (24 + r)) ≤ 999)) ∧ (N = N)
def MkR (N : Int) (m : Mm) (b o : Int) : Prop := ∀ i, 0 ≤ i → i < 58 → mkc m b i = nx N i (m 607 (o + i))
/-- the past -/
def PS (E m : Mm) : Prop := (m 284 2 = m 597 25 ∧ 0 ≤ m 597 25 ∧ m 597 25 ≤ 20) ∧ (m 284 3 = m 597 26 ∧ (m 597 26 = 0 ∨ m 597 26 = 1)) ∧ Rg m ∧ MkV m (E 597 23) 0 ∧ (m 597 26 = 1 → MkR (E 597 23) m 286 58 ∧ MkV m (E 597 23) 58) ∧ ∀ k, 0 ≤ k → k < m 597 25 → MkR (E 597 23) m (m 285 k) (58 * (2 + k)) ∧ MkV m (E 597 23) (58 * (2 + k))
/-- the tape, the fault -/
def TS (m : Mm) : Prop := (m 1 1 = m 597 2 ∧ 0 ≤ m 597 2 ∧ m 597 2 ≤ 900) ∧ (∀ i, 0 ≤ i → i < m 597 2 → m 2 i = m 598 i ∧ 0 ≤ m 598 i ∧ m 598 i < 256) ∧ m 3 0 = m 597 4 ∧ m 3 1 = m 597 5
theorem MkV.fr {m m' : Mm} {N o : Int} (h : MkV m N o) (f : ∀ k, o ≤ k → k < o + 58 → m' 607 k = m 607 k) : MkV m' N o := by
  obtain ⟨h1, h2⟩ := h
  refine ⟨fun r r0 r1 => ?_, h2⟩
  rw [f _ (by omega) (by omega), f _ (by omega) (by omega)]
  exact h1 r r0 r1
theorem MkV.mv {m m' : Mm} {N o o' : Int} (h : MkV m N o) (f : ∀ i, 0 ≤ i → i < 58 → m' 607 (o' + i) = m 607 (o + i)) : MkV m' N o' := by
  obtain ⟨h1, h2⟩ := h
  refine ⟨fun r r0 r1 => ?_, h2⟩
  rw [f _ (by omega) (by omega), f _ (by omega) (by omega)]
  exact h1 r r0 r1
theorem MkR.fr {m m' : Mm} {N b o : Int} (h : MkR N m b o) (f : ∀ x k, b < x → x < b + 4 → m' x k = m x k) (g : ∀ k, o ≤ k → k < o + 58 → m' 607 k = m 607 k) : MkR N m' b o := fun i i0 i1 => by
  rw [mkc.fr f i, g _ (by omega) (by omega)]
  exact h i i0 i1
theorem PS.fr {E m m' : Mm} (P : PS E m) (f : ∀ x k, (284 ≤ x ∧ x < 370) ∨ x = 607 ∨ (x = 597 ∧ (k = 25 ∨ k = 26)) → m' x k = m x k) : PS E m' := by
  obtain ⟨h1, h2, R, h4, h5, h6⟩ := P
  have e25 : m' 597 25 = m 597 25 := f _ _ (by omega)
  have e26 : m' 597 26 = m 597 26 := f _ _ (by omega)
  have e285 : ∀ k, m' 285 k = m 285 k := fun k => f _ _ (by omega)
  refine ⟨by rw [e25, f 284 2 (by omega)]; exact h1, by rw [e26, f 284 3 (by omega)]; exact h2, R.fr e285, h4.fr fun k _ _ => f _ _ (by omega), fun h => ?_, fun k k0 k1 => ?_⟩
  · rw [e26] at h
    exact ⟨(h5 h).1.fr (fun x k x0 x1 => f x k (by omega)) fun k _ _ => f _ _ (by omega), (h5 h).2.fr fun k _ _ => f _ _ (by omega)⟩
  · rw [e25] at k1
    rw [e285]
    have hin := R.in k0 (by omega)
    exact ⟨(h6 k k0 k1).1.fr (fun x k' x0 x1 => f x k' (by omega)) fun k' _ _ => f _ _ (by omega), (h6 k k0 k1).2.fr fun k' _ _ => f _ _ (by omega)⟩
theorem PS.er {E F m : Mm} (P : PS E m) (h : F 597 23 = E 597 23) : PS F m := by
  unfold PS at P ⊢
  rw [h]
  exact P
theorem TS.fr {m m' : Mm} (T : TS m) (f : ∀ x k, x = 2 ∨ x = 598 ∨ (x = 1 ∧ k = 1) ∨ (x = 3 ∧ (k = 0 ∨ k = 1)) ∨ (x = 597 ∧ (k = 2 ∨ k = 4 ∨ k = 5)) → m' x k = m x k) : TS m' := by
  obtain ⟨h1, h2, h3, h4⟩ := T
  have e2 : m' 597 2 = m 597 2 := f _ _ (by decide)
  refine ⟨by rw [e2, f 1 1 (by decide)]; exact h1, fun i i0 i1 => ?_, by rw [f 3 0 (by decide), f 597 4 (by decide)]; exact h3, by rw [f 3 1 (by decide), f 597 5 (by decide)]; exact h4⟩
  rw [e2] at i1
  rw [f 2 i (Or.inl rfl), f 598 i (Or.inr (Or.inl rfl))]
  exact h2 i i0 i1
/-- what open tells of a reading, and no other call -/
def OS (E m : Mm) : Prop := ∀ r, 0 ≤ r → r < E 602 578 → m (m 1 3 + 6 + 2 * r) 3 = E 602 (11 * r + 2) ∧ m (m 1 3 + 6 + 2 * r) 4 = E 602 (11 * r + 3)
def TO (E m : Mm) : Prop := TS m ∧ OS E m
theorem TO.fr {E m m' : Mm} (B : BS E m) (T : TO E m) (f : ∀ x k, x = 2 ∨ x = 598 ∨ (x = 1 ∧ k = 1) ∨ (x = 3 ∧ (k = 0 ∨ k = 1)) ∨ (x = 597 ∧ (k = 2 ∨ k = 4 ∨ k = 5)) ∨ (x = 1 ∧ k = 3) ∨ (6 ≤ x ∧ x < 210) → m' x k = m x k) : TO E m' := by
  have T2 := B.t.2.1
  have b3 := B.ct.1
  refine ⟨T.1.fr fun x k h => f x k (by omega), fun r r0 r1 => ?_⟩
  rw [f 1 3 (by omega), f _ _ (by omega), f _ _ (by omega)]
  exact T.2 r r0 r1
theorem TO.er {E F m : Mm} (T : TO E m) (h : F 602 = E 602) : TO F m := by
  unfold TO OS at T ⊢
  rw [h]
  exact T
/-- the shortener: what it has found last (sh: what is to be found, of the table's row) -/
def SS (sh : (Int → Int) → Int → List Int) (E m : Mm) : Prop := ((m 581 4 = 593 ∧ m 581 5 = 594) ∨ (m 581 4 = 594 ∧ m 581 5 = 593)) ∧ (m 581 2 = -1 ∨ ((0 ≤ m 581 2 ∧ m 581 2 < E 602 579) ∧ m 581 1 = (sh (E 602) (m 581 2)).length ∧ LA m 582 0 (sh (E 602) (m 581 2)) ∧ m 581 1 ≤ 8))
theorem SS.fr {sh : (Int → Int) → Int → List Int} {E m m' : Mm} (S : SS sh E m) (f : ∀ x k, x = 581 ∨ x = 582 → m' x k = m x k) : SS sh E m' := by
  unfold SS LA at S ⊢
  simp only [f 581 _ (Or.inl rfl), f 582 _ (Or.inr rfl)]
  exact S
theorem SS.er {sh : (Int → Int) → Int → List Int} {E F m : Mm} (S : SS sh E m) (h : F 602 = E 602) : SS sh F m := by
  unfold SS at S ⊢
  rw [h]
  exact S
def CS (sh : (Int → Int) → Int → List Int) (E m : Mm) : Prop := BS E m ∧ RS E m ∧ PS E m ∧ TO E m ∧ SS sh E m
section CSr
variable {sh : (Int → Int) → Int → List Int} {E m m' : Mm}
theorem CS.fQ (S : CS sh E m) (f : fR m m') (R : RS E m') : CS sh E m' := by
  obtain ⟨B, -, P, T, H⟩ := S
  exact ⟨B.fQ f, R, P.fr fun x k h => f x k (by omega) (by omega) (by omega) (by omega), T.fr B fun x k h => f x k (by omega) (by omega) (by omega) (by omega), H.fr fun x k h => f x k (by omega) (by omega) (by omega) (by omega)⟩
theorem CS.gQ (S : CS sh E m) (f : gR m m') (h0 : m' 597 40 = 0) : CS sh E m' := by
  obtain ⟨B, R, P, T, H⟩ := S
  exact ⟨B.gQ f h0, R.gQ B.p f, P.fr fun x k h => f x k (by omega) (by omega), T.fr B fun x k h => f x k (by omega) (by omega), H.fr fun x k h => f x k (by omega) (by omega)⟩
theorem CS.pI {M M' : Nat} {as as' : List aV} {s : Int} {K : Int → Int → Mm → Prop} (S : CS sh E m) (h1 : ∀ K : Int → Mm → Prop, (∀ m', fR m m' → BS E m' → RS E m' → K s m') → TrI M as m K) (h2 : ∀ m1 : Mm, BS E m1 → ∀ K : Int → Mm → Prop, (∀ m', gR m1 m' → m' 597 40 = 0 → K s m') → TrI M' as' m1 K)
    (kk : ∀ m', CS sh E m' → K s s m') : TrI M as m fun v m1 => TrI M' as' m1 fun v' m2 => K v v' m2 :=
  h1 _ fun _ f1 B1 R1 => h2 _ B1 _ fun _ f2 z2 => kk _ ((S.fQ f1 R1).gQ f2 z2)
theorem CS.pL {M M' : Nat} {as as' : List aV} {s : Int} {K : Int → Int → Mm → Prop} (S : CS sh E m) (h1 : ∀ K : Int → Mm → Prop, (∀ m', fR m m' → BS E m' → RS E m' → K s m') → TrL M as m K) (h2 : ∀ m1 : Mm, BS E m1 → ∀ K : Int → Mm → Prop, (∀ m', gR m1 m' → m' 597 40 = 0 → K s m') → TrL M' as' m1 K)
    (kk : ∀ m', CS sh E m' → K s s m') : TrL M as m fun v m1 => TrL M' as' m1 fun v' m2 => K v v' m2 :=
  h1 _ fun _ f1 B1 R1 => h2 _ B1 _ fun _ f2 z2 => kk _ ((S.fQ f1 R1).gQ f2 z2)
end CSr
/-- a new snapshot where the marks have changed -/
def eSt (E m : Mm) : Mm := fun x k => if x = 607 then m 607 k else E x k
theorem eSt_x {E m : Mm} {x k : Int} (h : x ≠ 607) : eSt E m x k = E x k := if_neg h
theorem eSt_t {E m : Mm} {k : Int} : eSt E m 607 k = m 607 k := if_pos rfl
theorem eSt_r {E m : Mm} {x : Int} (h : x ≠ 607) : eSt E m x = E x := funext fun _ => if_neg h
theorem BS.mk {E m : Mm} (B : BS E m) : MkR (E 597 23) m 280 0 := fun i i0 i1 => by
  have b7 := B.2.2.2.2.2.2.2.2.2.2.1
  have b8 := B.2.2.2.2.2.2.2.2.2.2.2
  have at' : m 607 i = E 607 i := B.a.t i1
  have P1 := B.2.1.1
  rw [Int.zero_add, at']
  unfold mkc
  split
  · rw [nx_l (by omega)]
    exact (b7 i i0 (by omega)).1
  · split
    · rw [nx_l (by omega)]
      have := (b7 (i - 24) (by omega) (by omega)).2
      rw [show 24 + (i - 24) = i by omega] at this
      exact this
    · have := b8 (i - 48) (by omega) (by omega)
      rw [show 48 + (i - 48) = i by omega] at this
      exact this
theorem MkR.r {m : Mm} {N b o r : Int} (h : MkR N m b o) (hN : 0 ≤ N) (r0 : 0 ≤ r) (r1 : r < 24) : m (b + 1) r = m 607 (o + r) ∧ m (b + 2) r = m 607 (o + (24 + r)) := by
  have h1 := h r r0 (by omega)
  have h2 := h (24 + r) (by omega) (by omega)
  rw [nx_l (by omega)] at h1 h2
  unfold mkc at h1 h2
  rw [if_pos r1] at h1
  rw [if_neg (by omega), if_pos (by omega), show 24 + r - 24 = r by omega] at h2
  exact ⟨h1, h2⟩
theorem MkR.w {m : Mm} {N b o w : Int} (h : MkR N m b o) (w0 : 0 ≤ w) (w1 : w < 10) : m (b + 3) w = nx N (48 + w) (m 607 (o + (48 + w))) := by
  have h1 := h (48 + w) (by omega) (by omega)
  unfold mkc at h1
  rw [if_neg (by omega), if_neg (by omega), show 48 + w - 48 = w by omega] at h1
  exact h1
theorem BS.st {E m m' : Mm} (B : BS E m) (f : ∀ x k, (x = 1 ∧ 3 ≤ k ∧ k ≤ 6) ∨ (6 ≤ x ∧ x < 281) ∨ (x = 597 ∧ k = 40) ∨ (per x k ∧ x ≠ 607) → m' x k = m x k) (V : MkV m' (E 597 23) 0) (R : MkR (E 597 23) m' 280 0) : BS (eSt E m') m' := by
  obtain ⟨T, Pg, W, A, b1, b2, b3, b4, b5, b6, b7, b8⟩ := B
  have e3 : m' 1 3 = m 1 3 := f _ _ (by omega)
  have e5 : m' 1 5 = m 1 5 := f _ _ (by omega)
  refine ⟨T.er (fun k => eSt_x (by decide)) (eSt_x (by decide)), Pg.er (fun k => eSt_x (by decide)) (fun k => eSt_x (by decide)) (eSt_x (by decide)), fun r r0 r1 => ?_, fun x k hp => ?_, (eSt_x (by decide)).trans b1, by rw [f _ _ (by omega)]; exact b2, ?_, by rw [e3, f _ _ (by omega)]; exact b4, ?_, by rw [e5, f _ _ (by omega)]; exact b6, fun r r0 r1 => ?_, fun w w0 w1 => ?_⟩
  · have := V.1 r r0 r1
    rw [Int.zero_add, Int.zero_add] at this
    rw [eSt_t, eSt_t]
    exact this
  · by_cases hx : x = 607
    · rw [hx, eSt_t]
    · rw [eSt_x hx, f x k (Or.inr (Or.inr (Or.inr ⟨hp, hx⟩)))]
      exact A x k hp
  · rw [e3]
    exact (b3.fr T fun x k x0 x1 => f x k (by omega)).er fun k => eSt_x (by decide)
  · rw [e5]
    exact (b5.fr Pg fun x k x0 x1 => f x k (by omega)).er (fun k => eSt_x (by decide)) (fun k => eSt_x (by decide)) (eSt_x (by decide))
  · have := R.r Pg.1.1 r0 r1
    rw [Int.zero_add, Int.zero_add] at this
    rw [eSt_t, eSt_t]
    exact this
  · have := R.w w0 w1
    rw [Int.zero_add] at this
    rw [eSt_t, eSt_x (by decide)]
    exact this
theorem MaC.st {E m m' : Mm} (B : BS E m) (h : MaC E m) (f : ∀ k, m' 595 k = m 595 k) : MaC (eSt E m') m' := fun w w0 w1 e e0 e1 hb hx => by
  rw [eSt_x (by decide)] at w1 e1
  rw [f] at hb
  exact h w w0 w1 e e0 e1 hb (xw_sub B.t B.p B.w (fun k _ => eSt_x (by decide)) (fun k => eSt_x (by decide)) (fun k => eSt_x (by decide)) B.wo ⟨w0, w1⟩ ⟨e0, e1⟩ hx)
/-- both sides have noted what was -/
def NoC (m m' : Mm) (n : Int) : Prop := f143 m m' ∧ Rg m' ∧ m' 284 2 = n - shN n + 1 ∧ (∀ k i, 0 ≤ k → k < n - shN n → mkc m' (m' 285 k) i = mkc m (m 285 (k + shN n)) i) ∧ ∀ i, 0 ≤ i → i < 58 → mkc m' (m' 285 (n - shN n)) i = mkc m 280 i
def NoR (m m' : Mm) (n : Int) : Prop := f273 m m' ∧ m' 597 25 = n - shN n + 1 ∧ (∀ k i, 0 ≤ k → k < n - shN n → 0 ≤ i → i < 58 → m' 607 (58 * (2 + k) + i) = m 607 (58 * (2 + (k + shN n)) + i)) ∧ ∀ i, 0 ≤ i → i < 58 → m' 607 (58 * (2 + (n - shN n)) + i) = m 607 i
theorem PS.note {E F m ma mb mc md : Mm} (P : PS E m) (B : BS E m) (Nc : NoC m ma (m 597 25)) (fab : ∀ x k, (284 ≤ x ∧ x < 370) ∨ x = 607 ∨ (x = 597 ∧ (k = 25 ∨ k = 26)) → mb x k = ma x k) (Nr : NoR mb mc (m 597 25)) (fcd : ∀ x k, (284 ≤ x ∧ x < 370) ∨ (x = 607 ∧ 58 ≤ k) ∨ (x = 597 ∧ (k = 25 ∨ k = 26)) → md x k = mc x k) (hN : F 597 23 = E 597 23) (hV : MkV md (E 597 23) 0) : PS F md := by
  obtain ⟨h1, h2, R, h4, h5, h6⟩ := P
  obtain ⟨c1, c2, c3, c4, c5⟩ := Nc
  obtain ⟨d1, d2, d3, d4⟩ := Nr
  generalize hn : m 597 25 = n at *
  have hs : (shN n = 0 ∧ n < 20) ∨ (shN n = 1 ∧ n = 20) := by unfold shN; split <;> omega
  have hmk := B.mk
  -- cells from md to ma, to m
  have g : ∀ x k, 284 ≤ x ∧ x < 370 → md x k = ma x k := fun x k h => by rw [fcd x k (Or.inl h), d1 x k (by omega) (by omega)]; exact fab x k (Or.inl h)
  have g7 : ∀ k, mb 607 k = m 607 k := fun k => by rw [fab 607 k (Or.inr (Or.inl rfl))]; exact c1 607 k (by omega) (by omega) (by omega)
  have e285 : ∀ k, md 285 k = ma 285 k := fun k => g _ _ (by omega)
  have r7 : ∀ i, 0 ≤ i → i < 58 → md 607 (58 + i) = m 607 (58 + i) := fun i i0 i1 => by rw [fcd _ _ (by omega), d1 _ _ (by omega) (by omega)]; exact g7 _
  have rI : ∀ k, md 286 k = md 286 k := fun _ => rfl
  have i26 : md 597 26 = m 597 26 := by rw [fcd _ _ (by omega), d1 _ _ (by omega) (by omega), fab _ _ (by omega)]; exact c1 _ _ (by omega) (by omega) (by omega)
  have i25 : md 597 25 = n - shN n + 1 := by rw [fcd _ _ (by omega)]; exact d2
  unfold PS
  rw [hN, i25, i26]
  refine ⟨⟨?_, by omega, by omega⟩, ⟨?_, h2.2⟩, ?_, hV, fun h => ⟨fun i i0 i1 => ?_, (h5 h).2.mv r7⟩, fun k k0 k1 => ?_⟩
  · rw [g _ _ (by omega)]
    exact c3
  · rw [g _ _ (by omega), c1 _ _ (by omega) (by omega) (by omega)]
    exact h2.1
  · exact c2.fr e285
  · rw [r7 i i0 i1, ← (h5 h).1 i i0 i1]
    exact mkc.fr (fun x k x0 x1 => by rw [g x k (by omega)]; exact c1 x k (by omega) (by omega) (by omega)) i
  · rw [e285]
    have hin := c2.in k0 (show k < 20 by omega)
    have em : ∀ i, mkc md (ma 285 k) i = mkc ma (ma 285 k) i := fun i => mkc.fr (fun x k' x0 x1 => g x k' (by omega)) i
    by_cases hk : k = n - shN n
    · have e7 : ∀ i, 0 ≤ i → i < 58 → md 607 (58 * (2 + k) + i) = m 607 (0 + i) := fun i i0 i1 => by
        rw [fcd _ _ (by omega), hk, d4 i i0 i1, g7, Int.zero_add]
      refine ⟨fun i i0 i1 => ?_, h4.mv e7⟩
      rw [em, e7 i i0 i1, hk, c5 i i0 i1]
      exact hmk i i0 i1
    · have e7 : ∀ i, 0 ≤ i → i < 58 → md 607 (58 * (2 + k) + i) = m 607 (58 * (2 + (k + shN n)) + i) := fun i i0 i1 => by
        rw [fcd _ _ (by omega), d3 k i k0 (by omega) i0 i1, g7]
      have hq := h6 (k + shN n) (by omega) (by omega)
      refine ⟨fun i i0 i1 => ?_, hq.2.mv e7⟩
      rw [em, e7 i i0 i1, c4 k i k0 (by omega)]
      exact hq.1 i i0 i1
