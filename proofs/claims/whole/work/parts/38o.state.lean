/-! the relation between class and reference, between two calls; refresh(76) -/
/-- a mark of a place behind the page's last word: none, whatever the reference has there -/
def nx (N i v : Int) : Int := if i < 48 + N then v else -9
theorem nx_l {N i v : Int} (h : i < 48 + N) : nx N i v = v := if_pos h
theorem nx_g {N i v : Int} (h : ¬ i < 48 + N) : nx N i v = -9 := if_neg h
theorem nx_9 {N i : Int} : nx N i (-9) = -9 := by
  unfold nx
  split <;> rfl
/-- the base: table, page, marks -/
def BS (E m : Mm) : Prop := InvT E ∧ InvP E ∧ InvW E ∧ Ag E m ∧ E 597 27 = -1 ∧ m 597 40 = 0 ∧ CT E m (m 1 3) ∧ m 1 4 = 114 - m 1 3 ∧ CP E m (m 1 5) ∧ m 1 6 = 455 - m 1 5 ∧ (∀ r, 0 ≤ r → r < 24 → m 281 r = E 607 r ∧ m 282 r = E 607 (24 + r)) ∧ ∀ w, 0 ≤ w → w < 10 → m 283 w = nx (E 597 23) (48 + w) (E 607 (48 + w))
/-- what refresh has laid -/
def Res (E m : Mm) : Prop := m 411 9 = E 597 23 ∧ (∀ w, 0 ≤ w → w < E 597 23 → WdC E m 411 w) ∧ PaC E m 511
/-- the entries that may fit yet -/
def MaC (E m : Mm) : Prop := ∀ w, 0 ≤ w → w < E 597 23 → ∀ e, 0 ≤ e → e < E 602 579 → ¬ iand (ishr (m 595 w) e) 1 = 1 → ¬ xw E w e < 1000000
def RS (E m : Mm) : Prop := (m 1 17 = 0 → Res E m) ∧ MaC E m
/-- what a question may change on the class's side, on the reference's -/
def fR (m m' : Mm) : Prop := ∀ x k, ¬ (x = 1 ∧ k = 17) → ¬ (370 ≤ x ∧ x < 581) → x ≠ 595 → x ≠ 596 → m' x k = m x k
def gR (m m' : Mm) : Prop := ∀ x k, ¬ (x = 597 ∧ (k = 0 ∨ k = 31 ∨ k = 33 ∨ k = 38 ∨ k = 39 ∨ k = 40 ∨ k = 50)) → ¬ (608 ≤ x ∧ x < 627) → m' x k = m x k
theorem fR.refl {m : Mm} : fR m m := fun _ _ _ _ _ _ => rfl
theorem fR.tr {m m1 m2 : Mm} (h : fR m m1) (h2 : fR m1 m2) : fR m m2 := fun x k a b c d => (h2 x k a b c d).trans (h x k a b c d)
theorem gR.refl {m : Mm} : gR m m := fun _ _ _ _ => rfl
theorem gR.tr {m m1 m2 : Mm} (h : gR m m1) (h2 : gR m1 m2) : gR m m2 := fun x k a b => (h2 x k a b).trans (h x k a b)
theorem BS.fr {E m m' : Mm} (B : BS E m) (f : ∀ x k, (x = 1 ∧ 3 ≤ k ∧ k ≤ 6) ∨ (6 ≤ x ∧ x < 284) ∨ (x = 597 ∧ k = 40) ∨ per x k → m' x k = m x k) : BS E m' := by
  obtain ⟨T, Pg, W, A, b1, b2, b3, b4, b5, b6, b7, b8⟩ := B
  have e3 : m' 1 3 = m 1 3 := f _ _ (by omega)
  have e5 : m' 1 5 = m 1 5 := f _ _ (by omega)
  refine ⟨T, Pg, W, A.fr fun x k hp => f x k (Or.inr (Or.inr (Or.inr hp))), b1, by rw [f _ _ (by omega)]; exact b2, ?_, by rw [e3, f _ _ (by omega)]; exact b4, ?_, by rw [e5, f _ _ (by omega)]; exact b6, fun r r0 r1 => ?_, fun w w0 w1 => ?_⟩
  · rw [e3]
    exact b3.fr T fun x k x0 x1 => f x k (by omega)
  · rw [e5]
    exact b5.fr Pg fun x k x0 x1 => f x k (by omega)
  · rw [f _ _ (by omega), f _ _ (by omega)]
    exact b7 r r0 r1
  · rw [f _ _ (by omega)]
    exact b8 w w0 w1
theorem BS.fx {E m : Mm} (B : BS E m) {w : Int} (w0 : 0 ≤ w) (w1 : w < E 597 23) : m 283 w = fxE E w := by
  have P1 := B.2.1.1
  rw [B.2.2.2.2.2.2.2.2.2.2.2 w w0 (by omega), nx_l (by omega)]
  rfl
theorem BS.fQ {E m m' : Mm} (B : BS E m) (f : fR m m') : BS E m' := B.fr fun x k h => by
  unfold per at h
  exact f x k (by omega) (by omega) (by omega) (by omega)
theorem BS.gQ {E m m' : Mm} (B : BS E m) (f : gR m m') (h0 : m' 597 40 = 0) : BS E m' := B.fr fun x k h => by
  unfold per at h
  by_cases h40 : x = 597 ∧ k = 40
  · rw [h40.1, h40.2, h0]
    exact B.2.2.2.2.2.1.symm
  · exact f x k (by omega) (by omega)
theorem Res.fr {E m m' : Mm} (Pg : InvP E) (R : Res E m) (f : ∀ x k, 411 ≤ x → x < 546 → ¬ (461 ≤ x ∧ x < 511) → m' x k = m x k) : Res E m' := by
  obtain ⟨h1, h2, h3⟩ := R
  have P1 := Pg.1
  refine ⟨by rw [f _ _ (by decide) (by decide) (by decide)]; exact h1, fun w w0 w1 => (h2 w w0 w1).fr fun x k g => ?_, h3.fr Pg fun x k x0 x1 => f x k (by omega) (by omega) (by omega)⟩
  have := wC_ge (w := w) (by omega) g
  exact f x k (by omega) (by omega) (by omega)
theorem MaC.fr {E m m' : Mm} (R : MaC E m) (f : ∀ k, m' 595 k = m 595 k) : MaC E m' := fun w w0 w1 e e0 e1 h => R w w0 w1 e e0 e1 (by rw [← f]; exact h)
theorem RS.gQ {E m m' : Mm} (Pg : InvP E) (R : RS E m) (f : gR m m') : RS E m' :=
  ⟨fun h => (R.1 (by rw [← f 1 17 (by decide) (by decide)]; exact h)).fr Pg fun x k x0 x1 _ => f x k (by omega) (by omega), R.2.fr fun k => f _ _ (by omega) (by omega)⟩
/-- all the words' choices, as PaC's rules want them -/
theorem Res.ca {E m : Mm} (R : Res E m) : CAC E m 411 := ⟨R.1, fun w w0 w1 => (R.2.1 w w0 w1).2.2.2⟩
theorem BS.sT {E m : Mm} (B : BS E m) : shp (m 1 3) = 30 := B.2.2.2.2.2.2.1.shp
theorem BS.sP {E m : Mm} (B : BS E m) : shp (m 1 5) = 24 := B.2.2.2.2.2.2.2.2.1.shp
theorem mkE_MaC {E m : Mm} (T : InvT E) (h : ∀ w, 0 ≤ w → w < E 597 23 → m 595 w = mkE E w (E 602 579).toNat) : MaC E m := by
  intro w w0 w1 e e0 e1 hb hx
  have T3 := T.2.2.1
  rw [h w w0 w1] at hb
  obtain ⟨n, rfl⟩ := Int.eq_ofNat_of_zero_le e0
  refine hb ((bit_of (by omega)).mpr ((mkE_bit (E 602 579).toNat (by omega) n (by omega)).mpr ⟨by omega, hx⟩))
theorem BS.w77 {E m : Mm} (B : BS E m) : ∀ r, 0 ≤ r → r < E 602 578 → v_W m 280 r (E 602 581) ∧ max 0 (m (280 + 1) r - E 602 581 * m (280 + 2) r) = wnow E r := by
  obtain ⟨T, Pg, W, A, b1, b2, b3, b4, b5, b6, b7, b8⟩ := B
  intro r r0 r1
  have T2 := T.2.1
  have h := b7 r r0 (by omega)
  have w := W r r0 (by omega)
  have e1 : m (280 + 1) r = E 607 r := h.1
  have e2 : m (280 + 2) r = E 607 (24 + r) := h.2
  refine ⟨?_, ?_⟩
  · unfold v_W
    rw [e1, e2]
    exact ⟨by decide +kernel, ⟨r0, by omega⟩, T.2.2.2.2.1, w.1, w.2⟩
  · rw [e1, e2]
    rfl
/-- refresh(76) -/
theorem c76 {E m : Mm} {K : Mm → Prop} (B : BS E m) (R : RS E m)
    (kk : ∀ m', fR m m' → BS E m' → m' 1 17 = 0 → Res E m' → MaC E m' → K m') : TrV 76 [(1, 1)] m K := by
  obtain ⟨T, Pg, W, A, b1, b2, b3, b4, b5, b6, b7, b8⟩ := id B
  have P1 := Pg.1
  have T3 := T.2.2.1
  refine e76 ⟨fun h => kk m fR.refl B h (R.1 h) R.2, fun h => ?_⟩
  rw [← b1]
  refine c77 T b3 rfl B.w77 fun m3 f3 O3 => ?_
  have f3' : fR m m3 := fun x k n1 n2 n3 n4 => f3 x k (by omega) (by omega)
  have B3 := B.fQ f3'
  have e3 : m3 1 3 = m 1 3 := f3 _ _ (by decide) (by decide)
  have e5 : m3 1 5 = m 1 5 := f3 _ _ (by decide) (by decide)
  rw [e3, e5]
  have T3' : CT E m3 (m 1 3) := by rw [← e3]; exact B3.2.2.2.2.2.2.1
  have P3' : CP E m3 (m 1 5) := by rw [← e5]; exact B3.2.2.2.2.2.2.2.2.1
  refine c79 T Pg W T3' P3' O3 (Or.inl rfl) rfl (fun w w0 w1 e e0 e1 hb => R.2 w w0 w1 e e0 e1 (by rw [← f3 595 w (by decide) (by omega)]; exact hb)) fun m5 f5 x9 D5 => ?_
  have f5' : fR m m5 := fun x k n1 n2 n3 n4 => by rw [f5 x k (by omega) (by omega) (by omega)]; exact f3' x k n1 n2 n3 n4
  have loop : ∀ (n w : Nat) (m6 : Mm), (w : Int) + n = E 597 23 → (∀ x k, x ≠ 595 → m6 x k = m5 x k) → (∀ v : Int, 0 ≤ v → v < w → m6 595 v = mkE E v (E 602 579).toNat) → X 76 49 [(1, 1), (0, (w : Int))] [] m6 (qV K) := by
    intro n
    induction n with
    | zero =>
      intro w m6 hw f6 I6
      have f6' : fR m m6 := fun x k n1 n2 n3 n4 => by rw [f6 x k n3]; exact f5' x k n1 n2 n3 n4
      have B6 := B.fQ f6'
      have D6 : ∀ v, 0 ≤ v → v < E 597 23 → WdC E m6 411 v := fun v v0 v1 => (D5 v v0 v1).fr fun x k g => by
        have := wC_ge (w := v) (by omega) g
        exact f6 x k (by omega)
      have z6 : m6 411 9 = E 597 23 := by rw [f6 _ _ (by decide)]; exact x9
      refine w76_49 _ ⟨B6.sP, fun h => absurd h (by rw [B6.2.2.2.2.2.2.2.2.1.2.1]; omega), fun _ => ?_⟩
      refine c96 T Pg W B6.2.2.2.2.2.2.1 (Or.inl rfl) (Or.inl rfl) ⟨z6, fun v v0 v1 => (D6 v v0 v1).2.2.2⟩ (fun v v0 v1 => B6.fx v0 v1) fun m7 f7 y1 y2 y3 y4 y5 => fun m8 e8 => ?_
      have f8 : ∀ x k, ¬ (x = 1 ∧ k = 17) → ¬ (511 ≤ x ∧ x < 546) → m8 x k = m6 x k := fun x k n1 n2 => by rw [e8, um_n n1]; exact f7 x k (by omega)
      have f8' : fR m m8 := fun x k n1 n2 n3 n4 => by rw [f8 x k n1 (by omega)]; exact f6' x k n1 n2 n3 n4
      have P7 : PaC E m7 511 := ⟨y1, y2, y3, y4, y5⟩
      refine kk m8 f8' (B.fQ f8') (by rw [e8, um_s]) ⟨by rw [f8 _ _ (by decide) (by decide)]; exact z6, fun v v0 v1 => (D6 v v0 v1).fr fun x k g => ?_, P7.fr Pg fun x k x0 x1 => by rw [e8, um_x (by omega)]⟩ (mkE_MaC T fun v v0 v1 => ?_)
      · have := wC_ge (w := v) (by omega) g
        exact f8 x k (by omega) (by omega)
      · rw [f8 _ _ (by omega) (by decide)]
        exact I6 v v0 (by omega)
    | succ n ih =>
      intro w m6 hw f6 I6
      have f6' : fR m m6 := fun x k n1 n2 n3 n4 => by rw [f6 x k n3]; exact f5' x k n1 n2 n3 n4
      have B6 := B.fQ f6'
      refine w76_49 _ ⟨B6.sP, fun _ => ⟨by omega, fun m11 e11 => ?_⟩, fun h => absurd (show (w : Int) < m6 (m6 1 5) 4 by rw [B6.2.2.2.2.2.2.2.2.1.2.1]; omega) h⟩
      have e : m6 437 w = mkE E w (E 602 579).toNat := by
        rw [f6 _ _ (by decide)]
        exact (D5 w (by omega) (by omega)).2.2.1
      rw [e] at e11
      rw [wrI (x := (w : Int) + 1) (by omega) (by omega)]
      refine ih (w + 1) m11 (by omega) (fun x k hn => by rw [e11, um_x hn]; exact f6 x k hn) fun v v0 v1 => ?_
      by_cases hv : v = w
      · rw [hv, e11, um_s]
      · rw [e11, um_k hv]
        exact I6 v v0 (by omega)
  exact loop (E 597 23).toNat 0 m5 (by omega) (fun _ _ _ => rfl) fun v v0 v1 => by omega
