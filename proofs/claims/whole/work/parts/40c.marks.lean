/-! weigh, fix, free, forget, learn: class and reference together -/
section MK
variable {sh : (Int → Int) → Int → List Int} {E m : Mm}
/-- what a call that changes marks leaves: a new snapshot -/
theorem CS.st {md : Mm} (S : CS sh E m) (f : ∀ x k, (x = 1 ∧ 3 ≤ k ∧ k ≤ 6) ∨ (6 ≤ x ∧ x < 281) ∨ (x = 597 ∧ k = 40) ∨ (per x k ∧ x ≠ 607) → md x k = m x k) (hV : MkV md (E 597 23) 0) (hR : MkR (E 597 23) md 280 0) (hP : PS (eSt E md) md) (h17 : md 1 17 = 1) (f5 : ∀ k, md 595 k = m 595 k)
    (fT : ∀ x k, x = 2 ∨ x = 598 ∨ (x = 1 ∧ k = 1) ∨ (x = 3 ∧ (k = 0 ∨ k = 1)) ∨ (x = 597 ∧ (k = 2 ∨ k = 4 ∨ k = 5)) → md x k = m x k) (fS : ∀ x k, x = 581 ∨ x = 582 → md x k = m x k) : CS sh (eSt E md) md := by
  obtain ⟨B, R, P, T, H⟩ := S
  exact ⟨B.st f hV hR, ⟨fun h => absurd (h17.symm.trans h) (by decide), R.2.st B f5⟩, hP, (T.fr B fun x k h => (Classical.em ((x = 1 ∧ k = 3) ∨ (6 ≤ x ∧ x < 210))).elim (fun q => f x k (by omega)) fun q => fT x k (by omega)).er (eSt_r (by decide)), (H.fr fS).er (eSt_r (by decide))⟩
theorem CS.b (S : CS sh E m) : BS E m := S.1
theorem CS.r (S : CS sh E m) : RS E m := S.2.1
theorem CS.ps (S : CS sh E m) : PS E m := S.2.2.1
/-- the frame of a whole changing call, both sides -/
def fCh (m md : Mm) : Prop := ∀ x k, ¬ (x = 1 ∧ k = 17) → ¬ (281 ≤ x ∧ x < 284) → ¬ (x = 284 ∧ k = 2) → x ≠ 285 → ¬ (290 ≤ x ∧ x < 370) → x ≠ 607 → ¬ (x = 597 ∧ (k = 0 ∨ k = 25 ∨ k = 31 ∨ k = 33 ∨ k = 38 ∨ k = 39)) → ¬ (608 ≤ x ∧ x < 627) → ¬ (370 ≤ x ∧ x < 581) → x ≠ 596 → md x k = m x k
theorem CS.ch {md : Mm} (S : CS sh E m) (f : fCh m md) (hV : MkV md (E 597 23) 0) (hR : MkR (E 597 23) md 280 0) (hP : PS (eSt E md) md) (h17 : md 1 17 = 1) : CS sh (eSt E md) md :=
  S.st (fun x k h => by
    unfold per at h
    exact f x k (by omega) (by omega) (by omega) (by omega) (by omega) (by omega) (by omega) (by omega) (by omega) (by omega)) hV hR hP h17 (fun k => f _ _ (by omega) (by omega) (by omega) (by omega) (by omega) (by omega) (by omega) (by omega) (by omega) (by omega))
    (fun x k h => f x k (by omega) (by omega) (by omega) (by omega) (by omega) (by omega) (by omega) (by omega) (by omega) (by omega)) (fun x k h => f x k (by omega) (by omega) (by omega) (by omega) (by omega) (by omega) (by omega) (by omega) (by omega) (by omega))
theorem q143 {K : Mm → Prop} (P : PS E m) (kk : ∀ m', NoC m m' (m 597 25) → K m') : TrV 143 [(1, 284), (1, 280)] m K :=
  c143 P.2.2.1 P.1.1 P.1.2 fun m' f R x C L => kk m' ⟨f, R, x, C, L⟩
theorem q273 {K : Mm → Prop} {n : Int} (h : m 597 25 = n) (h0 : 0 ≤ n ∧ n ≤ 20) (kk : ∀ m', NoR m m' n → K m') : TrV 273 [(1, 597)] m K :=
  c273 h h0 fun m' f x C L => kk m' ⟨f, x, C, L⟩
theorem NoC.g {ma : Mm} {n x k : Int} (h : NoC m ma n) (n1 : ¬ (x = 284 ∧ k = 2)) (n2 : x ≠ 285) (n3 : ¬ (290 ≤ x ∧ x < 370)) : ma x k = m x k := h.1 x k n1 n2 n3
theorem NoR.g {mc : Mm} {n x k : Int} (h : NoR m mc n) (n1 : ¬ (x = 607 ∧ 116 ≤ k ∧ k < 1276)) (n2 : ¬ (x = 597 ∧ k = 25)) : mc x k = m x k := h.1 x k n1 n2
/-- weigh -/
theorem p_weigh {r v : Int} {K : Int → Int → Mm → Prop} (S : CS sh E m) (kk : ∀ F m' s, CS sh F m' → K s s m') : TrI 147 [(1, 1), (0, r), (0, v)] m fun v1 m1 => TrI 276 [(1, 597), (0, r), (0, v)] m1 fun v2 m2 => K v1 v2 m2 := by
  have B := S.b
  have T2 := B.t.2.1
  -- refused
  have no : ¬ ((0 ≤ r ∧ r < E 602 578) ∧ 0 ≤ v ∧ v ≤ 999) → TrI 276 [(1, 597), (0, r), (0, v)] m fun v2 m2 => K (-1) v2 m2 := by
    intro hn
    refine e276 _ _ fun m1 e1 => ?_
    obtain ⟨f1, B1⟩ := B.th e1
    rw [B1.a.b.trans B.t.1, B1.a.r, in_w (by omega)]
    have fin := kk E m1 (-1) (S.gQ f1 B1.h0)
    exact ⟨rfl, fun h => ⟨fun h2 => absurd ⟨h, h2⟩ hn, fun _ => fin⟩, fun _ => fin⟩
  refine e147 _ _ ⟨B.sT, ?_⟩
  rw [B.rn]
  refine ⟨fun h => ⟨fun h2 => no (by omega), fun h2 => ⟨fun h3 => no (by omega), fun h3 => ⟨by omega, ?_⟩⟩⟩, fun h => no fun q => h q.1⟩
  refine q143 S.ps fun ma Na => fun m13 e13 m15 e15 => ?_
  have fb : ∀ x k, ¬ (x = 281 ∧ k = r) → ¬ (x = 1 ∧ k = 17) → m15 x k = ma x k := fun x k n1 n2 => by rw [e15, um_n n2, e13, um_n n1]
  refine e276 _ _ fun mb eb => ?_
  have gb : ∀ x k, ¬ (x = 281 ∧ k = r) → ¬ (x = 1 ∧ k = 17) → ¬ (x = 597 ∧ k = 0) → mb x k = ma x k := fun x k n1 n2 n3 => by rw [eb, um_n n3]; exact fb x k n1 n2
  have hb : ∀ x k, per x k → mb x k = m x k := fun x k hp => by
    unfold per at hp
    rw [gb x k (by omega) (by omega) (by omega)]
    exact Na.g (by omega) (by omega) (by omega)
  have A : Ag E mb := B.a.fr hb
  have n25 : mb 597 25 = m 597 25 := by rw [gb _ _ (by omega) (by omega) (by omega)]; exact Na.g (by omega) (by omega) (by omega)
  rw [A.b.trans B.t.1, A.r, in_w (by omega)]
  refine ⟨rfl, fun _ => ⟨fun _ => ?_, fun q => absurd ⟨by omega, by omega⟩ q⟩, fun q => absurd h q⟩
  refine q273 n25 S.ps.1.2 fun mc Nr => ?_
  rw [wrI (x := 0 + r) (by omega) (by omega), Int.zero_add]
  refine ⟨by omega, fun md ed => ?_⟩
  have gd : ∀ x k, ¬ (x = 607 ∧ k = r) → md x k = mc x k := fun x k n1 => by rw [ed, um_n n1]
  have low : ∀ k, k < 58 → mc 607 k = m 607 k := fun k hk => by
    rw [Nr.g (by omega) (by omega), gb _ _ (by omega) (by omega) (by omega)]
    exact Na.g (by omega) (by omega) (by omega)
  have d7 : ∀ k, k < 58 → md 607 k = if k = r then v else m 607 k := fun k hk => by
    by_cases hx : k = r
    · rw [if_pos hx, hx, ed, um_s]
    · rw [if_neg hx, gd _ _ (by omega)]
      exact low k hk
  have dm : ∀ x k, 281 ≤ x ∧ x < 284 → md x k = if x = 281 ∧ k = r then v else m x k := fun x k hx => by
    rw [gd _ _ (by omega), Nr.g (by omega) (by omega), eb, um_n (by omega), e15, um_n (by omega), e13]
    by_cases hc : x = 281 ∧ k = r
    · rw [if_pos hc, hc.1, hc.2, um_s]
    · rw [if_neg hc, um_n hc]
      exact Na.g (by omega) (by omega) (by omega)
  have V0 := S.ps.2.2.2.1
  have hV : MkV md (E 597 23) 0 := by
    refine ⟨fun i i0 i1 => ?_, rfl⟩
    have := V0.1 i i0 i1
    rw [d7 _ (by omega), d7 _ (by omega), if_neg (show ¬ (0 : Int) + (24 + i) = r by omega)]
    split
    · exact ⟨by omega, this.2⟩
    · exact this
  have P1 := B.p.1
  have hR : MkR (E 597 23) md 280 0 := by
    intro i i0 i1
    have := B.mk i i0 i1
    unfold mkc at this ⊢
    rw [Int.zero_add] at this ⊢
    rw [d7 _ (by omega), dm _ _ (by omega), dm _ _ (by omega), dm _ _ (by omega)]
    by_cases hx : i = r
    · rw [if_pos hx, if_pos (show i < 24 by omega), if_pos ⟨by decide, hx⟩, nx_l (by omega)]
    · rw [if_neg hx, if_neg (show ¬ ((280 : Int) + 1 = 281 ∧ i = r) by omega), if_neg (show ¬ ((280 : Int) + 2 = 281 ∧ i - 24 = r) by omega), if_neg (show ¬ ((280 : Int) + 3 = 281 ∧ i - 48 = r) by omega)]
      exact this
  have hP : PS (eSt E md) md := S.ps.note B Na (fun x k hx => gb x k (by omega) (by omega) (by omega)) Nr (fun x k hx => gd x k (by omega)) (eSt_x (by decide)) hV
  have s1 : mc 607 r = m 281 r := by
    have := (B.mk.r B.p.1.1 h.1 (by omega)).1
    rw [Int.zero_add] at this
    rw [low r (by omega)]
    exact this.symm
  rw [s1]
  refine kk _ _ _ (S.ch (fun x k n1 n2 n3 n4 n5 n6 n7 n8 n9 n10 => ?_) hV hR hP ?_)
  · rw [gd _ _ (by omega), Nr.g (by omega) (by omega), gb _ _ (by omega) (by omega) (by omega)]
    exact Na.g (by omega) (by omega) (by omega)
  · rw [gd _ _ (by omega), Nr.g (by omega) (by omega), eb, um_n (by omega), e15, um_s]
end MK
