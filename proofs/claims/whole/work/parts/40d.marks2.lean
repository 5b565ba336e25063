/-! fix, free, forget, learn -/
section MK
variable {sh : (Int → Int) → Int → List Int} {E m : Mm}
theorem CS.two {ma mb mc md : Mm} (S : CS sh E m) (Na : NoC m ma (m 597 25)) (fb : ∀ x k, ¬ (x = 1 ∧ k = 17) → ¬ (281 ≤ x ∧ x < 284) → ¬ (x = 597 ∧ (k = 0 ∨ k = 31 ∨ k = 33 ∨ k = 38 ∨ k = 39)) → ¬ (608 ≤ x ∧ x < 627) → mb x k = ma x k) (Nr : NoR mb mc (m 597 25)) (fd : ∀ x k, ¬ (x = 607 ∧ 0 ≤ k ∧ k < 58) → md x k = mc x k)
    {g : Int → Int} (d7 : ∀ k, 0 ≤ k → k < 58 → md 607 k = g k) (dm : ∀ k, 0 ≤ k → k < 58 → mkc mb 280 k = nx (E 597 23) k (g k)) (v1 : ∀ r, 0 ≤ r → r < 24 → (0 ≤ g r ∧ g r ≤ 999) ∧ (0 ≤ g (24 + r) ∧ g (24 + r) ≤ 999)) (h17 : mb 1 17 = 1) : CS sh (eSt E md) md := by
  have hV : MkV md (E 597 23) 0 := by
    refine ⟨fun i i0 i1 => ?_, rfl⟩
    rw [Int.zero_add, Int.zero_add, d7 _ (by omega) (by omega), d7 _ (by omega) (by omega)]
    exact v1 i i0 i1
  have hR : MkR (E 597 23) md 280 0 := by
    intro i i0 i1
    rw [Int.zero_add, d7 i i0 i1, ← dm i i0 i1]
    exact mkc.fr (fun x k x0 x1 => by rw [fd x k (by omega), Nr.g (by omega) (by omega)]) i
  have hP : PS (eSt E md) md := S.ps.note S.b Na (fun x k hx => fb x k (by omega) (by omega) (by omega) (by omega)) Nr (fun x k hx => fd x k (by omega)) (eSt_x (by decide)) hV
  refine S.ch (fun x k n1 n2 n3 n4 n5 n6 n7 n8 n9 n10 => ?_) hV hR hP ?_
  · rw [fd _ _ (by omega), Nr.g (by omega) (by omega), fb _ _ (by omega) (by omega) (by omega) (by omega)]
    exact Na.g (by omega) (by omega) (by omega)
  · rw [fd _ _ (by omega), Nr.g (by omega) (by omega)]
    exact h17
/-- reads of the marks in the old state -/
theorem BS.m1 (B : BS E m) {r : Int} (h0 : 0 ≤ r) (h1 : r < 24) : m 281 r = m 607 r ∧ m 282 r = m 607 (24 + r) := by
  have := B.mk.r B.p.1.1 h0 h1
  rw [Int.zero_add, Int.zero_add] at this
  exact this
theorem BS.m3' (B : BS E m) {w : Int} (h0 : 0 ≤ w) (h1 : w < 10) : m 283 w = nx (E 597 23) (48 + w) (m 607 (48 + w)) := by
  have := B.mk.w h0 h1
  rw [Int.zero_add] at this
  exact this
theorem BS.m3 (B : BS E m) {w : Int} (h0 : 0 ≤ w) (h1 : w < E 597 23) : m 283 w = m 607 (48 + w) := by
  have P1 := B.p.1
  rw [B.m3' h0 (by omega), nx_l (by omega)]
/-- mkc where one part has changed -/
theorem mkc_i {m : Mm} {k : Int} : mkc m 280 k = if k < 24 then m 281 k else if k < 48 then m 282 (k - 24) else m 283 (k - 48) := rfl
theorem PS.v (P : PS E m) : MkV m (E 597 23) 0 := P.2.2.2.1
theorem PS.v1 (P : PS E m) {r : Int} (r0 : 0 ≤ r) (r1 : r < 24) : (0 ≤ m 607 r ∧ m 607 r ≤ 999) ∧ (0 ≤ m 607 (24 + r) ∧ m 607 (24 + r) ≤ 999) := by
  have := P.v.1 r r0 r1
  rw [Int.zero_add, Int.zero_add] at this
  exact this
/-- what a reference's method meets where the class has noted and changed marks -/
theorem two_ag {ma mb : Mm} (S : CS sh E m) (Na : NoC m ma (m 597 25)) (fb : ∀ x k, ¬ (x = 1 ∧ k = 17) → ¬ (281 ≤ x ∧ x < 284) → ¬ (x = 597 ∧ (k = 0 ∨ k = 31 ∨ k = 33 ∨ k = 38 ∨ k = 39)) → ¬ (608 ≤ x ∧ x < 627) → mb x k = ma x k) : (∀ x k, ¬ (x = 1 ∧ k = 17) → ¬ (281 ≤ x ∧ x < 284) → ¬ (x = 597 ∧ (k = 0 ∨ k = 31 ∨ k = 33 ∨ k = 38 ∨ k = 39)) → ¬ (608 ≤ x ∧ x < 627) → ¬ (284 ≤ x ∧ x < 370) → mb x k = m x k) ∧ Ag E mb ∧ mb 597 25 = m 597 25 ∧ mb 597 40 = 0 := by
  have f : ∀ x k, ¬ (x = 1 ∧ k = 17) → ¬ (281 ≤ x ∧ x < 284) → ¬ (x = 597 ∧ (k = 0 ∨ k = 31 ∨ k = 33 ∨ k = 38 ∨ k = 39)) → ¬ (608 ≤ x ∧ x < 627) → ¬ (284 ≤ x ∧ x < 370) → mb x k = m x k := fun x k n1 n2 n3 n4 n5 => by
    rw [fb x k n1 n2 n3 n4]
    exact Na.g (by omega) (by omega) (by omega)
  refine ⟨f, S.b.a.fr fun x k hp => ?_, f _ _ (by omega) (by omega) (by omega) (by omega) (by omega), (f _ _ (by omega) (by omega) (by omega) (by omega) (by omega)).trans S.b.h0⟩
  unfold per at hp
  exact f x k (by omega) (by omega) (by omega) (by omega) (by omega)
/-- free -/
theorem p_free {w : Int} {K : Int → Int → Mm → Prop} (S : CS sh E m) (kk : ∀ F m' s, CS sh F m' → K s s m') : TrI 149 [(1, 1), (0, w)] m fun v1 m1 => TrI 278 [(1, 597), (0, w)] m1 fun v2 m2 => K v1 v2 m2 := by
  have B := S.b
  have P1 := B.p.1
  refine e149 _ ⟨B.sP, ?_⟩
  rw [B.pn]
  refine ⟨fun h => ⟨by omega, ?_⟩, fun h => ?_⟩
  · have w10 : 0 ≤ w ∧ w < 10 := by omega
    have go : ∀ s0 : Int, s0 = (if m 607 (48 + w) = -9 then 0 else 1) → X 149 29 [(1, 1), (0, w), (9, 0)] [(0, s0)] m (qI fun v1 m1 => TrI 278 [(1, 597), (0, w)] m1 fun v2 m2 => K v1 v2 m2) := by
      intro s0 hs
      refine w149_29 _ _ _ (q143 S.ps fun ma Na => ⟨w10, fun m5 e5 m7 e7 => ?_⟩)
      refine e278 _ fun mb eb => ?_
      have fb : ∀ x k, ¬ (x = 1 ∧ k = 17) → ¬ (281 ≤ x ∧ x < 284) → ¬ (x = 597 ∧ (k = 0 ∨ k = 31 ∨ k = 33 ∨ k = 38 ∨ k = 39)) → ¬ (608 ≤ x ∧ x < 627) → mb x k = ma x k := fun x k n1 n2 n3 n4 => by rw [eb, um_n (by omega), e7, um_n (by omega), e5, um_n (by omega)]
      obtain ⟨fm, A, n25, h40⟩ := two_ag S Na fb
      rw [A.n, in_w (by omega)]
      refine ⟨fun _ => q273 n25 S.ps.1.2 fun mc Nr => ?_, fun q => absurd h q⟩
      have q48 : wr (48 + w) = 48 + w := wrI (by omega) (by omega)
      rw [q48]
      clear q48
      have r7 : ∀ k, 0 ≤ k → k < 58 → mc 607 k = m 607 k := fun k k0 k1 => by rw [Nr.g (by omega) (by omega)]; exact fm _ _ (by omega) (by omega) (by omega) (by omega) (by omega)
      have fin : ∀ md, md = umem mc 607 (48 + w) (-9) → CS sh (eSt E md) md := by
        intro md ed
        refine S.two Na fb Nr (g := fun k => if k = 48 + w then -9 else m 607 k) (fun x k n1 => by rw [ed, um_n (by omega)]) (fun k k0 k1 => ?_) (fun k k0 k1 => ?_) (fun r r0 r1 => ?_) ?_
        · show _ = if k = 48 + w then -9 else m 607 k
          by_cases hk : k = 48 + w
          · rw [if_pos hk, hk, ed, um_s]
          · rw [if_neg hk, ed, um_k hk]
            exact r7 k k0 k1
        · show _ = nx (E 597 23) k (if k = 48 + w then -9 else m 607 k)
          have e3 : ∀ x k, 281 ≤ x → x < 284 → mb x k = if x = 283 ∧ k = w then -9 else m x k := fun x k x0 x1 => by
            rw [eb, um_n (by omega), e7, um_n (by omega), e5]
            by_cases hc : x = 283 ∧ k = w
            · rw [if_pos hc, hc.1, hc.2, um_s]
            · rw [if_neg hc, um_n hc]
              exact Na.g (by omega) (by omega) (by omega)
          have := B.mk k k0 k1
          rw [Int.zero_add] at this
          rw [mkc_i, e3 _ _ (by omega) (by omega), e3 _ _ (by omega) (by omega), e3 _ _ (by omega) (by omega)]
          by_cases hk : k = 48 + w
          · rw [if_pos hk, if_neg (show ¬ k < 24 by omega), if_neg (show ¬ k < 48 by omega), if_pos ⟨rfl, by omega⟩, nx_l (by omega)]
          · rw [if_neg hk, if_neg (show ¬ ((281 : Int) = 283 ∧ k = w) by omega), if_neg (show ¬ ((282 : Int) = 283 ∧ k - 24 = w) by omega), if_neg (show ¬ ((283 : Int) = 283 ∧ k - 48 = w) by omega), ← this, mkc_i]
        · show (0 ≤ (if r = 48 + w then -9 else m 607 r) ∧ (if r = 48 + w then -9 else m 607 r) ≤ 999) ∧ (0 ≤ (if 24 + r = 48 + w then -9 else m 607 (24 + r)) ∧ (if 24 + r = 48 + w then -9 else m 607 (24 + r)) ≤ 999)
          rw [if_neg (by omega), if_neg (by omega)]
          exact S.ps.v1 r0 r1
        · rw [eb, um_n (by omega), e7, um_s]
      rw [r7 _ (by omega) (by omega)]
      refine ⟨by omega, fun h9 md ed => ?_, fun h9 md ed => ?_⟩
      · rw [if_pos h9] at hs
        rw [hs]
        exact kk _ _ _ (fin md ed)
      · rw [if_neg h9] at hs
        rw [hs]
        exact kk _ _ _ (fin md ed)
    rw [B.m3 w10.1 (by omega)]
    exact ⟨fun h9 => go 0 (by rw [if_pos h9]), fun h9 => go 1 (by rw [if_neg h9])⟩
  · refine e278 _ fun m1 e1 => ?_
    obtain ⟨f1, B1⟩ := B.th e1
    rw [B1.a.n, in_w (by omega)]
    exact ⟨fun q => absurd q h, fun _ => kk E m1 (-1) (S.gQ f1 B1.h0)⟩
/-- fix -/
theorem p_fix {w p : Int} {K : Int → Int → Mm → Prop} (S : CS sh E m) (kk : ∀ F m' s, CS sh F m' → K s s m') : TrI 148 [(1, 1), (0, w), (0, p)] m fun v1 m1 => TrI 277 [(1, 597), (0, w), (0, p)] m1 fun v2 m2 => K v1 v2 m2 := by
  have P1 := S.b.p.1
  refine e148 _ _ (c76 S.b S.r fun m1 f1 B1 z1 r1 a1 => ?_)
  have S1 : CS sh E m1 := S.fQ f1 ⟨fun _ => r1, a1⟩
  refine c113 B1 r1 (fun h => ⟨fun h0 => absurd h0 (by decide), fun _ => ?_⟩) (fun h => ⟨fun _ => ?_, fun h0 => absurd rfl h0⟩)
  · have n2 := (chs_len B1.t (w := w)).2
    have n24 : (cN E w : Int) ≤ 24 := by unfold cN; omega
    have w10 : 0 ≤ w ∧ w < 10 := by omega
    have e4 : m1 (440 + w) p = cE E w p := ((r1.2.1 w h.1.1 h.1.2).2.2.2.at h.2).1
    refine ⟨w10, by omega, ?_⟩
    rw [e4]
    refine q143 S1.ps fun ma Na => fun m5 e5 m7 e7 => ?_
    refine e277 _ _ fun m8 e8 => ?_
    have fb8 : ∀ x k, ¬ (x = 1 ∧ k = 17) → ¬ (281 ≤ x ∧ x < 284) → ¬ (x = 597 ∧ (k = 0 ∨ k = 31 ∨ k = 33 ∨ k = 38 ∨ k = 39)) → ¬ (608 ≤ x ∧ x < 627) → m8 x k = ma x k := fun x k n1 n2 n3 n4 => by rw [e8, um_n (by omega), e7, um_n (by omega), e5, um_n (by omega)]
    obtain ⟨_, A8, _, _⟩ := two_ag S1 Na fb8
    rw [A8.n, in_w (by omega)]
    refine ⟨fun _ => c236 B1.t B1.p B1.w A8 h.1 fun mb f8 C8 => ⟨w10, ?_⟩, fun q => absurd h.1 q⟩
    have fb : ∀ x k, ¬ (x = 1 ∧ k = 17) → ¬ (281 ≤ x ∧ x < 284) → ¬ (x = 597 ∧ (k = 0 ∨ k = 31 ∨ k = 33 ∨ k = 38 ∨ k = 39)) → ¬ (608 ≤ x ∧ x < 627) → mb x k = ma x k := fun x k n1 n2 n3 n4 => by rw [f8 x k (by omega) (by omega) (by omega)]; exact fb8 x k n1 n2 n3 n4
    obtain ⟨fm, A, n25, h40⟩ := two_ag S1 Na fb
    rw [show mb 615 w = (cN E w : Int) from C8.1, in_w (by omega)]
    refine ⟨fun _ => q273 n25 S1.ps.1.2 fun mc Nr => ?_, fun q => absurd h.2 q⟩
    have q48 : wr (48 + w) = 48 + w := wrI (by omega) (by omega)
    have q24 : wr (wr (24 * w) + p) = 24 * w + p := by
      rw [wrI (x := 24 * w) (by clear q48; omega) (by clear q48; omega), wrI (by clear q48; omega) (by clear q48; omega)]
    rw [q48, q24]
    clear q48 q24
    rw [Nr.g (by omega) (by omega), (C8.at h.2).1]
    refine ⟨by omega, by omega, fun md ed => ?_⟩
    have r7 : ∀ k, 0 ≤ k → k < 58 → mc 607 k = m1 607 k := fun k k0 k1 => by rw [Nr.g (by omega) (by omega)]; exact fm _ _ (by omega) (by omega) (by omega) (by omega) (by omega)
    have fin : CS sh (eSt E md) md := by
      refine S1.two Na fb Nr (g := fun k => if k = 48 + w then cE E w p else m1 607 k) (fun x k n1 => by rw [ed, um_n (by omega)]) (fun k k0 k1 => ?_) (fun k k0 k1 => ?_) (fun r r0 r1 => ?_) ?_
      · show _ = if k = 48 + w then cE E w p else m1 607 k
        by_cases hk : k = 48 + w
        · rw [if_pos hk, hk, ed, um_s]
        · rw [if_neg hk, ed, um_k hk]
          exact r7 k k0 k1
      · show _ = nx (E 597 23) k (if k = 48 + w then cE E w p else m1 607 k)
        have e3 : ∀ x k, 281 ≤ x → x < 284 → mb x k = if x = 283 ∧ k = w then cE E w p else m1 x k := fun x k x0 x1 => by
          rw [f8 x k (by omega) (by omega) (by omega), e8, um_n (by omega), e7, um_n (by omega), e5]
          by_cases hc : x = 283 ∧ k = w
          · rw [if_pos hc, hc.1, hc.2, um_s]
          · rw [if_neg hc, um_n hc]
            exact Na.g (by omega) (by omega) (by omega)
        have := B1.mk k k0 k1
        rw [Int.zero_add] at this
        rw [mkc_i, e3 _ _ (by omega) (by omega), e3 _ _ (by omega) (by omega), e3 _ _ (by omega) (by omega)]
        by_cases hk : k = 48 + w
        · rw [if_pos hk, if_neg (show ¬ k < 24 by omega), if_neg (show ¬ k < 48 by omega), if_pos ⟨rfl, by omega⟩, nx_l (by omega)]
        · rw [if_neg hk, if_neg (show ¬ ((281 : Int) = 283 ∧ k = w) by omega), if_neg (show ¬ ((282 : Int) = 283 ∧ k - 24 = w) by omega), if_neg (show ¬ ((283 : Int) = 283 ∧ k - 48 = w) by omega), ← this, mkc_i]
      · show (0 ≤ (if r = 48 + w then cE E w p else m1 607 r) ∧ (if r = 48 + w then cE E w p else m1 607 r) ≤ 999) ∧ (0 ≤ (if 24 + r = 48 + w then cE E w p else m1 607 (24 + r)) ∧ (if 24 + r = 48 + w then cE E w p else m1 607 (24 + r)) ≤ 999)
        rw [if_neg (by omega), if_neg (by omega)]
        exact S1.ps.v1 r0 r1
      · rw [f8 _ _ (by omega) (by omega) (by omega), e8, um_n (by omega), e7, um_s]
    have ev : md 607 (48 + w) = cE E w p := by rw [ed, um_s]
    rw [ev]
    exact kk _ _ _ fin
  · refine e277 _ _ fun m2 e2 => ?_
    obtain ⟨f2, B2⟩ := B1.th e2
    rw [B2.a.n, in_w (by omega)]
    refine ⟨fun hw => c236 B2.t B2.p B2.w B2.a hw fun m3 f3 C3 => ⟨by omega, ?_⟩, fun _ => kk E m2 (-9) (S1.gQ f2 B2.h0)⟩
    have n2 := (chs_len B1.t (w := w)).2
    have n24 : (cN E w : Int) ≤ 24 := by unfold cN; omega
    rw [show m3 615 w = (cN E w : Int) from C3.1, in_w (by omega)]
    exact ⟨fun q => absurd ⟨hw, q⟩ h, fun _ => kk E m3 (-9) (S1.gQ (f2.tr f3.g) (by rw [f3 _ _ (by decide) (by omega) (by omega)]; exact B2.h0))⟩
end MK
