/-! the class reads a clause: pairs, settings, the line -/
def bkU (q v : Int) (B : Bk) : Bk := fun k => if k = q then v else B k
theorem bkU_s {q v : Int} {B : Bk} : bkU q v B q = v := if_pos rfl
theorem bkU_n {q v k : Int} {B : Bk} (h : k ≠ q) : bkU q v B k = B k := if_neg h
section CLB
variable {f : Int → Int} {n p t : Int} {B : Bk} {m m' : Mm}
theorem TbC.up {B' : Bk} (T : TbC B m t) (I' : BI B') (o : ∀ k, k < 580 → ¬ (528 ≤ k ∧ k < 578) → B' k = B k) (h : ∀ x k, (t + 6 ≤ x ∧ x < t + 102) ∨ (x = t ∧ (k = 5 ∨ k = 6)) → m' x k = m x k) (y7 : m' t 7 = B' 580) (y8 : m' t 8 = B' 581) (y9 : m' t 9 = B' 582) (z : ∀ k, 0 ≤ k → k < 25 → m' (t + 3) k = B' (528 + k) ∧ m' (t + 5) k = B' (553 + k)) (zt : ∀ i, 0 ≤ i → i < 3 → m' 4 i = B' (600 + i)) (zp : ∀ k, 0 ≤ k → k < 25 → m' (t + 4) k = B' (610 + k)) : TbC B' m' t := by
  obtain ⟨I, ⟨a1, a2, a3, a4, a5, a6, a7, a8, a9⟩, os, st, pt⟩ := T
  have I1 := I.1
  have I2 := I.2.1
  refine ⟨I', ⟨a1, by rw [h _ _ (by omega), EB_t, o _ (by decide) (by decide)]; exact a2, by rw [h _ _ (by omega), EB_t, o _ (by decide) (by decide)]; exact a3, y7, y8, y9, fun r r0 r1 => ?_, fun y y0 y1 => ?_, z⟩, fun r r0 r1 => ?_, zt, zp⟩
  · rw [EB_t, o 578 (by decide) (by omega)] at r1
    refine (a7 r r0 r1).eq ?_ (fun j j0 j1 => ?_) (fun k => h _ _ (by omega)) fun k => h _ _ (by omega)
    · exact (I.2.2.2.2.2.1 r r0 r1).2.1.2
    · rw [EB_t, EB_t]
      exact o _ (by omega) (by omega)
  · rw [EB_t, o 579 (by decide) (by omega)] at y1
    refine (a8 y y0 y1).eq ?_ (fun j j0 j1 => ?_) (fun k => h _ _ (by omega)) fun k => h _ _ (by omega)
    · exact (I.2.2.2.2.2.2.1 y y0 y1).1.2
    · rw [EB_t, EB_t]
      exact o _ (by omega) (by omega)
  · rw [o 578 (by decide) (by omega)] at r1
    rw [h _ _ (by omega), h _ _ (by omega), o _ (by omega) (by omega), o _ (by omega) (by omega)]
    exact os r r0 r1
/-- one cell of a book, behind the rows: its bounds -/
def okU (q v : Int) : Prop := (528 ≤ q ∧ q < 553 ∧ v = 1) ∨ (553 ≤ q ∧ q < 578 ∧ 0 ≤ v ∧ v ≤ 999) ∨ (q = 580 ∧ 0 ≤ v ∧ v ≤ 999) ∨ (q = 581 ∧ 0 ≤ v ∧ v ≤ 99) ∨ (q = 582 ∧ 0 ≤ v ∧ v ≤ 99999) ∨ (600 ≤ q ∧ q < 603 ∧ v = 1) ∨ (610 ≤ q ∧ q < 635 ∧ v = 1)
theorem BI.bup {q v : Int} (I : BI B) (h : okU q v) : BI (bkU q v B) := by
  unfold okU at h
  have o : ∀ k, k ≠ q → bkU q v B k = B k := fun k => bkU_n
  have s : bkU q v B q = v := bkU_s
  generalize bkU q v B = B' at *
  obtain ⟨i1, i2, i3, i4, i5, i6, i7, i8, i9⟩ := id I
  have g : ∀ k, (B' k = B k) ∨ (k = q ∧ B' k = v) := fun k => by
    by_cases hk : k = q
    · exact Or.inr ⟨hk, by rw [hk]; exact s⟩
    · exact Or.inl (o k hk)
  refine I.up (fun k h1 h2 => o k (by omega)) ?_ ?_ ?_ (fun k k0 k1 => ?_) fun i h0 h1 => ?_
  · have := g 580; omega
  · have := g 581; omega
  · have := g 582; omega
  · have a := g (528 + k)
    have b := g (553 + k)
    have c := g (610 + k)
    have d := i8 k k0 k1
    refine ⟨by omega, by omega, by omega⟩
  · have a := g (600 + i)
    have d := i9 i h0 h1
    omega
/-- its cell of the class -/
def cel (t q : Int) : Int × Int := if q < 553 then (t + 3, q - 528) else if q < 578 then (t + 5, q - 553) else if q < 583 then (t, q - 573) else if q < 603 then (4, q - 600) else (t + 4, q - 610)
theorem TbC.bup {q v : Int} (T : TbC B m t) (h : okU q v) (e : ∀ x k, (t ≤ x ∧ x < t + 102) ∨ x = 4 → m' x k = if x = (cel t q).1 ∧ k = (cel t q).2 then v else m x k) : TbC (bkU q v B) m' t := by
  have I' := T.1.bup h
  obtain ⟨I, ⟨a1, a2, a3, a4, a5, a6, a7, a8, a9⟩, os, st, pt⟩ := id T
  unfold okU at h
  have e' : ∀ x k, (t ≤ x ∧ x < t + 102) ∨ x = 4 → ¬ (x = (cel t q).1 ∧ k = (cel t q).2) → m' x k = m x k := fun x k a b => by rw [e x k a, if_neg b]
  have e2 : ∀ x k, (t ≤ x ∧ x < t + 102) ∨ x = 4 → x = (cel t q).1 → k = (cel t q).2 → m' x k = v := fun x k a b c => by rw [e x k a, if_pos ⟨b, c⟩]
  clear e
  have cq : cel t q = if q < 553 then (t + 3, q - 528) else if q < 578 then (t + 5, q - 553) else if q < 583 then (t, q - 573) else if q < 603 then (4, q - 600) else (t + 4, q - 610) := rfl
  obtain ⟨u, w, huw⟩ : ∃ u w, cel t q = (u, w) := ⟨_, _, rfl⟩
  rw [huw] at e' e2 cq
  have c1 : (q < 553 → u = t + 3 ∧ w = q - 528) ∧ (¬ q < 553 → q < 578 → u = t + 5 ∧ w = q - 553) ∧ (¬ q < 578 → q < 583 → u = t ∧ w = q - 573) ∧ (¬ q < 583 → q < 603 → u = 4 ∧ w = q - 600) ∧ (¬ q < 603 → u = t + 4 ∧ w = q - 610) := by
    refine ⟨fun h1 => ?_, fun h1 h2 => ?_, fun h1 h2 => ?_, fun h1 h2 => ?_, fun h1 => ?_⟩
    · rw [if_pos h1] at cq
      exact ⟨congrArg Prod.fst cq, congrArg Prod.snd cq⟩
    · rw [if_neg h1, if_pos h2] at cq
      exact ⟨congrArg Prod.fst cq, congrArg Prod.snd cq⟩
    · rw [if_neg (by omega), if_neg h1, if_pos h2] at cq
      exact ⟨congrArg Prod.fst cq, congrArg Prod.snd cq⟩
    · rw [if_neg (by omega), if_neg (by omega), if_neg h1, if_pos h2] at cq
      exact ⟨congrArg Prod.fst cq, congrArg Prod.snd cq⟩
    · rw [if_neg (by omega), if_neg (by omega), if_neg (by omega), if_neg h1] at cq
      exact ⟨congrArg Prod.fst cq, congrArg Prod.snd cq⟩
  clear cq huw
  simp only [] at e' e2
  have key : ∀ x k j, ((t ≤ x ∧ x < t + 102) ∨ x = 4) → m x k = B j → (j = q ↔ (x = u ∧ k = w)) → m' x k = bkU q v B j := fun x k j hx hm hj => by
    by_cases hq : j = q
    · obtain ⟨b1, b2⟩ := hj.mp hq
      rw [hq, bkU_s]
      exact e2 x k hx b1 b2
    · rw [bkU_n hq, e' x k hx (fun z => hq (hj.mpr z))]
      exact hm
  refine T.up I' (fun k h1 h2 => bkU_n (by omega)) (fun x k hx => e' x k (by omega) (by omega)) (key _ _ _ (by omega) a4 (by omega)) (key _ _ _ (by omega) a5 (by omega)) (key _ _ _ (by omega) a6 (by omega)) (fun k k0 k1 => ⟨key _ _ _ (by omega) (a9 k k0 k1).1 (by omega), key _ _ _ (by omega) (a9 k k0 k1).2 (by omega)⟩) (fun i i0 i1 => key _ _ _ (by omega) (st i i0 i1) (by omega)) fun k k0 k1 => key _ _ _ (by omega) (pt k k0 k1) (by omega)
theorem StC.bup {q v : Int} (S : StC f n B t m p) (h : okU q v) (e : m' = umem m (cel t q).1 (cel t q).2 v) : StC f n (bkU q v B) t m' p ∧ fC t m m' := by
  have ht := S.tt
  have cx : (t ≤ (cel t q).1 ∧ (cel t q).1 < t + 102) ∨ (cel t q).1 = 4 := by
    unfold cel
    split
    · exact Or.inl (by simp only []; omega)
    · split
      · exact Or.inl (by simp only []; omega)
      · split
        · exact Or.inl (by simp only []; omega)
        · split
          · exact Or.inr rfl
          · exact Or.inl (by simp only []; omega)
  generalize hu : (cel t q).1 = u at *
  generalize hw : (cel t q).2 = w at *
  obtain ⟨⟨a, b, c, d, g⟩, g1, g2, T⟩ := S
  refine ⟨⟨⟨by rw [e, um_n (by omega)]; exact a, by rw [e, um_n (by omega)]; exact b, by rw [e, um_n (by omega)]; exact c, d, fun i i0 i1 => by rw [e, um_n (by omega)]; exact g i i0 i1⟩, by rw [e, um_n (by omega)]; exact g1, by rw [e, um_n (by omega)]; exact g2, T.bup h fun x k _ => ?_⟩, fun x k h1 h2 h3 => by rw [e, um_n (by omega)]⟩
  rw [hu, hw, e]
  rfl
theorem p_sl {t j : Int} (ht : t = 6 ∨ t = 108) (hj : 0 ≤ j ∧ j < 25) : (shp (t + 3) = 2 ∧ slot (t + 3) j = some none) ∧ shp (t + 4) = 2 ∧ slot (t + 4) j = some none := by
  have h1 : ∀ j : Nat, j < 25 → (shp (6 + 3) = 2 ∧ slot (6 + 3) j = some none) ∧ shp (6 + 4) = 2 ∧ slot (6 + 4) j = some none := by decide +kernel
  have h2 : ∀ j : Nat, j < 25 → (shp (108 + 3) = 2 ∧ slot (108 + 3) j = some none) ∧ shp (108 + 4) = 2 ∧ slot (108 + 4) j = some none := by decide +kernel
  obtain ⟨k, rfl⟩ := Int.eq_ofNat_of_zero_le hj.1
  obtain rfl | rfl := ht
  · exact h1 k (by omega)
  · exact h2 k (by omega)
theorem kd_lt {T : Tk} : -1 ≤ kdS T ∧ kdS T < 5 := by
  unfold kdS
  split <;> omega
/-- pairs(52) -/
theorem c52 {w : Int} {K Z : Int → Mm → Prop} (hh : KH K Z) (hw : w = 0 ∨ w = 1) (S : StC f n B t m p) (kk : OC f n t m K (paS f n B w p)) : TrI 52 [(1, 3), (1, t), (0, w)] m Z := by
  have I := S.2.2.2.1
  have ht := S.tt
  have hp := S.b
  have sht := S.sh
  unfold paS at kk
  refine e52 _ _ sht ?_
  refine s19 S fun m1 f1 S1 H1 => ?_
  have te := tk_e (f := f) hp.2.1
  refine c51 H1.1 H1.2.2.2 hp.2.1 ⟨fun h => ?_, fun h => ?_⟩
  · rw [if_pos h] at kk
    have kk' : FC t m Z 1 (tk f n p).pl := hh.ft kk
    exact c42 (t := t) H1.2.1 (FC.w fun m' a b d => kk' m' (f1.fC.tr a) b d)
  rw [if_neg h] at kk
  have r1 := kd_lt (T := tk f n p)
  generalize kdS (tk f n p) = a at *
  generalize (tk f n p).e = p2 at *
  have hp2 : 0 ≤ p2 ∧ p2 ≤ n := by omega
  refine s19 S1 fun m2 f2 S2 H2 => ?_
  have te2 := tk_e (f := f) hp2.2
  have g2 : fC t m m2 := f1.fC.tr f2.fC
  refine c51 H2.1 H2.2.2.2 hp2.2 ⟨fun h' => ?_, fun h' => ?_⟩
  · rw [if_pos h'] at kk
    have kk' : FC t m Z 1 (tk f n p2).pl := hh.ft kk
    exact c42 (t := t) H2.2.1 (FC.w fun m' a b d => kk' m' (g2.tr a) b d)
  rw [if_neg h'] at kk
  have r2 := kd_lt (T := tk f n p2)
  generalize kdS (tk f n p2) = b at *
  have h7 := H2.2.1
  generalize (tk f n p2).e = p3 at *
  generalize (tk f n p2).pl = pl at *
  have hp3 : 0 ≤ p3 ∧ p3 ≤ n := by omega
  obtain ⟨j, hj⟩ : ∃ j, j = 5 * a + b := ⟨_, rfl⟩
  simp only [← hj] at kk
  have j25 : 0 ≤ j ∧ j < 25 := by omega
  have wj : wr (wr (a * 5) + b) = j := by rw [wrI (x := a * 5) (by omega) (by omega), wrI (by omega) (by omega)]; omega
  have sl := p_sl ht j25
  have tel : TbC B m2 t := S2.2.2.2
  have I8 := I.2.2.2.2.2.2.2.1 j j25.1 j25.2
  refine ⟨fun hw0 => ?_, fun hw0 => ?_⟩
  · subst hw0
    rw [if_pos rfl] at kk
    have tj : m2 (t + 3) j = B (528 + j) := (tel.2.1.2.2.2.2.2.2.2.2 j j25.1 j25.2).1
    refine w52_55 _ _ _ _ _ _ _ sht ?_
    rw [wj, tj]
    clear wj
    refine ⟨by omega, sl.1, fun z => ⟨sl.1, fun m3 e3 => ⟨fun _ => ?_, fun q => absurd rfl q⟩⟩, fun z => ?_⟩
    · rw [if_neg (by omega)] at kk
      have hc : cel t (528 + j) = (t + 3, j) := by unfold cel; rw [if_pos (by omega), show 528 + j - 528 = j by omega]
      obtain ⟨S3, g3⟩ := S2.bup (q := 528 + j) (v := 1) (m' := m3) (Or.inl (by omega)) (by rw [hc]; exact e3)
      exact hh.o (c49 S3 (OC.mv (r := clo f n (bkU (528 + j) 1 B) p3) kk (g2.tr g3)))
    · rw [if_pos (by omega)] at kk
      have kk' : FC t m Z 3 pl := hh.ft kk
      exact c42 (t := t) h7 (FC.w fun m' a b d => kk' m' (g2.tr a) b d)
  · rw [if_neg hw0] at kk
    have tj : m2 (t + 4) j = B (610 + j) := tel.2.2.2.2 j j25.1 j25.2
    refine w52_55 _ _ _ _ _ _ _ sht ?_
    rw [wj, tj]
    clear wj
    refine ⟨by omega, sl.2, fun z => ⟨sl.2, fun m3 e3 => ⟨fun q => absurd q hw0, fun _ => ?_⟩⟩, fun z => ?_⟩
    · rw [if_neg (by omega)] at kk
      have hc : cel t (610 + j) = (t + 4, j) := by unfold cel; rw [if_neg (by omega), if_neg (by omega), if_neg (by omega), if_neg (by omega), show 610 + j - 610 = j by omega]
      obtain ⟨S3, g3⟩ := S2.bup (q := 610 + j) (v := 1) (m' := m3) (Or.inr (Or.inr (Or.inr (Or.inr (Or.inr (Or.inr (by omega))))))) (by rw [hc]; exact e3)
      refine s19 S3 fun m4 f4 S4 H4 => ?_
      have g4 : fC t m m4 := (g2.tr g3).tr f4.fC
      have tw4 := tk_w (f := f) hp3.2
      have te4 := tk_e (f := f) hp3.2
      unfold nuS at kk
      refine c46 (t := t) H4 (fun q => ?_) (fun q q2 => ?_) fun q q2 => ?_
      · rw [if_pos q] at kk
        have kk' : FC t m Z 1 (tk f n p3).pl := hh.ft kk
        exact fun m' a b d => ⟨fun _ => kk' m' (g4.tr a) b d, fun z => absurd rfl z⟩
      · rw [if_neg (fun z => z q), if_pos q2] at kk
        have kk' : FC t m Z 2 (tk f n p3).pl := hh.ft kk
        exact fun m' a b d => ⟨fun _ => kk' m' (g4.tr a) b d, fun z => absurd rfl z⟩
      rw [if_neg (fun z => z q), if_neg q2] at kk
      have vb := tw4.2.2.1 q
      have v9 := H4.2.2.2
      refine ⟨fun z => absurd z (by decide), fun _ => ⟨j25, fun m5 e5 => ?_⟩⟩
      rw [v9] at e5
      generalize (tk f n p3).v = v at *
      generalize (tk f n p3).e = p4 at *
      have hc5 : cel t (553 + j) = (t + 5, j) := by unfold cel; rw [if_neg (by omega), if_pos (by omega), show 553 + j - 553 = j by omega]
      obtain ⟨S5, g5⟩ := S4.bup (q := 553 + j) (v := v) (m' := m5) (Or.inr (Or.inl (by omega))) (by rw [hc5]; exact e5)
      exact hh.o (c49 S5 (OC.mv (r := clo f n (bkU (553 + j) v (bkU (610 + j) 1 B)) p4) kk (g4.tr g5)))
    · rw [if_pos (by omega)] at kk
      have kk' : FC t m Z 3 pl := hh.ft kk
      exact c42 (t := t) h7 (FC.w fun m' a b d => kk' m' (g2.tr a) b d)
/-- a setting(53) -/
theorem c53 {i pl bd : Int} {K Z : Int → Mm → Prop} (hh : KH K Z) (hi : 0 ≤ i ∧ i < 3) (hb : bd = if i = 0 then 999 else if i = 1 then 99 else 99999) (S : StC f n B t m p) (h7 : m 3 7 = pl) (h9 : m 3 9 = 4 + i) (kk : OC f n t m K (seS f n B i pl p)) : TrI 53 [(1, 3), (1, t), (0, bd)] m Z := by
  have I := S.2.2.2.1
  have ht := S.tt
  have hp := S.b
  have sht := S.sh
  have tel : TbC B m t := S.2.2.2
  have I9 := I.2.2.2.2.2.2.2.2 i hi.1 hi.2
  have tj : m 4 i = B (600 + i) := tel.2.2.2.1 i hi.1 hi.2
  unfold seS at kk
  rw [← hb] at kk
  refine e53 _ _ sht ?_
  rw [h9, wrI (x := 4 + i - 4) (by omega) (by omega), show 4 + i - 4 = i by omega, tj]
  have no : ¬ B (600 + i) = 0 → TrI 42 [(1, 3), (0, 3)] m fun v m' => (v = 0 ∨ v = 1) ∧ Z v m' := fun z => by
    rw [if_pos (by omega)] at kk
    have kk' : FC t m Z 3 pl := hh.ft kk
    exact c42 (t := t) h7 (FC.w kk')
  refine ⟨fun q => absurd q (by omega), fun _ => ⟨fun _ => ⟨hi, fun z m1 e1 => ?_, no⟩, fun q => absurd hi.2 q⟩⟩
  rw [if_neg (by omega)] at kk
  have hc : cel t (600 + i) = (4, i) := by unfold cel; rw [if_neg (by omega), if_neg (by omega), if_neg (by omega), if_pos (by omega), show 600 + i - 600 = i by omega]
  obtain ⟨S3, g3⟩ := S.bup (q := 600 + i) (v := 1) (m' := m1) (Or.inr (Or.inr (Or.inr (Or.inr (Or.inr (Or.inl (by omega))))))) (by rw [hc]; exact e1)
  refine s19 S3 fun m4 f4 S4 H4 => ?_
  have g4 : fC t m m4 := g3.tr f4.fC
  have tw4 := tk_w (f := f) hp.2.1
  unfold nuS at kk
  refine c46 (t := t) H4 (fun q => ?_) (fun q q2 => ?_) fun q q2 => ?_
  · rw [if_pos q] at kk
    have kk' : FC t m Z 1 (tk f n p).pl := hh.ft kk
    exact fun m' a b d => ⟨fun _ => kk' m' (g4.tr a) b d, fun z => absurd rfl z⟩
  · rw [if_neg (fun z => z q), if_pos q2] at kk
    have kk' : FC t m Z 2 (tk f n p).pl := hh.ft kk
    exact fun m' a b d => ⟨fun _ => kk' m' (g4.tr a) b d, fun z => absurd rfl z⟩
  rw [if_neg (fun z => z q), if_neg q2] at kk
  have vb := tw4.2.2.1 q
  have v9 := H4.2.2.2
  generalize (tk f n p).v = v at *
  generalize (tk f n p).e = p4 at *
  have ok : okU (580 + i) v := by
    unfold okU
    by_cases h0 : i = 0
    · rw [if_pos h0] at hb
      omega
    · rw [if_neg h0] at hb
      by_cases h1 : i = 1
      · rw [if_pos h1] at hb
        omega
      · rw [if_neg h1] at hb
        omega
  have hc5 : cel t (580 + i) = (t, 7 + i) := by unfold cel; rw [if_neg (by omega), if_neg (by omega), if_pos (by omega), show 580 + i - 573 = 7 + i by omega]
  have fin : ∀ m5, m5 = umem m4 t (7 + i) (m4 3 9) → Z 1 m5 := fun m5 e5 => by
    rw [v9] at e5
    obtain ⟨S5, g5⟩ := S4.bup (q := 580 + i) (v := v) (m' := m5) ok (by rw [hc5]; exact e5)
    exact hh.o (c49 S5 (OC.mv (r := clo f n (bkU (580 + i) v (bkU (600 + i) 1 B)) p4) kk (g4.tr g5)))
  refine ⟨fun z => absurd z (by decide), fun _ => ⟨fun z m5 e5 => fin m5 ?_, fun z => ⟨fun z2 m5 e5 => fin m5 ?_, fun z2 m5 e5 => fin m5 ?_⟩⟩⟩
  · rw [show i = 0 by omega]
    exact e5
  · rw [show i = 1 by omega]
    exact e5
  · rw [show i = 2 by omega]
    exact e5
/-- a clause(41) -/
theorem c41 {T : Tk} {K Z : Int → Mm → Prop} (hh : KH K Z) (S : StC f n B t m T.e) (H : HoC m T) (kk : OC f n t m K (clS f n B T)) : TrI 41 [(1, 3), (1, t)] m Z := by
  unfold clS at kk
  refine e41 _ S.sh ?_
  have h7 := H.2.1
  have h9 := H.2.2.2
  rw [H.1, h9]
  have no : ¬ (T.k = 1 ∧ 0 ≤ T.v ∧ T.v ≤ 6) → TrI 42 [(1, 3), (0, 1)] m fun v m' => (v = 0 ∨ v = 1) ∧ Z v m' := fun q => by
    rw [if_neg q] at kk
    have kk' : FC t m Z 1 T.pl := hh.ft kk
    exact c42 (t := t) h7 (FC.w kk')
  refine ⟨fun h => ⟨fun q => no (by omega), fun q => ?_, fun q => ?_, fun q => ?_, fun q => ?_, fun q => ?_, fun q => ?_, fun q => ?_⟩, fun h => no fun q => h q.1⟩
  · rw [if_pos (by omega), if_pos q] at kk
    exact c43 hh.w S h7 kk
  · rw [if_pos (by omega), if_neg (by omega), if_pos q] at kk
    exact c50 hh.w S h7 kk
  · rw [if_pos (by omega), if_neg (by omega), if_neg (by omega), if_pos q] at kk
    exact c52 hh.w (Or.inl rfl) S kk
  · rw [if_pos (by omega), if_neg (by omega), if_neg (by omega), if_neg (by omega), if_pos q] at kk
    exact c52 hh.w (Or.inr rfl) S kk
  · rw [if_pos (by omega), if_neg (by omega), if_neg (by omega), if_neg (by omega), if_neg (by omega), q] at kk
    exact c53 hh.w (i := 0) (by decide) rfl S h7 (by rw [h9, q]; rfl) kk
  · rw [if_pos (by omega), if_neg (by omega), if_neg (by omega), if_neg (by omega), if_neg (by omega), q] at kk
    exact c53 hh.w (i := 1) (by decide) rfl S h7 (by rw [h9, q]; rfl) kk
  · rw [if_pos (by omega), if_neg (by omega), if_neg (by omega), if_neg (by omega), if_neg (by omega), q] at kk
    exact c53 hh.w (i := 2) (by decide) rfl S h7 (by rw [h9, q]; rfl) kk
end CLB
