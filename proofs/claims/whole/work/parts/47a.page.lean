/-! a page: the spec; how the class lays a byte -/
theorem fstN_tr {f : Int → Bool} : ∀ n : Nat, 0 ≤ fstN n f → f (fstN n f) = true := by
  intro n
  induction n with
  | zero => exact fun h => absurd (show (0 : Int) ≤ -1 from h) (by decide)
  | succ n ih =>
    unfold fstN
    split <;> rename_i h
    · exact fun _ => ih h
    · split <;> rename_i h2
      · exact fun _ => h2
      · exact fun q => absurd q (by decide)
theorem sg_cs {c : Int} (h : 0 ≤ sgN c) : cs 600 (sgN c) = c := of_decide_eq_true (fstN_tr 10 h)
theorem sgN_let {c : Int} (h : 97 ≤ c ∧ c ≤ 122) : sgN c < 0 := by
  have : ∀ n : Nat, n < 26 → sgN (97 + (n : Int)) < 0 := by decide +kernel
  have := this (c - 97).toNat (by omega)
  rw [show 97 + (((c - 97).toNat : Nat) : Int) = c by omega] at this
  exact this
/-- a byte's code, -1: none -/
def bcS (c : Int) : Int := if 97 ≤ c ∧ c ≤ 122 then c - 97 else if sgN c < 0 then -1 else 32 + sgN c
/-- a page G: 0 the words' count, 10 + w their sizes, 100 + 10 w + i their bytes -/
def pgN (G : Bk) : Bk := fun k => if k = 0 then G 0 + 1 else if k = 10 + G 0 then 0 else G k
def pgA (b : Int) (G : Bk) : Bk := fun k => if k = 9 + G 0 then G (9 + G 0) + 1 else if k = 100 + 10 * (G 0 - 1) + G (9 + G 0) then b else G k
def pgS (f : Int → Int) (n : Int) : Nat → Bk → Int → Int → Rs
  | 0, G, _, _ => .inr (G, G 0)
  | d + 1, G, q, w => if q < n then (if f q = 10 ∨ f q = 32 then pgS f n d G (q + 1) 0 else if bcS (f q) < 0 then .inl (1, q) else if w = 0 then (if 10 ≤ G 0 then .inl (2, q) else pgS f n d (pgA (bcS (f q)) (pgN G)) (q + 1) 1) else if 10 ≤ G (9 + G 0) then .inl (2, q) else pgS f n d (pgA (bcS (f q)) G) (q + 1) 1) else .inr (G, G 0)
/-- what a page keeps -/
def GI (G : Bk) : Prop := (0 ≤ G 0 ∧ G 0 ≤ 10) ∧ ∀ w, 0 ≤ w → w < G 0 → (1 ≤ G (10 + w) ∧ G (10 + w) ≤ 10) ∧ ∀ i, 0 ≤ i → i < G (10 + w) → (0 ≤ G (100 + 10 * w + i) ∧ G (100 + 10 * w + i) < 26) ∨ (32 ≤ G (100 + 10 * w + i) ∧ G (100 + 10 * w + i) < 42)
theorem bc_rng {c : Int} (h : ¬ bcS c < 0) : (0 ≤ bcS c ∧ bcS c < 26) ∨ (32 ≤ bcS c ∧ bcS c < 42) := by
  have r := sgN_rng (c := c)
  unfold bcS at h ⊢
  split
  · omega
  · split
    · rename_i h1 h2
      rw [if_neg h1, if_pos h2] at h
      omega
    · omega
/-- the page that a new byte makes: G1 with its last word open (perhaps empty) -/
theorem GI.app {G G1 : Bk} {b : Int} (I : GI G) (h : (G1 = G ∧ 1 ≤ G 0 ∧ G (9 + G 0) < 10) ∨ (G1 = pgN G ∧ G 0 < 10)) (hb : (0 ≤ b ∧ b < 26) ∨ (32 ≤ b ∧ b < 42)) : ∃ W s, 0 ≤ W ∧ W < 10 ∧ 0 ≤ s ∧ s < 10 ∧ G1 0 = W + 1 ∧ G1 (10 + W) = s ∧ pgA b G1 0 = W + 1 ∧ pgA b G1 (10 + W) = s + 1 ∧ pgA b G1 (100 + 10 * W + s) = b ∧ (∀ k, k ≠ 10 + W → k ≠ 100 + 10 * W + s → pgA b G1 k = G1 k) ∧ (∀ w, 0 ≤ w → w < W → G1 (10 + w) = G (10 + w) ∧ w < G 0) ∧ (∀ k, 100 ≤ k → G1 k = G k) ∧ (0 < s → W < G 0 ∧ G (10 + W) = s) ∧ GI (pgA b G1) := by
  obtain ⟨I1, I2⟩ := I
  have key : ∀ W s, 0 ≤ W → W < 10 → 0 ≤ s → s < 10 → G1 0 = W + 1 → G1 (10 + W) = s → (∀ w, 0 ≤ w → w < W → G1 (10 + w) = G (10 + w) ∧ w < G 0) → (∀ k, 100 ≤ k → G1 k = G k) → (0 < s → W < G 0 ∧ G (10 + W) = s) → ∃ W s, 0 ≤ W ∧ W < 10 ∧ 0 ≤ s ∧ s < 10 ∧ G1 0 = W + 1 ∧ G1 (10 + W) = s ∧ pgA b G1 0 = W + 1 ∧ pgA b G1 (10 + W) = s + 1 ∧ pgA b G1 (100 + 10 * W + s) = b ∧ (∀ k, k ≠ 10 + W → k ≠ 100 + 10 * W + s → pgA b G1 k = G1 k) ∧ (∀ w, 0 ≤ w → w < W → G1 (10 + w) = G (10 + w) ∧ w < G 0) ∧ (∀ k, 100 ≤ k → G1 k = G k) ∧ (0 < s → W < G 0 ∧ G (10 + W) = s) ∧ GI (pgA b G1) := by
    intro W s w0 w1 s0 s1 e0 es ew ek e5
    have p9 : 9 + G1 0 = 10 + W := by omega
    have pe : 100 + 10 * (G1 0 - 1) + G1 (9 + G1 0) = 100 + 10 * W + s := by rw [p9, es]; omega
    have v0 : pgA b G1 0 = W + 1 := by
      unfold pgA
      rw [p9, es, if_neg (by omega), if_neg (by omega)]
      exact e0
    have v1 : pgA b G1 (10 + W) = s + 1 := by
      unfold pgA
      rw [p9, if_pos rfl, es]
    have v2 : pgA b G1 (100 + 10 * W + s) = b := by
      unfold pgA
      rw [p9, es, if_neg (by omega), if_pos (by omega)]
    have o : ∀ k, k ≠ 10 + W → k ≠ 100 + 10 * W + s → pgA b G1 k = G1 k := fun k h1 h2 => by
      unfold pgA
      rw [p9, es, if_neg h1, if_neg (by omega)]
    refine ⟨W, s, w0, w1, s0, s1, e0, es, v0, v1, v2, o, ew, ek, e5, by rw [v0]; omega, fun w a a' => ?_⟩
    rw [v0] at a'
    by_cases hw : w = W
    · subst hw
      rw [v1]
      refine ⟨by omega, fun i i0 i1 => ?_⟩
      by_cases hi : i = s
      · rw [hi, v2]
        exact hb
      · rw [o _ (by omega) (by omega), ek _ (by omega)]
        have q := e5 (by omega)
        exact (I2 w w0 q.1).2 i i0 (by omega)
    · have q := ew w a (by omega)
      rw [o _ (by omega) (by omega), q.1]
      have r := I2 w a q.2
      refine ⟨r.1, fun i i0 i1 => ?_⟩
      rw [o _ (by omega) (by omega), ek _ (by omega)]
      exact r.2 i i0 i1
  obtain ⟨rfl, h1, h2⟩ | ⟨rfl, h1⟩ := h
  · have e9 : 9 + G1 0 = 10 + (G1 0 - 1) := by omega
    have q := I2 (G1 0 - 1) (by omega) (by omega)
    rw [e9] at h2
    exact key (G1 0 - 1) (G1 (10 + (G1 0 - 1))) (by omega) (by omega) (by omega) h2 (by omega) rfl (fun w a a' => ⟨rfl, by omega⟩) (fun k _ => rfl) fun _ => ⟨by omega, rfl⟩
  · refine key (G 0) 0 I1.1 h1 (Int.le_refl _) (by decide) (if_pos rfl) ?_ (fun w a a' => ⟨?_, a'⟩) (fun k hk => ?_) fun q => absurd q (by decide)
    · show (if 10 + G 0 = 0 then G 0 + 1 else if 10 + G 0 = 10 + G 0 then 0 else G (10 + G 0)) = 0
      rw [if_neg (by omega), if_pos rfl]
    · show (if 10 + w = 0 then G 0 + 1 else if 10 + w = 10 + G 0 then 0 else G (10 + w)) = _
      rw [if_neg (by omega), if_neg (by omega)]
    · show (if k = 0 then G 0 + 1 else if k = 10 + G 0 then 0 else G k) = _
      rw [if_neg (by omega), if_neg (by omega)]
def EG (G : Bk) : Mm := fun x k => if x = 597 then G 0 else if x = 604 then G (10 + k) else if x = 603 then G (100 + k) else 0
theorem EG_n {G : Bk} {k : Int} : EG G 597 k = G 0 := if_pos rfl
theorem EG_s {G : Bk} {k : Int} : EG G 604 k = G (10 + k) := by unfold EG; rw [if_neg (by decide), if_pos rfl]
theorem EG_b {G : Bk} {k : Int} : EG G 603 k = G (100 + k) := by unfold EG; rw [if_neg (by decide), if_neg (by decide), if_pos rfl]
section PGC
variable {m m' : Mm} {p : Int}
theorem p_sh {p w : Int} (h : p = 210 ∨ p = 245) (hw : 0 ≤ w ∧ w < 10) : shp p = 24 ∧ shp (p + 25 + w) = 0 ∧ ∀ i, 0 ≤ i → i < 11 → slot (p + 25 + w) i = some none := by
  have h1 : ∀ w : Nat, w < 10 → shp 210 = 24 ∧ shp (210 + 25 + (w : Int)) = 0 ∧ ∀ i : Nat, i < 11 → slot (210 + 25 + (w : Int)) (i : Int) = some none := by decide +kernel
  have h2 : ∀ w : Nat, w < 10 → shp 245 = 24 ∧ shp (245 + 25 + (w : Int)) = 0 ∧ ∀ i : Nat, i < 11 → slot (245 + 25 + (w : Int)) (i : Int) = some none := by decide +kernel
  obtain ⟨k, rfl⟩ := Int.eq_ofNat_of_zero_le hw.1
  obtain rfl | rfl := h
  · have := h1 k (by omega)
    refine ⟨this.1, this.2.1, fun i i0 i1 => ?_⟩
    obtain ⟨j, rfl⟩ := Int.eq_ofNat_of_zero_le i0
    exact this.2.2 j (by omega)
  · have := h2 k (by omega)
    refine ⟨this.1, this.2.1, fun i i0 i1 => ?_⟩
    obtain ⟨j, rfl⟩ := Int.eq_ofNat_of_zero_le i0
    exact this.2.2 j (by omega)
theorem c63 {W : Int} {K : Mm → Prop} (h : p = 210 ∨ p = 245) (hW : m p 4 = W) (w0 : 0 ≤ W ∧ W < 10) (kk : ∀ m', m' = umem (umem (umem m (p + 1) W 0) (p + 25 + W) 0 0) p 4 (W + 1) → K m') : TrV 63 [(1, p)] m K := by
  have sp := (p_sh h w0).1
  refine e63 _ sp ?_
  rw [hW]
  refine ⟨fun _ => ⟨w0, fun m1 e1 => ?_⟩, fun q => absurd w0.2 q⟩
  have a1 : m1 p 4 = W := by rw [e1, um_n (by omega)]; exact hW
  rw [a1]
  refine ⟨w0, fun m2 e2 m3 e3 => ?_⟩
  have a2 : m2 p 4 = W := by rw [e2, um_n (by omega)]; exact a1
  rw [a2, wrI (x := W + 1) (by omega) (by omega), e2, e1] at e3
  exact kk m3 e3
theorem c64 {W s c g : Int} {K : Mm → Prop} (h : p = 210 ∨ p = 245) (hW : m p 4 = W + 1) (w0 : 0 ≤ W ∧ W < 10) (hs : m (p + 1) W = s) (s0 : 0 ≤ s ∧ s < 10) (hc : 0 ≤ c ∧ c < 256) (kk : ∀ m', (∀ x k, ¬ (x = p + 1 ∧ k = W) → ¬ (x = p + 3 + W ∧ k = s) → ¬ (x = p + 14 + W ∧ k = s) → ¬ (x = p + 25 + W ∧ (k = s ∨ k = s + 1)) → m' x k = m x k) → m' (p + 1) W = s + 1 → m' (p + 3 + W) s = c → m' (p + 14 + W) s = g → m' (p + 25 + W) s = (if g < 0 then (if 97 ≤ c ∧ c ≤ 122 then c - 97 + 1 else 0) else 27) → m' (p + 25 + W) (s + 1) = 0 → K m') : TrV 64 [(1, p), (0, c), (0, g)] m K := by
  have sp := p_sh h w0
  refine e64 _ _ _ sp.1 ?_
  rw [hW, wrI (x := W + 1 - 1) (by omega) (by omega), show W + 1 - 1 = W by omega, hs]
  refine ⟨fun q => absurd q (by omega), fun _ => ⟨w0, fun _ => ⟨s0, fun m1 e1 m2 e2 => ?_⟩, fun q => absurd s0.2 q⟩⟩
  have go : ∀ v, v = (if g < 0 then (if 97 ≤ c ∧ c ≤ 122 then c - 97 + 1 else 0) else 27) → X 64 71 [(1, p), (0, c), (0, g), (0, W), (0, s)] [(0, v), (0, s), (1, p + 25 + W)] m2 (qV K) := by
    intro v hv
    refine w64_71 _ _ _ _ _ _ _ _ sp.1 ⟨⟨sp.2.1, sp.2.2 s s0.1 (by omega)⟩, fun m3 e3 => ?_⟩
    rw [wrI (x := s + 1) (by omega) (by omega)]
    refine ⟨w0, by omega, fun m4 e4 m5 e5 => ?_⟩
    refine kk m5 (fun x k h1 h2 h3 h4 => by rw [e5, um_n h1, e4, um_n (by omega), e3, um_n (by omega), e2, um_n h3, e1, um_n h2]) (by rw [e5, um_s]) ?_ ?_ ?_ ?_
    · rw [e5, um_n (by omega), e4, um_n (by omega), e3, um_n (by omega), e2, um_n (by omega), e1, um_s]
    · rw [e5, um_n (by omega), e4, um_n (by omega), e3, um_n (by omega), e2, um_s]
    · rw [e5, um_n (by omega), e4, um_n (by omega), e3, um_s]
      exact hv
    · rw [e5, um_n (by omega), e4, um_s]
  refine ⟨fun q => ⟨fun q2 => ?_, fun q2 => go 0 (by rw [if_pos q, if_neg q2])⟩, fun q => go 27 (by rw [if_neg q])⟩
  have := go (c - 97 + 1) (by rw [if_pos q, if_pos q2])
  rw [wrI (x := c - 97) (by omega) (by omega), wrI (x := c - 97 + 1) (by omega) (by omega)]
  exact this
/-- the class's page with one byte more -/
theorem CP.app {G G1 : Bk} {b c g W s : Int} (h : CP (EG G) m p) (I : GI G) (w0 : 0 ≤ W) (w1 : W < 10) (s0 : 0 ≤ s) (s1 : s < 10) (v0 : pgA b G1 0 = W + 1) (v1 : pgA b G1 (10 + W) = s + 1) (v2 : pgA b G1 (100 + 10 * W + s) = b) (o : ∀ k, k ≠ 10 + W → k ≠ 100 + 10 * W + s → pgA b G1 k = G1 k) (ew : ∀ w, 0 ≤ w → w < W → G1 (10 + w) = G (10 + w) ∧ w < G 0) (ek : ∀ k, 100 ≤ k → G1 k = G k) (e5 : 0 < s → W < G 0 ∧ G (10 + W) = s)
    (hb : b = bcS c) (hg : g = sgN c) (hn : ¬ b < 0)
    (f : ∀ x k, p ≤ x → x < p + 35 → x ≠ p → x ≠ p + 1 → ¬ (x = p + 3 + W ∧ k = s) → ¬ (x = p + 14 + W ∧ k = s) → ¬ (x = p + 25 + W ∧ (k = s ∨ k = s + 1)) → m' x k = m x k) (f1 : ∀ w, 0 ≤ w → w < W → m' (p + 1) w = m (p + 1) w) (y0 : m' p 4 = W + 1) (y1 : m' (p + 1) W = s + 1) (y3 : m' (p + 3 + W) s = c) (y14 : m' (p + 14 + W) s = g) (y25 : m' (p + 25 + W) s = (if g < 0 then (if 97 ≤ c ∧ c ≤ 122 then c - 97 + 1 else 0) else 27)) (y26 : m' (p + 25 + W) (s + 1) = 0) : CP (EG (pgA b G1)) m' p := by
  obtain ⟨h1, h2, h3⟩ := h
  obtain ⟨I1, I2⟩ := I
  generalize pgA b G1 = G' at *
  refine ⟨h1, by rw [EG_n, v0]; exact y0, fun w a a' => ?_⟩
  rw [EG_n, v0] at a'
  rw [EG_s]
  by_cases hw : w = W
  · subst hw
    rw [v1]
    refine ⟨y1, y26, fun i i0 i1 => ?_⟩
    rw [EG_b]
    by_cases hi : i = s
    · subst hi
      rw [show 100 + (10 * w + i) = 100 + 10 * w + i by omega, v2, y25, y14, y3]
      unfold bcS at hb
      by_cases hl : 97 ≤ c ∧ c ≤ 122
      · rw [if_pos hl] at hb
        have sl := sgN_let hl
        refine ⟨fun _ => by rw [if_pos (by omega), if_pos hl, hb], fun q => absurd (show b < 32 by omega) q, ?_⟩
        unfold byB
        rw [if_pos (by omega)]
        omega
      · rw [if_neg hl] at hb
        have hsg : ¬ sgN c < 0 := fun q => by
          rw [if_pos q] at hb
          omega
        rw [if_neg hsg] at hb
        refine ⟨fun q => by omega, fun _ => ⟨by rw [if_neg (by omega)], by omega⟩, ?_⟩
        unfold byB
        rw [if_neg (by omega), show b - 32 = sgN c by omega]
        exact (sg_cs (by omega)).symm
    · have q := e5 (by omega)
      have r := (h3 w a (by rw [EG_n]; exact q.1)).2.2 i i0 (by rw [EG_s]; omega)
      rw [EG_b] at r
      rw [o _ (by omega) (by omega), ek _ (by omega), f _ _ (by omega) (by omega) (by omega) (by omega) (by omega) (by omega) (by omega), f _ _ (by omega) (by omega) (by omega) (by omega) (by omega) (by omega) (by omega), f _ _ (by omega) (by omega) (by omega) (by omega) (by omega) (by omega) (by omega)]
      exact r
  · have q := ew w a (by omega)
    have i2 := I2 w a q.2
    have r := h3 w a (by rw [EG_n]; exact q.2)
    rw [EG_s] at r
    rw [o _ (by omega) (by omega), q.1, f1 w a (by omega), f _ _ (by omega) (by omega) (by omega) (by omega) (by omega) (by omega) (by omega)]
    refine ⟨r.1, r.2.1, fun i i0 i1 => ?_⟩
    have r' := r.2.2 i i0 i1
    rw [EG_b] at r' ⊢
    rw [o _ (by omega) (by omega), ek _ (by omega), f _ _ (by omega) (by omega) (by omega) (by omega) (by omega) (by omega) (by omega), f _ _ (by omega) (by omega) (by omega) (by omega) (by omega) (by omega) (by omega), f _ _ (by omega) (by omega) (by omega) (by omega) (by omega) (by omega) (by omega)]
    exact r'
end PGC
