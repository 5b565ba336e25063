/-! page, the reference's side -/
/-- what a page that is taken leaves on the reference's side -/
def fU (m m' : Mm) : Prop := ∀ x k, ¬ (x = 597 ∧ (k = 0 ∨ (2 ≤ k ∧ k ≤ 5) ∨ k = 8)) → x ≠ 605 → x ≠ 606 → m' x k = m x k
def PgR (G : Bk) (m m' : Mm) : Prop := (∀ x k, ¬ (x = 597 ∧ (k = 0 ∨ (2 ≤ k ∧ k ≤ 5) ∨ k = 8 ∨ k = 23 ∨ k = 25 ∨ k = 26)) → x ≠ 603 → x ≠ 604 → x ≠ 605 → x ≠ 606 → ¬ (x = 607 ∧ 48 ≤ k ∧ k < 58) → m' x k = m x k)
  ∧ (m' 597 2 = 0 ∧ m' 597 4 = 0 ∧ m' 597 5 = -1 ∧ m' 597 23 = G 0 ∧ m' 597 25 = 0 ∧ m' 597 26 = 0) ∧ (∀ w, 0 ≤ w → w < G 0 → m' 604 w = G (10 + w) ∧ ∀ i, 0 ≤ i → i < G (10 + w) → m' 603 (10 * w + i) = G (100 + 10 * w + i)) ∧ ∀ w, 0 ≤ w → w < 10 → m' 607 (48 + w) = -9
section PGR
variable {f : Int → Int} {n : Int} {m m' : Mm}
theorem fU.tr {m1 m2 : Mm} (h : fU m m1) (h2 : fU m1 m2) : fU m m2 := fun x k a b c => (h2 x k a b c).trans (h x k a b c)
theorem c192e {G : Bk} {u1 u5 u6 u3 : aV} {K : Int → Mm → Prop} (h3 : u3.1 ≠ 2) (I : GI G) (h2 : m 597 2 = 0) (h4 : m 597 4 = 0) (h5 : m 597 5 = -1) (h23 : m 597 23 = G 0) (hW : ∀ w, 0 ≤ w → w < G 0 → m 606 w = G (10 + w) ∧ ∀ i, 0 ≤ i → i < G (10 + w) → m 605 (10 * w + i) = G (100 + 10 * w + i)) (kk : ∀ m', (∀ x k, ¬ (x = 597 ∧ (k = 25 ∨ k = 26)) → x ≠ 603 → x ≠ 604 → ¬ (x = 607 ∧ 48 ≤ k ∧ k < 58) → m' x k = m x k) → (m' 597 2 = 0 ∧ m' 597 4 = 0 ∧ m' 597 5 = -1 ∧ m' 597 23 = G 0 ∧ m' 597 25 = 0 ∧ m' 597 26 = 0) → (∀ w, 0 ≤ w → w < G 0 → m' 604 w = G (10 + w) ∧ ∀ i, 0 ≤ i → i < G (10 + w) → m' 603 (10 * w + i) = G (100 + 10 * w + i)) → (∀ w, 0 ≤ w → w < 10 → m' 607 (48 + w) = -9) → K (G 0) m') : X 192 266 [(1, 597), u1, (0, G 0), u3, (0, 0), u5, u6] [] m (qI K) := by
  have I1 := I.1
  have l3 : ∀ (d i : Nat) (m1 : Mm), i + d = 10 → (∀ x k, x ≠ 603 → x ≠ 604 → ¬ (x = 607 ∧ 48 ≤ k ∧ k < 58) → m1 x k = m x k) → (∀ w, 0 ≤ w → w < G 0 → m1 604 w = G (10 + w) ∧ ∀ i, 0 ≤ i → i < G (10 + w) → m1 603 (10 * w + i) = G (100 + 10 * w + i)) → (∀ w, 0 ≤ w → w < (i : Int) → m1 607 (48 + w) = -9) → X 192 336 [(1, 597), u1, (0, G 0), u3, (0, (i : Int)), u5, u6] [] m1 (qI K) := by
    intro d
    induction d with
    | zero =>
      intro i m1 hi f1 C I1
      refine w192_336 _ _ _ _ _ _ h3 ⟨fun q => absurd q (by omega), fun _ m2 e2 m3 e3 => ?_⟩
      have g : ∀ x k, ¬ (x = 597 ∧ (k = 25 ∨ k = 26)) → m3 x k = m1 x k := fun x k h => by rw [e3, um_n (by omega), e2, um_n (by omega)]
      refine kk m3 (fun x k a b c d => by rw [g x k a]; exact f1 x k b c d) ⟨?_, ?_, ?_, ?_, ?_, ?_⟩ (fun w w0 w1 => ?_) fun w w0 w1 => ?_
      · rw [g _ _ (by decide), f1 _ _ (by decide) (by decide) (by decide)]; exact h2
      · rw [g _ _ (by decide), f1 _ _ (by decide) (by decide) (by decide)]; exact h4
      · rw [g _ _ (by decide), f1 _ _ (by decide) (by decide) (by decide)]; exact h5
      · rw [g _ _ (by decide), f1 _ _ (by decide) (by decide) (by decide)]; exact h23
      · rw [e3, um_k (by decide), e2, um_s]
      · rw [e3, um_s]
      · rw [g _ _ (by omega)]
        exact ⟨(C w w0 w1).1, fun i i0 i1 => by rw [g _ _ (by omega)]; exact (C w w0 w1).2 i i0 i1⟩
      · rw [g _ _ (by omega)]
        exact I1 w w0 (by omega)
    | succ d ih =>
      intro i m1 hi f1 C I1
      refine w192_336 _ _ _ _ _ _ h3 ⟨fun _ => ?_, fun q => absurd (show (i : Int) < 10 by omega) q⟩
      rw [wrI (x := 48 + (i : Int)) (by omega) (by omega), wrI (x := (i : Int) + 1) (by omega) (by omega)]
      refine ⟨by omega, fun m2 e2 => ih (i + 1) m2 (by omega) (fun x k a b c => by rw [e2, um_n (by omega)]; exact f1 x k a b c) (fun w w0 w1 => ?_) fun w w0 w1 => ?_⟩
      · rw [e2, um_x (by decide)]
        exact ⟨(C w w0 w1).1, fun i i0 i1 => by rw [um_x (by decide)]; exact (C w w0 w1).2 i i0 i1⟩
      · by_cases hw : w = i
        · rw [hw, e2, um_s]
        · rw [e2, um_k (by omega)]
          exact I1 w w0 (by omega)
  have l2 : ∀ (d i : Nat) (m1 : Mm), i + d = 100 → (∀ x k, x ≠ 603 → x ≠ 604 → m1 x k = m x k) → (∀ w, 0 ≤ w → w < G 0 → m1 604 w = G (10 + w)) → (∀ k, 0 ≤ k → k < (i : Int) → m1 603 k = m 605 k) → X 192 306 [(1, 597), u1, (0, G 0), u3, (0, (i : Int)), u5, u6] [] m1 (qI K) := by
    intro d
    induction d with
    | zero =>
      intro i m1 hi f1 C J
      refine w192_306 _ _ _ _ _ _ h3 ⟨fun q => absurd q (by omega), fun _ => ?_⟩
      refine l3 10 0 m1 (by omega) (fun x k a b _ => f1 x k a b) (fun w w0 w1 => ⟨C w w0 w1, fun i i0 i1 => ?_⟩) fun w w0 w1 => by omega
      have b := (I.2 w w0 w1).1
      rw [J _ (by omega) (by omega)]
      exact (hW w w0 w1).2 i i0 i1
    | succ d ih =>
      intro i m1 hi f1 C J
      refine w192_306 _ _ _ _ _ _ h3 ⟨fun _ => ?_, fun q => absurd (show (i : Int) < 100 by omega) q⟩
      rw [wrI (x := (i : Int) + 1) (by omega) (by omega)]
      refine ⟨by omega, fun m2 e2 => ih (i + 1) m2 (by omega) (fun x k a b => by rw [e2, um_x a]; exact f1 x k a b) (fun w w0 w1 => by rw [e2, um_x (by decide)]; exact C w w0 w1) fun k k0 k1 => ?_⟩
      by_cases hk : k = i
      · rw [hk, e2, um_s, f1 _ _ (by decide) (by decide)]
      · rw [e2, um_k hk]
        exact J k k0 (by omega)
  have l1 : ∀ (d i : Nat) (m1 : Mm), i + d = 10 → (∀ x k, x ≠ 604 → m1 x k = m x k) → (∀ w, 0 ≤ w → w < (i : Int) → w < G 0 → m1 604 w = G (10 + w)) → X 192 266 [(1, 597), u1, (0, G 0), u3, (0, (i : Int)), u5, u6] [] m1 (qI K) := by
    intro d
    induction d with
    | zero =>
      intro i m1 hi f1 C
      refine w192_266 _ _ _ _ _ _ h3 ⟨fun q => absurd q (by omega), fun _ => ?_⟩
      exact l2 100 0 m1 (by omega) (fun x k _ b => f1 x k b) (fun w w0 w1 => C w w0 (by omega) w1) fun k k0 k1 => by omega
    | succ d ih =>
      intro i m1 hi f1 C
      have go : ∀ m2 v, m2 = umem m1 604 i v → ((i : Int) < G 0 → v = G (10 + i)) → X 192 266 [(1, 597), u1, (0, G 0), u3, (0, wr ((i : Int) + 1)), u5, u6] [] m2 (qI K) := fun m2 v e2 hv => by
        rw [wrI (x := (i : Int) + 1) (by omega) (by omega)]
        refine ih (i + 1) m2 (by omega) (fun x k a => by rw [e2, um_x a]; exact f1 x k a) fun w w0 w1 w2 => ?_
        by_cases hw : w = i
        · rw [hw, e2, um_s]
          exact hv (by omega)
        · rw [e2, um_k hw]
          exact C w w0 (by omega) w2
      refine w192_266 _ _ _ _ _ _ h3 ⟨fun _ => ⟨fun q => ⟨by omega, fun m2 e2 => go m2 _ e2 fun _ => ?_⟩, fun q => ⟨by omega, fun m2 e2 => go m2 _ e2 fun z => absurd z q⟩⟩, fun q => absurd (show (i : Int) < 10 by omega) q⟩
      rw [f1 _ _ (by decide)]
      exact (hW i (by omega) q).1
  exact l1 10 0 m (by omega) (fun _ _ _ => rfl) fun w w0 w1 => by omega
/-- the reference stands at q of a page -/
def StQ (f : Int → Int) (n : Int) (G : Bk) (m : Mm) : Prop := m 597 3 = n ∧ (∀ i, 0 ≤ i → i < n → m 598 i = f i ∧ 0 ≤ f i ∧ f i < 256) ∧ m 597 2 = 0 ∧ m 597 4 = 0 ∧ m 597 5 = -1 ∧ ∀ w, 0 ≤ w → w < G 0 → m 606 w = G (10 + w) ∧ ∀ i, 0 ≤ i → i < G (10 + w) → m 605 (10 * w + i) = G (100 + 10 * w + i)
/-- a byte is laid -/
theorem c192p {G G1 : Bk} {q : Int} {u1 u3 u6 : aV} {K : Int → Mm → Prop} {m1 : Mm} (I : GI G) (S : StQ f n G m) (hq : 0 ≤ q ∧ q < n) (hn9 : n ≤ 900) (hn : ¬ bcS (f q) < 0) (hG : (G1 = G ∧ 1 ≤ G 0 ∧ G (9 + G 0) < 10) ∨ (G1 = pgN G ∧ G 0 < 10)) (f1 : ∀ x k, ¬ (x = 606 ∧ k = G1 0 - 1) → m1 x k = m x k) (y1 : m1 606 (G1 0 - 1) = G1 (9 + G1 0))
    (kk : ∀ m3, (∀ x k, x ≠ 605 → x ≠ 606 → m3 x k = m x k) → StQ f n (pgA (bcS (f q)) G1) m3 → GI (pgA (bcS (f q)) G1) → 1 ≤ pgA (bcS (f q)) G1 0 → X 192 23 [(1, 597), u1, (0, pgA (bcS (f q)) G1 0), (0, 1), (0, q + 1), (0, bcS (f q)), u6] [] m3 (qI K)) : X 192 215 [(1, 597), u1, (0, G1 0), u3, (0, q), (0, bcS (f q)), u6] [] m1 (qI K) := by
  obtain ⟨s3, sf, z2, z4, z5, C⟩ := S
  obtain ⟨W, s, w0, w1, s0, s1, e0, es, v0, v1, v2, o, ew, ek, e5, I'⟩ := I.app hG (bc_rng hn)
  have c1 : G1 0 - 1 = W := by omega
  have c9 : 9 + G1 0 = 10 + W := by omega
  rw [c1] at f1
  rw [c1, c9, es] at y1
  clear hG c1 c9
  have wi : wr (wr (wr (10 * (W + 1)) - 10) + s) = 10 * W + s := by
    rw [wrI (x := 10 * (W + 1)) (by omega) (by omega), wrI (x := 10 * (W + 1) - 10) (by omega) (by omega), wrI (by omega) (by omega)]
    omega
  rw [v0] at kk
  rw [e0]
  refine w192_215 _ _ _ _ _ _ ?_
  rw [wrI (x := W + 1 - 1) (by omega) (by omega), show W + 1 - 1 = W by omega, y1, wi, wrI (x := q + 1) (by omega) (by omega)]
  clear wi
  refine ⟨⟨w0, w1⟩, by omega, fun m2 e2 m3 e3 => ?_⟩
  have x6 : m2 606 W = s := by rw [e2, um_x (by decide)]; exact y1
  rw [x6] at e3
  have e3' : m3 = umem m2 606 W (s + 1) := by rw [e3, wrI (by omega) (by omega)]
  clear e3
  have F : ∀ x k, ¬ (x = 606 ∧ k = W) → ¬ (x = 605 ∧ k = 10 * W + s) → m3 x k = m x k := fun x k a b => by rw [e3', um_n a, e2, um_n b]; exact f1 x k a
  refine kk m3 (fun x k a b => F x k (fun z => b z.1) (fun z => a z.1)) ⟨by rw [F _ _ (by omega) (by omega)]; exact s3, fun i i0 i1 => by rw [F _ _ (by omega) (by omega)]; exact sf i i0 i1, by rw [F _ _ (by omega) (by omega)]; exact z2, by rw [F _ _ (by omega) (by omega)]; exact z4, by rw [F _ _ (by omega) (by omega)]; exact z5, fun w a a' => ?_⟩ I' (by omega)
  rw [v0] at a'
  by_cases hw : w = W
  · subst hw
    rw [v1]
    refine ⟨by rw [e3', um_s], fun i i0 i1 => ?_⟩
    by_cases hi : i = s
    · rw [hi, v2, e3', um_x (by decide), e2, um_s]
    · have qq := e5 (by omega)
      rw [o _ (by omega) (by omega), ek _ (by omega), F _ _ (by omega) (by omega)]
      exact (C w w0 qq.1).2 i i0 (by omega)
  · have qq := ew w a (by omega)
    have c := C w a qq.2
    have b := (I.2 w a qq.2).1
    rw [o _ (by omega) (by omega), qq.1, F _ _ (by omega) (by omega)]
    refine ⟨c.1, fun i i0 i1 => ?_⟩
    rw [o _ (by omega) (by omega), ek _ (by omega), F _ _ (by omega) (by omega)]
    exact c.2 i i0 i1
end PGR
