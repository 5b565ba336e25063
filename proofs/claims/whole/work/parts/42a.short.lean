/-! SHORT: what it is, over the table's row T -/
def zsz (T : Int → Int) (e : Int) : Int := T (264 + 11 * e)
def zL (T : Int → Int) (e k : Int) : Int := T (264 + 11 * e + 3 + k)
def canT (T : Int → Int) (r e k : Int) : Bool := fbB (T (11 * r + 2)) (if k = 0 then -1 else T (264 + 11 * e + 3 + (k - 1))) && (decide (k + T (11 * r + 1) ≤ zsz T e) && allN (T (11 * r + 1)).toNat fun i => decide (T (11 * r + 5 + i) = T (264 + 11 * e + 3 + (k + i))))
theorem canT_E {E : Mm} {r e k : Int} : canT (E 602) r e k = (fbB (E 602 (11 * r + 2)) (lasO E e k) && stM E r e k) := rfl
/-- a byte more: by 0 the entry's own letter, else reading by - 1 -/
def nxB (T : Int → Int) (e k c b : Int) : Bool := if b = 0 then decide (k < zsz T e) && letB c (zL T e k) else letB c 32 && canT T (b - 1) e k
def nxK (T : Int → Int) (k b : Int) : Int := if b = 0 then k + 1 else k + T (11 * (b - 1) + 1)
def cdA (T : Int → Int) (b : Int) : Int := if b = 0 then 0 else T (11 * (b - 1) + 3)
def byT (T : Int → Int) (e k b : Int) : Int := if b = 0 then 97 + zL T e k else cs 600 (T (11 * (b - 1)))
def anyN : Nat → (Int → Bool) → Bool
  | 0, _ => false
  | n + 1, f => anyN n f || f n
theorem anyN_t {n : Nat} {f : Int → Bool} : anyN n f = true ↔ ∃ i : Int, 0 ≤ i ∧ i < n ∧ f i = true := by
  induction n with
  | zero =>
    constructor
    · intro h; exact absurd h Bool.false_ne_true
    · rintro ⟨i, h0, h1, _⟩; omega
  | succ n ih =>
    unfold anyN
    rw [Bool.or_eq_true_iff, ih]
    constructor
    · rintro (⟨i, h0, h1, h2⟩ | h)
      · exact ⟨i, h0, by omega, h2⟩
      · exact ⟨n, by omega, by omega, h⟩
    · rintro ⟨i, h0, h1, h2⟩
      by_cases hi : i = n
      · subst hi
        exact Or.inr h2
      · exact Or.inl ⟨i, h0, by omega, h2⟩
/-- whether just d bytes more can end the entry -/
def RE (T : Int → Int) (e : Int) : Nat → Int → Int → Bool
  | 0, k, c => decide (k = zsz T e) && letB c (-1)
  | d + 1, k, c => anyN ((T 578).toNat + 1) fun b => nxB T e k c b && RE T e d (nxK T k b) (cdA T b)
theorem RE_by {T : Int → Int} {e k c : Int} {d : Nat} (h0 : 0 ≤ T 578) : RE T e (d + 1) k c = true ↔ ∃ b, 0 ≤ b ∧ b ≤ T 578 ∧ nxB T e k c b = true ∧ RE T e d (nxK T k b) (cdA T b) = true := by
  show (anyN ((T 578).toNat + 1) fun b => nxB T e k c b && RE T e d (nxK T k b) (cdA T b)) = true ↔ _
  rw [anyN_t]
  constructor
  · rintro ⟨b, b0, b1, h⟩
    rw [Bool.and_eq_true] at h
    exact ⟨b, b0, by omega, h⟩
  · rintro ⟨b, b0, b1, h⟩
    exact ⟨b, b0, by omega, by rw [Bool.and_eq_true]; exact h⟩
abbrev hS : Type := Int → Int → Prop
def goS (T : Int → Int) (e : Int) (d : Nat) (H : hS) (v : Int) : Prop := ∃ k c b, H k c ∧ (0 ≤ b ∧ b ≤ T 578) ∧ nxB T e k c b = true ∧ RE T e d (nxK T k b) (cdA T b) = true ∧ byT T e k b = v
def stp (T : Int → Int) (e : Int) (d : Nat) (H : hS) (v : Int) : hS := fun k' c' => ∃ k c b, H k c ∧ (0 ≤ b ∧ b ≤ T 578) ∧ nxB T e k c b = true ∧ RE T e d (nxK T k b) (cdA T b) = true ∧ byT T e k b = v ∧ k' = nxK T k b ∧ c' = cdA T b
def lsT (T : Int → Int) (e : Int) (d : Nat) (H : hS) (v : Int) : Prop := goS T e d H v ∧ ∀ u, goS T e d H u → v ≤ u
theorem lsT_u {T : Int → Int} {e v u : Int} {d : Nat} {H : hS} (h1 : lsT T e d H v) (h2 : lsT T e d H u) : v = u := Int.le_antisymm (h1.2 _ h2.1) (h2.2 _ h1.1)
def Sp (T : Int → Int) (e : Int) : Nat → hS → List Int → Prop
  | 0, _, l => l = []
  | d + 1, H, l => ∃ v t, l = v :: t ∧ lsT T e d H v ∧ Sp T e d (stp T e d H v) t
theorem Sp_u {T : Int → Int} {e : Int} : ∀ (d : Nat) (H : hS) (l1 l2 : List Int), Sp T e d H l1 → Sp T e d H l2 → l1 = l2 := by
  intro d
  induction d with
  | zero => intro H l1 l2 h1 h2; exact h1.trans h2.symm
  | succ d ih =>
    rintro H l1 l2 ⟨v1, t1, rfl, a1, b1⟩ ⟨v2, t2, rfl, a2, b2⟩
    have e1 := lsT_u a1 a2
    subst e1
    rw [ih _ _ _ b1 b2]
def H0 : hS := fun k c => k = 0 ∧ c = 0
/-- l is SHORT of e -/
def IsSh (T : Int → Int) (e : Int) (l : List Int) : Prop := ∃ N : Nat, RE T e N 0 0 = true ∧ (∀ d : Nat, d < N → ¬ RE T e d 0 0 = true) ∧ l.length = N ∧ Sp T e N H0 l
theorem IsSh_u {T : Int → Int} {e : Int} {l1 l2 : List Int} (h1 : IsSh T e l1) (h2 : IsSh T e l2) : l1 = l2 := by
  obtain ⟨N1, a1, b1, c1, d1⟩ := h1
  obtain ⟨N2, a2, b2, c2, d2⟩ := h2
  have : N1 = N2 := by
    rcases Nat.lt_trichotomy N1 N2 with h | h | h
    · exact absurd a1 (b2 _ h)
    · exact h
    · exact absurd a2 (b1 _ h)
  subst this
  exact Sp_u N1 _ _ _ d1 d2
noncomputable def shS (T : Int → Int) (e : Int) : List Int := Classical.epsilon (IsSh T e)
theorem shS_eq {T : Int → Int} {e : Int} {l : List Int} (h : IsSh T e l) : shS T e = l := IsSh_u (Classical.epsilon_spec ⟨l, h⟩) h
/-! ranges -/
theorem zsz_rng {E : Mm} (T : InvT E) {e : Int} (he : 0 ≤ e ∧ e < E 602 579) : 1 ≤ zsz (E 602) e ∧ zsz (E 602) e ≤ 8 := (T.2.2.2.2.2.2.2.1 e he.1 he.2).1
theorem zL_rng {E : Mm} (T : InvT E) {e k : Int} (he : 0 ≤ e ∧ e < E 602 579) (hk : 0 ≤ k ∧ k < zsz (E 602) e) : 0 ≤ zL (E 602) e k ∧ zL (E 602) e k < 26 := (T.2.2.2.2.2.2.2.1 e he.1 he.2).2.2.2 k hk.1 hk.2
theorem nx_rng {E : Mm} (T : InvT E) {e k c b : Int} (he : 0 ≤ e ∧ e < E 602 579) (hk : 0 ≤ k) (hb : 0 ≤ b ∧ b ≤ E 602 578) (h : nxB (E 602) e k c b = true) : (0 ≤ nxK (E 602) k b ∧ nxK (E 602) k b ≤ zsz (E 602) e) ∧ 0 ≤ cdA (E 602) b ∧ cdA (E 602) b ≤ 30 := by
  unfold nxB at h
  unfold nxK cdA
  by_cases h0 : b = 0
  · rw [if_pos h0, Bool.and_eq_true, decide_eq_true_eq] at h
    rw [if_pos h0, if_pos h0]
    omega
  · rw [if_neg h0, Bool.and_eq_true] at h
    rw [if_neg h0, if_neg h0]
    have hM := T.2.2.2.2.2.2.1 (b - 1) (by omega) (by omega)
    have h2 := h.2
    unfold canT at h2
    rw [Bool.and_eq_true, Bool.and_eq_true, decide_eq_true_eq] at h2
    have := hM.2.2.2.1
    have := hM.2.2.2.2.2.1
    omega
theorem cdA_rng {E : Mm} (T : InvT E) {b : Int} (hb : 0 ≤ b ∧ b ≤ E 602 578) : 0 ≤ cdA (E 602) b ∧ cdA (E 602) b ≤ 30 := by
  unfold cdA
  split
  · omega
  · have hM := T.2.2.2.2.2.2.1 (b - 1) (by omega) (by omega)
    exact hM.2.2.2.2.2.1
/-- with its own letters an entry ends in as many bytes -/
theorem RE_own {E : Mm} (T : InvT E) {e : Int} (he : 0 ≤ e ∧ e < E 602 579) : ∀ (d : Nat) (k : Int), 0 ≤ k → k + d = zsz (E 602) e → RE (E 602) e d k 0 = true := by
  intro d
  induction d with
  | zero =>
    intro k k0 hk
    unfold RE
    rw [Bool.and_eq_true, decide_eq_true_eq]
    exact ⟨by omega, rfl⟩
  | succ d ih =>
    intro k k0 hk
    refine (RE_by T.2.1.1).mpr ⟨0, Int.le_refl _, T.2.1.1, ?_, ?_⟩
    · unfold nxB
      rw [if_pos rfl, Bool.and_eq_true, decide_eq_true_eq]
      exact ⟨by omega, rfl⟩
    · exact ih (k + 1) (by omega) (by omega)
/-! the class: stateAfter(135), byteOf(139) -/
theorem all_bits : ∀ c : Nat, c < 28 → iand (ishr 268435455 (c : Int)) 1 = 1 := by decide +kernel
theorem sd25 : ∀ s : Nat, s < 225 → idiv (s : Int) 25 = ((s / 25 : Nat) : Int) ∧ irem (s : Int) 25 = ((s % 25 : Nat) : Int) := by decide +kernel
theorem sd_at {k last : Int} (hk : 0 ≤ k ∧ k ≤ 8) (hl : 0 ≤ last ∧ last < 25) : idiv (25 * k + last) 25 = k ∧ irem (25 * k + last) 25 = last := by
  have h := sd25 (25 * k + last).toNat (by omega)
  rw [show (((25 * k + last).toNat : Nat) : Int) = 25 * k + last by omega] at h
  omega
theorem ahd_let {E m : Mm} {t last c : Int} (T : InvT E) (Tt : CT E m t) (hl : 0 ≤ last ∧ last ≤ E 602 578) (hc : 0 ≤ c ∧ c < 28) : iand (ishr (ahd m t last) c) 1 = 1 ↔ letB (cdA (E 602) last) (nxE c) = true := by
  unfold ahd cdA
  by_cases h0 : last = 0
  · rw [if_pos h0, if_pos h0]
    have := all_bits c.toNat (by omega)
    rw [show ((c.toNat : Nat) : Int) = c by omega] at this
    exact ⟨fun _ => rfl, fun _ => this⟩
  · rw [if_neg h0, if_neg h0]
    obtain ⟨-, -, -, -, -, -, h7⟩ := Tt.2.2.2.2.2.2.1 (last - 1) (by omega) (by omega)
    exact h7 c hc.1 hc.2
theorem cAt_L {E m : Mm} {y e k : Int} (T : InvT E) (hE : CE E m y e) (he : 0 ≤ e ∧ e < E 602 579) (hk : 0 ≤ k ∧ k ≤ zsz (E 602) e) : cAt m y k = if k < zsz (E 602) e then zL (E 602) e k + 1 else 0 := by
  unfold cAt
  have h1 : m y 1 = zsz (E 602) e := hE.2.1
  rw [h1]
  by_cases h : k < zsz (E 602) e
  · rw [if_pos ⟨hk.1, h⟩, if_pos h]
    have := hE.2.2.2.2 k hk.1 h
    unfold zL
    omega
  · rw [if_neg (fun q => h q.2), if_neg h]
theorem c135 {E m : Mm} {K : Int → Mm → Prop} {t e k last b : Int} (T : InvT E) (Tt : CT E m t) (he : 0 ≤ e ∧ e < E 602 579) (hk : 0 ≤ k ∧ k ≤ zsz (E 602) e) (hl : 0 ≤ last ∧ last ≤ E 602 578) (hb : 0 ≤ b ∧ b ≤ E 602 578)
    (yes : nxB (E 602) e k (cdA (E 602) last) b = true → K (25 * nxK (E 602) k b + b) m) (no : ¬ nxB (E 602) e k (cdA (E 602) last) b = true → K (-1) m) : TrI 135 [(1, 581), (1, t), (1, t + 54 + 2 * e), (0, 25 * k + last), (0, b)] m K := by
  have T2 := T.2.1
  have zr := zsz_rng T he
  have ce := Tt.2.2.2.2.2.2.2.1 e he.1 he.2
  obtain ⟨d1, d2⟩ := sd_at (k := k) (last := last) (by omega) (by omega)
  refine e135 _ _ _ _ Tt.shp ce.1 ?_
  rw [d1, d2]
  unfold nxB at yes no
  refine ⟨⟨Tt.shp, hl.1, by omega⟩, fun h0 => ⟨ce.v T he, ?_⟩, fun h0 => ?_⟩
  · rw [if_pos h0] at yes no
    rw [cAt_L T ce he hk]
    by_cases h : k < zsz (E 602) e
    · have zl := zL_rng T he ⟨hk.1, h⟩
      rw [if_pos h]
      refine ⟨fun q => absurd q (by omega), fun _ => ?_⟩
      have al := ahd_let T Tt hl (c := zL (E 602) e k + 1) (by omega)
      have hn : nxE (zL (E 602) e k + 1) = zL (E 602) e k := by
        unfold nxE
        rw [if_neg (by omega), if_neg (by omega)]
        omega
      rw [hn] at al
      refine ⟨fun q => ?_, fun q => ?_⟩
      · have := yes (by rw [Bool.and_eq_true, decide_eq_true_eq]; exact ⟨h, al.mp q⟩)
        unfold nxK at this
        rw [if_pos h0] at this
        rw [wrI (x := k + 1) (by omega) (by omega), wrI (by omega) (by omega)]
        rw [show 25 * (k + 1) + b = (k + 1) * 25 by omega] at this
        exact this
      · exact no (by rw [Bool.and_eq_true]; exact fun z => q (al.mpr z.2))
    · rw [if_neg h]
      exact ⟨fun _ => no (by rw [Bool.and_eq_true, decide_eq_true_eq]; exact fun z => h z.1), fun q => absurd rfl q⟩
  · rw [if_neg h0] at yes no
    have hM := T.2.2.2.2.2.2.1 (b - 1) (by omega) (by omega)
    have cr := Tt.2.2.2.2.2.2.1 (b - 1) (by omega) (by omega)
    have q1 : wr (b - 1) = b - 1 := wrI (by omega) (by omega)
    have q2 : wr (k - 1) = k - 1 := wrI (by clear q1; omega) (by clear q1; omega)
    rw [q1, q2]
    clear q1 q2
    have al := ahd_let T Tt hl (c := 27) (by decide)
    rw [show nxE 27 = 32 from rfl] at al
    have fin0 : ¬ (letB (cdA (E 602) last) 32 && canT (E 602) (b - 1) e k) = true → X 135 112 [(1, 581), (1, t), (1, t + 54 + 2 * e), (0, 25 * k + last), (0, b), (0, k), (0, ahd m t last), (1, t + 6 + 2 * (b - 1)), (9, 0)] [(0, 0)] m (qI K) := fun h => w135_112 _ _ _ _ _ _ _ _ _ _ ⟨fun _ => no h, fun q => absurd rfl q⟩
    refine ⟨by omega, fun h27 => ⟨ce.v T he, fun hbh => ?_, fun hbh => ?_⟩, fun h27 => fin0 (by rw [Bool.and_eq_true]; exact fun z => h27 (al.mpr z.1))⟩
    · have hbq := (cr.2.2.2.2.2.1 (lasO E e k + 1) (by
        have := lasO_rng T he (k := k) (by exact hk)
        omega) (by
        have := lasO_rng T he (k := k) (by exact hk)
        omega))
      rw [cAt_las ce (by exact hk)] at hbh
      rw [show lasO E e k + 1 - 1 = lasO E e k by omega] at hbq
      have hsc := stC_stM (r := b - 1) (k := k) cr ce hM hk.1
      refine ⟨⟨cr.v hM, ce.v T he, hk.1, by omega⟩, fun hst => ?_, fun hst => ?_⟩
      · have hx : (letB (cdA (E 602) last) 32 && canT (E 602) (b - 1) e k) = true := by
          rw [Bool.and_eq_true, canT_E, Bool.and_eq_true]
          exact ⟨al.mp h27, hbq.mp hbh, hsc.mp hst⟩
        have hle := stM_le (hsc.mp hst)
        have hs0 := hM.2.2.2.1
        have hz : zsz (E 602) e = esz E e := rfl
        refine w135_112 _ _ _ _ _ _ _ _ _ _ ⟨fun q => absurd q (by decide), fun _ => ⟨by have := Tt.1; omega, cr.1, ?_⟩⟩
        rw [cr.2.2.1]
        have := yes hx
        unfold nxK at this
        rw [if_neg h0] at this
        have hbz : bsz E (b - 1) = E 602 (11 * (b - 1) + 1) := rfl
        rw [wrI (x := k + E 602 (11 * (b - 1) + 1)) (by omega) (by omega), wrI (x := (k + E 602 (11 * (b - 1) + 1)) * 25) (by omega) (by omega), wrI (by omega) (by omega)]
        rw [show 25 * (k + E 602 (11 * (b - 1) + 1)) + b = (k + E 602 (11 * (b - 1) + 1)) * 25 + b by omega] at this
        exact this
      · exact fin0 (by
          rw [Bool.and_eq_true, canT_E, Bool.and_eq_true]
          exact fun z => hst (hsc.mpr z.2.2))
    · have hbq := (cr.2.2.2.2.2.1 (lasO E e k + 1) (by
        have := lasO_rng T he (k := k) (by exact hk)
        omega) (by
        have := lasO_rng T he (k := k) (by exact hk)
        omega))
      rw [cAt_las ce (by exact hk)] at hbh
      rw [show lasO E e k + 1 - 1 = lasO E e k by omega] at hbq
      exact fin0 (by
        rw [Bool.and_eq_true, canT_E, Bool.and_eq_true]
        exact fun z => hbh (hbq.mpr z.2.1))
theorem c139 {E m : Mm} {K : Int → Mm → Prop} {t e k last b : Int} (T : InvT E) (Tt : CT E m t) (he : 0 ≤ e ∧ e < E 602 579) (hk : 0 ≤ k ∧ k ≤ zsz (E 602) e) (hl : 0 ≤ last ∧ last ≤ E 602 578) (hb : 0 ≤ b ∧ b ≤ E 602 578) (hx : nxB (E 602) e k (cdA (E 602) last) b = true)
    (kk : K (byT (E 602) e k b) m) : TrI 139 [(1, t), (1, t + 54 + 2 * e), (0, 25 * k + last), (0, b)] m K := by
  have T2 := T.2.1
  have zr := zsz_rng T he
  have ce := Tt.2.2.2.2.2.2.2.1 e he.1 he.2
  obtain ⟨d1, d2⟩ := sd_at (k := k) (last := last) (by omega) (by omega)
  refine e139 _ _ _ _ Tt.shp ce.1 ?_
  rw [d1]
  unfold byT at kk
  unfold nxB at hx
  refine ⟨fun h0 => ⟨ce.v T he, ?_⟩, fun h0 => ?_⟩
  · rw [if_pos h0] at kk hx
    rw [Bool.and_eq_true, decide_eq_true_eq] at hx
    unfold lAt
    have h1 : m (t + 54 + 2 * e) 1 = zsz (E 602) e := ce.2.1
    rw [h1, if_pos ⟨hk.1, hx.1⟩, ce.2.2.2.2 k hk.1 hx.1]
    exact kk
  · rw [if_neg h0] at kk
    have hM := T.2.2.2.2.2.2.1 (b - 1) (by omega) (by omega)
    have cr := Tt.2.2.2.2.2.2.1 (b - 1) (by omega) (by omega)
    have q1 : wr (b - 1) = b - 1 := wrI (by omega) (by omega)
    rw [q1]
    clear q1
    rw [cr.2.1]
    exact ⟨by omega, sgChar hM.2.2.1 kk⟩
