/-! the tokens of a text: what both scanners find -/
def scn (P : Int → Bool) : Nat → Int → Int
  | 0, p => p
  | d + 1, p => if P p = true then scn P d (p + 1) else p
/-- the first place from p on, below n, where P does not hold, or n -/
def sc (P : Int → Bool) (n p : Int) : Int := scn P (n - p).toNat p
theorem sc_t {P : Int → Bool} {n p : Int} (h : p < n) (hp : P p = true) : sc P n p = sc P n (p + 1) := by
  unfold sc
  rw [show (n - p).toNat = (n - (p + 1)).toNat + 1 by omega]
  show (if P p = true then _ else _) = _
  rw [if_pos hp]
theorem sc_f {P : Int → Bool} {n p : Int} (hp : ¬ P p = true) : sc P n p = p := by
  unfold sc
  generalize (n - p).toNat = d
  cases d with
  | zero => rfl
  | succ d =>
    show (if P p = true then _ else _) = _
    rw [if_neg hp]
theorem sc_n {P : Int → Bool} {n p : Int} (h : ¬ p < n) : sc P n p = p := by
  unfold sc
  rw [show (n - p).toNat = 0 by omega]
  rfl
theorem scn_le {P : Int → Bool} : ∀ (d : Nat) (p : Int), p ≤ scn P d p ∧ scn P d p ≤ p + d ∧ (∀ i, p ≤ i → i < scn P d p → P i = true) ∧ (scn P d p < p + d → ¬ P (scn P d p) = true) := by
  intro d
  induction d with
  | zero => exact fun p => ⟨Int.le_refl _, by show p ≤ _; omega, fun i i0 i1 => by have : i < p := i1; omega, fun h => by have : p < p + (0 : Nat) := h; omega⟩
  | succ d ih =>
    intro p
    unfold scn
    split <;> rename_i hp
    · have := ih (p + 1)
      refine ⟨by omega, by omega, fun i i0 i1 => ?_, fun h => this.2.2.2 (by omega)⟩
      by_cases hi : i = p
      · rw [hi]; exact hp
      · exact this.2.2.1 i (by omega) i1
    · exact ⟨by omega, by omega, fun i i0 i1 => by omega, fun _ => hp⟩
theorem sc_le {P : Int → Bool} {n p : Int} (h : p ≤ n) : p ≤ sc P n p ∧ sc P n p ≤ n ∧ (∀ i, p ≤ i → i < sc P n p → P i = true) ∧ (sc P n p < n → ¬ P (sc P n p) = true) := by
  have := scn_le (P := P) (n - p).toNat p
  unfold sc
  refine ⟨this.1, by omega, this.2.2.1, fun q => this.2.2.2 (by omega)⟩
def isB (f : Int → Int) (i : Int) : Bool := decide (f i = 10 ∨ f i = 32)
def isL (f : Int → Int) (i : Int) : Bool := decide (97 ≤ f i ∧ f i ≤ 122)
def isD (f : Int → Int) (i : Int) : Bool := decide (48 ≤ f i ∧ f i ≤ 57)
/-- numbers: as the class reads them, as the reference does -/
def nvC (f : Int → Int) (s : Int) : Nat → Int
  | 0 => 0
  | d + 1 => min 1000000 (nvC f s d * 10 + f (s + d) - 48)
def nvR (f : Int → Int) (s : Int) : Nat → Int
  | 0 => 0
  | d + 1 => if nvR f s d > 99999 then nvR f s d else 10 * nvR f s d + f (s + d) - 48
/-- both say the same of a number -/
def NmE (c r : Int) : Prop := c = r ∨ (c > 99999 ∧ r > 99999)
theorem nv_eq {f : Int → Int} {s : Int} : ∀ d : Nat, (∀ i : Nat, i < d → 48 ≤ f (s + i) ∧ f (s + i) ≤ 57) → NmE (nvC f s d) (nvR f s d) ∧ (0 ≤ nvC f s d ∧ nvC f s d ≤ 1000000) ∧ 0 ≤ nvR f s d ∧ nvR f s d ≤ 1000000 := by
  intro d
  induction d with
  | zero => exact fun _ => ⟨Or.inl rfl, ⟨Int.le_refl _, show (0 : Int) ≤ 1000000 by decide⟩, Int.le_refl _, show (0 : Int) ≤ 1000000 by decide⟩
  | succ d ih =>
    intro h
    obtain ⟨h1, h2, h3⟩ := ih fun i hi => h i (by omega)
    have hd := h d (by omega)
    unfold NmE at h1 ⊢
    unfold nvC nvR
    split <;> omega
/-- a byte of the words' table -/
def lgb (j : Int) : Int := sbyt 1 j.toNat
/-- the word of the language that stands at s, sz letters long: its number, or -1 -/
def wmS (f : Int → Int) (s : Int) (sz : Nat) (k : Int) : Bool := allN sz (fun i => decide (lgb (8 * k + i) = f (s + i))) && decide (lgb (8 * k + sz) = 32)
def wdS (f : Int → Int) (s sz : Int) : Int := if sz < 8 then fstN 18 (fun k => wmS f s sz.toNat k) else -1
abbrev Tk := Int × Int × Int × Int × Int
abbrev Tk.k (t : Tk) : Int := t.1
abbrev Tk.pl (t : Tk) : Int := t.2.1
abbrev Tk.sz (t : Tk) : Int := t.2.2.1
abbrev Tk.v (t : Tk) : Int := t.2.2.2.1
abbrev Tk.e (t : Tk) : Int := t.2.2.2.2
/-- the token behind p: kinds as the class numbers them -/
def tk (f : Int → Int) (n p : Int) : Tk :=
  let s := sc (isB f) n p
  if s < n then
    if isL f s = true then
      let e := sc (isL f) n s
      let w := wdS f s (e - s)
      ⟨if w < 0 then 2 else 1, s, e - s, w, e⟩
    else if isD f s = true then
      let e := sc (isD f) n s
      ⟨3, s, 0, nvC f s (e - s).toNat, e⟩
    else ⟨if sgN (f s) < 0 then (if f s = 45 then 5 else if f s = 59 then 6 else 7) else 4, s, 0, sgN (f s), s + 1⟩
  else ⟨0, s, 0, 0, s⟩
theorem tk_e {f : Int → Int} {n p : Int} (h : p ≤ n) : p ≤ (tk f n p).pl ∧ (tk f n p).pl ≤ (tk f n p).e ∧ (tk f n p).e ≤ n ∧ ((tk f n p).k ≠ 0 → p < (tk f n p).e) := by
  have h1 := sc_le (P := isB f) h
  unfold tk
  generalize sc (isB f) n p = s at h1
  by_cases hs : s < n
  · simp only [if_pos hs]
    by_cases hl : isL f s = true
    · simp only [if_pos hl]
      have h2 := sc_le (P := isL f) (show s ≤ n by omega)
      have h3 : sc (isL f) n s = sc (isL f) n (s + 1) := sc_t hs hl
      have h4 := sc_le (P := isL f) (show s + 1 ≤ n by omega)
      generalize sc (isL f) n s = e at *
      exact ⟨h1.1, h2.1, h2.2.1, fun _ => by show p < e; omega⟩
    · simp only [if_neg hl]
      by_cases hd : isD f s = true
      · simp only [if_pos hd]
        have h2 := sc_le (P := isD f) (show s ≤ n by omega)
        have h3 : sc (isD f) n s = sc (isD f) n (s + 1) := sc_t hs hd
        have h4 := sc_le (P := isD f) (show s + 1 ≤ n by omega)
        generalize sc (isD f) n s = e at *
        exact ⟨h1.1, h2.1, h2.2.1, fun _ => by show p < e; omega⟩
      · simp only [if_neg hd]
        exact ⟨h1.1, by show s ≤ s + 1; omega, by show s + 1 ≤ n; omega, fun _ => by show p < s + 1; omega⟩
  · simp only [if_neg hs]
    exact ⟨h1.1, Int.le_refl _, by show s ≤ n; omega, fun q => absurd rfl q⟩
theorem t_slot {i : Int} (h : 0 ≤ i ∧ i < 900) : shp 2 = 0 ∧ slot 2 i = some none := by
  have : ∀ i : Nat, i < 900 → slot 2 (i : Int) = some none := by decide +kernel
  obtain ⟨n, rfl⟩ := Int.eq_ofNat_of_zero_le h.1
  exact ⟨rfl, this n (by omega)⟩
/-- the class's scanner stands at p of a text -/
def ScC (f : Int → Int) (n : Int) (m : Mm) (p : Int) : Prop := m 3 3 = 2 ∧ m 3 4 = n ∧ m 3 5 = p ∧ (0 ≤ p ∧ p ≤ n ∧ n ≤ 900) ∧ ∀ i, 0 ≤ i → i < n → m 2 i = f i ∧ 0 ≤ f i ∧ f i < 256
/-- it holds a token -/
def HoC (m : Mm) (t : Tk) : Prop := m 3 6 = t.k ∧ m 3 7 = t.pl ∧ m 3 8 = t.sz ∧ m 3 9 = t.v
def f19 (m m' : Mm) : Prop := ∀ x k, ¬ (x = 3 ∧ 5 ≤ k ∧ k ≤ 9) → m' x k = m x k
theorem ScC.fr {f : Int → Int} {n p p' : Int} {m m' : Mm} (S : ScC f n m p) (h : f19 m m') (h5 : m' 3 5 = p') (hp : 0 ≤ p' ∧ p' ≤ n) : ScC f n m' p' := by
  obtain ⟨a, b, c, d, e⟩ := S
  refine ⟨by rw [h _ _ (by decide)]; exact a, by rw [h _ _ (by decide)]; exact b, h5, ⟨hp.1, hp.2, d.2.2⟩, fun i i0 i1 => by rw [h _ _ (by omega)]; exact e i i0 i1⟩
/-- the word's number(23) -/
theorem c23 {f : Int → Int} {n s sz : Int} {m : Mm} {K : Int → Mm → Prop} (h3 : m 3 3 = 2) (h7 : m 3 7 = s) (h8 : m 3 8 = sz) (hs : 0 ≤ s) (hz : 0 ≤ sz ∧ s + sz ≤ n) (hn : n ≤ 900) (hf : ∀ i, 0 ≤ i → i < n → m 2 i = f i) (kk : K (wdS f s sz) m) : TrI 23 [(1, 3)] m K := by
  unfold wdS at kk
  refine e23 ⟨fun q => ?_, fun q => ?_⟩
  · rw [h8] at q
    rw [if_pos q] at kk
    obtain ⟨z, rfl⟩ := Int.eq_ofNat_of_zero_le hz.1
    rw [Int.toNat_natCast] at kk
    have loop : ∀ (d k : Nat) (u : aV), k + d = 18 → (∀ i : Int, 0 ≤ i → i < k → ¬ wmS f s z i = true) → X 23 13 [(1, 3), (0, (k : Int)), u] [] m (qI K) := by
      intro d
      induction d with
      | zero =>
        intro k u hk hb
        refine w23_13 _ _ ⟨fun q => absurd q (by omega), fun _ => ?_⟩
        have : fstN 18 (fun k => wmS f s z k) = -1 := fstN_no fun i i0 i1 => Bool.eq_false_iff.mpr (hb i i0 (by omega))
        rw [this] at kk
        exact kk
      | succ d ih =>
        intro k u hk hb
        refine w23_13 _ _ ⟨fun _ => ?_, fun q => absurd (show (k : Int) < 18 by omega) q⟩
        have nxt : ∀ u, ¬ wmS f s z k = true → X 23 13 [(1, 3), (0, wr ((k : Int) + 1)), u] [] m (qI K) := fun u hw => by
          rw [wrI (by omega) (by omega)]
          refine ih (k + 1) u (by omega) fun i i0 i1 => ?_
          by_cases hi : i = k
          · rw [hi]; exact hw
          · exact hb i i0 (by omega)
        have lp : ∀ (d i : Nat), i + d = z → (∀ j : Int, 0 ≤ j → j < i → lgb (8 * k + j) = f (s + j)) → X 23 21 [(1, 3), (0, (k : Int)), (0, (i : Int))] [] m (qI K) := by
          intro d
          induction d with
          | zero =>
            intro i hi hj
            refine w23_21 _ _ ⟨fun q => absurd q (by omega), fun _ => ?_⟩
            refine w23_60 _ _ ⟨fun _ => ?_, fun q => absurd (show (i : Int) = m 3 8 by omega) q⟩
            rw [wrI (x := (k : Int) * 8) (by omega) (by omega), wrI (by omega) (by omega)]
            refine lgChar (by omega) ⟨fun h32 => ?_, fun h32 => nxt _ fun hw => ?_⟩
            · have hw : wmS f s z k = true := by
                unfold wmS
                rw [Bool.and_eq_true, allN_t, decide_eq_true_eq]
                refine ⟨fun j j0 j1 => decide_eq_true (hj j j0 (by omega)), ?_⟩
                rw [show 8 * (k : Int) + z = k * 8 + i by omega]
                exact h32
              have : fstN 18 (fun k => wmS f s z k) = k := fstN_is (by omega) (by omega) hw fun i i0 i1 => Bool.eq_false_iff.mpr (hb i i0 i1)
              rw [this] at kk
              exact kk
            · unfold wmS at hw
              rw [Bool.and_eq_true, decide_eq_true_eq] at hw
              refine h32 ?_
              have := hw.2
              rw [show 8 * (k : Int) + z = k * 8 + i by omega] at this
              exact this
          | succ d ih2 =>
            intro i hi hj
            refine w23_21 _ _ ⟨fun _ => ?_, fun q => absurd (show (i : Int) < m 3 8 by omega) q⟩
            rw [wrI (x := (k : Int) * 8) (by omega) (by omega), wrI (x := (k : Int) * 8 + i) (by omega) (by omega)]
            refine lgChar (by omega) ?_
            rw [h3, h7, wrI (x := s + (i : Int)) (by omega) (by omega), wrI (x := (i : Int) + 1) (by omega) (by omega), hf _ (by omega) (by omega)]
            refine ⟨t_slot (by omega), fun he => ?_, fun he => ?_⟩
            · refine ih2 (i + 1) (by omega) fun j j0 j1 => ?_
              by_cases h' : j = i
              · rw [h', show 8 * (k : Int) + i = k * 8 + i by omega]
                exact he
              · exact hj j j0 (by omega)
            · refine w23_60 _ _ ⟨fun q => absurd q (by omega), fun _ => nxt _ fun hw => ?_⟩
              unfold wmS at hw
              rw [Bool.and_eq_true, allN_t] at hw
              have := of_decide_eq_true (hw.1 i (by omega) (by omega))
              rw [show 8 * (k : Int) + i = k * 8 + i by omega] at this
              exact he this
        exact lp z 0 (by omega) fun j j0 j1 => by omega
    exact loop 18 0 _ (by omega) fun i i0 i1 => by omega
  · rw [h8] at q
    rw [if_neg q] at kk
    exact kk
