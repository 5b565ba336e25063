/-! the reference's scanner -/
def rkT (t : Tk) : Int := if t.k = 4 then 5 else if t.k = 5 then 6 else if t.k = 6 then 4 else if t.k = 2 ∧ t.sz > 8 then 7 else t.k
def ScR (f : Int → Int) (n : Int) (m : Mm) (p : Int) : Prop := m 597 3 = n ∧ m 597 8 = p ∧ (0 ≤ p ∧ p ≤ n ∧ n ≤ 900) ∧ ∀ i, 0 ≤ i → i < n → m 598 i = f i ∧ 0 ≤ f i ∧ f i < 256
def HoR (f : Int → Int) (m : Mm) (t : Tk) : Prop := m 597 11 = t.pl ∧ m 597 9 = rkT t ∧ (t.k = 1 ∨ t.k = 4 → m 597 10 = t.v) ∧ (t.k = 3 → NmE t.v (m 597 10) ∧ 0 ≤ m 597 10 ∧ m 597 10 ≤ 1000000) ∧ (rkT t = 2 → m 597 13 = t.sz ∧ ∀ i, 0 ≤ i → i < t.sz → m 601 i = f (t.pl + i) - 97)
def f170 (m m' : Mm) : Prop := ∀ x k, ¬ (x = 597 ∧ 8 ≤ k ∧ k ≤ 13) → x ≠ 601 → m' x k = m x k
def hsG (g : Int → Int) : Nat → Int
  | 0 => 0
  | d + 1 => hsG g d * 32 + g d
theorem hsG_rng {g : Int → Int} : ∀ d : Nat, (∀ i : Nat, i < d → 1 ≤ g i ∧ g i ≤ 26) → 0 ≤ hsG g d ∧ hsG g d < (32 : Int) ^ d ∧ (d ≠ 0 → 0 < hsG g d) := by
  intro d
  induction d with
  | zero => exact fun _ => ⟨Int.le_refl _, show (0 : Int) < (32 : Int) ^ 0 by decide, fun q => absurd rfl q⟩
  | succ d ih =>
    intro h
    have h1 := ih fun i hi => h i (by omega)
    have h2 := h d (by omega)
    rw [Int.pow_succ]
    unfold hsG
    refine ⟨by omega, by omega, fun _ => by omega⟩
theorem hs_bd {g : Int → Int} {d : Nat} (hd : d ≤ 7) (h : ∀ i : Nat, i < d → 1 ≤ g i ∧ g i ≤ 26) : 0 ≤ hsG g d ∧ hsG g d < 34359738368 := by
  have h1 := hsG_rng d h
  have h2 : ∀ d : Nat, d ≤ 7 → (32 : Int) ^ d ≤ 34359738368 := by decide
  have := h2 d hd
  omega
theorem hs_inj {g g' : Int → Int} : ∀ (a b : Nat), (∀ i : Nat, i < a → 1 ≤ g i ∧ g i ≤ 26) → (∀ i : Nat, i < b → 1 ≤ g' i ∧ g' i ≤ 26) → hsG g a = hsG g' b → a = b ∧ ∀ i : Nat, i < a → g i = g' i := by
  intro a
  induction a with
  | zero =>
    intro b _ h2 he
    have := (hsG_rng b h2).2.2
    have e0 : hsG g 0 = 0 := rfl
    refine ⟨Classical.byContradiction fun q => ?_, fun i hi => absurd hi (by omega)⟩
    have := this fun q' => q q'.symm
    omega
  | succ a ih =>
    intro b h1 h2 he
    cases b with
    | zero =>
      have := (hsG_rng (a + 1) h1).2.2 (by omega)
      have e0 : hsG g' 0 = 0 := rfl
      omega
    | succ b =>
      have x1 := h1 a (by omega)
      have x2 := h2 b (by omega)
      have he' : hsG g a * 32 + g a = hsG g' b * 32 + g' b := he
      have hl : g a = g' b := by omega
      obtain ⟨r1, r2⟩ := ih b (fun i hi => h1 i (by omega)) (fun i hi => h2 i (by omega)) (by omega)
      subst r1
      refine ⟨rfl, fun i hi => ?_⟩
      by_cases hia : i = a
      · rw [hia]; exact hl
      · exact r2 i (by omega)
theorem hsG_congr {g g' : Int → Int} : ∀ d : Nat, (∀ i : Nat, i < d → g i = g' i) → hsG g d = hsG g' d := by
  intro d
  induction d with
  | zero => exact fun _ => rfl
  | succ d ih =>
    intro h
    unfold hsG
    rw [ih fun i hi => h i (by omega), h d (by omega)]
def wLn (k : Nat) : Nat := (fstN 8 fun j => decide (lgb (8 * (k : Int) + j) = 32)).toNat
theorem w_tab : ∀ k : Nat, k < 18 → (wLn k < 8 ∧ lgb (8 * (k : Int) + (wLn k : Nat)) = 32) ∧ (∀ i : Nat, i < wLn k → 97 ≤ lgb (8 * (k : Int) + (i : Int)) ∧ lgb (8 * (k : Int) + (i : Int)) ≤ 122) ∧ cs 599 (k : Int) = hsG (fun i => lgb (8 * (k : Int) + i) - 96) (wLn k) ∧ cs 599 (k : Int) ≠ 0 := by decide +kernel
theorem wm_hs {f : Int → Int} {s : Int} {z k : Nat} (hk : k < 18) (hf : ∀ i : Nat, i < z → 97 ≤ f (s + i) ∧ f (s + i) ≤ 122) : wmS f s z k = true ↔ cs 599 (k : Int) = hsG (fun i => f (s + i) - 96) z := by
  obtain ⟨⟨t1, t2⟩, t3, t4, -⟩ := w_tab k hk
  unfold wmS
  rw [Bool.and_eq_true, allN_t, decide_eq_true_eq]
  constructor
  · rintro ⟨h1, h2⟩
    have hz : z = wLn k := by
      refine Classical.byContradiction fun q => ?_
      by_cases hlt : z < wLn k
      · have := t3 z hlt
        omega
      · have a := of_decide_eq_true (h1 (wLn k) (by omega) (by omega))
        have b := hf (wLn k) (by omega)
        omega
    rw [t4, ← hz]
    refine hsG_congr z fun i hi => ?_
    have := of_decide_eq_true (h1 i (by omega) (by omega))
    show lgb _ - 96 = f _ - 96
    rw [this]
  · intro he
    rw [t4] at he
    obtain ⟨r1, r2⟩ := hs_inj (wLn k) z (fun i hi => by have := t3 i hi; show 1 ≤ lgb _ - 96 ∧ lgb _ - 96 ≤ 26; omega) (fun i hi => by have := hf i hi; show 1 ≤ f _ - 96 ∧ f _ - 96 ≤ 26; omega) he
    rw [← r1]
    refine ⟨fun i i0 i1 => ?_, t2⟩
    obtain ⟨j, rfl⟩ := Int.eq_ofNat_of_zero_le i0
    have := r2 j (by omega)
    refine decide_eq_true ?_
    have e : lgb (8 * (k : Int) + (j : Int)) - 96 = f (s + (j : Int)) - 96 := this
    omega
theorem lcmp0 {x y : Int} : lcmp x y = 0 ↔ x = y := by
  unfold lcmp
  split
  · omega
  · split <;> omega
section RSC
variable {f : Int → Int} {n p s : Int} {m : Mm}
theorem c174 {e : Int} {K : Int → Mm → Prop} (hs : 0 ≤ s ∧ s ≤ e) (he : e ≤ n) (hn : n ≤ 900) (hf : ∀ i, 0 ≤ i → i < n → m 598 i = f i) (hl : ∀ i, s ≤ i → i < e → 97 ≤ f i ∧ f i ≤ 122) (kk : K (wdS f s (e - s)) m) : TrI 174 [(1, 597), (0, s), (0, e)] m K := by
  have tail : ∀ (h : Int), (∀ k : Nat, k < 18 → (lcmp (cs 599 (k : Int)) h = 0 ↔ (e - s < 8 ∧ wmS f s (e - s).toNat k = true))) → ∀ (d k : Nat), k + d = 18 → (∀ i : Int, 0 ≤ i → i < k → ¬ (e - s < 8 ∧ wmS f s (e - s).toNat i = true)) → X 174 47 [(1, 597), (0, s), (0, e), (2, h), (9, 0), (0, (k : Int))] [] m (qI K) := by
    intro h hh d
    unfold wdS at kk
    induction d with
    | zero =>
      intro k hk hb
      refine w174_47 _ _ _ _ ⟨fun _ => ?_, fun q => absurd (show (k : Int) > 17 by omega) q⟩
      by_cases hz : e - s < 8
      · rw [if_pos hz, fstN_no fun i i0 i1 => Bool.eq_false_iff.mpr fun q => hb i i0 (by omega) ⟨hz, q⟩] at kk
        exact kk
      · rw [if_neg hz] at kk
        exact kk
    | succ d ih =>
      intro k hk hb
      refine w174_47 _ _ _ _ ⟨fun q => absurd q (by omega), fun _ => ⟨by omega, fun q => ?_, fun q => ?_⟩⟩
      · obtain ⟨q1, q2⟩ := (hh k (by omega)).mp q
        rw [if_pos q1, fstN_is (by omega) (by omega) q2 fun i i0 i1 => Bool.eq_false_iff.mpr fun q => hb i i0 i1 ⟨q1, q⟩] at kk
        exact kk
      · rw [wrI (x := (k : Int) + 1) (by omega) (by omega)]
        refine ih (k + 1) (by omega) fun i i0 i1 => ?_
        by_cases hi : i = k
        · rw [hi]; exact fun z => q ((hh k (by omega)).mpr z)
        · exact hb i i0 (by omega)
  refine e174 _ _ ?_
  by_cases hz : e - s < 8
  · have hf' : ∀ i : Nat, i < (e - s).toNat → 97 ≤ f (s + i) ∧ f (s + i) ≤ 122 := fun i hi => hl _ (by omega) (by omega)
    have loop : ∀ (d i : Nat), i + d = (e - s).toNat → X 174 5 [(1, 597), (0, s), (0, e), (2, hsG (fun i => f (s + i) - 96) i), (9, 0), (0, s + (i : Int))] [] m (qI K) := by
      intro d
      induction d with
      | zero =>
        intro i hi
        refine w174_5 _ _ _ _ ⟨fun q => absurd q (by omega), fun _ => ?_⟩
        have := tail (hsG (fun i => f (s + i) - 96) i) (fun k hk => ?_) 18 0 (by omega) fun i i0 i1 => by omega
        · exact this
        · rw [lcmp0, show i = (e - s).toNat by omega]
          exact ⟨fun q => ⟨hz, (wm_hs hk hf').mpr q⟩, fun q => (wm_hs hk hf').mp q.2⟩
      | succ d ih =>
        intro i hi
        have b := hs_bd (g := fun i => f (s + i) - 96) (d := i) (by omega) fun j hj => by have := hf' j (by omega); show 1 ≤ f _ - 96 ∧ f _ - 96 ≤ 26; omega
        have c := hf' i (by omega)
        refine w174_5 _ _ _ _ ⟨fun _ => ?_, fun q => absurd (show s + (i : Int) < e by omega) q⟩
        rw [wrI (x := e - s) (by omega) (by omega)]
        refine ⟨fun _ => ⟨by omega, ?_⟩, fun q => absurd hz q⟩
        rw [hf _ (by omega) (by omega)]
        have := ih (i + 1) (by omega)
        rw [wlI (x := hsG (fun i => f (s + i) - 96) i * 32) (by omega) (by omega), wlI (x := hsG (fun i => f (s + i) - 96) i * 32 + f (s + i)) (by omega) (by omega), wlI (by omega) (by omega), wrI (x := s + (i : Int) + 1) (by omega) (by omega)]
        rw [show s + (i : Int) + 1 = s + ((i + 1 : Nat) : Int) by omega, show hsG (fun i => f (s + i) - 96) i * 32 + f (s + i) - 96 = hsG (fun i => f (s + i) - 96) i * 32 + (f (s + i) - 96) by omega]
        exact this
    have := loop (e - s).toNat 0 (by omega)
    rw [show s + ((0 : Nat) : Int) = s by omega] at this
    exact this
  · have t0 := tail 0 (fun k hk => by
      rw [lcmp0]
      exact ⟨fun q => absurd q (w_tab k hk).2.2.2, fun q => absurd q.1 hz⟩) 18 0 (by omega) fun i i0 i1 => by omega
    refine w174_5 _ _ _ _ ⟨fun _ => ?_, fun q => absurd (show s < e by omega) q⟩
    rw [wrI (x := e - s) (by omega) (by omega)]
    exact ⟨fun q => absurd q hz, fun _ => t0⟩
end RSC
