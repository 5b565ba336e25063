/-! the class reads a clause: the small methods -/
def OutR (bad' : Int → Int → Prop) (ok : Bk → Int → Prop) (r : Rs) : Prop := match r with
  | .inl q => bad' q.1 q.2
  | .inr q => ok q.1 q.2
def fC (t : Int) (m m' : Mm) : Prop := ∀ x k, x ≠ 3 → x ≠ 4 → ¬ (t ≤ x ∧ x < t + 102) → m' x k = m x k
def StC (f : Int → Int) (n : Int) (B : Bk) (t : Int) (m : Mm) (p : Int) : Prop := ScC f n m p ∧ m 3 0 = 0 ∧ m 3 1 = -1 ∧ TbC B m t
def FC (t : Int) (m : Mm) (K : Int → Mm → Prop) (c x : Int) : Prop := ∀ m', fC t m m' → m' 3 0 = c → m' 3 1 = x → K 0 m'
def GC (f : Int → Int) (n t : Int) (m : Mm) (K : Int → Mm → Prop) (B : Bk) (p : Int) : Prop := ∀ m', fC t m m' → StC f n B t m' p → K 1 m'
def OC (f : Int → Int) (n t : Int) (m : Mm) (K : Int → Mm → Prop) (r : Rs) : Prop := OutR (FC t m K) (GC f n t m K) r
section CLC
variable {f : Int → Int} {n p t : Int} {B : Bk} {m : Mm}
theorem fC.refl : fC t m m := fun _ _ _ _ _ => rfl
theorem fC.tr {m1 m2 : Mm} (h : fC t m m1) (h2 : fC t m1 m2) : fC t m m2 := fun x k a b c => (h2 x k a b c).trans (h x k a b c)
theorem f19.fC {m' : Mm} (h : f19 m m') : fC t m m' := fun x k a _ _ => h x k (by omega)
theorem OC.mv {m1 : Mm} {K : Int → Mm → Prop} {r : Rs} (h : OC f n t m K r) (g : fC t m m1) : OC f n t m1 K r := by
  unfold OC OutR at h ⊢
  cases r with
  | inl q => exact fun m' f' a b => h m' (g.tr f') a b
  | inr q => exact fun m' f' a => h m' (g.tr f') a
theorem OC.imp {K K' : Int → Mm → Prop} {r : Rs} (h : OC f n t m K r) (g : ∀ v m', (v = 0 ∨ v = 1) → K v m' → K' v m') : OC f n t m K' r := by
  unfold OC OutR at h ⊢
  cases r with
  | inl q => exact fun m' f' a b => g 0 m' (Or.inl rfl) (h m' f' a b)
  | inr q => exact fun m' f' a => g 1 m' (Or.inr rfl) (h m' f' a)
/-- as the rules want it -/
theorem OC.w {K : Int → Mm → Prop} {r : Rs} (h : OC f n t m K r) : OC f n t m (fun v m' => (v = 0 ∨ v = 1) ∧ K v m') r := h.imp fun _ _ a b => ⟨a, b⟩
theorem StC.fr {p' : Int} {m' : Mm} (S : StC f n B t m p) (ht : t = 6 ∨ t = 108) (h : f19 m m') (S' : ScC f n m' p') : StC f n B t m' p' := by
  have I1 := S.2.2.2.1.1
  have I2 := S.2.2.2.1.2.1
  exact ⟨S', by rw [h _ _ (by decide)]; exact S.2.1, by rw [h _ _ (by decide)]; exact S.2.2.1, S.2.2.2.fr fun x k hx => h x k (by omega)⟩
theorem StC.tt (S : StC f n B t m p) : t = 6 ∨ t = 108 := S.2.2.2.2.1.1
theorem StC.b (S : StC f n B t m p) : 0 ≤ p ∧ p ≤ n ∧ n ≤ 900 := S.1.2.2.2.1
/-- the step within a clause -/
theorem s19 {K : Mm → Prop} (S : StC f n B t m p) (kk : ∀ m', f19 m m' → StC f n B t m' (tk f n p).e → HoC m' (tk f n p) → K m') : TrV 19 [(1, 3)] m K :=
  c19 S.1 fun m' f' S' H => kk m' f' (S.fr S.tt f' S') H
theorem c42 {c x : Int} {K : Int → Mm → Prop} (h7 : m 3 7 = x) (kk : FC t m K c x) : TrI 42 [(1, 3), (0, c)] m K := by
  refine e42 _ fun m1 e1 m2 e2 => ?_
  have x7 : m1 3 7 = x := by rw [e1, um_k (by decide)]; exact h7
  rw [x7] at e2
  exact kk m2 (fun y k a _ _ => by rw [e2, um_x a, e1, um_x a]) (by rw [e2, um_k (by decide), e1, um_s]) (by rw [e2, um_s])
theorem FC.w {K : Int → Mm → Prop} {c x : Int} (h : FC t m K c x) : FC t m (fun v m' => (v = 0 ∨ v = 1) ∧ K v m') c x := fun m' a b d => ⟨Or.inl rfl, h m' a b d⟩
/-- as c46, c49 want it -/
theorem FC.z {K : Int → Mm → Prop} {c x : Int} (h : FC t m K c x) {P : Int → Mm → Prop} : FC t m (fun v m' => (v = 0 → K 0 m') ∧ (¬ v = 0 → P v m')) c x := fun m' a b d => ⟨fun _ => h m' a b d, fun q => absurd rfl q⟩
/-- what a clause's method may answer where the close comes behind it: 0 as the whole clause, 1 where the close does the rest -/
def KH (K Z : Int → Mm → Prop) : Prop := ∀ v m', (v = 0 ∨ v = 1) → (v = 0 → K 0 m') → (¬ v = 0 → TrI 49 [(1, 3)] m' K) → Z v m'
theorem KH.w {K Z : Int → Mm → Prop} (h : KH K Z) : KH K (fun v m' => (v = 0 ∨ v = 1) ∧ Z v m') := fun v m' a b c => ⟨a, h v m' a b c⟩
theorem KH.o {K Z : Int → Mm → Prop} (h : KH K Z) {m' : Mm} (g : TrI 49 [(1, 3)] m' K) : Z 1 m' := h 1 m' (Or.inr rfl) (fun q => absurd q (by decide)) fun _ => g
theorem KH.ft {K Z : Int → Mm → Prop} (h : KH K Z) {c x : Int} (g : FC t m K c x) : FC t m Z c x := fun m' a b d => h 0 m' (Or.inl rfl) (fun _ => g m' a b d) fun q => absurd rfl q
/-- the close(49) -/
theorem c49 {K : Int → Mm → Prop} (S : StC f n B t m p) (kk : OC f n t m K (clo f n B p)) : TrI 49 [(1, 3)] m K := by
  unfold clo at kk
  refine e49 (s19 S fun m1 f1 S1 H1 => ?_)
  rw [H1.1]
  refine ⟨fun h => ?_, fun h => ?_⟩
  · rw [if_pos h] at kk
    exact kk m1 f1.fC S1
  · rw [if_neg h] at kk
    have kk' : FC t m K 1 (tk f n p).pl := kk
    exact c42 (t := t) H1.2.1 (FC.z fun m' a b d => kk' m' (f1.fC.tr a) b d)
/-- a number(46) -/
theorem c46 {bd : Int} {K : Int → Mm → Prop} (H : HoC m (tk f n p)) (b1 : ¬ (tk f n p).k = 3 → FC t m K 1 (tk f n p).pl) (b2 : (tk f n p).k = 3 → (tk f n p).v > bd → FC t m K 2 (tk f n p).pl) (kk : (tk f n p).k = 3 → ¬ (tk f n p).v > bd → K 1 m) : TrI 46 [(1, 3), (0, bd)] m K := by
  refine e46 _ ?_
  rw [H.1, H.2.2.2]
  exact ⟨fun h => ⟨fun h2 => c42 (t := t) H.2.1 (FC.z (b2 h h2)), fun h2 => kk h h2⟩, fun h => c42 (t := t) H.2.1 (b1 h).w⟩
/-- a kind(51) -/
theorem c51 {K : Int → Mm → Prop} (h6 : m 3 6 = (tk f n p).k) (h9 : m 3 9 = (tk f n p).v) (hp : p ≤ n) (kk : K (kdS (tk f n p)) m) : TrI 51 [(1, 3)] m K := by
  have w := (tk_w (f := f) hp).2.2.2.1
  unfold kdS at kk
  refine e51 ?_
  rw [h6, h9]
  refine ⟨fun h => ?_, fun h => ?_⟩
  · have := w h
    rw [wrI (x := (tk f n p).v - 13) (by omega) (by omega)]
    refine ⟨fun h1 => ?_, fun h1 => ⟨fun h2 => ?_, fun h2 => ?_⟩⟩
    · rw [if_neg (by omega)] at kk
      exact kk
    · rw [if_pos (by omega)] at kk
      exact kk
    · rw [if_neg (by omega)] at kk
      exact kk
  · rw [if_neg (fun q => h q.1)] at kk
    exact kk
/-- a condition(45) -/
theorem c45 {who : Int} {K : Int → Mm → Prop} (hw : who = 0 ∨ who = 1) (S : ScC f n m (tk f n p).e) (hp : 0 ≤ p ∧ p ≤ n) (H : HoC m (tk f n p)) (kk : K (cdS f who (tk f n p)) m) : TrI 45 [(1, 3), (0, who)] m K := by
  have w := tk_w (f := f) hp.2
  have te := tk_e (f := f) hp.2
  unfold cdS at kk
  have rest : ¬ ((tk f n p).k = 2 ∧ (tk f n p).sz = 1) → X 45 31 [(1, 3), (0, who)] [] m (qI K) := fun hq => by
    rw [if_neg hq] at kk
    refine w45_31 _ ?_
    rw [H.1, H.2.2.2]
    refine ⟨fun h => ?_, fun h => ?_⟩
    · rw [if_pos h] at kk
      have := w.2.2.2.1 h
      refine ⟨fun q => ?_, fun q => ?_, fun q => ⟨fun q1 => ?_, fun q1 => ?_⟩, fun q => ?_, fun q => ?_, fun q => ⟨fun q1 => ?_, fun q1 => ?_⟩, fun q => ⟨fun q1 => ?_, fun q1 => ?_⟩⟩
      · rw [if_neg (by omega), if_neg (by omega), if_neg (by omega), if_neg (by omega), if_neg (by omega), if_neg (by omega)] at kk
        exact kk
      · rw [if_pos q] at kk
        exact kk
      · rw [if_neg (by omega), if_pos q, if_pos q1] at kk
        exact kk
      · rw [if_neg (by omega), if_pos q, if_neg q1] at kk
        exact kk
      · rw [if_neg (by omega), if_neg (by omega), if_pos q] at kk
        exact kk
      · rw [if_neg (by omega), if_neg (by omega), if_neg (by omega), if_pos q] at kk
        exact kk
      · rw [if_neg (by omega), if_neg (by omega), if_neg (by omega), if_neg (by omega), if_pos q, if_pos q1] at kk
        exact kk
      · rw [if_neg (by omega), if_neg (by omega), if_neg (by omega), if_neg (by omega), if_pos q, if_neg q1] at kk
        exact kk
      · rw [if_neg (by omega), if_neg (by omega), if_neg (by omega), if_neg (by omega), if_neg (by omega), if_pos q, if_pos q1] at kk
        exact kk
      · rw [if_neg (by omega), if_neg (by omega), if_neg (by omega), if_neg (by omega), if_neg (by omega), if_pos q, if_neg q1] at kk
        exact kk
    · rw [if_neg h] at kk
      exact kk
  refine e45 _ ?_
  rw [H.1, H.2.2.1]
  refine ⟨fun h => ⟨fun h1 => ?_, fun h1 => rest fun q => h1 q.2⟩, fun h => rest fun q => h q.1⟩
  have b := w.1 h
  have bs := S.2.2.2.1
  have g := S.2.2.2.2 (tk f n p).pl (by omega) (by omega)
  have l := b.2.2 (tk f n p).pl (Int.le_refl _) (by omega)
  rw [if_pos ⟨h, h1⟩] at kk
  rw [H.2.1, S.1, g.1, wrI (x := 4 + f (tk f n p).pl) (by omega) (by omega), wrI (by omega) (by omega)]
  exact ⟨t_slot (by omega), kk⟩
end CLC
