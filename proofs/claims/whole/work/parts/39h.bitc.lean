/-! Integer.bitCount(157): printed by wip/whole/gen39h.py -/
set_option maxRecDepth 100000 in
theorem w157_0 {m : Mm} {K : Int → Mm → Prop} (a0 : Int) 
  (H : K (iand (wr ((wr ((iand (wr ((wr ((iand (wr (a0 - (iand (iushr a0 1) 1431655765))) 858993459) + (iand (iushr (wr (a0 - (iand (iushr a0 1) 1431655765))) 2) 858993459))) + (iushr (wr ((iand (wr (a0 - (iand (iushr a0 1) 1431655765))) 858993459) + (iand (iushr (wr (a0 - (iand (iushr a0 1) 1431655765))) 2) 858993459))) 4))) 252645135) + (iushr (iand (wr ((wr ((iand (wr (a0 - (iand (iushr a0 1) 1431655765))) 858993459) + (iand (iushr (wr (a0 - (iand (iushr a0 1) 1431655765))) 2) 858993459))) + (iushr (wr ((iand (wr (a0 - (iand (iushr a0 1) 1431655765))) 858993459) + (iand (iushr (wr (a0 - (iand (iushr a0 1) 1431655765))) 2) 858993459))) 4))) 252645135) 8))) + (iushr (wr ((iand (wr ((wr ((iand (wr (a0 - (iand (iushr a0 1) 1431655765))) 858993459) + (iand (iushr (wr (a0 - (iand (iushr a0 1) 1431655765))) 2) 858993459))) + (iushr (wr ((iand (wr (a0 - (iand (iushr a0 1) 1431655765))) 858993459) + (iand (iushr (wr (a0 - (iand (iushr a0 1) 1431655765))) 2) 858993459))) 4))) 252645135) + (iushr (iand (wr ((wr ((iand (wr (a0 - (iand (iushr a0 1) 1431655765))) 858993459) + (iand (iushr (wr (a0 - (iand (iushr a0 1) 1431655765))) 2) 858993459))) + (iushr (wr ((iand (wr (a0 - (iand (iushr a0 1) 1431655765))) 858993459) + (iand (iushr (wr (a0 - (iand (iushr a0 1) 1431655765))) 2) 858993459))) 4))) 252645135) 8))) 16))) 63) m) : X 157 0 [(0, a0)] [] m (qI K) := by
  refine x_s (q := (.iload_n 0, 0, 0, 0)) (cod_157 rfl) rfl rfl rfl ?_
  refine x_s (q := (.iload_n 0, 0, 0, 0)) (cod_157 rfl) rfl rfl rfl ?_
  refine x_s (q := (.iconst 1, 0, 0, 0)) (cod_157 rfl) rfl rfl rfl ?_
  refine x_s (q := (.iushr, 0, 0, 0)) (cod_157 rfl) rfl rfl rfl ?_
  show X 157 4 [(0, a0)] [(0, iushr a0 1), (0, a0)] m _
  refine x_s (q := (.ldc_w 265, 1431655765, 0, 0)) (cod_157 rfl) rfl rfl rfl ?_
  refine x_s (q := (.iand, 0, 0, 0)) (cod_157 rfl) rfl rfl rfl ?_
  show X 157 8 [(0, a0)] [(0, iand (iushr a0 1) 1431655765), (0, a0)] m _
  refine x_s (q := (.isub, 0, 0, 0)) (cod_157 rfl) rfl rfl rfl ?_
  refine x_s (q := (.istore_n 0, 0, 0, 0)) (cod_157 rfl) rfl rfl rfl ?_
  refine x_s (q := (.iload_n 0, 0, 0, 0)) (cod_157 rfl) rfl rfl rfl ?_
  refine x_s (q := (.ldc_w 266, 858993459, 0, 0)) (cod_157 rfl) rfl rfl rfl ?_
  refine x_s (q := (.iand, 0, 0, 0)) (cod_157 rfl) rfl rfl rfl ?_
  show X 157 15 [(0, wr (a0 - (iand (iushr a0 1) 1431655765)))] [(0, iand (wr (a0 - (iand (iushr a0 1) 1431655765))) 858993459)] m _
  refine x_s (q := (.iload_n 0, 0, 0, 0)) (cod_157 rfl) rfl rfl rfl ?_
  refine x_s (q := (.iconst 2, 0, 0, 0)) (cod_157 rfl) rfl rfl rfl ?_
  refine x_s (q := (.iushr, 0, 0, 0)) (cod_157 rfl) rfl rfl rfl ?_
  show X 157 18 [(0, wr (a0 - (iand (iushr a0 1) 1431655765)))] [(0, iushr (wr (a0 - (iand (iushr a0 1) 1431655765))) 2), (0, iand (wr (a0 - (iand (iushr a0 1) 1431655765))) 858993459)] m _
  refine x_s (q := (.ldc_w 266, 858993459, 0, 0)) (cod_157 rfl) rfl rfl rfl ?_
  refine x_s (q := (.iand, 0, 0, 0)) (cod_157 rfl) rfl rfl rfl ?_
  show X 157 22 [(0, wr (a0 - (iand (iushr a0 1) 1431655765)))] [(0, iand (iushr (wr (a0 - (iand (iushr a0 1) 1431655765))) 2) 858993459), (0, iand (wr (a0 - (iand (iushr a0 1) 1431655765))) 858993459)] m _
  refine x_s (q := (.iadd, 0, 0, 0)) (cod_157 rfl) rfl rfl rfl ?_
  refine x_s (q := (.istore_n 0, 0, 0, 0)) (cod_157 rfl) rfl rfl rfl ?_
  refine x_s (q := (.iload_n 0, 0, 0, 0)) (cod_157 rfl) rfl rfl rfl ?_
  refine x_s (q := (.iload_n 0, 0, 0, 0)) (cod_157 rfl) rfl rfl rfl ?_
  refine x_s (q := (.iconst 4, 0, 0, 0)) (cod_157 rfl) rfl rfl rfl ?_
  refine x_s (q := (.iushr, 0, 0, 0)) (cod_157 rfl) rfl rfl rfl ?_
  show X 157 28 [(0, wr ((iand (wr (a0 - (iand (iushr a0 1) 1431655765))) 858993459) + (iand (iushr (wr (a0 - (iand (iushr a0 1) 1431655765))) 2) 858993459)))] [(0, iushr (wr ((iand (wr (a0 - (iand (iushr a0 1) 1431655765))) 858993459) + (iand (iushr (wr (a0 - (iand (iushr a0 1) 1431655765))) 2) 858993459))) 4), (0, wr ((iand (wr (a0 - (iand (iushr a0 1) 1431655765))) 858993459) + (iand (iushr (wr (a0 - (iand (iushr a0 1) 1431655765))) 2) 858993459)))] m _
  refine x_s (q := (.iadd, 0, 0, 0)) (cod_157 rfl) rfl rfl rfl ?_
  refine x_s (q := (.ldc_w 267, 252645135, 0, 0)) (cod_157 rfl) rfl rfl rfl ?_
  refine x_s (q := (.iand, 0, 0, 0)) (cod_157 rfl) rfl rfl rfl ?_
  show X 157 33 [(0, wr ((iand (wr (a0 - (iand (iushr a0 1) 1431655765))) 858993459) + (iand (iushr (wr (a0 - (iand (iushr a0 1) 1431655765))) 2) 858993459)))] [(0, iand (wr ((wr ((iand (wr (a0 - (iand (iushr a0 1) 1431655765))) 858993459) + (iand (iushr (wr (a0 - (iand (iushr a0 1) 1431655765))) 2) 858993459))) + (iushr (wr ((iand (wr (a0 - (iand (iushr a0 1) 1431655765))) 858993459) + (iand (iushr (wr (a0 - (iand (iushr a0 1) 1431655765))) 2) 858993459))) 4))) 252645135)] m _
  refine x_s (q := (.istore_n 0, 0, 0, 0)) (cod_157 rfl) rfl rfl rfl ?_
  refine x_s (q := (.iload_n 0, 0, 0, 0)) (cod_157 rfl) rfl rfl rfl ?_
  refine x_s (q := (.iload_n 0, 0, 0, 0)) (cod_157 rfl) rfl rfl rfl ?_
  refine x_s (q := (.bipush 8, 0, 0, 0)) (cod_157 rfl) rfl rfl rfl ?_
  refine x_s (q := (.iushr, 0, 0, 0)) (cod_157 rfl) rfl rfl rfl ?_
  show X 157 39 [(0, iand (wr ((wr ((iand (wr (a0 - (iand (iushr a0 1) 1431655765))) 858993459) + (iand (iushr (wr (a0 - (iand (iushr a0 1) 1431655765))) 2) 858993459))) + (iushr (wr ((iand (wr (a0 - (iand (iushr a0 1) 1431655765))) 858993459) + (iand (iushr (wr (a0 - (iand (iushr a0 1) 1431655765))) 2) 858993459))) 4))) 252645135)] [(0, iushr (iand (wr ((wr ((iand (wr (a0 - (iand (iushr a0 1) 1431655765))) 858993459) + (iand (iushr (wr (a0 - (iand (iushr a0 1) 1431655765))) 2) 858993459))) + (iushr (wr ((iand (wr (a0 - (iand (iushr a0 1) 1431655765))) 858993459) + (iand (iushr (wr (a0 - (iand (iushr a0 1) 1431655765))) 2) 858993459))) 4))) 252645135) 8), (0, iand (wr ((wr ((iand (wr (a0 - (iand (iushr a0 1) 1431655765))) 858993459) + (iand (iushr (wr (a0 - (iand (iushr a0 1) 1431655765))) 2) 858993459))) + (iushr (wr ((iand (wr (a0 - (iand (iushr a0 1) 1431655765))) 858993459) + (iand (iushr (wr (a0 - (iand (iushr a0 1) 1431655765))) 2) 858993459))) 4))) 252645135)] m _
  refine x_s (q := (.iadd, 0, 0, 0)) (cod_157 rfl) rfl rfl rfl ?_
  refine x_s (q := (.istore_n 0, 0, 0, 0)) (cod_157 rfl) rfl rfl rfl ?_
  refine x_s (q := (.iload_n 0, 0, 0, 0)) (cod_157 rfl) rfl rfl rfl ?_
  refine x_s (q := (.iload_n 0, 0, 0, 0)) (cod_157 rfl) rfl rfl rfl ?_
  refine x_s (q := (.bipush 16, 0, 0, 0)) (cod_157 rfl) rfl rfl rfl ?_
  refine x_s (q := (.iushr, 0, 0, 0)) (cod_157 rfl) rfl rfl rfl ?_
  show X 157 46 [(0, wr ((iand (wr ((wr ((iand (wr (a0 - (iand (iushr a0 1) 1431655765))) 858993459) + (iand (iushr (wr (a0 - (iand (iushr a0 1) 1431655765))) 2) 858993459))) + (iushr (wr ((iand (wr (a0 - (iand (iushr a0 1) 1431655765))) 858993459) + (iand (iushr (wr (a0 - (iand (iushr a0 1) 1431655765))) 2) 858993459))) 4))) 252645135) + (iushr (iand (wr ((wr ((iand (wr (a0 - (iand (iushr a0 1) 1431655765))) 858993459) + (iand (iushr (wr (a0 - (iand (iushr a0 1) 1431655765))) 2) 858993459))) + (iushr (wr ((iand (wr (a0 - (iand (iushr a0 1) 1431655765))) 858993459) + (iand (iushr (wr (a0 - (iand (iushr a0 1) 1431655765))) 2) 858993459))) 4))) 252645135) 8)))] [(0, iushr (wr ((iand (wr ((wr ((iand (wr (a0 - (iand (iushr a0 1) 1431655765))) 858993459) + (iand (iushr (wr (a0 - (iand (iushr a0 1) 1431655765))) 2) 858993459))) + (iushr (wr ((iand (wr (a0 - (iand (iushr a0 1) 1431655765))) 858993459) + (iand (iushr (wr (a0 - (iand (iushr a0 1) 1431655765))) 2) 858993459))) 4))) 252645135) + (iushr (iand (wr ((wr ((iand (wr (a0 - (iand (iushr a0 1) 1431655765))) 858993459) + (iand (iushr (wr (a0 - (iand (iushr a0 1) 1431655765))) 2) 858993459))) + (iushr (wr ((iand (wr (a0 - (iand (iushr a0 1) 1431655765))) 858993459) + (iand (iushr (wr (a0 - (iand (iushr a0 1) 1431655765))) 2) 858993459))) 4))) 252645135) 8))) 16), (0, wr ((iand (wr ((wr ((iand (wr (a0 - (iand (iushr a0 1) 1431655765))) 858993459) + (iand (iushr (wr (a0 - (iand (iushr a0 1) 1431655765))) 2) 858993459))) + (iushr (wr ((iand (wr (a0 - (iand (iushr a0 1) 1431655765))) 858993459) + (iand (iushr (wr (a0 - (iand (iushr a0 1) 1431655765))) 2) 858993459))) 4))) 252645135) + (iushr (iand (wr ((wr ((iand (wr (a0 - (iand (iushr a0 1) 1431655765))) 858993459) + (iand (iushr (wr (a0 - (iand (iushr a0 1) 1431655765))) 2) 858993459))) + (iushr (wr ((iand (wr (a0 - (iand (iushr a0 1) 1431655765))) 858993459) + (iand (iushr (wr (a0 - (iand (iushr a0 1) 1431655765))) 2) 858993459))) 4))) 252645135) 8)))] m _
  refine x_s (q := (.iadd, 0, 0, 0)) (cod_157 rfl) rfl rfl rfl ?_
  refine x_s (q := (.istore_n 0, 0, 0, 0)) (cod_157 rfl) rfl rfl rfl ?_
  refine x_s (q := (.iload_n 0, 0, 0, 0)) (cod_157 rfl) rfl rfl rfl ?_
  refine x_s (q := (.bipush 63, 0, 0, 0)) (cod_157 rfl) rfl rfl rfl ?_
  refine x_s (q := (.iand, 0, 0, 0)) (cod_157 rfl) rfl rfl rfl ?_
  show X 157 52 [(0, wr ((wr ((iand (wr ((wr ((iand (wr (a0 - (iand (iushr a0 1) 1431655765))) 858993459) + (iand (iushr (wr (a0 - (iand (iushr a0 1) 1431655765))) 2) 858993459))) + (iushr (wr ((iand (wr (a0 - (iand (iushr a0 1) 1431655765))) 858993459) + (iand (iushr (wr (a0 - (iand (iushr a0 1) 1431655765))) 2) 858993459))) 4))) 252645135) + (iushr (iand (wr ((wr ((iand (wr (a0 - (iand (iushr a0 1) 1431655765))) 858993459) + (iand (iushr (wr (a0 - (iand (iushr a0 1) 1431655765))) 2) 858993459))) + (iushr (wr ((iand (wr (a0 - (iand (iushr a0 1) 1431655765))) 858993459) + (iand (iushr (wr (a0 - (iand (iushr a0 1) 1431655765))) 2) 858993459))) 4))) 252645135) 8))) + (iushr (wr ((iand (wr ((wr ((iand (wr (a0 - (iand (iushr a0 1) 1431655765))) 858993459) + (iand (iushr (wr (a0 - (iand (iushr a0 1) 1431655765))) 2) 858993459))) + (iushr (wr ((iand (wr (a0 - (iand (iushr a0 1) 1431655765))) 858993459) + (iand (iushr (wr (a0 - (iand (iushr a0 1) 1431655765))) 2) 858993459))) 4))) 252645135) + (iushr (iand (wr ((wr ((iand (wr (a0 - (iand (iushr a0 1) 1431655765))) 858993459) + (iand (iushr (wr (a0 - (iand (iushr a0 1) 1431655765))) 2) 858993459))) + (iushr (wr ((iand (wr (a0 - (iand (iushr a0 1) 1431655765))) 858993459) + (iand (iushr (wr (a0 - (iand (iushr a0 1) 1431655765))) 2) 858993459))) 4))) 252645135) 8))) 16)))] [(0, iand (wr ((wr ((iand (wr ((wr ((iand (wr (a0 - (iand (iushr a0 1) 1431655765))) 858993459) + (iand (iushr (wr (a0 - (iand (iushr a0 1) 1431655765))) 2) 858993459))) + (iushr (wr ((iand (wr (a0 - (iand (iushr a0 1) 1431655765))) 858993459) + (iand (iushr (wr (a0 - (iand (iushr a0 1) 1431655765))) 2) 858993459))) 4))) 252645135) + (iushr (iand (wr ((wr ((iand (wr (a0 - (iand (iushr a0 1) 1431655765))) 858993459) + (iand (iushr (wr (a0 - (iand (iushr a0 1) 1431655765))) 2) 858993459))) + (iushr (wr ((iand (wr (a0 - (iand (iushr a0 1) 1431655765))) 858993459) + (iand (iushr (wr (a0 - (iand (iushr a0 1) 1431655765))) 2) 858993459))) 4))) 252645135) 8))) + (iushr (wr ((iand (wr ((wr ((iand (wr (a0 - (iand (iushr a0 1) 1431655765))) 858993459) + (iand (iushr (wr (a0 - (iand (iushr a0 1) 1431655765))) 2) 858993459))) + (iushr (wr ((iand (wr (a0 - (iand (iushr a0 1) 1431655765))) 858993459) + (iand (iushr (wr (a0 - (iand (iushr a0 1) 1431655765))) 2) 858993459))) 4))) 252645135) + (iushr (iand (wr ((wr ((iand (wr (a0 - (iand (iushr a0 1) 1431655765))) 858993459) + (iand (iushr (wr (a0 - (iand (iushr a0 1) 1431655765))) 2) 858993459))) + (iushr (wr ((iand (wr (a0 - (iand (iushr a0 1) 1431655765))) 858993459) + (iand (iushr (wr (a0 - (iand (iushr a0 1) 1431655765))) 2) 858993459))) 4))) 252645135) 8))) 16))) 63)] m _
  refine x_retI (t := .int) (cod_157 rfl) rfl rfl rfl ?_
  exact H
theorem e157 {m : Mm} {K : Int → Mm → Prop} (a0 : Int) 
  (H : K (iand (wr ((wr ((iand (wr ((wr ((iand (wr (a0 - (iand (iushr a0 1) 1431655765))) 858993459) + (iand (iushr (wr (a0 - (iand (iushr a0 1) 1431655765))) 2) 858993459))) + (iushr (wr ((iand (wr (a0 - (iand (iushr a0 1) 1431655765))) 858993459) + (iand (iushr (wr (a0 - (iand (iushr a0 1) 1431655765))) 2) 858993459))) 4))) 252645135) + (iushr (iand (wr ((wr ((iand (wr (a0 - (iand (iushr a0 1) 1431655765))) 858993459) + (iand (iushr (wr (a0 - (iand (iushr a0 1) 1431655765))) 2) 858993459))) + (iushr (wr ((iand (wr (a0 - (iand (iushr a0 1) 1431655765))) 858993459) + (iand (iushr (wr (a0 - (iand (iushr a0 1) 1431655765))) 2) 858993459))) 4))) 252645135) 8))) + (iushr (wr ((iand (wr ((wr ((iand (wr (a0 - (iand (iushr a0 1) 1431655765))) 858993459) + (iand (iushr (wr (a0 - (iand (iushr a0 1) 1431655765))) 2) 858993459))) + (iushr (wr ((iand (wr (a0 - (iand (iushr a0 1) 1431655765))) 858993459) + (iand (iushr (wr (a0 - (iand (iushr a0 1) 1431655765))) 2) 858993459))) 4))) 252645135) + (iushr (iand (wr ((wr ((iand (wr (a0 - (iand (iushr a0 1) 1431655765))) 858993459) + (iand (iushr (wr (a0 - (iand (iushr a0 1) 1431655765))) 2) 858993459))) + (iushr (wr ((iand (wr (a0 - (iand (iushr a0 1) 1431655765))) 858993459) + (iand (iushr (wr (a0 - (iand (iushr a0 1) 1431655765))) 2) 858993459))) 4))) 252645135) 8))) 16))) 63) m) : TrI 157 [(0, a0)] m K := by
  exact w157_0 a0 H
def bc1 (a : Int) : Int := wr (a - (iand (iushr a 1) 1431655765))
def bc2 (a : Int) : Int := wr ((iand (bc1 a) 858993459) + (iand (iushr (bc1 a) 2) 858993459))
def bc3 (a : Int) : Int := iand (wr ((bc2 a) + (iushr (bc2 a) 4))) 252645135
def bc4 (a : Int) : Int := wr ((bc3 a) + (iushr (bc3 a) 8))
def bc5 (a : Int) : Int := wr ((bc4 a) + (iushr (bc4 a) 16))
def bcJ (a : Int) : Int := iand (bc5 a) 63
theorem c157 {m : Mm} {K : Int → Mm → Prop} {a : Int} (kk : K (bcJ a) m) : TrI 157 [(0, a)] m K := e157 a kk
/-- the reference's many(198) -/
def mnJ (a : Int) : Nat → Int
  | 0 => 0
  | n + 1 => wr (mnJ a n + iand (ishr a n) 1)
theorem c198 {m : Mm} {K : Int → Mm → Prop} {a : Int} (kk : K (mnJ a 31) m) : TrI 198 [(0, a)] m K := by
  refine e198 _ ?_
  have loop : ∀ (n i : Nat), i + n = 31 → X 198 4 [(0, a), (0, mnJ a i), (0, (i : Int))] [] m (qI K) := by
    intro n
    induction n with
    | zero =>
      intro i hi
      refine w198_4 _ _ _ ⟨fun h => absurd h (by omega), fun _ => ?_⟩
      rw [show i = 31 by omega]
      exact kk
    | succ n ih =>
      intro i hi
      refine w198_4 _ _ _ ⟨fun _ => ?_, fun h => absurd (show (i : Int) < 31 by omega) h⟩
      rw [wrI (x := (i : Int) + 1) (by omega) (by omega)]
      exact ih (i + 1) (by omega)
  exact loop 31 0 (by decide)
theorem bc_mn : ∀ n : Nat, n < 1024 → bcJ (n : Int) = mnJ (n : Int) 31 := by decide +kernel
theorem or_add : ∀ n : Nat, n < 10 → ∀ x : Nat, x < 2 ^ n → ior (x : Int) (ishl 1 (n : Int)) = (x : Int) + (2 ^ n : Nat) := by decide +kernel
/-- bits of a row of yes and no -/
def fxB (f : Int → Bool) : Nat → Int
  | 0 => 0
  | n + 1 => if f n = true then ior (fxB f n) (ishl 1 n) else fxB f n
theorem fxB_lt {f : Int → Bool} : ∀ n : Nat, n ≤ 10 → ∃ x : Nat, x < 2 ^ n ∧ fxB f n = (x : Int) := by
  intro n
  induction n with
  | zero => intro _; exact ⟨0, by decide, rfl⟩
  | succ n ih =>
    intro hn
    obtain ⟨x, hx, e⟩ := ih (by omega)
    have hp : 2 ^ (n + 1) = 2 ^ n + 2 ^ n := by rw [Nat.pow_succ]; omega
    unfold fxB
    split
    · rw [e, or_add n (by omega) x hx]
      exact ⟨x + 2 ^ n, by omega, by simp⟩
    · exact ⟨x, by omega, e⟩
theorem fxB_bc {f : Int → Bool} {n : Nat} (h : n ≤ 10) : bcJ (fxB f n) = mnJ (fxB f n) 31 := by
  obtain ⟨x, hx, e⟩ := fxB_lt (f := f) n h
  have : 2 ^ n ≤ 2 ^ 10 := Nat.pow_le_pow_right (by decide) h
  have h2 : (2 : Nat) ^ 10 = 1024 := by decide
  rw [e]
  exact bc_mn x (by omega)
theorem fxB_32 {f : Int → Bool} : ∀ n : Nat, ∃ y : Int32, fxB f n = y.toInt := by
  intro n
  induction n with
  | zero => exact ⟨0, rfl⟩
  | succ n ih =>
    unfold fxB
    split
    · exact ⟨_, rfl⟩
    · exact ih
theorem fxB_congr {f g : Int → Bool} : ∀ n : Nat, (∀ i : Int, 0 ≤ i → i < n → f i = g i) → fxB f n = fxB g n := by
  intro n
  induction n with
  | zero => intro _; rfl
  | succ n ih =>
    intro h
    unfold fxB
    rw [ih fun i i0 i1 => h i i0 (by omega), h n (by omega) (by omega)]
/-- no more bits behind the last yes -/
theorem fxB_more {f : Int → Bool} {a : Nat} : ∀ n : Nat, (∀ i : Int, (a : Int) ≤ i → i < ((a + n : Nat) : Int) → f i = false) → fxB f (a + n) = fxB f a := by
  intro n
  induction n with
  | zero => intro _; rfl
  | succ n ih =>
    intro h
    rw [← ih fun i i0 i1 => h i i0 (by omega)]
    show (if f ((a + n : Nat) : Int) = true then _ else _) = _
    rw [h _ (by omega) (by omega), if_neg (by decide)]
    rfl
