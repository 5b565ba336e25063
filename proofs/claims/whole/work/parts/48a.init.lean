/-! THE CONSTRUCTORS, run: printed by wip/whole/gen48.py. many: so many instructions of one method -/
def one (f : Nat) (al : Bool) (M pc : Nat) (ls st : List aV) (hp : aH) : Option (Nat × List aV × List aV × aH) := match cod M pc with
  | none => none
  | some q =>
    if isRet q.1 then none
    else if isInv q.1 then
      if q.2.1 = 7 ∨ q.2.1 = 8 ∨ q.2.1 = 10 then none
      else if q.2.2.1 = 999 then match st with
        | (1, a) :: st' => if 1 ≤ a ∧ catS st' ≤ 8 ∧ q.2.1 = 6 then some (pc + 3, ls, st', hp) else none
        | _ => none
      else if q.2.2.2 ≤ st.length ∧ catS (st.drop q.2.2.2) ≤ 8 ∧ rcvOK hp q.2.1 q.2.2.1 (st.take q.2.2.2).reverse = true ∧ (entL (st.take q.2.2.2).reverse).length ≤ mL q.2.2.1 then
        match runA f al q.2.2.1 0 (entA (st.take q.2.2.2).reverse (mL q.2.2.1)) [] hp with
        | some (rv, h1) => some (pc + 3, ls, rv.toList ++ st.drop q.2.2.2, h1)
        | none => none
      else none
    else stp1 al hp ls st pc q
def many (f : Nat) (al : Bool) (M : Nat) : Nat → Nat × List aV × List aV × aH → Option (Nat × List aV × List aV × aH)
  | 0, s => some s
  | n + 1, s => match one f al M s.1 s.2.1 s.2.2.1 s.2.2.2 with
    | none => none
    | some s' => many f al M n s'
/-- the method ends so, in some number of steps -/
def EndA (al : Bool) (M : Nat) (s : Nat × List aV × List aV × aH) (r : Option aV × aH) : Prop := ∃ f, runA f al M s.1 s.2.1 s.2.2.1 s.2.2.2 = some r
theorem one_end {f : Nat} {al : Bool} {M pc : Nat} {ls st : List aV} {hp : aH} {s' : Nat × List aV × List aV × aH} {r : Option aV × aH} (h : one f al M pc ls st hp = some s') (k : EndA al M s' r) : ∃ f, runA f al M pc ls st hp = some r := by
  obtain ⟨g, hg⟩ := k
  unfold one at h
  split at h
  · cases h
  · next q hq =>
    split at h
    · cases h
    · next e1 =>
      have e1 : isRet q.1 = false := by simpa using e1
      split at h
      · next e2 =>
        split at h
        · cases h
        · next e0 =>
          split at h
          · next e3 =>
            split at h
            · next a st' =>
              split at h
              · next e5 =>
                cases h
                refine ⟨g + 1, ?_⟩
                unfold runA
                simp only [hq, e1, e2, if_true, Bool.false_eq_true, if_false]
                rw [if_neg e0, if_pos e3, if_pos e5]
                exact hg
              · cases h
            · cases h
          · next e3 =>
            split at h
            · next e4 =>
              split at h
              · next rv h1 e5 =>
                cases h
                refine ⟨max f g + 1, ?_⟩
                unfold runA
                simp only [hq, e1, e2, if_true, Bool.false_eq_true, if_false]
                rw [if_neg e0, if_neg e3, if_pos e4, run_le (Nat.le_max_left f g) e5]
                exact run_le (Nat.le_max_right f g) hg
              · cases h
            · cases h
      · next e2 =>
        have e2 : isInv q.1 = false := by simpa using e2
        refine ⟨g + 1, ?_⟩
        unfold runA
        simp only [hq, e1, e2, h, Bool.false_eq_true, if_false]
        exact hg
theorem many_end {f : Nat} {al : Bool} {M : Nat} {r : Option aV × aH} : ∀ (n : Nat) {s s' : Nat × List aV × List aV × aH}, many f al M n s = some s' → EndA al M s' r → EndA al M s r := by
  intro n
  induction n with
  | zero =>
    intro s s' h k
    cases h
    exact k
  | succ n ih =>
    intro s s' h k
    unfold many at h
    split at h
    · cases h
    · next s1 e1 => exact one_end e1 (ih h k)
/-! a test of equality that goes on and on without depth -/
def eqL : List Int → List Int → Bool
  | [], [] => true
  | a :: x, b :: y => if a = b then eqL x y else false
  | _, _ => false
def eqH : aH → aH → Bool
  | [], [] => true
  | a :: x, b :: y => if a.1 = b.1 ∧ eqL a.2 b.2 = true then eqH x y else false
  | _, _ => false
def eqV : List aV → List aV → Bool
  | [], [] => true
  | a :: x, b :: y => if a.1 = b.1 ∧ a.2 = b.2 then eqV x y else false
  | _, _ => false
theorem eqL_t : ∀ {x y : List Int}, eqL x y = true → x = y
  | [], [], _ => rfl
  | a :: x, b :: y, h => by
    unfold eqL at h
    split at h
    · next e => rw [e, eqL_t h]
    · cases h
  | [], _ :: _, h => by cases h
  | _ :: _, [], h => by cases h
theorem eqH_t : ∀ {x y : aH}, eqH x y = true → x = y
  | [], [], _ => rfl
  | (a, l) :: x, (b, k) :: y, h => by
    unfold eqH at h
    split at h
    · next e => rw [show a = b from e.1, show l = k from eqL_t e.2, eqH_t h]
    · cases h
  | [], _ :: _, h => by cases h
  | _ :: _, [], h => by cases h
theorem eqV_t : ∀ {x y : List aV}, eqV x y = true → x = y
  | [], [], _ => rfl
  | (a, l) :: x, (b, k) :: y, h => by
    unfold eqV at h
    split at h
    · next e => rw [show a = b from e.1, show l = k from e.2, eqV_t h]
    · cases h
  | [], _ :: _, h => by cases h
  | _ :: _, [], h => by cases h
def eqS (o : Option (Nat × List aV × List aV × aH)) (s : Nat × List aV × List aV × aH) : Bool := match o with
  | some t => t.1 == s.1 && eqV t.2.1 s.2.1 && eqV t.2.2.1 s.2.2.1 && eqH t.2.2.2 s.2.2.2
  | none => false
theorem eqS_t {o : Option (Nat × List aV × List aV × aH)} {s : Nat × List aV × List aV × aH} (h : eqS o s = true) : o = some s := by
  unfold eqS at h
  split at h
  · next t =>
    simp only [Bool.and_eq_true, beq_iff_eq] at h
    obtain ⟨⟨⟨h1, h2⟩, h3⟩, h4⟩ := h
    obtain ⟨a, b, c, d⟩ := s
    obtain ⟨a', b', c', d'⟩ := t
    simp only at h1 h2 h3 h4
    rw [h1, eqV_t h2, eqV_t h3, eqH_t h4]
  · cases h
def hG0_0 : aH := [(0, List.replicate 900 0), (28, [0, -1, 4, 5, 0, 0, 0, 0, 0, 0]), (2, [0, 0, 0]), (0, [])]
def hG1_0 : aH := [(30, [7, 8, 9, 10, 11, 0, 0, 500, 0, 0]), (3, [12, 14, 16, 18, 20, 22, 24, 26, 28, 30, 32, 34, 36, 38, 40, 42, 44, 46, 48, 50, 52, 54, 56, 58]), (4, [60, 62, 64, 66, 68, 70, 72, 74, 76, 78, 80, 82, 84, 86, 88, 90, 92, 94, 96, 98, 100, 102, 104, 106]), (2, List.replicate 25 0), (2, List.replicate 25 0), (0, List.replicate 25 0), (27, [13, 0, 0, 0, 0, 268435455, 268435455, 0]), (0, List.replicate 6 0), (27, [15, 0, 0, 0, 0, 268435455, 268435455, 0]), (0, List.replicate 6 0), (27, [17, 0, 0, 0, 0, 268435455, 268435455, 0]), (0, List.replicate 6 0), (27, [19, 0, 0, 0, 0, 268435455, 268435455, 0]), (0, List.replicate 6 0), (27, [21, 0, 0, 0, 0, 268435455, 268435455, 0]), (0, List.replicate 6 0), (27, [23, 0, 0, 0, 0, 268435455, 268435455, 0]), (0, List.replicate 6 0), (27, [25, 0, 0, 0, 0, 268435455, 268435455, 0]), (0, List.replicate 6 0), (27, [27, 0, 0, 0, 0, 268435455, 268435455, 0]), (0, List.replicate 6 0), (27, [29, 0, 0, 0, 0, 268435455, 268435455, 0]), (0, List.replicate 6 0), (27, [31, 0, 0, 0, 0, 268435455, 268435455, 0]), (0, List.replicate 6 0), (27, [33, 0, 0, 0, 0, 268435455, 268435455, 0]), (0, List.replicate 6 0), (27, [35, 0, 0, 0, 0, 268435455, 268435455, 0]), (0, List.replicate 6 0), (27, [37, 0, 0, 0, 0, 268435455, 268435455, 0]), (0, List.replicate 6 0), (27, [39, 0, 0, 0, 0, 268435455, 268435455, 0]), (0, List.replicate 6 0), (27, [41, 0, 0, 0, 0, 268435455, 268435455, 0]), (0, List.replicate 6 0), (27, [43, 0, 0, 0, 0, 268435455, 268435455, 0]), (0, List.replicate 6 0), (27, [45, 0, 0, 0, 0, 268435455, 268435455, 0]), (0, List.replicate 6 0)]
def hG1_1 : aH := [(27, [47, 0, 0, 0, 0, 268435455, 268435455, 0]), (0, List.replicate 6 0), (27, [49, 0, 0, 0, 0, 268435455, 268435455, 0]), (0, List.replicate 6 0), (27, [51, 0, 0, 0, 0, 268435455, 268435455, 0]), (0, List.replicate 6 0), (27, [53, 0, 0, 0, 0, 268435455, 268435455, 0]), (0, List.replicate 6 0), (27, [55, 0, 0, 0, 0, 268435455, 268435455, 0]), (0, List.replicate 6 0), (27, [57, 0, 0, 0, 0, 268435455, 268435455, 0]), (0, List.replicate 6 0), (27, [59, 0, 0, 0, 0, 268435455, 268435455, 0]), (0, List.replicate 6 0), (21, [61, 0, 0, 0]), (0, List.replicate 8 0), (21, [63, 0, 0, 0]), (0, List.replicate 8 0), (21, [65, 0, 0, 0]), (0, List.replicate 8 0), (21, [67, 0, 0, 0]), (0, List.replicate 8 0), (21, [69, 0, 0, 0]), (0, List.replicate 8 0), (21, [71, 0, 0, 0]), (0, List.replicate 8 0), (21, [73, 0, 0, 0]), (0, List.replicate 8 0), (21, [75, 0, 0, 0]), (0, List.replicate 8 0), (21, [77, 0, 0, 0]), (0, List.replicate 8 0), (21, [79, 0, 0, 0]), (0, List.replicate 8 0), (21, [81, 0, 0, 0]), (0, List.replicate 8 0), (21, [83, 0, 0, 0]), (0, List.replicate 8 0), (21, [85, 0, 0, 0]), (0, List.replicate 8 0)]
def hG1_2 : aH := [(21, [87, 0, 0, 0]), (0, List.replicate 8 0), (21, [89, 0, 0, 0]), (0, List.replicate 8 0), (21, [91, 0, 0, 0]), (0, List.replicate 8 0), (21, [93, 0, 0, 0]), (0, List.replicate 8 0), (21, [95, 0, 0, 0]), (0, List.replicate 8 0), (21, [97, 0, 0, 0]), (0, List.replicate 8 0), (21, [99, 0, 0, 0]), (0, List.replicate 8 0), (21, [101, 0, 0, 0]), (0, List.replicate 8 0), (21, [103, 0, 0, 0]), (0, List.replicate 8 0), (21, [105, 0, 0, 0]), (0, List.replicate 8 0), (21, [107, 0, 0, 0]), (0, List.replicate 8 0)]
def hG2_0 : aH := [(30, [109, 110, 111, 112, 113, 0, 0, 500, 0, 0]), (3, [114, 116, 118, 120, 122, 124, 126, 128, 130, 132, 134, 136, 138, 140, 142, 144, 146, 148, 150, 152, 154, 156, 158, 160]), (4, [162, 164, 166, 168, 170, 172, 174, 176, 178, 180, 182, 184, 186, 188, 190, 192, 194, 196, 198, 200, 202, 204, 206, 208]), (2, List.replicate 25 0), (2, List.replicate 25 0), (0, List.replicate 25 0), (27, [115, 0, 0, 0, 0, 268435455, 268435455, 0]), (0, List.replicate 6 0), (27, [117, 0, 0, 0, 0, 268435455, 268435455, 0]), (0, List.replicate 6 0), (27, [119, 0, 0, 0, 0, 268435455, 268435455, 0]), (0, List.replicate 6 0), (27, [121, 0, 0, 0, 0, 268435455, 268435455, 0]), (0, List.replicate 6 0), (27, [123, 0, 0, 0, 0, 268435455, 268435455, 0]), (0, List.replicate 6 0), (27, [125, 0, 0, 0, 0, 268435455, 268435455, 0]), (0, List.replicate 6 0), (27, [127, 0, 0, 0, 0, 268435455, 268435455, 0]), (0, List.replicate 6 0), (27, [129, 0, 0, 0, 0, 268435455, 268435455, 0]), (0, List.replicate 6 0), (27, [131, 0, 0, 0, 0, 268435455, 268435455, 0]), (0, List.replicate 6 0), (27, [133, 0, 0, 0, 0, 268435455, 268435455, 0]), (0, List.replicate 6 0), (27, [135, 0, 0, 0, 0, 268435455, 268435455, 0]), (0, List.replicate 6 0), (27, [137, 0, 0, 0, 0, 268435455, 268435455, 0]), (0, List.replicate 6 0), (27, [139, 0, 0, 0, 0, 268435455, 268435455, 0]), (0, List.replicate 6 0), (27, [141, 0, 0, 0, 0, 268435455, 268435455, 0]), (0, List.replicate 6 0), (27, [143, 0, 0, 0, 0, 268435455, 268435455, 0]), (0, List.replicate 6 0), (27, [145, 0, 0, 0, 0, 268435455, 268435455, 0]), (0, List.replicate 6 0), (27, [147, 0, 0, 0, 0, 268435455, 268435455, 0]), (0, List.replicate 6 0)]
def hG2_1 : aH := [(27, [149, 0, 0, 0, 0, 268435455, 268435455, 0]), (0, List.replicate 6 0), (27, [151, 0, 0, 0, 0, 268435455, 268435455, 0]), (0, List.replicate 6 0), (27, [153, 0, 0, 0, 0, 268435455, 268435455, 0]), (0, List.replicate 6 0), (27, [155, 0, 0, 0, 0, 268435455, 268435455, 0]), (0, List.replicate 6 0), (27, [157, 0, 0, 0, 0, 268435455, 268435455, 0]), (0, List.replicate 6 0), (27, [159, 0, 0, 0, 0, 268435455, 268435455, 0]), (0, List.replicate 6 0), (27, [161, 0, 0, 0, 0, 268435455, 268435455, 0]), (0, List.replicate 6 0), (21, [163, 0, 0, 0]), (0, List.replicate 8 0), (21, [165, 0, 0, 0]), (0, List.replicate 8 0), (21, [167, 0, 0, 0]), (0, List.replicate 8 0), (21, [169, 0, 0, 0]), (0, List.replicate 8 0), (21, [171, 0, 0, 0]), (0, List.replicate 8 0), (21, [173, 0, 0, 0]), (0, List.replicate 8 0), (21, [175, 0, 0, 0]), (0, List.replicate 8 0), (21, [177, 0, 0, 0]), (0, List.replicate 8 0), (21, [179, 0, 0, 0]), (0, List.replicate 8 0), (21, [181, 0, 0, 0]), (0, List.replicate 8 0), (21, [183, 0, 0, 0]), (0, List.replicate 8 0), (21, [185, 0, 0, 0]), (0, List.replicate 8 0), (21, [187, 0, 0, 0]), (0, List.replicate 8 0)]
def hG2_2 : aH := [(21, [189, 0, 0, 0]), (0, List.replicate 8 0), (21, [191, 0, 0, 0]), (0, List.replicate 8 0), (21, [193, 0, 0, 0]), (0, List.replicate 8 0), (21, [195, 0, 0, 0]), (0, List.replicate 8 0), (21, [197, 0, 0, 0]), (0, List.replicate 8 0), (21, [199, 0, 0, 0]), (0, List.replicate 8 0), (21, [201, 0, 0, 0]), (0, List.replicate 8 0), (21, [203, 0, 0, 0]), (0, List.replicate 8 0), (21, [205, 0, 0, 0]), (0, List.replicate 8 0), (21, [207, 0, 0, 0]), (0, List.replicate 8 0), (21, [209, 0, 0, 0]), (0, List.replicate 8 0)]
def hG3_0 : aH := [(24, [211, 212, 223, 234, 0]), (0, List.replicate 10 0), (6, [213, 214, 215, 216, 217, 218, 219, 220, 221, 222]), (0, List.replicate 10 0), (0, List.replicate 10 0), (0, List.replicate 10 0), (0, List.replicate 10 0), (0, List.replicate 10 0), (0, List.replicate 10 0), (0, List.replicate 10 0), (0, List.replicate 10 0), (0, List.replicate 10 0), (0, List.replicate 10 0), (6, [224, 225, 226, 227, 228, 229, 230, 231, 232, 233]), (0, List.replicate 10 0), (0, List.replicate 10 0), (0, List.replicate 10 0), (0, List.replicate 10 0), (0, List.replicate 10 0), (0, List.replicate 10 0), (0, List.replicate 10 0), (0, List.replicate 10 0), (0, List.replicate 10 0), (0, List.replicate 10 0), (6, [235, 236, 237, 238, 239, 240, 241, 242, 243, 244]), (0, List.replicate 11 0), (0, List.replicate 11 0), (0, List.replicate 11 0), (0, List.replicate 11 0), (0, List.replicate 11 0), (0, List.replicate 11 0), (0, List.replicate 11 0), (0, List.replicate 11 0), (0, List.replicate 11 0), (0, List.replicate 11 0), (24, [246, 247, 258, 269, 0]), (0, List.replicate 10 0), (6, [248, 249, 250, 251, 252, 253, 254, 255, 256, 257]), (0, List.replicate 10 0), (0, List.replicate 10 0)]
def hG3_1 : aH := [(0, List.replicate 10 0), (0, List.replicate 10 0), (0, List.replicate 10 0), (0, List.replicate 10 0), (0, List.replicate 10 0), (0, List.replicate 10 0), (0, List.replicate 10 0), (0, List.replicate 10 0), (6, [259, 260, 261, 262, 263, 264, 265, 266, 267, 268]), (0, List.replicate 10 0), (0, List.replicate 10 0), (0, List.replicate 10 0), (0, List.replicate 10 0), (0, List.replicate 10 0), (0, List.replicate 10 0), (0, List.replicate 10 0), (0, List.replicate 10 0), (0, List.replicate 10 0), (0, List.replicate 10 0), (6, [270, 271, 272, 273, 274, 275, 276, 277, 278, 279]), (0, List.replicate 11 0), (0, List.replicate 11 0), (0, List.replicate 11 0), (0, List.replicate 11 0), (0, List.replicate 11 0), (0, List.replicate 11 0), (0, List.replicate 11 0), (0, List.replicate 11 0), (0, List.replicate 11 0), (0, List.replicate 11 0)]
def hG4_0 : aH := [(22, [281, 282, 283]), (0, List.replicate 24 0), (0, List.replicate 24 0), (0, List.replicate 10 (-9))]
def hG5_0 : aH := [(25, [285, 286, 0, 0]), (5, [290, 294, 298, 302, 306, 310, 314, 318, 322, 326, 330, 334, 338, 342, 346, 350, 354, 358, 362, 366]), (22, [287, 288, 289]), (0, List.replicate 24 0), (0, List.replicate 24 0), (0, List.replicate 10 (-9)), (22, [291, 292, 293]), (0, List.replicate 24 0), (0, List.replicate 24 0), (0, List.replicate 10 (-9)), (22, [295, 296, 297]), (0, List.replicate 24 0), (0, List.replicate 24 0), (0, List.replicate 10 (-9)), (22, [299, 300, 301]), (0, List.replicate 24 0), (0, List.replicate 24 0), (0, List.replicate 10 (-9)), (22, [303, 304, 305]), (0, List.replicate 24 0), (0, List.replicate 24 0), (0, List.replicate 10 (-9)), (22, [307, 308, 309]), (0, List.replicate 24 0), (0, List.replicate 24 0), (0, List.replicate 10 (-9)), (22, [311, 312, 313]), (0, List.replicate 24 0), (0, List.replicate 24 0), (0, List.replicate 10 (-9)), (22, [315, 316, 317]), (0, List.replicate 24 0), (0, List.replicate 24 0), (0, List.replicate 10 (-9)), (22, [319, 320, 321]), (0, List.replicate 24 0), (0, List.replicate 24 0), (0, List.replicate 10 (-9)), (22, [323, 324, 325]), (0, List.replicate 24 0)]
def hG5_1 : aH := [(0, List.replicate 24 0), (0, List.replicate 10 (-9)), (22, [327, 328, 329]), (0, List.replicate 24 0), (0, List.replicate 24 0), (0, List.replicate 10 (-9)), (22, [331, 332, 333]), (0, List.replicate 24 0), (0, List.replicate 24 0), (0, List.replicate 10 (-9)), (22, [335, 336, 337]), (0, List.replicate 24 0), (0, List.replicate 24 0), (0, List.replicate 10 (-9)), (22, [339, 340, 341]), (0, List.replicate 24 0), (0, List.replicate 24 0), (0, List.replicate 10 (-9)), (22, [343, 344, 345]), (0, List.replicate 24 0), (0, List.replicate 24 0), (0, List.replicate 10 (-9)), (22, [347, 348, 349]), (0, List.replicate 24 0), (0, List.replicate 24 0), (0, List.replicate 10 (-9)), (22, [351, 352, 353]), (0, List.replicate 24 0), (0, List.replicate 24 0), (0, List.replicate 10 (-9)), (22, [355, 356, 357]), (0, List.replicate 24 0), (0, List.replicate 24 0), (0, List.replicate 10 (-9)), (22, [359, 360, 361]), (0, List.replicate 24 0), (0, List.replicate 24 0), (0, List.replicate 10 (-9)), (22, [363, 364, 365]), (0, List.replicate 24 0)]
def hG5_2 : aH := [(0, List.replicate 24 0), (0, List.replicate 10 (-9)), (22, [367, 368, 369]), (0, List.replicate 24 0), (0, List.replicate 24 0), (0, List.replicate 10 (-9))]
def hG6_0 : aH := [(23, [371, 372, 0, 0, 373, 374, 375, 387, 399, 0, -1]), (0, List.replicate 10 0), (0, List.replicate 60 0), (8, List.replicate 24 0), (0, List.replicate 24 0), (6, [376, 377, 378, 379, 380, 381, 382, 383, 384, 385, 386]), (0, List.replicate 27 0), (0, List.replicate 27 0), (0, List.replicate 27 0), (0, List.replicate 27 0), (0, List.replicate 27 0), (0, List.replicate 27 0), (0, List.replicate 27 0), (0, List.replicate 27 0), (0, List.replicate 27 0), (0, List.replicate 27 0), (0, List.replicate 27 0), (7, [388, 389, 390, 391, 392, 393, 394, 395, 396, 397, 398]), (1, List.replicate 27 0), (1, List.replicate 27 0), (1, List.replicate 27 0), (1, List.replicate 27 0), (1, List.replicate 27 0), (1, List.replicate 27 0), (1, List.replicate 27 0), (1, List.replicate 27 0), (1, List.replicate 27 0), (1, List.replicate 27 0), (1, List.replicate 27 0), (6, [400, 401, 402, 403, 404, 405, 406, 407, 408, 409, 410]), (0, List.replicate 9 0), (0, List.replicate 9 0), (0, List.replicate 9 0), (0, List.replicate 9 0), (0, List.replicate 9 0), (0, List.replicate 9 0), (0, List.replicate 9 0), (0, List.replicate 9 0), (0, List.replicate 9 0), (0, List.replicate 9 0)]
def hG6_1 : aH := [(0, List.replicate 9 0)]
def hG7_0 : aH := [(20, [412, 413, 414, 415, 426, 437, 438, 439, 450, 0]), (1, List.replicate 10 0), (0, List.replicate 10 0), (0, List.replicate 10 0), (6, [416, 417, 418, 419, 420, 421, 422, 423, 424, 425]), (0, List.replicate 60 0), (0, List.replicate 60 0), (0, List.replicate 60 0), (0, List.replicate 60 0), (0, List.replicate 60 0), (0, List.replicate 60 0), (0, List.replicate 60 0), (0, List.replicate 60 0), (0, List.replicate 60 0), (0, List.replicate 60 0), (6, [427, 428, 429, 430, 431, 432, 433, 434, 435, 436]), (0, List.replicate 24 0), (0, List.replicate 24 0), (0, List.replicate 24 0), (0, List.replicate 24 0), (0, List.replicate 24 0), (0, List.replicate 24 0), (0, List.replicate 24 0), (0, List.replicate 24 0), (0, List.replicate 24 0), (0, List.replicate 24 0), (0, List.replicate 10 0), (0, List.replicate 10 0), (6, [440, 441, 442, 443, 444, 445, 446, 447, 448, 449]), (0, List.replicate 24 0), (0, List.replicate 24 0), (0, List.replicate 24 0), (0, List.replicate 24 0), (0, List.replicate 24 0), (0, List.replicate 24 0), (0, List.replicate 24 0), (0, List.replicate 24 0), (0, List.replicate 24 0), (0, List.replicate 24 0), (6, [451, 452, 453, 454, 455, 456, 457, 458, 459, 460])]
def hG7_1 : aH := [(0, List.replicate 24 0), (0, List.replicate 24 0), (0, List.replicate 24 0), (0, List.replicate 24 0), (0, List.replicate 24 0), (0, List.replicate 24 0), (0, List.replicate 24 0), (0, List.replicate 24 0), (0, List.replicate 24 0), (0, List.replicate 24 0), (20, [462, 463, 464, 465, 476, 487, 488, 489, 500, 0]), (1, List.replicate 10 0), (0, List.replicate 10 0), (0, List.replicate 10 0), (6, [466, 467, 468, 469, 470, 471, 472, 473, 474, 475]), (0, List.replicate 60 0), (0, List.replicate 60 0), (0, List.replicate 60 0), (0, List.replicate 60 0), (0, List.replicate 60 0), (0, List.replicate 60 0), (0, List.replicate 60 0), (0, List.replicate 60 0), (0, List.replicate 60 0), (0, List.replicate 60 0), (6, [477, 478, 479, 480, 481, 482, 483, 484, 485, 486]), (0, List.replicate 24 0), (0, List.replicate 24 0), (0, List.replicate 24 0), (0, List.replicate 24 0), (0, List.replicate 24 0), (0, List.replicate 24 0), (0, List.replicate 24 0), (0, List.replicate 24 0), (0, List.replicate 24 0), (0, List.replicate 24 0), (0, List.replicate 10 0), (0, List.replicate 10 0), (6, [490, 491, 492, 493, 494, 495, 496, 497, 498, 499]), (0, List.replicate 24 0)]
def hG7_2 : aH := [(0, List.replicate 24 0), (0, List.replicate 24 0), (0, List.replicate 24 0), (0, List.replicate 24 0), (0, List.replicate 24 0), (0, List.replicate 24 0), (0, List.replicate 24 0), (0, List.replicate 24 0), (0, List.replicate 24 0), (6, [501, 502, 503, 504, 505, 506, 507, 508, 509, 510]), (0, List.replicate 24 0), (0, List.replicate 24 0), (0, List.replicate 24 0), (0, List.replicate 24 0), (0, List.replicate 24 0), (0, List.replicate 24 0), (0, List.replicate 24 0), (0, List.replicate 24 0), (0, List.replicate 24 0), (0, List.replicate 24 0)]
def hG8_0 : aH := [(26, [512, 0, 1, 513, 524, 535]), (0, List.replicate 10 0), (6, [514, 515, 516, 517, 518, 519, 520, 521, 522, 523]), (0, List.replicate 24 0), (0, List.replicate 24 0), (0, List.replicate 24 0), (0, List.replicate 24 0), (0, List.replicate 24 0), (0, List.replicate 24 0), (0, List.replicate 24 0), (0, List.replicate 24 0), (0, List.replicate 24 0), (0, List.replicate 24 0), (6, [525, 526, 527, 528, 529, 530, 531, 532, 533, 534]), (0, List.replicate 24 0), (0, List.replicate 24 0), (0, List.replicate 24 0), (0, List.replicate 24 0), (0, List.replicate 24 0), (0, List.replicate 24 0), (0, List.replicate 24 0), (0, List.replicate 24 0), (0, List.replicate 24 0), (0, List.replicate 24 0), (7, [536, 537, 538, 539, 540, 541, 542, 543, 544, 545]), (1, List.replicate 24 0), (1, List.replicate 24 0), (1, List.replicate 24 0), (1, List.replicate 24 0), (1, List.replicate 24 0), (1, List.replicate 24 0), (1, List.replicate 24 0), (1, List.replicate 24 0), (1, List.replicate 24 0), (1, List.replicate 24 0), (26, [547, 0, 1, 548, 559, 570]), (0, List.replicate 10 0), (6, [549, 550, 551, 552, 553, 554, 555, 556, 557, 558]), (0, List.replicate 24 0), (0, List.replicate 24 0)]
def hG8_1 : aH := [(0, List.replicate 24 0), (0, List.replicate 24 0), (0, List.replicate 24 0), (0, List.replicate 24 0), (0, List.replicate 24 0), (0, List.replicate 24 0), (0, List.replicate 24 0), (0, List.replicate 24 0), (6, [560, 561, 562, 563, 564, 565, 566, 567, 568, 569]), (0, List.replicate 24 0), (0, List.replicate 24 0), (0, List.replicate 24 0), (0, List.replicate 24 0), (0, List.replicate 24 0), (0, List.replicate 24 0), (0, List.replicate 24 0), (0, List.replicate 24 0), (0, List.replicate 24 0), (0, List.replicate 24 0), (7, [571, 572, 573, 574, 575, 576, 577, 578, 579, 580]), (1, List.replicate 24 0), (1, List.replicate 24 0), (1, List.replicate 24 0), (1, List.replicate 24 0), (1, List.replicate 24 0), (1, List.replicate 24 0), (1, List.replicate 24 0), (1, List.replicate 24 0), (1, List.replicate 24 0), (1, List.replicate 24 0)]
def hG9_0 : aH := [(29, [582, 0, -1, 583, 593, 594]), (0, List.replicate 8 0), (6, [584, 585, 586, 587, 588, 589, 590, 591, 592]), (0, List.replicate 225 0), (0, List.replicate 225 0), (0, List.replicate 225 0), (0, List.replicate 225 0), (0, List.replicate 225 0), (0, List.replicate 225 0), (0, List.replicate 225 0), (0, List.replicate 225 0), (0, List.replicate 225 0), (2, List.replicate 225 0), (2, List.replicate 225 0), (0, List.replicate 10 0), (0, List.replicate 24 0)]
def sK_s : Nat × List aV × List aV × aH := (0, [(1, 1)], [], [(31, List.replicate 18 0)])
def sK_0 : Nat × List aV × List aV × aH := (29, [(1, 1)], [], ((31, [2, 0, 3, 0, 0, 0, 0, 0, 0, 0, 0, 0, 0, 0, 0, 0, 0, 0]) :: (hG0_0)))
def sK_1 : Nat × List aV × List aV × aH := (40, [(1, 1)], [], ((31, [2, 0, 3, 6, 0, 0, 0, 0, 0, 0, 0, 0, 0, 0, 0, 0, 0, 0]) :: (hG0_0 ++ (hG1_0 ++ (hG1_1 ++ (hG1_2))))))
def sK_2 : Nat × List aV × List aV × aH := (51, [(1, 1)], [], ((31, [2, 0, 3, 6, 108, 0, 0, 0, 0, 0, 0, 0, 0, 0, 0, 0, 0, 0]) :: (hG0_0 ++ (hG1_0 ++ (hG1_1 ++ (hG1_2 ++ (hG2_0 ++ (hG2_1 ++ (hG2_2)))))))))
def sK_3 : Nat × List aV × List aV × aH := (73, [(1, 1)], [], ((31, [2, 0, 3, 6, 108, 210, 245, 0, 0, 0, 0, 0, 0, 0, 0, 0, 0, 0]) :: (hG0_0 ++ (hG1_0 ++ (hG1_1 ++ (hG1_2 ++ (hG2_0 ++ (hG2_1 ++ (hG2_2 ++ (hG3_0 ++ (hG3_1)))))))))))
def sK_4 : Nat × List aV × List aV × aH := (84, [(1, 1)], [], ((31, [2, 0, 3, 6, 108, 210, 245, 280, 0, 0, 0, 0, 0, 0, 0, 0, 0, 0]) :: (hG0_0 ++ (hG1_0 ++ (hG1_1 ++ (hG1_2 ++ (hG2_0 ++ (hG2_1 ++ (hG2_2 ++ (hG3_0 ++ (hG3_1 ++ (hG4_0))))))))))))
def sK_5 : Nat × List aV × List aV × aH := (95, [(1, 1)], [], ((31, [2, 0, 3, 6, 108, 210, 245, 280, 284, 0, 0, 0, 0, 0, 0, 0, 0, 0]) :: (hG0_0 ++ (hG1_0 ++ (hG1_1 ++ (hG1_2 ++ (hG2_0 ++ (hG2_1 ++ (hG2_2 ++ (hG3_0 ++ (hG3_1 ++ (hG4_0 ++ (hG5_0 ++ (hG5_1 ++ (hG5_2)))))))))))))))
def sK_6 : Nat × List aV × List aV × aH := (106, [(1, 1)], [], ((31, [2, 0, 3, 6, 108, 210, 245, 280, 284, 370, 0, 0, 0, 0, 0, 0, 0, 0]) :: (hG0_0 ++ (hG1_0 ++ (hG1_1 ++ (hG1_2 ++ (hG2_0 ++ (hG2_1 ++ (hG2_2 ++ (hG3_0 ++ (hG3_1 ++ (hG4_0 ++ (hG5_0 ++ (hG5_1 ++ (hG5_2 ++ (hG6_0 ++ (hG6_1)))))))))))))))))
def sK_7 : Nat × List aV × List aV × aH := (128, [(1, 1)], [], ((31, [2, 0, 3, 6, 108, 210, 245, 280, 284, 370, 411, 461, 0, 0, 0, 0, 0, 0]) :: (hG0_0 ++ (hG1_0 ++ (hG1_1 ++ (hG1_2 ++ (hG2_0 ++ (hG2_1 ++ (hG2_2 ++ (hG3_0 ++ (hG3_1 ++ (hG4_0 ++ (hG5_0 ++ (hG5_1 ++ (hG5_2 ++ (hG6_0 ++ (hG6_1 ++ (hG7_0 ++ (hG7_1 ++ (hG7_2))))))))))))))))))))
def sK_8 : Nat × List aV × List aV × aH := (150, [(1, 1)], [], ((31, [2, 0, 3, 6, 108, 210, 245, 280, 284, 370, 411, 461, 511, 546, 0, 0, 0, 0]) :: (hG0_0 ++ (hG1_0 ++ (hG1_1 ++ (hG1_2 ++ (hG2_0 ++ (hG2_1 ++ (hG2_2 ++ (hG3_0 ++ (hG3_1 ++ (hG4_0 ++ (hG5_0 ++ (hG5_1 ++ (hG5_2 ++ (hG6_0 ++ (hG6_1 ++ (hG7_0 ++ (hG7_1 ++ (hG7_2 ++ (hG8_0 ++ (hG8_1))))))))))))))))))))))
def sK_9 : Nat × List aV × List aV × aH := (182, [(1, 1)], [], ((31, [2, 0, 3, 6, 108, 210, 245, 280, 284, 370, 411, 461, 511, 546, 581, 595, 596, 1]) :: (hG0_0 ++ (hG1_0 ++ (hG1_1 ++ (hG1_2 ++ (hG2_0 ++ (hG2_1 ++ (hG2_2 ++ (hG3_0 ++ (hG3_1 ++ (hG4_0 ++ (hG5_0 ++ (hG5_1 ++ (hG5_2 ++ (hG6_0 ++ (hG6_1 ++ (hG7_0 ++ (hG7_1 ++ (hG7_2 ++ (hG8_0 ++ (hG8_1 ++ (hG9_0)))))))))))))))))))))))
def hC : aH := ((31, [2, 0, 3, 6, 108, 210, 245, 280, 284, 370, 411, 461, 511, 546, 581, 595, 596, 1]) :: (hG0_0 ++ (hG1_0 ++ (hG1_1 ++ (hG1_2 ++ (hG2_0 ++ (hG2_1 ++ (hG2_2 ++ (hG3_0 ++ (hG3_1 ++ (hG4_0 ++ (hG5_0 ++ (hG5_1 ++ (hG5_2 ++ (hG6_0 ++ (hG6_1 ++ (hG7_0 ++ (hG7_1 ++ (hG7_2 ++ (hG8_0 ++ (hG8_1 ++ (hG9_0))))))))))))))))))))))
def hMo : aH := [(32, [0, 598, 0, 0, 0, -1, 599, 600, 0, 0, 0, 0, 601, 0, 0, 602, 0, 0, 0, 603, 604, 605, 606, 0, 607, 0, 0, -1, 608, 609, 610, 0, 611, 0, 612, 613, 614, 615, 0, 0, 0, 616, 617, 618, 619, 620, 621, 622, 623, 624, 0, 625]), (0, List.replicate 920 0), (1, [508078, 769604, 1296549, 525618, 21091104997, 8423732, 627876, 1497, 20579924, 23583916, 114131, 5572, 632046, 474798, 726594, 1162, 542896, 114122]), (0, [126, 94, 39, 38, 64, 35, 37, 42, 43, 61]), (0, List.replicate 8 0), (0, [0, 0, 0, 0, 0, 0, 0, 0, 0, 0, 0, 0, 0, 0, 0, 0, 0, 0, 0, 0, 0, 0, 0, 0, 0, 0, 0, 0, 0, 0, 0, 0, 0, 0, 0, 0, 0, 0, 0, 0, 0, 0, 0, 0, 0, 0, 0, 0, 0, 0, 0, 0, 0, 0, 0, 0, 0, 0, 0, 0, 0, 0, 0, 0, 0, 0, 0, 0, 0, 0, 0, 0, 0, 0, 0, 0, 0, 0, 0, 0, 0, 0, 0, 0, 0, 0, 0, 0, 0, 0, 0, 0, 0, 0, 0, 0, 0, 0, 0, 0, 0, 0, 0, 0, 0, 0, 0, 0, 0, 0, 0, 0, 0, 0, 0, 0, 0, 0, 0, 0, 0, 0, 0, 0, 0, 0, 0, 0, 0, 0, 0, 0, 0, 0, 0, 0, 0, 0, 0, 0, 0, 0, 0, 0, 0, 0, 0, 0, 0, 0, 0, 0, 0, 0, 0, 0, 0, 0, 0, 0, 0, 0, 0, 0, 0, 0, 0, 0, 0, 0, 0, 0, 0, 0, 0, 0, 0, 0, 0, 0, 0, 0, 0, 0, 0, 0, 0, 0, 0, 0, 0, 0, 0, 0, 0, 0, 0, 0, 0, 0, 0, 0, 0, 0, 0, 0, 0, 0, 0, 0, 0, 0, 0, 0, 0, 0, 0, 0, 0, 0, 0, 0, 0, 0, 0, 0, 0, 0, 0, 0, 0, 0, 0, 0, 0, 0, 0, 0, 0, 0, 0, 0, 0, 0, 0, 0, 0, 0, 0, 0, 0, 0, 0, 0, 0, 0, 0, 0, 0, 0, 0, 0, 0, 0, 0, 0, 0, 0, 0, 0, 0, 0, 0, 0, 0, 0, 0, 0, 0, 0, 0, 0, 0, 0, 0, 0, 0, 0, 0, 0, 0, 0, 0, 0, 0, 0, 0, 0, 0, 0, 0, 0, 0, 0, 0, 0, 0, 0, 0, 0, 0, 0, 0, 0, 0, 0, 0, 0, 0, 0, 0, 0, 0, 0, 0, 0, 0, 0, 0, 0, 0, 0, 0, 0, 0, 0, 0, 0, 0, 0, 0, 0, 0, 0, 0, 0, 0, 0, 0, 0, 0, 0, 0, 0, 0, 0, 0, 0, 0, 0, 0, 0, 0, 0, 0, 0, 0, 0, 0, 0, 0, 0, 0, 0, 0, 0, 0, 0, 0, 0, 0, 0, 0, 0, 0, 0, 0, 0, 0, 0, 0, 0, 0, 0, 0, 0, 0, 0, 0, 0, 0, 0, 0, 0, 0, 0, 0, 0, 0, 0, 0, 0, 0, 0, 0, 0, 0, 0, 0, 0, 0, 0, 0, 0, 0, 0, 0, 0, 0, 0, 0, 0, 0, 0, 0, 0, 0, 0, 0, 0, 0, 0, 0, 0, 0, 0, 0, 0, 0, 0, 0, 0, 0, 0, 0, 0, 0, 0, 0, 0, 0, 0, 0, 0, 0, 0, 0, 0, 0, 0, 0, 0, 0, 0, 0, 0, 0, 0, 0, 0, 0, 0, 0, 0, 0, 0, 0, 0, 0, 0, 0, 0, 0, 0, 0, 0, 0, 0, 0, 0, 0, 0, 0, 0, 0, 0, 0, 0, 0, 0, 0, 0, 0, 0, 0, 0, 0, 0, 0, 0, 0, 0, 0, 0, 0, 0, 0, 0, 0, 0, 0, 0, 0, 0, 0, 0, 0, 0, 0, 0, 0, 0, 0, 0, 0, 0, 0, 0, 0, 0, 0, 0, 0, 0, 0, 0, 0, 0, 0, 0, 0, 0, 0, 0, 0, 0, 0, 0, 0, 0, 0, 0, 0, 0, 0, 0, 0, 0, 0, 0, 500, 0, 0, 0, 0, 0, 0, 0, 0, 0, 0, 0, 0, 0, 0, 0, 0, 0, 0, 0, 0, 0, 0, 0, 0, 0, 0, 0, 0, 0, 0, 0, 0, 0, 0, 0, 0, 0, 0, 0, 0, 0, 0, 0, 0, 0, 0, 0, 0, 0, 0, 0, 0, 0, 0, 0, 0, 0, 0, 0, 0, 0, 0, 0, 0, 0, 0, 0, 0, 0, 0, 0, 0, 0, 0, 0, 0, 0, 0, 0, 0, 0, 0, 0, 0, 0, 0, 0, 0, 0, 0, 0, 0, 0, 0, 0, 0, 0, 0, 0, 0, 0, 0, 0, 0, 0, 0, 0, 0, 0, 0, 0, 0, 0, 0, 0, 0, 0, 0, 0, 0, 0, 0, 0, 0, 0, 0, 0, 0, 0, 0, 0, 0, 0, 0, 0, 0, 0, 0, 0, 0, 0, 0, 0, 0, 0, 0, 0, 0, 0, 0, 0, 0, 0, 0, 0, 0, 0, 0, 0, 0, 0, 0, 0, 0, 0, 0, 0, 0, 0, 0, 0, 0, 0, 0, 0, 0, 0, 0, 0, 0, 0, 0, 0, 0, 0, 0, 0, 0, 0, 0, 0, 0, 0, 0, 0, 0, 0, 0, 0, 0, 0, 0, 0, 0, 0, 0, 0, 0, 0, 0, 0, 0, 0, 0, 0, 0, 0, 0, 0, 0, 0, 0, 0, 0, 0, 0, 0, 0, 0, 0, 0, 0, 0, 0, 0, 0, 0, 0, 0, 0, 0, 0, 0, 0, 0, 0, 0, 0, 0, 0, 0, 0, 0, 0, 0, 0, 0, 0, 0, 0, 0, 0, 0, 0, 0, 0, 0, 0, 0, 0, 0, 0, 0, 0, 0, 0, 0, 0, 0, 0, 0, 0, 0, 0, 0, 0, 0, 0, 0, 0, 0, 0, 0, 0, 0, 0, 0, 0, 0, 0, 0, 0, 0, 0, 0, 0, 0, 0, 0, 0, 0, 0, 0, 0, 0, 0, 0, 0, 0, 0, 0, 0, 0, 0, 0, 0, 0, 0, 0, 0, 0, 0, 0, 0, 0, 0, 0, 0, 0, 0, 0, 0, 0, 0, 0, 0, 0, 0, 0, 0, 0, 0, 0, 0, 0, 0, 0, 0, 0, 0, 0, 0, 0, 0, 0, 0, 0, 0, 0, 0, 0, 0, 0, 0, 0, 0, 0, 0, 0, 0, 0, 0, 0, 0, 0, 0, 0, 0, 0, 0, 0, 0, 0, 0, 0, 0, 0, 0, 0, 0, 0, 0, 0, 0, 0, 0, 0, 0, 0, 0, 0, 0, 0, 0, 0, 0, 0, 0, 0, 0, 0, 0, 0, 0, 0, 0, 0, 0, 0, 0, 0, 0, 0, 0, 0, 0, 0, 0, 0, 0, 0, 0, 0, 0, 0, 0, 0, 0, 0, 0, 0, 0, 0, 0, 0, 0, 0, 0, 0, 0, 0, 0, 0, 0, 0, 0, 0, 0, 0, 0, 0, 0, 0, 0, 0, 0, 0, 0, 0, 0, 0, 0, 0, 0, 0, 0, 0, 0, 0, 0, 0, 0, 0, 0, 0, 0, 0, 0, 0, 0, 0, 0, 0, 0, 0, 0, 0, 0, 0, 0, 0, 0, 0, 0, 0, 0, 0, 0, 0, 0, 0, 0, 0, 0, 0, 0, 0, 0, 0, 0, 0, 0, 0, 0, 0, 0, 0, 0, 0, 0, 0, 0, 0, 0, 0, 0, 0, 0, 0, 0, 0, 0, 0, 0, 0, 0, 0, 0, 0, 0, 0, 0, 0, 0, 0, 0, 0, 0, 0, 0, 0, 0, 0, 0, 0, 0, 0, 0, 0, 0, 0, 0, 0, 0, 0]), (0, List.replicate 100 0), (0, List.replicate 10 0), (0, List.replicate 100 0), (0, List.replicate 10 0), (0, List.replicate 1276 0), (1, List.replicate 297 0), (0, List.replicate 297 0), (0, List.replicate 80 0), (0, List.replicate 10 0), (0, List.replicate 99 0), (0, List.replicate 240 0), (0, List.replicate 240 0), (0, List.replicate 10 0), (0, List.replicate 240 0), (1, List.replicate 240 0), (0, List.replicate 10 0), (0, List.replicate 24 0), (2, List.replicate 2511 0), (0, [35, 37, 38, 39, 42, 43, 61, 64, 94]), (0, List.replicate 8 0), (2, List.replicate 279 0), (2, List.replicate 279 0), (0, List.replicate 10 0)]
def hM : aH := hC ++ hMo
def sM_s : Nat × List aV × List aV × aH := (0, [(1, 597)], [], hC ++ [(32, List.replicate 52 0)])
def sM_e : Nat × List aV × List aV × aH := (482, [(1, 597)], [], hM)
set_option maxRecDepth 1000000 in
theorem mK_0 : many 3000 true 0 14 sK_s = some sK_0 := eqS_t (by decide +kernel)
set_option maxRecDepth 1000000 in
theorem mK_1 : many 3000 true 0 5 sK_0 = some sK_1 := eqS_t (by decide +kernel)
set_option maxRecDepth 1000000 in
theorem mK_2 : many 3000 true 0 5 sK_1 = some sK_2 := eqS_t (by decide +kernel)
