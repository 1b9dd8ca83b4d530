/-! AN INSTANCE MORE, THERE AND HERE -/
theorem cz4_o (M : mv_M) (g c t e : Nat) (x : Int32) (y : Nat) (h : y ≠ 22) (h26 : y ≠ 26) (h36 : y ≠ 36) : cz4_ M g c t e x y = M y := by
  unfold cz4_ nt_
  rw [mv_up_ne h, mv_up_ne h, mv_up_ne h, mv_up_ne h26, mv_up_ne h, mv_up_ne h36]
theorem cz4_22 (M : mv_M) (g c t e : Nat) (x : Int32) (o : Nat) : cz4_ M g c t e x 22 0 o = if o = 30 then nI t else if o = 10 then nI g else if o = 12 then nI (t + 1) else if o = 20 then nI (e + 1) else M 22 0 o := by
  simp only [cz4_, nt_, rd_, up_, Nat.reduceEqDiff, reduceIte, and_self, and_true, true_and, and_false, false_and, if_true, if_false]
theorem cz4_26 (M : mv_M) (g c t e : Nat) (x : Int32) (o : Nat) : cz4_ M g c t e x 26 0 o = (if o = c then x else M 26 0 o) ∧ cz4_ M g c t e x 36 0 o = (if o = e then nI (2 * t) else M 36 0 o) := by
  constructor <;> simp only [cz4_, nt_, rd_, up_, Nat.reduceEqDiff, reduceIte, and_self, and_true, true_and, and_false, false_and, if_true, if_false]
theorem ca4_o (M : mv_M) (g c t : Nat) (w : Int32) (y : Nat) (h : y < 30 ∨ 34 < y) : ca4_ M g c t w y = M y := by
  unfold ca4_
  rw [mv_up_ne (by omega), mv_up_ne (by omega), mv_up_ne (by omega), mv_up_ne (by omega), mv_up_ne (by omega)]
theorem ca4_i (M : mv_M) (g c t : Nat) (w : Int32) (i : Nat) : ca4_ M g c t w 30 0 i = (if i = t then nI c else M 30 0 i) ∧ ca4_ M g c t w 31 0 i = (if i = t then M 38 0 g else M 31 0 i) ∧ ca4_ M g c t w 32 0 i = (if i = t then w else M 32 0 i) ∧ ca4_ M g c t w 33 0 i = (if i = t then 1 else M 33 0 i) ∧ ca4_ M g c t w 34 0 i = (if i = t then M 24 0 c else M 34 0 i) := by
  refine ⟨?_, ?_, ?_, ?_, ?_⟩ <;> simp only [ca4_, rd_, up_, Nat.reduceEqDiff, reduceIte, and_self, and_true, true_and, and_false, false_and, if_true, if_false]
theorem ia_13 (C : mv_M) (t e c : Nat) (pl : Int32) (g k i : Nat) : ia_ C t e c pl g k 13 0 i = (if i = t then nI k else C 13 0 i) ∧ ia_ C t e c pl g k 12 0 i = va_cpy (C 18 g) (C 12 0) 0 (6 * t) k i ∧ ia_ C t e c pl g k 15 0 i = (if i = c then C 15 0 c + 1 else C 15 0 i) ∧ ia_ C t e c pl g k 16 0 i = (if i = e then nI (2 * t) else C 16 0 i) := by
  unfold ia_ rc_
  dsimp only
  split <;> (refine ⟨?_, ?_, ?_, ?_⟩ <;> simp only [rd_, up_, Nat.reduceEqDiff, reduceIte, and_self, and_true, true_and, and_false, false_and, if_true, if_false])
theorem cpy_at (a b : Nat → Int32) (dp k j : Nat) : va_cpy a b 0 dp k j = if dp ≤ j ∧ j < dp + k then a (j - dp) else b j := by
  unfold va_cpy
  simp
