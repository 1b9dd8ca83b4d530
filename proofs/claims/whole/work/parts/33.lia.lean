/-! AN INSTANCE MORE, THERE AND HERE -/
theorem cz4_o (M : mv_M) (g c t e : Nat) (x : Int32) (y : Nat) (h : y ≠ 22) (h26 : y ≠ 26) (h36 : y ≠ 36) : cz4_ M g c t e x y = M y := by
  unfold cz4_ nt_
  rw [mv_up_ne h, mv_up_ne h, mv_up_ne h, mv_up_ne h26, mv_up_ne h, mv_up_ne h36]
theorem cz4_22 (M : mv_M) (g c t e : Nat) (x : Int32) (o : Nat) : cz4_ M g c t e x 22 0 o = if o = 30 then nI t else if o = 10 then nI g else if o = 12 then nI (t + 1) else if o = 20 then nI (e + 1) else M 22 0 o := by
  simp only [cz4_, nt_, rd_, up_, Nat.reduceEqDiff, reduceIte, and_self, and_true, true_and, and_false, false_and, if_true, if_false]
theorem cz4_26 (M : mv_M) (g c t e : Nat) (x : Int32) (o : Nat) : cz4_ M g c t e x 26 0 o = (if o = c then x else M 26 0 o) ∧ cz4_ M g c t e x 36 0 o = (if o = e then nI (2 * t) else M 36 0 o) := by
  constructor <;> simp only [cz4_, nt_, rd_, up_, Nat.reduceEqDiff, reduceIte, and_self, and_true, true_and, and_false, false_and, if_true, if_false]
theorem ca4_o (M : mv_M) (g c t : Nat) (w : Int32) (y : Nat) (h : y < 30 ∨ 34 < y) : ca4_ M g c t w y = M y := by
  unfold ca4_
  rw [mv_up_ne (by omega), mv_up_ne (by omega), mv_up_ne (by omega), mv_up_ne (by omega), mv_up_ne (by omega)]
theorem ca4_i (M : mv_M) (g c t : Nat) (w : Int32) (i : Nat) : ca4_ M g c t w 30 0 i = (if i = t then nI c else M 30 0 i) ∧ ca4_ M g c t w 31 0 i = (if i = t then M 38 0 g else M 31 0 i) ∧ ca4_ M g c t w 32 0 i = (if i = t then w else M 32 0 i) ∧ ca4_ M g c t w 33 0 i = (if i = t then 1 else M 33 0 i) ∧ ca4_ M g c t w 34 0 i = (if i = t then M 24 0 c else M 34 0 i) := by
  refine ⟨?_, ?_, ?_, ?_, ?_⟩ <;> simp only [ca4_, rd_, up_, Nat.reduceEqDiff, reduceIte, and_self, and_true, true_and, and_false, false_and, if_true, if_false]
theorem ia_13 (C : mv_M) (t e c : Nat) (pl : Int32) (g k i : Nat) : ia_ C t e c pl g k 13 0 i = (if i = t then nI k else C 13 0 i) ∧ ia_ C t e c pl g k 12 0 i = va_cpy (C 18 g) (C 12 0) 0 (6 * t) k i ∧ ia_ C t e c pl g k 15 0 i = (if i = c then C 15 0 c + 1 else C 15 0 i) ∧ ia_ C t e c pl g k 16 0 i = (if i = e then nI (2 * t) else C 16 0 i) := by
  unfold ia_ rc_
  dsimp only
  split <;> (refine ⟨?_, ?_, ?_, ?_⟩ <;> simp only [rd_, up_, Nat.reduceEqDiff, reduceIte, and_self, and_true, true_and, and_false, false_and, if_true, if_false])
theorem cpy_at (a b : Nat → Int32) (dp k j : Nat) : va_cpy a b 0 dp k j = if dp ≤ j ∧ j < dp + k then a (j - dp) else b j := by
  unfold va_cpy
  simp
theorem lr_ia {C M M1 : mv_M} {t e l g c k : Nat} {pl sc w : Int32} (h : lr_ C M t e l) (h3 : t < 300) (hc : c < 20) (hp : pq_ C pl sc) (h38 : M 38 0 g = sc) (hw : (sc = 2 ∧ w = M 22 0 19) ∨ (¬ sc = 2 ∧ w = 0)) (hk : M 24 0 c = nI k) (hk6 : k ≤ 6) (hin : ∀ j, j < k → M 41 0 (6 * g + j) = C 18 g j) (m1 : ∀ i, i < 6 → M1 35 0 (6 * t + i) = M 41 0 (6 * g + i)) (m2 : ∀ i, i < 6 * t → M1 35 0 i = M 35 0 i) (m3 : ∀ x, x ≠ 35 → M1 x = ca4_ M g c t w x) : lr_ (ia_ C t e c pl g k) (cz4_ M1 g c t e (M 26 0 c + 1)) (t + 1) (e + 1) l := by
  obtain ⟨a1, a2, ⟨b1, b2, b3⟩, ⟨b4, b5, b6⟩, a5, a6, a7, a8⟩ := h
  have hp9 : ∃ p9 : Nat, pl = -1 ∨ (pl = nI p9 ∧ p9 < 6) := by
    rcases hp with ⟨q, -⟩ | ⟨q, -⟩ | ⟨s, hs, q, -⟩
    · exact ⟨0, Or.inl q⟩
    · exact ⟨0, Or.inr ⟨q, by omega⟩⟩
    · exact ⟨s + 1, Or.inr ⟨q, by omega⟩⟩
  obtain ⟨p9, hp9⟩ := hp9
  have o3 := ia_o C t e c pl g k 3 (by omega)
  have o0 := ia_o C t e c pl g k 0 (by omega)
  have n22 (o : Nat) : M1 22 0 o = M 22 0 o := by rw [m3 22 (by omega), ca4_o _ _ _ _ _ 22 (by omega)]
  have n (x : Nat) (h1 : x < 30 ∨ 34 < x) (h2 : x ≠ 35) : M1 x = M x := by rw [m3 x h2, ca4_o _ _ _ _ _ x h1]
  refine ⟨li_ia a1 h3 hc hp9, by rw [o3]; exact a2, ⟨?_, ?_, ?_⟩, ⟨?_, ?_, ?_⟩, fun i hi => ?_, fun i hi => ?_, fun x hx => ?_, fun i hi => ?_⟩
  · rw [cz4_22]; simp
  · rw [cz4_22]; simp
  · rw [cz4_22, n22]; simpa using b3
  · rw [cz4_22, n22, o0]; simpa using b4
  · rw [cz4_22, n22, o3]; simpa using b5
  · rw [cz4_22, n22, o3]; simpa using b6
  · rw [cz4_o _ _ _ _ _ _ 37 (by omega) (by omega) (by omega), n 37 (by omega) (by omega), ia_o C t e c pl g k 17 (by omega)]
    exact a5 i hi
  · rw [(cz4_26 M1 g c t e _ i).2, (ia_13 C t e c pl g k i).2.2.2, n 36 (by omega) (by omega)]
    split
    · rfl
    · exact a6 i (by omega)
  · rw [(cz4_26 M1 g c t e _ x).1, (ia_13 C t e c pl g k x).2.2.1, n 26 (by omega) (by omega), a7 c hc]
    split
    · rfl
    · exact a7 x hx
  · have z (y : Nat) (hy : 29 < y ∧ y < 36) := cz4_o M1 g c t e (M 26 0 c + 1) y (by omega) (by omega) (by omega)
    obtain ⟨i13, i12, -, -⟩ := ia_13 C t e c pl g k i
    obtain ⟨c0, c1, c2, c3, c4⟩ := ca4_i M g c t w i
    unfold ir_
    rw [z 30 (by omega), z 33 (by omega), z 34 (by omega), z 35 (by omega), m3 30 (by omega), m3 33 (by omega), m3 34 (by omega), c0, c3, c4, ia_9, ia_11, i13]
    by_cases q : i = t
    · rw [if_pos q, if_pos q, if_pos q, if_pos q, if_pos q, if_pos q]
      refine ⟨rfl, rfl, ?_, hk, k, rfl, hk6, fun j hj => ?_⟩
      · unfold pr_
        rw [z 31 (by omega), z 32 (by omega), m3 31 (by omega), m3 32 (by omega), c1, c2, ia_10, if_pos q, if_pos q, if_pos q, h38]
        rcases hp with ⟨q1, q2⟩ | ⟨q1, q2⟩ | ⟨s, hs, q1, q2, q3⟩
        · exact Or.inl ⟨q1, q2⟩
        · exact Or.inr (Or.inl ⟨q1, q2⟩)
        · refine Or.inr (Or.inr ⟨s, q1, hs, q3, ?_⟩)
          rcases hw with ⟨-, hw⟩ | ⟨hw, -⟩
          · rw [hw, b4, q2]
          · exact absurd q3 hw
      · rw [(ia_13 C t e c pl g k (6 * i + j)).2.1, cpy_at, q, if_pos (by omega), m1 j (by omega), hin j hj, show 6 * t + j - 6 * t = j by omega]
    · rw [if_neg q, if_neg q, if_neg q, if_neg q, if_neg q, if_neg q]
      obtain ⟨d1, d2, d3, d4, k9, d5, d6, d7⟩ := a8 i (by omega)
      refine ⟨d1, d2, ?_, d4, k9, d5, d6, fun j hj => ?_⟩
      · unfold pr_ at d3 ⊢
        rw [z 31 (by omega), z 32 (by omega), m3 31 (by omega), m3 32 (by omega), c1, c2, ia_10, if_neg q, if_neg q, if_neg q]
        exact d3
      · rw [(ia_13 C t e c pl g k (6 * i + j)).2.1, cpy_at, if_neg (by omega), m2 (6 * i + j) (by omega)]
        exact d7 j hj
