/-! COMPLETING -/
theorem lp_copy (d g c t : Nat) (hg : g < 21) (h3 : t < 300) (z : Option mv_V) : ∀ (m j : Nat) (M : mv_M), j + m = 6 → (∀ i, i < j → M 35 0 (6 * t + i) = M 41 0 (6 * g + i)) → ∃ M1, (∀ i, i < 6 → M1 35 0 (6 * t + i) = M 41 0 (6 * g + i)) ∧ (∀ i, i < 6 * t → M1 35 0 i = M 35 0 i) ∧ (∀ x, x ≠ 35 → M1 x = M x) ∧ ∀ (R : mv_O) (M' : mv_M), er_ (d + 2) 0 kX4_complete (166, [some (mv_R 22 0), some (mv_I (nI g)), some (mv_I (nI c)), some (mv_I (nI t)), some (mv_I (nI 6))], [], M1) R M' → er_ (d + 2) 0 kX4_complete (129, [some (mv_R 22 0), some (mv_I (nI g)), some (mv_I (nI c)), some (mv_I (nI t)), some (mv_I (nI j))], [], M) R M' := by
  intro m
  induction m with
  | zero =>
    intro j M h1 hc
    have hce : j = 6 := by omega
    subst hce
    refine ⟨M, hc, fun _ _ => rfl, fun _ _ => rfl, fun R M' hk => ?_⟩
    refine e_run 2 rfl trivial ?_
    refine e_if rfl (fun h133 => ?_) (fun h133 => absurd (by decide) h133)
    exact hk
  | succ m ih =>
    intro j M h1 hc
    have c1 : (nI (6 * t + j)).toNatClampNeg = 6 * t + j := nI_clamp (by omega)
    have c2 : (nI (6 * g + j)).toNatClampNeg = 6 * g + j := nI_clamp (by omega)
    have hup (i : Nat) : mv_up M 35 0 (6 * t + j) (M 41 0 (6 * g + j)) 35 0 i = if i = 6 * t + j then M 41 0 (6 * g + j) else M 35 0 i := by simp only [rd_, up_, Nat.reduceEqDiff, reduceIte, and_self, and_true, true_and, and_false, false_and, if_true, if_false]
    obtain ⟨M1, a1, a2, a3, a4⟩ := ih (j + 1) (mv_up M 35 0 (6 * t + j) (M 41 0 (6 * g + j))) (by omega) (fun i hi => by
      rw [hup, mv_up_ne (by omega)]
      split
      · next h => rw [show i = j by omega]
      · exact hc i (by omega))
    refine ⟨M1, fun i hi => (a1 i hi).trans (by rw [mv_up_ne (by omega)]), fun i hi => (a2 i hi).trans (by rw [hup, if_neg (by omega)]), fun x hx => (a3 x hx).trans (mv_up_ne hx), fun R M' hk => ?_⟩
    refine e_run 2 rfl trivial ?_
    try simp only [ix_6l, c1, c2]
    refine e_if rfl (fun h133 => absurd h133 (nI_ge (b := 6) (by omega) (by omega))) (fun h133 => ?_)
    refine e_run 18 rfl ?_ ?_
    · ((try simp only [ix_6l, c1, c2]) <;> and_intros <;> first | trivial | exact in_n (by omega) (by omega) | omega | (unfold vp_in; decide) | (simp only [*]; omega))
    try simp only [ix_6l, c1, c2]
    exact er_cong (by rw [nI_1]) (a4 R M' hk)
theorem lowm : ∀ j, j < 32 → ∀ i, i < 32 → bt (((1 : Int32) <<< (nI j &&& 31)) - 1) i = decide (i < j) := by decide +kernel
/-- the lowest bit, taken away -/
theorem drop_low {y : Int32} {j : Nat} (hj : j < 32) (hl : lo_ y j) (i : Nat) : bt (y &&& (y - 1)) i = (bt y i && !decide (i = j)) := by
  rcases Nat.lt_or_ge i 32 with hi | hi
  · have ha : ∃ a : Int32, (∀ k, bt a k = (bt y k && !decide (k = j))) := ⟨y &&& ((1 <<< (nI j &&& 31)) ^^^ (-1)), fun k => by
      rcases Nat.lt_or_ge k 32 with hk | hk
      · rw [b_and, b_xor, bt_one hj, b_m1 k hk, Bool.xor_true]
      · rw [b_big hk, b_big hk]; rfl⟩
    obtain ⟨a, ha⟩ := ha
    have hand : a &&& (1 <<< (nI j &&& 31)) = 0 := (bt_and1 hj a).mpr (by rw [ha]; simp)
    have hy : y = a + (1 <<< (nI j &&& 31)) := by
      have h1 : a + (1 <<< (nI j &&& 31)) = a ||| (1 <<< (nI j &&& 31)) := by
        apply Int32.toBitVec_inj.mp
        rw [Int32.toBitVec_add, Int32.toBitVec_or]
        exact BitVec.add_eq_or_of_and_eq_zero _ _ (by rw [← Int32.toBitVec_and, hand]; rfl)
      rw [h1]
      refine b_ext (fun k hk => ?_)
      rw [bt_or1 hj, ha]
      by_cases e : k = j
      · subst e
        rw [hl.1]
        simp
      · simp [e]
    have hand2 : a &&& (((1 : Int32) <<< (nI j &&& 31)) - 1) = 0 := b_ext (fun k hk => by
      rw [b_and, lowm j hj k hk, ha, b_0]
      by_cases e : k < j
      · rw [hl.2 k e]; rfl
      · rw [decide_eq_false e, Bool.and_false])
    have hy1 : y - 1 = a ||| (((1 : Int32) <<< (nI j &&& 31)) - 1) := by
      have h1 : a + (((1 : Int32) <<< (nI j &&& 31)) - 1) = a ||| (((1 : Int32) <<< (nI j &&& 31)) - 1) := by
        apply Int32.toBitVec_inj.mp
        rw [Int32.toBitVec_add, Int32.toBitVec_or]
        exact BitVec.add_eq_or_of_and_eq_zero _ _ (by rw [← Int32.toBitVec_and, hand2]; rfl)
      rw [← h1]
      conv => lhs; rw [hy]
      rw [Int32.sub_eq_add_neg, Int32.sub_eq_add_neg, Int32.add_assoc]
    rw [b_and, hy1, b_or, lowm j hj i hi, ha]
    by_cases e : i < j
    · rw [hl.2 i e]; rfl
    · rw [decide_eq_false e, Bool.or_false]
      cases bt y i <;> rfl
  · rw [b_big hi, b_big hi]; rfl
