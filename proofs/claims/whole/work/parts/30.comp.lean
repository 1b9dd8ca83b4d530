/-! COMPLETING -/
theorem lp_copy (d g c t : Nat) (hg : g < 21) (h3 : t < 300) (z : Option mv_V) : ∀ (m j : Nat) (M : mv_M), j + m = 6 → (∀ i, i < j → M 35 0 (6 * t + i) = M 41 0 (6 * g + i)) → ∃ M1, (∀ i, i < 6 → M1 35 0 (6 * t + i) = M 41 0 (6 * g + i)) ∧ (∀ i, i < 6 * t → M1 35 0 i = M 35 0 i) ∧ (∀ x, x ≠ 35 → M1 x = M x) ∧ ∀ (R : mv_O) (M' : mv_M), er_ (d + 2) 0 kX4_complete (166, [some (mv_R 22 0), some (mv_I (nI g)), some (mv_I (nI c)), some (mv_I (nI t)), some (mv_I (nI 6))], [], M1) R M' → er_ (d + 2) 0 kX4_complete (129, [some (mv_R 22 0), some (mv_I (nI g)), some (mv_I (nI c)), some (mv_I (nI t)), some (mv_I (nI j))], [], M) R M' := by
  intro m
  induction m with
  | zero =>
    intro j M h1 hc
    have hce : j = 6 := by omega
    subst hce
    refine ⟨M, hc, fun _ _ => rfl, fun _ _ => rfl, fun R M' hk => ?_⟩
    refine e_run 2 rfl trivial ?_
    refine e_if rfl (fun h133 => ?_) (fun h133 => absurd (by decide) h133)
    exact hk
  | succ m ih =>
    intro j M h1 hc
    have c1 : (nI (6 * t + j)).toNatClampNeg = 6 * t + j := nI_clamp (by omega)
    have c2 : (nI (6 * g + j)).toNatClampNeg = 6 * g + j := nI_clamp (by omega)
    have hup (i : Nat) : mv_up M 35 0 (6 * t + j) (M 41 0 (6 * g + j)) 35 0 i = if i = 6 * t + j then M 41 0 (6 * g + j) else M 35 0 i := by simp only [rd_, up_, Nat.reduceEqDiff, reduceIte, and_self, and_true, true_and, and_false, false_and, if_true, if_false]
    obtain ⟨M1, a1, a2, a3, a4⟩ := ih (j + 1) (mv_up M 35 0 (6 * t + j) (M 41 0 (6 * g + j))) (by omega) (fun i hi => by
      rw [hup, mv_up_ne (by omega)]
      split
      · next h => rw [show i = j by omega]
      · exact hc i (by omega))
    refine ⟨M1, fun i hi => (a1 i hi).trans (by rw [mv_up_ne (by omega)]), fun i hi => (a2 i hi).trans (by rw [hup, if_neg (by omega)]), fun x hx => (a3 x hx).trans (mv_up_ne hx), fun R M' hk => ?_⟩
    refine e_run 2 rfl trivial ?_
    try simp only [ix_6l, c1, c2]
    refine e_if rfl (fun h133 => absurd h133 (nI_ge (b := 6) (by omega) (by omega))) (fun h133 => ?_)
    refine e_run 18 rfl ?_ ?_
    · ((try simp only [ix_6l, c1, c2]) <;> and_intros <;> first | trivial | exact in_n (by omega) (by omega) | omega | (unfold vp_in; decide) | (simp only [*]; omega))
    try simp only [ix_6l, c1, c2]
    exact er_cong (by rw [nI_1]) (a4 R M' hk)
theorem lowm : ∀ j, j < 32 → ∀ i, i < 32 → bt (((1 : Int32) <<< (nI j &&& 31)) - 1) i = decide (i < j) := by decide +kernel
/-- the lowest bit, taken away -/
theorem drop_low {y : Int32} {j : Nat} (hj : j < 32) (hl : lo_ y j) (i : Nat) : bt (y &&& (y - 1)) i = (bt y i && !decide (i = j)) := by
  rcases Nat.lt_or_ge i 32 with hi | hi
  · have ha : ∃ a : Int32, (∀ k, bt a k = (bt y k && !decide (k = j))) := ⟨y &&& ((1 <<< (nI j &&& 31)) ^^^ (-1)), fun k => by
      rcases Nat.lt_or_ge k 32 with hk | hk
      · rw [b_and, b_xor, bt_one hj, b_m1 k hk, Bool.xor_true]
      · rw [b_big hk, b_big hk]; rfl⟩
    obtain ⟨a, ha⟩ := ha
    have hand : a &&& (1 <<< (nI j &&& 31)) = 0 := (bt_and1 hj a).mpr (by rw [ha]; simp)
    have hy : y = a + (1 <<< (nI j &&& 31)) := by
      have h1 : a + (1 <<< (nI j &&& 31)) = a ||| (1 <<< (nI j &&& 31)) := by
        apply Int32.toBitVec_inj.mp
        rw [Int32.toBitVec_add, Int32.toBitVec_or]
        exact BitVec.add_eq_or_of_and_eq_zero _ _ (by rw [← Int32.toBitVec_and, hand]; rfl)
      rw [h1]
      refine b_ext (fun k hk => ?_)
      rw [bt_or1 hj, ha]
      by_cases e : k = j
      · subst e
        rw [hl.1]
        simp
      · simp [e]
    have hand2 : a &&& (((1 : Int32) <<< (nI j &&& 31)) - 1) = 0 := b_ext (fun k hk => by
      rw [b_and, lowm j hj k hk, ha, b_0]
      by_cases e : k < j
      · rw [hl.2 k e]; rfl
      · rw [decide_eq_false e, Bool.and_false])
    have hy1 : y - 1 = a ||| (((1 : Int32) <<< (nI j &&& 31)) - 1) := by
      have h1 : a + (((1 : Int32) <<< (nI j &&& 31)) - 1) = a ||| (((1 : Int32) <<< (nI j &&& 31)) - 1) := by
        apply Int32.toBitVec_inj.mp
        rw [Int32.toBitVec_add, Int32.toBitVec_or]
        exact BitVec.add_eq_or_of_and_eq_zero _ _ (by rw [← Int32.toBitVec_and, hand2]; rfl)
      rw [← h1]
      conv => lhs; rw [hy]
      rw [Int32.sub_eq_add_neg, Int32.sub_eq_add_neg, Int32.add_assoc]
    rw [b_and, hy1, b_or, lowm j hj i hi, ha]
    by_cases e : i < j
    · rw [hl.2 i e]; rfl
    · rw [decide_eq_false e, Bool.or_false]
      cases bt y i <;> rfl
  · rw [b_big hi, b_big hi]; rfl
/-- an instance more, before what was injected -/
def ca4_ (M : mv_M) (g c t : Nat) (w : Int32) : mv_M := mv_up (mv_up (mv_up (mv_up (mv_up M 30 0 t (nI c)) 31 0 t (M 38 0 g)) 32 0 t w) 33 0 t 1) 34 0 t (M 24 0 c)
/-- and behind it -/
def cz4_ (M : mv_M) (g c t e : Nat) (x : Int32) : mv_M := mv_up (mv_up (mv_up (mv_up (nt_ M e (nI (2 * t))) 26 0 c x) 22 0 12 (nI (t + 1))) 22 0 10 (nI g)) 22 0 30 (nI t)
theorem rs_complete (d n g c t e : Nat) {C M : mv_M} (w : Int32) (hD : dr_ C M n) (hc : c < n) (hg : g < 20) (h27 : M 27 0 g = nI c) (ht : M 22 0 12 = nI t) (h3 : t < 300) (hb : ¬ (¬ C 19 c 6 = -1 ∧ ¬ M 26 0 c < C 19 c 6)) (he : M 22 0 20 = nI e) (h6 : e < 600) (hdp : M 22 0 10 = nI (g + 1)) (hw : (M 38 0 g = 2 ∧ w = M 22 0 19) ∨ (¬ M 38 0 g = 2 ∧ w = 0)) : ∃ M1, (∀ i, i < 6 → M1 35 0 (6 * t + i) = M 41 0 (6 * g + i)) ∧ (∀ i, i < 6 * t → M1 35 0 i = M 35 0 i) ∧ (∀ x, x ≠ 35 → M1 x = ca4_ M g c t w x) ∧ ev_ (d + 2) kX4_complete [mv_R 22 0, mv_I (nI g)] M (Sum.inl none) (cz4_ M1 g c t e (M 26 0 c + 1)) := by
  have h20 := hD.1.2.1
  obtain ⟨M1, a1, a2, a3, a4⟩ := lp_copy d g c t (by omega) h3 none 6 0 (ca4_ M g c t w) (by omega) (fun i hi => by omega)
  have k41 : ca4_ M g c t w 41 = M 41 := by unfold ca4_; rw [mv_up_ne (by omega), mv_up_ne (by omega), mv_up_ne (by omega), mv_up_ne (by omega), mv_up_ne (by omega)]
  have k35 : ca4_ M g c t w 35 = M 35 := by unfold ca4_; rw [mv_up_ne (by omega), mv_up_ne (by omega), mv_up_ne (by omega), mv_up_ne (by omega), mv_up_ne (by omega)]
  have k26 : ca4_ M g c t w 26 = M 26 := by unfold ca4_; rw [mv_up_ne (by omega), mv_up_ne (by omega), mv_up_ne (by omega), mv_up_ne (by omega), mv_up_ne (by omega)]
  have k22 : ca4_ M g c t w 22 = M 22 := by unfold ca4_; rw [mv_up_ne (by omega), mv_up_ne (by omega), mv_up_ne (by omega), mv_up_ne (by omega), mv_up_ne (by omega)]
  refine ⟨M1, fun i hi => (a1 i hi).trans (by rw [k41]), fun i hi => (a2 i hi).trans (by rw [k35]), a3, ?_⟩
  have hgl : (nI g).toNatClampNeg = g := nI_clamp (by omega)
  have hcl : (nI c).toNatClampNeg = c := nI_clamp (by omega)
  have htl : (nI t).toNatClampNeg = t := nI_clamp (by omega)
  have hne : ¬ nI t = 300 := fun q => absurd (nI_inj (b := 300) (by omega) (by omega) q) (by omega)
  have m22 (o : Nat) : M1 22 0 o = M 22 0 o := by rw [a3 22 (by omega), k22]
  have m26 (o : Nat) : M1 26 0 o = M 26 0 o := by rw [a3 26 (by omega), k26]
  have hn : ∀ o, o ≠ 20 → nt_ M1 e (nI (2 * t)) 22 0 o = M 22 0 o := fun o ho => by
    rw [← m22]
    simp only [nt_, rd_, up_, Nat.reduceEqDiff, reduceIte, and_self, and_true, true_and, and_false, false_and, if_true, if_false, ho]
  have hn26 : nt_ M1 e (nI (2 * t)) 26 0 c = M 26 0 c := by
    rw [← m26]
    simp only [nt_, rd_, up_, Nat.reduceEqDiff, reduceIte, and_self, and_true, true_and, and_false, false_and, if_true, if_false]
  have hnt : M1 22 0 20 = nI e := (m22 20).trans he
  have hn12 := (hn 12 (by omega)).trans ht
  have hn10 := (hn 10 (by omega)).trans hdp
  have hfin : er_ (d + 2) 0 kX4_complete (166, [some (mv_R 22 0), some (mv_I (nI g)), some (mv_I (nI c)), some (mv_I (nI t)), some (mv_I (nI 6))], [], M1) (Sum.inl none) (cz4_ M1 g c t e (M 26 0 c + 1)) := by
    refine e_run 4 rfl trivial ?_
    try simp only [rd_, up_, Nat.reduceEqDiff, reduceIte, and_self, and_true, true_and, and_false, false_and, if_true, if_false, ix_2, hcl, hn26, hn12, hn10, nI_1, nI_pred]
    refine e_callv rfl (rs_note (d + 1) e M1 (nI (2 * t)) hnt h6) (by decide) ?_
    try simp only [rd_, up_, Nat.reduceEqDiff, reduceIte, and_self, and_true, true_and, and_false, false_and, if_true, if_false, ix_2, hcl, hn26, hn12, hn10, nI_1, nI_pred]
    refine e_run 23 rfl ?_ ?_
    · ((try simp only [rd_, up_, Nat.reduceEqDiff, reduceIte, and_self, and_true, true_and, and_false, false_and, if_true, if_false, ix_2, hcl, hn26, hn12, hn10, nI_1, nI_pred]) <;> and_intros <;> first | trivial | exact in_n (by omega) (by omega) | omega | (unfold vp_in; decide) | (simp only [*]; omega))
    try simp only [rd_, up_, Nat.reduceEqDiff, reduceIte, and_self, and_true, true_and, and_false, false_and, if_true, if_false, ix_2, hcl, hn26, hn12, hn10, nI_1, nI_pred]
    exact e_ret rfl trivial rfl rfl
  have hgo := a4 _ _ hfin
  refine e_ev rfl rfl ?_
  rcases hw with ⟨hw, rfl⟩ | ⟨hw, rfl⟩
  refine e_run 8 rfl ?_ ?_
  · ((try simp only [rd_, up_, Nat.reduceEqDiff, reduceIte, and_self, and_true, true_and, and_false, false_and, if_true, if_false, hgl, h27, hcl, ht, htl]) <;> and_intros <;> first | trivial | exact in_n (by omega) (by omega) | omega | (unfold vp_in; decide) | (simp only [*]; omega))
  try simp only [rd_, up_, Nat.reduceEqDiff, reduceIte, and_self, and_true, true_and, and_false, false_and, if_true, if_false, hgl, h27, hcl, ht, htl]
  refine e_if rfl (fun h14 => ?_) (fun h14 => absurd h14 hne)
  refine e_run 3 rfl trivial ?_
  try simp only [rd_, up_, Nat.reduceEqDiff, reduceIte, and_self, and_true, true_and, and_false, false_and, if_true, if_false, hgl, h27, hcl, ht, htl]
  refine e_calli rfl (rs_of (d + 1) hD c 6 (by omega) (by omega)) (by decide) ?_
  try simp only [rd_, up_, Nat.reduceEqDiff, reduceIte, and_self, and_true, true_and, and_false, false_and, if_true, if_false, hgl, h27, hcl, ht, htl]
  refine e_run 1 rfl trivial ?_
  try simp only [rd_, up_, Nat.reduceEqDiff, reduceIte, and_self, and_true, true_and, and_false, false_and, if_true, if_false, hgl, h27, hcl, ht, htl]
  refine e_if rfl (fun h32 => ?_) (fun h32 => ?_)
  · refine e_run 24 rfl ?_ ?_
    · ((try simp only [rd_, up_, Nat.reduceEqDiff, reduceIte, and_self, and_true, true_and, and_false, false_and, if_true, if_false, hgl, h27, hcl, ht, htl]) <;> and_intros <;> first | trivial | exact in_n (by omega) (by omega) | omega | (unfold vp_in; decide) | (simp only [*]; omega))
    try simp only [rd_, up_, Nat.reduceEqDiff, reduceIte, and_self, and_true, true_and, and_false, false_and, if_true, if_false, hgl, h27, hcl, ht, htl]
    refine e_if rfl (fun h95 => absurd hw h95) (fun h95 => ?_)
    refine e_run 19 rfl ?_ ?_
    · ((try simp only [rd_, up_, Nat.reduceEqDiff, reduceIte, and_self, and_true, true_and, and_false, false_and, if_true, if_false, hgl, h27, hcl, ht, htl]) <;> and_intros <;> first | trivial | exact in_n (by omega) (by omega) | omega | (unfold vp_in; decide) | (simp only [*]; omega))
    try simp only [rd_, up_, Nat.reduceEqDiff, reduceIte, and_self, and_true, true_and, and_false, false_and, if_true, if_false, hgl, h27, hcl, ht, htl]
    exact hgo
  · refine e_run 7 rfl ?_ ?_
    · ((try simp only [rd_, up_, Nat.reduceEqDiff, reduceIte, and_self, and_true, true_and, and_false, false_and, if_true, if_false, hgl, h27, hcl, ht, htl]) <;> and_intros <;> first | trivial | exact in_n (by omega) (by omega) | omega | (unfold vp_in; decide) | (simp only [*]; omega))
    try simp only [rd_, up_, Nat.reduceEqDiff, reduceIte, and_self, and_true, true_and, and_false, false_and, if_true, if_false, hgl, h27, hcl, ht, htl]
    refine e_calli rfl (rs_of (d + 1) hD c 6 (by omega) (by omega)) (by decide) ?_
    try simp only [rd_, up_, Nat.reduceEqDiff, reduceIte, and_self, and_true, true_and, and_false, false_and, if_true, if_false, hgl, h27, hcl, ht, htl]
    refine e_if rfl (fun h48 => ?_) (fun h48 => ?_)
    · refine e_run 24 rfl ?_ ?_
      · ((try simp only [rd_, up_, Nat.reduceEqDiff, reduceIte, and_self, and_true, true_and, and_false, false_and, if_true, if_false, hgl, h27, hcl, ht, htl]) <;> and_intros <;> first | trivial | exact in_n (by omega) (by omega) | omega | (unfold vp_in; decide) | (simp only [*]; omega))
      try simp only [rd_, up_, Nat.reduceEqDiff, reduceIte, and_self, and_true, true_and, and_false, false_and, if_true, if_false, hgl, h27, hcl, ht, htl]
      refine e_if rfl (fun h95 => absurd hw h95) (fun h95 => ?_)
      refine e_run 19 rfl ?_ ?_
      · ((try simp only [rd_, up_, Nat.reduceEqDiff, reduceIte, and_self, and_true, true_and, and_false, false_and, if_true, if_false, hgl, h27, hcl, ht, htl]) <;> and_intros <;> first | trivial | exact in_n (by omega) (by omega) | omega | (unfold vp_in; decide) | (simp only [*]; omega))
      try simp only [rd_, up_, Nat.reduceEqDiff, reduceIte, and_self, and_true, true_and, and_false, false_and, if_true, if_false, hgl, h27, hcl, ht, htl]
      exact hgo
    · exact absurd ⟨h32, h48⟩ hb
  refine e_run 8 rfl ?_ ?_
  · ((try simp only [rd_, up_, Nat.reduceEqDiff, reduceIte, and_self, and_true, true_and, and_false, false_and, if_true, if_false, hgl, h27, hcl, ht, htl]) <;> and_intros <;> first | trivial | exact in_n (by omega) (by omega) | omega | (unfold vp_in; decide) | (simp only [*]; omega))
  try simp only [rd_, up_, Nat.reduceEqDiff, reduceIte, and_self, and_true, true_and, and_false, false_and, if_true, if_false, hgl, h27, hcl, ht, htl]
  refine e_if rfl (fun h14 => ?_) (fun h14 => absurd h14 hne)
  refine e_run 3 rfl trivial ?_
  try simp only [rd_, up_, Nat.reduceEqDiff, reduceIte, and_self, and_true, true_and, and_false, false_and, if_true, if_false, hgl, h27, hcl, ht, htl]
  refine e_calli rfl (rs_of (d + 1) hD c 6 (by omega) (by omega)) (by decide) ?_
  try simp only [rd_, up_, Nat.reduceEqDiff, reduceIte, and_self, and_true, true_and, and_false, false_and, if_true, if_false, hgl, h27, hcl, ht, htl]
  refine e_run 1 rfl trivial ?_
  try simp only [rd_, up_, Nat.reduceEqDiff, reduceIte, and_self, and_true, true_and, and_false, false_and, if_true, if_false, hgl, h27, hcl, ht, htl]
  refine e_if rfl (fun h32 => ?_) (fun h32 => ?_)
  · refine e_run 24 rfl ?_ ?_
    · ((try simp only [rd_, up_, Nat.reduceEqDiff, reduceIte, and_self, and_true, true_and, and_false, false_and, if_true, if_false, hgl, h27, hcl, ht, htl]) <;> and_intros <;> first | trivial | exact in_n (by omega) (by omega) | omega | (unfold vp_in; decide) | (simp only [*]; omega))
    try simp only [rd_, up_, Nat.reduceEqDiff, reduceIte, and_self, and_true, true_and, and_false, false_and, if_true, if_false, hgl, h27, hcl, ht, htl]
    refine e_if rfl (fun h95 => ?_) (fun h95 => absurd h95 hw)
    refine e_run 17 rfl ?_ ?_
    · ((try simp only [rd_, up_, Nat.reduceEqDiff, reduceIte, and_self, and_true, true_and, and_false, false_and, if_true, if_false, hgl, h27, hcl, ht, htl]) <;> and_intros <;> first | trivial | exact in_n (by omega) (by omega) | omega | (unfold vp_in; decide) | (simp only [*]; omega))
    try simp only [rd_, up_, Nat.reduceEqDiff, reduceIte, and_self, and_true, true_and, and_false, false_and, if_true, if_false, hgl, h27, hcl, ht, htl]
    exact hgo
  · refine e_run 7 rfl ?_ ?_
    · ((try simp only [rd_, up_, Nat.reduceEqDiff, reduceIte, and_self, and_true, true_and, and_false, false_and, if_true, if_false, hgl, h27, hcl, ht, htl]) <;> and_intros <;> first | trivial | exact in_n (by omega) (by omega) | omega | (unfold vp_in; decide) | (simp only [*]; omega))
    try simp only [rd_, up_, Nat.reduceEqDiff, reduceIte, and_self, and_true, true_and, and_false, false_and, if_true, if_false, hgl, h27, hcl, ht, htl]
    refine e_calli rfl (rs_of (d + 1) hD c 6 (by omega) (by omega)) (by decide) ?_
    try simp only [rd_, up_, Nat.reduceEqDiff, reduceIte, and_self, and_true, true_and, and_false, false_and, if_true, if_false, hgl, h27, hcl, ht, htl]
    refine e_if rfl (fun h48 => ?_) (fun h48 => ?_)
    · refine e_run 24 rfl ?_ ?_
      · ((try simp only [rd_, up_, Nat.reduceEqDiff, reduceIte, and_self, and_true, true_and, and_false, false_and, if_true, if_false, hgl, h27, hcl, ht, htl]) <;> and_intros <;> first | trivial | exact in_n (by omega) (by omega) | omega | (unfold vp_in; decide) | (simp only [*]; omega))
      try simp only [rd_, up_, Nat.reduceEqDiff, reduceIte, and_self, and_true, true_and, and_false, false_and, if_true, if_false, hgl, h27, hcl, ht, htl]
      refine e_if rfl (fun h95 => ?_) (fun h95 => absurd h95 hw)
      refine e_run 17 rfl ?_ ?_
      · ((try simp only [rd_, up_, Nat.reduceEqDiff, reduceIte, and_self, and_true, true_and, and_false, false_and, if_true, if_false, hgl, h27, hcl, ht, htl]) <;> and_intros <;> first | trivial | exact in_n (by omega) (by omega) | omega | (unfold vp_in; decide) | (simp only [*]; omega))
      try simp only [rd_, up_, Nat.reduceEqDiff, reduceIte, and_self, and_true, true_and, and_false, false_and, if_true, if_false, hgl, h27, hcl, ht, htl]
      exact hgo
    · exact absurd ⟨h32, h48⟩ hb
theorem rs_complete_l (d g c : Nat) {M : mv_M} (hg : g < 20) (h27 : M 27 0 g = nI c) (ht : M 22 0 12 = nI 300) : ev_ (d + 2) kX4_complete [mv_R 22 0, mv_I (nI g)] M (Sum.inl none) (mv_up (mv_up M 22 0 31 5) 22 0 32 (nI c)) := by
  have hgl : (nI g).toNatClampNeg = g := nI_clamp (by omega)
  refine e_ev rfl rfl ?_
  refine e_run 8 rfl ?_ ?_
  · ((try simp only [rd_, up_, Nat.reduceEqDiff, reduceIte, and_self, and_true, true_and, and_false, false_and, if_true, if_false, hgl, h27, ht]) <;> and_intros <;> first | trivial | exact in_n (by omega) (by omega) | omega | (unfold vp_in; decide) | (simp only [*]; omega))
  try simp only [rd_, up_, Nat.reduceEqDiff, reduceIte, and_self, and_true, true_and, and_false, false_and, if_true, if_false, hgl, h27, ht]
  refine e_if rfl (fun h14 => absurd rfl h14) (fun h14 => ?_)
  refine e_run 3 rfl trivial ?_
  try simp only [rd_, up_, Nat.reduceEqDiff, reduceIte, and_self, and_true, true_and, and_false, false_and, if_true, if_false, hgl, h27, ht]
  refine e_callv rfl (rs_fail (d + 1) M 5 (nI c)) (by decide) ?_
  try simp only [rd_, up_, Nat.reduceEqDiff, reduceIte, and_self, and_true, true_and, and_false, false_and, if_true, if_false, hgl, h27, ht]
  exact e_ret rfl trivial rfl rfl
theorem rs_complete_b (d n g c t : Nat) {C M : mv_M} (hD : dr_ C M n) (hc : c < n) (hg : g < 20) (h27 : M 27 0 g = nI c) (ht : M 22 0 12 = nI t) (h3 : t < 300) (hb : ¬ C 19 c 6 = -1) (hb2 : ¬ M 26 0 c < C 19 c 6) : ev_ (d + 2) kX4_complete [mv_R 22 0, mv_I (nI g)] M (Sum.inl none) (mv_up (mv_up M 22 0 31 6) 22 0 32 (nI c)) := by
  have h20 := hD.1.2.1
  have hgl : (nI g).toNatClampNeg = g := nI_clamp (by omega)
  have hcl : (nI c).toNatClampNeg = c := nI_clamp (by omega)
  have hne : ¬ nI t = 300 := fun q => absurd (nI_inj (b := 300) (by omega) (by omega) q) (by omega)
  refine e_ev rfl rfl ?_
  refine e_run 8 rfl ?_ ?_
  · ((try simp only [rd_, up_, Nat.reduceEqDiff, reduceIte, and_self, and_true, true_and, and_false, false_and, if_true, if_false, hgl, h27, hcl, ht]) <;> and_intros <;> first | trivial | exact in_n (by omega) (by omega) | omega | (unfold vp_in; decide) | (simp only [*]; omega))
  try simp only [rd_, up_, Nat.reduceEqDiff, reduceIte, and_self, and_true, true_and, and_false, false_and, if_true, if_false, hgl, h27, hcl, ht]
  refine e_if rfl (fun h14 => ?_) (fun h14 => absurd h14 hne)
  refine e_run 3 rfl trivial ?_
  try simp only [rd_, up_, Nat.reduceEqDiff, reduceIte, and_self, and_true, true_and, and_false, false_and, if_true, if_false, hgl, h27, hcl, ht]
  refine e_calli rfl (rs_of (d + 1) hD c 6 (by omega) (by omega)) (by decide) ?_
  try simp only [rd_, up_, Nat.reduceEqDiff, reduceIte, and_self, and_true, true_and, and_false, false_and, if_true, if_false, hgl, h27, hcl, ht]
  refine e_run 1 rfl trivial ?_
  try simp only [rd_, up_, Nat.reduceEqDiff, reduceIte, and_self, and_true, true_and, and_false, false_and, if_true, if_false, hgl, h27, hcl, ht]
  refine e_if rfl (fun h32 => absurd h32 hb) (fun h32 => ?_)
  refine e_run 7 rfl ?_ ?_
  · ((try simp only [rd_, up_, Nat.reduceEqDiff, reduceIte, and_self, and_true, true_and, and_false, false_and, if_true, if_false, hgl, h27, hcl, ht]) <;> and_intros <;> first | trivial | exact in_n (by omega) (by omega) | omega | (unfold vp_in; decide) | (simp only [*]; omega))
  try simp only [rd_, up_, Nat.reduceEqDiff, reduceIte, and_self, and_true, true_and, and_false, false_and, if_true, if_false, hgl, h27, hcl, ht]
  refine e_calli rfl (rs_of (d + 1) hD c 6 (by omega) (by omega)) (by decide) ?_
  try simp only [rd_, up_, Nat.reduceEqDiff, reduceIte, and_self, and_true, true_and, and_false, false_and, if_true, if_false, hgl, h27, hcl, ht]
  refine e_if rfl (fun h48 => absurd h48 hb2) (fun h48 => ?_)
  refine e_run 3 rfl trivial ?_
  try simp only [rd_, up_, Nat.reduceEqDiff, reduceIte, and_self, and_true, true_and, and_false, false_and, if_true, if_false, hgl, h27, hcl, ht]
  refine e_callv rfl (rs_fail (d + 1) M 6 (nI c)) (by decide) ?_
  try simp only [rd_, up_, Nat.reduceEqDiff, reduceIte, and_self, and_true, true_and, and_false, false_and, if_true, if_false, hgl, h27, hcl, ht]
  exact e_ret rfl trivial rfl rfl
