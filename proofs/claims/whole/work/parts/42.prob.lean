/-! THE TRIAL: the reference's frames against the class's recursion -/
theorem up_self (M : mv_M) : mv_up M 0 0 6 (M 0 0 6) = M := by
  funext a b k
  simp only [rd_]
  by_cases h : a = 0 ∧ b = 0
  · rw [if_pos h, up_, h.1, h.2]
    split
    · next q => rw [q]
    · rfl
  · rw [if_neg h]
theorem up_up (M : mv_M) (x y : Int32) : mv_up (mv_up M 0 0 6 x) 0 0 6 y = mv_up M 0 0 6 y := by
  funext a b k
  simp only [rd_]
  by_cases h : a = 0 ∧ b = 0
  · rw [if_pos h, if_pos h, up_, up_]
    split
    · rfl
    · next q => simp [up_, q]
  · rw [if_neg h, if_neg h, if_neg h]
/-- the trial changes what is known to be sound alone -/
def mT6 (K : mT_) : Prop := ∀ (c : Nat) (u : Int32) (M : mv_M), ∃ x, (K c u M).2 = mv_up M 0 0 6 x
theorem mTe_6 {K : mT_} (hK : mT6 K) (x u : Int32) : ∀ (m j : Nat) (M : mv_M), ∃ y, (mTe K x u m j M).2 = mv_up M 0 0 6 y
  | 0, _, M => ⟨_, (up_self M).symm⟩
  | m + 1, j, M => by
    unfold mTe
    obtain ⟨z, hz⟩ := hK j u M
    split
    · split
      · exact ⟨z, hz⟩
      · obtain ⟨w, hw⟩ := mTe_6 hK x u m (j + 1) (K j u M).2
        exact ⟨w, by rw [hw, hz, up_up]⟩
    · exact mTe_6 hK x u m (j + 1) M
theorem mTd_6 {n : Nat} {K : mT_} (hK : mT6 K) (c i : Nat) (u : Int32) (M : mv_M) : ∃ y, (mTd n K c i u M).2 = mv_up M 0 0 6 y := by
  unfold mTd
  split
  · exact ⟨_, (up_self M).symm⟩
  · split
    · exact mTe_6 hK _ u n 0 M
    · split
      · exact ⟨_, (up_self M).symm⟩
      · split
        · exact ⟨_, (up_self M).symm⟩
        · exact hK _ u M
theorem mTl_6 {n : Nat} {K : mT_} (hK : mT6 K) (c : Nat) (u : Int32) : ∀ (m i : Nat) (M : mv_M), ∃ y, (mTl n K c u m i M).2 = mv_up M 0 0 6 y
  | 0, _, M => ⟨_, (up_self M).symm⟩
  | m + 1, i, M => by
    unfold mTl
    obtain ⟨z, hz⟩ := mTd_6 (n := n) hK c i u M
    split
    · exact ⟨z, hz⟩
    · obtain ⟨w, hw⟩ := mTl_6 (n := n) hK c u m (i + 1) (mTd n K c i u M).2
      exact ⟨w, by rw [hw, hz, up_up]⟩
theorem mTc_6 (n : Nat) : ∀ f : Nat, mT6 (mTc n f)
  | 0 => fun _ _ M => ⟨_, (up_self M).symm⟩
  | f + 1 => fun c u M => by
    rw [mTc_s]
    split
    · exact ⟨_, (up_self M).symm⟩
    · split
      · exact ⟨_, (up_self M).symm⟩
      · obtain ⟨w, hw⟩ := mTl_6 (mTc_6 n f) c (u ||| (1 <<< (nI c &&& 31))) (dc_ M c) 0 M
        unfold mTz
        split
        · exact ⟨w, hw⟩
        · exact ⟨_, by rw [hw, up_up]⟩
/-- but for the frames, M2 is M; the frames below g are as they were -/
def fq_ (g : Nat) (M M2 : mv_M) : Prop := (∀ x, x ≠ 22 → x ≠ 27 → x ≠ 28 → x ≠ 29 → M2 x = M x) ∧ (∀ o, o ≠ 10 → o ≠ 11 → M2 22 0 o = M 22 0 o) ∧ ∀ x i, x = 27 ∨ x = 28 ∨ x = 29 → i < g → M2 x 0 i = M x 0 i
theorem fq_refl (g : Nat) (M : mv_M) : fq_ g M M := ⟨fun _ _ _ _ _ => rfl, fun _ _ _ => rfl, fun _ _ _ _ => rfl⟩
theorem fq_trans {g : Nat} {M M1 M2 : mv_M} (h : fq_ g M M1) (h2 : fq_ g M1 M2) : fq_ g M M2 := ⟨fun x a b c d => (h2.1 x a b c d).trans (h.1 x a b c d), fun o a b => (h2.2.1 o a b).trans (h.2.1 o a b), fun x i a b => (h2.2.2 x i a b).trans (h.2.2 x i a b)⟩
theorem fq_le {g g2 : Nat} {M M2 : mv_M} (h : fq_ g2 M M2) (hg : g ≤ g2) : fq_ g M M2 := ⟨h.1, h.2.1, fun x i a b => h.2.2 x i a (by omega)⟩
theorem fq_up {g y : Nat} {M : mv_M} {v : Int32} (hy : y = 27 ∨ y = 28 ∨ y = 29) : fq_ g M (mv_up M y 0 g v) := ⟨fun x _ a b c => mv_up_ne (by omega), fun o _ _ => by rw [mv_up_ne (by omega)], fun x i _ hi => by rw [up_x, if_neg (fun q => absurd q.2 (by omega))]⟩
theorem fq_22 {g o : Nat} {M : mv_M} {v : Int32} (ho : o = 10 ∨ o = 11) : fq_ g M (mv_up M 22 0 o v) := ⟨fun x a _ _ _ => mv_up_ne a, fun p a b => by rw [up_x, if_neg (fun q => absurd q.2 (by omega))], fun x i a _ => by rw [mv_up_ne (by omega)]⟩
theorem fq_pu {g : Nat} {M : mv_M} {x : Int32} : fq_ g M (pu_ M g x) := fq_trans (fq_trans (fq_trans (fq_up (by omega)) (fq_up (by omega))) (fq_up (by omega))) (fq_22 (Or.inl rfl))
theorem dr_fq {n g : Nat} {C M M2 : mv_M} (h : dr_ C M n) (hq : fq_ g M M2) : dr_ C M2 n := dr_cg h rfl rfl rfl rfl (hq.2.1 1 (by omega) (by omega)) (hq.2.1 6 (by omega) (by omega)) (hq.1 23 (by omega) (by omega) (by omega) (by omega)) (hq.1 24 (by omega) (by omega) (by omega) (by omega)) (hq.1 25 (by omega) (by omega) (by omega) (by omega))
theorem dr_6 {n : Nat} {C M : mv_M} {x : Int32} (h : dr_ C M n) : dr_ (mv_up C 0 0 6 x) M n := h
theorem ff_eq {M M2 : mv_M} {x : Int32} : ∀ g : Nat, (∀ i, i < g → M2 27 0 i = M 27 0 i) → ff_ M2 x g = ff_ M x g
  | 0, _ => rfl
  | g + 1, h => by
    unfold ff_
    rw [ff_eq g (fun i hi => h i (by omega)), h g (by omega)]
/-- the trial at depth g, u under construction -/
def tl_ (n g : Nat) (u : Int32) (C M : mv_M) : Prop := dr_ C M n ∧ (M 22 0 10 = nI g ∧ g ≤ 20) ∧ M 22 0 11 = C 0 0 6 ∧ cn_ u n + g = n ∧ (∀ c, c < n → ii_ u c = ff_ M (nI c) g) ∧ ∀ c, c < n → ii_ u c = true → ii_ (C 0 0 6) c = false
/-- the loop of problem comes from M to M2, with w -/
def pr4_ (w : Int32) (M M2 : mv_M) : Prop := ∀ (y : mv_V) (R : mv_O) (M9 : mv_M), er_ 9 0 kX4_problem (43, [some (mv_R 22 0), some y, some (mv_I w)], [], M2) R M9 → er_ 9 0 kX4_problem (43, [some (mv_R 22 0), some y, some (mv_I 0)], [], M) R M9
theorem pr4_refl (M : mv_M) : pr4_ 0 M M := fun _ _ _ h => h
theorem pr4_trans {w : Int32} {M M1 M2 : mv_M} (h : pr4_ 0 M M1) (h2 : pr4_ w M1 M2) : pr4_ w M M2 := fun y R M9 h9 => h y R M9 (h2 y R M9 h9)
theorem pr4_step {w : Int32} {M M1 : mv_M} {g : Nat} (hg : M 22 0 10 = nI (g + 1)) (h21 : g ≤ 21) (h : ev_ 8 kX4_wouldGoOn [mv_R 22 0] M (Sum.inl (some (mv_I w))) M1) : pr4_ w M M1 := by
  intro y R M9 hz9
  have hgt : ¬ nI (g + 1) ≤ 0 := nI_ge (a := 0) (by omega) (by omega)
  refine e_run 2 rfl trivial ?_
  try simp only [hg]
  refine e_if rfl (fun h47 => absurd h47 hgt) (fun h47 => ?_)
  refine e_run 1 rfl trivial ?_
  try simp only [hg]
  refine e_if rfl (fun h51 => absurd rfl h51) (fun h51 => ?_)
  refine e_run 1 rfl trivial ?_
  try simp only [hg]
  refine e_calli rfl (h) (by decide) ?_
  try simp only [hg]
  refine e_run 2 rfl trivial ?_
  try simp only [hg]
  exact hz9
/-- a bit taken off -/
theorem bt_off {j : Nat} (hj : j < 32) (y : Int32) (k : Nat) (hk : k < 32) : bt (y &&& ((1 <<< (nI j &&& 31)) ^^^ (-1))) k = (bt y k && !decide (k = j)) := by
  rw [b_and, b_xor, bt_one hj, b_m1 k hk]
  cases decide (k = j) <;> rfl
theorem kn_iff (x : Int32) (j : Nat) : (x >>> (nI j &&& 31)) &&& 1 = 1 ↔ ii_ x j = true := by
  rw [sh_iff]
  unfold ii_
  simp
def of4_ (y : Int32) (j : Nat) : Int32 := y &&& ((1 <<< (nI j &&& 31)) ^^^ (-1))
theorem wg_k (d g j : Nat) {M : mv_M} (hg : g < 21) (hj : j < 32) (hdp : M 22 0 10 = nI (g + 1)) (hy : ¬ M 29 0 g = 0) (hl : lo_ (M 29 0 g) j) (hk : ii_ (M 22 0 11) j = true) : ev_ (d + 2) kX4_wouldGoOn [mv_R 22 0] M (Sum.inl (some (mv_I 0))) (mv_up M 29 0 g (of4_ (M 29 0 g) j)) := by
  have hgl : (nI g).toNatClampNeg = g := nI_clamp (by omega)
  have hkk := (kn_iff (M 22 0 11) j).mpr hk
  refine e_ev rfl rfl ?_
  refine e_run 9 rfl ?_ ?_
  · ((try simp only [rd_, up_, Nat.reduceEqDiff, reduceIte, and_self, and_true, true_and, and_false, false_and, if_true, if_false, hdp, nI_pred, hgl]) <;> and_intros <;> first | trivial | exact in_n (by omega) (by omega) | omega | (unfold vp_in; decide) | (simp only [*]; omega))
  try simp only [rd_, up_, Nat.reduceEqDiff, reduceIte, and_self, and_true, true_and, and_false, false_and, if_true, if_false, hdp, nI_pred, hgl]
  refine e_if rfl (fun h13 => absurd h13 hy) (fun h13 => ?_)
  refine e_run 4 rfl ?_ ?_
  · ((try simp only [rd_, up_, Nat.reduceEqDiff, reduceIte, and_self, and_true, true_and, and_false, false_and, if_true, if_false, hdp, nI_pred, hgl]) <;> and_intros <;> first | trivial | exact in_n (by omega) (by omega) | omega | (unfold vp_in; decide) | (simp only [*]; omega))
  try simp only [rd_, up_, Nat.reduceEqDiff, reduceIte, and_self, and_true, true_and, and_false, false_and, if_true, if_false, hdp, nI_pred, hgl]
  refine e_calli rfl (rs_lowest (d + 1) M _ j hj hl) (by decide) ?_
  try simp only [rd_, up_, Nat.reduceEqDiff, reduceIte, and_self, and_true, true_and, and_false, false_and, if_true, if_false, hdp, nI_pred, hgl]
  refine e_run 20 rfl ?_ ?_
  · ((try simp only [rd_, up_, Nat.reduceEqDiff, reduceIte, and_self, and_true, true_and, and_false, false_and, if_true, if_false, hdp, nI_pred, hgl]) <;> and_intros <;> first | trivial | exact in_n (by omega) (by omega) | omega | (unfold vp_in; decide) | (simp only [*]; omega))
  try simp only [rd_, up_, Nat.reduceEqDiff, reduceIte, and_self, and_true, true_and, and_false, false_and, if_true, if_false, hdp, nI_pred, hgl]
  refine e_if rfl (fun h49 => absurd hkk h49) (fun h49 => ?_)
  refine e_run 1 rfl trivial ?_
  try simp only [rd_, up_, Nat.reduceEqDiff, reduceIte, and_self, and_true, true_and, and_false, false_and, if_true, if_false, hdp, nI_pred, hgl]
  exact e_ret rfl trivial rfl rfl
theorem wg_c (d g j : Nat) {M : mv_M} (hg : g < 21) (hj : j < 32) (hdp : M 22 0 10 = nI (g + 1)) (hy : ¬ M 29 0 g = 0) (hl : lo_ (M 29 0 g) j) (hk : ii_ (M 22 0 11) j = false) (hf : ff_ M (nI j) (g + 1) = true) : ev_ (d + 2) kX4_wouldGoOn [mv_R 22 0] M (Sum.inl (some (mv_I 3))) (mv_up M 29 0 g (of4_ (M 29 0 g) j)) := by
  have hgl : (nI g).toNatClampNeg = g := nI_clamp (by omega)
  have hkk : ¬ (M 22 0 11 >>> (nI j &&& 31)) &&& 1 = 1 := fun q => by rw [(kn_iff _ j).mp q] at hk; cases hk
  have hfr := rs_isInFrames (d + 1) (mv_up M 29 0 g (of4_ (M 29 0 g) j)) (nI j) (g + 1) hdp (by omega)
  rw [ff_eq (M := M) (g + 1) (fun i _ => by rw [mv_up_ne (by omega)]), hf] at hfr
  refine e_ev rfl rfl ?_
  refine e_run 9 rfl ?_ ?_
  · ((try simp only [rd_, up_, Nat.reduceEqDiff, reduceIte, and_self, and_true, true_and, and_false, false_and, if_true, if_false, hdp, nI_pred, hgl]) <;> and_intros <;> first | trivial | exact in_n (by omega) (by omega) | omega | (unfold vp_in; decide) | (simp only [*]; omega))
  try simp only [rd_, up_, Nat.reduceEqDiff, reduceIte, and_self, and_true, true_and, and_false, false_and, if_true, if_false, hdp, nI_pred, hgl]
  refine e_if rfl (fun h13 => absurd h13 hy) (fun h13 => ?_)
  refine e_run 4 rfl ?_ ?_
  · ((try simp only [rd_, up_, Nat.reduceEqDiff, reduceIte, and_self, and_true, true_and, and_false, false_and, if_true, if_false, hdp, nI_pred, hgl]) <;> and_intros <;> first | trivial | exact in_n (by omega) (by omega) | omega | (unfold vp_in; decide) | (simp only [*]; omega))
  try simp only [rd_, up_, Nat.reduceEqDiff, reduceIte, and_self, and_true, true_and, and_false, false_and, if_true, if_false, hdp, nI_pred, hgl]
  refine e_calli rfl (rs_lowest (d + 1) M _ j hj hl) (by decide) ?_
  try simp only [rd_, up_, Nat.reduceEqDiff, reduceIte, and_self, and_true, true_and, and_false, false_and, if_true, if_false, hdp, nI_pred, hgl]
  refine e_run 20 rfl ?_ ?_
  · ((try simp only [rd_, up_, Nat.reduceEqDiff, reduceIte, and_self, and_true, true_and, and_false, false_and, if_true, if_false, hdp, nI_pred, hgl]) <;> and_intros <;> first | trivial | exact in_n (by omega) (by omega) | omega | (unfold vp_in; decide) | (simp only [*]; omega))
  try simp only [rd_, up_, Nat.reduceEqDiff, reduceIte, and_self, and_true, true_and, and_false, false_and, if_true, if_false, hdp, nI_pred, hgl]
  refine e_if rfl (fun h49 => ?_) (fun h49 => absurd h49 hkk)
  refine e_run 2 rfl trivial ?_
  try simp only [rd_, up_, Nat.reduceEqDiff, reduceIte, and_self, and_true, true_and, and_false, false_and, if_true, if_false, hdp, nI_pred, hgl]
  refine e_calli rfl (hfr) (by decide) ?_
  try simp only [rd_, up_, Nat.reduceEqDiff, reduceIte, and_self, and_true, true_and, and_false, false_and, if_true, if_false, hdp, nI_pred, hgl]
  refine e_if rfl (fun h59 => absurd h59 (by decide)) (fun h59 => ?_)
  refine e_run 1 rfl trivial ?_
  try simp only [rd_, up_, Nat.reduceEqDiff, reduceIte, and_self, and_true, true_and, and_false, false_and, if_true, if_false, hdp, nI_pred, hgl]
  exact e_ret rfl trivial rfl rfl
theorem wg_p (d g j : Nat) {M : mv_M} (hg : g < 20) (hj : j < 32) (hdp : M 22 0 10 = nI (g + 1)) (hy : ¬ M 29 0 g = 0) (hl : lo_ (M 29 0 g) j) (hk : ii_ (M 22 0 11) j = false) (hf : ff_ M (nI j) (g + 1) = false) : ev_ (d + 2) kX4_wouldGoOn [mv_R 22 0] M (Sum.inl (some (mv_I 0))) (pu_ (mv_up M 29 0 g (of4_ (M 29 0 g) j)) (g + 1) (nI j)) := by
  have hgl : (nI g).toNatClampNeg = g := nI_clamp (by omega)
  have hkk : ¬ (M 22 0 11 >>> (nI j &&& 31)) &&& 1 = 1 := fun q => by rw [(kn_iff _ j).mp q] at hk; cases hk
  have hfr := rs_isInFrames (d + 1) (mv_up M 29 0 g (of4_ (M 29 0 g) j)) (nI j) (g + 1) hdp (by omega)
  rw [ff_eq (M := M) (g + 1) (fun i _ => by rw [mv_up_ne (by omega)]), hf] at hfr
  have hpu := rs_push (d + 1) (mv_up M 29 0 g (of4_ (M 29 0 g) j)) (nI j) (g + 1) hdp (by omega)
  refine e_ev rfl rfl ?_
  refine e_run 9 rfl ?_ ?_
  · ((try simp only [rd_, up_, Nat.reduceEqDiff, reduceIte, and_self, and_true, true_and, and_false, false_and, if_true, if_false, hdp, nI_pred, hgl]) <;> and_intros <;> first | trivial | exact in_n (by omega) (by omega) | omega | (unfold vp_in; decide) | (simp only [*]; omega))
  try simp only [rd_, up_, Nat.reduceEqDiff, reduceIte, and_self, and_true, true_and, and_false, false_and, if_true, if_false, hdp, nI_pred, hgl]
  refine e_if rfl (fun h13 => absurd h13 hy) (fun h13 => ?_)
  refine e_run 4 rfl ?_ ?_
  · ((try simp only [rd_, up_, Nat.reduceEqDiff, reduceIte, and_self, and_true, true_and, and_false, false_and, if_true, if_false, hdp, nI_pred, hgl]) <;> and_intros <;> first | trivial | exact in_n (by omega) (by omega) | omega | (unfold vp_in; decide) | (simp only [*]; omega))
  try simp only [rd_, up_, Nat.reduceEqDiff, reduceIte, and_self, and_true, true_and, and_false, false_and, if_true, if_false, hdp, nI_pred, hgl]
  refine e_calli rfl (rs_lowest (d + 1) M _ j hj hl) (by decide) ?_
  try simp only [rd_, up_, Nat.reduceEqDiff, reduceIte, and_self, and_true, true_and, and_false, false_and, if_true, if_false, hdp, nI_pred, hgl]
  refine e_run 20 rfl ?_ ?_
  · ((try simp only [rd_, up_, Nat.reduceEqDiff, reduceIte, and_self, and_true, true_and, and_false, false_and, if_true, if_false, hdp, nI_pred, hgl]) <;> and_intros <;> first | trivial | exact in_n (by omega) (by omega) | omega | (unfold vp_in; decide) | (simp only [*]; omega))
  try simp only [rd_, up_, Nat.reduceEqDiff, reduceIte, and_self, and_true, true_and, and_false, false_and, if_true, if_false, hdp, nI_pred, hgl]
  refine e_if rfl (fun h49 => ?_) (fun h49 => absurd h49 hkk)
  refine e_run 2 rfl trivial ?_
  try simp only [rd_, up_, Nat.reduceEqDiff, reduceIte, and_self, and_true, true_and, and_false, false_and, if_true, if_false, hdp, nI_pred, hgl]
  refine e_calli rfl (hfr) (by decide) ?_
  try simp only [rd_, up_, Nat.reduceEqDiff, reduceIte, and_self, and_true, true_and, and_false, false_and, if_true, if_false, hdp, nI_pred, hgl]
  refine e_if rfl (fun h59 => ?_) (fun h59 => absurd rfl h59)
  refine e_run 2 rfl trivial ?_
  try simp only [rd_, up_, Nat.reduceEqDiff, reduceIte, and_self, and_true, true_and, and_false, false_and, if_true, if_false, hdp, nI_pred, hgl]
  refine e_callv rfl (hpu) (by decide) ?_
  try simp only [rd_, up_, Nat.reduceEqDiff, reduceIte, and_self, and_true, true_and, and_false, false_and, if_true, if_false, hdp, nI_pred, hgl]
  refine e_run 1 rfl trivial ?_
  try simp only [rd_, up_, Nat.reduceEqDiff, reduceIte, and_self, and_true, true_and, and_false, false_and, if_true, if_false, hdp, nI_pred, hgl]
  exact e_ret rfl trivial rfl rfl
theorem wg_d (d g c : Nat) {M : mv_M} (hg : g < 21) (hc : c < 20) (hdp : M 22 0 10 = nI (g + 1)) (hy : M 29 0 g = 0) (h27 : M 27 0 g = nI c) (h28 : M 28 0 g = M 24 0 c) : ev_ (d + 2) kX4_wouldGoOn [mv_R 22 0] M (Sum.inl (some (mv_I 0))) (mv_up (mv_up M 22 0 11 (M 22 0 11 ||| (1 <<< (nI c &&& 31)))) 22 0 10 (nI g)) := by
  have hgl : (nI g).toNatClampNeg = g := nI_clamp (by omega)
  have hcl : (nI c).toNatClampNeg = c := nI_clamp (by omega)
  refine e_ev rfl rfl ?_
  refine e_run 9 rfl ?_ ?_
  · ((try simp only [rd_, up_, Nat.reduceEqDiff, reduceIte, and_self, and_true, true_and, and_false, false_and, if_true, if_false, hdp, nI_pred, hgl, h27, hcl]) <;> and_intros <;> first | trivial | exact in_n (by omega) (by omega) | omega | (unfold vp_in; decide) | (simp only [*]; omega))
  try simp only [rd_, up_, Nat.reduceEqDiff, reduceIte, and_self, and_true, true_and, and_false, false_and, if_true, if_false, hdp, nI_pred, hgl, h27, hcl]
  refine e_if rfl (fun h13 => ?_) (fun h13 => absurd hy h13)
  refine e_run 11 rfl ?_ ?_
  · ((try simp only [rd_, up_, Nat.reduceEqDiff, reduceIte, and_self, and_true, true_and, and_false, false_and, if_true, if_false, hdp, nI_pred, hgl, h27, hcl]) <;> and_intros <;> first | trivial | exact in_n (by omega) (by omega) | omega | (unfold vp_in; decide) | (simp only [*]; omega))
  try simp only [rd_, up_, Nat.reduceEqDiff, reduceIte, and_self, and_true, true_and, and_false, false_and, if_true, if_false, hdp, nI_pred, hgl, h27, hcl]
  refine e_if rfl (fun h88 => absurd h28 h88) (fun h88 => ?_)
  refine e_run 18 rfl ?_ ?_
  · ((try simp only [rd_, up_, Nat.reduceEqDiff, reduceIte, and_self, and_true, true_and, and_false, false_and, if_true, if_false, hdp, nI_pred, hgl, h27, hcl]) <;> and_intros <;> first | trivial | exact in_n (by omega) (by omega) | omega | (unfold vp_in; decide) | (simp only [*]; omega))
  try simp only [rd_, up_, Nat.reduceEqDiff, reduceIte, and_self, and_true, true_and, and_false, false_and, if_true, if_false, hdp, nI_pred, hgl, h27, hcl]
  exact e_ret rfl trivial rfl rfl
theorem wg_f (d n g c i : Nat) {C M : mv_M} (hD : dr_ C M n) (hg : g < 21) (hc : c < 20) (hi : i < 6) (hdp : M 22 0 10 = nI (g + 1)) (hy : M 29 0 g = 0) (h27 : M 27 0 g = nI c) (h28 : M 28 0 g = nI i) (hne : ¬ nI i = M 24 0 c) (hw : wt_ C n c i < 0) : ev_ (d + 5) kX4_wouldGoOn [mv_R 22 0] M (Sum.inl (some (mv_I (-(wt_ C n c i))))) (mv_up M 28 0 g (nI (i + 1))) := by
  have hgl : (nI g).toNatClampNeg = g := nI_clamp (by omega)
  have hcl : (nI c).toNatClampNeg = c := nI_clamp (by omega)
  refine e_ev rfl rfl ?_
  refine e_run 9 rfl ?_ ?_
  · ((try simp only [rd_, up_, Nat.reduceEqDiff, reduceIte, and_self, and_true, true_and, and_false, false_and, if_true, if_false, hdp, nI_pred, nI_1, hgl, h27, h28, hcl]) <;> and_intros <;> first | trivial | exact in_n (by omega) (by omega) | omega | (unfold vp_in; decide) | (simp only [*]; omega))
  try simp only [rd_, up_, Nat.reduceEqDiff, reduceIte, and_self, and_true, true_and, and_false, false_and, if_true, if_false, hdp, nI_pred, nI_1, hgl, h27, h28, hcl]
  refine e_if rfl (fun h13 => ?_) (fun h13 => absurd hy h13)
  refine e_run 11 rfl ?_ ?_
  · ((try simp only [rd_, up_, Nat.reduceEqDiff, reduceIte, and_self, and_true, true_and, and_false, false_and, if_true, if_false, hdp, nI_pred, nI_1, hgl, h27, h28, hcl]) <;> and_intros <;> first | trivial | exact in_n (by omega) (by omega) | omega | (unfold vp_in; decide) | (simp only [*]; omega))
  try simp only [rd_, up_, Nat.reduceEqDiff, reduceIte, and_self, and_true, true_and, and_false, false_and, if_true, if_false, hdp, nI_pred, nI_1, hgl, h27, h28, hcl]
  refine e_if rfl (fun h88 => ?_) (fun h88 => absurd h88 hne)
  refine e_run 9 rfl ?_ ?_
  · ((try simp only [rd_, up_, Nat.reduceEqDiff, reduceIte, and_self, and_true, true_and, and_false, false_and, if_true, if_false, hdp, nI_pred, nI_1, hgl, h27, h28, hcl]) <;> and_intros <;> first | trivial | exact in_n (by omega) (by omega) | omega | (unfold vp_in; decide) | (simp only [*]; omega))
  try simp only [rd_, up_, Nat.reduceEqDiff, reduceIte, and_self, and_true, true_and, and_false, false_and, if_true, if_false, hdp, nI_pred, nI_1, hgl, h27, h28, hcl]
  refine e_calli rfl (rs_wanted d hD c i hc hi) (by decide) ?_
  try simp only [rd_, up_, Nat.reduceEqDiff, reduceIte, and_self, and_true, true_and, and_false, false_and, if_true, if_false, hdp, nI_pred, nI_1, hgl, h27, h28, hcl]
  refine e_run 10 rfl ?_ ?_
  · ((try simp only [rd_, up_, Nat.reduceEqDiff, reduceIte, and_self, and_true, true_and, and_false, false_and, if_true, if_false, hdp, nI_pred, nI_1, hgl, h27, h28, hcl]) <;> and_intros <;> first | trivial | exact in_n (by omega) (by omega) | omega | (unfold vp_in; decide) | (simp only [*]; omega))
  try simp only [rd_, up_, Nat.reduceEqDiff, reduceIte, and_self, and_true, true_and, and_false, false_and, if_true, if_false, hdp, nI_pred, nI_1, hgl, h27, h28, hcl]
  refine e_if rfl (fun h148 => absurd h148 (Int32.not_le.mpr hw)) (fun h148 => ?_)
  refine e_run 2 rfl trivial ?_
  try simp only [rd_, up_, Nat.reduceEqDiff, reduceIte, and_self, and_true, true_and, and_false, false_and, if_true, if_false, hdp, nI_pred, nI_1, hgl, h27, h28, hcl]
  exact e_ret rfl trivial rfl rfl
theorem wg_w (d n g c i : Nat) {C M : mv_M} (hD : dr_ C M n) (hg : g < 21) (hc : c < 20) (hi : i < 6) (hdp : M 22 0 10 = nI (g + 1)) (hy : M 29 0 g = 0) (h27 : M 27 0 g = nI c) (h28 : M 28 0 g = nI i) (hne : ¬ nI i = M 24 0 c) (hw : ¬ wt_ C n c i < 0) : ev_ (d + 5) kX4_wouldGoOn [mv_R 22 0] M (Sum.inl (some (mv_I 0))) (mv_up (mv_up M 28 0 g (nI (i + 1))) 29 0 g (wt_ C n c i)) := by
  have hgl : (nI g).toNatClampNeg = g := nI_clamp (by omega)
  have hcl : (nI c).toNatClampNeg = c := nI_clamp (by omega)
  refine e_ev rfl rfl ?_
  refine e_run 9 rfl ?_ ?_
  · ((try simp only [rd_, up_, Nat.reduceEqDiff, reduceIte, and_self, and_true, true_and, and_false, false_and, if_true, if_false, hdp, nI_pred, nI_1, hgl, h27, h28, hcl]) <;> and_intros <;> first | trivial | exact in_n (by omega) (by omega) | omega | (unfold vp_in; decide) | (simp only [*]; omega))
  try simp only [rd_, up_, Nat.reduceEqDiff, reduceIte, and_self, and_true, true_and, and_false, false_and, if_true, if_false, hdp, nI_pred, nI_1, hgl, h27, h28, hcl]
  refine e_if rfl (fun h13 => ?_) (fun h13 => absurd hy h13)
  refine e_run 11 rfl ?_ ?_
  · ((try simp only [rd_, up_, Nat.reduceEqDiff, reduceIte, and_self, and_true, true_and, and_false, false_and, if_true, if_false, hdp, nI_pred, nI_1, hgl, h27, h28, hcl]) <;> and_intros <;> first | trivial | exact in_n (by omega) (by omega) | omega | (unfold vp_in; decide) | (simp only [*]; omega))
  try simp only [rd_, up_, Nat.reduceEqDiff, reduceIte, and_self, and_true, true_and, and_false, false_and, if_true, if_false, hdp, nI_pred, nI_1, hgl, h27, h28, hcl]
  refine e_if rfl (fun h88 => ?_) (fun h88 => absurd h88 hne)
  refine e_run 9 rfl ?_ ?_
  · ((try simp only [rd_, up_, Nat.reduceEqDiff, reduceIte, and_self, and_true, true_and, and_false, false_and, if_true, if_false, hdp, nI_pred, nI_1, hgl, h27, h28, hcl]) <;> and_intros <;> first | trivial | exact in_n (by omega) (by omega) | omega | (unfold vp_in; decide) | (simp only [*]; omega))
  try simp only [rd_, up_, Nat.reduceEqDiff, reduceIte, and_self, and_true, true_and, and_false, false_and, if_true, if_false, hdp, nI_pred, nI_1, hgl, h27, h28, hcl]
  refine e_calli rfl (rs_wanted d hD c i hc hi) (by decide) ?_
  try simp only [rd_, up_, Nat.reduceEqDiff, reduceIte, and_self, and_true, true_and, and_false, false_and, if_true, if_false, hdp, nI_pred, nI_1, hgl, h27, h28, hcl]
  refine e_run 10 rfl ?_ ?_
  · ((try simp only [rd_, up_, Nat.reduceEqDiff, reduceIte, and_self, and_true, true_and, and_false, false_and, if_true, if_false, hdp, nI_pred, nI_1, hgl, h27, h28, hcl]) <;> and_intros <;> first | trivial | exact in_n (by omega) (by omega) | omega | (unfold vp_in; decide) | (simp only [*]; omega))
  try simp only [rd_, up_, Nat.reduceEqDiff, reduceIte, and_self, and_true, true_and, and_false, false_and, if_true, if_false, hdp, nI_pred, nI_1, hgl, h27, h28, hcl]
  refine e_if rfl (fun h148 => ?_) (fun h148 => absurd (Int32.not_lt.mp hw) h148)
  refine e_run 6 rfl ?_ ?_
  · ((try simp only [rd_, up_, Nat.reduceEqDiff, reduceIte, and_self, and_true, true_and, and_false, false_and, if_true, if_false, hdp, nI_pred, nI_1, hgl, h27, h28, hcl]) <;> and_intros <;> first | trivial | exact in_n (by omega) (by omega) | omega | (unfold vp_in; decide) | (simp only [*]; omega))
  try simp only [rd_, up_, Nat.reduceEqDiff, reduceIte, and_self, and_true, true_and, and_false, false_and, if_true, if_false, hdp, nI_pred, nI_1, hgl, h27, h28, hcl]
  exact e_ret rfl trivial rfl rfl
