/-! THE REFERENCE'S STEPS -/
theorem rs_goOn_r (d g : Nat) {M M1 : mv_M} (hg : g < 21) (hdp : M 22 0 10 = nI (g + 1)) (h39 : ¬ M 39 0 g = 0) (h : ev_ d kX4_receive [mv_R 22 0, mv_I (nI g)] M (Sum.inl none) M1) : ev_ (d + 1) kX4_goOn [mv_R 22 0] M (Sum.inl none) M1 := by
  have hgl : (nI g).toNatClampNeg = g := nI_clamp (by omega)
  refine e_ev rfl rfl ?_
  refine e_run 9 rfl ?_ ?_
  · ((try simp only [hdp, nI_pred, hgl]) <;> and_intros <;> first | trivial | exact in_n (by omega) (by omega) | omega | (unfold vp_in; decide) | (simp only [*]; omega))
  try simp only [hdp, nI_pred, hgl]
  refine e_if rfl (fun h13 => absurd h13 h39) (fun h13 => ?_)
  refine e_run 2 rfl trivial ?_
  try simp only [hdp, nI_pred, hgl]
  refine e_callv rfl (h) (by decide) ?_
  try simp only [hdp, nI_pred, hgl]
  refine e_run 1 rfl trivial ?_
  try simp only [hdp, nI_pred, hgl]
  exact e_ret rfl trivial rfl rfl
theorem rs_goOn_c (d g c : Nat) {M M1 : mv_M} (hg : g < 21) (hc : c < 20) (hdp : M 22 0 10 = nI (g + 1)) (h39 : M 39 0 g = 0) (h27 : M 27 0 g = nI c) (h28 : M 28 0 g = M 24 0 c) (h : ev_ d kX4_complete [mv_R 22 0, mv_I (nI g)] M (Sum.inl none) M1) : ev_ (d + 1) kX4_goOn [mv_R 22 0] M (Sum.inl none) M1 := by
  have hgl : (nI g).toNatClampNeg = g := nI_clamp (by omega)
  have hcl : (nI c).toNatClampNeg = c := nI_clamp (by omega)
  refine e_ev rfl rfl ?_
  refine e_run 9 rfl ?_ ?_
  · ((try simp only [hdp, nI_pred, hgl, h27, hcl]) <;> and_intros <;> first | trivial | exact in_n (by omega) (by omega) | omega | (unfold vp_in; decide) | (simp only [*]; omega))
  try simp only [hdp, nI_pred, hgl, h27, hcl]
  refine e_if rfl (fun h13 => ?_) (fun h13 => absurd h39 h13)
  refine e_run 11 rfl ?_ ?_
  · ((try simp only [hdp, nI_pred, hgl, h27, hcl]) <;> and_intros <;> first | trivial | exact in_n (by omega) (by omega) | omega | (unfold vp_in; decide) | (simp only [*]; omega))
  try simp only [hdp, nI_pred, hgl, h27, hcl]
  refine e_if rfl (fun h41 => absurd h28 h41) (fun h41 => ?_)
  refine e_run 2 rfl trivial ?_
  try simp only [hdp, nI_pred, hgl, h27, hcl]
  refine e_callv rfl (h) (by decide) ?_
  try simp only [hdp, nI_pred, hgl, h27, hcl]
  refine e_run 1 rfl trivial ?_
  try simp only [hdp, nI_pred, hgl, h27, hcl]
  exact e_ret rfl trivial rfl rfl
theorem rs_goOn_s (d g c : Nat) {M M1 : mv_M} (hg : g < 21) (hc : c < 20) (hdp : M 22 0 10 = nI (g + 1)) (h39 : M 39 0 g = 0) (h27 : M 27 0 g = nI c) (h28 : ¬ M 28 0 g = M 24 0 c) (h : ev_ d kX4_serve [mv_R 22 0, mv_I (nI g)] M (Sum.inl none) M1) : ev_ (d + 1) kX4_goOn [mv_R 22 0] M (Sum.inl none) M1 := by
  have hgl : (nI g).toNatClampNeg = g := nI_clamp (by omega)
  have hcl : (nI c).toNatClampNeg = c := nI_clamp (by omega)
  refine e_ev rfl rfl ?_
  refine e_run 9 rfl ?_ ?_
  · ((try simp only [hdp, nI_pred, hgl, h27, hcl]) <;> and_intros <;> first | trivial | exact in_n (by omega) (by omega) | omega | (unfold vp_in; decide) | (simp only [*]; omega))
  try simp only [hdp, nI_pred, hgl, h27, hcl]
  refine e_if rfl (fun h13 => ?_) (fun h13 => absurd h39 h13)
  refine e_run 11 rfl ?_ ?_
  · ((try simp only [hdp, nI_pred, hgl, h27, hcl]) <;> and_intros <;> first | trivial | exact in_n (by omega) (by omega) | omega | (unfold vp_in; decide) | (simp only [*]; omega))
  try simp only [hdp, nI_pred, hgl, h27, hcl]
  refine e_if rfl (fun h41 => ?_) (fun h41 => absurd h41 h28)
  refine e_run 2 rfl trivial ?_
  try simp only [hdp, nI_pred, hgl, h27, hcl]
  refine e_callv rfl (h) (by decide) ?_
  try simp only [hdp, nI_pred, hgl, h27, hcl]
  exact e_ret rfl trivial rfl rfl
/-- received, and one more to be obtained -/
theorem rs_receive_m (d g j : Nat) {M M1 : mv_M} (hg : g < 21) (hj : j < 32) (hy : ¬ M 29 0 g &&& (M 29 0 g - 1) = 0) (hl : lo_ (M 29 0 g &&& (M 29 0 g - 1)) j) (h : ev_ d kX4_obtain [mv_R 22 0, mv_I (nI j)] (mv_up M 29 0 g (M 29 0 g &&& (M 29 0 g - 1))) (Sum.inl none) M1) : ev_ (d + 1) kX4_receive [mv_R 22 0, mv_I (nI g)] M (Sum.inl none) M1 := by
  have hgl : (nI g).toNatClampNeg = g := nI_clamp (by omega)
  refine e_ev rfl rfl ?_
  refine e_run 17 rfl ?_ ?_
  · ((try simp only [rd_, up_, Nat.reduceEqDiff, reduceIte, and_self, and_true, true_and, and_false, false_and, if_true, if_false, hgl]) <;> and_intros <;> first | trivial | exact in_n (by omega) (by omega) | omega | (unfold vp_in; decide) | (simp only [*]; omega))
  try simp only [rd_, up_, Nat.reduceEqDiff, reduceIte, and_self, and_true, true_and, and_false, false_and, if_true, if_false, hgl]
  refine e_if rfl (fun h23 => absurd h23 hy) (fun h23 => ?_)
  refine e_run 5 rfl ?_ ?_
  · ((try simp only [rd_, up_, Nat.reduceEqDiff, reduceIte, and_self, and_true, true_and, and_false, false_and, if_true, if_false, hgl]) <;> and_intros <;> first | trivial | exact in_n (by omega) (by omega) | omega | (unfold vp_in; decide) | (simp only [*]; omega))
  try simp only [rd_, up_, Nat.reduceEqDiff, reduceIte, and_self, and_true, true_and, and_false, false_and, if_true, if_false, hgl]
  refine e_calli rfl (rs_lowest d _ _ j hj hl) (by decide) ?_
  try simp only [rd_, up_, Nat.reduceEqDiff, reduceIte, and_self, and_true, true_and, and_false, false_and, if_true, if_false, hgl]
  refine e_callv rfl (h) (by decide) ?_
  try simp only [rd_, up_, Nat.reduceEqDiff, reduceIte, and_self, and_true, true_and, and_false, false_and, if_true, if_false, hgl]
  exact e_ret rfl trivial rfl rfl
/-- received, and it was the last -/
theorem rs_receive_l (d n g c i : Nat) {C M : mv_M} (hD : dr_ C M n) (hg : g < 21) (hc : c < 20) (hi : i < 6) (h27 : M 27 0 g = nI c) (h28 : M 28 0 g = nI i) (hy : M 29 0 g &&& (M 29 0 g - 1) = 0) : ev_ (d + 1) kX4_receive [mv_R 22 0, mv_I (nI g)] M (Sum.inl none) (ij4_ (mv_up (mv_up M 29 0 g (M 29 0 g &&& (M 29 0 g - 1))) 39 0 g 0) g i (if C 20 c (3 * i + 2) = 2 then M 40 0 g else M 22 0 30)) := by
  have hgl : (nI g).toNatClampNeg = g := nI_clamp (by omega)
  refine e_ev rfl rfl ?_
  have hD2 : dr_ C (mv_up (mv_up M 29 0 g (M 29 0 g &&& (M 29 0 g - 1))) 39 0 g 0) n := hD
  refine e_run 17 rfl ?_ ?_
  · ((try simp only [rd_, up_, Nat.reduceEqDiff, reduceIte, and_self, and_true, true_and, and_false, false_and, if_true, if_false, hgl, h27, h28]) <;> and_intros <;> first | trivial | exact in_n (by omega) (by omega) | omega | (unfold vp_in; decide) | (simp only [*]; omega))
  try simp only [rd_, up_, Nat.reduceEqDiff, reduceIte, and_self, and_true, true_and, and_false, false_and, if_true, if_false, hgl, h27, h28]
  refine e_if rfl (fun h23 => ?_) (fun h23 => absurd hy h23)
  refine e_run 15 rfl ?_ ?_
  · ((try simp only [rd_, up_, Nat.reduceEqDiff, reduceIte, and_self, and_true, true_and, and_false, false_and, if_true, if_false, hgl, h27, h28]) <;> and_intros <;> first | trivial | exact in_n (by omega) (by omega) | omega | (unfold vp_in; decide) | (simp only [*]; omega))
  try simp only [rd_, up_, Nat.reduceEqDiff, reduceIte, and_self, and_true, true_and, and_false, false_and, if_true, if_false, hgl, h27, h28]
  refine e_calli rfl (rs_dependAt d hD2 c i 2 hc hi (by omega)) (by decide) ?_
  try simp only [rd_, up_, Nat.reduceEqDiff, reduceIte, and_self, and_true, true_and, and_false, false_and, if_true, if_false, hgl, h27, h28]
  refine e_run 5 rfl trivial ?_
  try simp only [rd_, up_, Nat.reduceEqDiff, reduceIte, and_self, and_true, true_and, and_false, false_and, if_true, if_false, hgl, h27, h28]
  refine e_if rfl (fun h69 => ?_) (fun h69 => ?_)
  · rw [if_neg h69]
    refine e_run 2 rfl trivial ?_
    try simp only [rd_, up_, Nat.reduceEqDiff, reduceIte, and_self, and_true, true_and, and_false, false_and, if_true, if_false, hgl, h27, h28]
    refine e_callv rfl (rs_inject d g i _ _ hg hi h28) (by decide) ?_
    try simp only [rd_, up_, Nat.reduceEqDiff, reduceIte, and_self, and_true, true_and, and_false, false_and, if_true, if_false, hgl, h27, h28]
    exact e_ret rfl trivial rfl rfl
  · rw [if_pos h69]
    refine e_run 5 rfl ?_ ?_
    · ((try simp only [rd_, up_, Nat.reduceEqDiff, reduceIte, and_self, and_true, true_and, and_false, false_and, if_true, if_false, hgl, h27, h28]) <;> and_intros <;> first | trivial | exact in_n (by omega) (by omega) | omega | (unfold vp_in; decide) | (simp only [*]; omega))
    try simp only [rd_, up_, Nat.reduceEqDiff, reduceIte, and_self, and_true, true_and, and_false, false_and, if_true, if_false, hgl, h27, h28]
    refine e_callv rfl (rs_inject d g i _ _ hg hi h28) (by decide) ?_
    try simp only [rd_, up_, Nat.reduceEqDiff, reduceIte, and_self, and_true, true_and, and_false, false_and, if_true, if_false, hgl, h27, h28]
    exact e_ret rfl trivial rfl rfl
/-- served: it fails -/
theorem rs_serve_f (d n g c i : Nat) {C M : mv_M} (hD : dr_ C M n) (hg : g < 21) (hc : c < 20) (hi : i < 6) (h27 : M 27 0 g = nI c) (h28 : M 28 0 g = nI i) (hw : wt_ C n c i < 0) : ev_ (d + 5) kX4_serve [mv_R 22 0, mv_I (nI g)] M (Sum.inl none) (mv_up (mv_up M 22 0 31 (-(wt_ C n c i))) 22 0 32 (C 20 c (3 * i))) := by
  have hgl : (nI g).toNatClampNeg = g := nI_clamp (by omega)
  refine e_ev rfl rfl ?_
  refine e_run 14 rfl ?_ ?_
  · ((try simp only [rd_, up_, Nat.reduceEqDiff, reduceIte, and_self, and_true, true_and, and_false, false_and, if_true, if_false, hgl, h27, h28]) <;> and_intros <;> first | trivial | exact in_n (by omega) (by omega) | omega | (unfold vp_in; decide) | (simp only [*]; omega))
  try simp only [rd_, up_, Nat.reduceEqDiff, reduceIte, and_self, and_true, true_and, and_false, false_and, if_true, if_false, hgl, h27, h28]
  refine e_calli rfl (rs_dependAt (d + 4) hD c i 2 hc hi (by omega)) (by decide) ?_
  try simp only [rd_, up_, Nat.reduceEqDiff, reduceIte, and_self, and_true, true_and, and_false, false_and, if_true, if_false, hgl, h27, h28]
  refine e_run 4 rfl trivial ?_
  try simp only [rd_, up_, Nat.reduceEqDiff, reduceIte, and_self, and_true, true_and, and_false, false_and, if_true, if_false, hgl, h27, h28]
  refine e_calli rfl (rs_wanted d hD c i hc hi) (by decide) ?_
  try simp only [rd_, up_, Nat.reduceEqDiff, reduceIte, and_self, and_true, true_and, and_false, false_and, if_true, if_false, hgl, h27, h28]
  refine e_run 2 rfl trivial ?_
  try simp only [rd_, up_, Nat.reduceEqDiff, reduceIte, and_self, and_true, true_and, and_false, false_and, if_true, if_false, hgl, h27, h28]
  refine e_if rfl (fun h33 => absurd h33 (Int32.not_le.mpr hw)) (fun h33 => ?_)
  refine e_run 7 rfl trivial ?_
  try simp only [rd_, up_, Nat.reduceEqDiff, reduceIte, and_self, and_true, true_and, and_false, false_and, if_true, if_false, hgl, h27, h28]
  refine e_calli rfl (rs_dependAt (d + 4) hD c i 0 hc hi (by omega)) (by decide) ?_
  try simp only [rd_, up_, Nat.reduceEqDiff, reduceIte, and_self, and_true, true_and, and_false, false_and, if_true, if_false, hgl, h27, h28]
  refine e_callv rfl (rs_fail (d + 4) M _ _) (by decide) ?_
  try simp only [rd_, up_, Nat.reduceEqDiff, reduceIte, and_self, and_true, true_and, and_false, false_and, if_true, if_false, hgl, h27, h28]
  refine e_run 1 rfl trivial ?_
  try simp only [rd_, up_, Nat.reduceEqDiff, reduceIte, and_self, and_true, true_and, and_false, false_and, if_true, if_false, hgl, h27, h28]
  exact e_ret rfl trivial rfl rfl
/-- served: nothing is wanted -/
theorem rs_serve_0 (d n g c i : Nat) {C M : mv_M} (hD : dr_ C M n) (hg : g < 21) (hc : c < 20) (hi : i < 6) (h27 : M 27 0 g = nI c) (h28 : M 28 0 g = nI i) (hw : wt_ C n c i = 0) : ev_ (d + 5) kX4_serve [mv_R 22 0, mv_I (nI g)] M (Sum.inl none) (ij4_ M g i (if C 20 c (3 * i + 2) = 2 then 0 else -1)) := by
  have hgl : (nI g).toNatClampNeg = g := nI_clamp (by omega)
  refine e_ev rfl rfl ?_
  refine e_run 14 rfl ?_ ?_
  · ((try simp only [rd_, up_, Nat.reduceEqDiff, reduceIte, and_self, and_true, true_and, and_false, false_and, if_true, if_false, hgl, h27, h28, hw]) <;> and_intros <;> first | trivial | exact in_n (by omega) (by omega) | omega | (unfold vp_in; decide) | (simp only [*]; omega))
  try simp only [rd_, up_, Nat.reduceEqDiff, reduceIte, and_self, and_true, true_and, and_false, false_and, if_true, if_false, hgl, h27, h28, hw]
  refine e_calli rfl (rs_dependAt (d + 4) hD c i 2 hc hi (by omega)) (by decide) ?_
  try simp only [rd_, up_, Nat.reduceEqDiff, reduceIte, and_self, and_true, true_and, and_false, false_and, if_true, if_false, hgl, h27, h28, hw]
  refine e_run 4 rfl trivial ?_
  try simp only [rd_, up_, Nat.reduceEqDiff, reduceIte, and_self, and_true, true_and, and_false, false_and, if_true, if_false, hgl, h27, h28, hw]
  refine e_calli rfl (rs_wanted d hD c i hc hi) (by decide) ?_
  try simp only [rd_, up_, Nat.reduceEqDiff, reduceIte, and_self, and_true, true_and, and_false, false_and, if_true, if_false, hgl, h27, h28, hw]
  refine e_run 2 rfl trivial ?_
  try simp only [rd_, up_, Nat.reduceEqDiff, reduceIte, and_self, and_true, true_and, and_false, false_and, if_true, if_false, hgl, h27, h28, hw]
  refine e_if rfl (fun h33 => ?_) (fun h33 => absurd (by decide) h33)
  refine e_run 1 rfl trivial ?_
  try simp only [rd_, up_, Nat.reduceEqDiff, reduceIte, and_self, and_true, true_and, and_false, false_and, if_true, if_false, hgl, h27, h28, hw]
  refine e_if rfl (fun h55 => absurd rfl h55) (fun h55 => ?_)
  refine e_run 4 rfl trivial ?_
  try simp only [rd_, up_, Nat.reduceEqDiff, reduceIte, and_self, and_true, true_and, and_false, false_and, if_true, if_false, hgl, h27, h28, hw]
  refine e_if rfl (fun h63 => ?_) (fun h63 => ?_)
  · rw [if_neg h63]
    refine e_run 1 rfl trivial ?_
    try simp only [rd_, up_, Nat.reduceEqDiff, reduceIte, and_self, and_true, true_and, and_false, false_and, if_true, if_false, hgl, h27, h28, hw]
    refine e_callv rfl (rs_inject (d + 4) g i M _ hg hi h28) (by decide) ?_
    try simp only [rd_, up_, Nat.reduceEqDiff, reduceIte, and_self, and_true, true_and, and_false, false_and, if_true, if_false, hgl, h27, h28, hw]
    refine e_run 1 rfl trivial ?_
    try simp only [rd_, up_, Nat.reduceEqDiff, reduceIte, and_self, and_true, true_and, and_false, false_and, if_true, if_false, hgl, h27, h28, hw]
    exact e_ret rfl trivial rfl rfl
  · rw [if_pos h63]
    refine e_run 2 rfl trivial ?_
    try simp only [rd_, up_, Nat.reduceEqDiff, reduceIte, and_self, and_true, true_and, and_false, false_and, if_true, if_false, hgl, h27, h28, hw]
    refine e_callv rfl (rs_inject (d + 4) g i M _ hg hi h28) (by decide) ?_
    try simp only [rd_, up_, Nat.reduceEqDiff, reduceIte, and_self, and_true, true_and, and_false, false_and, if_true, if_false, hgl, h27, h28, hw]
    refine e_run 1 rfl trivial ?_
    try simp only [rd_, up_, Nat.reduceEqDiff, reduceIte, and_self, and_true, true_and, and_false, false_and, if_true, if_false, hgl, h27, h28, hw]
    exact e_ret rfl trivial rfl rfl
/-- served: something is to be obtained -/
def sv4_ (M : mv_M) (g : Nat) (x : Int32) : mv_M := mv_up (mv_up (mv_up M 29 0 g x) 40 0 g (nI (bn_ x 20))) 39 0 g 1
theorem rs_serve_m (d n g c i j : Nat) {C M M1 : mv_M} (hD : dr_ C M n) (hg : g < 21) (hc : c < 20) (hi : i < 6) (h27 : M 27 0 g = nI c) (h28 : M 28 0 g = nI i) (hw : ¬ wt_ C n c i < 0) (hw0 : ¬ wt_ C n c i = 0) (hj : j < 32) (hl : lo_ (wt_ C n c i) j) (h : ev_ (d + 4) kX4_obtain [mv_R 22 0, mv_I (nI j)] (sv4_ M g (wt_ C n c i)) (Sum.inl none) M1) : ev_ (d + 5) kX4_serve [mv_R 22 0, mv_I (nI g)] M (Sum.inl none) M1 := by
  have hgl : (nI g).toNatClampNeg = g := nI_clamp (by omega)
  refine e_ev rfl rfl ?_
  refine e_run 14 rfl ?_ ?_
  · ((try simp only [rd_, up_, Nat.reduceEqDiff, reduceIte, and_self, and_true, true_and, and_false, false_and, if_true, if_false, hgl, h27, h28]) <;> and_intros <;> first | trivial | exact in_n (by omega) (by omega) | omega | (unfold vp_in; decide) | (simp only [*]; omega))
  try simp only [rd_, up_, Nat.reduceEqDiff, reduceIte, and_self, and_true, true_and, and_false, false_and, if_true, if_false, hgl, h27, h28]
  refine e_calli rfl (rs_dependAt (d + 4) hD c i 2 hc hi (by omega)) (by decide) ?_
  try simp only [rd_, up_, Nat.reduceEqDiff, reduceIte, and_self, and_true, true_and, and_false, false_and, if_true, if_false, hgl, h27, h28]
  refine e_run 4 rfl trivial ?_
  try simp only [rd_, up_, Nat.reduceEqDiff, reduceIte, and_self, and_true, true_and, and_false, false_and, if_true, if_false, hgl, h27, h28]
  refine e_calli rfl (rs_wanted d hD c i hc hi) (by decide) ?_
  try simp only [rd_, up_, Nat.reduceEqDiff, reduceIte, and_self, and_true, true_and, and_false, false_and, if_true, if_false, hgl, h27, h28]
  refine e_run 2 rfl trivial ?_
  try simp only [rd_, up_, Nat.reduceEqDiff, reduceIte, and_self, and_true, true_and, and_false, false_and, if_true, if_false, hgl, h27, h28]
  refine e_if rfl (fun h33 => ?_) (fun h33 => absurd (Int32.not_lt.mp hw) h33)
  refine e_run 1 rfl trivial ?_
  try simp only [rd_, up_, Nat.reduceEqDiff, reduceIte, and_self, and_true, true_and, and_false, false_and, if_true, if_false, hgl, h27, h28]
  refine e_if rfl (fun h55 => ?_) (fun h55 => absurd h55 hw0)
  refine e_run 9 rfl ?_ ?_
  · ((try simp only [rd_, up_, Nat.reduceEqDiff, reduceIte, and_self, and_true, true_and, and_false, false_and, if_true, if_false, hgl, h27, h28]) <;> and_intros <;> first | trivial | exact in_n (by omega) (by omega) | omega | (unfold vp_in; decide) | (simp only [*]; omega))
  try simp only [rd_, up_, Nat.reduceEqDiff, reduceIte, and_self, and_true, true_and, and_false, false_and, if_true, if_false, hgl, h27, h28]
  refine e_calli rfl (rs_bits (d + 4) _ _) (by decide) ?_
  try simp only [rd_, up_, Nat.reduceEqDiff, reduceIte, and_self, and_true, true_and, and_false, false_and, if_true, if_false, hgl, h27, h28]
  refine e_run 8 rfl ?_ ?_
  · ((try simp only [rd_, up_, Nat.reduceEqDiff, reduceIte, and_self, and_true, true_and, and_false, false_and, if_true, if_false, hgl, h27, h28]) <;> and_intros <;> first | trivial | exact in_n (by omega) (by omega) | omega | (unfold vp_in; decide) | (simp only [*]; omega))
  try simp only [rd_, up_, Nat.reduceEqDiff, reduceIte, and_self, and_true, true_and, and_false, false_and, if_true, if_false, hgl, h27, h28]
  refine e_calli rfl (rs_lowest (d + 4) _ _ j hj hl) (by decide) ?_
  try simp only [rd_, up_, Nat.reduceEqDiff, reduceIte, and_self, and_true, true_and, and_false, false_and, if_true, if_false, hgl, h27, h28]
  refine e_callv rfl (h) (by decide) ?_
  try simp only [rd_, up_, Nat.reduceEqDiff, reduceIte, and_self, and_true, true_and, and_false, false_and, if_true, if_false, hgl, h27, h28]
  exact e_ret rfl trivial rfl rfl
