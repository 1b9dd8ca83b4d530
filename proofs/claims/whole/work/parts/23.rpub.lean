/-! THE REFERENCE'S PUBLIC METHODS: descriptions, and questions -/
theorem fz_ (b : Bool) : (if b = true then (1 : Int32) else 0) = 0 ∨ (if b = true then (1 : Int32) else 0) = 1 := by cases b <;> simp
theorem rp_thrown (d : Nat) (M : mv_M) : ev_ d kX4_thrown [mv_R 22 0] M (Sum.inl (some (mv_I (M 22 0 0)))) M := by
  refine e_ev rfl rfl ?_
  refine e_run 2 rfl trivial ?_
  exact e_ret rfl trivial rfl rfl
def ra_ (M : mv_M) (n : Nat) (t s : Int32) : mv_M := mv_up (mv_up (mv_up (mv_up (mv_up (mv_up (th_ M 0) 23 0 (7 * n) t) 23 0 (7 * n + 1) s) 23 0 (7 * n + 2) (-1)) 23 0 (7 * n + 5) (-1)) 23 0 (7 * n + 6) (-1)) 22 0 1 (nI (n + 1))
theorem rp_add (d n : Nat) (M : mv_M) (t s : Int32) (hn : M 22 0 1 = nI n) (h20 : n < 20) (ht : bw_ t 1 65535 = true) (hs : bw_ s 0 2 = true) : ev_ (d + 1) kX4_add [mv_R 22 0, mv_I t, mv_I s] M (Sum.inl (some (mv_I (nI n)))) (ra_ M n t s) := by
  have e0 : 7 * nI n + 0 = nI (7 * n) := ix_7 n 0
  have e1 : 7 * nI n + 1 = nI (7 * n + 1) := ix_7 n 1
  have e2 : 7 * nI n + 2 = nI (7 * n + 2) := ix_7 n 2
  have e5 : 7 * nI n + 5 = nI (7 * n + 5) := ix_7 n 5
  have e6 : 7 * nI n + 6 = nI (7 * n + 6) := ix_7 n 6
  have c0 : (nI (7 * n)).toNatClampNeg = 7 * n := nI_clamp (by omega)
  have c1 : (nI (7 * n + 1)).toNatClampNeg = 7 * n + 1 := nI_clamp (by omega)
  have c2 : (nI (7 * n + 2)).toNatClampNeg = 7 * n + 2 := nI_clamp (by omega)
  have c5 : (nI (7 * n + 5)).toNatClampNeg = 7 * n + 5 := nI_clamp (by omega)
  have c6 : (nI (7 * n + 6)).toNatClampNeg = 7 * n + 6 := nI_clamp (by omega)
  have hne : ¬ nI n = 20 := fun e => absurd (nI_inj (b := 20) (by omega) (by omega) e) (by omega)
  refine e_ev rfl rfl ?_
  refine e_run 4 rfl trivial ?_
  try simp only [rd_, up_, Nat.reduceEqDiff, reduceIte, and_self, and_true, true_and, and_false, false_and, if_true, if_false, hn, e0, e1, e2, e5, e6, c0, c1, c2, c5, c6, nI_1, nI_pred]
  refine e_calli rfl (rs_in d M t 1 65535) (by decide) ?_
  try simp only [rd_, up_, Nat.reduceEqDiff, reduceIte, and_self, and_true, true_and, and_false, false_and, if_true, if_false, hn, e0, e1, e2, e5, e6, c0, c1, c2, c5, c6, nI_1, nI_pred]
  refine e_if rfl (fun h8 => absurd h8 (by simp [ht])) (fun h8 => ?_)
  refine e_run 3 rfl trivial ?_
  try simp only [rd_, up_, Nat.reduceEqDiff, reduceIte, and_self, and_true, true_and, and_false, false_and, if_true, if_false, hn, e0, e1, e2, e5, e6, c0, c1, c2, c5, c6, nI_1, nI_pred]
  refine e_calli rfl (rs_in d M s 0 2) (by decide) ?_
  try simp only [rd_, up_, Nat.reduceEqDiff, reduceIte, and_self, and_true, true_and, and_false, false_and, if_true, if_false, hn, e0, e1, e2, e5, e6, c0, c1, c2, c5, c6, nI_1, nI_pred]
  refine e_if rfl (fun h17 => ?_) (fun h17 => absurd h17 (by simp [hs]))
  refine e_run 3 rfl trivial ?_
  try simp only [rd_, up_, Nat.reduceEqDiff, reduceIte, and_self, and_true, true_and, and_false, false_and, if_true, if_false, hn, e0, e1, e2, e5, e6, c0, c1, c2, c5, c6, nI_1, nI_pred]
  refine e_if rfl (fun h30 => ?_) (fun h30 => absurd h30 hne)
  refine e_run 4 rfl trivial ?_
  try simp only [rd_, up_, Nat.reduceEqDiff, reduceIte, and_self, and_true, true_and, and_false, false_and, if_true, if_false, hn, e0, e1, e2, e5, e6, c0, c1, c2, c5, c6, nI_1, nI_pred]
  refine e_if rfl (fun h45 => ?_) (fun h45 => absurd rfl h45)
  refine e_run 60 rfl ?_ ?_
  · ((try simp only [rd_, up_, Nat.reduceEqDiff, reduceIte, and_self, and_true, true_and, and_false, false_and, if_true, if_false, hn, e0, e1, e2, e5, e6, c0, c1, c2, c5, c6, nI_1, nI_pred]) <;> and_intros <;> first | trivial | exact in_n (by omega) (by omega) | omega | (unfold vp_in; decide) | (simp only [*]; omega))
  try simp only [rd_, up_, Nat.reduceEqDiff, reduceIte, and_self, and_true, true_and, and_false, false_and, if_true, if_false, hn, e0, e1, e2, e5, e6, c0, c1, c2, c5, c6, nI_1, nI_pred]
  exact e_ret rfl trivial rfl rfl
theorem rp_add_i (d : Nat) (M : mv_M) (t s : Int32) (h : (bw_ t 1 65535 && bw_ s 0 2) = false) : ev_ (d + 1) kX4_add [mv_R 22 0, mv_I t, mv_I s] M (Sum.inl (some (mv_I 0))) (th_ M 1) := by
  refine e_ev rfl rfl ?_
  refine e_run 4 rfl trivial ?_
  try simp only [rd_, up_, Nat.reduceEqDiff, reduceIte, and_self, and_true, true_and, and_false, false_and, if_true, if_false]
  refine e_calli rfl (rs_in d M t 1 65535) (by decide) ?_
  try simp only [rd_, up_, Nat.reduceEqDiff, reduceIte, and_self, and_true, true_and, and_false, false_and, if_true, if_false]
  refine e_if rfl (fun h8 => ?_) (fun h8 => ?_)
  · refine e_run 5 rfl trivial ?_
    try simp only [rd_, up_, Nat.reduceEqDiff, reduceIte, and_self, and_true, true_and, and_false, false_and, if_true, if_false]
    refine e_if rfl (fun h45 => absurd h45 (by decide)) (fun h45 => ?_)
    refine e_run 1 rfl trivial ?_
    try simp only [rd_, up_, Nat.reduceEqDiff, reduceIte, and_self, and_true, true_and, and_false, false_and, if_true, if_false]
    exact e_ret rfl trivial rfl rfl
  · refine e_run 3 rfl trivial ?_
    try simp only [rd_, up_, Nat.reduceEqDiff, reduceIte, and_self, and_true, true_and, and_false, false_and, if_true, if_false]
    refine e_calli rfl (rs_in d M s 0 2) (by decide) ?_
    try simp only [rd_, up_, Nat.reduceEqDiff, reduceIte, and_self, and_true, true_and, and_false, false_and, if_true, if_false]
    refine e_if rfl (fun h17 => ?_) (fun h17 => ?_)
    · exact absurd h (by simp_all)
    · refine e_run 5 rfl trivial ?_
      try simp only [rd_, up_, Nat.reduceEqDiff, reduceIte, and_self, and_true, true_and, and_false, false_and, if_true, if_false]
      refine e_if rfl (fun h45 => absurd h45 (by decide)) (fun h45 => ?_)
      refine e_run 1 rfl trivial ?_
      try simp only [rd_, up_, Nat.reduceEqDiff, reduceIte, and_self, and_true, true_and, and_false, false_and, if_true, if_false]
      exact e_ret rfl trivial rfl rfl
theorem rp_add_s (d : Nat) (M : mv_M) (t s : Int32) (hn : M 22 0 1 = nI 20) (ht : bw_ t 1 65535 = true) (hs : bw_ s 0 2 = true) : ev_ (d + 1) kX4_add [mv_R 22 0, mv_I t, mv_I s] M (Sum.inl (some (mv_I 0))) (th_ M 2) := by
  refine e_ev rfl rfl ?_
  refine e_run 4 rfl trivial ?_
  try simp only [rd_, up_, Nat.reduceEqDiff, reduceIte, and_self, and_true, true_and, and_false, false_and, if_true, if_false, hn]
  refine e_calli rfl (rs_in d M t 1 65535) (by decide) ?_
  try simp only [rd_, up_, Nat.reduceEqDiff, reduceIte, and_self, and_true, true_and, and_false, false_and, if_true, if_false, hn]
  refine e_if rfl (fun h8 => absurd h8 (by simp [ht])) (fun h8 => ?_)
  refine e_run 3 rfl trivial ?_
  try simp only [rd_, up_, Nat.reduceEqDiff, reduceIte, and_self, and_true, true_and, and_false, false_and, if_true, if_false, hn]
  refine e_calli rfl (rs_in d M s 0 2) (by decide) ?_
  try simp only [rd_, up_, Nat.reduceEqDiff, reduceIte, and_self, and_true, true_and, and_false, false_and, if_true, if_false, hn]
  refine e_if rfl (fun h17 => ?_) (fun h17 => absurd h17 (by simp [hs]))
  refine e_run 3 rfl trivial ?_
  try simp only [rd_, up_, Nat.reduceEqDiff, reduceIte, and_self, and_true, true_and, and_false, false_and, if_true, if_false, hn]
  refine e_if rfl (fun h30 => absurd rfl h30) (fun h30 => ?_)
  refine e_run 5 rfl trivial ?_
  try simp only [rd_, up_, Nat.reduceEqDiff, reduceIte, and_self, and_true, true_and, and_false, false_and, if_true, if_false, hn]
  refine e_if rfl (fun h45 => absurd h45 (by decide)) (fun h45 => ?_)
  refine e_run 1 rfl trivial ?_
  try simp only [rd_, up_, Nat.reduceEqDiff, reduceIte, and_self, and_true, true_and, and_false, false_and, if_true, if_false, hn]
  exact e_ret rfl trivial rfl rfl
theorem rp_set (d n c p : Nat) {C M : mv_M} (v : Int32) (hD : dr_ C M n) (hc : c < n) (hp : p < 7) (hpb : bw_ (nI p) 0 6 = true) (hv : bw_ v (pb_ p).1 (pb_ p).2 = true) : ev_ (d + 2) kX4_set [mv_R 22 0, mv_I (nI c), mv_I (nI p), mv_I v] M (Sum.inl (some (mv_I (C 19 c p)))) (mv_up (th_ M 0) 23 0 (7 * c + p) v) := by
  have h20 := hD.1.2.1
  have hcm := cm_nI (by omega) hc
  have hcl : (nI (7 * c + p)).toNatClampNeg = 7 * c + p := nI_clamp (by omega)
  refine e_ev rfl rfl ?_
  refine e_run 3 rfl trivial ?_
  try simp only [rd_, up_, Nat.reduceEqDiff, reduceIte, and_self, and_true, true_and, and_false, false_and, if_true, if_false, ix_7, hcl]
  refine e_calli rfl (rs_isComponent d hD.2.1 (by omega) (nI c)) (by decide) ?_
  try simp only [rd_, up_, Nat.reduceEqDiff, reduceIte, and_self, and_true, true_and, and_false, false_and, if_true, if_false, ix_7, hcl]
  refine e_if rfl (fun h6 => ?_) (fun h6 => absurd h6 (by simp [hcm]))
  refine e_run 3 rfl trivial ?_
  try simp only [rd_, up_, Nat.reduceEqDiff, reduceIte, and_self, and_true, true_and, and_false, false_and, if_true, if_false, ix_7, hcl]
  refine e_calli rfl (rs_in (d + 1) M (nI p) 0 6) (by decide) ?_
  try simp only [rd_, up_, Nat.reduceEqDiff, reduceIte, and_self, and_true, true_and, and_false, false_and, if_true, if_false, ix_7, hcl]
  refine e_if rfl (fun h20 => absurd h20 (by simp [hpb])) (fun h20 => ?_)
  refine e_run 2 rfl trivial ?_
  try simp only [rd_, up_, Nat.reduceEqDiff, reduceIte, and_self, and_true, true_and, and_false, false_and, if_true, if_false, ix_7, hcl]
  refine e_calli rfl (rs_isValue d p M v hp) (by decide) ?_
  try simp only [rd_, up_, Nat.reduceEqDiff, reduceIte, and_self, and_true, true_and, and_false, false_and, if_true, if_false, ix_7, hcl]
  refine e_if rfl (fun h28 => ?_) (fun h28 => absurd h28 (by simp [hv]))
  refine e_run 4 rfl trivial ?_
  try simp only [rd_, up_, Nat.reduceEqDiff, reduceIte, and_self, and_true, true_and, and_false, false_and, if_true, if_false, ix_7, hcl]
  refine e_if rfl (fun h43 => ?_) (fun h43 => absurd rfl h43)
  refine e_run 3 rfl trivial ?_
  try simp only [rd_, up_, Nat.reduceEqDiff, reduceIte, and_self, and_true, true_and, and_false, false_and, if_true, if_false, ix_7, hcl]
  refine e_calli rfl (rs_of (d + 1) (dr_th hD) c p (by omega) hp) (by decide) ?_
  try simp only [rd_, up_, Nat.reduceEqDiff, reduceIte, and_self, and_true, true_and, and_false, false_and, if_true, if_false, ix_7, hcl]
  refine e_run 11 rfl ?_ ?_
  · ((try simp only [rd_, up_, Nat.reduceEqDiff, reduceIte, and_self, and_true, true_and, and_false, false_and, if_true, if_false, ix_7, hcl]) <;> and_intros <;> first | trivial | exact in_n (by omega) (by omega) | omega | (unfold vp_in; decide) | (simp only [*]; omega))
  try simp only [rd_, up_, Nat.reduceEqDiff, reduceIte, and_self, and_true, true_and, and_false, false_and, if_true, if_false, ix_7, hcl]
  exact e_ret rfl trivial rfl rfl
theorem rp_set_x (d n : Nat) {C M : mv_M} (x p v : Int32) (hD : dr_ C M n) (h : cm_ n x = false) : ev_ (d + 2) kX4_set [mv_R 22 0, mv_I x, mv_I p, mv_I v] M (Sum.inl (some (mv_I 0))) (th_ M 1) := by
  have h20 := hD.1.2.1
  refine e_ev rfl rfl ?_
  refine e_run 3 rfl trivial ?_
  try simp only [rd_, up_, Nat.reduceEqDiff, reduceIte, and_self, and_true, true_and, and_false, false_and, if_true, if_false]
  refine e_calli rfl (rs_isComponent d hD.2.1 (by omega) x) (by decide) ?_
  try simp only [rd_, up_, Nat.reduceEqDiff, reduceIte, and_self, and_true, true_and, and_false, false_and, if_true, if_false]
  refine e_if rfl (fun h6 => absurd (by simp [h]) h6) (fun h6 => ?_)
  refine e_run 5 rfl trivial ?_
  try simp only [rd_, up_, Nat.reduceEqDiff, reduceIte, and_self, and_true, true_and, and_false, false_and, if_true, if_false]
  refine e_if rfl (fun h43 => absurd h43 (by decide)) (fun h43 => ?_)
  refine e_run 1 rfl trivial ?_
  try simp only [rd_, up_, Nat.reduceEqDiff, reduceIte, and_self, and_true, true_and, and_false, false_and, if_true, if_false]
  exact e_ret rfl trivial rfl rfl
theorem rp_set_i (d n c : Nat) {C M : mv_M} (p v : Int32) (hD : dr_ C M n) (hc : c < n) (hp : bw_ p 0 6 = false) : ev_ (d + 2) kX4_set [mv_R 22 0, mv_I (nI c), mv_I p, mv_I v] M (Sum.inl (some (mv_I 0))) (th_ M 2) := by
  have h20 := hD.1.2.1
  have hcm := cm_nI (by omega) hc
  refine e_ev rfl rfl ?_
  refine e_run 3 rfl trivial ?_
  try simp only [rd_, up_, Nat.reduceEqDiff, reduceIte, and_self, and_true, true_and, and_false, false_and, if_true, if_false]
  refine e_calli rfl (rs_isComponent d hD.2.1 (by omega) (nI c)) (by decide) ?_
  try simp only [rd_, up_, Nat.reduceEqDiff, reduceIte, and_self, and_true, true_and, and_false, false_and, if_true, if_false]
  refine e_if rfl (fun h6 => ?_) (fun h6 => absurd h6 (by simp [hcm]))
  refine e_run 3 rfl trivial ?_
  try simp only [rd_, up_, Nat.reduceEqDiff, reduceIte, and_self, and_true, true_and, and_false, false_and, if_true, if_false]
  refine e_calli rfl (rs_in (d + 1) M p 0 6) (by decide) ?_
  try simp only [rd_, up_, Nat.reduceEqDiff, reduceIte, and_self, and_true, true_and, and_false, false_and, if_true, if_false]
  refine e_if rfl (fun h20 => ?_) (fun h20 => absurd (by simp [hp]) h20)
  refine e_run 5 rfl trivial ?_
  try simp only [rd_, up_, Nat.reduceEqDiff, reduceIte, and_self, and_true, true_and, and_false, false_and, if_true, if_false]
  refine e_if rfl (fun h43 => absurd h43 (by decide)) (fun h43 => ?_)
  refine e_run 1 rfl trivial ?_
  try simp only [rd_, up_, Nat.reduceEqDiff, reduceIte, and_self, and_true, true_and, and_false, false_and, if_true, if_false]
  exact e_ret rfl trivial rfl rfl
theorem rp_set_v (d n c p : Nat) {C M : mv_M} (v : Int32) (hD : dr_ C M n) (hc : c < n) (hp : p < 7) (hpb : bw_ (nI p) 0 6 = true) (hv : bw_ v (pb_ p).1 (pb_ p).2 = false) : ev_ (d + 2) kX4_set [mv_R 22 0, mv_I (nI c), mv_I (nI p), mv_I v] M (Sum.inl (some (mv_I 0))) (th_ M 2) := by
  have h20 := hD.1.2.1
  have hcm := cm_nI (by omega) hc
  refine e_ev rfl rfl ?_
  refine e_run 3 rfl trivial ?_
  try simp only [rd_, up_, Nat.reduceEqDiff, reduceIte, and_self, and_true, true_and, and_false, false_and, if_true, if_false]
  refine e_calli rfl (rs_isComponent d hD.2.1 (by omega) (nI c)) (by decide) ?_
  try simp only [rd_, up_, Nat.reduceEqDiff, reduceIte, and_self, and_true, true_and, and_false, false_and, if_true, if_false]
  refine e_if rfl (fun h6 => ?_) (fun h6 => absurd h6 (by simp [hcm]))
  refine e_run 3 rfl trivial ?_
  try simp only [rd_, up_, Nat.reduceEqDiff, reduceIte, and_self, and_true, true_and, and_false, false_and, if_true, if_false]
  refine e_calli rfl (rs_in (d + 1) M (nI p) 0 6) (by decide) ?_
  try simp only [rd_, up_, Nat.reduceEqDiff, reduceIte, and_self, and_true, true_and, and_false, false_and, if_true, if_false]
  refine e_if rfl (fun h20 => absurd h20 (by simp [hpb])) (fun h20 => ?_)
  refine e_run 2 rfl trivial ?_
  try simp only [rd_, up_, Nat.reduceEqDiff, reduceIte, and_self, and_true, true_and, and_false, false_and, if_true, if_false]
  refine e_calli rfl (rs_isValue d p M v hp) (by decide) ?_
  try simp only [rd_, up_, Nat.reduceEqDiff, reduceIte, and_self, and_true, true_and, and_false, false_and, if_true, if_false]
  refine e_if rfl (fun h28 => absurd (by simp [hv]) h28) (fun h28 => ?_)
  refine e_run 5 rfl trivial ?_
  try simp only [rd_, up_, Nat.reduceEqDiff, reduceIte, and_self, and_true, true_and, and_false, false_and, if_true, if_false]
  refine e_if rfl (fun h43 => absurd h43 (by decide)) (fun h43 => ?_)
  refine e_run 1 rfl trivial ?_
  try simp only [rd_, up_, Nat.reduceEqDiff, reduceIte, and_self, and_true, true_and, and_false, false_and, if_true, if_false]
  exact e_ret rfl trivial rfl rfl
theorem rp_property (d n c p : Nat) {C M : mv_M} (hD : dr_ C M n) (hc : c < n) (hp : p < 7) (hpb : bw_ (nI p) 0 6 = true) : ev_ (d + 2) kX4_property [mv_R 22 0, mv_I (nI c), mv_I (nI p)] M (Sum.inl (some (mv_I (C 19 c p)))) (th_ M 0) := by
  have h20 := hD.1.2.1
  have hcm := cm_nI (by omega) hc
  refine e_ev rfl rfl ?_
  refine e_run 3 rfl trivial ?_
  try simp only [rd_, up_, Nat.reduceEqDiff, reduceIte, and_self, and_true, true_and, and_false, false_and, if_true, if_false]
  refine e_calli rfl (rs_isComponent d hD.2.1 (by omega) (nI c)) (by decide) ?_
  try simp only [rd_, up_, Nat.reduceEqDiff, reduceIte, and_self, and_true, true_and, and_false, false_and, if_true, if_false]
  refine e_if rfl (fun h6 => ?_) (fun h6 => absurd h6 (by simp [hcm]))
  refine e_run 3 rfl trivial ?_
  try simp only [rd_, up_, Nat.reduceEqDiff, reduceIte, and_self, and_true, true_and, and_false, false_and, if_true, if_false]
  refine e_calli rfl (rs_in (d + 1) M (nI p) 0 6) (by decide) ?_
  try simp only [rd_, up_, Nat.reduceEqDiff, reduceIte, and_self, and_true, true_and, and_false, false_and, if_true, if_false]
  refine e_if rfl (fun h20 => ?_) (fun h20 => absurd h20 (by simp [hpb]))
  refine e_run 4 rfl trivial ?_
  try simp only [rd_, up_, Nat.reduceEqDiff, reduceIte, and_self, and_true, true_and, and_false, false_and, if_true, if_false]
  refine e_if rfl (fun h35 => ?_) (fun h35 => absurd rfl h35)
  refine e_run 3 rfl trivial ?_
  try simp only [rd_, up_, Nat.reduceEqDiff, reduceIte, and_self, and_true, true_and, and_false, false_and, if_true, if_false]
  refine e_calli rfl (rs_of (d + 1) (dr_th hD) c p (by omega) hp) (by decide) ?_
  try simp only [rd_, up_, Nat.reduceEqDiff, reduceIte, and_self, and_true, true_and, and_false, false_and, if_true, if_false]
  exact e_ret rfl trivial rfl rfl
theorem rp_property_x (d n : Nat) {C M : mv_M} (x p : Int32) (hD : dr_ C M n) (h : cm_ n x = false) : ev_ (d + 2) kX4_property [mv_R 22 0, mv_I x, mv_I p] M (Sum.inl (some (mv_I 0))) (th_ M 1) := by
  have h20 := hD.1.2.1
  refine e_ev rfl rfl ?_
  refine e_run 3 rfl trivial ?_
  try simp only [rd_, up_, Nat.reduceEqDiff, reduceIte, and_self, and_true, true_and, and_false, false_and, if_true, if_false]
  refine e_calli rfl (rs_isComponent d hD.2.1 (by omega) x) (by decide) ?_
  try simp only [rd_, up_, Nat.reduceEqDiff, reduceIte, and_self, and_true, true_and, and_false, false_and, if_true, if_false]
  refine e_if rfl (fun h6 => absurd (by simp [h]) h6) (fun h6 => ?_)
  refine e_run 5 rfl trivial ?_
  try simp only [rd_, up_, Nat.reduceEqDiff, reduceIte, and_self, and_true, true_and, and_false, false_and, if_true, if_false]
  refine e_if rfl (fun h35 => absurd h35 (by decide)) (fun h35 => ?_)
  refine e_run 2 rfl trivial ?_
  try simp only [rd_, up_, Nat.reduceEqDiff, reduceIte, and_self, and_true, true_and, and_false, false_and, if_true, if_false]
  exact e_ret rfl trivial rfl rfl
theorem rp_property_i (d n c : Nat) {C M : mv_M} (p : Int32) (hD : dr_ C M n) (hc : c < n) (hp : bw_ p 0 6 = false) : ev_ (d + 2) kX4_property [mv_R 22 0, mv_I (nI c), mv_I p] M (Sum.inl (some (mv_I 0))) (th_ M 2) := by
  have h20 := hD.1.2.1
  have hcm := cm_nI (by omega) hc
  refine e_ev rfl rfl ?_
  refine e_run 3 rfl trivial ?_
  try simp only [rd_, up_, Nat.reduceEqDiff, reduceIte, and_self, and_true, true_and, and_false, false_and, if_true, if_false]
  refine e_calli rfl (rs_isComponent d hD.2.1 (by omega) (nI c)) (by decide) ?_
  try simp only [rd_, up_, Nat.reduceEqDiff, reduceIte, and_self, and_true, true_and, and_false, false_and, if_true, if_false]
  refine e_if rfl (fun h6 => ?_) (fun h6 => absurd h6 (by simp [hcm]))
  refine e_run 3 rfl trivial ?_
  try simp only [rd_, up_, Nat.reduceEqDiff, reduceIte, and_self, and_true, true_and, and_false, false_and, if_true, if_false]
  refine e_calli rfl (rs_in (d + 1) M p 0 6) (by decide) ?_
  try simp only [rd_, up_, Nat.reduceEqDiff, reduceIte, and_self, and_true, true_and, and_false, false_and, if_true, if_false]
  refine e_if rfl (fun h20 => absurd (by simp [hp]) h20) (fun h20 => ?_)
  refine e_run 5 rfl trivial ?_
  try simp only [rd_, up_, Nat.reduceEqDiff, reduceIte, and_self, and_true, true_and, and_false, false_and, if_true, if_false]
  refine e_if rfl (fun h35 => absurd h35 (by decide)) (fun h35 => ?_)
  refine e_run 2 rfl trivial ?_
  try simp only [rd_, up_, Nat.reduceEqDiff, reduceIte, and_self, and_true, true_and, and_false, false_and, if_true, if_false]
  exact e_ret rfl trivial rfl rfl
def rd4_ (M : mv_M) (c k : Nat) (t q m : Int32) : mv_M := mv_up (mv_up (mv_up (mv_up (th_ M 0) 25 0 (18 * c + 3 * k) t) 25 0 (18 * c + 3 * k + 1) q) 25 0 (18 * c + 3 * k + 2) m) 24 0 c (nI (k + 1))
theorem rp_depend (d n c k : Nat) {C M : mv_M} (t q m : Int32) (hD : dr_ C M n) (hc : c < n) (ht : tq_ t q = true) (hm : bw_ m 0 3 = true) (hk : C 8 0 c = nI k) (h6 : k < 6) : ev_ (d + 2) kX4_depend [mv_R 22 0, mv_I (nI c), mv_I t, mv_I q, mv_I m] M (Sum.inl (some (mv_I (nI k)))) (rd4_ M c k t q m) := by
  have h20 := hD.1.2.1
  have hcm := cm_nI (by omega) hc
  have hk4 : M 24 0 c = nI k := (hD.2.2.2.2.1 c (by omega)).trans hk
  have hcl : (nI c).toNatClampNeg = c := nI_clamp (by omega)
  have e0 : 18 * nI c + 3 * nI k = nI (18 * c + 3 * k) := by rw [show (18 : Int32) = nI 18 from rfl, show (3 : Int32) = nI 3 from rfl, pk_mul, pk_mul, nI_add]
  have e1 : nI (18 * c + 3 * k) + 1 = nI (18 * c + 3 * k + 1) := nI_1 _
  have e2 : nI (18 * c + 3 * k) + 2 = nI (18 * c + 3 * k + 2) := nI_add _ 2
  have c0 : (nI (18 * c + 3 * k)).toNatClampNeg = 18 * c + 3 * k := nI_clamp (by omega)
  have c1 : (nI (18 * c + 3 * k + 1)).toNatClampNeg = 18 * c + 3 * k + 1 := nI_clamp (by omega)
  have c2 : (nI (18 * c + 3 * k + 2)).toNatClampNeg = 18 * c + 3 * k + 2 := nI_clamp (by omega)
  have hne : ¬ nI k = 6 := fun e => absurd (nI_inj (b := 6) (by omega) (by omega) e) (by omega)
  refine e_ev rfl rfl ?_
  refine e_run 3 rfl trivial ?_
  try simp only [rd_, up_, Nat.reduceEqDiff, reduceIte, and_self, and_true, true_and, and_false, false_and, if_true, if_false, hcl, hk4, e0, e1, e2, c0, c1, c2, nI_1, nI_pred]
  refine e_calli rfl (rs_isComponent d hD.2.1 (by omega) (nI c)) (by decide) ?_
  try simp only [rd_, up_, Nat.reduceEqDiff, reduceIte, and_self, and_true, true_and, and_false, false_and, if_true, if_false, hcl, hk4, e0, e1, e2, c0, c1, c2, nI_1, nI_pred]
  refine e_if rfl (fun h6 => ?_) (fun h6 => absurd h6 (by simp [hcm]))
  refine e_run 2 rfl trivial ?_
  try simp only [rd_, up_, Nat.reduceEqDiff, reduceIte, and_self, and_true, true_and, and_false, false_and, if_true, if_false, hcl, hk4, e0, e1, e2, c0, c1, c2, nI_1, nI_pred]
  refine e_calli rfl (rs_isAsked d M t q) (by decide) ?_
  try simp only [rd_, up_, Nat.reduceEqDiff, reduceIte, and_self, and_true, true_and, and_false, false_and, if_true, if_false, hcl, hk4, e0, e1, e2, c0, c1, c2, nI_1, nI_pred]
  refine e_if rfl (fun h18 => absurd h18 (by simp [ht])) (fun h18 => ?_)
  refine e_run 3 rfl trivial ?_
  try simp only [rd_, up_, Nat.reduceEqDiff, reduceIte, and_self, and_true, true_and, and_false, false_and, if_true, if_false, hcl, hk4, e0, e1, e2, c0, c1, c2, nI_1, nI_pred]
  refine e_calli rfl (rs_in (d + 1) M m 0 3) (by decide) ?_
  try simp only [rd_, up_, Nat.reduceEqDiff, reduceIte, and_self, and_true, true_and, and_false, false_and, if_true, if_false, hcl, hk4, e0, e1, e2, c0, c1, c2, nI_1, nI_pred]
  refine e_if rfl (fun h28 => ?_) (fun h28 => absurd h28 (by simp [hm]))
  refine e_run 5 rfl ?_ ?_
  · ((try simp only [rd_, up_, Nat.reduceEqDiff, reduceIte, and_self, and_true, true_and, and_false, false_and, if_true, if_false, hcl, hk4, e0, e1, e2, c0, c1, c2, nI_1, nI_pred]) <;> and_intros <;> first | trivial | exact in_n (by omega) (by omega) | omega | (unfold vp_in; decide) | (simp only [*]; omega))
  try simp only [rd_, up_, Nat.reduceEqDiff, reduceIte, and_self, and_true, true_and, and_false, false_and, if_true, if_false, hcl, hk4, e0, e1, e2, c0, c1, c2, nI_1, nI_pred]
  refine e_if rfl (fun h43 => ?_) (fun h43 => absurd h43 hne)
  refine e_run 4 rfl trivial ?_
  try simp only [rd_, up_, Nat.reduceEqDiff, reduceIte, and_self, and_true, true_and, and_false, false_and, if_true, if_false, hcl, hk4, e0, e1, e2, c0, c1, c2, nI_1, nI_pred]
  refine e_if rfl (fun h58 => ?_) (fun h58 => absurd rfl h58)
  refine e_run 44 rfl ?_ ?_
  · ((try simp only [rd_, up_, Nat.reduceEqDiff, reduceIte, and_self, and_true, true_and, and_false, false_and, if_true, if_false, hcl, hk4, e0, e1, e2, c0, c1, c2, nI_1, nI_pred]) <;> and_intros <;> first | trivial | exact in_n (by omega) (by omega) | omega | (unfold vp_in; decide) | (simp only [*]; omega))
  try simp only [rd_, up_, Nat.reduceEqDiff, reduceIte, and_self, and_true, true_and, and_false, false_and, if_true, if_false, hcl, hk4, e0, e1, e2, c0, c1, c2, nI_1, nI_pred]
  exact e_ret rfl trivial rfl rfl
theorem rp_depend_x (d n : Nat) {C M : mv_M} (x t q m : Int32) (hD : dr_ C M n) (h : cm_ n x = false) : ev_ (d + 2) kX4_depend [mv_R 22 0, mv_I x, mv_I t, mv_I q, mv_I m] M (Sum.inl (some (mv_I 0))) (th_ M 1) := by
  have h20 := hD.1.2.1
  refine e_ev rfl rfl ?_
  refine e_run 3 rfl trivial ?_
  try simp only [rd_, up_, Nat.reduceEqDiff, reduceIte, and_self, and_true, true_and, and_false, false_and, if_true, if_false]
  refine e_calli rfl (rs_isComponent d hD.2.1 (by omega) x) (by decide) ?_
  try simp only [rd_, up_, Nat.reduceEqDiff, reduceIte, and_self, and_true, true_and, and_false, false_and, if_true, if_false]
  refine e_if rfl (fun h6 => absurd (by simp [h]) h6) (fun h6 => ?_)
  refine e_run 5 rfl trivial ?_
  try simp only [rd_, up_, Nat.reduceEqDiff, reduceIte, and_self, and_true, true_and, and_false, false_and, if_true, if_false]
  refine e_if rfl (fun h58 => absurd h58 (by decide)) (fun h58 => ?_)
  refine e_run 1 rfl trivial ?_
  try simp only [rd_, up_, Nat.reduceEqDiff, reduceIte, and_self, and_true, true_and, and_false, false_and, if_true, if_false]
  exact e_ret rfl trivial rfl rfl
theorem rp_depend_i (d n c : Nat) {C M : mv_M} (t q m : Int32) (hD : dr_ C M n) (hc : c < n) (h : (tq_ t q && bw_ m 0 3) = false) : ev_ (d + 2) kX4_depend [mv_R 22 0, mv_I (nI c), mv_I t, mv_I q, mv_I m] M (Sum.inl (some (mv_I 0))) (th_ M 2) := by
  have h20 := hD.1.2.1
  have hcm := cm_nI (by omega) hc
  refine e_ev rfl rfl ?_
  refine e_run 3 rfl trivial ?_
  try simp only [rd_, up_, Nat.reduceEqDiff, reduceIte, and_self, and_true, true_and, and_false, false_and, if_true, if_false]
  refine e_calli rfl (rs_isComponent d hD.2.1 (by omega) (nI c)) (by decide) ?_
  try simp only [rd_, up_, Nat.reduceEqDiff, reduceIte, and_self, and_true, true_and, and_false, false_and, if_true, if_false]
  refine e_if rfl (fun h6 => ?_) (fun h6 => absurd h6 (by simp [hcm]))
  refine e_run 2 rfl trivial ?_
  try simp only [rd_, up_, Nat.reduceEqDiff, reduceIte, and_self, and_true, true_and, and_false, false_and, if_true, if_false]
  refine e_calli rfl (rs_isAsked d M t q) (by decide) ?_
  try simp only [rd_, up_, Nat.reduceEqDiff, reduceIte, and_self, and_true, true_and, and_false, false_and, if_true, if_false]
  refine e_if rfl (fun h18 => ?_) (fun h18 => ?_)
  · refine e_run 5 rfl trivial ?_
    try simp only [rd_, up_, Nat.reduceEqDiff, reduceIte, and_self, and_true, true_and, and_false, false_and, if_true, if_false]
    refine e_if rfl (fun h58 => absurd h58 (by decide)) (fun h58 => ?_)
    refine e_run 1 rfl trivial ?_
    try simp only [rd_, up_, Nat.reduceEqDiff, reduceIte, and_self, and_true, true_and, and_false, false_and, if_true, if_false]
    exact e_ret rfl trivial rfl rfl
  · refine e_run 3 rfl trivial ?_
    try simp only [rd_, up_, Nat.reduceEqDiff, reduceIte, and_self, and_true, true_and, and_false, false_and, if_true, if_false]
    refine e_calli rfl (rs_in (d + 1) M m 0 3) (by decide) ?_
    try simp only [rd_, up_, Nat.reduceEqDiff, reduceIte, and_self, and_true, true_and, and_false, false_and, if_true, if_false]
    refine e_if rfl (fun h28 => ?_) (fun h28 => ?_)
    · exact absurd h (by simp_all)
    · refine e_run 5 rfl trivial ?_
      try simp only [rd_, up_, Nat.reduceEqDiff, reduceIte, and_self, and_true, true_and, and_false, false_and, if_true, if_false]
      refine e_if rfl (fun h58 => absurd h58 (by decide)) (fun h58 => ?_)
      refine e_run 1 rfl trivial ?_
      try simp only [rd_, up_, Nat.reduceEqDiff, reduceIte, and_self, and_true, true_and, and_false, false_and, if_true, if_false]
      exact e_ret rfl trivial rfl rfl
theorem rp_depend_s (d n c : Nat) {C M : mv_M} (t q m : Int32) (hD : dr_ C M n) (hc : c < n) (ht : tq_ t q = true) (hm : bw_ m 0 3 = true) (hk : C 8 0 c = nI 6) : ev_ (d + 2) kX4_depend [mv_R 22 0, mv_I (nI c), mv_I t, mv_I q, mv_I m] M (Sum.inl (some (mv_I 0))) (th_ M 3) := by
  have h20 := hD.1.2.1
  have hcm := cm_nI (by omega) hc
  have hk4 : M 24 0 c = nI 6 := (hD.2.2.2.2.1 c (by omega)).trans hk
  have hcl : (nI c).toNatClampNeg = c := nI_clamp (by omega)
  refine e_ev rfl rfl ?_
  refine e_run 3 rfl trivial ?_
  try simp only [rd_, up_, Nat.reduceEqDiff, reduceIte, and_self, and_true, true_and, and_false, false_and, if_true, if_false, hcl, hk4]
  refine e_calli rfl (rs_isComponent d hD.2.1 (by omega) (nI c)) (by decide) ?_
  try simp only [rd_, up_, Nat.reduceEqDiff, reduceIte, and_self, and_true, true_and, and_false, false_and, if_true, if_false, hcl, hk4]
  refine e_if rfl (fun h6 => ?_) (fun h6 => absurd h6 (by simp [hcm]))
  refine e_run 2 rfl trivial ?_
  try simp only [rd_, up_, Nat.reduceEqDiff, reduceIte, and_self, and_true, true_and, and_false, false_and, if_true, if_false, hcl, hk4]
  refine e_calli rfl (rs_isAsked d M t q) (by decide) ?_
  try simp only [rd_, up_, Nat.reduceEqDiff, reduceIte, and_self, and_true, true_and, and_false, false_and, if_true, if_false, hcl, hk4]
  refine e_if rfl (fun h18 => absurd h18 (by simp [ht])) (fun h18 => ?_)
  refine e_run 3 rfl trivial ?_
  try simp only [rd_, up_, Nat.reduceEqDiff, reduceIte, and_self, and_true, true_and, and_false, false_and, if_true, if_false, hcl, hk4]
  refine e_calli rfl (rs_in (d + 1) M m 0 3) (by decide) ?_
  try simp only [rd_, up_, Nat.reduceEqDiff, reduceIte, and_self, and_true, true_and, and_false, false_and, if_true, if_false, hcl, hk4]
  refine e_if rfl (fun h28 => ?_) (fun h28 => absurd h28 (by simp [hm]))
  refine e_run 5 rfl ?_ ?_
  · ((try simp only [rd_, up_, Nat.reduceEqDiff, reduceIte, and_self, and_true, true_and, and_false, false_and, if_true, if_false, hcl, hk4]) <;> and_intros <;> first | trivial | exact in_n (by omega) (by omega) | omega | (unfold vp_in; decide) | (simp only [*]; omega))
  try simp only [rd_, up_, Nat.reduceEqDiff, reduceIte, and_self, and_true, true_and, and_false, false_and, if_true, if_false, hcl, hk4]
  refine e_if rfl (fun h43 => absurd rfl h43) (fun h43 => ?_)
  refine e_run 5 rfl trivial ?_
  try simp only [rd_, up_, Nat.reduceEqDiff, reduceIte, and_self, and_true, true_and, and_false, false_and, if_true, if_false, hcl, hk4]
  refine e_if rfl (fun h58 => absurd h58 (by decide)) (fun h58 => ?_)
  refine e_run 1 rfl trivial ?_
  try simp only [rd_, up_, Nat.reduceEqDiff, reduceIte, and_self, and_true, true_and, and_false, false_and, if_true, if_false, hcl, hk4]
  exact e_ret rfl trivial rfl rfl
theorem rp_clear (d n c : Nat) {C M : mv_M} (hD : dr_ C M n) (hc : c < n) : ev_ (d + 2) kX4_clear [mv_R 22 0, mv_I (nI c)] M (Sum.inl (some (mv_I (C 8 0 c)))) (mv_up (th_ M 0) 24 0 c 0) := by
  have h20 := hD.1.2.1
  have hcm := cm_nI (by omega) hc
  have hk4 := hD.2.2.2.2.1 c (by omega)
  have hcl : (nI c).toNatClampNeg = c := nI_clamp (by omega)
  refine e_ev rfl rfl ?_
  refine e_run 3 rfl trivial ?_
  try simp only [rd_, up_, Nat.reduceEqDiff, reduceIte, and_self, and_true, true_and, and_false, false_and, if_true, if_false, hcl, hk4]
  refine e_calli rfl (rs_isComponent d hD.2.1 (by omega) (nI c)) (by decide) ?_
  try simp only [rd_, up_, Nat.reduceEqDiff, reduceIte, and_self, and_true, true_and, and_false, false_and, if_true, if_false, hcl, hk4]
  refine e_if rfl (fun h6 => absurd h6 (by simp [hcm])) (fun h6 => ?_)
  refine e_run 5 rfl trivial ?_
  try simp only [rd_, up_, Nat.reduceEqDiff, reduceIte, and_self, and_true, true_and, and_false, false_and, if_true, if_false, hcl, hk4]
  refine e_if rfl (fun h21 => ?_) (fun h21 => absurd rfl h21)
  refine e_run 11 rfl ?_ ?_
  · ((try simp only [rd_, up_, Nat.reduceEqDiff, reduceIte, and_self, and_true, true_and, and_false, false_and, if_true, if_false, hcl, hk4]) <;> and_intros <;> first | trivial | exact in_n (by omega) (by omega) | omega | (unfold vp_in; decide) | (simp only [*]; omega))
  try simp only [rd_, up_, Nat.reduceEqDiff, reduceIte, and_self, and_true, true_and, and_false, false_and, if_true, if_false, hcl, hk4]
  exact e_ret rfl trivial rfl rfl
theorem rp_clear_x (d n : Nat) {C M : mv_M} (x : Int32) (hD : dr_ C M n) (h : cm_ n x = false) : ev_ (d + 2) kX4_clear [mv_R 22 0, mv_I x] M (Sum.inl (some (mv_I 0))) (th_ M 1) := by
  have h20 := hD.1.2.1
  refine e_ev rfl rfl ?_
  refine e_run 3 rfl trivial ?_
  try simp only [rd_, up_, Nat.reduceEqDiff, reduceIte, and_self, and_true, true_and, and_false, false_and, if_true, if_false]
  refine e_calli rfl (rs_isComponent d hD.2.1 (by omega) x) (by decide) ?_
  try simp only [rd_, up_, Nat.reduceEqDiff, reduceIte, and_self, and_true, true_and, and_false, false_and, if_true, if_false]
  refine e_if rfl (fun h6 => ?_) (fun h6 => absurd (by simp [h]) h6)
  refine e_run 4 rfl trivial ?_
  try simp only [rd_, up_, Nat.reduceEqDiff, reduceIte, and_self, and_true, true_and, and_false, false_and, if_true, if_false]
  refine e_if rfl (fun h21 => absurd h21 (by decide)) (fun h21 => ?_)
  refine e_run 1 rfl trivial ?_
  try simp only [rd_, up_, Nat.reduceEqDiff, reduceIte, and_self, and_true, true_and, and_false, false_and, if_true, if_false]
  exact e_ret rfl trivial rfl rfl
theorem de_cm (C : mv_M) {c k : Nat} (i : Int32) (p : Nat) (hk : C 8 0 c = nI k) : de_ C c i p = if i = -1 then nI k else if cm_ k i = true then C 20 c (3 * i.toNatClampNeg + p) else -1 := by
  unfold de_ cm_
  rw [hk]
  simp only [Bool.and_eq_true, Bool.not_eq_true', decide_eq_false_iff_not, decide_eq_true_eq]
theorem rp_dependency (d n c p : Nat) {C M : mv_M} (i : Int32) (hD : dr_ C M n) (hc : c < n) (hp : p < 3) (hpb : bw_ (nI p) 0 2 = true) : ev_ (d + 2) kX4_dependency [mv_R 22 0, mv_I (nI c), mv_I i, mv_I (nI p)] M (Sum.inl (some (mv_I (de_ C c i p)))) (th_ M 0) := by
  have h20 := hD.1.2.1
  have hcm := cm_nI (by omega) hc
  obtain ⟨hk1, hk6⟩ := hD.1.2.2 c (by omega)
  have hk4 : M 24 0 c = nI (dc_ C c) := (hD.2.2.2.2.1 c (by omega)).trans hk1
  have hcl : (nI c).toNatClampNeg = c := nI_clamp (by omega)
  have hbc := bw_cm (n := dc_ C c) (by omega) i
  rw [de_cm C i p hk1]
  refine e_ev rfl rfl ?_
  refine e_run 3 rfl trivial ?_
  try simp only [rd_, up_, Nat.reduceEqDiff, reduceIte, and_self, and_true, true_and, and_false, false_and, if_true, if_false, hcl, hk4]
  refine e_calli rfl (rs_isComponent d hD.2.1 (by omega) (nI c)) (by decide) ?_
  try simp only [rd_, up_, Nat.reduceEqDiff, reduceIte, and_self, and_true, true_and, and_false, false_and, if_true, if_false, hcl, hk4]
  refine e_if rfl (fun h6 => ?_) (fun h6 => absurd h6 (by simp [hcm]))
  refine e_run 3 rfl trivial ?_
  try simp only [rd_, up_, Nat.reduceEqDiff, reduceIte, and_self, and_true, true_and, and_false, false_and, if_true, if_false, hcl, hk4]
  refine e_calli rfl (rs_in (d + 1) M (nI p) 0 2) (by decide) ?_
  try simp only [rd_, up_, Nat.reduceEqDiff, reduceIte, and_self, and_true, true_and, and_false, false_and, if_true, if_false, hcl, hk4]
  refine e_if rfl (fun h19 => ?_) (fun h19 => absurd h19 (by simp [hpb]))
  refine e_run 4 rfl trivial ?_
  try simp only [rd_, up_, Nat.reduceEqDiff, reduceIte, and_self, and_true, true_and, and_false, false_and, if_true, if_false, hcl, hk4]
  refine e_if rfl (fun h34 => ?_) (fun h34 => absurd rfl h34)
  refine e_run 2 rfl trivial ?_
  try simp only [rd_, up_, Nat.reduceEqDiff, reduceIte, and_self, and_true, true_and, and_false, false_and, if_true, if_false, hcl, hk4]
  refine e_if rfl (fun h41 => ?_) (fun h41 => ?_)
  · refine e_run 8 rfl ?_ ?_
    · ((try simp only [rd_, up_, Nat.reduceEqDiff, reduceIte, and_self, and_true, true_and, and_false, false_and, if_true, if_false, hcl, hk4]) <;> and_intros <;> first | trivial | exact in_n (by omega) (by omega) | omega | (unfold vp_in; decide) | (simp only [*]; omega))
    try simp only [rd_, up_, Nat.reduceEqDiff, reduceIte, and_self, and_true, true_and, and_false, false_and, if_true, if_false, hcl, hk4]
    refine e_calli rfl (rs_in (d + 1) _ i 0 _) (by decide) ?_
    try simp only [rd_, up_, Nat.reduceEqDiff, reduceIte, and_self, and_true, true_and, and_false, false_and, if_true, if_false, hcl, hk4]
    refine e_if rfl (fun h66 => ?_) (fun h66 => ?_)
    · have hq : ¬ cm_ (dc_ C c) i = true := by
        intro q
        rw [← hbc] at q
        rw [q] at h66
        exact absurd h66 (by decide)
      refine e_run 1 rfl trivial ?_
      try simp only [rd_, up_, Nat.reduceEqDiff, reduceIte, and_self, and_true, true_and, and_false, false_and, if_true, if_false, hcl, hk4]
      first
        | exact e_ret rfl trivial (by rw [if_pos h41]) rfl
        | exact e_ret rfl trivial (by rw [if_neg h41, if_pos hq, hjl]) rfl
        | exact e_ret rfl trivial (by rw [if_neg h41, if_neg hq]) rfl
    · have hq : cm_ (dc_ C c) i = true := by
        rw [← hbc]
        cases hb : bw_ i 0 (nI (dc_ C c) - 1) with
        | true => rfl
        | false => rw [hb] at h66; exact absurd rfl h66
      obtain ⟨j, hj, rfl⟩ := cm_t (by omega) hq
      have hjl : (nI j).toNatClampNeg = j := nI_clamp (by omega)
      refine e_run 4 rfl trivial ?_
      try simp only [rd_, up_, Nat.reduceEqDiff, reduceIte, and_self, and_true, true_and, and_false, false_and, if_true, if_false, hcl, hk4]
      refine e_calli rfl (rs_dependAt (d + 1) (dr_th hD) c j p (by omega) (by omega) hp) (by decide) ?_
      try simp only [rd_, up_, Nat.reduceEqDiff, reduceIte, and_self, and_true, true_and, and_false, false_and, if_true, if_false, hcl, hk4]
      refine e_run 1 rfl trivial ?_
      try simp only [rd_, up_, Nat.reduceEqDiff, reduceIte, and_self, and_true, true_and, and_false, false_and, if_true, if_false, hcl, hk4]
      first
        | exact e_ret rfl trivial (by rw [if_pos h41]) rfl
        | exact e_ret rfl trivial (by rw [if_neg h41, if_pos hq, hjl]) rfl
        | exact e_ret rfl trivial (by rw [if_neg h41, if_neg hq]) rfl
  · refine e_run 5 rfl ?_ ?_
    · ((try simp only [rd_, up_, Nat.reduceEqDiff, reduceIte, and_self, and_true, true_and, and_false, false_and, if_true, if_false, hcl, hk4]) <;> and_intros <;> first | trivial | exact in_n (by omega) (by omega) | omega | (unfold vp_in; decide) | (simp only [*]; omega))
    try simp only [rd_, up_, Nat.reduceEqDiff, reduceIte, and_self, and_true, true_and, and_false, false_and, if_true, if_false, hcl, hk4]
    first
      | exact e_ret rfl trivial (by rw [if_pos h41]) rfl
      | exact e_ret rfl trivial (by rw [if_neg h41, if_pos hq, hjl]) rfl
      | exact e_ret rfl trivial (by rw [if_neg h41, if_neg hq]) rfl
theorem rp_dependency_x (d n : Nat) {C M : mv_M} (x i p : Int32) (hD : dr_ C M n) (h : cm_ n x = false) : ev_ (d + 2) kX4_dependency [mv_R 22 0, mv_I x, mv_I i, mv_I p] M (Sum.inl (some (mv_I 0))) (th_ M 1) := by
  have h20 := hD.1.2.1
  refine e_ev rfl rfl ?_
  refine e_run 3 rfl trivial ?_
  try simp only [rd_, up_, Nat.reduceEqDiff, reduceIte, and_self, and_true, true_and, and_false, false_and, if_true, if_false]
  refine e_calli rfl (rs_isComponent d hD.2.1 (by omega) x) (by decide) ?_
  try simp only [rd_, up_, Nat.reduceEqDiff, reduceIte, and_self, and_true, true_and, and_false, false_and, if_true, if_false]
  refine e_if rfl (fun h6 => absurd (by simp [h]) h6) (fun h6 => ?_)
  refine e_run 5 rfl trivial ?_
  try simp only [rd_, up_, Nat.reduceEqDiff, reduceIte, and_self, and_true, true_and, and_false, false_and, if_true, if_false]
  refine e_if rfl (fun h34 => absurd h34 (by decide)) (fun h34 => ?_)
  refine e_run 1 rfl trivial ?_
  try simp only [rd_, up_, Nat.reduceEqDiff, reduceIte, and_self, and_true, true_and, and_false, false_and, if_true, if_false]
  exact e_ret rfl trivial rfl rfl
theorem rp_dependency_i (d n c : Nat) {C M : mv_M} (i p : Int32) (hD : dr_ C M n) (hc : c < n) (hp : bw_ p 0 2 = false) : ev_ (d + 2) kX4_dependency [mv_R 22 0, mv_I (nI c), mv_I i, mv_I p] M (Sum.inl (some (mv_I 0))) (th_ M 2) := by
  have h20 := hD.1.2.1
  have hcm := cm_nI (by omega) hc
  refine e_ev rfl rfl ?_
  refine e_run 3 rfl trivial ?_
  try simp only [rd_, up_, Nat.reduceEqDiff, reduceIte, and_self, and_true, true_and, and_false, false_and, if_true, if_false]
  refine e_calli rfl (rs_isComponent d hD.2.1 (by omega) (nI c)) (by decide) ?_
  try simp only [rd_, up_, Nat.reduceEqDiff, reduceIte, and_self, and_true, true_and, and_false, false_and, if_true, if_false]
  refine e_if rfl (fun h6 => ?_) (fun h6 => absurd h6 (by simp [hcm]))
  refine e_run 3 rfl trivial ?_
  try simp only [rd_, up_, Nat.reduceEqDiff, reduceIte, and_self, and_true, true_and, and_false, false_and, if_true, if_false]
  refine e_calli rfl (rs_in (d + 1) M p 0 2) (by decide) ?_
  try simp only [rd_, up_, Nat.reduceEqDiff, reduceIte, and_self, and_true, true_and, and_false, false_and, if_true, if_false]
  refine e_if rfl (fun h19 => absurd (by simp [hp]) h19) (fun h19 => ?_)
  refine e_run 5 rfl trivial ?_
  try simp only [rd_, up_, Nat.reduceEqDiff, reduceIte, and_self, and_true, true_and, and_false, false_and, if_true, if_false]
  refine e_if rfl (fun h34 => absurd h34 (by decide)) (fun h34 => ?_)
  refine e_run 1 rfl trivial ?_
  try simp only [rd_, up_, Nat.reduceEqDiff, reduceIte, and_self, and_true, true_and, and_false, false_and, if_true, if_false]
  exact e_ret rfl trivial rfl rfl
