
/-! THE LAW'S WRAPPERS -/
def wrw_ (k3 kL : Nat) (as : List mv_V) (cd : Nat → Int32) (B : Int32 → Prop) (M : mv_M) : Prop := (∀ (v : Int32) (M1 : mv_M), B v → ev_ 100 k3 (mv_R 0 0 :: as) M (Sum.inl (some (mv_I v))) M1 → ev_ 101 kL (mv_R 0 0 :: (as ++ [mv_R 42 0])) M (Sum.inl (some (mv_I 0))) (mv_up M1 42 0 0 v)) ∧ ∀ (E : Nat) (M1 : mv_M), ¬ cd E = 0 → ev_ 100 k3 (mv_R 0 0 :: as) M (Sum.inr E) M1 → ev_ 101 kL (mv_R 0 0 :: (as ++ [mv_R 42 0])) M (Sum.inl (some (mv_I (cd E)))) M1
theorem wr_add (x1 x2 : Int32) (M : mv_M) : wrw_ kX3_add kL_add [mv_I x1, mv_I x2] cA_ bA_ M := by
  refine ⟨fun v M1 hB h => ?_, fun E M1 hE h => ?_⟩
  · refine e_ev rfl rfl ?_
    refine e_run 5 rfl trivial ?_
    try simp only [cl_0, cl_1, cl_2, cl_3, cl_4, cl_5, cl_6]
    refine e_calli rfl (h) (by decide) ?_
    try simp only [cl_0, cl_1, cl_2, cl_3, cl_4, cl_5, cl_6]
    refine e_run 4 rfl ?_ ?_
    · exact ⟨⟨by unfold vp_in; decide, by decide⟩, trivial⟩
    try simp only [cl_0, cl_1, cl_2, cl_3, cl_4, cl_5, cl_6]
    exact e_ret rfl trivial rfl rfl
  · by_cases e0 : E = 0
    · subst e0
      refine e_ev rfl rfl ?_
      refine e_run 5 rfl trivial ?_
      try simp only [cl_0, cl_1, cl_2, cl_3, cl_4, cl_5, cl_6]
      refine e_catch rfl h (by decide) rfl ?_
      refine e_run 1 rfl trivial ?_
      exact e_ret rfl trivial rfl rfl
    by_cases e1 : E = 1
    · subst e1
      refine e_ev rfl rfl ?_
      refine e_run 5 rfl trivial ?_
      try simp only [cl_0, cl_1, cl_2, cl_3, cl_4, cl_5, cl_6]
      refine e_catch rfl h (by decide) rfl ?_
      refine e_run 1 rfl trivial ?_
      exact e_ret rfl trivial rfl rfl
    exact absurd (by simp [cA_, e0, e1]) hE
theorem wr_set (x1 x2 x3 : Int32) (M : mv_M) : wrw_ kX3_set kL_set [mv_I x1, mv_I x2, mv_I x3] cB_ bA_ M := by
  refine ⟨fun v M1 hB h => ?_, fun E M1 hE h => ?_⟩
  · refine e_ev rfl rfl ?_
    refine e_run 6 rfl trivial ?_
    try simp only [cl_0, cl_1, cl_2, cl_3, cl_4, cl_5, cl_6]
    refine e_calli rfl (h) (by decide) ?_
    try simp only [cl_0, cl_1, cl_2, cl_3, cl_4, cl_5, cl_6]
    refine e_run 4 rfl ?_ ?_
    · exact ⟨⟨by unfold vp_in; decide, by decide⟩, trivial⟩
    try simp only [cl_0, cl_1, cl_2, cl_3, cl_4, cl_5, cl_6]
    exact e_ret rfl trivial rfl rfl
  · by_cases e0 : E = 0
    · subst e0
      refine e_ev rfl rfl ?_
      refine e_run 6 rfl trivial ?_
      try simp only [cl_0, cl_1, cl_2, cl_3, cl_4, cl_5, cl_6]
      refine e_catch rfl h (by decide) rfl ?_
      refine e_run 1 rfl trivial ?_
      exact e_ret rfl trivial rfl rfl
    by_cases e2 : E = 2
    · subst e2
      refine e_ev rfl rfl ?_
      refine e_run 6 rfl trivial ?_
      try simp only [cl_0, cl_1, cl_2, cl_3, cl_4, cl_5, cl_6]
      refine e_catch rfl h (by decide) rfl ?_
      refine e_run 1 rfl trivial ?_
      exact e_ret rfl trivial rfl rfl
    exact absurd (by simp [cB_, e0, e2]) hE
theorem wr_property (x1 x2 : Int32) (M : mv_M) : wrw_ kX3_property kL_property [mv_I x1, mv_I x2] cB_ bA_ M := by
  refine ⟨fun v M1 hB h => ?_, fun E M1 hE h => ?_⟩
  · refine e_ev rfl rfl ?_
    refine e_run 5 rfl trivial ?_
    try simp only [cl_0, cl_1, cl_2, cl_3, cl_4, cl_5, cl_6]
    refine e_calli rfl (h) (by decide) ?_
    try simp only [cl_0, cl_1, cl_2, cl_3, cl_4, cl_5, cl_6]
    refine e_run 4 rfl ?_ ?_
    · exact ⟨⟨by unfold vp_in; decide, by decide⟩, trivial⟩
    try simp only [cl_0, cl_1, cl_2, cl_3, cl_4, cl_5, cl_6]
    exact e_ret rfl trivial rfl rfl
  · by_cases e0 : E = 0
    · subst e0
      refine e_ev rfl rfl ?_
      refine e_run 5 rfl trivial ?_
      try simp only [cl_0, cl_1, cl_2, cl_3, cl_4, cl_5, cl_6]
      refine e_catch rfl h (by decide) rfl ?_
      refine e_run 1 rfl trivial ?_
      exact e_ret rfl trivial rfl rfl
    by_cases e2 : E = 2
    · subst e2
      refine e_ev rfl rfl ?_
      refine e_run 5 rfl trivial ?_
      try simp only [cl_0, cl_1, cl_2, cl_3, cl_4, cl_5, cl_6]
      refine e_catch rfl h (by decide) rfl ?_
      refine e_run 1 rfl trivial ?_
      exact e_ret rfl trivial rfl rfl
    exact absurd (by simp [cB_, e0, e2]) hE
theorem wr_depend (x1 x2 x3 x4 : Int32) (M : mv_M) : wrw_ kX3_depend kL_depend [mv_I x1, mv_I x2, mv_I x3, mv_I x4] cC_ bA_ M := by
  refine ⟨fun v M1 hB h => ?_, fun E M1 hE h => ?_⟩
  · refine e_ev rfl rfl ?_
    refine e_run 7 rfl trivial ?_
    try simp only [cl_0, cl_1, cl_2, cl_3, cl_4, cl_5, cl_6]
    refine e_calli rfl (h) (by decide) ?_
    try simp only [cl_0, cl_1, cl_2, cl_3, cl_4, cl_5, cl_6]
    refine e_run 4 rfl ?_ ?_
    · exact ⟨⟨by unfold vp_in; decide, by decide⟩, trivial⟩
    try simp only [cl_0, cl_1, cl_2, cl_3, cl_4, cl_5, cl_6]
    exact e_ret rfl trivial rfl rfl
  · by_cases e0 : E = 0
    · subst e0
      refine e_ev rfl rfl ?_
      refine e_run 7 rfl trivial ?_
      try simp only [cl_0, cl_1, cl_2, cl_3, cl_4, cl_5, cl_6]
      refine e_catch rfl h (by decide) rfl ?_
      refine e_run 1 rfl trivial ?_
      exact e_ret rfl trivial rfl rfl
    by_cases e1 : E = 1
    · subst e1
      refine e_ev rfl rfl ?_
      refine e_run 7 rfl trivial ?_
      try simp only [cl_0, cl_1, cl_2, cl_3, cl_4, cl_5, cl_6]
      refine e_catch rfl h (by decide) rfl ?_
      refine e_run 1 rfl trivial ?_
      exact e_ret rfl trivial rfl rfl
    by_cases e2 : E = 2
    · subst e2
      refine e_ev rfl rfl ?_
      refine e_run 7 rfl trivial ?_
      try simp only [cl_0, cl_1, cl_2, cl_3, cl_4, cl_5, cl_6]
      refine e_catch rfl h (by decide) rfl ?_
      refine e_run 1 rfl trivial ?_
      exact e_ret rfl trivial rfl rfl
    exact absurd (by simp [cC_, e0, e1, e2]) hE
theorem wr_clear (x1 : Int32) (M : mv_M) : wrw_ kX3_clear kL_clear [mv_I x1] cD_ bA_ M := by
  refine ⟨fun v M1 hB h => ?_, fun E M1 hE h => ?_⟩
  · refine e_ev rfl rfl ?_
    refine e_run 4 rfl trivial ?_
    try simp only [cl_0, cl_1, cl_2, cl_3, cl_4, cl_5, cl_6]
    refine e_calli rfl (h) (by decide) ?_
    try simp only [cl_0, cl_1, cl_2, cl_3, cl_4, cl_5, cl_6]
    refine e_run 4 rfl ?_ ?_
    · exact ⟨⟨by unfold vp_in; decide, by decide⟩, trivial⟩
    try simp only [cl_0, cl_1, cl_2, cl_3, cl_4, cl_5, cl_6]
    exact e_ret rfl trivial rfl rfl
  · by_cases e2 : E = 2
    · subst e2
      refine e_ev rfl rfl ?_
      refine e_run 4 rfl trivial ?_
      try simp only [cl_0, cl_1, cl_2, cl_3, cl_4, cl_5, cl_6]
      refine e_catch rfl h (by decide) rfl ?_
      refine e_run 1 rfl trivial ?_
      exact e_ret rfl trivial rfl rfl
    exact absurd (by simp [cD_, e2]) hE
theorem wr_dependency (x1 x2 x3 : Int32) (M : mv_M) : wrw_ kX3_dependency kL_dependency [mv_I x1, mv_I x2, mv_I x3] cB_ bA_ M := by
  refine ⟨fun v M1 hB h => ?_, fun E M1 hE h => ?_⟩
  · refine e_ev rfl rfl ?_
    refine e_run 6 rfl trivial ?_
    try simp only [cl_0, cl_1, cl_2, cl_3, cl_4, cl_5, cl_6]
    refine e_calli rfl (h) (by decide) ?_
    try simp only [cl_0, cl_1, cl_2, cl_3, cl_4, cl_5, cl_6]
    refine e_run 4 rfl ?_ ?_
    · exact ⟨⟨by unfold vp_in; decide, by decide⟩, trivial⟩
    try simp only [cl_0, cl_1, cl_2, cl_3, cl_4, cl_5, cl_6]
    exact e_ret rfl trivial rfl rfl
  · by_cases e0 : E = 0
    · subst e0
      refine e_ev rfl rfl ?_
      refine e_run 6 rfl trivial ?_
      try simp only [cl_0, cl_1, cl_2, cl_3, cl_4, cl_5, cl_6]
      refine e_catch rfl h (by decide) rfl ?_
      refine e_run 1 rfl trivial ?_
      exact e_ret rfl trivial rfl rfl
    by_cases e2 : E = 2
    · subst e2
      refine e_ev rfl rfl ?_
      refine e_run 6 rfl trivial ?_
      try simp only [cl_0, cl_1, cl_2, cl_3, cl_4, cl_5, cl_6]
      refine e_catch rfl h (by decide) rfl ?_
      refine e_run 1 rfl trivial ?_
      exact e_ret rfl trivial rfl rfl
    exact absurd (by simp [cB_, e0, e2]) hE
theorem wr_profile (x1 x2 : Int32) (M : mv_M) : wrw_ kX3_profile kL_profile [mv_I x1, mv_I x2] cE_ bZ_ M := by
  refine ⟨fun v M1 hB h => ?_, fun E M1 hE h => ?_⟩
  · rcases hB with rfl | rfl
    · refine e_ev rfl rfl ?_
      refine e_run 5 rfl trivial ?_
      try simp only [cl_0, cl_1, cl_2, cl_3, cl_4, cl_5, cl_6]
      refine e_calli rfl (h) (by decide) ?_
      try simp only [cl_0, cl_1, cl_2, cl_3, cl_4, cl_5, cl_6]
      refine e_if rfl (fun h8 => ?_) (fun h8 => absurd rfl h8)
      refine e_run 4 rfl ?_ ?_
      · exact ⟨⟨by unfold vp_in; decide, by decide⟩, trivial⟩
      try simp only [cl_0, cl_1, cl_2, cl_3, cl_4, cl_5, cl_6]
      exact e_ret rfl trivial rfl rfl
    · refine e_ev rfl rfl ?_
      refine e_run 5 rfl trivial ?_
      try simp only [cl_0, cl_1, cl_2, cl_3, cl_4, cl_5, cl_6]
      refine e_calli rfl (h) (by decide) ?_
      try simp only [cl_0, cl_1, cl_2, cl_3, cl_4, cl_5, cl_6]
      refine e_if rfl (fun h8 => absurd h8 (by decide)) (fun h8 => ?_)
      refine e_run 5 rfl ?_ ?_
      · exact ⟨⟨by unfold vp_in; decide, by decide⟩, trivial⟩
      try simp only [cl_0, cl_1, cl_2, cl_3, cl_4, cl_5, cl_6]
      exact e_ret rfl trivial rfl rfl
  · by_cases e0 : E = 0
    · subst e0
      refine e_ev rfl rfl ?_
      refine e_run 5 rfl trivial ?_
      try simp only [cl_0, cl_1, cl_2, cl_3, cl_4, cl_5, cl_6]
      refine e_catch rfl h (by decide) rfl ?_
      refine e_run 1 rfl trivial ?_
      exact e_ret rfl trivial rfl rfl
    exact absurd (by simp [cE_, e0]) hE
theorem wr_candidates (x1 x2 : Int32) (M : mv_M) : wrw_ kX3_candidates kL_candidates [mv_I x1, mv_I x2] cE_ bA_ M := by
  refine ⟨fun v M1 hB h => ?_, fun E M1 hE h => ?_⟩
  · refine e_ev rfl rfl ?_
    refine e_run 5 rfl trivial ?_
    try simp only [cl_0, cl_1, cl_2, cl_3, cl_4, cl_5, cl_6]
    refine e_calli rfl (h) (by decide) ?_
    try simp only [cl_0, cl_1, cl_2, cl_3, cl_4, cl_5, cl_6]
    refine e_run 4 rfl ?_ ?_
    · exact ⟨⟨by unfold vp_in; decide, by decide⟩, trivial⟩
    try simp only [cl_0, cl_1, cl_2, cl_3, cl_4, cl_5, cl_6]
    exact e_ret rfl trivial rfl rfl
  · by_cases e0 : E = 0
    · subst e0
      refine e_ev rfl rfl ?_
      refine e_run 5 rfl trivial ?_
      try simp only [cl_0, cl_1, cl_2, cl_3, cl_4, cl_5, cl_6]
      refine e_catch rfl h (by decide) rfl ?_
      refine e_run 1 rfl trivial ?_
      exact e_ret rfl trivial rfl rfl
    exact absurd (by simp [cE_, e0]) hE
theorem wr_chosen (x1 x2 : Int32) (M : mv_M) : wrw_ kX3_chosen kL_chosen [mv_I x1, mv_I x2] cE_ bA_ M := by
  refine ⟨fun v M1 hB h => ?_, fun E M1 hE h => ?_⟩
  · refine e_ev rfl rfl ?_
    refine e_run 5 rfl trivial ?_
    try simp only [cl_0, cl_1, cl_2, cl_3, cl_4, cl_5, cl_6]
    refine e_calli rfl (h) (by decide) ?_
    try simp only [cl_0, cl_1, cl_2, cl_3, cl_4, cl_5, cl_6]
    refine e_run 4 rfl ?_ ?_
    · exact ⟨⟨by unfold vp_in; decide, by decide⟩, trivial⟩
    try simp only [cl_0, cl_1, cl_2, cl_3, cl_4, cl_5, cl_6]
    exact e_ret rfl trivial rfl rfl
  · by_cases e0 : E = 0
    · subst e0
      refine e_ev rfl rfl ?_
      refine e_run 5 rfl trivial ?_
      try simp only [cl_0, cl_1, cl_2, cl_3, cl_4, cl_5, cl_6]
      refine e_catch rfl h (by decide) rfl ?_
      refine e_run 1 rfl trivial ?_
      exact e_ret rfl trivial rfl rfl
    exact absurd (by simp [cE_, e0]) hE
theorem wr_problem (x1 : Int32) (M : mv_M) : wrw_ kX3_problem kL_problem [mv_I x1] cD_ bA_ M := by
  refine ⟨fun v M1 hB h => ?_, fun E M1 hE h => ?_⟩
  · refine e_ev rfl rfl ?_
    refine e_run 4 rfl trivial ?_
    try simp only [cl_0, cl_1, cl_2, cl_3, cl_4, cl_5, cl_6]
    refine e_calli rfl (h) (by decide) ?_
    try simp only [cl_0, cl_1, cl_2, cl_3, cl_4, cl_5, cl_6]
    refine e_run 4 rfl ?_ ?_
    · exact ⟨⟨by unfold vp_in; decide, by decide⟩, trivial⟩
    try simp only [cl_0, cl_1, cl_2, cl_3, cl_4, cl_5, cl_6]
    exact e_ret rfl trivial rfl rfl
  · by_cases e2 : E = 2
    · subst e2
      refine e_ev rfl rfl ?_
      refine e_run 4 rfl trivial ?_
      try simp only [cl_0, cl_1, cl_2, cl_3, cl_4, cl_5, cl_6]
      refine e_catch rfl h (by decide) rfl ?_
      refine e_run 1 rfl trivial ?_
      exact e_ret rfl trivial rfl rfl
    exact absurd (by simp [cD_, e2]) hE
theorem wr_needs (x1 : Int32) (M : mv_M) : wrw_ kX3_needs kL_needs [mv_I x1] cD_ bA_ M := by
  refine ⟨fun v M1 hB h => ?_, fun E M1 hE h => ?_⟩
  · refine e_ev rfl rfl ?_
    refine e_run 4 rfl trivial ?_
    try simp only [cl_0, cl_1, cl_2, cl_3, cl_4, cl_5, cl_6]
    refine e_calli rfl (h) (by decide) ?_
    try simp only [cl_0, cl_1, cl_2, cl_3, cl_4, cl_5, cl_6]
    refine e_run 4 rfl ?_ ?_
    · exact ⟨⟨by unfold vp_in; decide, by decide⟩, trivial⟩
    try simp only [cl_0, cl_1, cl_2, cl_3, cl_4, cl_5, cl_6]
    exact e_ret rfl trivial rfl rfl
  · by_cases e2 : E = 2
    · subst e2
      refine e_ev rfl rfl ?_
      refine e_run 4 rfl trivial ?_
      try simp only [cl_0, cl_1, cl_2, cl_3, cl_4, cl_5, cl_6]
      refine e_catch rfl h (by decide) rfl ?_
      refine e_run 1 rfl trivial ?_
      exact e_ret rfl trivial rfl rfl
    exact absurd (by simp [cD_, e2]) hE
theorem wr_resolve (x1 x2 : Int32) (M : mv_M) : wrw_ kX3_resolve kL_resolve [mv_I x1, mv_I x2] cA_ bA_ M := by
  refine ⟨fun v M1 hB h => ?_, fun E M1 hE h => ?_⟩
  · refine e_ev rfl rfl ?_
    refine e_run 5 rfl trivial ?_
    try simp only [cl_0, cl_1, cl_2, cl_3, cl_4, cl_5, cl_6]
    refine e_calli rfl (h) (by decide) ?_
    try simp only [cl_0, cl_1, cl_2, cl_3, cl_4, cl_5, cl_6]
    refine e_run 4 rfl ?_ ?_
    · exact ⟨⟨by unfold vp_in; decide, by decide⟩, trivial⟩
    try simp only [cl_0, cl_1, cl_2, cl_3, cl_4, cl_5, cl_6]
    exact e_ret rfl trivial rfl rfl
  · by_cases e0 : E = 0
    · subst e0
      refine e_ev rfl rfl ?_
      refine e_run 5 rfl trivial ?_
      try simp only [cl_0, cl_1, cl_2, cl_3, cl_4, cl_5, cl_6]
      refine e_catch rfl h (by decide) rfl ?_
      refine e_run 1 rfl trivial ?_
      exact e_ret rfl trivial rfl rfl
    by_cases e1 : E = 1
    · subst e1
      refine e_ev rfl rfl ?_
      refine e_run 5 rfl trivial ?_
      try simp only [cl_0, cl_1, cl_2, cl_3, cl_4, cl_5, cl_6]
      refine e_catch rfl h (by decide) rfl ?_
      refine e_run 1 rfl trivial ?_
      exact e_ret rfl trivial rfl rfl
    exact absurd (by simp [cA_, e0, e1]) hE
theorem wr_provide (x1 x2 : Int32) (M : mv_M) : wrw_ kX3_provide kL_provide [mv_I x1, mv_I x2] cC_ bA_ M := by
  refine ⟨fun v M1 hB h => ?_, fun E M1 hE h => ?_⟩
  · refine e_ev rfl rfl ?_
    refine e_run 5 rfl trivial ?_
    try simp only [cl_0, cl_1, cl_2, cl_3, cl_4, cl_5, cl_6]
    refine e_calli rfl (h) (by decide) ?_
    try simp only [cl_0, cl_1, cl_2, cl_3, cl_4, cl_5, cl_6]
    refine e_run 4 rfl ?_ ?_
    · exact ⟨⟨by unfold vp_in; decide, by decide⟩, trivial⟩
    try simp only [cl_0, cl_1, cl_2, cl_3, cl_4, cl_5, cl_6]
    exact e_ret rfl trivial rfl rfl
  · by_cases e0 : E = 0
    · subst e0
      refine e_ev rfl rfl ?_
      refine e_run 5 rfl trivial ?_
      try simp only [cl_0, cl_1, cl_2, cl_3, cl_4, cl_5, cl_6]
      refine e_catch rfl h (by decide) rfl ?_
      refine e_run 1 rfl trivial ?_
      exact e_ret rfl trivial rfl rfl
    by_cases e1 : E = 1
    · subst e1
      refine e_ev rfl rfl ?_
      refine e_run 5 rfl trivial ?_
      try simp only [cl_0, cl_1, cl_2, cl_3, cl_4, cl_5, cl_6]
      refine e_catch rfl h (by decide) rfl ?_
      refine e_run 1 rfl trivial ?_
      exact e_ret rfl trivial rfl rfl
    by_cases e2 : E = 2
    · subst e2
      refine e_ev rfl rfl ?_
      refine e_run 5 rfl trivial ?_
      try simp only [cl_0, cl_1, cl_2, cl_3, cl_4, cl_5, cl_6]
      refine e_catch rfl h (by decide) rfl ?_
      refine e_run 1 rfl trivial ?_
      exact e_ret rfl trivial rfl rfl
    exact absurd (by simp [cC_, e0, e1, e2]) hE
theorem wr_start (M : mv_M) : wrw_ kX3_start kL_start [] cF_ bA_ M := by
  refine ⟨fun v M1 hB h => ?_, fun E M1 hE h => ?_⟩
  · refine e_ev rfl rfl ?_
    refine e_run 3 rfl trivial ?_
    try simp only [cl_0, cl_1, cl_2, cl_3, cl_4, cl_5, cl_6]
    refine e_calli rfl (h) (by decide) ?_
    try simp only [cl_0, cl_1, cl_2, cl_3, cl_4, cl_5, cl_6]
    refine e_run 4 rfl ?_ ?_
    · exact ⟨⟨by unfold vp_in; decide, by decide⟩, trivial⟩
    try simp only [cl_0, cl_1, cl_2, cl_3, cl_4, cl_5, cl_6]
    exact e_ret rfl trivial rfl rfl
  · by_cases e1 : E = 1
    · subst e1
      refine e_ev rfl rfl ?_
      refine e_run 3 rfl trivial ?_
      try simp only [cl_0, cl_1, cl_2, cl_3, cl_4, cl_5, cl_6]
      refine e_catch rfl h (by decide) rfl ?_
      refine e_run 1 rfl trivial ?_
      exact e_ret rfl trivial rfl rfl
    exact absurd (by simp [cF_, e1]) hE
theorem wr_begin (M : mv_M) : wrw_ kX3_begin kL_begin [] cF_ bA_ M := by
  refine ⟨fun v M1 hB h => ?_, fun E M1 hE h => ?_⟩
  · refine e_ev rfl rfl ?_
    refine e_run 3 rfl trivial ?_
    try simp only [cl_0, cl_1, cl_2, cl_3, cl_4, cl_5, cl_6]
    refine e_calli rfl (h) (by decide) ?_
    try simp only [cl_0, cl_1, cl_2, cl_3, cl_4, cl_5, cl_6]
    refine e_run 4 rfl ?_ ?_
    · exact ⟨⟨by unfold vp_in; decide, by decide⟩, trivial⟩
    try simp only [cl_0, cl_1, cl_2, cl_3, cl_4, cl_5, cl_6]
    exact e_ret rfl trivial rfl rfl
  · by_cases e1 : E = 1
    · subst e1
      refine e_ev rfl rfl ?_
      refine e_run 3 rfl trivial ?_
      try simp only [cl_0, cl_1, cl_2, cl_3, cl_4, cl_5, cl_6]
      refine e_catch rfl h (by decide) rfl ?_
      refine e_run 1 rfl trivial ?_
      exact e_ret rfl trivial rfl rfl
    exact absurd (by simp [cF_, e1]) hE
theorem wr_end (M : mv_M) : wrw_ kX3_end kL_end [] cF_ bA_ M := by
  refine ⟨fun v M1 hB h => ?_, fun E M1 hE h => ?_⟩
  · refine e_ev rfl rfl ?_
    refine e_run 3 rfl trivial ?_
    try simp only [cl_0, cl_1, cl_2, cl_3, cl_4, cl_5, cl_6]
    refine e_calli rfl (h) (by decide) ?_
    try simp only [cl_0, cl_1, cl_2, cl_3, cl_4, cl_5, cl_6]
    refine e_run 4 rfl ?_ ?_
    · exact ⟨⟨by unfold vp_in; decide, by decide⟩, trivial⟩
    try simp only [cl_0, cl_1, cl_2, cl_3, cl_4, cl_5, cl_6]
    exact e_ret rfl trivial rfl rfl
  · by_cases e1 : E = 1
    · subst e1
      refine e_ev rfl rfl ?_
      refine e_run 3 rfl trivial ?_
      try simp only [cl_0, cl_1, cl_2, cl_3, cl_4, cl_5, cl_6]
      refine e_catch rfl h (by decide) rfl ?_
      refine e_run 1 rfl trivial ?_
      exact e_ret rfl trivial rfl rfl
    exact absurd (by simp [cF_, e1]) hE
theorem wr_componentOf (x1 : Int32) (M : mv_M) : wrw_ kX3_componentOf kL_componentOf [mv_I x1] cD_ bA_ M := by
  refine ⟨fun v M1 hB h => ?_, fun E M1 hE h => ?_⟩
  · refine e_ev rfl rfl ?_
    refine e_run 4 rfl trivial ?_
    try simp only [cl_0, cl_1, cl_2, cl_3, cl_4, cl_5, cl_6]
    refine e_calli rfl (h) (by decide) ?_
    try simp only [cl_0, cl_1, cl_2, cl_3, cl_4, cl_5, cl_6]
    refine e_run 4 rfl ?_ ?_
    · exact ⟨⟨by unfold vp_in; decide, by decide⟩, trivial⟩
    try simp only [cl_0, cl_1, cl_2, cl_3, cl_4, cl_5, cl_6]
    exact e_ret rfl trivial rfl rfl
  · by_cases e2 : E = 2
    · subst e2
      refine e_ev rfl rfl ?_
      refine e_run 4 rfl trivial ?_
      try simp only [cl_0, cl_1, cl_2, cl_3, cl_4, cl_5, cl_6]
      refine e_catch rfl h (by decide) rfl ?_
      refine e_run 1 rfl trivial ?_
      exact e_ret rfl trivial rfl rfl
    exact absurd (by simp [cD_, e2]) hE
theorem wr_isAlive (x1 : Int32) (M : mv_M) : wrw_ kX3_isAlive kL_isAlive [mv_I x1] cD_ bZ_ M := by
  refine ⟨fun v M1 hB h => ?_, fun E M1 hE h => ?_⟩
  · rcases hB with rfl | rfl
    · refine e_ev rfl rfl ?_
      refine e_run 4 rfl trivial ?_
      try simp only [cl_0, cl_1, cl_2, cl_3, cl_4, cl_5, cl_6]
      refine e_calli rfl (h) (by decide) ?_
      try simp only [cl_0, cl_1, cl_2, cl_3, cl_4, cl_5, cl_6]
      refine e_if rfl (fun h7 => ?_) (fun h7 => absurd rfl h7)
      refine e_run 4 rfl ?_ ?_
      · exact ⟨⟨by unfold vp_in; decide, by decide⟩, trivial⟩
      try simp only [cl_0, cl_1, cl_2, cl_3, cl_4, cl_5, cl_6]
      exact e_ret rfl trivial rfl rfl
    · refine e_ev rfl rfl ?_
      refine e_run 4 rfl trivial ?_
      try simp only [cl_0, cl_1, cl_2, cl_3, cl_4, cl_5, cl_6]
      refine e_calli rfl (h) (by decide) ?_
      try simp only [cl_0, cl_1, cl_2, cl_3, cl_4, cl_5, cl_6]
      refine e_if rfl (fun h7 => absurd h7 (by decide)) (fun h7 => ?_)
      refine e_run 5 rfl ?_ ?_
      · exact ⟨⟨by unfold vp_in; decide, by decide⟩, trivial⟩
      try simp only [cl_0, cl_1, cl_2, cl_3, cl_4, cl_5, cl_6]
      exact e_ret rfl trivial rfl rfl
  · by_cases e2 : E = 2
    · subst e2
      refine e_ev rfl rfl ?_
      refine e_run 4 rfl trivial ?_
      try simp only [cl_0, cl_1, cl_2, cl_3, cl_4, cl_5, cl_6]
      refine e_catch rfl h (by decide) rfl ?_
      refine e_run 1 rfl trivial ?_
      exact e_ret rfl trivial rfl rfl
    exact absurd (by simp [cD_, e2]) hE
theorem wr_injected (x1 x2 : Int32) (M : mv_M) : wrw_ kX3_injected kL_injected [mv_I x1, mv_I x2] cB_ bA_ M := by
  refine ⟨fun v M1 hB h => ?_, fun E M1 hE h => ?_⟩
  · refine e_ev rfl rfl ?_
    refine e_run 5 rfl trivial ?_
    try simp only [cl_0, cl_1, cl_2, cl_3, cl_4, cl_5, cl_6]
    refine e_calli rfl (h) (by decide) ?_
    try simp only [cl_0, cl_1, cl_2, cl_3, cl_4, cl_5, cl_6]
    refine e_run 4 rfl ?_ ?_
    · exact ⟨⟨by unfold vp_in; decide, by decide⟩, trivial⟩
    try simp only [cl_0, cl_1, cl_2, cl_3, cl_4, cl_5, cl_6]
    exact e_ret rfl trivial rfl rfl
  · by_cases e0 : E = 0
    · subst e0
      refine e_ev rfl rfl ?_
      refine e_run 5 rfl trivial ?_
      try simp only [cl_0, cl_1, cl_2, cl_3, cl_4, cl_5, cl_6]
      refine e_catch rfl h (by decide) rfl ?_
      refine e_run 1 rfl trivial ?_
      exact e_ret rfl trivial rfl rfl
    by_cases e2 : E = 2
    · subst e2
      refine e_ev rfl rfl ?_
      refine e_run 5 rfl trivial ?_
      try simp only [cl_0, cl_1, cl_2, cl_3, cl_4, cl_5, cl_6]
      refine e_catch rfl h (by decide) rfl ?_
      refine e_run 1 rfl trivial ?_
      exact e_ret rfl trivial rfl rfl
    exact absurd (by simp [cB_, e0, e2]) hE
