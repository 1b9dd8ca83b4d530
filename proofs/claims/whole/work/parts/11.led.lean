/-! THE CLASS'S METHODS: dependencies, profiles, the failure, the ledger -/
theorem ix_30 (i : Nat) : nI i * 3 + 0 = nI (3 * i) := ix_3 i 0
theorem ix_31 (i : Nat) : nI i * 3 + 1 = nI (3 * i + 1) := ix_3 i 1
theorem ix_32 (i : Nat) : nI i * 3 + 2 = nI (3 * i + 2) := ix_3 i 2
theorem ix_6 (i : Nat) : nI i * 6 = nI (6 * i) := by rw [show (6 : Int32) = nI 6 from rfl, pk_mul, Nat.mul_comm]
theorem ix_2 (i : Nat) : 2 * nI i = nI (2 * i) := by rw [show (2 : Int32) = nI 2 from rfl, pk_mul]
def ad_ (M : mv_M) (c k : Nat) (t q m : Int32) : mv_M := mv_up (mv_up (mv_up (mv_up M 20 c (3 * k) t) 20 c (3 * k + 1) q) 20 c (3 * k + 2) m) 8 0 c (nI (k + 1))
theorem sp_appendDependency (d : Nat) (M : mv_M) (c k : Nat) (t q m : Int32) (hc : c < 20) (hk : M 8 0 c = nI k) (h6 : k < 6) : ev_ d kX0_appendDependency [mv_R 1 0, mv_I (nI c), mv_I t, mv_I q, mv_I m] M (Sum.inl (some (mv_I (nI k)))) (ad_ M c k t q m) := by
  have hcl : (nI c).toNatClampNeg = c := nI_clamp (by omega)
  have hk0 : (nI (3 * k)).toNatClampNeg = 3 * k := nI_clamp (by omega)
  have hk1 : (nI (3 * k + 1)).toNatClampNeg = 3 * k + 1 := nI_clamp (by omega)
  have hk2 : (nI (3 * k + 2)).toNatClampNeg = 3 * k + 2 := nI_clamp (by omega)
  refine e_ev rfl rfl ?_
  refine e_run 44 rfl ?_ ?_
  · ((try simp only [hcl, hk, ix_30, ix_31, ix_32, hk0, hk1, hk2, nI_1]) <;> and_intros <;> first | trivial | exact in_n (by omega) (by omega) | omega | (unfold vp_in; decide) | (simp only [*]; omega))
  try simp only [hcl, hk, ix_30, ix_31, ix_32, hk0, hk1, hk2, nI_1]
  exact e_ret rfl trivial rfl rfl
def tp_ (M : mv_M) (p on : Int32) : mv_M := mv_up M 1 0 4 (if on = 0 then M 1 0 4 &&& ((1 <<< (p &&& 31)) ^^^ (-1)) else M 1 0 4 ||| (1 <<< (p &&& 31)))
theorem sp_turnProfile (d : Nat) (M : mv_M) (p on : Int32) : ev_ d kX0_turnProfile [mv_R 1 0, mv_I p, mv_I on] M (Sum.inl none) (tp_ M p on) := by
  refine e_ev rfl rfl ?_
  refine e_run 6 rfl trivial ?_
  refine e_if rfl (fun h6 => ?_) (fun h6 => ?_)
  · refine e_run 7 rfl trivial ?_
    (refine e_ret rfl trivial rfl ?_ <;> simp_all [tp_])
  · refine e_run 6 rfl trivial ?_
    (refine e_ret rfl trivial rfl ?_ <;> simp_all [tp_])
/-- the failure that was recorded last -/
def fr_ (M : mv_M) (kind det : Int32) (l : Nat) : mv_M := mv_up (mv_cp (mv_up (mv_up M 3 0 0 kind) 3 0 1 det) 17 0 (va_cpy (M 4 0) (M 17 0) 0 0 l)) 3 0 3 (nI l)
theorem sp_remember (d : Nat) (M : mv_M) (kind det : Int32) (l : Nat) (hl : l ≤ 20) : ev_ d kX1_remember [mv_R 3 0, mv_I kind, mv_I det, mv_R 4 0, mv_I (nI l)] M (Sum.inl none) (fr_ M kind det l) := by
  have hcl : (nI l).toNatClampNeg = l := nI_clamp (by omega)
  have hpos := nI_pos (n := l) (by omega)
  refine e_ev rfl rfl ?_
  refine e_run 16 rfl ?_ ?_
  · ((try simp only [hcl, cl_0, cl_1, cl_2, cl_3, cl_4, cl_5, cl_6]) <;> and_intros <;> first | trivial | exact hpos | omega | decide)
  try simp only [hcl, cl_0, cl_1, cl_2, cl_3, cl_4, cl_5, cl_6]
  exact e_ret rfl trivial rfl rfl
/-- one event more -/
def rc_ (M : mv_M) (e : Nat) (v : Int32) : mv_M := mv_up (mv_up M 16 0 e v) 2 0 9 (nI (e + 1))
theorem sp_recordEvent (d : Nat) (M : mv_M) (e : Nat) (v : Int32) (he : M 2 0 9 = nI e) (h6 : e < 600) : ev_ d kX2_recordEvent [mv_R 2 0, mv_I v] M (Sum.inl none) (rc_ M e v) := by
  have hcl : (nI e).toNatClampNeg = e := nI_clamp (by omega)
  refine e_ev rfl rfl ?_
  refine e_run 5 rfl ?_ ?_
  · ((try simp only [he, hcl, rd_, up_, Nat.reduceEqDiff, reduceIte, and_self, and_true, true_and, and_false, false_and, if_true, if_false, nI_1]) <;> and_intros <;> first | trivial | exact in_n (by omega) (by omega) | omega | (unfold vp_in; decide) | (simp only [*]; omega))
  try simp only [he, hcl, rd_, up_, Nat.reduceEqDiff, reduceIte, and_self, and_true, true_and, and_false, false_and, if_true, if_false, nI_1]
  refine e_if rfl (fun h9 => absurd h9 (nI_ge h6 (by omega))) (fun h9 => ?_)
  refine e_run 12 rfl ?_ ?_
  · ((try simp only [he, hcl, rd_, up_, Nat.reduceEqDiff, reduceIte, and_self, and_true, true_and, and_false, false_and, if_true, if_false, nI_1]) <;> and_intros <;> first | trivial | exact in_n (by omega) (by omega) | omega | (unfold vp_in; decide) | (simp only [*]; omega))
  try simp only [he, hcl, rd_, up_, Nat.reduceEqDiff, reduceIte, and_self, and_true, true_and, and_false, false_and, if_true, if_false, nI_1]
  exact e_ret rfl trivial rfl rfl
theorem sp_hasInjection (d : Nat) (M : mv_M) (i : Nat) (x : Int32) (hi : i < 300) : ev_ d kX2_hasInjection [mv_R 2 0, mv_I (nI i), mv_I x] M (Sum.inl (some (mv_I (if ¬ x < 0 ∧ x < M 13 0 i then 1 else 0)))) M := by
  have hcl : (nI i).toNatClampNeg = i := nI_clamp (by omega)
  refine e_ev rfl rfl ?_
  refine e_run 1 rfl trivial ?_
  try simp only [hcl]
  refine e_if rfl (fun h1 => ?_) (fun h1 => ?_)
  · refine e_run 1 rfl trivial ?_
    try simp only [hcl]
    (refine e_ret rfl ?_ ?_ rfl <;> first | trivial | exact Or.inl rfl | exact Or.inr rfl | rfl | (simp_all; done))
  · refine e_run 5 rfl ?_ ?_
    · ((try simp only [hcl]) <;> and_intros <;> first | trivial | exact in_n (by omega) (by omega) | omega | (unfold vp_in; decide) | (simp only [*]; omega))
    try simp only [hcl]
    refine e_if rfl (fun h11 => ?_) (fun h11 => ?_)
    · refine e_run 1 rfl trivial ?_
      try simp only [hcl]
      (refine e_ret rfl ?_ ?_ rfl <;> first | trivial | exact Or.inl rfl | exact Or.inr rfl | rfl | (simp_all; done))
    · refine e_run 2 rfl trivial ?_
      try simp only [hcl]
      (refine e_ret rfl ?_ ?_ rfl <;> first | trivial | exact Or.inl rfl | exact Or.inr rfl | rfl | (simp_all; done))
/-- an instance less -/
def ds_ (M : mv_M) (i e : Nat) : mv_M := rc_ (if M 10 0 i = -1 then mv_up M 11 0 i 0 else mv_up (mv_up M 11 0 i 0) 21 (M 10 0 i).toNatClampNeg (M 9 0 i).toNatClampNeg (-1)) e (nI (2 * i + 1))
theorem sp_destroy (d : Nat) (M : mv_M) (i e pl c : Nat) (hi : i < 300) (he : M 2 0 9 = nI e) (h6 : e < 600) (hp : M 10 0 i = -1 ∨ (M 10 0 i = nI pl ∧ pl < 6)) (hcm : M 9 0 i = nI c) (hc : c < 20) : ev_ (d + 1) kX2_destroy [mv_R 2 0, mv_I (nI i)] M (Sum.inl none) (ds_ M i e) := by
  have hcl : (nI i).toNatClampNeg = i := nI_clamp (by omega)
  have hcc : (nI c).toNatClampNeg = c := nI_clamp (by omega)
  have hcp : pl < 6 → (nI pl).toNatClampNeg = pl := fun h => nI_clamp (by omega)
  refine e_ev rfl rfl ?_
  refine e_run 12 rfl ?_ ?_
  · ((try simp only [hcl, rd_, up_, Nat.reduceEqDiff, reduceIte, and_self, and_true, true_and, and_false, false_and, if_true, if_false, ix_2, nI_1]) <;> and_intros <;> first | trivial | exact in_n (by omega) (by omega) | omega | (unfold vp_in; decide) | (simp only [*]; omega))
  try simp only [hcl, rd_, up_, Nat.reduceEqDiff, reduceIte, and_self, and_true, true_and, and_false, false_and, if_true, if_false, ix_2, nI_1]
  refine e_if rfl (fun h16 => ?_) (fun h16 => ?_)
  · skip
    refine e_run 6 rfl trivial ?_
    try simp only [hcl, rd_, up_, Nat.reduceEqDiff, reduceIte, and_self, and_true, true_and, and_false, false_and, if_true, if_false, ix_2, nI_1]
    refine e_callv rfl (sp_recordEvent d _ e _ (by simp only [rd_, up_, Nat.reduceEqDiff, reduceIte, and_self, and_true, true_and, and_false, false_and, if_true, if_false]; exact he) h6) (by decide) ?_
    try simp only [hcl, rd_, up_, Nat.reduceEqDiff, reduceIte, and_self, and_true, true_and, and_false, false_and, if_true, if_false, ix_2, nI_1]
    (refine e_ret rfl trivial rfl ?_ <;> simp_all [ds_])
  · rcases hp with hp | ⟨hp, hp6⟩
    · exact absurd hp h16
    refine e_run 16 rfl ?_ ?_
    · (simp only [hp, hcm, hcc, hcl, rd_, up_, Nat.reduceEqDiff, reduceIte, and_self, and_true, true_and, and_false, false_and, if_true, if_false] <;> and_intros <;> first | trivial | exact in_n (by omega) (by omega) | omega | (rw [nI_clamp (by omega)]; omega))
    try simp only [hcl, rd_, up_, Nat.reduceEqDiff, reduceIte, and_self, and_true, true_and, and_false, false_and, if_true, if_false, ix_2, nI_1]
    refine e_callv rfl (sp_recordEvent d _ e _ (by simp only [rd_, up_, Nat.reduceEqDiff, reduceIte, and_self, and_true, true_and, and_false, false_and, if_true, if_false]; exact he) h6) (by decide) ?_
    try simp only [hcl, rd_, up_, Nat.reduceEqDiff, reduceIte, and_self, and_true, true_and, and_false, false_and, if_true, if_false, ix_2, nI_1]
    (refine e_ret rfl trivial rfl ?_ <;> simp_all [ds_])
theorem sp_destroy_end : True := trivial
