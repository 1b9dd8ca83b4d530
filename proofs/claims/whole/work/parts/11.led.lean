/-! THE CLASS'S METHODS: dependencies, profiles, the failure, the ledger -/
theorem ix_30 (i : Nat) : nI i * 3 + 0 = nI (3 * i) := ix_3 i 0
theorem ix_31 (i : Nat) : nI i * 3 + 1 = nI (3 * i + 1) := ix_3 i 1
theorem ix_32 (i : Nat) : nI i * 3 + 2 = nI (3 * i + 2) := ix_3 i 2
theorem ix_6 (i : Nat) : nI i * 6 = nI (6 * i) := by rw [show (6 : Int32) = nI 6 from rfl, pk_mul, Nat.mul_comm]
theorem ix_2 (i : Nat) : 2 * nI i = nI (2 * i) := by rw [show (2 : Int32) = nI 2 from rfl, pk_mul]
def ad_ (M : mv_M) (c k : Nat) (t q m : Int32) : mv_M := mv_up (mv_up (mv_up (mv_up M 20 c (3 * k) t) 20 c (3 * k + 1) q) 20 c (3 * k + 2) m) 8 0 c (nI (k + 1))
theorem sp_appendDependency (d : Nat) (M : mv_M) (c k : Nat) (t q m : Int32) (hc : c < 20) (hk : M 8 0 c = nI k) (h6 : k < 6) : ev_ d kX0_appendDependency [mv_R 1 0, mv_I (nI c), mv_I t, mv_I q, mv_I m] M (Sum.inl (some (mv_I (nI k)))) (ad_ M c k t q m) := by
  have hcl : (nI c).toNatClampNeg = c := nI_clamp (by omega)
  have hk0 : (nI (3 * k)).toNatClampNeg = 3 * k := nI_clamp (by omega)
  have hk1 : (nI (3 * k + 1)).toNatClampNeg = 3 * k + 1 := nI_clamp (by omega)
  have hk2 : (nI (3 * k + 2)).toNatClampNeg = 3 * k + 2 := nI_clamp (by omega)
  refine e_ev rfl rfl ?_
  refine e_run 44 rfl ?_ ?_
  · ((try simp only [hcl, hk, ix_30, ix_31, ix_32, hk0, hk1, hk2, nI_1]) <;> and_intros <;> first | trivial | exact in_n (by omega) (by omega) | omega | (unfold vp_in; decide) | (simp only [*]; omega))
  try simp only [hcl, hk, ix_30, ix_31, ix_32, hk0, hk1, hk2, nI_1]
  exact e_ret rfl trivial rfl rfl
def tp_ (M : mv_M) (p on : Int32) : mv_M := mv_up M 1 0 4 (if on = 0 then M 1 0 4 &&& ((1 <<< (p &&& 31)) ^^^ (-1)) else M 1 0 4 ||| (1 <<< (p &&& 31)))
theorem sp_turnProfile (d : Nat) (M : mv_M) (p on : Int32) : ev_ d kX0_turnProfile [mv_R 1 0, mv_I p, mv_I on] M (Sum.inl none) (tp_ M p on) := by
  refine e_ev rfl rfl ?_
  refine e_run 6 rfl trivial ?_
  refine e_if rfl (fun h6 => ?_) (fun h6 => ?_)
  · refine e_run 7 rfl trivial ?_
    (refine e_ret rfl trivial rfl ?_ <;> simp_all [tp_])
  · refine e_run 6 rfl trivial ?_
    (refine e_ret rfl trivial rfl ?_ <;> simp_all [tp_])
/-- the failure that was recorded last -/
def fr_ (M : mv_M) (kind det : Int32) (l : Nat) : mv_M := mv_up (mv_cp (mv_up (mv_up M 3 0 0 kind) 3 0 1 det) 17 0 (va_cpy (M 4 0) (M 17 0) 0 0 l)) 3 0 3 (nI l)
theorem sp_remember (d : Nat) (M : mv_M) (kind det : Int32) (l : Nat) (hl : l ≤ 20) : ev_ d kX1_remember [mv_R 3 0, mv_I kind, mv_I det, mv_R 4 0, mv_I (nI l)] M (Sum.inl none) (fr_ M kind det l) := by
  have hcl : (nI l).toNatClampNeg = l := nI_clamp (by omega)
  have hpos := nI_pos (n := l) (by omega)
  refine e_ev rfl rfl ?_
  refine e_run 16 rfl ?_ ?_
  · ((try simp only [hcl, cl_0, cl_1, cl_2, cl_3, cl_4, cl_5, cl_6]) <;> and_intros <;> first | trivial | exact hpos | omega | decide)
  try simp only [hcl, cl_0, cl_1, cl_2, cl_3, cl_4, cl_5, cl_6]
  exact e_ret rfl trivial rfl rfl
/-- one event more -/
def rc_ (M : mv_M) (e : Nat) (v : Int32) : mv_M := mv_up (mv_up M 16 0 e v) 2 0 9 (nI (e + 1))
theorem sp_recordEvent (d : Nat) (M : mv_M) (e : Nat) (v : Int32) (he : M 2 0 9 = nI e) (h6 : e < 600) : ev_ d kX2_recordEvent [mv_R 2 0, mv_I v] M (Sum.inl none) (rc_ M e v) := by
  have hcl : (nI e).toNatClampNeg = e := nI_clamp (by omega)
  refine e_ev rfl rfl ?_
  refine e_run 5 rfl ?_ ?_
  · ((try simp only [he, hcl, rd_, up_, Nat.reduceEqDiff, reduceIte, and_self, and_true, true_and, and_false, false_and, if_true, if_false, nI_1]) <;> and_intros <;> first | trivial | exact in_n (by omega) (by omega) | omega | (unfold vp_in; decide) | (simp only [*]; omega))
  try simp only [he, hcl, rd_, up_, Nat.reduceEqDiff, reduceIte, and_self, and_true, true_and, and_false, false_and, if_true, if_false, nI_1]
  refine e_if rfl (fun h9 => absurd h9 (nI_ge h6 (by omega))) (fun h9 => ?_)
  refine e_run 12 rfl ?_ ?_
  · ((try simp only [he, hcl, rd_, up_, Nat.reduceEqDiff, reduceIte, and_self, and_true, true_and, and_false, false_and, if_true, if_false, nI_1]) <;> and_intros <;> first | trivial | exact in_n (by omega) (by omega) | omega | (unfold vp_in; decide) | (simp only [*]; omega))
  try simp only [he, hcl, rd_, up_, Nat.reduceEqDiff, reduceIte, and_self, and_true, true_and, and_false, false_and, if_true, if_false, nI_1]
  exact e_ret rfl trivial rfl rfl
theorem sp_hasInjection (d : Nat) (M : mv_M) (i : Nat) (x : Int32) (hi : i < 300) : ev_ d kX2_hasInjection [mv_R 2 0, mv_I (nI i), mv_I x] M (Sum.inl (some (mv_I (if ¬ x < 0 ∧ x < M 13 0 i then 1 else 0)))) M := by
  have hcl : (nI i).toNatClampNeg = i := nI_clamp (by omega)
  refine e_ev rfl rfl ?_
  refine e_run 1 rfl trivial ?_
  try simp only [hcl]
  refine e_if rfl (fun h1 => ?_) (fun h1 => ?_)
  · refine e_run 1 rfl trivial ?_
    try simp only [hcl]
    (refine e_ret rfl ?_ ?_ rfl <;> first | trivial | exact Or.inl rfl | exact Or.inr rfl | rfl | (simp_all; done))
  · refine e_run 5 rfl ?_ ?_
    · ((try simp only [hcl]) <;> and_intros <;> first | trivial | exact in_n (by omega) (by omega) | omega | (unfold vp_in; decide) | (simp only [*]; omega))
    try simp only [hcl]
    refine e_if rfl (fun h11 => ?_) (fun h11 => ?_)
    · refine e_run 1 rfl trivial ?_
      try simp only [hcl]
      (refine e_ret rfl ?_ ?_ rfl <;> first | trivial | exact Or.inl rfl | exact Or.inr rfl | rfl | (simp_all; done))
    · refine e_run 2 rfl trivial ?_
      try simp only [hcl]
      (refine e_ret rfl ?_ ?_ rfl <;> first | trivial | exact Or.inl rfl | exact Or.inr rfl | rfl | (simp_all; done))
/-- an instance less -/
def ds_ (M : mv_M) (i e : Nat) : mv_M := rc_ (if M 10 0 i = -1 then mv_up M 11 0 i 0 else mv_up (mv_up M 11 0 i 0) 21 (M 10 0 i).toNatClampNeg (M 9 0 i).toNatClampNeg (-1)) e (nI (2 * i + 1))
theorem sp_destroy (d : Nat) (M : mv_M) (i e pl c : Nat) (hi : i < 300) (he : M 2 0 9 = nI e) (h6 : e < 600) (hp : M 10 0 i = -1 ∨ (M 10 0 i = nI pl ∧ pl < 6)) (hcm : M 9 0 i = nI c) (hc : c < 20) : ev_ (d + 1) kX2_destroy [mv_R 2 0, mv_I (nI i)] M (Sum.inl none) (ds_ M i e) := by
  have hcl : (nI i).toNatClampNeg = i := nI_clamp (by omega)
  have hcc : (nI c).toNatClampNeg = c := nI_clamp (by omega)
  have hcp : pl < 6 → (nI pl).toNatClampNeg = pl := fun h => nI_clamp (by omega)
  refine e_ev rfl rfl ?_
  refine e_run 12 rfl ?_ ?_
  · ((try simp only [hcl, rd_, up_, Nat.reduceEqDiff, reduceIte, and_self, and_true, true_and, and_false, false_and, if_true, if_false, ix_2, nI_1]) <;> and_intros <;> first | trivial | exact in_n (by omega) (by omega) | omega | (unfold vp_in; decide) | (simp only [*]; omega))
  try simp only [hcl, rd_, up_, Nat.reduceEqDiff, reduceIte, and_self, and_true, true_and, and_false, false_and, if_true, if_false, ix_2, nI_1]
  refine e_if rfl (fun h16 => ?_) (fun h16 => ?_)
  · skip
    refine e_run 6 rfl trivial ?_
    try simp only [hcl, rd_, up_, Nat.reduceEqDiff, reduceIte, and_self, and_true, true_and, and_false, false_and, if_true, if_false, ix_2, nI_1]
    refine e_callv rfl (sp_recordEvent d _ e _ (by simp only [rd_, up_, Nat.reduceEqDiff, reduceIte, and_self, and_true, true_and, and_false, false_and, if_true, if_false]; exact he) h6) (by decide) ?_
    try simp only [hcl, rd_, up_, Nat.reduceEqDiff, reduceIte, and_self, and_true, true_and, and_false, false_and, if_true, if_false, ix_2, nI_1]
    (refine e_ret rfl trivial rfl ?_ <;> simp_all [ds_])
  · rcases hp with hp | ⟨hp, hp6⟩
    · exact absurd hp h16
    refine e_run 16 rfl ?_ ?_
    · (simp only [hp, hcm, hcc, hcl, rd_, up_, Nat.reduceEqDiff, reduceIte, and_self, and_true, true_and, and_false, false_and, if_true, if_false] <;> and_intros <;> first | trivial | exact in_n (by omega) (by omega) | omega | (rw [nI_clamp (by omega)]; omega))
    try simp only [hcl, rd_, up_, Nat.reduceEqDiff, reduceIte, and_self, and_true, true_and, and_false, false_and, if_true, if_false, ix_2, nI_1]
    refine e_callv rfl (sp_recordEvent d _ e _ (by simp only [rd_, up_, Nat.reduceEqDiff, reduceIte, and_self, and_true, true_and, and_false, false_and, if_true, if_false]; exact he) h6) (by decide) ?_
    try simp only [hcl, rd_, up_, Nat.reduceEqDiff, reduceIte, and_self, and_true, true_and, and_false, false_and, if_true, if_false, ix_2, nI_1]
    (refine e_ret rfl trivial rfl ?_ <;> simp_all [ds_])
/-- living instances below t -/
def lv_ (M : mv_M) : Nat → Nat
  | 0 => 0
  | t + 1 => lv_ M t + (if M 11 0 t = 0 then 0 else 1)
/-- the ledger: t instances, e events -/
def li_ (M : mv_M) (t e : Nat) : Prop := M 2 0 5 = nI t ∧ t ≤ 300 ∧ M 2 0 9 = nI e ∧ e + lv_ M t = 2 * t ∧ ∀ i, i < t → (M 11 0 i = 0 ∨ M 11 0 i = 1) ∧ (M 10 0 i = -1 ∨ ∃ pl : Nat, M 10 0 i = nI pl ∧ pl < 6) ∧ ∃ c : Nat, M 9 0 i = nI c ∧ c < 20
def dl_ (M : mv_M) (pl : Int32) (i : Nat) : Bool := !decide (M 11 0 i = 0) && decide (M 10 0 i = pl)
/-- the instances below i, from the last one down to f, destroyed where they lie at pl -/
def df_ (f : Nat) (pl : Int32) : Nat → mv_M → Nat → mv_M × Nat
  | 0, M, k => (M, k)
  | i + 1, M, k => if i < f then (M, k) else if dl_ M pl i = true then df_ f pl i (ds_ M i (M 2 0 9).toNatClampNeg) (k + 1) else df_ f pl i M k
theorem df_s (f : Nat) (pl : Int32) (i : Nat) (M : mv_M) (k : Nat) : df_ f pl (i + 1) M k = if i < f then (M, k) else if dl_ M pl i = true then df_ f pl i (ds_ M i (M 2 0 9).toNatClampNeg) (k + 1) else df_ f pl i M k := rfl
theorem lv_congr {M M' : mv_M} : ∀ t : Nat, (∀ i, i < t → M' 11 0 i = M 11 0 i) → lv_ M' t = lv_ M t
  | 0, _ => rfl
  | t + 1, h => by
    unfold lv_
    rw [lv_congr t (fun i hi => h i (by omega)), h t (by omega)]
theorem lv_kill {M M' : mv_M} {i : Nat} (h0 : M' 11 0 i = 0) (h1 : ¬ M 11 0 i = 0) : ∀ t : Nat, i < t → (∀ j, j < t → j ≠ i → M' 11 0 j = M 11 0 j) → lv_ M' t + 1 = lv_ M t
  | 0, h, _ => by omega
  | t + 1, h, ho => by
    unfold lv_
    by_cases e : i = t
    · subst e
      rw [lv_congr i (fun j hj => ho j (by omega) (by omega)), h0, if_pos rfl, if_neg h1]
    · have := lv_kill h0 h1 t (by omega) (fun j hj hji => ho j (by omega) hji)
      rw [ho t (by omega) (fun q => e q.symm)]
      omega
theorem ds_11 (M : mv_M) (i e j : Nat) : ds_ M i e 11 0 j = if j = i then 0 else M 11 0 j := by
  unfold ds_ rc_
  split <;> simp only [rd_, up_, Nat.reduceEqDiff, false_and, if_false, and_self, if_true]
theorem ds_9 (M : mv_M) (i e : Nat) : ds_ M i e 9 = M 9 := by
  funext b
  unfold ds_ rc_
  split <;> simp only [rd_, Nat.reduceEqDiff, false_and, if_false]
theorem ds_10 (M : mv_M) (i e : Nat) : ds_ M i e 10 = M 10 := by
  funext b
  unfold ds_ rc_
  split <;> simp only [rd_, Nat.reduceEqDiff, false_and, if_false]
theorem ds_ct (M : mv_M) (i e : Nat) : ds_ M i e 2 0 5 = M 2 0 5 ∧ ds_ M i e 2 0 9 = nI (e + 1) := by
  unfold ds_ rc_
  split <;> simp [rd_, up_]
theorem li_ds {M : mv_M} {t e i : Nat} (h : li_ M t e) (hi : i < t) (hl : ¬ M 11 0 i = 0) : li_ (ds_ M i e) t (e + 1) := by
  obtain ⟨h1, h2, h3, h4, h5⟩ := h
  refine ⟨(ds_ct M i e).1.trans h1, h2, (ds_ct M i e).2, ?_, fun j hj => ?_⟩
  · have := lv_kill (M := M) (M' := ds_ M i e) (i := i) (by rw [ds_11, if_pos rfl]) hl t hi (fun j _ hji => by rw [ds_11, if_neg hji])
    omega
  · rw [ds_11, ds_10, ds_9]
    refine ⟨?_, (h5 j hj).2⟩
    split
    · exact Or.inl rfl
    · exact (h5 j hj).1
theorem lv_pos {M : mv_M} {i : Nat} (h1 : ¬ M 11 0 i = 0) : ∀ t : Nat, i < t → 1 ≤ lv_ M t
  | 0, h => by omega
  | t + 1, h => by
    unfold lv_
    by_cases e : i = t
    · subst e
      rw [if_neg h1]
      omega
    · have := lv_pos h1 t (by omega)
      omega
theorem m1_ (x : Int32) : x + -1 = x - 1 := (Int32.sub_eq_add_neg x 1).symm
theorem lp_destroyFrom (d f t : Nat) (pl : Int32) (hf : f ≤ 300) : ∀ (i : Nat) (M : mv_M) (e k : Nat), i ≤ t → li_ M t e → er_ (d + 2) 0 kX2_destroyFrom (10, [some (mv_R 2 0), some (mv_I (nI f)), some (mv_I pl), some (mv_I (nI k)), some (mv_I (nI i - 1))], [], M) (Sum.inl (some (mv_I (nI (df_ f pl i M k).2)))) (df_ f pl i M k).1 := by
  intro i
  induction i with
  | zero =>
    intro M e k hi hL
    have hlt : nI 0 - 1 < nI f := by
      rw [Int32.lt_iff_toInt_lt, nI_toInt (by omega), show (nI 0 - 1).toInt = -1 by decide]
      omega
    refine e_run 2 rfl trivial ?_
    refine e_if rfl (fun h13 => ?_) (fun h13 => absurd hlt h13)
    refine e_run 1 rfl trivial ?_
    exact e_ret rfl trivial rfl rfl
  | succ i ih =>
    intro M e k hi hL
    rw [nI_pred]
    have hcl : (nI i).toNatClampNeg = i := nI_clamp (by have := hL.2.1; omega)
    have h300 := hL.2.1
    refine e_run 2 rfl trivial ?_
    try simp only [hcl, m1_]
    refine e_if rfl (fun h13 => ?_) (fun h13 => ?_)
    · refine e_run 1 rfl trivial ?_
      try simp only [hcl, m1_]
      rw [show df_ f pl (i + 1) M k = (M, k) by rw [df_s, if_pos ((nI_ltI (by omega) (by omega)).mp h13)]]
      exact e_ret rfl trivial rfl rfl
    · have hge : ¬ i < f := fun q => h13 ((nI_ltI (by omega) (by omega)).mpr q)
      refine e_run 4 rfl ?_ ?_
      · ((try simp only [hcl, m1_]) <;> and_intros <;> first | trivial | exact in_n (by omega) (by omega) | omega | (unfold vp_in; decide) | (simp only [*]; omega))
      try simp only [hcl, m1_]
      refine e_if rfl (fun h23 => ?_) (fun h23 => ?_)
      · refine e_run 2 rfl trivial ?_
        try simp only [hcl, m1_]
        first
          | exact er_cong (by rw [nI_1]) (ih (ds_ M i e) (e + 1) (k + 1) (by omega) (li_ds hL (by omega) h23))
          | (rw [show df_ f pl (i + 1) M k = df_ f pl i M k by rw [df_s, if_neg hge, if_neg (by simp_all [dl_])]]
             exact ih M e k (by omega) hL)
      · refine e_run 5 rfl ?_ ?_
        · ((try simp only [hcl, m1_]) <;> and_intros <;> first | trivial | exact in_n (by omega) (by omega) | omega | (unfold vp_in; decide) | (simp only [*]; omega))
        try simp only [hcl, m1_]
        refine e_if rfl (fun h34 => ?_) (fun h34 => ?_)
        · refine e_run 2 rfl trivial ?_
          try simp only [hcl, m1_]
          first
            | exact er_cong (by rw [nI_1]) (ih (ds_ M i e) (e + 1) (k + 1) (by omega) (li_ds hL (by omega) h23))
            | (rw [show df_ f pl (i + 1) M k = df_ f pl i M k by rw [df_s, if_neg hge, if_neg (by simp_all [dl_])]]
               exact ih M e k (by omega) hL)
        · refine e_run 2 rfl trivial ?_
          try simp only [hcl, m1_]
          have hli := hL.2.2.2.2 i (by omega)
          obtain ⟨-, hpl9, c9, hcm, hc9⟩ := hli
          obtain ⟨p9, hp9⟩ : ∃ p9 : Nat, M 10 0 i = -1 ∨ (M 10 0 i = nI p9 ∧ p9 < 6) := by
            rcases hpl9 with q | ⟨p9, q⟩
            · exact ⟨0, Or.inl q⟩
            · exact ⟨p9, Or.inr q⟩
          have hlp := lv_pos h23 t (by omega)
          have h4 := hL.2.2.2.1
          have e1 : df_ f pl (i + 1) M k = df_ f pl i (ds_ M i e) (k + 1) := by
            have he9 : (nI e).toNatClampNeg = e := nI_clamp (by omega)
            rw [df_s, if_neg hge, if_pos (by simp [dl_, h23, h34]), hL.2.2.1, he9]
          rw [e1]
          refine e_callv rfl (sp_destroy d M i e p9 c9 (by omega) hL.2.2.1 (by omega) hp9 hcm hc9) (by decide) ?_
          try simp only [hcl, m1_]
          refine e_run 3 rfl trivial ?_
          try simp only [hcl, m1_]
          first
            | exact er_cong (by rw [nI_1]) (ih (ds_ M i e) (e + 1) (k + 1) (by omega) (li_ds hL (by omega) h23))
            | (rw [show df_ f pl (i + 1) M k = df_ f pl i M k by rw [df_s, if_neg hge, if_neg (by simp_all [dl_])]]
               exact ih M e k (by omega) hL)
/-- destroyed, and how many -/
def da_ (M : mv_M) (f : Nat) (pl : Int32) (t : Nat) : mv_M × Nat := df_ f pl t M 0
theorem sp_destroyFrom (d : Nat) (M : mv_M) (f t e : Nat) (pl : Int32) (hf : f ≤ 300) (hL : li_ M t e) : ev_ (d + 2) kX2_destroyFrom [mv_R 2 0, mv_I (nI f), mv_I pl] M (Sum.inl (some (mv_I (nI (da_ M f pl t).2)))) (da_ M f pl t).1 := by
  have hn := hL.1
  refine e_ev rfl rfl ?_
  refine e_run 7 rfl trivial ?_
  try simp only [hn]
  exact lp_destroyFrom d f t pl hf t M e 0 (Nat.le_refl t) hL
theorem sp_destroyAllIn (d : Nat) (M : mv_M) (t e : Nat) (pl : Int32) (hL : li_ M t e) : ev_ (d + 3) kX2_destroyAllIn [mv_R 2 0, mv_I pl] M (Sum.inl (some (mv_I (nI (da_ M 0 pl t).2)))) (da_ M 0 pl t).1 := by
  refine e_ev rfl rfl ?_
  refine e_run 3 rfl trivial ?_
  refine e_calli rfl (sp_destroyFrom d M 0 t e pl (by omega) hL) (by decide) ?_
  exact e_ret rfl trivial rfl rfl
theorem sp_destroyPrototypesFrom (d : Nat) (M : mv_M) (f t e : Nat) (hf : f ≤ 300) (hL : li_ M t e) : ev_ (d + 3) kX2_destroyPrototypesFrom [mv_R 2 0, mv_I (nI f)] M (Sum.inl none) (da_ M f (-1) t).1 := by
  refine e_ev rfl rfl ?_
  refine e_run 3 rfl trivial ?_
  refine e_calli rfl (sp_destroyFrom d M f t e (-1) hf hL) (by decide) ?_
  refine e_run 1 rfl trivial ?_
  exact e_ret rfl trivial rfl rfl
/-- an instance more: t of them, e events; of component c at the place pl, made at depth g with k dependencies -/
def ia_ (M : mv_M) (t e c : Nat) (pl : Int32) (g k : Nat) : mv_M :=
  rc_ (mv_up (mv_up (let M1 := mv_up (mv_cp (mv_up (mv_up (mv_up M 9 0 t (nI c)) 10 0 t pl) 11 0 t 1) 12 0 (va_cpy (M 18 g) (M 12 0) 0 (6 * t) k)) 13 0 t (nI k)
    if pl = -1 then M1 else mv_up M1 21 pl.toNatClampNeg c (nI t)) 15 0 c (M 15 0 c + 1)) 2 0 5 (nI (t + 1))) e (nI (2 * t))
theorem sp_append2 (d : Nat) (M : mv_M) (t e c g k p9 : Nat) (pl : Int32) (ht : M 2 0 5 = nI t) (h3 : t < 300) (he : M 2 0 9 = nI e) (h6 : e < 600) (hc : c < 20) (hg : g < 20) (hk : k ≤ 6) (hp : pl = -1 ∨ (pl = nI p9 ∧ p9 < 6)) : ev_ (d + 1) kX2_append [mv_R 2 0, mv_I (nI c), mv_I pl, mv_R 18 g, mv_I (nI k)] M (Sum.inl (some (mv_I (nI t)))) (ia_ M t e c pl g k) := by
  have hcl : (nI c).toNatClampNeg = c := nI_clamp (by omega)
  have htl : (nI t).toNatClampNeg = t := nI_clamp (by omega)
  have hkl : (nI k).toNatClampNeg = k := nI_clamp (by omega)
  have h6l : (nI (6 * t)).toNatClampNeg = 6 * t := nI_clamp (by omega)
  have n1 := nI_pos (n := 6 * t) (by omega)
  have n2 := nI_pos (n := k) (by omega)
  refine e_ev rfl rfl ?_
  refine e_run 34 rfl ?_ ?_
  · ((try simp only [ht, hcl, htl, hkl, h6l, ix_6, rd_, up_, Nat.reduceEqDiff, reduceIte, and_self, and_true, true_and, and_false, false_and, if_true, if_false, cl_0]) <;> and_intros <;> first | trivial | exact n1 | exact n2 | exact in_n (by omega) (by omega) | omega | exact Or.inr rfl | decide)
  try simp only [ht, hcl, htl, hkl, h6l, ix_6, ix_2, nI_1, rd_, up_, Nat.reduceEqDiff, reduceIte, and_self, and_true, true_and, and_false, false_and, if_true, if_false, cl_0]
  refine e_if rfl (fun h57 => ?_) (fun h57 => ?_)
  · refine e_run 18 rfl ?_ ?_
    · ((try simp only [ht, hcl, htl, hkl, h6l, ix_6, rd_, up_, Nat.reduceEqDiff, reduceIte, and_self, and_true, true_and, and_false, false_and, if_true, if_false, cl_0]) <;> and_intros <;> first | trivial | exact n1 | exact n2 | exact in_n (by omega) (by omega) | omega | exact Or.inr rfl | decide)
    try simp only [ht, hcl, htl, hkl, h6l, ix_6, ix_2, nI_1, rd_, up_, Nat.reduceEqDiff, reduceIte, and_self, and_true, true_and, and_false, false_and, if_true, if_false, cl_0]
    refine e_callv rfl (sp_recordEvent d _ e _ (by simp only [rd_, up_, Nat.reduceEqDiff, reduceIte, and_self, and_true, true_and, and_false, false_and, if_true, if_false]; exact he) h6) (by decide) ?_
    try simp only [ht, hcl, htl, hkl, h6l, ix_6, ix_2, nI_1, rd_, up_, Nat.reduceEqDiff, reduceIte, and_self, and_true, true_and, and_false, false_and, if_true, if_false, cl_0]
    refine e_run 1 rfl trivial ?_
    try simp only [ht, hcl, htl, hkl, h6l, ix_6, ix_2, nI_1, rd_, up_, Nat.reduceEqDiff, reduceIte, and_self, and_true, true_and, and_false, false_and, if_true, if_false, cl_0]
    (refine e_ret rfl trivial rfl ?_ <;> simp_all [ia_])
  · rcases hp with hp | ⟨hp, hp6⟩
    · exact absurd hp h57
    have hpl : (nI p9).toNatClampNeg = p9 := nI_clamp (by omega)
    refine e_run 25 rfl ?_ ?_
    · (simp only [hp, hpl, hcl, htl, rd_, up_, Nat.reduceEqDiff, reduceIte, and_self, and_true, true_and, and_false, false_and, if_true, if_false] <;> and_intros <;> first | trivial | exact in_n (by omega) (by omega) | omega)
    try simp only [ht, hcl, htl, hkl, h6l, ix_6, ix_2, nI_1, rd_, up_, Nat.reduceEqDiff, reduceIte, and_self, and_true, true_and, and_false, false_and, if_true, if_false, cl_0]
    refine e_callv rfl (sp_recordEvent d _ e _ (by simp only [rd_, up_, Nat.reduceEqDiff, reduceIte, and_self, and_true, true_and, and_false, false_and, if_true, if_false]; exact he) h6) (by decide) ?_
    try simp only [ht, hcl, htl, hkl, h6l, ix_6, ix_2, nI_1, rd_, up_, Nat.reduceEqDiff, reduceIte, and_self, and_true, true_and, and_false, false_and, if_true, if_false, cl_0]
    refine e_run 1 rfl trivial ?_
    try simp only [ht, hcl, htl, hkl, h6l, ix_6, ix_2, nI_1, rd_, up_, Nat.reduceEqDiff, reduceIte, and_self, and_true, true_and, and_false, false_and, if_true, if_false, cl_0]
    (refine e_ret rfl trivial rfl ?_ <;> simp_all [ia_])
