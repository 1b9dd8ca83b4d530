/-! WHAT A FAILURE LEAVES -/
theorem lp_chain (d : Nat) (f : Int32) (l : Nat) (h20 : l ≤ 20) : ∀ (m k : Nat) (M : mv_M), k + m = l → M 22 0 10 = nI l → (∀ i, i < k → M 37 0 i = M 27 0 i) → ∃ M1, (∀ i, i < l → M1 37 0 i = M 27 0 i) ∧ (∀ g, g ≠ 37 → M1 g = M g) ∧ ∀ (R : mv_O) (M' : mv_M), er_ (d + 2) 0 kX4_settle (61, [some (mv_R 22 0), some (mv_I f), some (mv_I (nI l))], [], M1) R M' → er_ (d + 2) 0 kX4_settle (35, [some (mv_R 22 0), some (mv_I f), some (mv_I (nI k))], [], M) R M' := by
  intro m
  induction m with
  | zero =>
    intro k M h1 hd hc
    have hce : k = l := by omega
    subst hce
    refine ⟨M, hc, fun _ _ => rfl, fun R M' hk => ?_⟩
    refine e_run 3 rfl trivial ?_
    try simp only [hd]
    refine e_if rfl (fun h40 => ?_) (fun h40 => absurd (nI_le (by omega) (by omega)) h40)
    exact hk
  | succ m ih =>
    intro k M h1 hd hc
    have hcl : (nI k).toNatClampNeg = k := nI_clamp (by omega)
    obtain ⟨M1, a1, a2, a3⟩ := ih (k + 1) (mv_up M 37 0 k (M 27 0 k)) (by omega) hd (fun i hi => by
      show (if (37 : Nat) = 37 ∧ (0 : Nat) = 0 then upd (M 37 0) k (M 27 0 k) else M 37 0) i = M 27 0 i
      rw [if_pos ⟨rfl, rfl⟩, up_]
      split
      · next h => rw [h]
      · exact hc i (by omega))
    refine ⟨M1, a1, fun g hg => (a2 g hg).trans (mv_up_ne hg), fun R M' hk => ?_⟩
    refine e_run 3 rfl trivial ?_
    try simp only [hd, hcl]
    refine e_if rfl (fun h40 => absurd h40 (nI_ge (by omega) (by omega))) (fun h40 => ?_)
    refine e_run 10 rfl ?_ ?_
    · ((try simp only [hd, hcl]) <;> and_intros <;> first | trivial | exact in_n (by omega) (by omega) | omega | (unfold vp_in; decide) | (simp only [*]; omega))
    try simp only [hd, hcl]
    exact er_cong (by rw [nI_1]) (a3 R M' hk)
theorem lp_settle (d f : Nat) (hf : f ≤ 300) (t l : Nat) : ∀ (i : Nat) (C M : mv_M) (e k : Nat), i ≤ t → lr_ C M t e l → ∃ M1 e1, lr_ (df_ f (-1) i C k).1 M1 t e1 l ∧ fs_ M M1 ∧ ∀ (R : mv_O) (M' : mv_M), (∀ z, er_ (d + 2) 0 kX4_settle (103, [some (mv_R 22 0), some (mv_I (nI f)), z], [], M1) R M') → er_ (d + 2) 0 kX4_settle (68, [some (mv_R 22 0), some (mv_I (nI f)), some (mv_I (nI i - 1))], [], M) R M' := by
  intro i
  induction i with
  | zero =>
    intro C M e k hi hL
    have hlt : nI 0 - 1 < nI f := by
      rw [Int32.lt_iff_toInt_lt, nI_toInt (by omega), show (nI 0 - 1).toInt = -1 by decide]
      omega
    refine ⟨M, e, hL, fs_refl M, fun R M' hk => ?_⟩
    refine e_run 2 rfl trivial ?_
    refine e_if rfl (fun h70 => ?_) (fun h70 => absurd hlt h70)
    exact hk _
  | succ i ih =>
    intro C M e k hi hL
    rw [nI_pred]
    have h3 := hL.1.2.1
    have hcl : (nI i).toNatClampNeg = i := nI_clamp (by omega)
    by_cases hif : i < f
    · have hlt : nI i < nI f := nI_lt hif (by omega)
      rw [df_s, if_pos hif]
      refine ⟨M, e, hL, fs_refl M, fun R M' hk => ?_⟩
      refine e_run 2 rfl trivial ?_
      refine e_if rfl (fun h70 => ?_) (fun h70 => absurd hlt h70)
      exact hk _
    have hge : ¬ nI i < nI f := nI_nlt (by omega) (by omega)
    obtain ⟨a1, a2, a3, -⟩ := hL.2.2.2.2.2.2.2 i (by omega)
    have hpd := (pr_dl a3).2
    by_cases hd : dl_ C (-1) i = true
    · have hlv := dl_live hd
      have h4 := hL.1.2.2.2.1
      have hlp := lv_pos hlv t (by omega)
      obtain ⟨M1, e1, b1, b2, b3⟩ := ih (ds_ C i e) (rk_ M i e) (e + 1) (k + 1) (by omega) (lr_rk hL (by omega) hlv)
      rw [lr_df f (-1) hL.1 (by omega) hd hif]
      refine ⟨M1, e1, b1, fs_trans (fs_rk M i e) b2, fun R M' hk => ?_⟩
      have has := hpd.mp ((dl_iff C (-1) i).mp hd).2
      have hlm : ¬ M 33 0 i = 0 := by rw [a2]; exact hlv
      refine e_run 2 rfl trivial ?_
      try simp only [hcl, m1_]
      refine e_if rfl (fun h70 => absurd h70 hge) (fun h70 => ?_)
      refine e_run 4 rfl ?_ ?_
      · ((try simp only [hcl, m1_]) <;> and_intros <;> first | trivial | exact in_n (by omega) (by omega) | omega | (unfold vp_in; decide) | (simp only [*]; omega))
      try simp only [hcl, m1_]
      refine e_if rfl (fun h79 => absurd h79 hlm) (fun h79 => ?_)
      refine e_run 5 rfl ?_ ?_
      · ((try simp only [hcl, m1_]) <;> and_intros <;> first | trivial | exact in_n (by omega) (by omega) | omega | (unfold vp_in; decide) | (simp only [*]; omega))
      try simp only [hcl, m1_]
      refine e_if rfl (fun h89 => absurd has h89) (fun h89 => ?_)
      refine e_run 2 rfl trivial ?_
      try simp only [hcl, m1_]
      refine e_callv rfl (rs_destroy d i e M (by omega) hL.2.2.1.2.1 (by omega)) (by decide) ?_
      try simp only [hcl, m1_]
      refine e_run 2 rfl trivial ?_
      try simp only [hcl, m1_]
      exact b3 R M' hk
    · obtain ⟨M1, e1, b1, b2, b3⟩ := ih C M e k (by omega) hL
      rw [df_s, if_neg hif, if_neg hd]
      refine ⟨M1, e1, b1, b2, fun R M' hk => ?_⟩
      have hno : ¬ (¬ M 33 0 i = 0 ∧ M 31 0 i = 1) := fun q => hd ((dl_iff C (-1) i).mpr ⟨by rw [← a2]; exact q.1, hpd.mpr q.2⟩)
      refine e_run 2 rfl trivial ?_
      try simp only [hcl, m1_]
      refine e_if rfl (fun h70 => absurd h70 hge) (fun h70 => ?_)
      refine e_run 4 rfl ?_ ?_
      · ((try simp only [hcl, m1_]) <;> and_intros <;> first | trivial | exact in_n (by omega) (by omega) | omega | (unfold vp_in; decide) | (simp only [*]; omega))
      try simp only [hcl, m1_]
      refine e_if rfl (fun h79 => ?_) (fun h79 => ?_)
      · refine e_run 2 rfl trivial ?_
        try simp only [hcl, m1_]
        exact b3 R M' hk
      · refine e_run 5 rfl ?_ ?_
        · ((try simp only [hcl, m1_]) <;> and_intros <;> first | trivial | exact in_n (by omega) (by omega) | omega | (unfold vp_in; decide) | (simp only [*]; omega))
        try simp only [hcl, m1_]
        refine e_if rfl (fun h89 => ?_) (fun h89 => ?_)
        · refine e_run 2 rfl trivial ?_
          try simp only [hcl, m1_]
          exact b3 R M' hk
        · exact absurd ⟨h79, h89⟩ hno
theorem cpy_lt (a b : Nat → Int32) (l i : Nat) (h : i < l) : va_cpy a b 0 0 l i = a i := by
  unfold va_cpy
  simp [h]
theorem fr_o (C : mv_M) (kind det : Int32) (l x : Nat) (h : x ≠ 3) (h2 : x ≠ 17) : fr_ C kind det l x = C x := by
  unfold fr_
  rw [mv_up_ne h, mv_cp_ne h2, mv_up_ne h, mv_up_ne h]
/-- the failure is recorded, there and here -/
theorem lr_fr {C M M1 : mv_M} {t e l0 l : Nat} {kind det : Int32} (h : lr_ C M t e l0) (h20 : l ≤ 20) (hch : ∀ i, i < l → M1 37 0 i = C 4 0 i) (ho : ∀ g, g ≠ 22 → g ≠ 37 → M1 g = M g) (h22 : ∀ o, o = 12 ∨ o = 19 ∨ o = 20 → M1 22 0 o = M 22 0 o) (hk : M1 22 0 22 = kind) (hd : M1 22 0 23 = det) (hl : M1 22 0 24 = nI l) : lr_ (fr_ C kind det l) M1 t e l := by
  obtain ⟨⟨g1, g2, g3, g4, g5⟩, ⟨-, -⟩, ⟨b4, b5, -⟩, ⟨b7, -, -⟩, -, b11, b12, b13⟩ := h
  have c (x : Nat) (h : x ≠ 3) (h2 : x ≠ 17) := fr_o C kind det l x h h2
  refine ⟨⟨by rw [c 2 (by omega) (by omega)]; exact g1, g2, by rw [c 2 (by omega) (by omega)]; exact g3, ?_, fun i hi => by rw [c 9 (by omega) (by omega), c 10 (by omega) (by omega), c 11 (by omega) (by omega)]; exact g5 i hi⟩, ⟨by simp [fr_, rd_, up_], h20⟩, ⟨(h22 12 (by omega)).trans b4, (h22 20 (by omega)).trans b5, hl⟩, ⟨by rw [h22 19 (by omega), c 0 (by omega) (by omega)]; exact b7, by rw [hk]; simp [fr_, rd_, up_], by rw [hd]; simp [fr_, rd_, up_]⟩, fun i hi => ?_, fun i hi => by rw [ho 36 (by omega) (by omega), c 16 (by omega) (by omega)]; exact b11 i hi, fun x hx => by rw [ho 26 (by omega) (by omega), c 15 (by omega) (by omega)]; exact b12 x hx, fun i hi => ?_⟩
  · rw [lv_congr (M := C) t (fun i _ => by rw [c 11 (by omega) (by omega)])]
    exact g4
  · rw [hch i hi]
    have : fr_ C kind det l 17 0 i = va_cpy (C 4 0) (C 17 0) 0 0 l i := by simp [fr_, rd_, up_]
    rw [this, cpy_lt _ _ _ _ hi]
  · have := b13 i hi
    unfold ir_ pr_ at this ⊢
    rw [ho 30 (by omega) (by omega), ho 31 (by omega) (by omega), ho 32 (by omega) (by omega), ho 33 (by omega) (by omega), ho 34 (by omega) (by omega), ho 35 (by omega) (by omega), c 9 (by omega) (by omega), c 10 (by omega) (by omega), c 11 (by omega) (by omega), c 12 (by omega) (by omega), c 13 (by omega) (by omega)]
    exact this
theorem rs_settle0 (d : Nat) (M : mv_M) (f : Int32) (h : M 22 0 31 = 0) : ev_ (d + 2) kX4_settle [mv_R 22 0, mv_I f] M (Sum.inl (some (mv_I 0))) M := by
  refine e_ev rfl rfl ?_
  refine e_run 2 rfl trivial ?_
  refine e_if rfl (fun h4 => absurd h h4) (fun h4 => ?_)
  refine e_run 1 rfl trivial ?_
  exact e_ret rfl (Or.inl rfl) rfl rfl
theorem rs_settle (d f : Nat) {C M : mv_M} {t e l0 l : Nat} {kind det : Int32} (hL : lr_ C M t e l0) (hf : f ≤ 300) (h20 : l ≤ 20) (hk : M 22 0 31 = kind) (hk0 : ¬ kind = 0) (hdt : M 22 0 32 = det) (hdp : M 22 0 10 = nI l) (hch : ∀ i, i < l → M 27 0 i = C 4 0 i) : ∃ M1 e1, lr_ (da_ (fr_ C kind det l) f (-1) t).1 M1 t e1 l ∧ ev_ (d + 2) kX4_settle [mv_R 22 0, mv_I (nI f)] M (Sum.inl (some (mv_I 1))) M1 ∧ (∀ g, g ≠ 22 → g ≠ 33 → g ≠ 36 → g ≠ 37 → M1 g = M g) ∧ ∀ o, o ≠ 10 → o ≠ 20 → o ≠ 22 → o ≠ 23 → o ≠ 24 → M1 22 0 o = M 22 0 o := by
  obtain ⟨M1, a1, a2, a3⟩ := lp_chain d (nI f) l h20 l 0 (mv_up (mv_up (mv_up M 22 0 22 kind) 22 0 23 det) 22 0 24 (nI l)) (by omega) (by simp only [rd_, up_, Nat.reduceEqDiff, reduceIte, and_self, and_true, true_and, and_false, false_and, if_true, if_false]; exact hdp) (fun i h => by omega)
  have h37 (g : Nat) (h1 : g ≠ 22) (h2 : g ≠ 37) : M1 g = M g := (a2 g h2).trans (by rw [mv_up_ne h1, mv_up_ne h1, mv_up_ne h1])
  have h22 (o : Nat) (h1 : o ≠ 22) (h2 : o ≠ 23) (h3 : o ≠ 24) : M1 22 0 o = M 22 0 o := by rw [a2 22 (by omega)]; simp only [rd_, up_, Nat.reduceEqDiff, reduceIte, and_self, and_true, true_and, and_false, false_and, if_true, if_false, h1, h2, h3]
  have hL1 : lr_ (fr_ C kind det l) M1 t e l := lr_fr hL h20 (fun i hi => (a1 i hi).trans (hch i hi)) h37 (fun o ho => h22 o (by omega) (by omega) (by omega)) (by rw [a2 22 (by omega)]; simp only [rd_, up_, Nat.reduceEqDiff, reduceIte, and_self, and_true, true_and, and_false, false_and, if_true, if_false]) (by rw [a2 22 (by omega)]; simp only [rd_, up_, Nat.reduceEqDiff, reduceIte, and_self, and_true, true_and, and_false, false_and, if_true, if_false]) (by rw [a2 22 (by omega)]; simp only [rd_, up_, Nat.reduceEqDiff, reduceIte, and_self, and_true, true_and, and_false, false_and, if_true, if_false])
  obtain ⟨M2, e2, b1, b2, b3⟩ := lp_settle d f hf t l t _ M1 e 0 (Nat.le_refl t) hL1
  have h12 := hL1.2.2.1.1
  refine ⟨mv_up M2 22 0 10 0, e2, b1, ?_, fun g c1 c2 c3 c4 => ?_, fun o c1 c2 c3 c4 c5 => ?_⟩
  · refine e_ev rfl rfl ?_
    refine e_run 2 rfl trivial ?_
    try simp only [rd_, up_, Nat.reduceEqDiff, reduceIte, and_self, and_true, true_and, and_false, false_and, if_true, if_false, hk, hdt, hdp]
    refine e_if rfl (fun h4 => ?_) (fun h4 => absurd h4 hk0)
    refine e_run 14 rfl trivial ?_
    try simp only [rd_, up_, Nat.reduceEqDiff, reduceIte, and_self, and_true, true_and, and_false, false_and, if_true, if_false, hk, hdt, hdp]
    refine a3 _ _ ?_
    refine e_run 5 rfl trivial ?_
    try simp only [h12]
    refine b3 _ _ (fun z => ?_)
    refine e_run 4 rfl trivial ?_
    exact e_ret rfl (Or.inr rfl) rfl rfl
  · rw [mv_up_ne c1, b2.1 g c1 c2 c3]
    exact h37 g c1 c4
  · have := b2.2 o c2
    simp only [rd_, up_, Nat.reduceEqDiff, reduceIte, and_self, and_true, true_and, and_false, false_and, if_true, if_false, c1]
    exact this.trans (h22 o c3 c4 c5)
