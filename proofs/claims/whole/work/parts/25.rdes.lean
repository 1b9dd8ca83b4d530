/-! THE REFERENCE'S DESTRUCTIONS -/
def nt_ (M : mv_M) (e : Nat) (v : Int32) : mv_M := mv_up (mv_up M 36 0 e v) 22 0 20 (nI (e + 1))
theorem rs_note (d e : Nat) (M : mv_M) (v : Int32) (he : M 22 0 20 = nI e) (h6 : e < 600) : ev_ d kX4_note [mv_R 22 0, mv_I v] M (Sum.inl none) (nt_ M e v) := by
  have hcl : (nI e).toNatClampNeg = e := nI_clamp (by omega)
  refine e_ev rfl rfl ?_
  refine e_run 12 rfl ?_ ?_
  · ((try simp only [rd_, up_, Nat.reduceEqDiff, reduceIte, and_self, and_true, true_and, and_false, false_and, if_true, if_false, he, hcl, nI_1]) <;> and_intros <;> first | trivial | exact in_n (by omega) (by omega) | omega | (unfold vp_in; decide) | (simp only [*]; omega))
  try simp only [rd_, up_, Nat.reduceEqDiff, reduceIte, and_self, and_true, true_and, and_false, false_and, if_true, if_false, he, hcl, nI_1]
  exact e_ret rfl trivial rfl rfl
/-- an instance less -/
def rk_ (M : mv_M) (i e : Nat) : mv_M := nt_ (mv_up M 33 0 i 0) e (nI (2 * i + 1))
theorem rs_destroy (d i e : Nat) (M : mv_M) (hi : i < 300) (he : M 22 0 20 = nI e) (h6 : e < 600) : ev_ (d + 1) kX4_destroy [mv_R 22 0, mv_I (nI i)] M (Sum.inl none) (rk_ M i e) := by
  have hcl : (nI i).toNatClampNeg = i := nI_clamp (by omega)
  refine e_ev rfl rfl ?_
  refine e_run 11 rfl ?_ ?_
  · ((try simp only [hcl, ix_2, nI_1]) <;> and_intros <;> first | trivial | exact in_n (by omega) (by omega) | omega | (unfold vp_in; decide) | (simp only [*]; omega))
  try simp only [hcl, ix_2, nI_1]
  refine e_callv rfl (rs_note d e _ _ he h6) (by decide) ?_
  try simp only [hcl, ix_2, nI_1]
  exact e_ret rfl trivial rfl rfl
/-- M' is M, but for who is alive and the events -/
def fs_ (M M' : mv_M) : Prop := (∀ g, g ≠ 22 → g ≠ 33 → g ≠ 36 → M' g = M g) ∧ ∀ o, o ≠ 20 → M' 22 0 o = M 22 0 o
theorem fs_refl (M : mv_M) : fs_ M M := ⟨fun _ _ _ _ => rfl, fun _ _ => rfl⟩
theorem fs_trans {M M1 M2 : mv_M} (h : fs_ M M1) (h2 : fs_ M1 M2) : fs_ M M2 := ⟨fun g a b c => (h2.1 g a b c).trans (h.1 g a b c), fun o ho => (h2.2 o ho).trans (h.2 o ho)⟩
theorem fs_rk (M : mv_M) (i e : Nat) : fs_ M (rk_ M i e) := by
  unfold rk_ nt_
  refine ⟨fun g h1 h2 h3 => ?_, fun o ho => ?_⟩
  · rw [mv_up_ne h1, mv_up_ne h3, mv_up_ne h2]
  · simp [rd_, up_, ho]
theorem ds_16 (M : mv_M) (i e j : Nat) : ds_ M i e 16 0 j = if j = e then nI (2 * i + 1) else M 16 0 j := by
  unfold ds_ rc_
  split <;> simp only [rd_, up_, Nat.reduceEqDiff, false_and, if_false, and_self, if_true]
theorem ds_2 (M : mv_M) (i e o : Nat) (h : o ≠ 9) : ds_ M i e 2 0 o = M 2 0 o := by
  unfold ds_ rc_
  split <;> simp [rd_, up_, h]
theorem lr_rk {C M : mv_M} {t e l i : Nat} (h : lr_ C M t e l) (hi : i < t) (hl : ¬ C 11 0 i = 0) : lr_ (ds_ C i e) (rk_ M i e) t (e + 1) l := by
  obtain ⟨h1, ⟨h2, h3⟩, ⟨h4, h5, h6⟩, ⟨h7, h8, h9⟩, h10, h11, h12, h13⟩ := h
  have hf := fs_rk M i e
  have o0 := ds_o C i e 0 (by omega) (by omega) (by omega) (by omega)
  have o3 := ds_o C i e 3 (by omega) (by omega) (by omega) (by omega)
  refine ⟨li_ds h1 hi hl, ⟨by rw [o3]; exact h2, h3⟩, ⟨by rw [hf.2 12 (by omega)]; exact h4, ?_, by rw [hf.2 24 (by omega)]; exact h6⟩, ⟨by rw [hf.2 19 (by omega), o0]; exact h7, by rw [hf.2 22 (by omega), o3]; exact h8, by rw [hf.2 23 (by omega), o3]; exact h9⟩, fun j hj => ?_, fun j hj => ?_, fun c hc => ?_, fun j hj => ?_⟩
  · unfold rk_ nt_
    simp [rd_, up_]
  · rw [hf.1 37 (by omega) (by omega) (by omega), ds_o C i e 17 (by omega) (by omega) (by omega) (by omega)]
    exact h10 j hj
  · rw [ds_16]
    have h36 : rk_ M i e 36 0 j = if j = e then nI (2 * i + 1) else M 36 0 j := by
      unfold rk_ nt_
      simp [rd_, up_]
    rw [h36]
    split
    · rfl
    · exact h11 j (by omega)
  · rw [hf.1 26 (by omega) (by omega) (by omega), ds_o C i e 15 (by omega) (by omega) (by omega) (by omega)]
    exact h12 c hc
  · obtain ⟨a1, a2, a3, a4, k, a5, a6, a7⟩ := h13 j hj
    have h33 : rk_ M i e 33 0 j = if j = i then 0 else M 33 0 j := by
      unfold rk_ nt_
      simp [rd_, up_]
    refine ⟨?_, ?_, ?_, ?_, k, ?_, a6, fun m hm => ?_⟩
    · rw [hf.1 30 (by omega) (by omega) (by omega), ds_9]; exact a1
    · rw [h33, ds_11, a2]
    · unfold pr_
      rw [hf.1 31 (by omega) (by omega) (by omega), hf.1 32 (by omega) (by omega) (by omega), ds_10]; exact a3
    · rw [hf.1 34 (by omega) (by omega) (by omega), ds_o C i e 13 (by omega) (by omega) (by omega) (by omega)]; exact a4
    · rw [ds_o C i e 13 (by omega) (by omega) (by omega) (by omega)]; exact a5
    · rw [hf.1 35 (by omega) (by omega) (by omega), ds_o C i e 12 (by omega) (by omega) (by omega) (by omega)]; exact a7 m hm
theorem lr_df (f : Nat) (pl : Int32) {i k t e : Nat} {C : mv_M} (hL : li_ C t e) (hi : i < t) (h : dl_ C pl i = true) (hf : ¬ i < f) : df_ f pl (i + 1) C k = df_ f pl i (ds_ C i e) (k + 1) := by
  have h4 := hL.2.2.2.1
  have h2 := hL.2.1
  rw [df_s, if_neg hf, if_pos h, hL.2.2.1, nI_clamp (by omega)]
theorem dl_live {C : mv_M} {pl : Int32} {i : Nat} (h : dl_ C pl i = true) : ¬ C 11 0 i = 0 := by
  unfold dl_ at h
  intro q
  rw [q] at h
  exact absurd h (by simp)
theorem lp_endScope (d s : Nat) (hs : s < 5) (t l : Nat) : ∀ (i : Nat) (C M : mv_M) (e k : Nat), i ≤ t → lr_ C M t e l → C 0 0 3 = nI (s + 1) → ∃ M1 e1, lr_ (df_ 0 (nI (s + 1)) i C k).1 M1 t e1 l ∧ fs_ M M1 ∧ ∀ (R : mv_O) (M' : mv_M), er_ (d + 2) 0 kX4_endScope (59, [some (mv_R 22 0), some (mv_I (nI (df_ 0 (nI (s + 1)) i C k).2)), some (mv_I (-1))], [], M1) R M' → er_ (d + 2) 0 kX4_endScope (9, [some (mv_R 22 0), some (mv_I (nI k)), some (mv_I (nI i - 1))], [], M) R M' := by
  intro i
  induction i with
  | zero =>
    intro C M e k hi hL ho
    refine ⟨M, e, hL, fs_refl M, fun R M' hk => ?_⟩
    refine e_run 1 rfl trivial ?_
    refine e_if rfl (fun h10 => ?_) (fun h10 => absurd (by decide) h10)
    exact hk
  | succ i ih =>
    intro C M e k hi hL ho
    rw [nI_pred]
    have h3 := hL.1.2.1
    have hcl : (nI i).toNatClampNeg = i := nI_clamp (by omega)
    have hpos : ¬ nI i < 0 := nI_pos (by omega)
    obtain ⟨a1, a2, a3, -⟩ := hL.2.2.2.2.2.2.2 i (by omega)
    have hop : M 22 0 19 = nI (s + 1) := hL.2.2.2.1.1.trans ho
    have hsz : ∀ s2 : Nat, s2 < 6 → ¬ nI (s2 + 1) = 0 ∧ ¬ nI (s2 + 1) = -1 := fun s2 h2 => ⟨fun q => absurd (nI_inj (b := 0) (by omega) (by omega) q) (by omega), fun q => nI_pos (n := s2 + 1) (by omega) (by rw [q]; decide)⟩
    by_cases hd : dl_ C (nI (s + 1)) i = true
    · have hlv := dl_live hd
      have h4 := hL.1.2.2.2.1
      have hlp := lv_pos hlv t (by omega)
      obtain ⟨M1, e1, b1, b2, b3⟩ := ih (ds_ C i e) (rk_ M i e) (e + 1) (k + 1) (by omega) (lr_rk hL (by omega) hlv) (by rw [ds_o C i e 0 (by omega) (by omega) (by omega) (by omega)]; exact ho)
      rw [lr_df 0 (nI (s + 1)) hL.1 (by omega) hd (by omega)]
      refine ⟨M1, e1, b1, fs_trans (fs_rk M i e) b2, fun R M' hk => ?_⟩
      have hpl : C 10 0 i = nI (s + 1) := by
        unfold dl_ at hd
        rw [Bool.and_eq_true] at hd
        exact of_decide_eq_true hd.2
      have has : M 31 0 i = 2 ∧ M 32 0 i = nI (s + 1) := by
        rcases a3 with ⟨q, -⟩ | ⟨q, -⟩ | ⟨s2, q, q2, q3, q4⟩
        · exact absurd (hpl.symm.trans q) (hsz s (by omega)).2
        · exact absurd (hpl.symm.trans q) (hsz s (by omega)).1
        · exact ⟨q3, q4.trans (q.symm.trans hpl)⟩
      have hlm : ¬ M 33 0 i = 0 := by rw [a2]; exact hlv
      refine e_run 1 rfl trivial ?_
      try simp only [hcl, m1_, hop]
      refine e_if rfl (fun h10 => absurd h10 hpos) (fun h10 => ?_)
      refine e_run 4 rfl ?_ ?_
      · ((try simp only [hcl, m1_, hop]) <;> and_intros <;> first | trivial | exact in_n (by omega) (by omega) | omega | (unfold vp_in; decide) | (simp only [*]; omega))
      try simp only [hcl, m1_, hop]
      refine e_if rfl (fun h19 => absurd h19 hlm) (fun h19 => ?_)
      refine e_run 5 rfl ?_ ?_
      · ((try simp only [hcl, m1_, hop]) <;> and_intros <;> first | trivial | exact in_n (by omega) (by omega) | omega | (unfold vp_in; decide) | (simp only [*]; omega))
      try simp only [hcl, m1_, hop]
      refine e_if rfl (fun h29 => absurd has.1 h29) (fun h29 => ?_)
      refine e_run 6 rfl ?_ ?_
      · ((try simp only [hcl, m1_, hop]) <;> and_intros <;> first | trivial | exact in_n (by omega) (by omega) | omega | (unfold vp_in; decide) | (simp only [*]; omega))
      try simp only [hcl, m1_, hop]
      refine e_if rfl (fun h42 => absurd has.2 h42) (fun h42 => ?_)
      refine e_run 2 rfl trivial ?_
      try simp only [hcl, m1_, hop]
      refine e_callv rfl (rs_destroy (d) i e M (by omega) hL.2.2.1.2.1 (by omega)) (by decide) ?_
      try simp only [hcl, m1_, hop]
      refine e_run 3 rfl trivial ?_
      try simp only [hcl, m1_, hop]
      exact er_cong (by rw [nI_1]) (b3 R M' hk)
    · obtain ⟨M1, e1, b1, b2, b3⟩ := ih C M e k (by omega) hL ho
      rw [df_s, if_neg (by omega), if_neg hd]
      refine ⟨M1, e1, b1, b2, fun R M' hk => ?_⟩
      have hno : ¬ (¬ M 33 0 i = 0 ∧ M 31 0 i = 2 ∧ M 32 0 i = nI (s + 1)) := by
        rintro ⟨q1, q2, q3⟩
        apply hd
        unfold dl_
        rw [← a2, decide_eq_false q1]
        rcases a3 with ⟨-, q⟩ | ⟨-, q⟩ | ⟨s2, r1, -, -, r4⟩
        · rw [q] at q2; exact absurd q2 (by decide)
        · rw [q] at q2; exact absurd q2 (by decide)
        · rw [decide_eq_true (r1.trans (r4.symm.trans q3))]; rfl
      refine e_run 1 rfl trivial ?_
      try simp only [hcl, m1_, hop]
      refine e_if rfl (fun h10 => absurd h10 hpos) (fun h10 => ?_)
      refine e_run 4 rfl ?_ ?_
      · ((try simp only [hcl, m1_, hop]) <;> and_intros <;> first | trivial | exact in_n (by omega) (by omega) | omega | (unfold vp_in; decide) | (simp only [*]; omega))
      try simp only [hcl, m1_, hop]
      refine e_if rfl (fun h19 => ?_) (fun h19 => ?_)
      · refine e_run 2 rfl trivial ?_
        try simp only [hcl, m1_, hop]
        exact er_cong rfl (b3 R M' hk)
      · refine e_run 5 rfl ?_ ?_
        · ((try simp only [hcl, m1_, hop]) <;> and_intros <;> first | trivial | exact in_n (by omega) (by omega) | omega | (unfold vp_in; decide) | (simp only [*]; omega))
        try simp only [hcl, m1_, hop]
        refine e_if rfl (fun h29 => ?_) (fun h29 => ?_)
        · refine e_run 2 rfl trivial ?_
          try simp only [hcl, m1_, hop]
          exact er_cong rfl (b3 R M' hk)
        · refine e_run 6 rfl ?_ ?_
          · ((try simp only [hcl, m1_, hop]) <;> and_intros <;> first | trivial | exact in_n (by omega) (by omega) | omega | (unfold vp_in; decide) | (simp only [*]; omega))
          try simp only [hcl, m1_, hop]
          refine e_if rfl (fun h42 => ?_) (fun h42 => ?_)
          · refine e_run 2 rfl trivial ?_
            try simp only [hcl, m1_, hop]
            exact er_cong rfl (b3 R M' hk)
          · exact absurd ⟨h19, h29, h42⟩ hno
/-- the innermost scope closed -/
theorem rs_endScope (d s : Nat) (hs : s < 5) {C M : mv_M} {t e l : Nat} (hL : lr_ C M t e l) (ho : C 0 0 3 = nI (s + 1)) : ∃ M1 e1, lr_ (ic_ C) M1 t e1 l ∧ ev_ (d + 2) kX4_endScope [mv_R 22 0] M (Sum.inl (some (mv_I (nI (in_ C))))) M1 ∧ (∀ g, g ≠ 22 → g ≠ 33 → g ≠ 36 → M1 g = M g) ∧ ∀ o, o ≠ 20 → o ≠ 19 → M1 22 0 o = M 22 0 o := by
  have h3 := hL.1.2.1
  obtain ⟨M1, e1, h1, h2, hk⟩ := lp_endScope d s hs t l t C M e 0 (Nat.le_refl t) hL ho
  have h12 := hL.2.2.1.1
  have hop := hL.2.2.2.1.1.trans ho
  have hop1 := (h2.2 19 (by omega)).trans hop
  have hic : ic_ C = mv_up (df_ 0 (nI (s + 1)) t C 0).1 0 0 3 (nI s) := by
    unfold ic_ da_
    rw [ho, nI_pred, hL.1.1, nI_clamp (by omega)]
  have hin : in_ C = (df_ 0 (nI (s + 1)) t C 0).2 := by
    unfold in_ da_
    rw [ho, hL.1.1, nI_clamp (by omega)]
  refine ⟨mv_up M1 22 0 19 (nI s), e1, ?_, ?_, fun g a b c => ?_, fun o a b => ?_⟩
  · rw [hic]
    obtain ⟨⟨g1, g2, g3, g4, g5⟩, a2, a3, ⟨a4, a5, a6⟩, a7, a8, a9, a10⟩ := h1
    refine ⟨⟨g1, g2, g3, ?_, g5⟩, a2, a3, ⟨rfl, a5, a6⟩, a7, a8, a9, a10⟩
    exact (congrArg (fun z => e1 + z) (lv_congr (M := (df_ 0 (nI (s + 1)) t C 0).1) (M' := mv_up (df_ 0 (nI (s + 1)) t C 0).1 0 0 3 (nI s)) t (fun i _ => rfl))).trans g4
  · rw [hin]
    refine e_ev rfl rfl ?_
    refine e_run 7 rfl trivial ?_
    try simp only [h12]
    refine hk _ _ ?_
    refine e_run 7 rfl trivial ?_
    try simp only [hop1, nI_pred]
    exact e_ret rfl trivial rfl rfl
  · rw [mv_up_ne a]
    exact h2.1 g a b c
  · have := h2.2 o a
    simp only [rd_, up_, Nat.reduceEqDiff, reduceIte, and_self, and_true, true_and, and_false, false_and, if_true, if_false, b]
    exact this
theorem rp_begin (d : Nat) (M : mv_M) (h : ¬ M 22 0 19 = 5) : ev_ d kX4_begin [mv_R 22 0] M (Sum.inl (some (mv_I (M 22 0 19 + 1)))) (mv_up (th_ M 0) 22 0 19 (M 22 0 19 + 1)) := by
  refine e_ev rfl rfl ?_
  refine e_run 4 rfl trivial ?_
  try simp only [rd_, up_, Nat.reduceEqDiff, reduceIte, and_self, and_true, true_and, and_false, false_and, if_true, if_false]
  refine e_if rfl (fun h6 => ?_) (fun h6 => absurd h6 h)
  refine e_run 4 rfl trivial ?_
  try simp only [rd_, up_, Nat.reduceEqDiff, reduceIte, and_self, and_true, true_and, and_false, false_and, if_true, if_false]
  refine e_if rfl (fun h21 => ?_) (fun h21 => absurd rfl h21)
  refine e_run 8 rfl trivial ?_
  try simp only [rd_, up_, Nat.reduceEqDiff, reduceIte, and_self, and_true, true_and, and_false, false_and, if_true, if_false]
  exact e_ret rfl trivial rfl rfl
theorem rp_begin_x (d : Nat) (M : mv_M) (h : M 22 0 19 = 5) : ev_ d kX4_begin [mv_R 22 0] M (Sum.inl (some (mv_I 0))) (th_ M 1) := by
  refine e_ev rfl rfl ?_
  refine e_run 4 rfl trivial ?_
  try simp only [rd_, up_, Nat.reduceEqDiff, reduceIte, and_self, and_true, true_and, and_false, false_and, if_true, if_false]
  refine e_if rfl (fun h6 => absurd h h6) (fun h6 => ?_)
  refine e_run 5 rfl trivial ?_
  try simp only [rd_, up_, Nat.reduceEqDiff, reduceIte, and_self, and_true, true_and, and_false, false_and, if_true, if_false]
  refine e_if rfl (fun h21 => absurd h21 (by decide)) (fun h21 => ?_)
  refine e_run 1 rfl trivial ?_
  try simp only [rd_, up_, Nat.reduceEqDiff, reduceIte, and_self, and_true, true_and, and_false, false_and, if_true, if_false]
  exact e_ret rfl trivial rfl rfl
theorem rp_end (d s : Nat) (hs : s < 5) {C M : mv_M} {t e l : Nat} (hL : lr_ C M t e l) (ho : C 0 0 3 = nI (s + 1)) : ∃ M1 e1, lr_ (ic_ C) M1 t e1 l ∧ ev_ (d + 3) kX4_end [mv_R 22 0] M (Sum.inl (some (mv_I (nI (in_ C))))) M1 ∧ (∀ g, g ≠ 22 → g ≠ 33 → g ≠ 36 → M1 g = M g) ∧ (∀ o, o ≠ 0 → o ≠ 20 → o ≠ 19 → M1 22 0 o = M 22 0 o) ∧ M1 22 0 0 = 0 := by
  have hop := hL.2.2.2.1.1.trans ho
  have hne : ¬ nI (s + 1) = 0 := fun q => absurd (nI_inj (b := 0) (by omega) (by omega) q) (by omega)
  obtain ⟨M1, e1, h1, h2, h3, h4⟩ := rs_endScope d s hs (lr_th (k := 0) hL) ho
  refine ⟨M1, e1, h1, ?_, fun g a b c => (h3 g a b c).trans (mv_up_ne a), fun o a b c => (h4 o b c).trans (by simp only [th_, rd_, up_, Nat.reduceEqDiff, reduceIte, and_self, and_true, true_and, and_false, false_and, if_true, if_false, a]), (h4 0 (by omega) (by omega)).trans (by simp only [th_, rd_, up_, Nat.reduceEqDiff, reduceIte, and_self, and_true, true_and, and_false, false_and, if_true, if_false])⟩
  refine e_ev rfl rfl ?_
  refine e_run 3 rfl trivial ?_
  try simp only [rd_, up_, Nat.reduceEqDiff, reduceIte, and_self, and_true, true_and, and_false, false_and, if_true, if_false, hop]
  refine e_if rfl (fun h5 => ?_) (fun h5 => absurd h5 hne)
  refine e_run 4 rfl trivial ?_
  try simp only [rd_, up_, Nat.reduceEqDiff, reduceIte, and_self, and_true, true_and, and_false, false_and, if_true, if_false, hop]
  refine e_if rfl (fun h20 => ?_) (fun h20 => absurd rfl h20)
  refine e_run 1 rfl trivial ?_
  try simp only [rd_, up_, Nat.reduceEqDiff, reduceIte, and_self, and_true, true_and, and_false, false_and, if_true, if_false, hop]
  refine e_calli rfl (h2) (by decide) ?_
  try simp only [rd_, up_, Nat.reduceEqDiff, reduceIte, and_self, and_true, true_and, and_false, false_and, if_true, if_false, hop]
  exact e_ret rfl trivial rfl rfl
theorem rp_end_x (d : Nat) (M : mv_M) (h : M 22 0 19 = 0) : ev_ d kX4_end [mv_R 22 0] M (Sum.inl (some (mv_I 0))) (th_ M 1) := by
  refine e_ev rfl rfl ?_
  refine e_run 3 rfl trivial ?_
  try simp only [rd_, up_, Nat.reduceEqDiff, reduceIte, and_self, and_true, true_and, and_false, false_and, if_true, if_false]
  refine e_if rfl (fun h5 => absurd h h5) (fun h5 => ?_)
  refine e_run 5 rfl trivial ?_
  try simp only [rd_, up_, Nat.reduceEqDiff, reduceIte, and_self, and_true, true_and, and_false, false_and, if_true, if_false]
  refine e_if rfl (fun h20 => absurd h20 (by decide)) (fun h20 => ?_)
  refine e_run 2 rfl trivial ?_
  try simp only [rd_, up_, Nat.reduceEqDiff, reduceIte, and_self, and_true, true_and, and_false, false_and, if_true, if_false]
  exact e_ret rfl trivial rfl rfl
/-- M' is M, but for who is alive, the events and what is open -/
def fo_ (M M' : mv_M) : Prop := (∀ g, g ≠ 22 → g ≠ 33 → g ≠ 36 → M' g = M g) ∧ ∀ o, o ≠ 20 → o ≠ 19 → M' 22 0 o = M 22 0 o
theorem fo_refl (M : mv_M) : fo_ M M := ⟨fun _ _ _ _ => rfl, fun _ _ _ => rfl⟩
theorem fo_trans {M M1 M2 : mv_M} (h : fo_ M M1) (h2 : fo_ M1 M2) : fo_ M M2 := ⟨fun g a b c => (h2.1 g a b c).trans (h.1 g a b c), fun o ho hp => (h2.2 o ho hp).trans (h.2 o ho hp)⟩
theorem fs_fo {M M' : mv_M} (h : fs_ M M') : fo_ M M' := ⟨h.1, fun o a _ => h.2 o a⟩
theorem lp_rclose (d t l : Nat) (z : Option mv_V) : ∀ (o k : Nat) (C M : mv_M) (e : Nat), o ≤ 5 → lr_ C M t e l → C 0 0 3 = nI o → ∃ M1 e1, lr_ (ca_ o C k).1 M1 t e1 l ∧ (ca_ o C k).1 0 0 3 = nI 0 ∧ fo_ M M1 ∧ ∀ (R : mv_O) (M' : mv_M), er_ (d + 3) 0 kX4_close (24, [some (mv_R 22 0), some (mv_I (nI (ca_ o C k).2)), z], [], M1) R M' → er_ (d + 3) 0 kX4_close (7, [some (mv_R 22 0), some (mv_I (nI k)), z], [], M) R M' := by
  intro o
  induction o with
  | zero =>
    intro k C M e h5 hL ho
    have hop := hL.2.2.2.1.1.trans ho
    refine ⟨M, e, hL, ho, fo_refl M, fun R M' hk => ?_⟩
    refine e_run 2 rfl trivial ?_
    try simp only [hop]
    refine e_if rfl (fun h11 => ?_) (fun h11 => absurd (by decide) h11)
    exact hk
  | succ o ih =>
    intro k C M e h5 hL ho
    have hop := hL.2.2.2.1.1.trans ho
    have hgt : ¬ nI (o + 1) ≤ 0 := nI_ge (a := 0) (by omega) (by omega)
    obtain ⟨M1, e1, a1, a2, a3, a4⟩ := rs_endScope d o (by omega) hL ho
    obtain ⟨M2, e2, b1, b2, b3, b4⟩ := ih (k + in_ C) (ic_ C) M1 e1 (by omega) a1 (by rw [ic_3, ho, nI_pred])
    rw [ca_s]
    refine ⟨M2, e2, b1, b2, fo_trans ⟨a3, a4⟩ b3, fun R M' hk => ?_⟩
    refine e_run 2 rfl trivial ?_
    try simp only [hop, nI_add]
    refine e_if rfl (fun h11 => absurd h11 hgt) (fun h11 => ?_)
    refine e_run 2 rfl trivial ?_
    try simp only [hop, nI_add]
    refine e_calli rfl (a2) (by decide) ?_
    try simp only [hop, nI_add]
    refine e_run 3 rfl trivial ?_
    try simp only [hop, nI_add]
    exact b4 R M' hk
theorem pr_dl {C M : mv_M} {i : Nat} (h : pr_ C M i) : (C 10 0 i = 0 ↔ M 31 0 i = 0) ∧ (C 10 0 i = -1 ↔ M 31 0 i = 1) := by
  rcases h with ⟨q, q1⟩ | ⟨q, q1⟩ | ⟨s, q, q2, q1, -⟩
  · rw [q, q1]
    decide
  · rw [q, q1]
    decide
  · rw [q, q1]
    have h0 : ¬ nI (s + 1) = 0 := fun r => absurd (nI_inj (b := 0) (by omega) (by omega) r) (by omega)
    have h1 : ¬ nI (s + 1) = -1 := fun r => nI_pos (n := s + 1) (by omega) (by rw [r]; decide)
    exact ⟨⟨fun r => absurd r h0, fun r => absurd r (by decide)⟩, ⟨fun r => absurd r h1, fun r => absurd r (by decide)⟩⟩
theorem dl_iff (C : mv_M) (pl : Int32) (i : Nat) : dl_ C pl i = true ↔ ¬ C 11 0 i = 0 ∧ C 10 0 i = pl := by
  unfold dl_
  simp
theorem lp_rclose2 (d : Nat) (t l : Nat) : ∀ (i : Nat) (C M : mv_M) (e k : Nat), i ≤ t → lr_ C M t e l → ∃ M1 e1, lr_ (df_ 0 0 i C k).1 M1 t e1 l ∧ fs_ M M1 ∧ er_ (d + 2) 0 kX4_close (31, [some (mv_R 22 0), some (mv_I (nI k)), some (mv_I (nI i - 1))], [], M) (Sum.inl (some (mv_I (nI (df_ 0 0 i C k).2)))) M1 := by
  intro i
  induction i with
  | zero =>
    intro C M e k hi hL
    refine ⟨M, e, hL, fs_refl M, ?_⟩
    refine e_run 1 rfl trivial ?_
    refine e_if rfl (fun h32 => ?_) (fun h32 => absurd (by decide) h32)
    refine e_run 1 rfl trivial ?_
    exact e_ret rfl trivial rfl rfl
  | succ i ih =>
    intro C M e k hi hL
    rw [nI_pred]
    have h3 := hL.1.2.1
    have hcl : (nI i).toNatClampNeg = i := nI_clamp (by omega)
    have hpos : ¬ nI i < 0 := nI_pos (by omega)
    obtain ⟨a1, a2, a3, -⟩ := hL.2.2.2.2.2.2.2 i (by omega)
    have hpd := (pr_dl a3).1
    by_cases hd : dl_ C 0 i = true
    · have hlv := dl_live hd
      have h4 := hL.1.2.2.2.1
      have hlp := lv_pos hlv t (by omega)
      obtain ⟨M1, e1, b1, b2, b3⟩ := ih (ds_ C i e) (rk_ M i e) (e + 1) (k + 1) (by omega) (lr_rk hL (by omega) hlv)
      rw [lr_df 0 0 hL.1 (by omega) hd (by omega)]
      refine ⟨M1, e1, b1, fs_trans (fs_rk M i e) b2, ?_⟩
      have has := hpd.mp ((dl_iff C 0 i).mp hd).2
      have hlm : ¬ M 33 0 i = 0 := by rw [a2]; exact hlv
      refine e_run 1 rfl trivial ?_
      try simp only [hcl, m1_]
      refine e_if rfl (fun h32 => absurd h32 hpos) (fun h32 => ?_)
      refine e_run 4 rfl ?_ ?_
      · ((try simp only [hcl, m1_]) <;> and_intros <;> first | trivial | exact in_n (by omega) (by omega) | omega | (unfold vp_in; decide) | (simp only [*]; omega))
      try simp only [hcl, m1_]
      refine e_if rfl (fun h41 => absurd h41 hlm) (fun h41 => ?_)
      refine e_run 4 rfl ?_ ?_
      · ((try simp only [hcl, m1_]) <;> and_intros <;> first | trivial | exact in_n (by omega) (by omega) | omega | (unfold vp_in; decide) | (simp only [*]; omega))
      try simp only [hcl, m1_]
      refine e_if rfl (fun h50 => absurd has h50) (fun h50 => ?_)
      refine e_run 2 rfl trivial ?_
      try simp only [hcl, m1_]
      refine e_callv rfl (rs_destroy d i e M (by omega) hL.2.2.1.2.1 (by omega)) (by decide) ?_
      try simp only [hcl, m1_]
      refine e_run 3 rfl trivial ?_
      try simp only [hcl, m1_]
      exact er_cong (by rw [nI_1]) b3
    · obtain ⟨M1, e1, b1, b2, b3⟩ := ih C M e k (by omega) hL
      rw [df_s, if_neg (by omega), if_neg hd]
      refine ⟨M1, e1, b1, b2, ?_⟩
      have hno : ¬ (¬ M 33 0 i = 0 ∧ M 31 0 i = 0) := fun q => hd ((dl_iff C 0 i).mpr ⟨by rw [← a2]; exact q.1, hpd.mpr q.2⟩)
      refine e_run 1 rfl trivial ?_
      try simp only [hcl, m1_]
      refine e_if rfl (fun h32 => absurd h32 hpos) (fun h32 => ?_)
      refine e_run 4 rfl ?_ ?_
      · ((try simp only [hcl, m1_]) <;> and_intros <;> first | trivial | exact in_n (by omega) (by omega) | omega | (unfold vp_in; decide) | (simp only [*]; omega))
      try simp only [hcl, m1_]
      refine e_if rfl (fun h41 => ?_) (fun h41 => ?_)
      · refine e_run 2 rfl trivial ?_
        try simp only [hcl, m1_]
        exact er_cong rfl b3
      · refine e_run 4 rfl ?_ ?_
        · ((try simp only [hcl, m1_]) <;> and_intros <;> first | trivial | exact in_n (by omega) (by omega) | omega | (unfold vp_in; decide) | (simp only [*]; omega))
        try simp only [hcl, m1_]
        refine e_if rfl (fun h50 => ?_) (fun h50 => ?_)
        · refine e_run 2 rfl trivial ?_
          try simp only [hcl, m1_]
          exact er_cong rfl b3
        · exact absurd ⟨h41, h50⟩ hno
theorem df_add (f : Nat) (pl : Int32) : ∀ (i : Nat) (C : mv_M) (k : Nat), df_ f pl i C k = ((df_ f pl i C 0).1, k + (df_ f pl i C 0).2)
  | 0, C, k => rfl
  | i + 1, C, k => by
    rw [df_s, df_s]
    split
    · rfl
    · split
      · rw [df_add f pl i _ (k + 1), df_add f pl i _ (0 + 1)]
        simp only [Prod.mk.injEq, true_and]
        omega
      · exact df_add f pl i C k
theorem er_congo {d b k : Nat} {s : mv_S} {o o' : mv_O} {M' : mv_M} (h : o' = o) (he : er_ d b k s o M') : er_ d b k s o' M' := h ▸ he
theorem rp_close (d n : Nat) {C M : mv_M} {t e l : Nat} (hV : cv_ C n) (hL : lr_ C M t e l) : ∃ M1 e1, lr_ (cl_r C).2 M1 t e1 l ∧ ev_ (d + 3) kX4_close [mv_R 22 0] M (Sum.inl (some (mv_I (cl_r C).1))) M1 ∧ fo_ (th_ M 0) M1 := by
  obtain ⟨o, ho, h5⟩ := hV.2.2.1
  obtain ⟨M1, e1, a1, a2, a3, a4⟩ := lp_rclose d t l none o 0 C (th_ M 0) e h5 (lr_th (k := 0) hL) ho
  obtain ⟨M2, e2, b1, b2, b3⟩ := lp_rclose2 (d + 1) t l t (ca_ o C 0).1 M1 e1 (ca_ o C 0).2 (Nat.le_refl t) a1
  have h3 := a1.1.2.1
  have h12 := a1.2.2.1.1
  have hdf : df_ 0 0 t (ca_ o C 0).1 (ca_ o C 0).2 = ((da_ (ca_ o C 0).1 0 0 t).1, (ca_ o C 0).2 + (da_ (ca_ o C 0).1 0 0 t).2) := df_add 0 0 t _ _
  rw [hdf] at b1 b3
  unfold cl_r
  rw [ho, nI_clamp (by omega), a1.1.1, nI_clamp (by omega)]
  refine ⟨M2, e2, b1, ?_, fo_trans a3 (fs_fo b2)⟩
  refine e_ev rfl rfl ?_
  refine e_run 5 rfl trivial ?_
  refine a4 _ _ ?_
  refine e_run 5 rfl trivial ?_
  try simp only [h12]
  exact er_congo (by rw [nI_add]) b3
