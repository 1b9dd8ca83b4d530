/-! REQUESTS, SETTLED -/
theorem dr_cg {C C' M M' : mv_M} {n : Nat} (h : dr_ C M n) (c1 : C' 1 = C 1) (c8 : C' 8 = C 8) (c19 : C' 19 = C 19) (c20 : C' 20 = C 20) (m1 : M' 22 0 1 = M 22 0 1) (m6 : M' 22 0 6 = M 22 0 6) (m23 : M' 23 = M 23) (m24 : M' 24 = M 24) (m25 : M' 25 = M 25) : dr_ C' M' n := by
  obtain ⟨⟨a1, a2, a3⟩, b1, b2, b3, b4, b5, b6⟩ := h
  refine ⟨⟨by rw [c1]; exact a1, a2, fun c hc => ?_⟩, by rw [m1]; exact b1, by rw [m6, c1]; exact b2, by rw [m23, c19]; exact b3, by rw [m24, c8]; exact b4, by rw [m25, c20]; exact b5, by rw [c19]; exact b6⟩
  unfold dc_
  rw [c8]
  exact a3 c hc
/-- a failure settled -/
theorem se_f {n t0 : Nat} {C X M2 : mv_M} (hp : pf_ n C X M2) (h0 : t0 ≤ 300) : ∃ M3 t e l, ev_ 2 kX4_settle [mv_R 22 0, mv_I (nI t0)] M2 (Sum.inl (some (mv_I 1))) M3 ∧ rw_ n t e l (fp_ X (nI t0)) M3 := by
  obtain ⟨kind, det, l, t, e, l0, C0, rfl, hL, hK, hD, hV, hk0, h31, h32, h10, h20, hch, -⟩ := hp
  obtain ⟨M3, e1, a1, a2, a3, a4⟩ := rs_settle 0 t0 hL h0 h20 h31 hk0 h32 h10 hch
  have hf := (sp_fp 0 n t0 _ (cv_fr (kind := kind) (det := det) (l := l) hV) h0).2
  have ht := hL.1.2.1
  have h5 : fr_ C0 kind det l 2 0 5 = nI t := by rw [fr_o _ _ _ _ 2 (by omega) (by omega)]; exact hL.1.1
  have hfp : fp_ (fr_ C0 kind det l) (nI t0) = (da_ (fr_ C0 kind det l) t0 (-1) t).1 := by
    unfold fp_
    rw [h5, nI_clamp (by omega), nI_clamp (by omega)]
  rw [hfp] at hf ⊢
  have hli : li_ (fr_ C0 kind det l) t e := by
    obtain ⟨g1, g2, g3, g4, g5⟩ := hL.1
    refine ⟨h5, g2, by rw [fr_o _ _ _ _ 2 (by omega) (by omega)]; exact g3, ?_, fun i hi => by rw [fr_o _ _ _ _ 9 (by omega) (by omega), fr_o _ _ _ _ 10 (by omega) (by omega), fr_o _ _ _ _ 11 (by omega) (by omega)]; exact g5 i hi⟩
    rw [lv_congr (M := C0) t (fun i _ => by rw [fr_o _ _ _ _ 11 (by omega) (by omega)])]
    exact g4
  have hK1 : kv_ (fr_ C0 kind det l) t := kv_congr hK (fr_o _ _ _ _ 9 (by omega) (by omega)) (fr_o _ _ _ _ 10 (by omega) (by omega)) (fr_o _ _ _ _ 11 (by omega) (by omega)) (fun s c => by rw [fr_o _ _ _ _ 21 (by omega) (by omega)])
  have od (x : Nat) (h2 : x ≠ 2) (h11 : x ≠ 11) (h16 : x ≠ 16) (h21 : x ≠ 21) (h3 : x ≠ 3) (h17 : x ≠ 17) : (da_ (fr_ C0 kind det l) t0 (-1) t).1 x = C0 x := (df_o t0 (-1) x h2 h11 h16 h21 t _ 0).trans (fr_o _ _ _ _ x h3 h17)
  refine ⟨M3, t, e1, l, a2, hf, ?_, a1, kv_df t0 (-1) t t _ e 0 (Nat.le_refl t) hli hK1⟩
  exact dr_cg hD (od 1 (by omega) (by omega) (by omega) (by omega) (by omega) (by omega)) (od 8 (by omega) (by omega) (by omega) (by omega) (by omega) (by omega)) (od 19 (by omega) (by omega) (by omega) (by omega) (by omega) (by omega)) (od 20 (by omega) (by omega) (by omega) (by omega) (by omega) (by omega)) (a4 1 (by omega) (by omega) (by omega) (by omega) (by omega)) (a4 6 (by omega) (by omega) (by omega) (by omega) (by omega)) (a3 23 (by omega) (by omega) (by omega) (by omega)) (a3 24 (by omega) (by omega) (by omega) (by omega)) (a3 25 (by omega) (by omega) (by omega) (by omega))
/-- cleaned -/
def cl4_ (M : mv_M) : mv_M := mv_up (mv_up (mv_up M 22 0 10 0) 22 0 31 0) 22 0 30 (-1)
theorem rw_cl {n t e l : Nat} {C M : mv_M} (h : rw_ n t e l C M) : rw_ n t e l C (cl4_ M) := h
theorem rw_th {n t e l : Nat} {C M : mv_M} {k : Int32} (h : rw_ n t e l C M) : rw_ n t e l C (th_ M k) := h
theorem rl_rw {n : Nat} {C M : mv_M} (h : rl_ n 0 C M) : ∃ t e l, rw_ n t e l C M := by
  obtain ⟨hV, hD, ⟨t, e, l, hL, hK⟩, -⟩ := h
  exact ⟨t, e, l, hV, hD, hL, hK⟩
/-- until it is settled -/
theorem rq_mid {n t e l : Nat} {C M : mv_M} (h : rw_ n t e l C M) (ty q : Int32) : ∃ M2, sr_ n 0 C (cl4_ M) (mRq n (mCo n 21) ty q 0 C) M2 ∧ (∀ (R : mv_O) (M9 : mv_M), (∀ z : Option mv_V, er_ 10 0 kX4_request (39, [some (mv_R 22 0), some (mv_I ty), some (mv_I q), some (mv_I (nI t)), z], [], M2) R M9) → ev_ 10 kX4_request [mv_R 22 0, mv_I ty, mv_I q] M R M9) ∧ ((mRq n (mCo n 21) ty q 0 C).1 = -2 ∨ ¬ (mRq n (mCo n 21) ty q 0 C).1 < 0) := by
  have hR : rl_ n 0 C (cl4_ M) := rl_0 (rw_cl h) rfl rfl
  have h12 := h.2.2.1.2.2.1.1
  have h20 := h.2.1.1.2.1
  have hch := ev_le (d' := 9) (rs_choose 0 hR.2.1 ty q) (by omega)
  by_cases hm : mk_ (cb_ C ty q) n = 0
  · rw [show co_ C n ty q = -1 by rw [co_, if_pos hm]] at hch
    rw [show mRq n (mCo n 21) ty q 0 C = rf_ C 1 ty 0 by rw [mRq, if_pos hm]]
    refine ⟨_, sr_fail hR (by decide), fun R M9 hk => ?_, Or.inl rfl⟩
    refine e_ev rfl rfl ?_
    refine e_run 4 rfl trivial ?_
    try simp only [h12]
    refine e_callv rfl (rs_clean 9 M) (by decide) ?_
    try simp only [h12]
    refine e_run 3 rfl trivial ?_
    try simp only [h12]
    refine e_calli rfl (hch) (by decide) ?_
    try simp only [h12]
    refine e_run 2 rfl trivial ?_
    try simp only [h12]
    refine e_if rfl (fun h19 => absurd h19 (by decide)) (fun h19 => ?_)
    refine e_run 4 rfl trivial ?_
    try simp only [h12]
    refine e_callv rfl (rs_fail 9 _ 1 ty) (by decide) ?_
    try simp only [h12]
    refine e_run 1 rfl trivial ?_
    try simp only [h12]
    exact hk _
  · by_cases hc : ch_ C n (mk_ (cb_ C ty q) n) = -1
    · rw [show co_ C n ty q = -2 by rw [co_, if_neg hm, if_pos hc]] at hch
      rw [show mRq n (mCo n 21) ty q 0 C = rf_ C 2 ty 0 by rw [mRq, if_neg hm, if_pos hc]]
      refine ⟨_, sr_fail hR (by decide), fun R M9 hk => ?_, Or.inl rfl⟩
      refine e_ev rfl rfl ?_
      refine e_run 4 rfl trivial ?_
      try simp only [h12]
      refine e_callv rfl (rs_clean 9 M) (by decide) ?_
      try simp only [h12]
      refine e_run 3 rfl trivial ?_
      try simp only [h12]
      refine e_calli rfl (hch) (by decide) ?_
      try simp only [h12]
      refine e_run 2 rfl trivial ?_
      try simp only [h12]
      refine e_if rfl (fun h19 => absurd h19 (by decide)) (fun h19 => ?_)
      refine e_run 4 rfl trivial ?_
      try simp only [h12]
      refine e_callv rfl (rs_fail 9 _ 2 ty) (by decide) ?_
      try simp only [h12]
      refine e_run 1 rfl trivial ?_
      try simp only [h12]
      exact hk _
    · obtain ⟨j, hj, hjn⟩ := (ch_val C n (mk_ (cb_ C ty q) n)).resolve_left hc
      rw [show co_ C n ty q = nI j by rw [co_, if_neg hm, if_neg hc, hj]] at hch
      rw [show mRq n (mCo n 21) ty q 0 C = mOb (mCo n 21) j 0 C by rw [mRq, if_neg hm, if_neg hc, hj, nI_clamp (by omega)]]
      obtain ⟨M2, a1, a2⟩ := rs_make hR hjn
      refine ⟨M2, a2, fun R M9 hk => ?_, mOb_nn hjn h.1 h.2.2.1.1.2.1 h.2.2.2⟩
      refine e_ev rfl rfl ?_
      refine e_run 4 rfl trivial ?_
      try simp only [h12]
      refine e_callv rfl (rs_clean 9 M) (by decide) ?_
      try simp only [h12]
      refine e_run 3 rfl trivial ?_
      try simp only [h12]
      refine e_calli rfl (hch) (by decide) ?_
      try simp only [h12]
      refine e_run 2 rfl trivial ?_
      try simp only [h12]
      refine e_if rfl (fun h19 => ?_) (fun h19 => absurd (Int32.not_lt.mp (nI_pos (by omega))) h19)
      refine e_run 2 rfl trivial ?_
      try simp only [h12]
      refine e_callv rfl (a1) (by decide) ?_
      try simp only [h12]
      exact hk _
/-- a request -/
theorem rq_sim {n t e l : Nat} {C M : mv_M} (h : rw_ n t e l C M) (ty q : Int32) : ∃ M2 t2 e2 l2, rw_ n t2 e2 l2 (rt_ n C ty q).2 M2 ∧ ((∃ x, (rt_ n C ty q).1 = Sum.inl (some (mv_I x)) ∧ ¬ x < 0 ∧ ev_ 10 kX4_request [mv_R 22 0, mv_I ty, mv_I q] M (Sum.inl (some (mv_I x))) M2) ∨ ((rt_ n C ty q).1 = Sum.inr 1 ∧ ev_ 10 kX4_request [mv_R 22 0, mv_I ty, mv_I q] M (Sum.inl (some (mv_I (-1)))) M2)) := by
  obtain ⟨M2, a1, a2, a3⟩ := rq_mid h ty q
  have ht := h.2.2.1.1.1
  have h3 := h.2.2.1.1.2.1
  rcases a1 with ⟨b1, b2, b3, -⟩ | ⟨b1, b2⟩
  · obtain ⟨t2, e2, l2, hr⟩ := rl_rw b2
    have hrt : rt_ n C ty q = (Sum.inl (some (mv_I (mRq n (mCo n 21) ty q 0 C).1)), (mRq n (mCo n 21) ty q 0 C).2) := by rw [rt_, if_neg b1]
    rw [hrt]
    refine ⟨M2, t2, e2, l2, hr, Or.inl ⟨_, rfl, a3.resolve_left b1, a2 _ _ (fun z => ?_)⟩⟩
    have h31 := b2.2.2.2.1.2.2
    refine e_run 2 rfl trivial ?_
    try simp only [b3]
    refine e_calli rfl (ev_le (rs_settle0 0 M2 (nI t) h31) (by omega)) (by decide) ?_
    try simp only [b3]
    refine e_if rfl (fun h44 => ?_) (fun h44 => absurd rfl h44)
    refine e_run 2 rfl trivial ?_
    try simp only [b3]
    exact e_ret rfl trivial rfl rfl
  · obtain ⟨M3, t2, e2, l2, c1, c2⟩ := se_f b2 h3
    have hrt : rt_ n C ty q = (Sum.inr 1, fp_ (mRq n (mCo n 21) ty q 0 C).2 (nI t)) := by rw [rt_, if_pos b1, ht]
    rw [hrt]
    refine ⟨M3, t2, e2, l2, c2, Or.inr ⟨rfl, a2 _ _ (fun z => ?_)⟩⟩
    refine e_run 2 rfl trivial ?_
    refine e_calli rfl (ev_le c1 (by omega)) (by decide) ?_
    refine e_if rfl (fun h44 => absurd h44 (by decide)) (fun h44 => ?_)
    refine e_run 2 rfl trivial ?_
    exact e_ret rfl trivial rfl rfl
/-- resolve: what the reference answers -/
theorem rp_resolve {n t e l : Nat} {C M : mv_M} (h : rw_ n t e l C M) (ty q : Int32) (hq : tq_ ty q = true) : ∃ M2 t2 e2 l2, rw_ n t2 e2 l2 (rt_ n C ty q).2 M2 ∧ ((∃ x, (rt_ n C ty q).1 = Sum.inl (some (mv_I x)) ∧ M2 22 0 0 = 0 ∧ ev_ 11 kX4_resolve [mv_R 22 0, mv_I ty, mv_I q] M (Sum.inl (some (mv_I x))) M2) ∨ ((rt_ n C ty q).1 = Sum.inr 1 ∧ M2 22 0 0 = 2 ∧ ev_ 11 kX4_resolve [mv_R 22 0, mv_I ty, mv_I q] M (Sum.inl (some (mv_I 0))) M2)) := by
  obtain ⟨M2, t2, e2, l2, a1, a2⟩ := rq_sim (rw_th (k := 0) h) ty q
  rcases a2 with ⟨x, b1, b2, b3⟩ | ⟨b1, b2⟩
  · refine ⟨th_ M2 0, t2, e2, l2, a1, Or.inl ⟨x, b1, rfl, ?_⟩⟩
    refine e_ev rfl rfl ?_
    refine e_run 3 rfl trivial ?_
    try simp only [rd_, up_, Nat.reduceEqDiff, reduceIte, and_self, and_true, true_and, and_false, false_and, if_true, if_false]
    refine e_calli rfl (ev_le (rs_isAsked 0 M ty q) (by omega)) (by decide) ?_
    try simp only [rd_, up_, Nat.reduceEqDiff, reduceIte, and_self, and_true, true_and, and_false, false_and, if_true, if_false]
    refine e_if rfl (fun h6 => absurd h6 (by simp [hq])) (fun h6 => ?_)
    refine e_run 5 rfl trivial ?_
    try simp only [rd_, up_, Nat.reduceEqDiff, reduceIte, and_self, and_true, true_and, and_false, false_and, if_true, if_false]
    refine e_if rfl (fun h21 => ?_) (fun h21 => absurd rfl h21)
    refine e_run 3 rfl trivial ?_
    try simp only [rd_, up_, Nat.reduceEqDiff, reduceIte, and_self, and_true, true_and, and_false, false_and, if_true, if_false]
    refine e_calli rfl (b3) (by decide) ?_
    try simp only [rd_, up_, Nat.reduceEqDiff, reduceIte, and_self, and_true, true_and, and_false, false_and, if_true, if_false]
    refine e_run 3 rfl trivial ?_
    try simp only [rd_, up_, Nat.reduceEqDiff, reduceIte, and_self, and_true, true_and, and_false, false_and, if_true, if_false]
    refine e_if rfl (fun h35 => ?_) (fun h35 => absurd (Int32.not_lt.mp b2) h35)
    refine e_run 4 rfl trivial ?_
    try simp only [rd_, up_, Nat.reduceEqDiff, reduceIte, and_self, and_true, true_and, and_false, false_and, if_true, if_false]
    refine e_if rfl (fun h50 => ?_) (fun h50 => absurd rfl h50)
    refine e_run 1 rfl trivial ?_
    try simp only [rd_, up_, Nat.reduceEqDiff, reduceIte, and_self, and_true, true_and, and_false, false_and, if_true, if_false]
    exact e_ret rfl trivial rfl rfl
  · refine ⟨th_ M2 2, t2, e2, l2, a1, Or.inr ⟨b1, rfl, ?_⟩⟩
    refine e_ev rfl rfl ?_
    refine e_run 3 rfl trivial ?_
    try simp only [rd_, up_, Nat.reduceEqDiff, reduceIte, and_self, and_true, true_and, and_false, false_and, if_true, if_false]
    refine e_calli rfl (ev_le (rs_isAsked 0 M ty q) (by omega)) (by decide) ?_
    try simp only [rd_, up_, Nat.reduceEqDiff, reduceIte, and_self, and_true, true_and, and_false, false_and, if_true, if_false]
    refine e_if rfl (fun h6 => absurd h6 (by simp [hq])) (fun h6 => ?_)
    refine e_run 5 rfl trivial ?_
    try simp only [rd_, up_, Nat.reduceEqDiff, reduceIte, and_self, and_true, true_and, and_false, false_and, if_true, if_false]
    refine e_if rfl (fun h21 => ?_) (fun h21 => absurd rfl h21)
    refine e_run 3 rfl trivial ?_
    try simp only [rd_, up_, Nat.reduceEqDiff, reduceIte, and_self, and_true, true_and, and_false, false_and, if_true, if_false]
    refine e_calli rfl (b2) (by decide) ?_
    try simp only [rd_, up_, Nat.reduceEqDiff, reduceIte, and_self, and_true, true_and, and_false, false_and, if_true, if_false]
    refine e_run 3 rfl trivial ?_
    try simp only [rd_, up_, Nat.reduceEqDiff, reduceIte, and_self, and_true, true_and, and_false, false_and, if_true, if_false]
    refine e_if rfl (fun h35 => absurd h35 (by decide)) (fun h35 => ?_)
    refine e_run 5 rfl trivial ?_
    try simp only [rd_, up_, Nat.reduceEqDiff, reduceIte, and_self, and_true, true_and, and_false, false_and, if_true, if_false]
    refine e_if rfl (fun h50 => absurd h50 (by decide)) (fun h50 => ?_)
    refine e_run 2 rfl trivial ?_
    try simp only [rd_, up_, Nat.reduceEqDiff, reduceIte, and_self, and_true, true_and, and_false, false_and, if_true, if_false]
    exact e_ret rfl trivial rfl rfl
theorem rp_resolve_i (d : Nat) (M : mv_M) (ty q : Int32) (hq : tq_ ty q = false) : ev_ (d + 2) kX4_resolve [mv_R 22 0, mv_I ty, mv_I q] M (Sum.inl (some (mv_I 0))) (th_ M 1) := by
  refine e_ev rfl rfl ?_
  refine e_run 3 rfl trivial ?_
  try simp only [rd_, up_, Nat.reduceEqDiff, reduceIte, and_self, and_true, true_and, and_false, false_and, if_true, if_false]
  refine e_calli rfl (rs_isAsked d M ty q) (by decide) ?_
  try simp only [rd_, up_, Nat.reduceEqDiff, reduceIte, and_self, and_true, true_and, and_false, false_and, if_true, if_false]
  refine e_if rfl (fun h6 => ?_) (fun h6 => absurd (by simp [hq]) h6)
  refine e_run 4 rfl trivial ?_
  try simp only [rd_, up_, Nat.reduceEqDiff, reduceIte, and_self, and_true, true_and, and_false, false_and, if_true, if_false]
  refine e_if rfl (fun h21 => absurd h21 (by decide)) (fun h21 => ?_)
  refine e_run 1 rfl trivial ?_
  try simp only [rd_, up_, Nat.reduceEqDiff, reduceIte, and_self, and_true, true_and, and_false, false_and, if_true, if_false]
  exact e_ret rfl trivial rfl rfl
