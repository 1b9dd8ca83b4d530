/-! OBTAINING -/
theorem rl_22 {n g : Nat} {C M : mv_M} {x : Int32} (h : rl_ n g C M) : rl_ n g C (mv_up M 22 0 30 x) := h
theorem sr_22 {n g o : Nat} {C M M2 : mv_M} {x : Int32} {r : Int32 × mv_M} (h : sr_ n g C (mv_up M 22 0 o x) r M2) : sr_ n g C M r M2 := by
  rcases h with ⟨h1, h2, h3, a1, a2, a3, a4, a5, a6⟩ | h
  · refine Or.inl ⟨h1, h2, h3, a1, a2, a3, a4, fun y i hy hi => (a5 y i hy hi).trans ?_, a6⟩
    rw [mv_up_ne (by omega)]
  · exact Or.inr h
theorem st_refl (g : Nat) (C M : mv_M) : st_ g C M C M := ⟨fun _ _ => rfl, fun _ _ => rfl, fun _ _ _ => rfl, sd_refl C, fun _ _ _ _ => rfl, fun _ _ => rfl⟩
theorem sr_fail {n g : Nat} {C M M1 : mv_M} {kind det : Int32} (h : rl_ n g C M1) (hk : ¬ kind = 0) : sr_ n g C M (rf_ C kind det g) (mv_up (mv_up M1 22 0 31 kind) 22 0 32 det) := by
  obtain ⟨hV, hD, ⟨t, e, l, hL, hK⟩, ⟨h1, h2, h3⟩, h4, -⟩ := h
  exact Or.inr ⟨rfl, kind, det, g, t, e, l, C, rfl, hL, hK, hD, hV, hk, rfl, rfl, h1, h2, h4, sd_refl C⟩
theorem sr_there {n g : Nat} {C M M1 : mv_M} {i : Nat} (hi : i < 2 ^ 31) (h : rl_ n g C M1) (hs : st_ g C M C M1) : sr_ n g C M (nI i, C) (mv_up M1 22 0 30 (nI i)) := by
  refine Or.inl ⟨fun q => nI_pos hi (by show nI i < 0; rw [show nI i = -2 from q]; decide), h, rfl, ?_⟩
  obtain ⟨a1, a2, a3, a4, a5, a6⟩ := hs
  refine ⟨a1, a2, a3, a4, fun y i hy hi => ?_, a6⟩
  rw [mv_up_ne (by omega)]
  exact a5 y i hy hi
theorem st_22 {g o : Nat} {C M : mv_M} {x : Int32} : st_ g C M C (mv_up M 22 0 o x) := ⟨fun _ _ => rfl, fun _ _ => rfl, fun _ _ _ => rfl, sd_refl C, fun y i hy hi => by rw [mv_up_ne (by omega)], fun _ _ => rfl⟩
theorem ll_22 (M : mv_M) (c : Nat) (sc x : Int32) : ∀ t : Nat, ll_ (mv_up M 22 0 30 x) c sc t = ll_ M c sc t
  | 0 => rfl
  | t + 1 => by
    unfold ll_
    rw [ll_22 M c sc x t]
    rfl
/-- from where the construction begins -/
theorem ob_con {n g c : Nat} {K : mK_} {C M : mv_M} {pl sc : Int32} (x : Int32) (hK : kc_ n g K) (hc : c < n) (hR : rl_ n g C M) (hp : pq_ C pl sc) (hf : ¬ pl = -1 → C 21 pl.toNatClampNeg c = -1) : ∃ M1, ev_ 2 kX4_construct [mv_R 22 0, mv_I (nI c), mv_I sc] (mv_up M 22 0 30 x) (Sum.inl none) M1 ∧ ∃ M2, rr_ M1 M2 ∧ sr_ n g C M (K c pl g C) M2 := by
  obtain ⟨k1, k2⟩ := hK c pl sc C M hc hR hp hf
  have hg := hR.2.2.2.1.1
  have h20 := hR.2.2.2.1.2.1
  have hff := rl_ff (c := c) (rl_22 (x := x) hR)
  cases hu : uc_ C c g 0 with
  | true =>
    refine ⟨_, rs_construct_f 1 g c (mv_up M 22 0 30 x) sc hg (by omega) (hff.trans hu), _, rr_refl _, ?_⟩
    rw [k1 hu]
    exact sr_fail (rl_22 hR) (by decide)
  | false =>
    obtain ⟨M2, h1, h2⟩ := k2 hu x
    exact ⟨_, rs_construct 1 g c (mv_up M 22 0 30 x) sc hg (by omega) (hff.trans hu), M2, h1, h2⟩
theorem ob_sim {n g c : Nat} {K : mK_} {C M : mv_M} (hK : kc_ n g K) (hc : c < n) (hR : rl_ n g C M) : ∃ M1, ev_ 4 kX4_obtain [mv_R 22 0, mv_I (nI c)] M (Sum.inl none) M1 ∧ ∃ M2, rr_ M1 M2 ∧ sr_ n g C M (mOb K c g C) M2 := by
  obtain ⟨hV, hD, ⟨t, e, l, hL, hKV⟩, -⟩ := id hR
  have h20 := hD.1.2.1
  have hof := rs_of 3 hD c 1 (by omega) (by omega)
  have h19 := hL.2.2.2.1.1
  have h12 := hL.2.2.1.1
  have h3 := hL.1.2.1
  obtain ⟨o, ho, ho5⟩ := hV.2.2.1
  rcases hV.2.2.2 c (by omega) with hsc | hsc | hsc
  · -- a singleton
    have hll := ll_kept (c := c) (s := 0) (sc := 0) hL hKV (by omega) (by omega) (Or.inl ⟨rfl, rfl⟩)
    have hob : mOb K c g C = if C 21 0 c = -1 then K c 0 g C else (C 21 0 c, C) := by
      unfold mOb pl_
      rw [if_neg (by rw [hsc]; decide), if_neg (by rw [hsc]; exact fun q => absurd q.1 (by decide)), if_pos hsc]
      rfl
    rw [hob]
    rw [hsc] at hof
    have hlv := rs_living 0 (mv_up M 22 0 30 (-1)) c 0 t h12 h3
    rw [ll_22, hll] at hlv
    rcases hKV 0 c (by omega) (by omega) with ⟨k1, -⟩ | ⟨i, k0, k1, -⟩
    · rw [k1] at hlv
      rw [if_pos k1]
      obtain ⟨M1, a1, a2⟩ := ob_con (-1) hK hc (rl_22 (x := -1) hR) (Or.inr (Or.inl ⟨rfl, rfl⟩)) (fun _ => k1)
      obtain ⟨M2, a3, a4⟩ := a2
      refine ⟨M1, ?_, M2, a3, sr_22 a4⟩
      refine e_ev rfl rfl ?_
      refine e_run 3 rfl trivial ?_
      refine e_calli rfl (hof) (by decide) ?_
      refine e_run 6 rfl trivial ?_
      refine e_if rfl (fun h14 => ?_) (fun h14 => absurd h14 (by decide))
      refine e_run 3 rfl trivial ?_
      refine e_if rfl (fun h34 => ?_) (fun h34 => absurd h34 (by decide))
      refine e_run 3 rfl trivial ?_
      refine e_calli rfl (ev_le hlv (by omega)) (by decide) ?_
      refine e_run 3 rfl trivial ?_
      refine e_if rfl (fun h54 => absurd h54 (by show ¬ (0 : Int32) ≤ -1; decide)) (fun h54 => ?_)
      refine e_run 3 rfl trivial ?_
      refine e_callv rfl (ev_le a1 (by omega)) (by decide) ?_
      exact e_ret rfl trivial rfl rfl
    · have hne : ¬ C 21 0 c = -1 := fun q => nI_pos (n := i) (by omega) (by rw [← k1, q]; decide)
      rw [k1] at hlv
      rw [if_neg hne, k1]
      refine ⟨mv_up (mv_up M 22 0 30 (-1)) 22 0 30 (nI i), ?_, _, rr_refl _, sr_there (by omega) (rl_22 hR) st_22⟩
      refine e_ev rfl rfl ?_
      refine e_run 3 rfl trivial ?_
      refine e_calli rfl (hof) (by decide) ?_
      refine e_run 6 rfl trivial ?_
      refine e_if rfl (fun h14 => ?_) (fun h14 => absurd h14 (by decide))
      refine e_run 3 rfl trivial ?_
      refine e_if rfl (fun h34 => ?_) (fun h34 => absurd h34 (by decide))
      refine e_run 3 rfl trivial ?_
      refine e_calli rfl (ev_le hlv (by omega)) (by decide) ?_
      refine e_run 3 rfl trivial ?_
      refine e_if rfl (fun h54 => ?_) (fun h54 => absurd (by show (0 : Int32) ≤ nI i; exact Int32.not_lt.mp (nI_pos (by omega))) h54)
      exact e_ret rfl trivial rfl rfl
  · -- a prototype
    have hob : mOb K c g C = K c (-1) g C := by
      unfold mOb
      rw [if_pos hsc]
    rw [hob]
    rw [hsc] at hof
    obtain ⟨M1, a1, a2⟩ := ob_con (-1) hK hc (rl_22 (x := -1) hR) (Or.inl ⟨rfl, rfl⟩) (fun q => absurd rfl q)
    obtain ⟨M2, a3, a4⟩ := a2
    refine ⟨M1, ?_, M2, a3, sr_22 a4⟩
    refine e_ev rfl rfl ?_
    refine e_run 3 rfl trivial ?_
    refine e_calli rfl (hof) (by decide) ?_
    refine e_run 6 rfl trivial ?_
    refine e_if rfl (fun h14 => ?_) (fun h14 => absurd h14 (by decide))
    refine e_run 3 rfl trivial ?_
    refine e_if rfl (fun h34 => absurd rfl h34) (fun h34 => ?_)
    refine e_run 5 rfl trivial ?_
    refine e_if rfl (fun h54 => absurd h54 (by show ¬ (0 : Int32) ≤ -1; decide)) (fun h54 => ?_)
    refine e_run 3 rfl trivial ?_
    refine e_callv rfl (ev_le a1 (by omega)) (by decide) ?_
    exact e_ret rfl trivial rfl rfl
  · -- a scoped one
    rw [hsc] at hof
    cases o with
    | zero =>
      have hob : mOb K c g C = rf_ C 4 (nI c) g := by
        unfold mOb
        rw [if_neg (by rw [hsc]; decide), if_pos ⟨hsc, ho⟩]
      rw [hob]
      refine ⟨_, ?_, _, rr_refl _, sr_fail (rl_22 (x := -1) hR) (by decide)⟩
      have hop : M 22 0 19 = 0 := h19.trans ho
      refine e_ev rfl rfl ?_
      refine e_run 3 rfl trivial ?_
      try simp only [rd_, up_, Nat.reduceEqDiff, reduceIte, and_self, and_true, true_and, and_false, false_and, if_true, if_false, hop]
      refine e_calli rfl (hof) (by decide) ?_
      try simp only [rd_, up_, Nat.reduceEqDiff, reduceIte, and_self, and_true, true_and, and_false, false_and, if_true, if_false, hop]
      refine e_run 6 rfl trivial ?_
      try simp only [rd_, up_, Nat.reduceEqDiff, reduceIte, and_self, and_true, true_and, and_false, false_and, if_true, if_false, hop]
      refine e_if rfl (fun h14 => absurd rfl h14) (fun h14 => ?_)
      refine e_run 2 rfl trivial ?_
      try simp only [rd_, up_, Nat.reduceEqDiff, reduceIte, and_self, and_true, true_and, and_false, false_and, if_true, if_false, hop]
      refine e_if rfl (fun h21 => absurd rfl h21) (fun h21 => ?_)
      refine e_run 3 rfl trivial ?_
      try simp only [rd_, up_, Nat.reduceEqDiff, reduceIte, and_self, and_true, true_and, and_false, false_and, if_true, if_false, hop]
      refine e_callv rfl (ev_le (rs_fail 0 _ 4 (nI c)) (by omega)) (by decide) ?_
      try simp only [rd_, up_, Nat.reduceEqDiff, reduceIte, and_self, and_true, true_and, and_false, false_and, if_true, if_false, hop]
      exact e_ret rfl trivial rfl rfl
    | succ s =>
      have hll := ll_kept (c := c) (s := s + 1) (sc := 2) hL hKV (by omega) (by omega) (Or.inr ⟨by omega, ho, rfl⟩)
      have hne0 : ¬ nI (s + 1) = 0 := fun q => absurd (nI_inj (b := 0) (by omega) (by omega) q) (by omega)
      have hop : M 22 0 19 = nI (s + 1) := h19.trans ho
      have hob : mOb K c g C = if C 21 (s + 1) c = -1 then K c (nI (s + 1)) g C else (C 21 (s + 1) c, C) := by
        have hpl : pl_ C c = nI (s + 1) := by
          unfold pl_
          rw [if_neg (by rw [hsc]; decide), ho]
        have hcl : (nI (s + 1)).toNatClampNeg = s + 1 := nI_clamp (by omega)
        unfold mOb
        rw [if_neg (by rw [hsc]; decide), if_neg (fun q => hne0 (ho.symm.trans q.2)), hpl, hcl]
      rw [hob]
      have hlv := rs_living 0 (mv_up M 22 0 30 (-1)) c 2 t h12 h3
      rw [ll_22, hll] at hlv
      rcases hKV (s + 1) c (by omega) (by omega) with ⟨k1, -⟩ | ⟨i, k0, k1, -⟩
      · rw [k1] at hlv
        rw [if_pos k1]
        obtain ⟨M1, a1, a2⟩ := ob_con (-1) hK hc (rl_22 (x := -1) hR) (Or.inr (Or.inr ⟨s, by omega, rfl, ho, rfl⟩)) (fun _ => by rw [nI_clamp (by omega)]; exact k1)
        obtain ⟨M2, a3, a4⟩ := a2
        refine ⟨M1, ?_, M2, a3, sr_22 a4⟩
        refine e_ev rfl rfl ?_
        refine e_run 3 rfl trivial ?_
        try simp only [rd_, up_, Nat.reduceEqDiff, reduceIte, and_self, and_true, true_and, and_false, false_and, if_true, if_false, hop]
        refine e_calli rfl (hof) (by decide) ?_
        try simp only [rd_, up_, Nat.reduceEqDiff, reduceIte, and_self, and_true, true_and, and_false, false_and, if_true, if_false, hop]
        refine e_run 6 rfl trivial ?_
        try simp only [rd_, up_, Nat.reduceEqDiff, reduceIte, and_self, and_true, true_and, and_false, false_and, if_true, if_false, hop]
        refine e_if rfl (fun h14 => absurd rfl h14) (fun h14 => ?_)
        refine e_run 2 rfl trivial ?_
        try simp only [rd_, up_, Nat.reduceEqDiff, reduceIte, and_self, and_true, true_and, and_false, false_and, if_true, if_false, hop]
        refine e_if rfl (fun h21 => ?_) (fun h21 => absurd h21 hne0)
        refine e_run 3 rfl trivial ?_
        try simp only [rd_, up_, Nat.reduceEqDiff, reduceIte, and_self, and_true, true_and, and_false, false_and, if_true, if_false, hop]
        refine e_if rfl (fun h34 => ?_) (fun h34 => absurd h34 (by decide))
        refine e_run 3 rfl trivial ?_
        try simp only [rd_, up_, Nat.reduceEqDiff, reduceIte, and_self, and_true, true_and, and_false, false_and, if_true, if_false, hop]
        refine e_calli rfl (ev_le hlv (by omega)) (by decide) ?_
        try simp only [rd_, up_, Nat.reduceEqDiff, reduceIte, and_self, and_true, true_and, and_false, false_and, if_true, if_false, hop]
        refine e_run 3 rfl trivial ?_
        try simp only [rd_, up_, Nat.reduceEqDiff, reduceIte, and_self, and_true, true_and, and_false, false_and, if_true, if_false, hop]
        refine e_if rfl (fun h54 => absurd h54 (by show ¬ (0 : Int32) ≤ -1; decide)) (fun h54 => ?_)
        refine e_run 3 rfl trivial ?_
        try simp only [rd_, up_, Nat.reduceEqDiff, reduceIte, and_self, and_true, true_and, and_false, false_and, if_true, if_false, hop]
        refine e_callv rfl (ev_le a1 (by omega)) (by decide) ?_
        try simp only [rd_, up_, Nat.reduceEqDiff, reduceIte, and_self, and_true, true_and, and_false, false_and, if_true, if_false, hop]
        exact e_ret rfl trivial rfl rfl
      · have hne : ¬ C 21 (s + 1) c = -1 := fun q => nI_pos (n := i) (by omega) (by rw [← k1, q]; decide)
        rw [k1] at hlv
        rw [if_neg hne, k1]
        refine ⟨mv_up (mv_up M 22 0 30 (-1)) 22 0 30 (nI i), ?_, _, rr_refl _, sr_there (by omega) (rl_22 hR) st_22⟩
        refine e_ev rfl rfl ?_
        refine e_run 3 rfl trivial ?_
        try simp only [rd_, up_, Nat.reduceEqDiff, reduceIte, and_self, and_true, true_and, and_false, false_and, if_true, if_false, hop]
        refine e_calli rfl (hof) (by decide) ?_
        try simp only [rd_, up_, Nat.reduceEqDiff, reduceIte, and_self, and_true, true_and, and_false, false_and, if_true, if_false, hop]
        refine e_run 6 rfl trivial ?_
        try simp only [rd_, up_, Nat.reduceEqDiff, reduceIte, and_self, and_true, true_and, and_false, false_and, if_true, if_false, hop]
        refine e_if rfl (fun h14 => absurd rfl h14) (fun h14 => ?_)
        refine e_run 2 rfl trivial ?_
        try simp only [rd_, up_, Nat.reduceEqDiff, reduceIte, and_self, and_true, true_and, and_false, false_and, if_true, if_false, hop]
        refine e_if rfl (fun h21 => ?_) (fun h21 => absurd h21 hne0)
        refine e_run 3 rfl trivial ?_
        try simp only [rd_, up_, Nat.reduceEqDiff, reduceIte, and_self, and_true, true_and, and_false, false_and, if_true, if_false, hop]
        refine e_if rfl (fun h34 => ?_) (fun h34 => absurd h34 (by decide))
        refine e_run 3 rfl trivial ?_
        try simp only [rd_, up_, Nat.reduceEqDiff, reduceIte, and_self, and_true, true_and, and_false, false_and, if_true, if_false, hop]
        refine e_calli rfl (ev_le hlv (by omega)) (by decide) ?_
        try simp only [rd_, up_, Nat.reduceEqDiff, reduceIte, and_self, and_true, true_and, and_false, false_and, if_true, if_false, hop]
        refine e_run 3 rfl trivial ?_
        try simp only [rd_, up_, Nat.reduceEqDiff, reduceIte, and_self, and_true, true_and, and_false, false_and, if_true, if_false, hop]
        refine e_if rfl (fun h54 => ?_) (fun h54 => absurd (by show (0 : Int32) ≤ nI i; exact Int32.not_lt.mp (nI_pos (by omega))) h54)
        exact e_ret rfl trivial rfl rfl
