/-! PROVIDE AND START -/
/-- a LATER dependency -/
def la_ (C : mv_M) (c : Nat) (x : Int32) : Bool := decide ((¬ x < 0 ∧ x < C 8 0 c) ∧ C 20 c (3 * x.toNatClampNeg + 2) = 3)
theorem rs_isLater (d n c : Nat) {C M : mv_M} (hD : dr_ C M n) (hc : c < 20) (x : Int32) : ev_ (d + 1) kX4_isLater [mv_R 22 0, mv_I (nI c), mv_I x] M (Sum.inl (some (mv_I (if la_ C c x = true then 1 else 0)))) M := by
  obtain ⟨hk, hk6⟩ := hD.1.2.2 c hc
  have hk4 : M 24 0 c = nI (dc_ C c) := (hD.2.2.2.2.1 c hc).trans hk
  have hcl : (nI c).toNatClampNeg = c := nI_clamp (by omega)
  have hbc := bw_cm (n := dc_ C c) (by omega) x
  have hin := rs_in d M x 0 (nI (dc_ C c) - 1)
  rw [hbc] at hin
  refine e_ev rfl rfl ?_
  cases hq : cm_ (dc_ C c) x with
  | true =>
    rw [hq] at hin
    obtain ⟨j, hj, rfl⟩ := cm_t (by omega) hq
    have hjl : (nI j).toNatClampNeg = j := nI_clamp (by omega)
    have hyes : ¬ nI j < 0 ∧ nI j < C 8 0 c := ⟨nI_pos (by omega), by rw [hk]; exact nI_lt hj (by omega)⟩
    refine e_run 8 rfl ?_ ?_
    · ((try simp only [hcl, hk4]) <;> and_intros <;> first | trivial | exact in_n (by omega) (by omega) | omega | (unfold vp_in; decide) | (simp only [*]; omega))
    try simp only [hcl, hk4]
    refine e_calli rfl (hin) (by decide) ?_
    try simp only [hcl, hk4]
    refine e_if rfl (fun h13 => absurd h13 (by decide)) (fun h13 => ?_)
    refine e_run 4 rfl trivial ?_
    try simp only [hcl, hk4]
    refine e_calli rfl (rs_dependAt d hD c j 2 hc (by omega) (by omega)) (by decide) ?_
    try simp only [hcl, hk4]
    refine e_run 1 rfl trivial ?_
    try simp only [hcl, hk4]
    refine e_if rfl (fun h24 => ?_) (fun h24 => ?_)
    · refine e_run 1 rfl trivial ?_
      try simp only [hcl, hk4]
      first
        | (rw [if_pos (show la_ C c (nI j) = true from decide_eq_true ⟨hyes, by rw [hjl]; exact h24⟩)]; exact e_ret rfl (Or.inr rfl) rfl rfl)
        | (rw [if_neg (show ¬ la_ C c (nI j) = true from fun q => h24 (by have := (of_decide_eq_true q).2; rw [hjl] at this; exact this))]; exact e_ret rfl (Or.inl rfl) rfl rfl)
    · refine e_run 2 rfl trivial ?_
      try simp only [hcl, hk4]
      first
        | (rw [if_pos (show la_ C c (nI j) = true from decide_eq_true ⟨hyes, by rw [hjl]; exact h24⟩)]; exact e_ret rfl (Or.inr rfl) rfl rfl)
        | (rw [if_neg (show ¬ la_ C c (nI j) = true from fun q => h24 (by have := (of_decide_eq_true q).2; rw [hjl] at this; exact this))]; exact e_ret rfl (Or.inl rfl) rfl rfl)
  | false =>
    rw [hq] at hin
    have hno : ¬ la_ C c x = true := fun q => by
      have h1 := (of_decide_eq_true q).1
      rw [hk] at h1
      unfold cm_ at hq
      rw [decide_eq_false h1.1, decide_eq_true h1.2] at hq
      cases hq
    rw [if_neg hno]
    refine e_run 8 rfl ?_ ?_
    · ((try simp only [hcl, hk4]) <;> and_intros <;> first | trivial | exact in_n (by omega) (by omega) | omega | (unfold vp_in; decide) | (simp only [*]; omega))
    try simp only [hcl, hk4]
    refine e_calli rfl (hin) (by decide) ?_
    try simp only [hcl, hk4]
    refine e_if rfl (fun h13 => ?_) (fun h13 => absurd rfl h13)
    refine e_run 1 rfl trivial ?_
    try simp only [hcl, hk4]
    exact e_ret rfl (Or.inl rfl) rfl rfl
/-- provide: what the reference answers -/
theorem rp_provide {n t e l a c : Nat} {C M : mv_M} (h : rw_ n t e l C M) (ha : a < t) (hca : C 9 0 a = nI c) (hc : c < 20) (x : Int32) : ∃ M2 t2 e2 l2, rw_ n t2 e2 l2 (pd_ n C c a x).2 M2 ∧ ((∃ y, (pd_ n C c a x).1 = Sum.inl (some (mv_I y)) ∧ M2 22 0 0 = 0 ∧ ev_ 11 kX4_provide [mv_R 22 0, mv_I (nI a), mv_I x] M (Sum.inl (some (mv_I y))) M2) ∨ ((pd_ n C c a x).1 = Sum.inr 0 ∧ M2 22 0 0 = 2 ∧ ev_ 11 kX4_provide [mv_R 22 0, mv_I (nI a), mv_I x] M (Sum.inl (some (mv_I 0))) M2) ∨ ((pd_ n C c a x).1 = Sum.inr 1 ∧ M2 22 0 0 = 3 ∧ ev_ 11 kX4_provide [mv_R 22 0, mv_I (nI a), mv_I x] M (Sum.inl (some (mv_I 0))) M2)) := by
  have hL := h.2.2.1
  have hD := h.2.1
  have h3 := hL.1.2.1
  have hcm := cm_nI (n := t) (by omega) ha
  have hal : (nI a).toNatClampNeg = a := nI_clamp (by omega)
  have h30 : M 30 0 a = nI c := (hL.2.2.2.2.2.2.2 a ha).1.trans hca
  have h33 := (hL.2.2.2.2.2.2.2 a ha).2.1
  have hin := ev_le (d' := 10) (rs_isInstance 0 hL (nI a)) (by omega)
  rw [hcm] at hin
  have hlt := ev_le (d' := 10) (rs_isLater 0 n c hD hc x) (by omega)
  by_cases hl : (¬ x < 0 ∧ x < C 8 0 c) ∧ C 20 c (3 * x.toNatClampNeg + 2) = 3
  · rw [show la_ C c x = true from decide_eq_true hl] at hlt
    obtain ⟨hk, hk6⟩ := hD.1.2.2 c hc
    obtain ⟨j, hj, rfl⟩ := nI_of hl.1.1
    have hjl : (nI j).toNatClampNeg = j := nI_clamp hj
    have hjk : j < dc_ C c := (nI_ltI hj (by omega)).mp (hk ▸ hl.1.2)
    have hno : ¬ (¬ (¬ nI j < 0 ∧ nI j < C 8 0 c) ∨ ¬ C 20 c (3 * (nI j).toNatClampNeg + 2) = 3) := fun q => q.elim (fun r => r hl.1) (fun r => r hl.2)
    by_cases hv : C 11 0 a = 0
    · have h33 : M 33 0 a = 0 := h33.trans hv
      rw [show pd_ n C c a (nI j) = (Sum.inr 1, C) by rw [pd_, if_neg hno, if_pos hv]]
      refine ⟨th_ M 3, t, e, l, h, Or.inr (Or.inr ⟨rfl, rfl, ?_⟩)⟩
      refine e_ev rfl rfl ?_
      refine e_run 3 rfl trivial ?_
      try simp only [rd_, up_, Nat.reduceEqDiff, reduceIte, and_self, and_true, true_and, and_false, false_and, if_true, if_false, hal, h30, h33]
      refine e_calli rfl (hin) (by decide) ?_
      try simp only [rd_, up_, Nat.reduceEqDiff, reduceIte, and_self, and_true, true_and, and_false, false_and, if_true, if_false, hal, h30, h33]
      refine e_if rfl (fun h6 => ?_) (fun h6 => absurd h6 (by decide))
      refine e_run 6 rfl ?_ ?_
      · ((try simp only [rd_, up_, Nat.reduceEqDiff, reduceIte, and_self, and_true, true_and, and_false, false_and, if_true, if_false, hal, h30, h33]) <;> and_intros <;> first | trivial | exact in_n (by omega) (by omega) | omega | (unfold vp_in; decide) | (simp only [*]; omega))
      try simp only [rd_, up_, Nat.reduceEqDiff, reduceIte, and_self, and_true, true_and, and_false, false_and, if_true, if_false, hal, h30, h33]
      refine e_calli rfl (hlt) (by decide) ?_
      try simp only [rd_, up_, Nat.reduceEqDiff, reduceIte, and_self, and_true, true_and, and_false, false_and, if_true, if_false, hal, h30, h33]
      refine e_if rfl (fun h24 => ?_) (fun h24 => absurd h24 (by decide))
      refine e_run 4 rfl ?_ ?_
      · ((try simp only [rd_, up_, Nat.reduceEqDiff, reduceIte, and_self, and_true, true_and, and_false, false_and, if_true, if_false, hal, h30, h33]) <;> and_intros <;> first | trivial | exact in_n (by omega) (by omega) | omega | (unfold vp_in; decide) | (simp only [*]; omega))
      try simp only [rd_, up_, Nat.reduceEqDiff, reduceIte, and_self, and_true, true_and, and_false, false_and, if_true, if_false, hal, h30, h33]
      refine e_if rfl (fun h37 => absurd rfl h37) (fun h37 => ?_)
      refine e_run 5 rfl trivial ?_
      try simp only [rd_, up_, Nat.reduceEqDiff, reduceIte, and_self, and_true, true_and, and_false, false_and, if_true, if_false, hal, h30, h33]
      refine e_if rfl (fun h52 => absurd h52 (by decide)) (fun h52 => ?_)
      refine e_run 1 rfl trivial ?_
      try simp only [rd_, up_, Nat.reduceEqDiff, reduceIte, and_self, and_true, true_and, and_false, false_and, if_true, if_false, hal, h30, h33]
      exact e_ret rfl trivial rfl rfl
    · have hpd : pd_ n C c a (nI j) = rt_ n C (C 20 c (3 * j)) (C 20 c (3 * j + 1)) := by rw [pd_, if_neg hno, if_neg hv, hjl]
      have hvm : ¬ M 33 0 a = 0 := by rw [h33]; exact hv
      obtain ⟨M2, t2, e2, l2, a1, a2⟩ := rq_sim (rw_th (k := 0) h) (C 20 c (3 * j)) (C 20 c (3 * j + 1))
      have hd0 := ev_le (d' := 10) (rs_dependAt 0 (dr_th (k := 0) hD) c j 0 hc (by omega) (by omega)) (by omega)
      have hd1 := ev_le (d' := 10) (rs_dependAt 0 (dr_th (k := 0) hD) c j 1 hc (by omega) (by omega)) (by omega)
      rw [hpd]
      rcases a2 with ⟨y, b1, b2, b3⟩ | ⟨b1, b2⟩
      · refine ⟨th_ M2 0, t2, e2, l2, a1, Or.inl ⟨y, b1, rfl, ?_⟩⟩
        refine e_ev rfl rfl ?_
        refine e_run 3 rfl trivial ?_
        try simp only [rd_, up_, Nat.reduceEqDiff, reduceIte, and_self, and_true, true_and, and_false, false_and, if_true, if_false, hal, h30]
        refine e_calli rfl (hin) (by decide) ?_
        try simp only [rd_, up_, Nat.reduceEqDiff, reduceIte, and_self, and_true, true_and, and_false, false_and, if_true, if_false, hal, h30]
        refine e_if rfl (fun h6 => ?_) (fun h6 => absurd h6 (by decide))
        refine e_run 6 rfl ?_ ?_
        · ((try simp only [rd_, up_, Nat.reduceEqDiff, reduceIte, and_self, and_true, true_and, and_false, false_and, if_true, if_false, hal, h30]) <;> and_intros <;> first | trivial | exact in_n (by omega) (by omega) | omega | (unfold vp_in; decide) | (simp only [*]; omega))
        try simp only [rd_, up_, Nat.reduceEqDiff, reduceIte, and_self, and_true, true_and, and_false, false_and, if_true, if_false, hal, h30]
        refine e_calli rfl (hlt) (by decide) ?_
        try simp only [rd_, up_, Nat.reduceEqDiff, reduceIte, and_self, and_true, true_and, and_false, false_and, if_true, if_false, hal, h30]
        refine e_if rfl (fun h24 => ?_) (fun h24 => absurd h24 (by decide))
        refine e_run 4 rfl ?_ ?_
        · ((try simp only [rd_, up_, Nat.reduceEqDiff, reduceIte, and_self, and_true, true_and, and_false, false_and, if_true, if_false, hal, h30]) <;> and_intros <;> first | trivial | exact in_n (by omega) (by omega) | omega | (unfold vp_in; decide) | (simp only [*]; omega))
        try simp only [rd_, up_, Nat.reduceEqDiff, reduceIte, and_self, and_true, true_and, and_false, false_and, if_true, if_false, hal, h30]
        refine e_if rfl (fun h37 => ?_) (fun h37 => absurd h37 hvm)
        refine e_run 4 rfl trivial ?_
        try simp only [rd_, up_, Nat.reduceEqDiff, reduceIte, and_self, and_true, true_and, and_false, false_and, if_true, if_false, hal, h30]
        refine e_if rfl (fun h52 => ?_) (fun h52 => absurd rfl h52)
        refine e_run 10 rfl ?_ ?_
        · ((try simp only [rd_, up_, Nat.reduceEqDiff, reduceIte, and_self, and_true, true_and, and_false, false_and, if_true, if_false, hal, h30]) <;> and_intros <;> first | trivial | exact in_n (by omega) (by omega) | omega | (unfold vp_in; decide) | (simp only [*]; omega))
        try simp only [rd_, up_, Nat.reduceEqDiff, reduceIte, and_self, and_true, true_and, and_false, false_and, if_true, if_false, hal, h30]
        refine e_calli rfl (hd0) (by decide) ?_
        try simp only [rd_, up_, Nat.reduceEqDiff, reduceIte, and_self, and_true, true_and, and_false, false_and, if_true, if_false, hal, h30]
        refine e_run 4 rfl trivial ?_
        try simp only [rd_, up_, Nat.reduceEqDiff, reduceIte, and_self, and_true, true_and, and_false, false_and, if_true, if_false, hal, h30]
        refine e_calli rfl (hd1) (by decide) ?_
        try simp only [rd_, up_, Nat.reduceEqDiff, reduceIte, and_self, and_true, true_and, and_false, false_and, if_true, if_false, hal, h30]
        refine e_calli rfl (b3) (by decide) ?_
        try simp only [rd_, up_, Nat.reduceEqDiff, reduceIte, and_self, and_true, true_and, and_false, false_and, if_true, if_false, hal, h30]
        refine e_run 3 rfl trivial ?_
        try simp only [rd_, up_, Nat.reduceEqDiff, reduceIte, and_self, and_true, true_and, and_false, false_and, if_true, if_false, hal, h30]
        refine e_if rfl (fun h87 => ?_) (fun h87 => absurd (Int32.not_lt.mp b2) h87)
        refine e_run 4 rfl trivial ?_
        try simp only [rd_, up_, Nat.reduceEqDiff, reduceIte, and_self, and_true, true_and, and_false, false_and, if_true, if_false, hal, h30]
        refine e_if rfl (fun h102 => ?_) (fun h102 => absurd rfl h102)
        refine e_run 1 rfl trivial ?_
        try simp only [rd_, up_, Nat.reduceEqDiff, reduceIte, and_self, and_true, true_and, and_false, false_and, if_true, if_false, hal, h30]
        exact e_ret rfl trivial rfl rfl
      · refine ⟨th_ M2 3, t2, e2, l2, a1, Or.inr (Or.inr ⟨b1, rfl, ?_⟩)⟩
        refine e_ev rfl rfl ?_
        refine e_run 3 rfl trivial ?_
        try simp only [rd_, up_, Nat.reduceEqDiff, reduceIte, and_self, and_true, true_and, and_false, false_and, if_true, if_false, hal, h30]
        refine e_calli rfl (hin) (by decide) ?_
        try simp only [rd_, up_, Nat.reduceEqDiff, reduceIte, and_self, and_true, true_and, and_false, false_and, if_true, if_false, hal, h30]
        refine e_if rfl (fun h6 => ?_) (fun h6 => absurd h6 (by decide))
        refine e_run 6 rfl ?_ ?_
        · ((try simp only [rd_, up_, Nat.reduceEqDiff, reduceIte, and_self, and_true, true_and, and_false, false_and, if_true, if_false, hal, h30]) <;> and_intros <;> first | trivial | exact in_n (by omega) (by omega) | omega | (unfold vp_in; decide) | (simp only [*]; omega))
        try simp only [rd_, up_, Nat.reduceEqDiff, reduceIte, and_self, and_true, true_and, and_false, false_and, if_true, if_false, hal, h30]
        refine e_calli rfl (hlt) (by decide) ?_
        try simp only [rd_, up_, Nat.reduceEqDiff, reduceIte, and_self, and_true, true_and, and_false, false_and, if_true, if_false, hal, h30]
        refine e_if rfl (fun h24 => ?_) (fun h24 => absurd h24 (by decide))
        refine e_run 4 rfl ?_ ?_
        · ((try simp only [rd_, up_, Nat.reduceEqDiff, reduceIte, and_self, and_true, true_and, and_false, false_and, if_true, if_false, hal, h30]) <;> and_intros <;> first | trivial | exact in_n (by omega) (by omega) | omega | (unfold vp_in; decide) | (simp only [*]; omega))
        try simp only [rd_, up_, Nat.reduceEqDiff, reduceIte, and_self, and_true, true_and, and_false, false_and, if_true, if_false, hal, h30]
        refine e_if rfl (fun h37 => ?_) (fun h37 => absurd h37 hvm)
        refine e_run 4 rfl trivial ?_
        try simp only [rd_, up_, Nat.reduceEqDiff, reduceIte, and_self, and_true, true_and, and_false, false_and, if_true, if_false, hal, h30]
        refine e_if rfl (fun h52 => ?_) (fun h52 => absurd rfl h52)
        refine e_run 10 rfl ?_ ?_
        · ((try simp only [rd_, up_, Nat.reduceEqDiff, reduceIte, and_self, and_true, true_and, and_false, false_and, if_true, if_false, hal, h30]) <;> and_intros <;> first | trivial | exact in_n (by omega) (by omega) | omega | (unfold vp_in; decide) | (simp only [*]; omega))
        try simp only [rd_, up_, Nat.reduceEqDiff, reduceIte, and_self, and_true, true_and, and_false, false_and, if_true, if_false, hal, h30]
        refine e_calli rfl (hd0) (by decide) ?_
        try simp only [rd_, up_, Nat.reduceEqDiff, reduceIte, and_self, and_true, true_and, and_false, false_and, if_true, if_false, hal, h30]
        refine e_run 4 rfl trivial ?_
        try simp only [rd_, up_, Nat.reduceEqDiff, reduceIte, and_self, and_true, true_and, and_false, false_and, if_true, if_false, hal, h30]
        refine e_calli rfl (hd1) (by decide) ?_
        try simp only [rd_, up_, Nat.reduceEqDiff, reduceIte, and_self, and_true, true_and, and_false, false_and, if_true, if_false, hal, h30]
        refine e_calli rfl (b2) (by decide) ?_
        try simp only [rd_, up_, Nat.reduceEqDiff, reduceIte, and_self, and_true, true_and, and_false, false_and, if_true, if_false, hal, h30]
        refine e_run 3 rfl trivial ?_
        try simp only [rd_, up_, Nat.reduceEqDiff, reduceIte, and_self, and_true, true_and, and_false, false_and, if_true, if_false, hal, h30]
        refine e_if rfl (fun h87 => absurd h87 (by decide)) (fun h87 => ?_)
        refine e_run 5 rfl trivial ?_
        try simp only [rd_, up_, Nat.reduceEqDiff, reduceIte, and_self, and_true, true_and, and_false, false_and, if_true, if_false, hal, h30]
        refine e_if rfl (fun h102 => absurd h102 (by decide)) (fun h102 => ?_)
        refine e_run 2 rfl trivial ?_
        try simp only [rd_, up_, Nat.reduceEqDiff, reduceIte, and_self, and_true, true_and, and_false, false_and, if_true, if_false, hal, h30]
        exact e_ret rfl trivial rfl rfl
  · rw [show la_ C c x = false from decide_eq_false hl] at hlt
    have hno : ¬ (¬ x < 0 ∧ x < C 8 0 c) ∨ ¬ C 20 c (3 * x.toNatClampNeg + 2) = 3 := by
      by_cases q : ¬ x < 0 ∧ x < C 8 0 c
      · exact Or.inr (fun r => hl ⟨q, r⟩)
      · exact Or.inl q
    rw [show pd_ n C c a x = (Sum.inr 0, C) by rw [pd_, if_pos hno]]
    refine ⟨th_ M 2, t, e, l, h, Or.inr (Or.inl ⟨rfl, rfl, ?_⟩)⟩
    refine e_ev rfl rfl ?_
    refine e_run 3 rfl trivial ?_
    try simp only [rd_, up_, Nat.reduceEqDiff, reduceIte, and_self, and_true, true_and, and_false, false_and, if_true, if_false, hal, h30]
    refine e_calli rfl (hin) (by decide) ?_
    try simp only [rd_, up_, Nat.reduceEqDiff, reduceIte, and_self, and_true, true_and, and_false, false_and, if_true, if_false, hal, h30]
    refine e_if rfl (fun h6 => ?_) (fun h6 => absurd h6 (by decide))
    refine e_run 6 rfl ?_ ?_
    · ((try simp only [rd_, up_, Nat.reduceEqDiff, reduceIte, and_self, and_true, true_and, and_false, false_and, if_true, if_false, hal, h30]) <;> and_intros <;> first | trivial | exact in_n (by omega) (by omega) | omega | (unfold vp_in; decide) | (simp only [*]; omega))
    try simp only [rd_, up_, Nat.reduceEqDiff, reduceIte, and_self, and_true, true_and, and_false, false_and, if_true, if_false, hal, h30]
    refine e_calli rfl (hlt) (by decide) ?_
    try simp only [rd_, up_, Nat.reduceEqDiff, reduceIte, and_self, and_true, true_and, and_false, false_and, if_true, if_false, hal, h30]
    refine e_if rfl (fun h24 => absurd rfl h24) (fun h24 => ?_)
    refine e_run 5 rfl trivial ?_
    try simp only [rd_, up_, Nat.reduceEqDiff, reduceIte, and_self, and_true, true_and, and_false, false_and, if_true, if_false, hal, h30]
    refine e_if rfl (fun h52 => absurd h52 (by decide)) (fun h52 => ?_)
    refine e_run 1 rfl trivial ?_
    try simp only [rd_, up_, Nat.reduceEqDiff, reduceIte, and_self, and_true, true_and, and_false, false_and, if_true, if_false, hal, h30]
    exact e_ret rfl trivial rfl rfl
theorem rp_provide_x (d : Nat) {C M : mv_M} {t e l : Nat} (x y : Int32) (hL : lr_ C M t e l) (h : cm_ t x = false) : ev_ (d + 2) kX4_provide [mv_R 22 0, mv_I x, mv_I y] M (Sum.inl (some (mv_I 0))) (th_ M 1) := by
  refine e_ev rfl rfl ?_
  refine e_run 3 rfl trivial ?_
  try simp only [rd_, up_, Nat.reduceEqDiff, reduceIte, and_self, and_true, true_and, and_false, false_and, if_true, if_false]
  refine e_calli rfl (rs_isInstance d hL x) (by decide) ?_
  try simp only [rd_, up_, Nat.reduceEqDiff, reduceIte, and_self, and_true, true_and, and_false, false_and, if_true, if_false]
  refine e_if rfl (fun h6 => absurd (by simp [h]) h6) (fun h6 => ?_)
  refine e_run 5 rfl trivial ?_
  try simp only [rd_, up_, Nat.reduceEqDiff, reduceIte, and_self, and_true, true_and, and_false, false_and, if_true, if_false]
  refine e_if rfl (fun h52 => absurd h52 (by decide)) (fun h52 => ?_)
  refine e_run 1 rfl trivial ?_
  try simp only [rd_, up_, Nat.reduceEqDiff, reduceIte, and_self, and_true, true_and, and_false, false_and, if_true, if_false]
  exact e_ret rfl trivial rfl rfl
theorem lp_rstart {n t0 : Nat} (h0 : t0 ≤ 300) : ∀ (m c : Nat) (C M : mv_M), c + m = n → rl_ n 0 C M → ∃ M2 t e l, rw_ n t e l (mSt n (nI t0) m c C).2 M2 ∧ ((∃ x, (mSt n (nI t0) m c C).1 = Sum.inl (some (mv_I x)) ∧ M2 22 0 0 = 0 ∧ er_ 11 0 kX4_start (11, [some (mv_R 22 0), some (mv_I (nI t0)), some (mv_I (nI c))], [], M) (Sum.inl (some (mv_I x))) M2) ∨ ((mSt n (nI t0) m c C).1 = Sum.inr 1 ∧ M2 22 0 0 = 1 ∧ er_ 11 0 kX4_start (11, [some (mv_R 22 0), some (mv_I (nI t0)), some (mv_I (nI c))], [], M) (Sum.inl (some (mv_I 0))) M2)) := by
  intro m
  induction m with
  | zero =>
    intro c C M hc hR
    have h20 := hR.2.1.1.2.1
    have hn := hR.2.1.2.1
    have h31 := hR.2.2.2.1.2.2
    obtain ⟨t, e, l, hr⟩ := rl_rw hR
    have h12 := hr.2.2.1.2.2.1.1
    have h5 := hr.2.2.1.1.1
    refine ⟨th_ M 0, t, e, l, hr, Or.inl ⟨C 2 0 5 - nI t0, rfl, rfl, ?_⟩⟩
    rw [h5]
    refine e_run 3 rfl trivial ?_
    try simp only [rd_, up_, Nat.reduceEqDiff, reduceIte, and_self, and_true, true_and, and_false, false_and, if_true, if_false, hn, h12]
    refine e_if rfl (fun h16 => ?_) (fun h16 => absurd (nI_le (by omega) (by omega)) h16)
    refine e_run 3 rfl trivial ?_
    try simp only [rd_, up_, Nat.reduceEqDiff, reduceIte, and_self, and_true, true_and, and_false, false_and, if_true, if_false, hn, h12]
    refine e_calli rfl (ev_le (rs_settle0 0 M (nI t0) h31) (by omega)) (by decide) ?_
    try simp only [rd_, up_, Nat.reduceEqDiff, reduceIte, and_self, and_true, true_and, and_false, false_and, if_true, if_false, hn, h12]
    refine e_if rfl (fun h69 => ?_) (fun h69 => absurd rfl h69)
    refine e_run 4 rfl trivial ?_
    try simp only [rd_, up_, Nat.reduceEqDiff, reduceIte, and_self, and_true, true_and, and_false, false_and, if_true, if_false, hn, h12]
    refine e_if rfl (fun h84 => ?_) (fun h84 => absurd rfl h84)
    refine e_run 4 rfl trivial ?_
    try simp only [rd_, up_, Nat.reduceEqDiff, reduceIte, and_self, and_true, true_and, and_false, false_and, if_true, if_false, hn, h12]
    exact e_ret rfl trivial rfl rfl
  | succ m ih =>
    intro c C M hc hR
    have hD := hR.2.1
    have h20 := hD.1.2.1
    have hn := hD.2.1
    have h31 := hR.2.2.2.1.2.2
    have hac := ev_le (d' := 10) (rs_isActive 0 hD c (by omega)) (by omega)
    have hof1 := ev_le (d' := 10) (rs_of 0 hD c 1 (by omega) (by omega)) (by omega)
    have hof4 := ev_le (d' := 10) (rs_of 0 hD c 4 (by omega) (by omega)) (by omega)
    by_cases hs : es_ C c = true
    · obtain ⟨s1, s2, s3⟩ := of_decide_eq_true hs
      obtain ⟨M2, a1, a2⟩ := rs_make (c := c) hR (by omega)
      have hmk := ev_le (d' := 10) a1 (by omega)
      rcases a2 with ⟨b1, b2, b3, -⟩ | ⟨b1, b2⟩
      · rw [show mSt n (nI t0) (m + 1) c C = mSt n (nI t0) m (c + 1) (mOb (mCo n 21) c 0 C).2 by rw [mSt, if_pos hs, if_neg b1]]
        obtain ⟨M3, t, e, l, c1, c2⟩ := ih (c + 1) _ M2 (by omega) b2
        have go {R : mv_O} {M9 : mv_M} (hh : er_ 11 0 kX4_start (11, [some (mv_R 22 0), some (mv_I (nI t0)), some (mv_I (nI (c + 1)))], [], M2) R M9) : er_ 11 0 kX4_start (11, [some (mv_R 22 0), some (mv_I (nI t0)), some (mv_I (nI c))], [], M) R M9 := by
          skip
          refine e_run 3 rfl trivial ?_
          try simp only [hn, h31]
          refine e_if rfl (fun h16 => absurd h16 (nI_ge (by omega) (by omega))) (fun h16 => ?_)
          refine e_run 2 rfl trivial ?_
          try simp only [hn, h31]
          refine e_if rfl (fun h23 => absurd rfl h23) (fun h23 => ?_)
          refine e_run 2 rfl trivial ?_
          try simp only [hn, h31]
          refine e_calli rfl (hac) (by decide) ?_
          try simp only [hn, h31]
          refine e_if rfl (fun h31 => absurd h31 (by rw [if_pos s1]; decide)) (fun h31 => ?_)
          refine e_run 3 rfl trivial ?_
          try simp only [hn, h31]
          refine e_calli rfl (hof1) (by decide) ?_
          try simp only [hn, h31]
          refine e_if rfl (fun h40 => absurd s2 h40) (fun h40 => ?_)
          refine e_run 3 rfl trivial ?_
          try simp only [hn, h31]
          refine e_calli rfl (hof4) (by decide) ?_
          try simp only [hn, h31]
          refine e_if rfl (fun h49 => absurd s3 h49) (fun h49 => ?_)
          refine e_run 2 rfl trivial ?_
          try simp only [hn, h31]
          refine e_callv rfl (hmk) (by decide) ?_
          try simp only [hn, h31]
          refine e_run 2 rfl trivial ?_
          try simp only [hn, h31]
          exact er_cong (by rw [nI_1]) hh
        refine ⟨M3, t, e, l, c1, ?_⟩
        rcases c2 with ⟨x, d1, d2, d3⟩ | ⟨d1, d2, d3⟩
        · exact Or.inl ⟨x, d1, d2, go d3⟩
        · exact Or.inr ⟨d1, d2, go d3⟩
      · rw [show mSt n (nI t0) (m + 1) c C = (Sum.inr 1, fp_ (mOb (mCo n 21) c 0 C).2 (nI t0)) by rw [mSt, if_pos hs, if_pos b1]]
        obtain ⟨M3, t, e, l, c1, c2⟩ := se_f b2 h0
        have hst := ev_le (d' := 10) c1 (by omega)
        have hn2 : M2 22 0 1 = nI n ∧ ¬ M2 22 0 31 = 0 := by
          obtain ⟨kind, det, l9, t9, e9, l0, C0, -, -, -, q1, -, q2, q3, -⟩ := b2
          exact ⟨q1.2.1, by rw [q3]; exact q2⟩
        obtain ⟨hn2, h312⟩ := hn2
        refine ⟨th_ M3 1, t, e, l, c2, Or.inr ⟨rfl, rfl, ?_⟩⟩
        have hlast : er_ 11 0 kX4_start (63, [some (mv_R 22 0), some (mv_I (nI t0)), some (mv_I (nI (c + 1)))], [], M2) (Sum.inl (some (mv_I 0))) (th_ M3 1) := by
          skip
          refine e_run 3 rfl trivial ?_
          try simp only [rd_, up_, Nat.reduceEqDiff, reduceIte, and_self, and_true, true_and, and_false, false_and, if_true, if_false]
          refine e_calli rfl (hst) (by decide) ?_
          try simp only [rd_, up_, Nat.reduceEqDiff, reduceIte, and_self, and_true, true_and, and_false, false_and, if_true, if_false]
          refine e_if rfl (fun h69 => absurd h69 (by decide)) (fun h69 => ?_)
          refine e_run 5 rfl trivial ?_
          try simp only [rd_, up_, Nat.reduceEqDiff, reduceIte, and_self, and_true, true_and, and_false, false_and, if_true, if_false]
          refine e_if rfl (fun h84 => absurd h84 (by decide)) (fun h84 => ?_)
          refine e_run 2 rfl trivial ?_
          try simp only [rd_, up_, Nat.reduceEqDiff, reduceIte, and_self, and_true, true_and, and_false, false_and, if_true, if_false]
          exact e_ret rfl trivial rfl rfl
        have hloop : er_ 11 0 kX4_start (11, [some (mv_R 22 0), some (mv_I (nI t0)), some (mv_I (nI (c + 1)))], [], M2) (Sum.inl (some (mv_I 0))) (th_ M3 1) := by
          skip
          refine e_run 3 rfl trivial ?_
          try simp only [hn2]
          refine e_if rfl (fun h16 => ?_) (fun h16 => ?_)
          · exact hlast
          · refine e_run 2 rfl trivial ?_
            try simp only [hn2]
            refine e_if rfl (fun h23 => ?_) (fun h23 => absurd h23 h312)
            exact hlast
        refine e_run 3 rfl trivial ?_
        try simp only [hn, h31]
        refine e_if rfl (fun h16 => absurd h16 (nI_ge (by omega) (by omega))) (fun h16 => ?_)
        refine e_run 2 rfl trivial ?_
        try simp only [hn, h31]
        refine e_if rfl (fun h23 => absurd rfl h23) (fun h23 => ?_)
        refine e_run 2 rfl trivial ?_
        try simp only [hn, h31]
        refine e_calli rfl (hac) (by decide) ?_
        try simp only [hn, h31]
        refine e_if rfl (fun h31 => absurd h31 (by rw [if_pos s1]; decide)) (fun h31 => ?_)
        refine e_run 3 rfl trivial ?_
        try simp only [hn, h31]
        refine e_calli rfl (hof1) (by decide) ?_
        try simp only [hn, h31]
        refine e_if rfl (fun h40 => absurd s2 h40) (fun h40 => ?_)
        refine e_run 3 rfl trivial ?_
        try simp only [hn, h31]
        refine e_calli rfl (hof4) (by decide) ?_
        try simp only [hn, h31]
        refine e_if rfl (fun h49 => absurd s3 h49) (fun h49 => ?_)
        refine e_run 2 rfl trivial ?_
        try simp only [hn, h31]
        refine e_callv rfl (hmk) (by decide) ?_
        try simp only [hn, h31]
        refine e_run 2 rfl trivial ?_
        try simp only [hn, h31]
        exact er_cong (by rw [nI_1]) hloop
    · rw [show mSt n (nI t0) (m + 1) c C = mSt n (nI t0) m (c + 1) C by rw [mSt, if_neg hs]]
      obtain ⟨M3, t, e, l, c1, c2⟩ := ih (c + 1) C M (by omega) hR
      have hns : ¬ (ac_ C c = true ∧ C 19 c 1 = 0 ∧ C 19 c 4 = 0) := fun q => hs (decide_eq_true q)
      have go {R : mv_O} {M9 : mv_M} (hh : er_ 11 0 kX4_start (11, [some (mv_R 22 0), some (mv_I (nI t0)), some (mv_I (nI (c + 1)))], [], M) R M9) : er_ 11 0 kX4_start (11, [some (mv_R 22 0), some (mv_I (nI t0)), some (mv_I (nI c))], [], M) R M9 := by
        skip
        refine e_run 3 rfl trivial ?_
        try simp only [hn, h31]
        refine e_if rfl (fun h16 => absurd h16 (nI_ge (by omega) (by omega))) (fun h16 => ?_)
        refine e_run 2 rfl trivial ?_
        try simp only [hn, h31]
        refine e_if rfl (fun h23 => absurd rfl h23) (fun h23 => ?_)
        refine e_run 2 rfl trivial ?_
        try simp only [hn, h31]
        refine e_calli rfl (hac) (by decide) ?_
        try simp only [hn, h31]
        refine e_if rfl (fun h31 => ?_) (fun h31 => ?_)
        · refine e_run 2 rfl trivial ?_
          try simp only [hn, h31]
          exact er_cong (by rw [nI_1]) hh
        · refine e_run 3 rfl trivial ?_
          try simp only [hn, h31]
          refine e_calli rfl (hof1) (by decide) ?_
          try simp only [hn, h31]
          refine e_if rfl (fun h40 => ?_) (fun h40 => ?_)
          · refine e_run 2 rfl trivial ?_
            try simp only [hn, h31]
            exact er_cong (by rw [nI_1]) hh
          · refine e_run 3 rfl trivial ?_
            try simp only [hn, h31]
            refine e_calli rfl (hof4) (by decide) ?_
            try simp only [hn, h31]
            refine e_if rfl (fun h49 => ?_) (fun h49 => ?_)
            · refine e_run 2 rfl trivial ?_
              try simp only [hn, h31]
              exact er_cong (by rw [nI_1]) hh
            · refine absurd ⟨?_, h40, h49⟩ hns
              cases hx : ac_ C c with
              | true => rfl
              | false => rw [hx] at h31; exact absurd rfl h31
      refine ⟨M3, t, e, l, c1, ?_⟩
      rcases c2 with ⟨x, d1, d2, d3⟩ | ⟨d1, d2, d3⟩
      · exact Or.inl ⟨x, d1, d2, go d3⟩
      · exact Or.inr ⟨d1, d2, go d3⟩
theorem rp_start {n t e l : Nat} {C M : mv_M} (h : rw_ n t e l C M) : ∃ M2 t2 e2 l2, rw_ n t2 e2 l2 (mSt n (C 2 0 5) n 0 C).2 M2 ∧ ((∃ x, (mSt n (C 2 0 5) n 0 C).1 = Sum.inl (some (mv_I x)) ∧ M2 22 0 0 = 0 ∧ ev_ 11 kX4_start [mv_R 22 0] M (Sum.inl (some (mv_I x))) M2) ∨ ((mSt n (C 2 0 5) n 0 C).1 = Sum.inr 1 ∧ M2 22 0 0 = 1 ∧ ev_ 11 kX4_start [mv_R 22 0] M (Sum.inl (some (mv_I 0))) M2)) := by
  have h12 := h.2.2.1.2.2.1.1
  have h5 := h.2.2.1.1.1
  have h3 := h.2.2.1.1.2.1
  have hR : rl_ n 0 C (cl4_ M) := rl_0 (rw_cl h) rfl rfl
  obtain ⟨M2, t2, e2, l2, a1, a2⟩ := lp_rstart h3 n 0 C (cl4_ M) (by omega) hR
  have go {R : mv_O} {M9 : mv_M} (hh : er_ 11 0 kX4_start (11, [some (mv_R 22 0), some (mv_I (nI t)), some (mv_I (nI 0))], [], cl4_ M) R M9) : ev_ 11 kX4_start [mv_R 22 0] M R M9 := by
    refine e_ev rfl rfl ?_
    refine e_run 4 rfl trivial ?_
    try simp only [h12]
    refine e_callv rfl (rs_clean 10 M) (by decide) ?_
    try simp only [h12]
    refine e_run 2 rfl trivial ?_
    try simp only [h12]
    exact hh
  rw [h5]
  refine ⟨M2, t2, e2, l2, a1, ?_⟩
  rcases a2 with ⟨x, d1, d2, d3⟩ | ⟨d1, d2, d3⟩
  · exact Or.inl ⟨x, d1, d2, go d3⟩
  · exact Or.inr ⟨d1, d2, go d3⟩
