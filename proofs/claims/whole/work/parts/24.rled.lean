/-! THE REFERENCE'S PUBLIC METHODS: questions; and the ledger's relation -/
theorem rp_profile (d p n : Nat) {C M : mv_M} (on : Int32) (hD : dr_ C M n) (hpb : bw_ (nI p) 0 7 = true) : ev_ (d + 1) kX4_profile [mv_R 22 0, mv_I (nI p), mv_I on] M (Sum.inl (some (mv_I (if ii_ (C 1 0 4) p = true then 1 else 0)))) (mv_up (th_ M 0) 22 0 6 (tp_ C (nI p) on 1 0 4)) := by
  have h6 := hD.2.2.1
  have hii : (ii_ (C 1 0 4) p = true) ↔ (C 1 0 4 >>> (nI p &&& 31)) &&& 1 = 1 := by
    rw [sh_iff]
    unfold ii_
    simp
  refine e_ev rfl rfl ?_
  by_cases hon : on = 0
  · rw [show tp_ C (nI p) on 1 0 4 = C 1 0 4 &&& ((1 <<< (nI p &&& 31)) ^^^ (-1)) by simp only [tp_, rd_, up_, Nat.reduceEqDiff, reduceIte, and_self, and_true, true_and, and_false, false_and, if_true, if_false, if_pos hon]]
    refine e_run 4 rfl trivial ?_
    try simp only [rd_, up_, Nat.reduceEqDiff, reduceIte, and_self, and_true, true_and, and_false, false_and, if_true, if_false, h6]
    refine e_calli rfl (rs_in d M (nI p) 0 7) (by decide) ?_
    try simp only [rd_, up_, Nat.reduceEqDiff, reduceIte, and_self, and_true, true_and, and_false, false_and, if_true, if_false, h6]
    refine e_if rfl (fun h8 => absurd h8 (by simp [hpb])) (fun h8 => ?_)
    refine e_run 5 rfl trivial ?_
    try simp only [rd_, up_, Nat.reduceEqDiff, reduceIte, and_self, and_true, true_and, and_false, false_and, if_true, if_false, h6]
    refine e_if rfl (fun h23 => ?_) (fun h23 => absurd rfl h23)
    refine e_run 7 rfl trivial ?_
    try simp only [rd_, up_, Nat.reduceEqDiff, reduceIte, and_self, and_true, true_and, and_false, false_and, if_true, if_false, h6]
    refine e_if rfl (fun h37 => ?_) (fun h37 => ?_)
    · refine e_run 4 rfl trivial ?_
      try simp only [rd_, up_, Nat.reduceEqDiff, reduceIte, and_self, and_true, true_and, and_false, false_and, if_true, if_false, h6]
      refine e_if rfl (fun h48 => ?_) (fun h48 => absurd hon h48)
      refine e_run 10 rfl trivial ?_
      try simp only [rd_, up_, Nat.reduceEqDiff, reduceIte, and_self, and_true, true_and, and_false, false_and, if_true, if_false, h6]
      first
        | (rw [if_pos (hii.mpr h37)]; exact e_ret rfl (Or.inr rfl) rfl rfl)
        | (rw [if_neg (fun q => h37 (hii.mp q))]; exact e_ret rfl (Or.inl rfl) rfl rfl)
    · refine e_run 5 rfl trivial ?_
      try simp only [rd_, up_, Nat.reduceEqDiff, reduceIte, and_self, and_true, true_and, and_false, false_and, if_true, if_false, h6]
      refine e_if rfl (fun h48 => ?_) (fun h48 => absurd hon h48)
      refine e_run 10 rfl trivial ?_
      try simp only [rd_, up_, Nat.reduceEqDiff, reduceIte, and_self, and_true, true_and, and_false, false_and, if_true, if_false, h6]
      first
        | (rw [if_pos (hii.mpr h37)]; exact e_ret rfl (Or.inr rfl) rfl rfl)
        | (rw [if_neg (fun q => h37 (hii.mp q))]; exact e_ret rfl (Or.inl rfl) rfl rfl)
  · rw [show tp_ C (nI p) on 1 0 4 = C 1 0 4 ||| (1 <<< (nI p &&& 31)) by simp only [tp_, rd_, up_, Nat.reduceEqDiff, reduceIte, and_self, and_true, true_and, and_false, false_and, if_true, if_false, if_neg hon]]
    refine e_run 4 rfl trivial ?_
    try simp only [rd_, up_, Nat.reduceEqDiff, reduceIte, and_self, and_true, true_and, and_false, false_and, if_true, if_false, h6]
    refine e_calli rfl (rs_in d M (nI p) 0 7) (by decide) ?_
    try simp only [rd_, up_, Nat.reduceEqDiff, reduceIte, and_self, and_true, true_and, and_false, false_and, if_true, if_false, h6]
    refine e_if rfl (fun h8 => absurd h8 (by simp [hpb])) (fun h8 => ?_)
    refine e_run 5 rfl trivial ?_
    try simp only [rd_, up_, Nat.reduceEqDiff, reduceIte, and_self, and_true, true_and, and_false, false_and, if_true, if_false, h6]
    refine e_if rfl (fun h23 => ?_) (fun h23 => absurd rfl h23)
    refine e_run 7 rfl trivial ?_
    try simp only [rd_, up_, Nat.reduceEqDiff, reduceIte, and_self, and_true, true_and, and_false, false_and, if_true, if_false, h6]
    refine e_if rfl (fun h37 => ?_) (fun h37 => ?_)
    · refine e_run 4 rfl trivial ?_
      try simp only [rd_, up_, Nat.reduceEqDiff, reduceIte, and_self, and_true, true_and, and_false, false_and, if_true, if_false, h6]
      refine e_if rfl (fun h48 => absurd h48 hon) (fun h48 => ?_)
      refine e_run 9 rfl trivial ?_
      try simp only [rd_, up_, Nat.reduceEqDiff, reduceIte, and_self, and_true, true_and, and_false, false_and, if_true, if_false, h6]
      first
        | (rw [if_pos (hii.mpr h37)]; exact e_ret rfl (Or.inr rfl) rfl rfl)
        | (rw [if_neg (fun q => h37 (hii.mp q))]; exact e_ret rfl (Or.inl rfl) rfl rfl)
    · refine e_run 5 rfl trivial ?_
      try simp only [rd_, up_, Nat.reduceEqDiff, reduceIte, and_self, and_true, true_and, and_false, false_and, if_true, if_false, h6]
      refine e_if rfl (fun h48 => absurd h48 hon) (fun h48 => ?_)
      refine e_run 9 rfl trivial ?_
      try simp only [rd_, up_, Nat.reduceEqDiff, reduceIte, and_self, and_true, true_and, and_false, false_and, if_true, if_false, h6]
      first
        | (rw [if_pos (hii.mpr h37)]; exact e_ret rfl (Or.inr rfl) rfl rfl)
        | (rw [if_neg (fun q => h37 (hii.mp q))]; exact e_ret rfl (Or.inl rfl) rfl rfl)
theorem rp_profile_i (d : Nat) (M : mv_M) (p on : Int32) (hpb : bw_ p 0 7 = false) : ev_ (d + 1) kX4_profile [mv_R 22 0, mv_I p, mv_I on] M (Sum.inl (some (mv_I 0))) (th_ M 1) := by
  refine e_ev rfl rfl ?_
  refine e_run 4 rfl trivial ?_
  try simp only [rd_, up_, Nat.reduceEqDiff, reduceIte, and_self, and_true, true_and, and_false, false_and, if_true, if_false]
  refine e_calli rfl (rs_in d M p 0 7) (by decide) ?_
  try simp only [rd_, up_, Nat.reduceEqDiff, reduceIte, and_self, and_true, true_and, and_false, false_and, if_true, if_false]
  refine e_if rfl (fun h8 => ?_) (fun h8 => absurd (by simp [hpb]) h8)
  refine e_run 4 rfl trivial ?_
  try simp only [rd_, up_, Nat.reduceEqDiff, reduceIte, and_self, and_true, true_and, and_false, false_and, if_true, if_false]
  refine e_if rfl (fun h23 => absurd h23 (by decide)) (fun h23 => ?_)
  refine e_run 1 rfl trivial ?_
  try simp only [rd_, up_, Nat.reduceEqDiff, reduceIte, and_self, and_true, true_and, and_false, false_and, if_true, if_false]
  exact e_ret rfl (Or.inl rfl) rfl rfl
theorem rp_components (d : Nat) (M : mv_M) : ev_ d kX4_components [mv_R 22 0] M (Sum.inl (some (mv_I (M 22 0 1)))) (th_ M 0) := by
  refine e_ev rfl rfl ?_
  refine e_run 5 rfl trivial ?_
  try simp only [rd_, up_, Nat.reduceEqDiff, reduceIte, and_self, and_true, true_and, and_false, false_and, if_true, if_false]
  exact e_ret rfl trivial rfl rfl
theorem rp_candidates (d n : Nat) {C M : mv_M} (t q : Int32) (hD : dr_ C M n) (h : tq_ t q = true) : ev_ (d + 3) kX4_candidates [mv_R 22 0, mv_I t, mv_I q] M (Sum.inl (some (mv_I (mk_ (cb_ C t q) n)))) (th_ M 0) := by
  refine e_ev rfl rfl ?_
  refine e_run 3 rfl trivial ?_
  try simp only [rd_, up_, Nat.reduceEqDiff, reduceIte, and_self, and_true, true_and, and_false, false_and, if_true, if_false]
  refine e_calli rfl (ev_le (rs_isAsked 0 M t q) (by omega)) (by decide) ?_
  try simp only [rd_, up_, Nat.reduceEqDiff, reduceIte, and_self, and_true, true_and, and_false, false_and, if_true, if_false]
  refine e_if rfl (fun h6 => absurd h6 (by simp [h])) (fun h6 => ?_)
  refine e_run 5 rfl trivial ?_
  try simp only [rd_, up_, Nat.reduceEqDiff, reduceIte, and_self, and_true, true_and, and_false, false_and, if_true, if_false]
  refine e_if rfl (fun h21 => ?_) (fun h21 => absurd rfl h21)
  refine e_run 3 rfl trivial ?_
  try simp only [rd_, up_, Nat.reduceEqDiff, reduceIte, and_self, and_true, true_and, and_false, false_and, if_true, if_false]
  refine e_calli rfl (rs_candidatesFor d (dr_th hD) t q) (by decide) ?_
  try simp only [rd_, up_, Nat.reduceEqDiff, reduceIte, and_self, and_true, true_and, and_false, false_and, if_true, if_false]
  exact e_ret rfl trivial rfl rfl
theorem rp_candidates_i (d : Nat) (M : mv_M) (t q : Int32) (h : tq_ t q = false) : ev_ (d + 2) kX4_candidates [mv_R 22 0, mv_I t, mv_I q] M (Sum.inl (some (mv_I 0))) (th_ M 1) := by
  refine e_ev rfl rfl ?_
  refine e_run 3 rfl trivial ?_
  try simp only [rd_, up_, Nat.reduceEqDiff, reduceIte, and_self, and_true, true_and, and_false, false_and, if_true, if_false]
  refine e_calli rfl (rs_isAsked d M t q) (by decide) ?_
  try simp only [rd_, up_, Nat.reduceEqDiff, reduceIte, and_self, and_true, true_and, and_false, false_and, if_true, if_false]
  refine e_if rfl (fun h6 => ?_) (fun h6 => absurd (by simp [h]) h6)
  refine e_run 4 rfl trivial ?_
  try simp only [rd_, up_, Nat.reduceEqDiff, reduceIte, and_self, and_true, true_and, and_false, false_and, if_true, if_false]
  refine e_if rfl (fun h21 => absurd h21 (by decide)) (fun h21 => ?_)
  refine e_run 2 rfl trivial ?_
  try simp only [rd_, up_, Nat.reduceEqDiff, reduceIte, and_self, and_true, true_and, and_false, false_and, if_true, if_false]
  exact e_ret rfl trivial rfl rfl
theorem ch_co (C : mv_M) {n : Nat} (hn : n ≤ 20) (t q : Int32) : ch_ C n (mk_ (cb_ C t q) n) = if co_ C n t q < 0 then -1 else co_ C n t q := by
  unfold co_
  split
  · next h => rw [h, ch_0 C hn]; rfl
  · split
    · next h => rw [h]; rfl
    · next h =>
      obtain ⟨j, h1, h2⟩ := (ch_val C n (mk_ (cb_ C t q) n)).resolve_left h
      rw [h1, if_neg (nI_pos (by omega))]
theorem rp_chosen (d n : Nat) {C M : mv_M} (t q : Int32) (hD : dr_ C M n) (h : tq_ t q = true) : ev_ (d + 4) kX4_chosen [mv_R 22 0, mv_I t, mv_I q] M (Sum.inl (some (mv_I (ch_ C n (mk_ (cb_ C t q) n))))) (th_ M 0) := by
  have h20 := hD.1.2.1
  rw [ch_co C h20]
  refine e_ev rfl rfl ?_
  refine e_run 3 rfl trivial ?_
  try simp only [rd_, up_, Nat.reduceEqDiff, reduceIte, and_self, and_true, true_and, and_false, false_and, if_true, if_false]
  refine e_calli rfl (ev_le (rs_isAsked 0 M t q) (by omega)) (by decide) ?_
  try simp only [rd_, up_, Nat.reduceEqDiff, reduceIte, and_self, and_true, true_and, and_false, false_and, if_true, if_false]
  refine e_if rfl (fun h6 => absurd h6 (by simp [h])) (fun h6 => ?_)
  refine e_run 5 rfl trivial ?_
  try simp only [rd_, up_, Nat.reduceEqDiff, reduceIte, and_self, and_true, true_and, and_false, false_and, if_true, if_false]
  refine e_if rfl (fun h21 => ?_) (fun h21 => absurd rfl h21)
  refine e_run 3 rfl trivial ?_
  try simp only [rd_, up_, Nat.reduceEqDiff, reduceIte, and_self, and_true, true_and, and_false, false_and, if_true, if_false]
  refine e_calli rfl (rs_choose d (dr_th hD) t q) (by decide) ?_
  try simp only [rd_, up_, Nat.reduceEqDiff, reduceIte, and_self, and_true, true_and, and_false, false_and, if_true, if_false]
  refine e_run 2 rfl trivial ?_
  try simp only [rd_, up_, Nat.reduceEqDiff, reduceIte, and_self, and_true, true_and, and_false, false_and, if_true, if_false]
  refine e_if rfl (fun h34 => ?_) (fun h34 => ?_)
  · have hq := Int32.not_lt.mpr h34
    refine e_run 1 rfl trivial ?_
    try simp only [rd_, up_, Nat.reduceEqDiff, reduceIte, and_self, and_true, true_and, and_false, false_and, if_true, if_false]
    first
      | (rw [if_pos hq]; exact e_ret rfl trivial rfl rfl)
      | (rw [if_neg hq]; exact e_ret rfl trivial rfl rfl)
  · have hq := Int32.not_le.mp h34
    refine e_run 2 rfl trivial ?_
    try simp only [rd_, up_, Nat.reduceEqDiff, reduceIte, and_self, and_true, true_and, and_false, false_and, if_true, if_false]
    first
      | (rw [if_pos hq]; exact e_ret rfl trivial rfl rfl)
      | (rw [if_neg hq]; exact e_ret rfl trivial rfl rfl)
theorem rp_chosen_i (d : Nat) (M : mv_M) (t q : Int32) (h : tq_ t q = false) : ev_ (d + 2) kX4_chosen [mv_R 22 0, mv_I t, mv_I q] M (Sum.inl (some (mv_I 0))) (th_ M 1) := by
  refine e_ev rfl rfl ?_
  refine e_run 3 rfl trivial ?_
  try simp only [rd_, up_, Nat.reduceEqDiff, reduceIte, and_self, and_true, true_and, and_false, false_and, if_true, if_false]
  refine e_calli rfl (rs_isAsked d M t q) (by decide) ?_
  try simp only [rd_, up_, Nat.reduceEqDiff, reduceIte, and_self, and_true, true_and, and_false, false_and, if_true, if_false]
  refine e_if rfl (fun h6 => ?_) (fun h6 => absurd (by simp [h]) h6)
  refine e_run 4 rfl trivial ?_
  try simp only [rd_, up_, Nat.reduceEqDiff, reduceIte, and_self, and_true, true_and, and_false, false_and, if_true, if_false]
  refine e_if rfl (fun h21 => absurd h21 (by decide)) (fun h21 => ?_)
  refine e_run 1 rfl trivial ?_
  try simp only [rd_, up_, Nat.reduceEqDiff, reduceIte, and_self, and_true, true_and, and_false, false_and, if_true, if_false]
  exact e_ret rfl trivial rfl rfl
theorem rp_needs (d n c : Nat) {C M : mv_M} (hD : dr_ C M n) (hc : c < n) : ev_ (d + 6) kX4_needs [mv_R 22 0, mv_I (nI c)] M (Sum.inl (some (mv_I (ao_ C n n (dn_ C n c (dc_ C c)))))) (th_ M 0) := by
  have h20 := hD.1.2.1
  have hcm := cm_nI (by omega) hc
  rw [← ao_gr C h20 _ (be_dn C h20 c _)]
  refine e_ev rfl rfl ?_
  refine e_run 3 rfl trivial ?_
  try simp only [rd_, up_, Nat.reduceEqDiff, reduceIte, and_self, and_true, true_and, and_false, false_and, if_true, if_false]
  refine e_calli rfl (ev_le (rs_isComponent 0 hD.2.1 (by omega) (nI c)) (by omega)) (by decide) ?_
  try simp only [rd_, up_, Nat.reduceEqDiff, reduceIte, and_self, and_true, true_and, and_false, false_and, if_true, if_false]
  refine e_if rfl (fun h6 => absurd h6 (by simp [hcm])) (fun h6 => ?_)
  refine e_run 5 rfl trivial ?_
  try simp only [rd_, up_, Nat.reduceEqDiff, reduceIte, and_self, and_true, true_and, and_false, false_and, if_true, if_false]
  refine e_if rfl (fun h21 => ?_) (fun h21 => absurd rfl h21)
  refine e_run 2 rfl trivial ?_
  try simp only [rd_, up_, Nat.reduceEqDiff, reduceIte, and_self, and_true, true_and, and_false, false_and, if_true, if_false]
  refine e_calli rfl (rs_directly d (dr_th hD) c (by omega)) (by decide) ?_
  try simp only [rd_, up_, Nat.reduceEqDiff, reduceIte, and_self, and_true, true_and, and_false, false_and, if_true, if_false]
  refine e_run 3 rfl trivial ?_
  try simp only [rd_, up_, Nat.reduceEqDiff, reduceIte, and_self, and_true, true_and, and_false, false_and, if_true, if_false]
  exact lp_needs2 d (dr_th hD) _ n 0 _ none (by omega)
theorem rp_needs_x (d n : Nat) {C M : mv_M} (x : Int32) (hD : dr_ C M n) (h : cm_ n x = false) : ev_ (d + 2) kX4_needs [mv_R 22 0, mv_I x] M (Sum.inl (some (mv_I 0))) (th_ M 1) := by
  have h20 := hD.1.2.1
  refine e_ev rfl rfl ?_
  refine e_run 3 rfl trivial ?_
  try simp only [rd_, up_, Nat.reduceEqDiff, reduceIte, and_self, and_true, true_and, and_false, false_and, if_true, if_false]
  refine e_calli rfl (rs_isComponent d hD.2.1 (by omega) x) (by decide) ?_
  try simp only [rd_, up_, Nat.reduceEqDiff, reduceIte, and_self, and_true, true_and, and_false, false_and, if_true, if_false]
  refine e_if rfl (fun h6 => ?_) (fun h6 => absurd (by simp [h]) h6)
  refine e_run 4 rfl trivial ?_
  try simp only [rd_, up_, Nat.reduceEqDiff, reduceIte, and_self, and_true, true_and, and_false, false_and, if_true, if_false]
  refine e_if rfl (fun h21 => absurd h21 (by decide)) (fun h21 => ?_)
  refine e_run 1 rfl trivial ?_
  try simp only [rd_, up_, Nat.reduceEqDiff, reduceIte, and_self, and_true, true_and, and_false, false_and, if_true, if_false]
  exact e_ret rfl trivial rfl rfl
/-- an instance's place, here and there -/
def pr_ (C M : mv_M) (i : Nat) : Prop := (C 10 0 i = -1 ∧ M 31 0 i = 1) ∨ (C 10 0 i = 0 ∧ M 31 0 i = 0) ∨ ∃ s : Nat, C 10 0 i = nI (s + 1) ∧ s < 5 ∧ M 31 0 i = 2 ∧ M 32 0 i = nI (s + 1)
def ir_ (C M : mv_M) (i : Nat) : Prop := M 30 0 i = C 9 0 i ∧ M 33 0 i = C 11 0 i ∧ pr_ C M i ∧ M 34 0 i = C 13 0 i ∧ ∃ k : Nat, C 13 0 i = nI k ∧ k ≤ 6 ∧ ∀ j, j < k → M 35 0 (6 * i + j) = C 12 0 (6 * i + j)
/-- the ledger, and the failure: t instances, e events, a chain of l -/
def lr_ (C M : mv_M) (t e l : Nat) : Prop := li_ C t e ∧ (C 3 0 3 = nI l ∧ l ≤ 20) ∧ (M 22 0 12 = nI t ∧ M 22 0 20 = nI e ∧ M 22 0 24 = nI l) ∧ (M 22 0 19 = C 0 0 3 ∧ M 22 0 22 = C 3 0 0 ∧ M 22 0 23 = C 3 0 1) ∧ (∀ i, i < l → M 37 0 i = C 17 0 i) ∧ (∀ i, i < e → M 36 0 i = C 16 0 i) ∧ (∀ c, c < 20 → M 26 0 c = C 15 0 c) ∧ ∀ i, i < t → ir_ C M i
theorem lr_th {C M : mv_M} {t e l : Nat} {k : Int32} (h : lr_ C M t e l) : lr_ C (th_ M k) t e l := h
theorem rs_isInstance (d : Nat) {C M : mv_M} {t e l : Nat} (hL : lr_ C M t e l) (x : Int32) : ev_ (d + 1) kX4_isInstance [mv_R 22 0, mv_I x] M (Sum.inl (some (mv_I (if cm_ t x = true then 1 else 0)))) M := by
  have hn := hL.2.2.1.1
  have h3 := hL.1.2.1
  have hb := bw_cm (n := t) (by omega) x
  refine e_ev rfl rfl ?_
  refine e_run 6 rfl trivial ?_
  try simp only [hn]
  refine e_calli rfl (rs_in d M x 0 _) (by decide) ?_
  try simp only [hn]
  (rw [hb]; exact e_ret rfl (fz_ _) rfl rfl)
theorem rp_instances (d : Nat) (M : mv_M) : ev_ d kX4_instances [mv_R 22 0] M (Sum.inl (some (mv_I (M 22 0 12)))) (th_ M 0) := by
  refine e_ev rfl rfl ?_
  refine e_run 5 rfl trivial ?_
  try simp only [rd_, up_, Nat.reduceEqDiff, reduceIte, and_self, and_true, true_and, and_false, false_and, if_true, if_false]
  exact e_ret rfl trivial rfl rfl
theorem rp_componentOf (d i : Nat) {C M : mv_M} {t e l : Nat} (hL : lr_ C M t e l) (hi : i < t) : ev_ (d + 2) kX4_componentOf [mv_R 22 0, mv_I (nI i)] M (Sum.inl (some (mv_I (C 9 0 i)))) (th_ M 0) := by
  have h3 := hL.1.2.1
  have hcm := cm_nI (n := t) (by omega) hi
  have hcl : (nI i).toNatClampNeg = i := nI_clamp (by omega)
  have he := (hL.2.2.2.2.2.2.2 i hi).1
  refine e_ev rfl rfl ?_
  refine e_run 3 rfl trivial ?_
  try simp only [rd_, up_, Nat.reduceEqDiff, reduceIte, and_self, and_true, true_and, and_false, false_and, if_true, if_false, hcl, he]
  refine e_calli rfl (rs_isInstance d hL (nI i)) (by decide) ?_
  try simp only [rd_, up_, Nat.reduceEqDiff, reduceIte, and_self, and_true, true_and, and_false, false_and, if_true, if_false, hcl, he]
  refine e_if rfl (fun h6 => absurd h6 (by simp [hcm])) (fun h6 => ?_)
  refine e_run 5 rfl trivial ?_
  try simp only [rd_, up_, Nat.reduceEqDiff, reduceIte, and_self, and_true, true_and, and_false, false_and, if_true, if_false, hcl, he]
  refine e_if rfl (fun h21 => ?_) (fun h21 => absurd rfl h21)
  refine e_run 4 rfl ?_ ?_
  · ((try simp only [rd_, up_, Nat.reduceEqDiff, reduceIte, and_self, and_true, true_and, and_false, false_and, if_true, if_false, hcl, he]) <;> and_intros <;> first | trivial | exact in_n (by omega) (by omega) | omega | (unfold vp_in; decide) | (simp only [*]; omega))
  try simp only [rd_, up_, Nat.reduceEqDiff, reduceIte, and_self, and_true, true_and, and_false, false_and, if_true, if_false, hcl, he]
  exact e_ret rfl trivial rfl rfl
theorem rp_componentOf_x (d : Nat) {C M : mv_M} {t e l : Nat} (x : Int32) (hL : lr_ C M t e l) (h : cm_ t x = false) : ev_ (d + 2) kX4_componentOf [mv_R 22 0, mv_I x] M (Sum.inl (some (mv_I 0))) (th_ M 1) := by
  refine e_ev rfl rfl ?_
  refine e_run 3 rfl trivial ?_
  try simp only [rd_, up_, Nat.reduceEqDiff, reduceIte, and_self, and_true, true_and, and_false, false_and, if_true, if_false]
  refine e_calli rfl (rs_isInstance d hL x) (by decide) ?_
  try simp only [rd_, up_, Nat.reduceEqDiff, reduceIte, and_self, and_true, true_and, and_false, false_and, if_true, if_false]
  refine e_if rfl (fun h6 => ?_) (fun h6 => absurd (by simp [h]) h6)
  refine e_run 4 rfl trivial ?_
  try simp only [rd_, up_, Nat.reduceEqDiff, reduceIte, and_self, and_true, true_and, and_false, false_and, if_true, if_false]
  refine e_if rfl (fun h21 => absurd h21 (by decide)) (fun h21 => ?_)
  refine e_run 2 rfl trivial ?_
  try simp only [rd_, up_, Nat.reduceEqDiff, reduceIte, and_self, and_true, true_and, and_false, false_and, if_true, if_false]
  exact e_ret rfl trivial rfl rfl
theorem rp_isAlive (d i : Nat) {C M : mv_M} {t e l : Nat} (hL : lr_ C M t e l) (hi : i < t) : ev_ (d + 2) kX4_isAlive [mv_R 22 0, mv_I (nI i)] M (Sum.inl (some (mv_I (C 11 0 i)))) (th_ M 0) := by
  have h3 := hL.1.2.1
  have hcm := cm_nI (n := t) (by omega) hi
  have hcl : (nI i).toNatClampNeg = i := nI_clamp (by omega)
  have he := (hL.2.2.2.2.2.2.2 i hi).2.1
  have hlv := (hL.1.2.2.2.2 i hi).1
  refine e_ev rfl rfl ?_
  refine e_run 3 rfl trivial ?_
  try simp only [rd_, up_, Nat.reduceEqDiff, reduceIte, and_self, and_true, true_and, and_false, false_and, if_true, if_false, hcl, he]
  refine e_calli rfl (rs_isInstance d hL (nI i)) (by decide) ?_
  try simp only [rd_, up_, Nat.reduceEqDiff, reduceIte, and_self, and_true, true_and, and_false, false_and, if_true, if_false, hcl, he]
  refine e_if rfl (fun h6 => absurd h6 (by simp [hcm])) (fun h6 => ?_)
  refine e_run 5 rfl trivial ?_
  try simp only [rd_, up_, Nat.reduceEqDiff, reduceIte, and_self, and_true, true_and, and_false, false_and, if_true, if_false, hcl, he]
  refine e_if rfl (fun h21 => absurd rfl h21) (fun h21 => ?_)
  refine e_run 4 rfl ?_ ?_
  · ((try simp only [rd_, up_, Nat.reduceEqDiff, reduceIte, and_self, and_true, true_and, and_false, false_and, if_true, if_false, hcl, he]) <;> and_intros <;> first | trivial | exact in_n (by omega) (by omega) | omega | (unfold vp_in; decide) | (simp only [*]; omega))
  try simp only [rd_, up_, Nat.reduceEqDiff, reduceIte, and_self, and_true, true_and, and_false, false_and, if_true, if_false, hcl, he]
  refine e_if rfl (fun h30 => ?_) (fun h30 => ?_)
  · refine e_run 1 rfl trivial ?_
    try simp only [rd_, up_, Nat.reduceEqDiff, reduceIte, and_self, and_true, true_and, and_false, false_and, if_true, if_false, hcl, he]
    first
      | (rw [show C 11 0 i = 0 from h30]; exact e_ret rfl (Or.inl rfl) rfl rfl)
      | (rw [hlv.resolve_left h30]; exact e_ret rfl (Or.inr rfl) rfl rfl)
  · refine e_run 2 rfl trivial ?_
    try simp only [rd_, up_, Nat.reduceEqDiff, reduceIte, and_self, and_true, true_and, and_false, false_and, if_true, if_false, hcl, he]
    first
      | (rw [show C 11 0 i = 0 from h30]; exact e_ret rfl (Or.inl rfl) rfl rfl)
      | (rw [hlv.resolve_left h30]; exact e_ret rfl (Or.inr rfl) rfl rfl)
theorem rp_isAlive_x (d : Nat) {C M : mv_M} {t e l : Nat} (x : Int32) (hL : lr_ C M t e l) (h : cm_ t x = false) : ev_ (d + 2) kX4_isAlive [mv_R 22 0, mv_I x] M (Sum.inl (some (mv_I 0))) (th_ M 1) := by
  refine e_ev rfl rfl ?_
  refine e_run 3 rfl trivial ?_
  try simp only [rd_, up_, Nat.reduceEqDiff, reduceIte, and_self, and_true, true_and, and_false, false_and, if_true, if_false]
  refine e_calli rfl (rs_isInstance d hL x) (by decide) ?_
  try simp only [rd_, up_, Nat.reduceEqDiff, reduceIte, and_self, and_true, true_and, and_false, false_and, if_true, if_false]
  refine e_if rfl (fun h6 => ?_) (fun h6 => absurd (by simp [h]) h6)
  refine e_run 4 rfl trivial ?_
  try simp only [rd_, up_, Nat.reduceEqDiff, reduceIte, and_self, and_true, true_and, and_false, false_and, if_true, if_false]
  refine e_if rfl (fun h21 => ?_) (fun h21 => absurd h21 (by decide))
  refine e_run 1 rfl trivial ?_
  try simp only [rd_, up_, Nat.reduceEqDiff, reduceIte, and_self, and_true, true_and, and_false, false_and, if_true, if_false]
  exact e_ret rfl (Or.inl rfl) rfl rfl
theorem ix_6l (i j : Nat) : 6 * nI i + nI j = nI (6 * i + j) := by rw [show (6 : Int32) = nI 6 from rfl, pk_mul, nI_add]
theorem rp_injected (d i j k : Nat) {C M : mv_M} {t e l : Nat} (hL : lr_ C M t e l) (hi : i < t) (hk : C 13 0 i = nI k) (h6 : k ≤ 6) (hj : j < k) : ev_ (d + 2) kX4_injected [mv_R 22 0, mv_I (nI i), mv_I (nI j)] M (Sum.inl (some (mv_I (C 12 0 (6 * i + j))))) (th_ M 0) := by
  have h3 := hL.1.2.1
  have hcm := cm_nI (n := t) (by omega) hi
  have hcl : (nI i).toNatClampNeg = i := nI_clamp (by omega)
  obtain ⟨-, -, -, hm, k9, hk9, h69, hv⟩ := hL.2.2.2.2.2.2.2 i hi
  have hkk := nI_inj (by omega) (by omega) (hk.symm.trans hk9)
  subst hkk
  have hv := hv j hj
  have hm := hm.trans hk
  have hcj := cm_nI (n := k) (by omega) hj
  have hbj := bw_cm (n := k) (by omega) (nI j)
  have hij : (nI (6 * i + j)).toNatClampNeg = 6 * i + j := nI_clamp (by omega)
  refine e_ev rfl rfl ?_
  refine e_run 3 rfl trivial ?_
  try simp only [rd_, up_, Nat.reduceEqDiff, reduceIte, and_self, and_true, true_and, and_false, false_and, if_true, if_false, hcl, hm, ix_6l, hij, hv]
  refine e_calli rfl (rs_isInstance d hL (nI i)) (by decide) ?_
  try simp only [rd_, up_, Nat.reduceEqDiff, reduceIte, and_self, and_true, true_and, and_false, false_and, if_true, if_false, hcl, hm, ix_6l, hij, hv]
  refine e_if rfl (fun h6 => ?_) (fun h6 => absurd h6 (by simp [hcm]))
  refine e_run 8 rfl ?_ ?_
  · ((try simp only [rd_, up_, Nat.reduceEqDiff, reduceIte, and_self, and_true, true_and, and_false, false_and, if_true, if_false, hcl, hm, ix_6l, hij, hv]) <;> and_intros <;> first | trivial | exact in_n (by omega) (by omega) | omega | (unfold vp_in; decide) | (simp only [*]; omega))
  try simp only [rd_, up_, Nat.reduceEqDiff, reduceIte, and_self, and_true, true_and, and_false, false_and, if_true, if_false, hcl, hm, ix_6l, hij, hv]
  refine e_calli rfl (rs_in (d + 1) M (nI j) 0 _) (by decide) ?_
  try simp only [rd_, up_, Nat.reduceEqDiff, reduceIte, and_self, and_true, true_and, and_false, false_and, if_true, if_false, hcl, hm, ix_6l, hij, hv]
  refine e_if rfl (fun h26 => ?_) (fun h26 => absurd h26 (by rw [hbj]; simp [hcj]))
  refine e_run 4 rfl trivial ?_
  try simp only [rd_, up_, Nat.reduceEqDiff, reduceIte, and_self, and_true, true_and, and_false, false_and, if_true, if_false, hcl, hm, ix_6l, hij, hv]
  refine e_if rfl (fun h41 => ?_) (fun h41 => absurd rfl h41)
  refine e_run 8 rfl ?_ ?_
  · ((try simp only [rd_, up_, Nat.reduceEqDiff, reduceIte, and_self, and_true, true_and, and_false, false_and, if_true, if_false, hcl, hm, ix_6l, hij, hv]) <;> and_intros <;> first | trivial | exact in_n (by omega) (by omega) | omega | (unfold vp_in; decide) | (simp only [*]; omega))
  try simp only [rd_, up_, Nat.reduceEqDiff, reduceIte, and_self, and_true, true_and, and_false, false_and, if_true, if_false, hcl, hm, ix_6l, hij, hv]
  exact e_ret rfl trivial rfl rfl
theorem rp_injected_i (d i k : Nat) {C M : mv_M} {t e l : Nat} (y : Int32) (hL : lr_ C M t e l) (hi : i < t) (hk : C 13 0 i = nI k) (h6 : k ≤ 6) (hj : cm_ k y = false) : ev_ (d + 2) kX4_injected [mv_R 22 0, mv_I (nI i), mv_I y] M (Sum.inl (some (mv_I 0))) (th_ M 2) := by
  have h3 := hL.1.2.1
  have hcm := cm_nI (n := t) (by omega) hi
  have hcl : (nI i).toNatClampNeg = i := nI_clamp (by omega)
  have hm := (hL.2.2.2.2.2.2.2 i hi).2.2.2.1.trans hk
  have hbj := bw_cm (n := k) (by omega) y
  refine e_ev rfl rfl ?_
  refine e_run 3 rfl trivial ?_
  try simp only [rd_, up_, Nat.reduceEqDiff, reduceIte, and_self, and_true, true_and, and_false, false_and, if_true, if_false, hcl, hm]
  refine e_calli rfl (rs_isInstance d hL (nI i)) (by decide) ?_
  try simp only [rd_, up_, Nat.reduceEqDiff, reduceIte, and_self, and_true, true_and, and_false, false_and, if_true, if_false, hcl, hm]
  refine e_if rfl (fun h6 => ?_) (fun h6 => absurd h6 (by simp [hcm]))
  refine e_run 8 rfl ?_ ?_
  · ((try simp only [rd_, up_, Nat.reduceEqDiff, reduceIte, and_self, and_true, true_and, and_false, false_and, if_true, if_false, hcl, hm]) <;> and_intros <;> first | trivial | exact in_n (by omega) (by omega) | omega | (unfold vp_in; decide) | (simp only [*]; omega))
  try simp only [rd_, up_, Nat.reduceEqDiff, reduceIte, and_self, and_true, true_and, and_false, false_and, if_true, if_false, hcl, hm]
  refine e_calli rfl (rs_in (d + 1) M y 0 _) (by decide) ?_
  try simp only [rd_, up_, Nat.reduceEqDiff, reduceIte, and_self, and_true, true_and, and_false, false_and, if_true, if_false, hcl, hm]
  refine e_if rfl (fun h26 => absurd (by rw [hbj]; simp [hj]) h26) (fun h26 => ?_)
  refine e_run 5 rfl trivial ?_
  try simp only [rd_, up_, Nat.reduceEqDiff, reduceIte, and_self, and_true, true_and, and_false, false_and, if_true, if_false, hcl, hm]
  refine e_if rfl (fun h41 => absurd h41 (by decide)) (fun h41 => ?_)
  refine e_run 2 rfl trivial ?_
  try simp only [rd_, up_, Nat.reduceEqDiff, reduceIte, and_self, and_true, true_and, and_false, false_and, if_true, if_false, hcl, hm]
  exact e_ret rfl trivial rfl rfl
theorem rp_injected_x (d : Nat) {C M : mv_M} {t e l : Nat} (x y : Int32) (hL : lr_ C M t e l) (h : cm_ t x = false) : ev_ (d + 2) kX4_injected [mv_R 22 0, mv_I x, mv_I y] M (Sum.inl (some (mv_I 0))) (th_ M 1) := by
  refine e_ev rfl rfl ?_
  refine e_run 3 rfl trivial ?_
  try simp only [rd_, up_, Nat.reduceEqDiff, reduceIte, and_self, and_true, true_and, and_false, false_and, if_true, if_false]
  refine e_calli rfl (rs_isInstance d hL x) (by decide) ?_
  try simp only [rd_, up_, Nat.reduceEqDiff, reduceIte, and_self, and_true, true_and, and_false, false_and, if_true, if_false]
  refine e_if rfl (fun h6 => absurd (by simp [h]) h6) (fun h6 => ?_)
  refine e_run 5 rfl trivial ?_
  try simp only [rd_, up_, Nat.reduceEqDiff, reduceIte, and_self, and_true, true_and, and_false, false_and, if_true, if_false]
  refine e_if rfl (fun h41 => absurd h41 (by decide)) (fun h41 => ?_)
  refine e_run 2 rfl trivial ?_
  try simp only [rd_, up_, Nat.reduceEqDiff, reduceIte, and_self, and_true, true_and, and_false, false_and, if_true, if_false]
  exact e_ret rfl trivial rfl rfl
theorem ea_cm (f : Nat → Int32) (m : Nat) (x : Int32) : ea_ f (nI m) x = if x = -1 then nI m else if cm_ m x = true then f x.toNatClampNeg else -1 := by
  unfold ea_ cm_
  simp only [Bool.and_eq_true, Bool.not_eq_true', decide_eq_false_iff_not, decide_eq_true_eq]
theorem rp_failureKind (d : Nat) (M : mv_M) : ev_ d kX4_failureKind [mv_R 22 0] M (Sum.inl (some (mv_I (M 22 0 22)))) (th_ M 0) := by
  refine e_ev rfl rfl ?_
  refine e_run 5 rfl trivial ?_
  try simp only [rd_, up_, Nat.reduceEqDiff, reduceIte, and_self, and_true, true_and, and_false, false_and, if_true, if_false]
  exact e_ret rfl trivial rfl rfl
theorem rp_failureDetail (d : Nat) (M : mv_M) : ev_ d kX4_failureDetail [mv_R 22 0] M (Sum.inl (some (mv_I (M 22 0 23)))) (th_ M 0) := by
  refine e_ev rfl rfl ?_
  refine e_run 5 rfl trivial ?_
  try simp only [rd_, up_, Nat.reduceEqDiff, reduceIte, and_self, and_true, true_and, and_false, false_and, if_true, if_false]
  exact e_ret rfl trivial rfl rfl
theorem rp_event (d e : Nat) (f : Nat → Int32) {M : mv_M} (x : Int32) (he : M 22 0 20 = nI e) (h6 : e ≤ 600) (hv : ∀ i, i < e → M 36 0 i = f i) : ev_ (d + 1) kX4_event [mv_R 22 0, mv_I x] M (Sum.inl (some (mv_I (ea_ f (nI e) x)))) (th_ M 0) := by
  have hbc := bw_cm (n := e) (by omega) x
  rw [ea_cm]
  refine e_ev rfl rfl ?_
  refine e_run 5 rfl trivial ?_
  try simp only [rd_, up_, Nat.reduceEqDiff, reduceIte, and_self, and_true, true_and, and_false, false_and, if_true, if_false, he]
  try simp only [hjl]
  refine e_if rfl (fun h7 => ?_) (fun h7 => ?_)
  · refine e_run 6 rfl trivial ?_
    try simp only [rd_, up_, Nat.reduceEqDiff, reduceIte, and_self, and_true, true_and, and_false, false_and, if_true, if_false, he]
    try simp only [hjl]
    refine e_calli rfl (rs_in d _ x 0 _) (by decide) ?_
    try simp only [rd_, up_, Nat.reduceEqDiff, reduceIte, and_self, and_true, true_and, and_false, false_and, if_true, if_false, he]
    try simp only [hjl]
    refine e_if rfl (fun h28 => ?_) (fun h28 => ?_)
    · have hq : ¬ cm_ e x = true := by
        intro q
        rw [← hbc] at q
        rw [q] at h28
        exact absurd h28 (by decide)
      refine e_run 1 rfl trivial ?_
      try simp only [rd_, up_, Nat.reduceEqDiff, reduceIte, and_self, and_true, true_and, and_false, false_and, if_true, if_false, he]
      try simp only [hjl]
      first
        | exact e_ret rfl trivial (by rw [if_pos h7]) rfl
        | exact e_ret rfl trivial (by rw [if_neg h7, if_pos hq, ← hvj]) rfl
        | exact e_ret rfl trivial (by rw [if_neg h7, if_neg hq]) rfl
    · have hq : cm_ e x = true := by
        rw [← hbc]
        cases hb : bw_ x 0 (nI e - 1) with
        | true => rfl
        | false => rw [hb] at h28; exact absurd rfl h28
      obtain ⟨j, hj, rfl⟩ := cm_t (by omega) hq
      have hjl : (nI j).toNatClampNeg = j := nI_clamp (by omega)
      have hvj := hv j hj
      refine e_run 5 rfl ?_ ?_
      · exact ⟨⟨in_n (by omega) (by omega), by decide⟩, trivial⟩
      try simp only [rd_, up_, Nat.reduceEqDiff, reduceIte, and_self, and_true, true_and, and_false, false_and, if_true, if_false, he]
      try simp only [hjl]
      first
        | exact e_ret rfl trivial (by rw [if_pos h7]) rfl
        | exact e_ret rfl trivial (by rw [if_neg h7, if_pos hq, ← hvj]) rfl
        | exact e_ret rfl trivial (by rw [if_neg h7, if_neg hq]) rfl
  · refine e_run 3 rfl trivial ?_
    try simp only [rd_, up_, Nat.reduceEqDiff, reduceIte, and_self, and_true, true_and, and_false, false_and, if_true, if_false, he]
    try simp only [hjl]
    first
      | exact e_ret rfl trivial (by rw [if_pos h7]) rfl
      | exact e_ret rfl trivial (by rw [if_neg h7, if_pos hq, ← hvj]) rfl
      | exact e_ret rfl trivial (by rw [if_neg h7, if_neg hq]) rfl
theorem rp_failureChain (d e : Nat) (f : Nat → Int32) {M : mv_M} (x : Int32) (he : M 22 0 24 = nI e) (h6 : e ≤ 20) (hv : ∀ i, i < e → M 37 0 i = f i) : ev_ (d + 1) kX4_failureChain [mv_R 22 0, mv_I x] M (Sum.inl (some (mv_I (ea_ f (nI e) x)))) (th_ M 0) := by
  have hbc := bw_cm (n := e) (by omega) x
  rw [ea_cm]
  refine e_ev rfl rfl ?_
  refine e_run 5 rfl trivial ?_
  try simp only [rd_, up_, Nat.reduceEqDiff, reduceIte, and_self, and_true, true_and, and_false, false_and, if_true, if_false, he]
  try simp only [hjl]
  refine e_if rfl (fun h7 => ?_) (fun h7 => ?_)
  · refine e_run 6 rfl trivial ?_
    try simp only [rd_, up_, Nat.reduceEqDiff, reduceIte, and_self, and_true, true_and, and_false, false_and, if_true, if_false, he]
    try simp only [hjl]
    refine e_calli rfl (rs_in d _ x 0 _) (by decide) ?_
    try simp only [rd_, up_, Nat.reduceEqDiff, reduceIte, and_self, and_true, true_and, and_false, false_and, if_true, if_false, he]
    try simp only [hjl]
    refine e_if rfl (fun h28 => ?_) (fun h28 => ?_)
    · have hq : ¬ cm_ e x = true := by
        intro q
        rw [← hbc] at q
        rw [q] at h28
        exact absurd h28 (by decide)
      refine e_run 1 rfl trivial ?_
      try simp only [rd_, up_, Nat.reduceEqDiff, reduceIte, and_self, and_true, true_and, and_false, false_and, if_true, if_false, he]
      try simp only [hjl]
      first
        | exact e_ret rfl trivial (by rw [if_pos h7]) rfl
        | exact e_ret rfl trivial (by rw [if_neg h7, if_pos hq, ← hvj]) rfl
        | exact e_ret rfl trivial (by rw [if_neg h7, if_neg hq]) rfl
    · have hq : cm_ e x = true := by
        rw [← hbc]
        cases hb : bw_ x 0 (nI e - 1) with
        | true => rfl
        | false => rw [hb] at h28; exact absurd rfl h28
      obtain ⟨j, hj, rfl⟩ := cm_t (by omega) hq
      have hjl : (nI j).toNatClampNeg = j := nI_clamp (by omega)
      have hvj := hv j hj
      refine e_run 5 rfl ?_ ?_
      · exact ⟨⟨in_n (by omega) (by omega), by decide⟩, trivial⟩
      try simp only [rd_, up_, Nat.reduceEqDiff, reduceIte, and_self, and_true, true_and, and_false, false_and, if_true, if_false, he]
      try simp only [hjl]
      first
        | exact e_ret rfl trivial (by rw [if_pos h7]) rfl
        | exact e_ret rfl trivial (by rw [if_neg h7, if_pos hq, ← hvj]) rfl
        | exact e_ret rfl trivial (by rw [if_neg h7, if_neg hq]) rfl
  · refine e_run 3 rfl trivial ?_
    try simp only [rd_, up_, Nat.reduceEqDiff, reduceIte, and_self, and_true, true_and, and_false, false_and, if_true, if_false, he]
    try simp only [hjl]
    first
      | exact e_ret rfl trivial (by rw [if_pos h7]) rfl
      | exact e_ret rfl trivial (by rw [if_neg h7, if_pos hq, ← hvj]) rfl
      | exact e_ret rfl trivial (by rw [if_neg h7, if_neg hq]) rfl
