/-! THE CLASS'S PUBLIC METHODS -/
theorem sp_reqC {d n c : Nat} {M : mv_M} (hn : M 1 0 3 = nI n) (h20 : n ≤ 20) (hc : c < n) : ev_ d kX3_requireComponent [mv_R 0 0, mv_I (nI c)] M (Sum.inl none) M := by
  refine e_ev rfl rfl ?_
  refine e_run 1 rfl trivial ?_
  try simp only [hn]
  refine e_if rfl (fun h1 => absurd h1 (nI_pos (by omega))) (fun h1 => ?_)
  refine e_run 4 rfl trivial ?_
  try simp only [hn]
  refine e_if rfl (fun h12 => ?_) (fun h12 => absurd (nI_lt hc (by omega)) h12)
  exact e_ret rfl trivial rfl rfl
theorem sp_reqC_x {d n : Nat} {x : Int32} {M : mv_M} (hn : M 1 0 3 = nI n) (h : x < 0 ∨ ¬ x < nI n) : ev_ d kX3_requireComponent [mv_R 0 0, mv_I x] M (Sum.inr 2) M := by
  refine e_ev rfl rfl ?_
  refine e_run 1 rfl trivial ?_
  try simp only [hn]
  refine e_if rfl (fun h1 => ?_) (fun h1 => ?_)
  · exact e_thr rfl rfl (by decide) rfl rfl
  · refine e_run 4 rfl trivial ?_
    try simp only [hn]
    refine e_if rfl (fun h12 => ?_) (fun h12 => ?_)
    · exact absurd (h.resolve_left h1) (fun q => q h12)
    · exact e_thr rfl rfl (by decide) rfl rfl
theorem sp_reqI {d t i : Nat} {M : mv_M} (hn : M 2 0 5 = nI t) (h20 : t ≤ 300) (hc : i < t) : ev_ d kX3_requireInstance [mv_R 0 0, mv_I (nI i)] M (Sum.inl none) M := by
  refine e_ev rfl rfl ?_
  refine e_run 1 rfl trivial ?_
  try simp only [hn]
  refine e_if rfl (fun h1 => absurd h1 (nI_pos (by omega))) (fun h1 => ?_)
  refine e_run 4 rfl trivial ?_
  try simp only [hn]
  refine e_if rfl (fun h12 => ?_) (fun h12 => absurd (nI_lt hc (by omega)) h12)
  exact e_ret rfl trivial rfl rfl
theorem sp_reqI_x {d t : Nat} {x : Int32} {M : mv_M} (hn : M 2 0 5 = nI t) (h : x < 0 ∨ ¬ x < nI t) : ev_ d kX3_requireInstance [mv_R 0 0, mv_I x] M (Sum.inr 2) M := by
  refine e_ev rfl rfl ?_
  refine e_run 1 rfl trivial ?_
  try simp only [hn]
  refine e_if rfl (fun h1 => ?_) (fun h1 => ?_)
  · exact e_thr rfl rfl (by decide) rfl rfl
  · refine e_run 4 rfl trivial ?_
    try simp only [hn]
    refine e_if rfl (fun h12 => ?_) (fun h12 => ?_)
    · exact absurd (h.resolve_left h1) (fun q => q h12)
    · exact e_thr rfl rfl (by decide) rfl rfl
theorem sp_reqP {d : Nat} {x : Int32} {M : mv_M} (h : bw_ x 0 6 = true) : ev_ (d + 1) kX3_requireProperty [mv_R 0 0, mv_I x] M (Sum.inl none) M := by
  refine e_ev rfl rfl ?_
  refine e_run 3 rfl trivial ?_
  refine e_calli rfl (sp_isBetween d M x 0 6) (by decide) ?_
  refine e_if rfl (fun h7 => ?_) (fun h7 => absurd h7 (by simp [h]))
  exact e_ret rfl trivial rfl rfl
theorem sp_reqP_x {d : Nat} {x : Int32} {M : mv_M} (h : bw_ x 0 6 = false) : ev_ (d + 1) kX3_requireProperty [mv_R 0 0, mv_I x] M (Sum.inr 0) M := by
  refine e_ev rfl rfl ?_
  refine e_run 3 rfl trivial ?_
  refine e_calli rfl (sp_isBetween d M x 0 6) (by decide) ?_
  refine e_if rfl (fun h7 => absurd (by simp [h]) h7) (fun h7 => ?_)
  exact e_thr rfl rfl (by decide) rfl rfl
/-- a type and a qualifier, as they may be -/
def tq_ (t q : Int32) : Bool := bw_ t 0 15 && bw_ q (-1) 9
theorem sp_reqT {d : Nat} {t q : Int32} {M : mv_M} (h : tq_ t q = true) : ev_ (d + 1) kX3_requireTypeAndQualifier [mv_R 0 0, mv_I t, mv_I q] M (Sum.inl none) M := by
  unfold tq_ at h
  rw [Bool.and_eq_true] at h
  refine e_ev rfl rfl ?_
  refine e_run 3 rfl trivial ?_
  refine e_calli rfl (sp_isBetween d M t 0 15) (by decide) ?_
  refine e_if rfl (fun h7 => absurd h7 (by simp [h.1])) (fun h7 => ?_)
  refine e_run 3 rfl trivial ?_
  refine e_calli rfl (sp_isBetween d M q (-1) 9) (by decide) ?_
  refine e_if rfl (fun h17 => ?_) (fun h17 => absurd h17 (by simp [h.2]))
  exact e_ret rfl trivial rfl rfl
theorem sp_reqT_x {d : Nat} {t q : Int32} {M : mv_M} (h : tq_ t q = false) : ev_ (d + 1) kX3_requireTypeAndQualifier [mv_R 0 0, mv_I t, mv_I q] M (Sum.inr 0) M := by
  unfold tq_ at h
  refine e_ev rfl rfl ?_
  refine e_run 3 rfl trivial ?_
  refine e_calli rfl (sp_isBetween d M t 0 15) (by decide) ?_
  refine e_if rfl (fun h7 => ?_) (fun h7 => ?_)
  · exact e_thr rfl rfl (by decide) rfl rfl
  · refine e_run 3 rfl trivial ?_
    refine e_calli rfl (sp_isBetween d M q (-1) 9) (by decide) ?_
    refine e_if rfl (fun h17 => ?_) (fun h17 => ?_)
    · exact absurd h (by simp_all)
    · exact e_thr rfl rfl (by decide) rfl rfl
/-- the static rows -/
def xs_ (M : mv_M) : Prop := mv_xl M 50 = 7 ∧ mv_xl M 51 = 7
/-- may be a property's value -/
def vo_ (M : mv_M) (p : Nat) (v : Int32) : Bool := bw_ v (M 50 0 p) (M 51 0 p)
theorem sp_isPropertyValue (d : Nat) (M : mv_M) (p : Nat) (v : Int32) (hx : xs_ M) (hp : p < 7) : ev_ (d + 1) kX3_isPropertyValue [mv_I (nI p), mv_I v] M (Sum.inl (some (mv_I (if vo_ M p v = true then 1 else 0)))) M := by
  have hcl : (nI p).toNatClampNeg = p := nI_clamp (by omega)
  refine e_ev rfl rfl ?_
  refine e_run 7 rfl ?_ ?_
  · exact ⟨⟨by rw [hx.1]; exact in_n hp (by omega), rfl⟩, ⟨by rw [hx.2]; exact in_n hp (by omega), rfl⟩, trivial⟩
  try simp only [hcl]
  refine e_calli rfl (sp_isBetween d M v _ _) (by decide) ?_
  try simp only [hcl]
  (refine e_ret rfl ?_ rfl rfl; show (if vo_ M p v = true then (1 : Int32) else 0) = 0 ∨ (if vo_ M p v = true then (1 : Int32) else 0) = 1; split <;> simp)
theorem sp_add (d : Nat) (M : mv_M) (n : Nat) (t s : Int32) (hx : xs_ M) (hn : M 1 0 3 = nI n) (h20 : n < 20) (ht : vo_ M 0 t = true) (hs : vo_ M 1 s = true) : ev_ (d + 2) kX3_add [mv_R 0 0, mv_I t, mv_I s] M (Sum.inl (some (mv_I (nI n)))) (ap_ M n t s) := by
  refine e_ev rfl rfl ?_
  refine e_run 2 rfl trivial ?_
  try simp only [hn]
  refine e_calli rfl (sp_isPropertyValue d M 0 t hx (by omega)) (by decide) ?_
  try simp only [hn]
  refine e_if rfl (fun h5 => absurd h5 (by simp [ht])) (fun h5 => ?_)
  refine e_run 2 rfl trivial ?_
  try simp only [hn]
  refine e_calli rfl (sp_isPropertyValue d M 1 s hx (by omega)) (by decide) ?_
  try simp only [hn]
  refine e_if rfl (fun h13 => ?_) (fun h13 => absurd h13 (by simp [hs]))
  refine e_run 4 rfl trivial ?_
  try simp only [hn]
  refine e_if rfl (fun h35 => ?_) (fun h35 => absurd (nI_lt (b := 20) h20 (by omega)) h35)
  refine e_run 4 rfl trivial ?_
  try simp only [hn]
  refine e_calli rfl (sp_append (d + 1) M n t s hn h20) (by decide) ?_
  try simp only [hn]
  exact e_ret rfl trivial rfl rfl
theorem sp_add_i (d : Nat) (M : mv_M) (t s : Int32) (hx : xs_ M) (h : (vo_ M 0 t && vo_ M 1 s) = false) : ev_ (d + 2) kX3_add [mv_R 0 0, mv_I t, mv_I s] M (Sum.inr 0) M := by
  refine e_ev rfl rfl ?_
  refine e_run 2 rfl trivial ?_
  refine e_calli rfl (sp_isPropertyValue d M 0 t hx (by omega)) (by decide) ?_
  refine e_if rfl (fun h5 => ?_) (fun h5 => ?_)
  · exact e_thr rfl rfl (by decide) rfl rfl
  · refine e_run 2 rfl trivial ?_
    refine e_calli rfl (sp_isPropertyValue d M 1 s hx (by omega)) (by decide) ?_
    refine e_if rfl (fun h13 => ?_) (fun h13 => ?_)
    · exact absurd h (by simp_all)
    · exact e_thr rfl rfl (by decide) rfl rfl
theorem sp_add_s (d : Nat) (M : mv_M) (n : Nat) (t s : Int32) (hx : xs_ M) (hn : M 1 0 3 = nI n) (h20 : 20 ≤ n) (hn2 : n ≤ 20) (ht : vo_ M 0 t = true) (hs : vo_ M 1 s = true) : ev_ (d + 2) kX3_add [mv_R 0 0, mv_I t, mv_I s] M (Sum.inr 1) M := by
  refine e_ev rfl rfl ?_
  refine e_run 2 rfl trivial ?_
  try simp only [hn]
  refine e_calli rfl (sp_isPropertyValue d M 0 t hx (by omega)) (by decide) ?_
  try simp only [hn]
  refine e_if rfl (fun h5 => absurd h5 (by simp [ht])) (fun h5 => ?_)
  refine e_run 2 rfl trivial ?_
  try simp only [hn]
  refine e_calli rfl (sp_isPropertyValue d M 1 s hx (by omega)) (by decide) ?_
  try simp only [hn]
  refine e_if rfl (fun h13 => ?_) (fun h13 => absurd h13 (by simp [hs]))
  refine e_run 4 rfl trivial ?_
  try simp only [hn]
  refine e_if rfl (fun h35 => absurd h35 (nI_nlt (b := 20) h20 (by omega))) (fun h35 => ?_)
  exact e_thr rfl rfl (by decide) rfl rfl
theorem sp_set (d : Nat) (M : mv_M) (n c p : Nat) (v : Int32) (hx : xs_ M) (hn : M 1 0 3 = nI n) (h20 : n ≤ 20) (hc : c < n) (hp : p < 7) (hpb : bw_ (nI p) 0 6 = true) (hv : vo_ M p v = true) : ev_ (d + 2) kX3_set [mv_R 0 0, mv_I (nI c), mv_I (nI p), mv_I v] M (Sum.inl (some (mv_I (M 19 c p)))) (mv_up M 19 c p v) := by
  have hcl : (nI c).toNatClampNeg = c := nI_clamp (by omega)
  have hpl : (nI p).toNatClampNeg = p := nI_clamp (by omega)
  refine e_ev rfl rfl ?_
  refine e_run 2 rfl trivial ?_
  try simp only [hcl, hpl]
  refine e_callv rfl (sp_reqC hn h20 hc) (by decide) ?_
  try simp only [hcl, hpl]
  refine e_run 2 rfl trivial ?_
  try simp only [hcl, hpl]
  refine e_callv rfl (sp_reqP hpb) (by decide) ?_
  try simp only [hcl, hpl]
  refine e_run 2 rfl trivial ?_
  try simp only [hcl, hpl]
  refine e_calli rfl (sp_isPropertyValue d M p v hx hp) (by decide) ?_
  try simp only [hcl, hpl]
  refine e_if rfl (fun h15 => ?_) (fun h15 => absurd h15 (by simp [hv]))
  refine e_run 17 rfl ?_ ?_
  · ((try simp only [hcl, hpl]) <;> and_intros <;> first | trivial | exact in_n (by omega) (by omega) | omega | (unfold vp_in; decide) | (simp only [*]; omega))
  try simp only [hcl, hpl]
  exact e_ret rfl trivial rfl rfl
theorem sp_set_x (d : Nat) (M : mv_M) (n : Nat) (x p v : Int32) (hn : M 1 0 3 = nI n) (h : x < 0 ∨ ¬ x < nI n) : ev_ (d + 2) kX3_set [mv_R 0 0, mv_I x, mv_I p, mv_I v] M (Sum.inr 2) M := by
  refine e_ev rfl rfl ?_
  refine e_run 2 rfl trivial ?_
  exact e_callx rfl (sp_reqC_x hn h) (by decide) rfl rfl rfl rfl
theorem sp_set_i (d : Nat) (M : mv_M) (n c : Nat) (p v : Int32) (hn : M 1 0 3 = nI n) (h20 : n ≤ 20) (hc : c < n) (hp : bw_ p 0 6 = false) : ev_ (d + 2) kX3_set [mv_R 0 0, mv_I (nI c), mv_I p, mv_I v] M (Sum.inr 0) M := by
  refine e_ev rfl rfl ?_
  refine e_run 2 rfl trivial ?_
  refine e_callv rfl (sp_reqC hn h20 hc) (by decide) ?_
  refine e_run 2 rfl trivial ?_
  exact e_callx rfl (sp_reqP_x hp) (by decide) rfl rfl rfl rfl
theorem sp_set_v (d : Nat) (M : mv_M) (n c p : Nat) (v : Int32) (hx : xs_ M) (hn : M 1 0 3 = nI n) (h20 : n ≤ 20) (hc : c < n) (hp : p < 7) (hpb : bw_ (nI p) 0 6 = true) (hv : vo_ M p v = false) : ev_ (d + 2) kX3_set [mv_R 0 0, mv_I (nI c), mv_I (nI p), mv_I v] M (Sum.inr 0) M := by
  refine e_ev rfl rfl ?_
  refine e_run 2 rfl trivial ?_
  refine e_callv rfl (sp_reqC hn h20 hc) (by decide) ?_
  refine e_run 2 rfl trivial ?_
  refine e_callv rfl (sp_reqP hpb) (by decide) ?_
  refine e_run 2 rfl trivial ?_
  refine e_calli rfl (sp_isPropertyValue d M p v hx hp) (by decide) ?_
  refine e_if rfl (fun h15 => absurd (by simp [hv]) h15) (fun h15 => ?_)
  exact e_thr rfl rfl (by decide) rfl rfl
