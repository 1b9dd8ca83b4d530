/-! THE CLASS'S PUBLIC METHODS -/
theorem sp_reqC {d n c : Nat} {M : mv_M} (hn : M 1 0 3 = nI n) (h20 : n ≤ 20) (hc : c < n) : ev_ d kX3_requireComponent [mv_R 0 0, mv_I (nI c)] M (Sum.inl none) M := by
  refine e_ev rfl rfl ?_
  refine e_run 1 rfl trivial ?_
  try simp only [hn]
  refine e_if rfl (fun h1 => absurd h1 (nI_pos (by omega))) (fun h1 => ?_)
  refine e_run 4 rfl trivial ?_
  try simp only [hn]
  refine e_if rfl (fun h12 => ?_) (fun h12 => absurd (nI_lt hc (by omega)) h12)
  exact e_ret rfl trivial rfl rfl
theorem sp_reqC_x {d n : Nat} {x : Int32} {M : mv_M} (hn : M 1 0 3 = nI n) (h : x < 0 ∨ ¬ x < nI n) : ev_ d kX3_requireComponent [mv_R 0 0, mv_I x] M (Sum.inr 2) M := by
  refine e_ev rfl rfl ?_
  refine e_run 1 rfl trivial ?_
  try simp only [hn]
  refine e_if rfl (fun h1 => ?_) (fun h1 => ?_)
  · exact e_thr rfl rfl (by decide) rfl rfl
  · refine e_run 4 rfl trivial ?_
    try simp only [hn]
    refine e_if rfl (fun h12 => ?_) (fun h12 => ?_)
    · exact absurd (h.resolve_left h1) (fun q => q h12)
    · exact e_thr rfl rfl (by decide) rfl rfl
theorem sp_reqI {d t i : Nat} {M : mv_M} (hn : M 2 0 5 = nI t) (h20 : t ≤ 300) (hc : i < t) : ev_ d kX3_requireInstance [mv_R 0 0, mv_I (nI i)] M (Sum.inl none) M := by
  refine e_ev rfl rfl ?_
  refine e_run 1 rfl trivial ?_
  try simp only [hn]
  refine e_if rfl (fun h1 => absurd h1 (nI_pos (by omega))) (fun h1 => ?_)
  refine e_run 4 rfl trivial ?_
  try simp only [hn]
  refine e_if rfl (fun h12 => ?_) (fun h12 => absurd (nI_lt hc (by omega)) h12)
  exact e_ret rfl trivial rfl rfl
theorem sp_reqI_x {d t : Nat} {x : Int32} {M : mv_M} (hn : M 2 0 5 = nI t) (h : x < 0 ∨ ¬ x < nI t) : ev_ d kX3_requireInstance [mv_R 0 0, mv_I x] M (Sum.inr 2) M := by
  refine e_ev rfl rfl ?_
  refine e_run 1 rfl trivial ?_
  try simp only [hn]
  refine e_if rfl (fun h1 => ?_) (fun h1 => ?_)
  · exact e_thr rfl rfl (by decide) rfl rfl
  · refine e_run 4 rfl trivial ?_
    try simp only [hn]
    refine e_if rfl (fun h12 => ?_) (fun h12 => ?_)
    · exact absurd (h.resolve_left h1) (fun q => q h12)
    · exact e_thr rfl rfl (by decide) rfl rfl
theorem sp_reqP {d : Nat} {x : Int32} {M : mv_M} (h : bw_ x 0 6 = true) : ev_ (d + 1) kX3_requireProperty [mv_R 0 0, mv_I x] M (Sum.inl none) M := by
  refine e_ev rfl rfl ?_
  refine e_run 3 rfl trivial ?_
  refine e_calli rfl (sp_isBetween d M x 0 6) (by decide) ?_
  refine e_if rfl (fun h7 => ?_) (fun h7 => absurd h7 (by simp [h]))
  exact e_ret rfl trivial rfl rfl
theorem sp_reqP_x {d : Nat} {x : Int32} {M : mv_M} (h : bw_ x 0 6 = false) : ev_ (d + 1) kX3_requireProperty [mv_R 0 0, mv_I x] M (Sum.inr 0) M := by
  refine e_ev rfl rfl ?_
  refine e_run 3 rfl trivial ?_
  refine e_calli rfl (sp_isBetween d M x 0 6) (by decide) ?_
  refine e_if rfl (fun h7 => absurd (by simp [h]) h7) (fun h7 => ?_)
  exact e_thr rfl rfl (by decide) rfl rfl
/-- a type and a qualifier, as they may be -/
def tq_ (t q : Int32) : Bool := bw_ t 0 15 && bw_ q (-1) 9
theorem sp_reqT {d : Nat} {t q : Int32} {M : mv_M} (h : tq_ t q = true) : ev_ (d + 1) kX3_requireTypeAndQualifier [mv_R 0 0, mv_I t, mv_I q] M (Sum.inl none) M := by
  unfold tq_ at h
  rw [Bool.and_eq_true] at h
  refine e_ev rfl rfl ?_
  refine e_run 3 rfl trivial ?_
  refine e_calli rfl (sp_isBetween d M t 0 15) (by decide) ?_
  refine e_if rfl (fun h7 => absurd h7 (by simp [h.1])) (fun h7 => ?_)
  refine e_run 3 rfl trivial ?_
  refine e_calli rfl (sp_isBetween d M q (-1) 9) (by decide) ?_
  refine e_if rfl (fun h17 => ?_) (fun h17 => absurd h17 (by simp [h.2]))
  exact e_ret rfl trivial rfl rfl
theorem sp_reqT_x {d : Nat} {t q : Int32} {M : mv_M} (h : tq_ t q = false) : ev_ (d + 1) kX3_requireTypeAndQualifier [mv_R 0 0, mv_I t, mv_I q] M (Sum.inr 0) M := by
  unfold tq_ at h
  refine e_ev rfl rfl ?_
  refine e_run 3 rfl trivial ?_
  refine e_calli rfl (sp_isBetween d M t 0 15) (by decide) ?_
  refine e_if rfl (fun h7 => ?_) (fun h7 => ?_)
  · exact e_thr rfl rfl (by decide) rfl rfl
  · refine e_run 3 rfl trivial ?_
    refine e_calli rfl (sp_isBetween d M q (-1) 9) (by decide) ?_
    refine e_if rfl (fun h17 => ?_) (fun h17 => ?_)
    · exact absurd h (by simp_all)
    · exact e_thr rfl rfl (by decide) rfl rfl
/-- the static rows -/
def xs_ (M : mv_M) : Prop := mv_xl M 50 = 7 ∧ mv_xl M 51 = 7
/-- may be a property's value -/
def vo_ (M : mv_M) (p : Nat) (v : Int32) : Bool := bw_ v (M 50 0 p) (M 51 0 p)
theorem sp_isPropertyValue (d : Nat) (M : mv_M) (p : Nat) (v : Int32) (hx : xs_ M) (hp : p < 7) : ev_ (d + 1) kX3_isPropertyValue [mv_I (nI p), mv_I v] M (Sum.inl (some (mv_I (if vo_ M p v = true then 1 else 0)))) M := by
  have hcl : (nI p).toNatClampNeg = p := nI_clamp (by omega)
  refine e_ev rfl rfl ?_
  refine e_run 7 rfl ?_ ?_
  · exact ⟨⟨by rw [hx.1]; exact in_n hp (by omega), rfl⟩, ⟨by rw [hx.2]; exact in_n hp (by omega), rfl⟩, trivial⟩
  try simp only [hcl]
  refine e_calli rfl (sp_isBetween d M v _ _) (by decide) ?_
  try simp only [hcl]
  (refine e_ret rfl ?_ rfl rfl; show (if vo_ M p v = true then (1 : Int32) else 0) = 0 ∨ (if vo_ M p v = true then (1 : Int32) else 0) = 1; split <;> simp)
theorem sp_add (d : Nat) (M : mv_M) (n : Nat) (t s : Int32) (hx : xs_ M) (hn : M 1 0 3 = nI n) (h20 : n < 20) (ht : vo_ M 0 t = true) (hs : vo_ M 1 s = true) : ev_ (d + 2) kX3_add [mv_R 0 0, mv_I t, mv_I s] M (Sum.inl (some (mv_I (nI n)))) (ap_ M n t s) := by
  refine e_ev rfl rfl ?_
  refine e_run 2 rfl trivial ?_
  try simp only [hn]
  refine e_calli rfl (sp_isPropertyValue d M 0 t hx (by omega)) (by decide) ?_
  try simp only [hn]
  refine e_if rfl (fun h5 => absurd h5 (by simp [ht])) (fun h5 => ?_)
  refine e_run 2 rfl trivial ?_
  try simp only [hn]
  refine e_calli rfl (sp_isPropertyValue d M 1 s hx (by omega)) (by decide) ?_
  try simp only [hn]
  refine e_if rfl (fun h13 => ?_) (fun h13 => absurd h13 (by simp [hs]))
  refine e_run 4 rfl trivial ?_
  try simp only [hn]
  refine e_if rfl (fun h35 => ?_) (fun h35 => absurd (nI_lt (b := 20) h20 (by omega)) h35)
  refine e_run 4 rfl trivial ?_
  try simp only [hn]
  refine e_calli rfl (sp_append (d + 1) M n t s hn h20) (by decide) ?_
  try simp only [hn]
  exact e_ret rfl trivial rfl rfl
theorem sp_add_i (d : Nat) (M : mv_M) (t s : Int32) (hx : xs_ M) (h : (vo_ M 0 t && vo_ M 1 s) = false) : ev_ (d + 2) kX3_add [mv_R 0 0, mv_I t, mv_I s] M (Sum.inr 0) M := by
  refine e_ev rfl rfl ?_
  refine e_run 2 rfl trivial ?_
  refine e_calli rfl (sp_isPropertyValue d M 0 t hx (by omega)) (by decide) ?_
  refine e_if rfl (fun h5 => ?_) (fun h5 => ?_)
  · exact e_thr rfl rfl (by decide) rfl rfl
  · refine e_run 2 rfl trivial ?_
    refine e_calli rfl (sp_isPropertyValue d M 1 s hx (by omega)) (by decide) ?_
    refine e_if rfl (fun h13 => ?_) (fun h13 => ?_)
    · exact absurd h (by simp_all)
    · exact e_thr rfl rfl (by decide) rfl rfl
theorem sp_add_s (d : Nat) (M : mv_M) (n : Nat) (t s : Int32) (hx : xs_ M) (hn : M 1 0 3 = nI n) (h20 : 20 ≤ n) (hn2 : n ≤ 20) (ht : vo_ M 0 t = true) (hs : vo_ M 1 s = true) : ev_ (d + 2) kX3_add [mv_R 0 0, mv_I t, mv_I s] M (Sum.inr 1) M := by
  refine e_ev rfl rfl ?_
  refine e_run 2 rfl trivial ?_
  try simp only [hn]
  refine e_calli rfl (sp_isPropertyValue d M 0 t hx (by omega)) (by decide) ?_
  try simp only [hn]
  refine e_if rfl (fun h5 => absurd h5 (by simp [ht])) (fun h5 => ?_)
  refine e_run 2 rfl trivial ?_
  try simp only [hn]
  refine e_calli rfl (sp_isPropertyValue d M 1 s hx (by omega)) (by decide) ?_
  try simp only [hn]
  refine e_if rfl (fun h13 => ?_) (fun h13 => absurd h13 (by simp [hs]))
  refine e_run 4 rfl trivial ?_
  try simp only [hn]
  refine e_if rfl (fun h35 => absurd h35 (nI_nlt (b := 20) h20 (by omega))) (fun h35 => ?_)
  exact e_thr rfl rfl (by decide) rfl rfl
theorem sp_set (d : Nat) (M : mv_M) (n c p : Nat) (v : Int32) (hx : xs_ M) (hn : M 1 0 3 = nI n) (h20 : n ≤ 20) (hc : c < n) (hp : p < 7) (hpb : bw_ (nI p) 0 6 = true) (hv : vo_ M p v = true) : ev_ (d + 2) kX3_set [mv_R 0 0, mv_I (nI c), mv_I (nI p), mv_I v] M (Sum.inl (some (mv_I (M 19 c p)))) (mv_up M 19 c p v) := by
  have hcl : (nI c).toNatClampNeg = c := nI_clamp (by omega)
  have hpl : (nI p).toNatClampNeg = p := nI_clamp (by omega)
  refine e_ev rfl rfl ?_
  refine e_run 2 rfl trivial ?_
  try simp only [hcl, hpl]
  refine e_callv rfl (sp_reqC hn h20 hc) (by decide) ?_
  try simp only [hcl, hpl]
  refine e_run 2 rfl trivial ?_
  try simp only [hcl, hpl]
  refine e_callv rfl (sp_reqP hpb) (by decide) ?_
  try simp only [hcl, hpl]
  refine e_run 2 rfl trivial ?_
  try simp only [hcl, hpl]
  refine e_calli rfl (sp_isPropertyValue d M p v hx hp) (by decide) ?_
  try simp only [hcl, hpl]
  refine e_if rfl (fun h15 => ?_) (fun h15 => absurd h15 (by simp [hv]))
  refine e_run 17 rfl ?_ ?_
  · ((try simp only [hcl, hpl]) <;> and_intros <;> first | trivial | exact in_n (by omega) (by omega) | omega | (unfold vp_in; decide) | (simp only [*]; omega))
  try simp only [hcl, hpl]
  exact e_ret rfl trivial rfl rfl
theorem sp_set_x (d : Nat) (M : mv_M) (n : Nat) (x p v : Int32) (hn : M 1 0 3 = nI n) (h : x < 0 ∨ ¬ x < nI n) : ev_ (d + 2) kX3_set [mv_R 0 0, mv_I x, mv_I p, mv_I v] M (Sum.inr 2) M := by
  refine e_ev rfl rfl ?_
  refine e_run 2 rfl trivial ?_
  exact e_callx rfl (sp_reqC_x hn h) (by decide) rfl rfl rfl rfl
theorem sp_set_i (d : Nat) (M : mv_M) (n c : Nat) (p v : Int32) (hn : M 1 0 3 = nI n) (h20 : n ≤ 20) (hc : c < n) (hp : bw_ p 0 6 = false) : ev_ (d + 2) kX3_set [mv_R 0 0, mv_I (nI c), mv_I p, mv_I v] M (Sum.inr 0) M := by
  refine e_ev rfl rfl ?_
  refine e_run 2 rfl trivial ?_
  refine e_callv rfl (sp_reqC hn h20 hc) (by decide) ?_
  refine e_run 2 rfl trivial ?_
  exact e_callx rfl (sp_reqP_x hp) (by decide) rfl rfl rfl rfl
theorem sp_set_v (d : Nat) (M : mv_M) (n c p : Nat) (v : Int32) (hx : xs_ M) (hn : M 1 0 3 = nI n) (h20 : n ≤ 20) (hc : c < n) (hp : p < 7) (hpb : bw_ (nI p) 0 6 = true) (hv : vo_ M p v = false) : ev_ (d + 2) kX3_set [mv_R 0 0, mv_I (nI c), mv_I (nI p), mv_I v] M (Sum.inr 0) M := by
  refine e_ev rfl rfl ?_
  refine e_run 2 rfl trivial ?_
  refine e_callv rfl (sp_reqC hn h20 hc) (by decide) ?_
  refine e_run 2 rfl trivial ?_
  refine e_callv rfl (sp_reqP hpb) (by decide) ?_
  refine e_run 2 rfl trivial ?_
  refine e_calli rfl (sp_isPropertyValue d M p v hx hp) (by decide) ?_
  refine e_if rfl (fun h15 => absurd (by simp [hv]) h15) (fun h15 => ?_)
  exact e_thr rfl rfl (by decide) rfl rfl
theorem sp_property (d : Nat) (M : mv_M) (n c p : Nat) (hn : M 1 0 3 = nI n) (h20 : n ≤ 20) (hc : c < n) (hp : p < 7) (hpb : bw_ (nI p) 0 6 = true) : ev_ (d + 2) kX3_property [mv_R 0 0, mv_I (nI c), mv_I (nI p)] M (Sum.inl (some (mv_I (M 19 c p)))) M := by
  have hcl : (nI c).toNatClampNeg = c := nI_clamp (by omega)
  have hpl : (nI p).toNatClampNeg = p := nI_clamp (by omega)
  refine e_ev rfl rfl ?_
  refine e_run 2 rfl trivial ?_
  try simp only [hcl, hpl]
  refine e_callv rfl (sp_reqC hn h20 hc) (by decide) ?_
  try simp only [hcl, hpl]
  refine e_run 2 rfl trivial ?_
  try simp only [hcl, hpl]
  refine e_callv rfl (sp_reqP hpb) (by decide) ?_
  try simp only [hcl, hpl]
  refine e_run 7 rfl ?_ ?_
  · ((try simp only [hcl, hpl]) <;> and_intros <;> first | trivial | exact in_n (by omega) (by omega) | omega | (unfold vp_in; decide) | (simp only [*]; omega))
  try simp only [hcl, hpl]
  exact e_ret rfl trivial rfl rfl
theorem sp_property_x (d : Nat) (M : mv_M) (n : Nat) (x p : Int32) (hn : M 1 0 3 = nI n) (h : x < 0 ∨ ¬ x < nI n) : ev_ (d + 2) kX3_property [mv_R 0 0, mv_I x, mv_I p] M (Sum.inr 2) M := by
  refine e_ev rfl rfl ?_
  refine e_run 2 rfl trivial ?_
  exact e_callx rfl (sp_reqC_x hn h) (by decide) rfl rfl rfl rfl
theorem sp_property_i (d : Nat) (M : mv_M) (n c : Nat) (p : Int32) (hn : M 1 0 3 = nI n) (h20 : n ≤ 20) (hc : c < n) (hp : bw_ p 0 6 = false) : ev_ (d + 2) kX3_property [mv_R 0 0, mv_I (nI c), mv_I p] M (Sum.inr 0) M := by
  refine e_ev rfl rfl ?_
  refine e_run 2 rfl trivial ?_
  refine e_callv rfl (sp_reqC hn h20 hc) (by decide) ?_
  refine e_run 2 rfl trivial ?_
  exact e_callx rfl (sp_reqP_x hp) (by decide) rfl rfl rfl rfl
theorem sp_depend (d : Nat) (M : mv_M) (n c k : Nat) (t q m : Int32) (hn : M 1 0 3 = nI n) (h20 : n ≤ 20) (hc : c < n) (ht : tq_ t q = true) (hm : bw_ m 0 3 = true) (hk : M 8 0 c = nI k) (h6 : k < 6) : ev_ (d + 2) kX3_depend [mv_R 0 0, mv_I (nI c), mv_I t, mv_I q, mv_I m] M (Sum.inl (some (mv_I (nI k)))) (ad_ M c k t q m) := by
  have hcl : (nI c).toNatClampNeg = c := nI_clamp (by omega)
  refine e_ev rfl rfl ?_
  refine e_run 2 rfl trivial ?_
  try simp only [hcl, hk]
  refine e_callv rfl (sp_reqC hn h20 hc) (by decide) ?_
  try simp only [hcl, hk]
  refine e_run 3 rfl trivial ?_
  try simp only [hcl, hk]
  refine e_callv rfl (sp_reqT ht) (by decide) ?_
  try simp only [hcl, hk]
  refine e_run 3 rfl trivial ?_
  try simp only [hcl, hk]
  refine e_calli rfl (sp_isBetween (d + 1) M m 0 3) (by decide) ?_
  try simp only [hcl, hk]
  refine e_if rfl (fun h18 => ?_) (fun h18 => absurd h18 (by simp [hm]))
  refine e_run 6 rfl ?_ ?_
  · ((try simp only [hcl, hk]) <;> and_intros <;> first | trivial | exact in_n (by omega) (by omega) | omega | (unfold vp_in; decide) | (simp only [*]; omega))
  try simp only [hcl, hk]
  refine e_if rfl (fun h42 => ?_) (fun h42 => absurd (nI_lt (b := 6) h6 (by omega)) h42)
  refine e_run 6 rfl trivial ?_
  try simp only [hcl, hk]
  refine e_calli rfl (sp_appendDependency (d + 1) M c k t q m (by omega) hk h6) (by decide) ?_
  try simp only [hcl, hk]
  exact e_ret rfl trivial rfl rfl
theorem sp_depend_x (d : Nat) (M : mv_M) (n : Nat) (x t q m : Int32) (hn : M 1 0 3 = nI n) (h : x < 0 ∨ ¬ x < nI n) : ev_ (d + 2) kX3_depend [mv_R 0 0, mv_I x, mv_I t, mv_I q, mv_I m] M (Sum.inr 2) M := by
  refine e_ev rfl rfl ?_
  refine e_run 2 rfl trivial ?_
  exact e_callx rfl (sp_reqC_x hn h) (by decide) rfl rfl rfl rfl
theorem sp_depend_i (d : Nat) (M : mv_M) (n c : Nat) (t q m : Int32) (hn : M 1 0 3 = nI n) (h20 : n ≤ 20) (hc : c < n) (ht : tq_ t q = false) : ev_ (d + 2) kX3_depend [mv_R 0 0, mv_I (nI c), mv_I t, mv_I q, mv_I m] M (Sum.inr 0) M := by
  refine e_ev rfl rfl ?_
  refine e_run 2 rfl trivial ?_
  refine e_callv rfl (sp_reqC hn h20 hc) (by decide) ?_
  refine e_run 3 rfl trivial ?_
  exact e_callx rfl (sp_reqT_x ht) (by decide) rfl rfl rfl rfl
theorem sp_depend_m (d : Nat) (M : mv_M) (n c : Nat) (t q m : Int32) (hn : M 1 0 3 = nI n) (h20 : n ≤ 20) (hc : c < n) (ht : tq_ t q = true) (hm : bw_ m 0 3 = false) : ev_ (d + 2) kX3_depend [mv_R 0 0, mv_I (nI c), mv_I t, mv_I q, mv_I m] M (Sum.inr 0) M := by
  refine e_ev rfl rfl ?_
  refine e_run 2 rfl trivial ?_
  refine e_callv rfl (sp_reqC hn h20 hc) (by decide) ?_
  refine e_run 3 rfl trivial ?_
  refine e_callv rfl (sp_reqT ht) (by decide) ?_
  refine e_run 3 rfl trivial ?_
  refine e_calli rfl (sp_isBetween (d + 1) M m 0 3) (by decide) ?_
  refine e_if rfl (fun h18 => absurd (by simp [hm]) h18) (fun h18 => ?_)
  exact e_thr rfl rfl (by decide) rfl rfl
theorem sp_depend_s (d : Nat) (M : mv_M) (n c k : Nat) (t q m : Int32) (hn : M 1 0 3 = nI n) (h20 : n ≤ 20) (hc : c < n) (ht : tq_ t q = true) (hm : bw_ m 0 3 = true) (hk : M 8 0 c = nI k) (h6 : 6 ≤ k) (h62 : k ≤ 6) : ev_ (d + 2) kX3_depend [mv_R 0 0, mv_I (nI c), mv_I t, mv_I q, mv_I m] M (Sum.inr 1) M := by
  have hcl : (nI c).toNatClampNeg = c := nI_clamp (by omega)
  refine e_ev rfl rfl ?_
  refine e_run 2 rfl trivial ?_
  try simp only [hcl, hk]
  refine e_callv rfl (sp_reqC hn h20 hc) (by decide) ?_
  try simp only [hcl, hk]
  refine e_run 3 rfl trivial ?_
  try simp only [hcl, hk]
  refine e_callv rfl (sp_reqT ht) (by decide) ?_
  try simp only [hcl, hk]
  refine e_run 3 rfl trivial ?_
  try simp only [hcl, hk]
  refine e_calli rfl (sp_isBetween (d + 1) M m 0 3) (by decide) ?_
  try simp only [hcl, hk]
  refine e_if rfl (fun h18 => ?_) (fun h18 => absurd h18 (by simp [hm]))
  refine e_run 6 rfl ?_ ?_
  · ((try simp only [hcl, hk]) <;> and_intros <;> first | trivial | exact in_n (by omega) (by omega) | omega | (unfold vp_in; decide) | (simp only [*]; omega))
  try simp only [hcl, hk]
  refine e_if rfl (fun h42 => absurd h42 (nI_nlt (b := 6) h6 (by omega))) (fun h42 => ?_)
  exact e_thr rfl rfl (by decide) rfl rfl
theorem sp_clear (d : Nat) (M : mv_M) (n c : Nat) (hn : M 1 0 3 = nI n) (h20 : n ≤ 20) (hc : c < n) : ev_ (d + 2) kX3_clear [mv_R 0 0, mv_I (nI c)] M (Sum.inl (some (mv_I (M 8 0 c)))) (mv_up M 8 0 c 0) := by
  have hcl : (nI c).toNatClampNeg = c := nI_clamp (by omega)
  refine e_ev rfl rfl ?_
  refine e_run 2 rfl trivial ?_
  try simp only [hcl]
  refine e_callv rfl (sp_reqC hn h20 hc) (by decide) ?_
  try simp only [hcl]
  refine e_run 13 rfl ?_ ?_
  · ((try simp only [hcl]) <;> and_intros <;> first | trivial | exact in_n (by omega) (by omega) | omega | (unfold vp_in; decide) | (simp only [*]; omega))
  try simp only [hcl]
  exact e_ret rfl trivial rfl rfl
theorem sp_clear_x (d : Nat) (M : mv_M) (n : Nat) (x : Int32) (hn : M 1 0 3 = nI n) (h : x < 0 ∨ ¬ x < nI n) : ev_ (d + 2) kX3_clear [mv_R 0 0, mv_I x] M (Sum.inr 2) M := by
  refine e_ev rfl rfl ?_
  refine e_run 2 rfl trivial ?_
  exact e_callx rfl (sp_reqC_x hn h) (by decide) rfl rfl rfl rfl
/-- a dependency's part, as it is asked -/
def de_ (M : mv_M) (c : Nat) (i : Int32) (p : Nat) : Int32 := if i = -1 then M 8 0 c else if ¬ i < 0 ∧ i < M 8 0 c then M 20 c (3 * i.toNatClampNeg + p) else -1
theorem sp_dependency (d : Nat) (M : mv_M) (n c k p : Nat) (i : Int32) (hn : M 1 0 3 = nI n) (h20 : n ≤ 20) (hc : c < n) (hk : M 8 0 c = nI k) (h6 : k ≤ 6) (hp : p < 3) (hpb : bw_ (nI p) 0 2 = true) : ev_ (d + 2) kX3_dependency [mv_R 0 0, mv_I (nI c), mv_I i, mv_I (nI p)] M (Sum.inl (some (mv_I (de_ M c i p)))) M := by
  have hcl : (nI c).toNatClampNeg = c := nI_clamp (by omega)
  refine e_ev rfl rfl ?_
  refine e_run 2 rfl trivial ?_
  try simp only [hcl]
  refine e_callv rfl (sp_reqC hn h20 hc) (by decide) ?_
  try simp only [hcl]
  refine e_run 3 rfl trivial ?_
  try simp only [hcl]
  refine e_calli rfl (sp_isBetween (d + 1) M (nI p) 0 2) (by decide) ?_
  try simp only [hcl]
  refine e_if rfl (fun h11 => ?_) (fun h11 => absurd h11 (by simp [hpb]))
  refine e_run 2 rfl trivial ?_
  try simp only [hcl]
  refine e_if rfl (fun h26 => ?_) (fun h26 => ?_)
  · refine e_run 4 rfl trivial ?_
    try simp only [hcl]
    refine e_calli rfl (sp_hasDependency (d + 1) M c i (by omega)) (by decide) ?_
    try simp only [hcl]
    refine e_if rfl (fun h48 => ?_) (fun h48 => ?_)
    · have hno : ¬ (¬ i < 0 ∧ i < M 8 0 c) := by
        intro q
        rw [if_pos q] at h48
        exact absurd h48 (by decide)
      refine e_run 1 rfl trivial ?_
      try simp only [hcl]
      first
        | exact e_ret rfl trivial (by rw [de_, if_neg h26, if_neg hno]) rfl
        | exact e_ret rfl trivial (by rw [de_, if_neg h26, if_pos hyes, hjl]) rfl
    · obtain ⟨hi0, hi1⟩ : ¬ i < 0 ∧ i < M 8 0 c := by
        by_cases q : ¬ i < 0 ∧ i < M 8 0 c
        · exact q
        · rw [if_neg q] at h48; exact absurd rfl h48
      have hyes : ¬ i < 0 ∧ i < M 8 0 c := ⟨hi0, hi1⟩
      obtain ⟨j, hj, rfl⟩ := nI_of hi0
      rw [hk] at hi1
      have hjk := (nI_ltI hj (by omega)).mp hi1
      have hjl : (nI j).toNatClampNeg = j := nI_clamp hj
      refine e_run 5 rfl trivial ?_
      try simp only [hcl]
      refine e_calli rfl (sp_partOf (d + 1) M c j p (by omega) (by omega) hp) (by decide) ?_
      try simp only [hcl]
      refine e_run 1 rfl trivial ?_
      try simp only [hcl]
      first
        | exact e_ret rfl trivial (by rw [de_, if_neg h26, if_neg hno]) rfl
        | exact e_ret rfl trivial (by rw [de_, if_neg h26, if_pos hyes, hjl]) rfl
  · refine e_run 5 rfl ?_ ?_
    · ((try simp only [hcl]) <;> and_intros <;> first | trivial | exact in_n (by omega) (by omega) | omega | (unfold vp_in; decide) | (simp only [*]; omega))
    try simp only [hcl]
    exact e_ret rfl trivial (by rw [de_, if_pos h26]) rfl
theorem sp_dependency_x (d : Nat) (M : mv_M) (n : Nat) (x i p : Int32) (hn : M 1 0 3 = nI n) (h : x < 0 ∨ ¬ x < nI n) : ev_ (d + 2) kX3_dependency [mv_R 0 0, mv_I x, mv_I i, mv_I p] M (Sum.inr 2) M := by
  refine e_ev rfl rfl ?_
  refine e_run 2 rfl trivial ?_
  exact e_callx rfl (sp_reqC_x hn h) (by decide) rfl rfl rfl rfl
theorem sp_dependency_i (d : Nat) (M : mv_M) (n c : Nat) (i p : Int32) (hn : M 1 0 3 = nI n) (h20 : n ≤ 20) (hc : c < n) (hp : bw_ p 0 2 = false) : ev_ (d + 2) kX3_dependency [mv_R 0 0, mv_I (nI c), mv_I i, mv_I p] M (Sum.inr 0) M := by
  refine e_ev rfl rfl ?_
  refine e_run 2 rfl trivial ?_
  refine e_callv rfl (sp_reqC hn h20 hc) (by decide) ?_
  refine e_run 3 rfl trivial ?_
  refine e_calli rfl (sp_isBetween (d + 1) M p 0 2) (by decide) ?_
  refine e_if rfl (fun h11 => absurd (by simp [hp]) h11) (fun h11 => ?_)
  exact e_thr rfl rfl (by decide) rfl rfl
theorem sp_profile (d : Nat) (M : mv_M) (p : Nat) (on : Int32) (hp : bw_ (nI p) 0 7 = true) : ev_ (d + 2) kX3_profile [mv_R 0 0, mv_I (nI p), mv_I on] M (Sum.inl (some (mv_I (if ii_ (M 1 0 4) p = true then 1 else 0)))) (tp_ M (nI p) on) := by
  refine e_ev rfl rfl ?_
  refine e_run 3 rfl trivial ?_
  refine e_calli rfl (sp_isBetween (d + 1) M (nI p) 0 7) (by decide) ?_
  refine e_if rfl (fun h7 => ?_) (fun h7 => absurd h7 (by simp [hp]))
  refine e_run 4 rfl trivial ?_
  refine e_calli rfl (sp_isIn (d + 1) M _ p) (by decide) ?_
  refine e_run 5 rfl trivial ?_
  refine e_callv rfl (sp_turnProfile (d + 1) M (nI p) on) (by decide) ?_
  refine e_run 1 rfl trivial ?_
  (refine e_ret rfl ?_ rfl rfl; show (if ii_ (M 1 0 4) p = true then (1 : Int32) else 0) = 0 ∨ (if ii_ (M 1 0 4) p = true then (1 : Int32) else 0) = 1; split <;> simp)
theorem sp_profile_i (d : Nat) (M : mv_M) (p on : Int32) (hp : bw_ p 0 7 = false) : ev_ (d + 2) kX3_profile [mv_R 0 0, mv_I p, mv_I on] M (Sum.inr 0) M := by
  refine e_ev rfl rfl ?_
  refine e_run 3 rfl trivial ?_
  refine e_calli rfl (sp_isBetween (d + 1) M p 0 7) (by decide) ?_
  refine e_if rfl (fun h7 => absurd (by simp [hp]) h7) (fun h7 => ?_)
  exact e_thr rfl rfl (by decide) rfl rfl
theorem sp_components (d : Nat) (M : mv_M) : ev_ d kX3_components [mv_R 0 0] M (Sum.inl (some (mv_I (M 1 0 3)))) M := by
  refine e_ev rfl rfl ?_
  refine e_run 3 rfl trivial ?_
  exact e_ret rfl trivial rfl rfl
theorem sp_candidates (d : Nat) (M : mv_M) (n : Nat) (t q : Int32) (hn : M 1 0 3 = nI n) (h20 : n ≤ 20) (ht : tq_ t q = true) : ev_ (d + 2) kX3_candidates [mv_R 0 0, mv_I t, mv_I q] M (Sum.inl (some (mv_I (mk_ (cb_ M t q) n)))) M := by
  refine e_ev rfl rfl ?_
  refine e_run 3 rfl trivial ?_
  refine e_callv rfl (sp_reqT ht) (by decide) ?_
  refine e_run 4 rfl trivial ?_
  refine e_calli rfl (sp_candidateMask d M n t q hn h20) (by decide) ?_
  exact e_ret rfl trivial rfl rfl
theorem sp_candidates_i (d : Nat) (M : mv_M) (t q : Int32) (ht : tq_ t q = false) : ev_ (d + 2) kX3_candidates [mv_R 0 0, mv_I t, mv_I q] M (Sum.inr 0) M := by
  refine e_ev rfl rfl ?_
  refine e_run 3 rfl trivial ?_
  exact e_callx rfl (sp_reqT_x ht) (by decide) rfl rfl rfl rfl
theorem sp_chosen (d : Nat) (M : mv_M) (n : Nat) (t q : Int32) (hn : M 1 0 3 = nI n) (h20 : n ≤ 20) (ht : tq_ t q = true) : ev_ (d + 2) kX3_chosen [mv_R 0 0, mv_I t, mv_I q] M (Sum.inl (some (mv_I (ch_ M n (mk_ (cb_ M t q) n))))) M := by
  refine e_ev rfl rfl ?_
  refine e_run 3 rfl trivial ?_
  refine e_callv rfl (sp_reqT ht) (by decide) ?_
  refine e_run 6 rfl trivial ?_
  refine e_calli rfl (sp_candidateMask d M n t q hn h20) (by decide) ?_
  refine e_calli rfl (sp_choiceAmong d M n _ hn h20) (by decide) ?_
  exact e_ret rfl trivial rfl rfl
theorem sp_chosen_i (d : Nat) (M : mv_M) (t q : Int32) (ht : tq_ t q = false) : ev_ (d + 2) kX3_chosen [mv_R 0 0, mv_I t, mv_I q] M (Sum.inr 0) M := by
  refine e_ev rfl rfl ?_
  refine e_run 3 rfl trivial ?_
  exact e_callx rfl (sp_reqT_x ht) (by decide) rfl rfl rfl rfl
theorem cn_le (u : Int32) : ∀ n : Nat, cn_ u n ≤ n
  | 0 => Nat.le_refl 0
  | n + 1 => by
    unfold cn_
    have := cn_le u n
    split <;> omega
/-- the trial, from the start -/
def tr_ (M : mv_M) (n c : Nat) : Int32 × mv_M := mTc n 21 c 0 (mv_up M 0 0 6 0)
theorem sp_problem (d : Nat) (M : mv_M) (n c : Nat) (hV : cv_ M n) (hc : c < n) : ev_ (d + 65) kX3_problem [mv_R 0 0, mv_I (nI c)] M (Sum.inl (some (mv_I (tr_ M n c).1))) (tr_ M n c).2 := by
  have hn := hV.1.1
  have h20 := hV.1.2.1
  have ht := sp_tryConstruction n 21 0 (by have := cn_le 0 n; omega) c (mv_up M 0 0 6 0) hc (cv_6 hV)
  refine e_ev rfl rfl ?_
  refine e_run 2 rfl trivial ?_
  refine e_callv rfl (sp_reqC hn h20 hc) (by decide) ?_
  refine e_run 6 rfl trivial ?_
  refine e_calli rfl (ev_le ht.1 (by omega)) (by decide) ?_
  exact e_ret rfl trivial rfl rfl
theorem sp_problem_x (d : Nat) (M : mv_M) (n : Nat) (x : Int32) (hn : M 1 0 3 = nI n) (h : x < 0 ∨ ¬ x < nI n) : ev_ (d + 2) kX3_problem [mv_R 0 0, mv_I x] M (Sum.inr 2) M := by
  refine e_ev rfl rfl ?_
  refine e_run 2 rfl trivial ?_
  exact e_callx rfl (sp_reqC_x hn h) (by decide) rfl rfl rfl rfl
theorem sp_needs (d : Nat) (M : mv_M) (n c : Nat) (hC : ci_ M n) (hc : c < n) : ev_ (d + 6) kX3_needs [mv_R 0 0, mv_I (nI c)] M (Sum.inl (some (mv_I (ao_ M n n (dn_ M n c (dc_ M c)))))) M := by
  have hn := hC.1
  have h20 := hC.2.1
  refine e_ev rfl rfl ?_
  refine e_run 2 rfl trivial ?_
  refine e_callv rfl (sp_reqC hn h20 hc) (by decide) ?_
  refine e_run 3 rfl trivial ?_
  refine e_calli rfl (sp_allNeeds d M n c hC (by omega)) (by decide) ?_
  exact e_ret rfl trivial rfl rfl
theorem sp_needs_x (d : Nat) (M : mv_M) (n : Nat) (x : Int32) (hn : M 1 0 3 = nI n) (h : x < 0 ∨ ¬ x < nI n) : ev_ (d + 2) kX3_needs [mv_R 0 0, mv_I x] M (Sum.inr 2) M := by
  refine e_ev rfl rfl ?_
  refine e_run 2 rfl trivial ?_
  exact e_callx rfl (sp_reqC_x hn h) (by decide) rfl rfl rfl rfl
theorem li_df (f : Nat) (pl : Int32) (t : Nat) : ∀ (i : Nat) (M : mv_M) (e k : Nat), i ≤ t → li_ M t e → ∃ e', li_ (df_ f pl i M k).1 t e'
  | 0, M, e, k, _, hL => ⟨e, hL⟩
  | i + 1, M, e, k, hi, hL => by
    rw [df_s]
    split
    · exact ⟨e, hL⟩
    · split
      · next h =>
        have hl : ¬ M 11 0 i = 0 := by
          unfold dl_ at h
          intro q
          rw [q] at h
          exact absurd h (by simp)
        have h4 := hL.2.2.2.1
        have h2 := hL.2.1
        rw [hL.2.2.1, nI_clamp (by omega)]
        exact li_df f pl t i _ (e + 1) _ (by omega) (li_ds hL (by omega) hl)
      · exact li_df f pl t i M e k (by omega) hL
theorem ds_o (M : mv_M) (i e x : Nat) (h2 : x ≠ 2) (h11 : x ≠ 11) (h16 : x ≠ 16) (h21 : x ≠ 21) : ds_ M i e x = M x := by
  unfold ds_ rc_
  split <;> (repeat first | rw [mv_up_ne (by omega)])
theorem df_o (f : Nat) (pl : Int32) (x : Nat) (h2 : x ≠ 2) (h11 : x ≠ 11) (h16 : x ≠ 16) (h21 : x ≠ 21) : ∀ (i : Nat) (M : mv_M) (k : Nat), (df_ f pl i M k).1 x = M x
  | 0, M, k => rfl
  | i + 1, M, k => by
    rw [df_s]
    split
    · rfl
    · split
      · rw [df_o f pl x h2 h11 h16 h21 i _ _]
        exact ds_o M i _ x h2 h11 h16 h21
      · exact df_o f pl x h2 h11 h16 h21 i _ _
theorem cv_da {M : mv_M} {n f t e : Nat} {pl : Int32} (h : cv_ M n) (hL : li_ M t e) : cv_ (da_ M f pl t).1 n ∧ ∃ e', li_ (da_ M f pl t).1 t e' := by
  obtain ⟨e', hL'⟩ := li_df f pl t t M e 0 (Nat.le_refl t) hL
  refine ⟨?_, e', hL'⟩
  obtain ⟨⟨a1, a2, a3⟩, -, c1, d1⟩ := h
  unfold da_
  refine ⟨⟨?_, a2, fun c hc => ?_⟩, ⟨t, e', hL'⟩, ?_, ?_⟩
  · rw [df_o f pl 1 (by omega) (by omega) (by omega) (by omega)]; exact a1
  · unfold dc_
    rw [df_o f pl 8 (by omega) (by omega) (by omega) (by omega)]; exact a3 c hc
  · rw [df_o f pl 0 (by omega) (by omega) (by omega) (by omega)]; exact c1
  · rw [df_o f pl 19 (by omega) (by omega) (by omega) (by omega)]; exact d1
/-- the prototypes of a call that failed are destroyed -/
def fp_ (M : mv_M) (t0 : Int32) : mv_M := (da_ M t0.toNatClampNeg (-1) (M 2 0 5).toNatClampNeg).1
theorem sp_fp (d n t0 : Nat) (M : mv_M) (hV : cv_ M n) (h0 : t0 ≤ 300) : ev_ (d + 3) kX2_destroyPrototypesFrom [mv_R 2 0, mv_I (nI t0)] M (Sum.inl none) (fp_ M (nI t0)) ∧ cv_ (fp_ M (nI t0)) n := by
  obtain ⟨t, e, hL⟩ := hV.2.1
  have h2 := hL.2.1
  unfold fp_
  rw [hL.1, nI_clamp (by omega), nI_clamp (by omega)]
  exact ⟨sp_destroyPrototypesFrom d M t0 t e h0 hL, (cv_da hV hL).1⟩
/-- a request from outside -/
def rt_ (n : Nat) (M : mv_M) (t q : Int32) : mv_O × mv_M := if (mRq n (mCo n 21) t q 0 M).1 = -2 then (Sum.inr 1, fp_ (mRq n (mCo n 21) t q 0 M).2 (M 2 0 5)) else (Sum.inl (some (mv_I (mRq n (mCo n 21) t q 0 M).1)), (mRq n (mCo n 21) t q 0 M).2)
theorem sp_requestOrThrow (d n : Nat) (M : mv_M) (t q : Int32) (hV : cv_ M n) : ev_ (d + 89) kX3_requestOrThrow [mv_R 0 0, mv_I t, mv_I q] M (rt_ n M t q).1 (rt_ n M t q).2 ∧ cv_ (rt_ n M t q).2 n := by
  have hr := sp_request (sp_construct n 20 0 rfl) (by omega) (by omega) M t q hV
  obtain ⟨t0, e, hL⟩ := hV.2.1
  have ht := hL.1
  have hd := sp_fp 0 n t0 _ hr.2 hL.2.1
  constructor
  · refine e_ev rfl rfl ?_
    refine e_run 8 rfl trivial ?_
    try simp only [ht]
    refine e_calli rfl (ev_le hr.1 (by omega)) (by decide) ?_
    try simp only [ht]
    refine e_run 3 rfl trivial ?_
    try simp only [ht]
    refine e_if rfl (fun h21 => ?_) (fun h21 => ?_)
    · refine e_run 1 rfl trivial ?_
      try simp only [ht]
      rw [rt_, if_neg h21]
      exact e_ret rfl trivial rfl rfl
    · refine e_run 3 rfl trivial ?_
      try simp only [ht]
      refine e_callv rfl (ev_le hd.1 (by omega)) (by decide) ?_
      try simp only [ht]
      rw [show rt_ n M t q = (Sum.inr 1, fp_ (mRq n (mCo n 21) t q 0 M).2 (nI t0)) by rw [rt_, if_pos h21, ht]]
      exact e_thr rfl rfl (by decide) rfl rfl
  · unfold rt_
    split
    · rw [ht]
      exact hd.2
    · exact hr.2
theorem sp_resolve (d n : Nat) (M : mv_M) (t q : Int32) (hV : cv_ M n) (h : tq_ t q = true) : ev_ (d + 90) kX3_resolve [mv_R 0 0, mv_I t, mv_I q] M (rt_ n M t q).1 (rt_ n M t q).2 := by
  have hr := sp_requestOrThrow d n M t q hV
  refine e_ev rfl rfl ?_
  cases ho : (rt_ n M t q).1 with
  | inl v =>
    have hv : ∃ x, v = some (mv_I x) := by
      unfold rt_ at ho
      split at ho
      · cases ho
      · exact ⟨_, (Sum.inl.inj ho).symm⟩
    obtain ⟨x, rfl⟩ := hv
    rw [ho] at hr
    refine e_run 3 rfl trivial ?_
    refine e_callv rfl (sp_reqT h) (by decide) ?_
    refine e_run 3 rfl trivial ?_
    refine e_calli rfl (hr.1) (by decide) ?_
    exact e_ret rfl trivial rfl rfl
  | inr E =>
    have hE : E = 1 := by
      unfold rt_ at ho
      split at ho
      · exact (Sum.inr.inj ho).symm
      · cases ho
    subst hE
    rw [ho] at hr
    refine e_run 3 rfl trivial ?_
    refine e_callv rfl (sp_reqT h) (by decide) ?_
    refine e_run 3 rfl trivial ?_
    exact e_callx rfl (hr.1) (by decide) rfl rfl rfl rfl
theorem sp_resolve_i (d : Nat) (M : mv_M) (t q : Int32) (h : tq_ t q = false) : ev_ (d + 2) kX3_resolve [mv_R 0 0, mv_I t, mv_I q] M (Sum.inr 0) M := by
  refine e_ev rfl rfl ?_
  refine e_run 3 rfl trivial ?_
  exact e_callx rfl (sp_reqT_x h) (by decide) rfl rfl rfl rfl
theorem rt_o (n : Nat) (M : mv_M) (t q : Int32) : (∃ x, (rt_ n M t q).1 = Sum.inl (some (mv_I x))) ∨ (rt_ n M t q).1 = Sum.inr 1 := by
  unfold rt_
  split
  · exact Or.inr rfl
  · exact Or.inl ⟨_, rfl⟩
/-- provide -/
def pd_ (n : Nat) (M : mv_M) (c : Nat) (a : Nat) (i : Int32) : mv_O × mv_M :=
  if ¬ (¬ i < 0 ∧ i < M 8 0 c) ∨ ¬ M 20 c (3 * i.toNatClampNeg + 2) = 3 then (Sum.inr 0, M)
  else if M 11 0 a = 0 then (Sum.inr 1, M)
  else rt_ n M (M 20 c (3 * i.toNatClampNeg)) (M 20 c (3 * i.toNatClampNeg + 1))
theorem sp_provide (d n t e a c : Nat) (M : mv_M) (i : Int32) (hV : cv_ M n) (hL : li_ M t e) (ha : a < t) (hcm : M 9 0 a = nI c) (hc : c < 20) : ev_ (d + 90) kX3_provide [mv_R 0 0, mv_I (nI a), mv_I i] M (pd_ n M c a i).1 (pd_ n M c a i).2 := by
  have ht := hL.1
  have h3 := hL.2.1
  obtain ⟨hk, hk6⟩ := hV.1.2.2 c hc
  have hal : (nI a).toNatClampNeg = a := nI_clamp (by omega)
  refine e_ev rfl rfl ?_
  by_cases hq : ¬ i < 0 ∧ i < M 8 0 c
  · obtain ⟨j, hj, rfl⟩ := nI_of hq.1
    have hq2 := hq.2
    rw [hk] at hq2
    have hjk := (nI_ltI hj (by omega)).mp hq2
    have hjl : (nI j).toNatClampNeg = j := nI_clamp hj
    by_cases hm : M 20 c (3 * j + 2) = 3
    · by_cases hl : M 11 0 a = 0
      · rw [show pd_ n M c a (nI j) = (Sum.inr 1, M) by rw [pd_, if_neg (by rw [hjl]; exact fun q => q.elim (fun r => r hq) (fun r => r hm)), if_pos hl]]
        refine e_run 2 rfl trivial ?_
        try simp only [hal, hcm]
        refine e_callv rfl (sp_reqI ht h3 ha) (by decide) ?_
        try simp only [hal, hcm]
        refine e_run 10 rfl ?_ ?_
        · ((try simp only [hal, hcm]) <;> and_intros <;> first | trivial | exact in_n (by omega) (by omega) | omega | (unfold vp_in; decide) | (simp only [*]; omega))
        try simp only [hal, hcm]
        refine e_calli rfl (sp_hasDependency (d + 89) M c (nI j) hc) (by decide) ?_
        try simp only [hal, hcm]
        refine e_if rfl (fun h24 => absurd h24 (by rw [if_pos hq]; decide)) (fun h24 => ?_)
        refine e_run 5 rfl trivial ?_
        try simp only [hal, hcm]
        refine e_calli rfl (sp_partOf (d + 89) M c j 2 hc (by omega) (by omega)) (by decide) ?_
        try simp only [hal, hcm]
        refine e_run 1 rfl trivial ?_
        try simp only [hal, hcm]
        refine e_if rfl (fun h38 => ?_) (fun h38 => absurd hm h38)
        refine e_run 5 rfl ?_ ?_
        · ((try simp only [hal, hcm]) <;> and_intros <;> first | trivial | exact in_n (by omega) (by omega) | omega | (unfold vp_in; decide) | (simp only [*]; omega))
        try simp only [hal, hcm]
        refine e_if rfl (fun h60 => absurd hl h60) (fun h60 => ?_)
        exact e_thr rfl rfl (by decide) rfl rfl
      · have hr := sp_requestOrThrow d n M (M 20 c (3 * j)) (M 20 c (3 * j + 1)) hV
        rw [show pd_ n M c a (nI j) = rt_ n M (M 20 c (3 * j)) (M 20 c (3 * j + 1)) by rw [pd_, if_neg (by rw [hjl]; exact fun q => q.elim (fun r => r hq) (fun r => r hm)), if_neg hl, hjl]]
        rcases rt_o n M (M 20 c (3 * j)) (M 20 c (3 * j + 1)) with ⟨x, ho⟩ | ho
        · rw [ho] at hr ⊢
          refine e_run 2 rfl trivial ?_
          try simp only [hal, hcm]
          refine e_callv rfl (sp_reqI ht h3 ha) (by decide) ?_
          try simp only [hal, hcm]
          refine e_run 10 rfl ?_ ?_
          · ((try simp only [hal, hcm]) <;> and_intros <;> first | trivial | exact in_n (by omega) (by omega) | omega | (unfold vp_in; decide) | (simp only [*]; omega))
          try simp only [hal, hcm]
          refine e_calli rfl (sp_hasDependency (d + 89) M c (nI j) hc) (by decide) ?_
          try simp only [hal, hcm]
          refine e_if rfl (fun h24 => absurd h24 (by rw [if_pos hq]; decide)) (fun h24 => ?_)
          refine e_run 5 rfl trivial ?_
          try simp only [hal, hcm]
          refine e_calli rfl (sp_partOf (d + 89) M c j 2 hc (by omega) (by omega)) (by decide) ?_
          try simp only [hal, hcm]
          refine e_run 1 rfl trivial ?_
          try simp only [hal, hcm]
          refine e_if rfl (fun h38 => ?_) (fun h38 => absurd hm h38)
          refine e_run 5 rfl ?_ ?_
          · ((try simp only [hal, hcm]) <;> and_intros <;> first | trivial | exact in_n (by omega) (by omega) | omega | (unfold vp_in; decide) | (simp only [*]; omega))
          try simp only [hal, hcm]
          refine e_if rfl (fun h60 => ?_) (fun h60 => absurd h60 hl)
          refine e_run 6 rfl trivial ?_
          try simp only [hal, hcm]
          refine e_calli rfl (sp_partOf (d + 89) M c j 0 hc (by omega) (by omega)) (by decide) ?_
          try simp only [hal, hcm]
          refine e_run 5 rfl trivial ?_
          try simp only [hal, hcm]
          refine e_calli rfl (sp_partOf (d + 89) M c j 1 hc (by omega) (by omega)) (by decide) ?_
          try simp only [hal, hcm]
          refine e_calli rfl (hr.1) (by decide) ?_
          try simp only [hal, hcm]
          exact e_ret rfl trivial rfl rfl
        · rw [ho] at hr ⊢
          refine e_run 2 rfl trivial ?_
          try simp only [hal, hcm]
          refine e_callv rfl (sp_reqI ht h3 ha) (by decide) ?_
          try simp only [hal, hcm]
          refine e_run 10 rfl ?_ ?_
          · ((try simp only [hal, hcm]) <;> and_intros <;> first | trivial | exact in_n (by omega) (by omega) | omega | (unfold vp_in; decide) | (simp only [*]; omega))
          try simp only [hal, hcm]
          refine e_calli rfl (sp_hasDependency (d + 89) M c (nI j) hc) (by decide) ?_
          try simp only [hal, hcm]
          refine e_if rfl (fun h24 => absurd h24 (by rw [if_pos hq]; decide)) (fun h24 => ?_)
          refine e_run 5 rfl trivial ?_
          try simp only [hal, hcm]
          refine e_calli rfl (sp_partOf (d + 89) M c j 2 hc (by omega) (by omega)) (by decide) ?_
          try simp only [hal, hcm]
          refine e_run 1 rfl trivial ?_
          try simp only [hal, hcm]
          refine e_if rfl (fun h38 => ?_) (fun h38 => absurd hm h38)
          refine e_run 5 rfl ?_ ?_
          · ((try simp only [hal, hcm]) <;> and_intros <;> first | trivial | exact in_n (by omega) (by omega) | omega | (unfold vp_in; decide) | (simp only [*]; omega))
          try simp only [hal, hcm]
          refine e_if rfl (fun h60 => ?_) (fun h60 => absurd h60 hl)
          refine e_run 6 rfl trivial ?_
          try simp only [hal, hcm]
          refine e_calli rfl (sp_partOf (d + 89) M c j 0 hc (by omega) (by omega)) (by decide) ?_
          try simp only [hal, hcm]
          refine e_run 5 rfl trivial ?_
          try simp only [hal, hcm]
          refine e_calli rfl (sp_partOf (d + 89) M c j 1 hc (by omega) (by omega)) (by decide) ?_
          try simp only [hal, hcm]
          exact e_callx rfl (hr.1) (by decide) rfl rfl rfl rfl
    · rw [show pd_ n M c a (nI j) = (Sum.inr 0, M) by rw [pd_, if_pos (Or.inr (by rw [hjl]; exact hm))]]
      refine e_run 2 rfl trivial ?_
      try simp only [hal, hcm]
      refine e_callv rfl (sp_reqI ht h3 ha) (by decide) ?_
      try simp only [hal, hcm]
      refine e_run 10 rfl ?_ ?_
      · ((try simp only [hal, hcm]) <;> and_intros <;> first | trivial | exact in_n (by omega) (by omega) | omega | (unfold vp_in; decide) | (simp only [*]; omega))
      try simp only [hal, hcm]
      refine e_calli rfl (sp_hasDependency (d + 89) M c (nI j) hc) (by decide) ?_
      try simp only [hal, hcm]
      refine e_if rfl (fun h24 => absurd h24 (by rw [if_pos hq]; decide)) (fun h24 => ?_)
      refine e_run 5 rfl trivial ?_
      try simp only [hal, hcm]
      refine e_calli rfl (sp_partOf (d + 89) M c j 2 hc (by omega) (by omega)) (by decide) ?_
      try simp only [hal, hcm]
      refine e_run 1 rfl trivial ?_
      try simp only [hal, hcm]
      refine e_if rfl (fun h38 => absurd h38 hm) (fun h38 => ?_)
      exact e_thr rfl rfl (by decide) rfl rfl
  · rw [show pd_ n M c a i = (Sum.inr 0, M) by rw [pd_, if_pos (Or.inl hq)]]
    refine e_run 2 rfl trivial ?_
    try simp only [hal, hcm]
    refine e_callv rfl (sp_reqI ht h3 ha) (by decide) ?_
    try simp only [hal, hcm]
    refine e_run 10 rfl ?_ ?_
    · ((try simp only [hal, hcm]) <;> and_intros <;> first | trivial | exact in_n (by omega) (by omega) | omega | (unfold vp_in; decide) | (simp only [*]; omega))
    try simp only [hal, hcm]
    refine e_calli rfl (sp_hasDependency (d + 89) M c i hc) (by decide) ?_
    try simp only [hal, hcm]
    refine e_if rfl (fun h24 => ?_) (fun h24 => absurd (by rw [if_neg hq]) h24)
    exact e_thr rfl rfl (by decide) rfl rfl
theorem cv_pd {n a c : Nat} {M : mv_M} {i : Int32} (hV : cv_ M n) : cv_ (pd_ n M c a i).2 n := by
  unfold pd_
  split
  · exact hV
  · split
    · exact hV
    · exact (sp_requestOrThrow 0 n M _ _ hV).2
theorem sp_provide_x (d t : Nat) (M : mv_M) (x i : Int32) (ht : M 2 0 5 = nI t) (h : x < 0 ∨ ¬ x < nI t) : ev_ (d + 2) kX3_provide [mv_R 0 0, mv_I x, mv_I i] M (Sum.inr 2) M := by
  refine e_ev rfl rfl ?_
  refine e_run 2 rfl trivial ?_
  exact e_callx rfl (sp_reqI_x ht h) (by decide) rfl rfl rfl rfl
/-- started eagerly -/
def es_ (M : mv_M) (c : Nat) : Bool := decide (ac_ M c = true ∧ M 19 c 1 = 0 ∧ M 19 c 4 = 0)
/-- start, from component c on -/
def mSt (n : Nat) (t0 : Int32) : Nat → Nat → mv_M → mv_O × mv_M
  | 0, _, M => (Sum.inl (some (mv_I (M 2 0 5 - t0))), M)
  | m + 1, c, M => if es_ M c = true then (if (mOb (mCo n 21) c 0 M).1 = -2 then (Sum.inr 1, fp_ (mOb (mCo n 21) c 0 M).2 t0) else mSt n t0 m (c + 1) (mOb (mCo n 21) c 0 M).2) else mSt n t0 m (c + 1) M
theorem lp_start (d n t0 : Nat) (h0 : t0 ≤ 300) : ∀ (m c : Nat) (M : mv_M), c + m = n → cv_ M n → er_ (d + 88) 1 kX3_start (10, [some (mv_R 0 0), some (mv_I (nI t0)), some (mv_I (nI c))], [], M) (mSt n (nI t0) m c M).1 (mSt n (nI t0) m c M).2 ∧ cv_ (mSt n (nI t0) m c M).2 n := by
  intro m
  induction m with
  | zero =>
    intro c M h1 hV
    have hn := hV.1.1
    have h20 := hV.1.2.1
    refine ⟨?_, hV⟩
    refine e_run 4 rfl trivial ?_
    try simp only [hn]
    refine e_if rfl (fun h18 => ?_) (fun h18 => absurd (nI_le (by omega) (by omega)) h18)
    refine e_run 5 rfl trivial ?_
    try simp only [hn]
    exact e_ret rfl trivial rfl rfl
  | succ m ih =>
    intro c M h1 hV
    have hn := hV.1.1
    have h20 := hV.1.2.1
    have hob := sp_obtain (sp_construct n 20 0 rfl) (by omega) (by omega) M c (by omega) hV
    have hfp := sp_fp 0 n t0 _ hob.2 h0
    by_cases hs : es_ M c = true
    · by_cases hr : (mOb (mCo n 21) c 0 M).1 = -2
      · rw [show mSt n (nI t0) (m + 1) c M = (Sum.inr 1, fp_ (mOb (mCo n 21) c 0 M).2 (nI t0)) by rw [mSt, if_pos hs, if_pos hr]]
        refine ⟨?_, hfp.2⟩
        refine e_run 4 rfl trivial ?_
        try simp only [hn]
        refine e_if rfl (fun h18 => absurd h18 (nI_ge (by omega) (by omega))) (fun h18 => ?_)
        refine e_run 3 rfl trivial ?_
        try simp only [hn]
        refine e_calli rfl (sp_isStarted (d + 86) M c (by omega)) (by decide) ?_
        try simp only [hn]
        refine e_if rfl (fun h29 => absurd h29 (by rw [if_pos (of_decide_eq_true hs)]; decide)) (fun h29 => ?_)
        refine e_run 3 rfl trivial ?_
        try simp only [hn]
        refine e_calli rfl (ev_le hob.1 (by omega)) (by decide) ?_
        try simp only [hn]
        refine e_run 1 rfl trivial ?_
        try simp only [hn]
        refine e_if rfl (fun h40 => absurd hr h40) (fun h40 => ?_)
        refine e_run 3 rfl trivial ?_
        try simp only [hn]
        refine e_callv rfl (ev_le hfp.1 (by omega)) (by decide) ?_
        try simp only [hn]
        exact e_thr rfl rfl (by decide) rfl rfl
      · rw [show mSt n (nI t0) (m + 1) c M = mSt n (nI t0) m (c + 1) (mOb (mCo n 21) c 0 M).2 by rw [mSt, if_pos hs, if_neg hr]]
        refine ⟨?_, (ih (c + 1) _ (by omega) hob.2).2⟩
        refine e_run 4 rfl trivial ?_
        try simp only [hn]
        refine e_if rfl (fun h18 => absurd h18 (nI_ge (by omega) (by omega))) (fun h18 => ?_)
        refine e_run 3 rfl trivial ?_
        try simp only [hn]
        refine e_calli rfl (sp_isStarted (d + 86) M c (by omega)) (by decide) ?_
        try simp only [hn]
        refine e_if rfl (fun h29 => absurd h29 (by rw [if_pos (of_decide_eq_true hs)]; decide)) (fun h29 => ?_)
        refine e_run 3 rfl trivial ?_
        try simp only [hn]
        refine e_calli rfl (ev_le hob.1 (by omega)) (by decide) ?_
        try simp only [hn]
        refine e_run 1 rfl trivial ?_
        try simp only [hn]
        refine e_if rfl (fun h40 => ?_) (fun h40 => absurd h40 hr)
        refine e_run 2 rfl trivial ?_
        try simp only [hn]
        exact er_cong (by rw [nI_1]) (ih (c + 1) _ (by omega) hob.2).1
    · rw [show mSt n (nI t0) (m + 1) c M = mSt n (nI t0) m (c + 1) M by rw [mSt, if_neg hs]]
      refine ⟨?_, (ih (c + 1) _ (by omega) hV).2⟩
      refine e_run 4 rfl trivial ?_
      try simp only [hn]
      refine e_if rfl (fun h18 => absurd h18 (nI_ge (by omega) (by omega))) (fun h18 => ?_)
      refine e_run 3 rfl trivial ?_
      try simp only [hn]
      refine e_calli rfl (sp_isStarted (d + 86) M c (by omega)) (by decide) ?_
      try simp only [hn]
      refine e_if rfl (fun h29 => ?_) (fun h29 => absurd (by rw [if_neg (fun q => hs (decide_eq_true q))]) h29)
      refine e_run 2 rfl trivial ?_
      try simp only [hn]
      exact er_cong (by rw [nI_1]) (ih (c + 1) M (by omega) hV).1
theorem sp_start (d n : Nat) (M : mv_M) (hV : cv_ M n) : ev_ (d + 88) kX3_start [mv_R 0 0] M (mSt n (M 2 0 5) n 0 M).1 (mSt n (M 2 0 5) n 0 M).2 ∧ cv_ (mSt n (M 2 0 5) n 0 M).2 n := by
  obtain ⟨t0, e, hL⟩ := hV.2.1
  have ht := hL.1
  have hl := lp_start d n t0 hL.2.1 n 0 M (by omega) hV
  rw [ht]
  refine ⟨?_, hl.2⟩
  refine e_ev rfl rfl ?_
  refine e_run 6 rfl trivial ?_
  try simp only [ht]
  exact hl.1
theorem sp_begin (d : Nat) (M : mv_M) (h : M 0 0 3 < 5) : ev_ d kX3_begin [mv_R 0 0] M (Sum.inl (some (mv_I (M 0 0 3 + 1)))) (mv_up M 0 0 3 (M 0 0 3 + 1)) := by
  refine e_ev rfl rfl ?_
  refine e_run 3 rfl trivial ?_
  refine e_if rfl (fun h5 => ?_) (fun h5 => absurd h h5)
  refine e_run 8 rfl trivial ?_
  exact e_ret rfl trivial rfl rfl
theorem sp_begin_x (d : Nat) (M : mv_M) (h : ¬ M 0 0 3 < 5) : ev_ d kX3_begin [mv_R 0 0] M (Sum.inr 1) M := by
  refine e_ev rfl rfl ?_
  refine e_run 3 rfl trivial ?_
  refine e_if rfl (fun h5 => absurd h5 h) (fun h5 => ?_)
  exact e_thr rfl rfl (by decide) rfl rfl
/-- the innermost scope, closed -/
def ic_ (M : mv_M) : mv_M := mv_up (da_ M 0 (M 0 0 3) (M 2 0 5).toNatClampNeg).1 0 0 3 (M 0 0 3 - 1)
def in_ (M : mv_M) : Nat := (da_ M 0 (M 0 0 3) (M 2 0 5).toNatClampNeg).2
theorem da_0 (M : mv_M) (f t : Nat) (pl : Int32) : (da_ M f pl t).1 0 = M 0 := df_o f pl 0 (by omega) (by omega) (by omega) (by omega) t M 0
theorem sp_closeInnermost (d t e : Nat) (M : mv_M) (hL : li_ M t e) : ev_ (d + 4) kX3_closeInnermostScope [mv_R 0 0] M (Sum.inl (some (mv_I (nI (in_ M))))) (ic_ M) := by
  have hd := sp_destroyAllIn d M t e (M 0 0 3) hL
  have h0 := da_0 M 0 t (M 0 0 3)
  have h2 := hL.2.1
  unfold in_ ic_
  rw [hL.1, nI_clamp (by omega)]
  refine e_ev rfl rfl ?_
  refine e_run 4 rfl trivial ?_
  try simp only [h0]
  refine e_calli rfl (hd) (by decide) ?_
  try simp only [h0]
  refine e_run 8 rfl trivial ?_
  try simp only [h0]
  exact e_ret rfl trivial rfl rfl
theorem cv_open {M : mv_M} {n o : Nat} (h : cv_ M n) (ho : o ≤ 5) : cv_ (mv_up M 0 0 3 (nI o)) n := by
  obtain ⟨⟨a1, a2, a3⟩, ⟨t, e, b1, b2, b3, b4, b5⟩, c1, d1⟩ := h
  refine ⟨⟨a1, a2, a3⟩, ⟨t, e, b1, b2, b3, ?_, b5⟩, ⟨o, rfl, ho⟩, d1⟩
  exact (congrArg (fun z => e + z) (lv_congr (M := M) (M' := mv_up M 0 0 3 (nI o)) t (fun i _ => rfl))).trans b4
theorem cv_ic {M : mv_M} {n o : Nat} (h : cv_ M n) (ho : M 0 0 3 = nI (o + 1)) (h5 : o < 5) : cv_ (ic_ M) n := by
  obtain ⟨t, e, hL⟩ := h.2.1
  have h2 := hL.2.1
  unfold ic_
  rw [ho, nI_pred, hL.1, nI_clamp (by omega)]
  exact cv_open (cv_da h hL).1 (by omega)
theorem sp_end (d n o : Nat) (M : mv_M) (hV : cv_ M n) (ho : M 0 0 3 = nI (o + 1)) (h5 : o < 5) : ev_ (d + 5) kX3_end [mv_R 0 0] M (Sum.inl (some (mv_I (nI (in_ M))))) (ic_ M) := by
  obtain ⟨t, e, hL⟩ := hV.2.1
  have hne : ¬ nI (o + 1) = 0 := fun q => absurd (nI_inj (b := 0) (by omega) (by omega) q) (by omega)
  refine e_ev rfl rfl ?_
  refine e_run 2 rfl trivial ?_
  refine e_if rfl (fun h4 => ?_) (fun h4 => absurd h4 (by rw [ho]; exact hne))
  refine e_run 1 rfl trivial ?_
  refine e_calli rfl (sp_closeInnermost d t e M hL) (by decide) ?_
  exact e_ret rfl trivial rfl rfl
theorem sp_end_x (d : Nat) (M : mv_M) (h : M 0 0 3 = 0) : ev_ (d + 5) kX3_end [mv_R 0 0] M (Sum.inr 1) M := by
  refine e_ev rfl rfl ?_
  refine e_run 2 rfl trivial ?_
  refine e_if rfl (fun h4 => absurd h h4) (fun h4 => ?_)
  exact e_thr rfl rfl (by decide) rfl rfl
/-- all the scopes closed: o of them -/
def ca_ : Nat → mv_M → Nat → mv_M × Nat
  | 0, M, k => (M, k)
  | o + 1, M, k => ca_ o (ic_ M) (k + in_ M)
theorem ca_s (o : Nat) (M : mv_M) (k : Nat) : ca_ (o + 1) M k = ca_ o (ic_ M) (k + in_ M) := rfl
theorem ic_3 (M : mv_M) : ic_ M 0 0 3 = M 0 0 3 - 1 := by
  unfold ic_
  simp [rd_, up_]
theorem lp_close (d n : Nat) : ∀ (o k : Nat) (M : mv_M) (R : mv_O) (M' : mv_M), o ≤ 5 → cv_ M n → M 0 0 3 = nI o → (cv_ (ca_ o M k).1 n ∧ (ca_ o M k).1 0 0 3 = nI 0 → er_ (d + 5) 0 kX3_close (24, [some (mv_R 0 0), some (mv_I (nI (ca_ o M k).2)), some (mv_I (nI 0))], [], (ca_ o M k).1) R M') → er_ (d + 5) 0 kX3_close (7, [some (mv_R 0 0), some (mv_I (nI k)), some (mv_I (nI o))], [], M) R M' := by
  intro o
  induction o with
  | zero =>
    intro k M R M' h5 hV ho hk
    refine e_run 1 rfl trivial ?_
    refine e_if rfl (fun h8 => ?_) (fun h8 => absurd (by decide) h8)
    exact hk ⟨hV, ho⟩
  | succ o ih =>
    intro k M R M' h5 hV ho hk
    obtain ⟨t, e, hL⟩ := id hV.2.1
    have hgt : ¬ nI (o + 1) ≤ 0 := nI_ge (a := 0) (by omega) (by omega)
    refine e_run 1 rfl trivial ?_
    try simp only [m1_, nI_pred, nI_add]
    refine e_if rfl (fun h8 => absurd h8 hgt) (fun h8 => ?_)
    refine e_run 2 rfl trivial ?_
    try simp only [m1_, nI_pred, nI_add]
    refine e_calli rfl (sp_closeInnermost (d) t e M hL) (by decide) ?_
    try simp only [m1_, nI_pred, nI_add]
    refine e_run 4 rfl trivial ?_
    try simp only [m1_, nI_pred, nI_add]
    exact ih (k + in_ M) (ic_ M) R M' (by omega) (cv_ic hV ho (by omega)) (by rw [ic_3, ho, nI_pred]) hk
theorem lp_close2 (d k t e : Nat) (M : mv_M) (hL : li_ M t e) : er_ (d + 5) 0 kX3_close (24, [some (mv_R 0 0), some (mv_I (nI k)), some (mv_I (nI 0))], [], M) (Sum.inl (some (mv_I (nI k + nI (da_ M 0 0 t).2)))) (da_ M 0 0 t).1 := by
  refine e_run 4 rfl trivial ?_
  refine e_calli rfl (sp_destroyAllIn (d + 1) M t e 0 hL) (by decide) ?_
  refine e_run 1 rfl trivial ?_
  exact e_ret rfl trivial rfl rfl
/-- close -/
def cl_r (M : mv_M) : Int32 × mv_M := (nI (ca_ (M 0 0 3).toNatClampNeg M 0).2 + nI (da_ (ca_ (M 0 0 3).toNatClampNeg M 0).1 0 0 ((ca_ (M 0 0 3).toNatClampNeg M 0).1 2 0 5).toNatClampNeg).2, (da_ (ca_ (M 0 0 3).toNatClampNeg M 0).1 0 0 ((ca_ (M 0 0 3).toNatClampNeg M 0).1 2 0 5).toNatClampNeg).1)
theorem sp_close (d n : Nat) (M : mv_M) (hV : cv_ M n) : ev_ (d + 5) kX3_close [mv_R 0 0] M (Sum.inl (some (mv_I (cl_r M).1))) (cl_r M).2 := by
  obtain ⟨o, ho, h5⟩ := hV.2.2.1
  unfold cl_r
  rw [ho, nI_clamp (by omega)]
  refine e_ev rfl rfl ?_
  refine e_run 5 rfl trivial ?_
  try simp only [ho]
  refine lp_close d n o 0 M _ _ h5 hV ho (fun hh => ?_)
  obtain ⟨t, e, hL⟩ := hh.1.2.1
  have h2 := hL.2.1
  rw [hL.1, nI_clamp (by omega)]
  have hda := lp_close2 d (ca_ o M 0).2 t e (ca_ o M 0).1 hL
  exact hda
theorem sp_instances (d : Nat) (M : mv_M) : ev_ d kX3_instances [mv_R 0 0] M (Sum.inl (some (mv_I (M 2 0 5)))) M := by
  refine e_ev rfl rfl ?_
  refine e_run 3 rfl trivial ?_
  exact e_ret rfl trivial rfl rfl
theorem sp_componentOf (d t i : Nat) (M : mv_M) (ht : M 2 0 5 = nI t) (h3 : t ≤ 300) (hi : i < t) : ev_ (d + 1) kX3_componentOf [mv_R 0 0, mv_I (nI i)] M (Sum.inl (some (mv_I (M 9 0 i)))) M := by
  have hcl : (nI i).toNatClampNeg = i := nI_clamp (by omega)
  refine e_ev rfl rfl ?_
  refine e_run 2 rfl trivial ?_
  try simp only [hcl]
  refine e_callv rfl (sp_reqI ht h3 hi) (by decide) ?_
  try simp only [hcl]
  refine e_run 5 rfl ?_ ?_
  · ((try simp only [hcl]) <;> and_intros <;> first | trivial | exact in_n (by omega) (by omega) | omega | (unfold vp_in; decide) | (simp only [*]; omega))
  try simp only [hcl]
  exact e_ret rfl trivial rfl rfl
theorem sp_componentOf_x (d t : Nat) (x : Int32) (M : mv_M) (ht : M 2 0 5 = nI t) (h : x < 0 ∨ ¬ x < nI t) : ev_ (d + 1) kX3_componentOf [mv_R 0 0, mv_I x] M (Sum.inr 2) M := by
  refine e_ev rfl rfl ?_
  refine e_run 2 rfl trivial ?_
  exact e_callx rfl (sp_reqI_x ht h) (by decide) rfl rfl rfl rfl
theorem sp_isAlive (d t i : Nat) (M : mv_M) (ht : M 2 0 5 = nI t) (h3 : t ≤ 300) (hi : i < t) (hb : M 11 0 i = 0 ∨ M 11 0 i = 1) : ev_ (d + 1) kX3_isAlive [mv_R 0 0, mv_I (nI i)] M (Sum.inl (some (mv_I (M 11 0 i)))) M := by
  have hcl : (nI i).toNatClampNeg = i := nI_clamp (by omega)
  refine e_ev rfl rfl ?_
  refine e_run 2 rfl trivial ?_
  try simp only [hcl]
  refine e_callv rfl (sp_reqI ht h3 hi) (by decide) ?_
  try simp only [hcl]
  refine e_run 5 rfl ?_ ?_
  · ((try simp only [hcl]) <;> and_intros <;> first | trivial | exact in_n (by omega) (by omega) | omega | (unfold vp_in; decide) | (simp only [*]; omega))
  try simp only [hcl]
  exact e_ret rfl hb rfl rfl
theorem sp_isAlive_x (d t : Nat) (x : Int32) (M : mv_M) (ht : M 2 0 5 = nI t) (h : x < 0 ∨ ¬ x < nI t) : ev_ (d + 1) kX3_isAlive [mv_R 0 0, mv_I x] M (Sum.inr 2) M := by
  refine e_ev rfl rfl ?_
  refine e_run 2 rfl trivial ?_
  exact e_callx rfl (sp_reqI_x ht h) (by decide) rfl rfl rfl rfl
/-- an injection, as it is asked -/
def ij_ (M : mv_M) (a : Nat) (x : Int32) : mv_O := if ¬ x < 0 ∧ x < M 13 0 a then Sum.inl (some (mv_I (M 12 0 (6 * a + x.toNatClampNeg)))) else Sum.inr 0
theorem ix_6p (i p : Nat) : nI i * 6 + nI p = nI (6 * i + p) := by rw [ix_6, nI_add]
theorem sp_injected (d t i k : Nat) (x : Int32) (M : mv_M) (ht : M 2 0 5 = nI t) (h3 : t ≤ 300) (hi : i < t) (hk : M 13 0 i = nI k) (h6 : k ≤ 6) : ev_ (d + 1) kX3_injected [mv_R 0 0, mv_I (nI i), mv_I x] M (ij_ M i x) M := by
  have hcl : (nI i).toNatClampNeg = i := nI_clamp (by omega)
  refine e_ev rfl rfl ?_
  unfold ij_
  by_cases hq : ¬ x < 0 ∧ x < M 13 0 i
  · rw [if_pos hq]
    obtain ⟨j, hj, rfl⟩ := nI_of hq.1
    have hq2 := hq.2
    rw [hk] at hq2
    have hjk := (nI_ltI hj (by omega)).mp hq2
    have hjl : (nI j).toNatClampNeg = j := nI_clamp hj
    have hij : (nI (6 * i + j)).toNatClampNeg = 6 * i + j := nI_clamp (by omega)
    refine e_run 2 rfl trivial ?_
    try simp only [ix_6p, hij, hjl]
    refine e_callv rfl (sp_reqI ht h3 hi) (by decide) ?_
    try simp only [ix_6p, hij, hjl]
    refine e_run 4 rfl trivial ?_
    try simp only [ix_6p, hij, hjl]
    refine e_calli rfl (sp_hasInjection d M i (nI j) (by omega)) (by decide) ?_
    try simp only [ix_6p, hij, hjl]
    refine e_if rfl (fun h14 => ?_) (fun h14 => absurd h14 (by rw [if_pos hq]; decide))
    refine e_run 9 rfl ?_ ?_
    · ((try simp only [ix_6p, hij, hjl]) <;> and_intros <;> first | trivial | exact in_n (by omega) (by omega) | omega | (unfold vp_in; decide) | (simp only [*]; omega))
    try simp only [ix_6p, hij, hjl]
    exact e_ret rfl trivial rfl rfl
  · rw [if_neg hq]
    refine e_run 2 rfl trivial ?_
    refine e_callv rfl (sp_reqI ht h3 hi) (by decide) ?_
    refine e_run 4 rfl trivial ?_
    refine e_calli rfl (sp_hasInjection d M i x (by omega)) (by decide) ?_
    refine e_if rfl (fun h14 => absurd (by rw [if_neg hq]) h14) (fun h14 => ?_)
    exact e_thr rfl rfl (by decide) rfl rfl
theorem sp_injected_x (d t : Nat) (x y : Int32) (M : mv_M) (ht : M 2 0 5 = nI t) (h : x < 0 ∨ ¬ x < nI t) : ev_ (d + 1) kX3_injected [mv_R 0 0, mv_I x, mv_I y] M (Sum.inr 2) M := by
  refine e_ev rfl rfl ?_
  refine e_run 2 rfl trivial ?_
  exact e_callx rfl (sp_reqI_x ht h) (by decide) rfl rfl rfl rfl
/-- an event, as it is asked; a chain's component -/
def ea_ (f : Nat → Int32) (m x : Int32) : Int32 := if x = -1 then m else if ¬ x < 0 ∧ x < m then f x.toNatClampNeg else -1
theorem sp_event (d e : Nat) (x : Int32) (M : mv_M) (he : M 2 0 9 = nI e) (h6 : e ≤ 600) : ev_ d kX3_event [mv_R 0 0, mv_I x] M (Sum.inl (some (mv_I (ea_ (M 16 0) (M 2 0 9) x)))) M := by
  refine e_ev rfl rfl ?_
  unfold ea_
  refine e_run 2 rfl trivial ?_
  skip
  refine e_if rfl (fun h2 => ?_) (fun h2 => ?_)
  · refine e_run 1 rfl trivial ?_
    skip
    refine e_if rfl (fun h14 => ?_) (fun h14 => ?_)
    · have hno : ¬ (¬ x < 0 ∧ x < M 2 0 9) := by
        first
          | exact fun q => q.1 h14
          | exact fun q => absurd q.2 (Int32.not_lt.mpr h25)
      refine e_run 1 rfl trivial ?_
      skip
      first
        | exact e_ret rfl trivial (by rw [if_neg h2, if_pos hyes]) rfl
        | exact e_ret rfl trivial (by rw [if_neg h2, if_neg hno]) rfl
    · refine e_run 4 rfl trivial ?_
      skip
      refine e_if rfl (fun h25 => ?_) (fun h25 => ?_)
      · have hno : ¬ (¬ x < 0 ∧ x < M 2 0 9) := by
          first
            | exact fun q => q.1 h14
            | exact fun q => absurd q.2 (Int32.not_lt.mpr h25)
        refine e_run 1 rfl trivial ?_
        skip
        first
          | exact e_ret rfl trivial (by rw [if_neg h2, if_pos hyes]) rfl
          | exact e_ret rfl trivial (by rw [if_neg h2, if_neg hno]) rfl
      · have h14q : ¬ x < 0 := h14
        have h25q : x < M 2 0 9 := Int32.not_le.mp h25
        have hyes : ¬ x < 0 ∧ x < M 2 0 9 := ⟨h14q, h25q⟩
        obtain ⟨j, hj, rfl⟩ := nI_of h14q
        have hjk := (nI_ltI hj (b := e) (by omega)).mp (he ▸ h25q)
        have hjl : (nI j).toNatClampNeg = j := nI_clamp hj
        refine e_run 6 rfl ?_ ?_
        · exact ⟨⟨in_n (by omega) (by omega), by decide⟩, trivial⟩
        skip
        first
          | exact e_ret rfl trivial (by rw [if_neg h2, if_pos hyes]) rfl
          | exact e_ret rfl trivial (by rw [if_neg h2, if_neg hno]) rfl
  · refine e_run 3 rfl trivial ?_
    skip
    exact e_ret rfl trivial (by rw [if_pos h2]) rfl
theorem sp_failureChain (d e : Nat) (x : Int32) (M : mv_M) (he : M 3 0 3 = nI e) (h6 : e ≤ 20) : ev_ d kX3_failureChain [mv_R 0 0, mv_I x] M (Sum.inl (some (mv_I (ea_ (M 17 0) (M 3 0 3) x)))) M := by
  refine e_ev rfl rfl ?_
  unfold ea_
  refine e_run 2 rfl trivial ?_
  skip
  refine e_if rfl (fun h2 => ?_) (fun h2 => ?_)
  · refine e_run 1 rfl trivial ?_
    skip
    refine e_if rfl (fun h14 => ?_) (fun h14 => ?_)
    · have hno : ¬ (¬ x < 0 ∧ x < M 3 0 3) := by
        first
          | exact fun q => q.1 h14
          | exact fun q => absurd q.2 (Int32.not_lt.mpr h25)
      refine e_run 1 rfl trivial ?_
      skip
      first
        | exact e_ret rfl trivial (by rw [if_neg h2, if_pos hyes]) rfl
        | exact e_ret rfl trivial (by rw [if_neg h2, if_neg hno]) rfl
    · refine e_run 4 rfl trivial ?_
      skip
      refine e_if rfl (fun h25 => ?_) (fun h25 => ?_)
      · have hno : ¬ (¬ x < 0 ∧ x < M 3 0 3) := by
          first
            | exact fun q => q.1 h14
            | exact fun q => absurd q.2 (Int32.not_lt.mpr h25)
        refine e_run 1 rfl trivial ?_
        skip
        first
          | exact e_ret rfl trivial (by rw [if_neg h2, if_pos hyes]) rfl
          | exact e_ret rfl trivial (by rw [if_neg h2, if_neg hno]) rfl
      · have h14q : ¬ x < 0 := h14
        have h25q : x < M 3 0 3 := Int32.not_le.mp h25
        have hyes : ¬ x < 0 ∧ x < M 3 0 3 := ⟨h14q, h25q⟩
        obtain ⟨j, hj, rfl⟩ := nI_of h14q
        have hjk := (nI_ltI hj (b := e) (by omega)).mp (he ▸ h25q)
        have hjl : (nI j).toNatClampNeg = j := nI_clamp hj
        refine e_run 6 rfl ?_ ?_
        · exact ⟨⟨in_n (by omega) (by omega), by decide⟩, trivial⟩
        skip
        first
          | exact e_ret rfl trivial (by rw [if_neg h2, if_pos hyes]) rfl
          | exact e_ret rfl trivial (by rw [if_neg h2, if_neg hno]) rfl
  · refine e_run 3 rfl trivial ?_
    skip
    exact e_ret rfl trivial (by rw [if_pos h2]) rfl
theorem sp_failureKind (d : Nat) (M : mv_M) : ev_ d kX3_failureKind [mv_R 0 0] M (Sum.inl (some (mv_I (M 3 0 0)))) M := by
  refine e_ev rfl rfl ?_
  refine e_run 3 rfl trivial ?_
  exact e_ret rfl trivial rfl rfl
theorem sp_failureDetail (d : Nat) (M : mv_M) : ev_ d kX3_failureDetail [mv_R 0 0] M (Sum.inl (some (mv_I (M 3 0 1)))) M := by
  refine e_ev rfl rfl ?_
  refine e_run 3 rfl trivial ?_
  exact e_ret rfl trivial rfl rfl
