/-! THE REFERENCE'S LEAF METHODS -/
theorem p31_ : ∀ k, k < 32 → (nI k &&& 31) = nI k := by decide +kernel
theorem p31_of (p : Int32) : ∃ k, k < 32 ∧ p &&& 31 = nI k := by
  have h31 : ∀ i, i < 32 → bt 31 i = decide (i < 5) := by decide +kernel
  have hlt : (p &&& 31).toBitVec.toNat < 32 := by
    rw [Int32.toBitVec_and, BitVec.toNat_and]
    exact Nat.lt_of_le_of_lt Nat.and_le_right (by decide)
  refine ⟨(p &&& 31).toBitVec.toNat, hlt, ?_⟩
  apply Int32.toBitVec_inj.mp
  apply BitVec.eq_of_toNat_eq
  show _ = (BitVec.ofNat 32 _).toNat
  rw [BitVec.toNat_ofNat, Nat.mod_eq_of_lt (by omega)]
theorem bt_shr' {c : Nat} (hc : c < 32) (x : Int32) : (x >>> (nI c &&& 31)) &&& 1 = if bt x c = true then 1 else 0 := by
  have h1 : ∀ k, k < 32 → bt 1 k = decide (k = 0) := by decide +kernel
  refine b_ext (fun i hi => ?_)
  rw [b_and, h1 i hi]
  by_cases e : i = 0
  · subst e
    rw [b_sshr c (by omega) x hi, if_pos (by omega), Nat.add_zero]
    cases bt x c <;> simp [h1 0 (by omega), b_0]
  · rw [decide_eq_false e, Bool.and_false]
    split
    · rw [h1 i hi, decide_eq_false e]
    · rw [b_0]
theorem sh_iff (x p : Int32) : (x >>> (p &&& 31)) &&& 1 = 1 ↔ ¬ x &&& (1 <<< (p &&& 31)) = 0 := by
  obtain ⟨k, hk, hp⟩ := p31_of p
  rw [hp, ← p31_ k hk, bt_shr' hk, bt_and1 hk]
  cases bt x k <;> decide
/-- the descriptions, in C as the class holds them, in M as the reference does -/
def dr_ (C M : mv_M) (n : Nat) : Prop := ci_ C n ∧ M 22 0 1 = nI n ∧ M 22 0 6 = C 1 0 4 ∧ (∀ c k, c < 20 → k < 7 → M 23 0 (7 * c + k) = C 19 c k) ∧ (∀ c, c < 20 → M 24 0 c = C 8 0 c) ∧ (∀ c j, c < 20 → j < 18 → M 25 0 (18 * c + j) = C 20 c j) ∧ ∀ c, c < 20 → C 19 c 3 = 0 ∨ C 19 c 3 = 1
theorem rs_in (d : Nat) (M : mv_M) (v lo hi : Int32) : ev_ d kX4_in [mv_I v, mv_I lo, mv_I hi] M (Sum.inl (some (mv_I (if bw_ v lo hi = true then 1 else 0)))) M := by
  refine e_ev rfl rfl ?_
  refine e_run 2 rfl trivial ?_
  refine e_if rfl (fun h2 => ?_) (fun h2 => ?_)
  · refine e_run 1 rfl trivial ?_
    (refine e_ret rfl ?_ ?_ rfl <;> first | exact Or.inl rfl | exact Or.inr rfl | (simp_all [bw_]; done))
  · refine e_run 2 rfl trivial ?_
    refine e_if rfl (fun h7 => ?_) (fun h7 => ?_)
    · refine e_run 1 rfl trivial ?_
      (refine e_ret rfl ?_ ?_ rfl <;> first | exact Or.inl rfl | exact Or.inr rfl | (simp_all [bw_]; done))
    · refine e_run 2 rfl trivial ?_
      (refine e_ret rfl ?_ ?_ rfl <;> first | exact Or.inl rfl | exact Or.inr rfl | (simp_all [bw_]; done))
theorem ix_7 (c k : Nat) : 7 * nI c + nI k = nI (7 * c + k) := by rw [show (7 : Int32) = nI 7 from rfl, pk_mul, nI_add]
theorem ix_18 (c i k : Nat) : 18 * nI c + 3 * nI i + nI k = nI (18 * c + (3 * i + k)) := by rw [show (18 : Int32) = nI 18 from rfl, show (3 : Int32) = nI 3 from rfl, pk_mul, pk_mul, nI_add, nI_add, Nat.add_assoc]
theorem rs_of (d : Nat) {C M : mv_M} {n : Nat} (hD : dr_ C M n) (c k : Nat) (hc : c < 20) (hk : k < 7) : ev_ d kX4_of [mv_R 22 0, mv_I (nI c), mv_I (nI k)] M (Sum.inl (some (mv_I (C 19 c k)))) M := by
  have hcl : (nI (7 * c + k)).toNatClampNeg = 7 * c + k := nI_clamp (by omega)
  have he := hD.2.2.2.1 c k hc hk
  refine e_ev rfl rfl ?_
  refine e_run 8 rfl ?_ ?_
  · ((try simp only [ix_7, hcl, he]) <;> and_intros <;> first | trivial | exact in_n (by omega) (by omega) | omega | (unfold vp_in; decide) | (simp only [*]; omega))
  try simp only [ix_7, hcl, he]
  exact e_ret rfl trivial rfl rfl
theorem rs_dependAt (d : Nat) {C M : mv_M} {n : Nat} (hD : dr_ C M n) (c i p : Nat) (hc : c < 20) (hi : i < 6) (hp : p < 3) : ev_ d kX4_dependAt [mv_R 22 0, mv_I (nI c), mv_I (nI i), mv_I (nI p)] M (Sum.inl (some (mv_I (C 20 c (3 * i + p))))) M := by
  have hcl : (nI (18 * c + (3 * i + p))).toNatClampNeg = 18 * c + (3 * i + p) := nI_clamp (by omega)
  have he := hD.2.2.2.2.2.1 c (3 * i + p) hc (by omega)
  refine e_ev rfl rfl ?_
  refine e_run 12 rfl ?_ ?_
  · ((try simp only [ix_18, hcl, he]) <;> and_intros <;> first | trivial | exact in_n (by omega) (by omega) | omega | (unfold vp_in; decide) | (simp only [*]; omega))
  try simp only [ix_18, hcl, he]
  exact e_ret rfl trivial rfl rfl
theorem rs_isActive (d : Nat) {C M : mv_M} {n : Nat} (hD : dr_ C M n) (c : Nat) (hc : c < 20) : ev_ (d + 1) kX4_isActive [mv_R 22 0, mv_I (nI c)] M (Sum.inl (some (mv_I (if ac_ C c = true then 1 else 0)))) M := by
  have h6 := hD.2.2.1
  refine e_ev rfl rfl ?_
  refine e_run 3 rfl trivial ?_
  try simp only [h6]
  refine e_calli rfl (rs_of d hD c 5 hc (by omega)) (by decide) ?_
  try simp only [h6]
  refine e_run 1 rfl trivial ?_
  try simp only [h6]
  refine e_if rfl (fun h7 => ?_) (fun h7 => ?_)
  · refine e_run 2 rfl trivial ?_
    try simp only [h6]
    (refine e_ret rfl ?_ ?_ rfl <;> first | exact Or.inl rfl | exact Or.inr rfl | (simp_all [ac_, sh_iff]; done))
  · refine e_run 5 rfl trivial ?_
    try simp only [h6]
    refine e_calli rfl (rs_of d hD c 5 hc (by omega)) (by decide) ?_
    try simp only [h6]
    refine e_run 4 rfl trivial ?_
    try simp only [h6]
    refine e_if rfl (fun h24 => ?_) (fun h24 => ?_)
    · refine e_run 1 rfl trivial ?_
      try simp only [h6]
      (refine e_ret rfl ?_ ?_ rfl <;> first | exact Or.inl rfl | exact Or.inr rfl | (simp_all [ac_, sh_iff]; done))
    · refine e_run 2 rfl trivial ?_
      try simp only [h6]
      (refine e_ret rfl ?_ ?_ rfl <;> first | exact Or.inl rfl | exact Or.inr rfl | (simp_all [ac_, sh_iff]; done))
