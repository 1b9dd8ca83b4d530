theorem sp_isBetween (d : Nat) (M : mv_M) (v lo hi : Int32) : ev_ d kX3_isBetween [mv_I v, mv_I lo, mv_I hi] M (Sum.inl (some (mv_I (if lo ≤ v ∧ v ≤ hi then 1 else 0)))) M := by
  refine ⟨rfl, ?_⟩
  refine er_run (j := 2) rfl trivial ?_
  refine er_if rfl (fun h => ?_) (fun h => ?_)
  · rw [if_neg (fun q => Int32.not_le.mpr h q.1)]
    refine er_run (j := 1) rfl trivial ?_
    exact er_ret rfl (Or.inl rfl)
  · refine er_run (j := 2) rfl trivial ?_
    refine er_if rfl (fun h2 => ?_) (fun h2 => ?_)
    · rw [if_neg (fun q => Int32.not_le.mpr h2 q.2)]
      refine er_run (j := 1) rfl trivial ?_
      exact er_ret rfl (Or.inl rfl)
    · rw [if_pos ⟨Int32.not_lt.mp h, Int32.not_lt.mp h2⟩]
      refine er_run (j := 2) rfl trivial ?_
      exact er_ret rfl (Or.inr rfl)
def ac_ (M : mv_M) (c : Nat) : Prop := M 19 c 5 = -1 ∨ ¬ M 1 0 4 &&& (1 <<< (M 19 c 5 &&& 31)) = 0
noncomputable def zo_ (P : Prop) : Int32 := by classical exact if P then 1 else 0
theorem sp_isActive (d : Nat) (M : mv_M) (c : Nat) (hc : c < 20) : ev_ d kX0_isActive [mv_R 1 0, mv_I (nI c)] M (Sum.inl (some (mv_I (zo_ (ac_ M c))))) M := by
  refine ⟨rfl, ?_⟩
  have hcl : (nI c).toNatClampNeg = c := nI_clamp (by omega)
  refine er_run (j := 9) rfl ?_ ?_
  · exact ⟨⟨vp_in_nI hc (by omega), Nat.zero_lt_one⟩, ⟨vp_in_nI (n := 5) (by omega) (by omega), by rw [hcl]; exact hc⟩, trivial⟩
  · rw [hcl]
    refine er_if rfl (fun h => ?_) (fun h => ?_)
    · sorry
    · sorry
