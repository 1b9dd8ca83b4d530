/-! REQUESTS -/
theorem mc_nn {n c g : Nat} {pl : Int32} {X : mv_M} (h : cv_ X n) : (mc_ X c pl g).1 = -2 ∨ ¬ (mc_ X c pl g).1 < 0 := by
  obtain ⟨-, ⟨t, e, hL⟩, -, -⟩ := h
  have h2 := hL.2.1
  unfold mc_
  split
  · exact Or.inl rfl
  · split
    · exact Or.inl rfl
    · refine Or.inr ?_
      show ¬ X 2 0 5 < 0
      rw [hL.1]
      exact nI_pos (by omega)
theorem mCo_nn (n : Nat) : ∀ (f g c p9 : Nat) (pl : Int32) (C : mv_M), g + f = 20 → c < n → cv_ C n → (pl = -1 ∨ (pl = nI p9 ∧ p9 < 6)) → (mCo n (f + 1) c pl g C).1 = -2 ∨ ¬ (mCo n (f + 1) c pl g C).1 < 0
  | 0, g, c, p9, pl, C, hg, hc, hV, hp => by
    rw [mCo_s, if_pos (Or.inl (by omega))]
    exact Or.inl rfl
  | f + 1, g, c, p9, pl, C, hg, hc, hV, hp => by
    have h20 := hV.1.2.1
    have hk := hV.1.2.2 c (by omega)
    have hlp := lp_construct (sp_construct n f (g + 1) (by omega)) (by omega) (show g < 20 by omega) c p9 pl hc hp (dc_ C c) hk.2 (dc_ C c) 0 (mv_up C 4 0 g (nI c)) none (by omega) (cv_cp hV (by omega))
    rw [mCo_s]
    split
    · exact Or.inl rfl
    · split
      · next h => exact Or.inl h
      · exact mc_nn hlp.2
theorem mOb_nn {n c t : Nat} {C : mv_M} (hc : c < n) (hV : cv_ C n) (ht : t ≤ 300) (hK : kv_ C t) : (mOb (mCo n 21) c 0 C).1 = -2 ∨ ¬ (mOb (mCo n 21) c 0 C).1 < 0 := by
  have h20 := hV.1.2.1
  obtain ⟨p9, hp, hp6⟩ := pl_val (c := c) hV
  unfold mOb
  split
  · exact mCo_nn n 20 0 c 0 (-1) C rfl hc hV (Or.inl rfl)
  · split
    · exact Or.inl rfl
    · split
      · exact mCo_nn n 20 0 c p9 _ C rfl hc hV (Or.inr ⟨hp, hp6⟩)
      · next h =>
        refine Or.inr ?_
        show ¬ C 21 (pl_ C c).toNatClampNeg c < 0
        rw [hp, nI_clamp (by omega)] at h ⊢
        rcases hK p9 c hp6 (by omega) with ⟨k1, -⟩ | ⟨i, k0, k1, -⟩
        · exact absurd k1 h
        · rw [k1]
          exact nI_pos (by omega)
/-- at rest -/
def rw_ (n t e l : Nat) (C M : mv_M) : Prop := cv_ C n ∧ dr_ C M n ∧ lr_ C M t e l ∧ kv_ C t
theorem rl_0 {n t e l : Nat} {C M : mv_M} (h : rw_ n t e l C M) (h10 : M 22 0 10 = 0) (h31 : M 22 0 31 = 0) : rl_ n 0 C M := by
  obtain ⟨hV, hD, hL, hK⟩ := h
  refine ⟨hV, hD, ⟨t, e, l, hL, hK⟩, ⟨h10, by omega, h31⟩, fun i hi => by omega, 0, ?_, fun c hc => ?_⟩
  · have key : ∀ m, m ≤ 32 → cn_ 0 m = m := by
      intro m
      induction m with
      | zero => exact fun _ => rfl
      | succ m ih =>
        intro hm
        unfold cn_
        rw [ih (by omega), ii_bt (by omega), b_0]
        rfl
    rw [key n (by have := hD.1.2.1; omega)]
    rfl
  · have := hD.1.2.1
    rw [ii_bt (by omega), b_0]
    rfl
theorem rs_make {n c : Nat} {C M : mv_M} (hR : rl_ n 0 C M) (hc : c < n) : ∃ M2, ev_ 9 kX4_make [mv_R 22 0, mv_I (nI c)] M (Sum.inl none) M2 ∧ sr_ n 0 C M (mOb (mCo n 21) c 0 C) M2 := by
  obtain ⟨M1, a1, M2, a2, a3⟩ := ob_sim (kc_mCo n 20 0 rfl) hc hR
  refine ⟨M2, ?_, a3⟩
  refine e_ev rfl rfl ?_
  refine e_run 2 rfl trivial ?_
  refine e_callv rfl (ev_le a1 (by omega)) (by decide) ?_
  refine a2 _ _ _ ?_
  rcases a3 with ⟨-, ⟨-, -, -, ⟨h1, -, -⟩, -⟩, -⟩ | ⟨-, kind, det, l, t, e, l0, C0, -, -, -, -, -, hk, h31, -, h10, h20, -⟩
  · skip
    refine e_run 2 rfl trivial ?_
    try simp only [h1]
    refine e_if rfl (fun h9 => ?_) (fun h9 => absurd (by decide) h9)
    exact e_ret rfl trivial rfl rfl
  · cases l with
    | zero =>
      refine e_run 2 rfl trivial ?_
      try simp only [h10]
      refine e_if rfl (fun h9 => ?_) (fun h9 => absurd (by decide) h9)
      exact e_ret rfl trivial rfl rfl
    | succ l =>
      have hgt : ¬ nI (l + 1) ≤ 0 := nI_ge (a := 0) (by omega) (by omega)
      refine e_run 2 rfl trivial ?_
      try simp only [h10, h31]
      refine e_if rfl (fun h9 => absurd h9 hgt) (fun h9 => ?_)
      refine e_run 2 rfl trivial ?_
      try simp only [h10, h31]
      refine e_if rfl (fun h16 => ?_) (fun h16 => absurd h16 hk)
      exact e_ret rfl trivial rfl rfl
