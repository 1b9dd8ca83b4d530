/-! THE WHOLE CONSTRUCTION, SIMULATED -/
theorem mDl_s (n : Nat) (K : mK_) (c g m i : Nat) (M : mv_M) : mDl n K c g (m + 1) i M = if (mIn n K c i (g + 1) M).1 = -2 then (-2, (mIn n K c i (g + 1) M).2) else mDl n K c g m (i + 1) (mv_up (mIn n K c i (g + 1) M).2 18 g i (mIn n K c i (g + 1) M).1) := rfl
theorem deps_sim {n g c : Nat} {K : mK_} {sc : Int32} (hK : kc_ n (g + 1) K) (hc : c < n) : ∀ (m i : Nat) (C M : mv_M), i + m = dc_ C c → dq_ n g c sc i C M → ∃ M2, rr_ M M2 ∧ ((¬ (mDl n K c g m i C).1 = -2 ∧ dq_ n g c sc (dc_ C c) (mDl n K c g m i C).2 M2 ∧ sx_ g C M (mDl n K c g m i C).2 M2) ∨ ((mDl n K c g m i C).1 = -2 ∧ pf_ n C (mDl n K c g m i C).2 M2)) := by
  intro m
  induction m with
  | zero =>
    intro i C M hi hQ
    refine ⟨M, rr_refl M, Or.inl ⟨by show ¬ (0 : Int32) = -2; decide, ?_, sx_refl g C M⟩⟩
    have : i = dc_ C c := by omega
    rw [← this]
    exact hQ
  | succ m ih =>
    intro i C M hi hQ
    obtain ⟨M2, a1, a2⟩ := dep_sim hK hc (by omega) hQ
    rw [mDl_s]
    by_cases hr : (mIn n K c i (g + 1) C).1 = -2
    · rw [if_pos hr]
      rcases a2 with a2 | a2
      · exact absurd hr a2.1
      · exact ⟨M2, a1, Or.inr ⟨rfl, a2.2⟩⟩
    · rw [if_neg hr]
      rcases a2 with ⟨-, b1, b2⟩ | a2
      · have hdc := sd_symm_dc b2.2.2.2.1 c
        obtain ⟨M3, d1, d2⟩ := ih (i + 1) _ M2 (by rw [hdc]; omega) b1
        rw [hdc] at d2
        refine ⟨M3, rr_trans a1 d1, ?_⟩
        rcases d2 with ⟨e1, e2, e3⟩ | ⟨e1, e2⟩
        · exact Or.inl ⟨e1, e2, sx_trans b2 e3⟩
        · exact Or.inr ⟨e1, pf_sd b2.2.2.2.1 e2⟩
      · exact absurd a2.1 hr
theorem pq_sd {C C' : mv_M} {pl sc : Int32} (h : pq_ C pl sc) (hs : C' 0 = C 0) : pq_ C' pl sc := by
  unfold pq_ at h ⊢
  rw [hs]
  exact h
theorem sr_sx {n g : Nat} {C M C1 M1 M2 : mv_M} {r : Int32 × mv_M} (hst : st_ g C M C1 M1) (h : sr_ n g C1 M1 r M2) : sr_ n g C M r M2 := by
  obtain ⟨a1, a2, a3, a4, a5, a6⟩ := hst
  rcases h with ⟨h1, h2, h3, b1, b2, b3, b4, b5, b6⟩ | ⟨h1, h2⟩
  · exact Or.inl ⟨h1, h2, h3, fun i hi => (b1 i hi).trans (a1 i hi), fun j hj => (b2 j hj).trans (a2 j hj), fun c hc s => (b3 c ((uc_eq a1).trans hc) s).trans (a3 c hc s), sd_trans a4 b4, fun x i hx hi => (b5 x i hx hi).trans (a5 x i hx hi), fun i hi => (b6 i hi).trans (a6 i hi)⟩
  · exact Or.inr ⟨h1, pf_sd a4 h2⟩
theorem st_push {g c : Nat} {C M : mv_M} {sc x : Int32} : st_ g C M (mv_up C 4 0 g (nI c)) (cs_ (mv_up M 22 0 30 x) g c sc) := by
  refine ⟨fun i hi => by rw [up_x, if_neg (fun q => absurd q.2 (by omega))], fun j _ => by rw [mv_up_ne (by omega)], fun c2 _ s => by rw [mv_up_ne (by omega)], sd_c (Or.inl rfl), fun y i hy hi => ?_, fun i _ => ?_⟩
  · unfold cs_ pu_
    rw [up_x, if_neg (fun q => absurd q.2 (by omega)), up_x, if_neg (fun q => absurd q.2 (by omega)), up_x, if_neg (fun q => absurd q.1 (by omega)), up_x, if_neg (fun q => absurd q.2 (by omega)), up_x, if_neg (fun q => absurd q.2 (by omega)), up_x, if_neg (fun q => absurd q.2 (by omega)), mv_up_ne (by omega)]
  · rw [cs_o _ _ _ _ 41 (by omega) (by omega) (by omega) (by omega) (by omega) (by omega), mv_up_ne (by omega)]
theorem kc_mCo (n : Nat) : ∀ (f g : Nat), g + f = 20 → kc_ n g (mCo n (f + 1)) := by
  intro f
  induction f with
  | zero =>
    intro g hg c pl sc C M hc hR hp hf
    refine ⟨fun hu => by rw [mCo_s, if_pos (Or.inr hu)], fun hu => ?_⟩
    obtain ⟨h1, -⟩ := rl_push (sc := sc) hR hc hu
    omega
  | succ f ih =>
    intro g hg c pl sc C M hc hR hp hf
    refine ⟨fun hu => by rw [mCo_s, if_pos (Or.inr hu)], fun hu x => ?_⟩
    have hQ := dq_cs (sc := sc) (rl_22 (x := x) hR) hc hu
    have hg20 := (rl_push (sc := sc) hR hc hu).1
    have hdc : dc_ (mv_up C 4 0 g (nI c)) c = dc_ C c := sd_symm_dc (sd_c (Or.inl rfl)) c
    obtain ⟨M2, a1, a2⟩ := deps_sim (ih (g + 1) (by omega)) hc (dc_ C c) 0 _ _ (by rw [hdc]; omega) hQ
    rw [mCo_s, if_neg (fun q => q.elim (fun r => r hg20) (fun r => by rw [hu] at r; cases r))]
    rcases a2 with ⟨b1, b2, b3⟩ | ⟨b1, b2⟩
    · rw [if_neg b1]
      have hd2 := sd_symm_dc b3.2.2.2.1 c
      rw [← hd2] at b2
      have h4 : ∀ i, i < g → (mDl n (mCo n (f + 1)) c g (dc_ C c) 0 (mv_up C 4 0 g (nI c))).2 4 0 i = C 4 0 i := fun i hi => (b3.1 i (by omega)).trans (by rw [up_x, if_neg (fun q => absurd q.2 (by omega))])
      have hch : uc_ (mv_up C 4 0 g (nI c)) c (g + 1) 0 = true := by
        rw [uc_iff]
        exact ⟨g, by omega, by omega, by rw [up_x, if_pos ⟨rfl, rfl⟩]⟩
      obtain ⟨M3, d1, d2⟩ := co_sim (pl := pl) b2 hc ((uc_eq h4).trans hu) (um_eq hR.2.2.2.2.2 h4) (pq_sd hp (b3.2.2.2.1.1.trans (mv_up_ne (by omega)))) (fun q => by rw [b3.2.2.1 c hch, mv_up_ne (by omega)]; exact hf q)
      exact ⟨M3, rr_trans a1 d1, sr_sx st_push (sr_sx (sx_st b3) d2)⟩
    · rw [if_pos b1]
      exact ⟨M2, a1, Or.inr ⟨b1, pf_sd (sd_c (Or.inl rfl)) b2⟩⟩
