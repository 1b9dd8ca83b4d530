/-! ONE DEPENDENCY, SIMULATED -/
theorem ev_or (b : Bool) : b = true ∨ b = false := by cases b <;> simp
theorem sd_symm_dc {C C' : mv_M} (h : sd_ C C') (c : Nat) : dc_ C' c = dc_ C c := by
  unfold dc_
  rw [h.2.2.1]
/-- while frame g works: what lies below it is as it was, the chain with it -/
def sx_ (g : Nat) (C M C' M' : mv_M) : Prop := (∀ i, i < g + 1 → C' 4 0 i = C 4 0 i) ∧ (∀ j, j < g → C' 18 j = C 18 j) ∧ (∀ c, uc_ C c (g + 1) 0 = true → ∀ s, C' 21 s c = C 21 s c) ∧ sd_ C C' ∧ (∀ x i, x = 27 ∨ x = 28 ∨ x = 29 ∨ x = 38 ∨ x = 39 ∨ x = 40 → i < g → M' x 0 i = M x 0 i) ∧ ∀ i, i < 6 * g → M' 41 0 i = M 41 0 i
theorem sx_refl (g : Nat) (C M : mv_M) : sx_ g C M C M := ⟨fun _ _ => rfl, fun _ _ => rfl, fun _ _ _ => rfl, sd_refl C, fun _ _ _ _ => rfl, fun _ _ => rfl⟩
theorem sx_trans {g : Nat} {C M C1 M1 C2 M2 : mv_M} (h : sx_ g C M C1 M1) (h2 : sx_ g C1 M1 C2 M2) : sx_ g C M C2 M2 := by
  obtain ⟨a1, a2, a3, a4, a5, a6⟩ := h
  obtain ⟨b1, b2, b3, b4, b5, b6⟩ := h2
  refine ⟨fun i hi => (b1 i hi).trans (a1 i hi), fun j hj => (b2 j hj).trans (a2 j hj), fun c hc s => (b3 c ((uc_eq a1).trans hc) s).trans (a3 c hc s), sd_trans a4 b4, fun x i hx hi => (b5 x i hx hi).trans (a5 x i hx hi), fun i hi => (b6 i hi).trans (a6 i hi)⟩
theorem st_sx {g : Nat} {C M C' M' : mv_M} (h : st_ (g + 1) C M C' M') : sx_ g C M C' M' := by
  obtain ⟨a1, a2, a3, a4, a5, a6⟩ := h
  exact ⟨a1, fun j hj => a2 j (by omega), a3, a4, fun x i hx hi => a5 x i hx (by omega), fun i hi => a6 i (by omega)⟩
theorem uc_mono {C : mv_M} {c g g2 : Nat} (hg : g ≤ g2) (h : uc_ C c g 0 = true) : uc_ C c g2 0 = true := by
  rw [uc_iff] at h ⊢
  obtain ⟨k, a, b, q⟩ := h
  exact ⟨k, a, by omega, q⟩
theorem sx_st {g : Nat} {C M C' M' : mv_M} (h : sx_ g C M C' M') : st_ g C M C' M' := by
  obtain ⟨a1, a2, a3, a4, a5, a6⟩ := h
  exact ⟨fun i hi => a1 i (by omega), a2, fun c hc s => a3 c (uc_mono (by omega) hc) s, a4, a5, a6⟩
/-- cells of frame g alone -/
theorem sx_cell {g : Nat} {C M M' : mv_M} (h : ∀ x i, x = 27 ∨ x = 28 ∨ x = 29 ∨ x = 38 ∨ x = 39 ∨ x = 40 → i < g → M' x 0 i = M x 0 i) (h41 : ∀ i, i < 6 * g → M' 41 0 i = M 41 0 i) : sx_ g C M C M' := ⟨fun _ _ => rfl, fun _ _ => rfl, fun _ _ _ => rfl, sd_refl C, h, h41⟩
theorem up_x (M : mv_M) (y o x i : Nat) (v : Int32) : mv_up M y 0 o v x 0 i = if x = y ∧ i = o then v else M x 0 i := by
  simp only [rd_]
  by_cases h : x = y
  · subst h
    simp [up_]
  · simp [h]
theorem sx_up {g : Nat} {C M : mv_M} {y : Nat} {v : Int32} (hy : y ≠ 41) : sx_ g C M C (mv_up M y 0 g v) := by
  refine sx_cell (fun x i _ hi => ?_) (fun i _ => ?_)
  · rw [up_x, if_neg (fun q => absurd q.2 (by omega))]
  · rw [up_x, if_neg (fun q => hy q.1.symm)]
theorem sx_ij {g i : Nat} {C M : mv_M} {v : Int32} : sx_ g C M (mv_up C 18 g i v) (ij4_ M g i v) := by
  refine ⟨fun k _ => by rw [mv_up_ne (by omega)], fun j hj => ?_, fun c _ s => by rw [mv_up_ne (by omega)], sd_c (Or.inr rfl), fun x k hx hk => ?_, fun k hk => ?_⟩
  · simp only [rd_, up_, Nat.reduceEqDiff, reduceIte, and_self, and_true, true_and, and_false, false_and, if_true, if_false]
    rw [if_neg (by omega)]
  · unfold ij4_
    rw [up_x, if_neg (fun q => absurd q.2 (by omega)), up_x, if_neg (fun q => absurd q.1 (by omega))]
  · unfold ij4_
    rw [up_x, if_neg (fun q => absurd q.1 (by omega)), up_x, if_neg (fun q => absurd q.2 (by omega))]
theorem pf_sd {n : Nat} {C C1 C' M' : mv_M} (h : sd_ C C1) (h2 : pf_ n C1 C' M') : pf_ n C C' M' := by
  obtain ⟨kind, det, l, t, e, l0, C0, a1, a2, a3, a4, a5, a6, a7, a8, a9, b1, b2, b3⟩ := h2
  exact ⟨kind, det, l, t, e, l0, C0, a1, a2, a3, a4, a5, a6, a7, a8, a9, b1, b2, sd_trans h b3⟩
/-- frame g awaits: dependency i, out of x, of which y is left -/
def aq_ (n g c : Nat) (sc : Int32) (i : Nat) (x y : Int32) (C M : mv_M) : Prop := rl_ n (g + 1) C M ∧ C 4 0 g = nI c ∧ M 28 0 g = nI i ∧ ¬ M 39 0 g = 0 ∧ M 38 0 g = sc ∧ (∀ j, j < i → M 41 0 (6 * g + j) = C 18 g j) ∧ M 29 0 g = y ∧ M 40 0 g = nI (bn_ x 20)
theorem aq_st {n g c i : Nat} {sc x y : Int32} {C M C' M' : mv_M} (h : aq_ n g c sc i x y C M) (hi : i < 6) (hR : rl_ n (g + 1) C' M') (hs : st_ (g + 1) C M C' M') : aq_ n g c sc i x y C' M' := by
  obtain ⟨-, b1, b2, b3, b4, b5, b6, b7⟩ := h
  obtain ⟨a1, a2, a3, a4, a5, a6⟩ := hs
  have e (y : Nat) (hy : y = 27 ∨ y = 28 ∨ y = 29 ∨ y = 38 ∨ y = 39 ∨ y = 40) := a5 y g hy (by omega)
  refine ⟨hR, (a1 g (by omega)).trans b1, (e 28 (by omega)).trans b2, by rw [e 39 (by omega)]; exact b3, (e 38 (by omega)).trans b4, fun j hj => ?_, (e 29 (by omega)).trans b6, (e 40 (by omega)).trans b7⟩
  rw [a6 (6 * g + j) (by omega), a2 g (by omega)]
  exact b5 j hj
/-- the outcome of dependency i -/
def ou_ (n g c : Nat) (sc : Int32) (i : Nat) (C M : mv_M) (r : Int32 × mv_M) (M2 : mv_M) : Prop := (¬ r.1 = -2 ∧ dq_ n g c sc (i + 1) (mv_up r.2 18 g i r.1) M2 ∧ sx_ g C M (mv_up r.2 18 g i r.1) M2) ∨ (r.1 = -2 ∧ pf_ n C r.2 M2)
theorem ou_sx {n g c i : Nat} {sc : Int32} {C M C1 M1 M2 : mv_M} {r : Int32 × mv_M} (h : sx_ g C M C1 M1) (h2 : ou_ n g c sc i C1 M1 r M2) : ou_ n g c sc i C M r M2 := by
  rcases h2 with ⟨a, b, d⟩ | ⟨a, b⟩
  · exact Or.inl ⟨a, b, sx_trans h d⟩
  · exact Or.inr ⟨a, pf_sd h.2.2.2.1 b⟩
/-- the last one is received -/
theorem rec_l {n g c i : Nat} {sc x y : Int32} {C M : mv_M} (h : aq_ n g c sc i x y C M) (hc : c < n) (hi : i < 6) (hy : y &&& (y - 1) = 0) : ∃ M2, rr_ M M2 ∧ dq_ n g c sc (i + 1) (mv_up C 18 g i (if C 20 c (3 * i + 2) = 2 then nI (bn_ x 20) else M 22 0 30)) M2 ∧ sx_ g C M (mv_up C 18 g i (if C 20 c (3 * i + 2) = 2 then nI (bn_ x 20) else M 22 0 30)) M2 := by
  obtain ⟨hR, b1, b2, b3, b4, b5, b6, b7⟩ := h
  have hD := hR.2.1
  have h20 := hD.1.2.1
  obtain ⟨r1, r2, r3⟩ := hR.2.2.2.1
  have h27 : M 27 0 g = nI c := (hR.2.2.2.2.1 g (by omega)).trans b1
  have hrec := rs_receive_l 4 n g c i hD (by omega) (by omega) hi h27 b2 (by rw [b6]; exact hy)
  rw [b6, b7] at hrec
  have hdq : dq_ n g c sc i C (mv_up (mv_up M 29 0 g (y &&& (y - 1))) 39 0 g 0) := by
    refine ⟨rl_m hR (fun z a b d e f k => by rw [mv_up_ne e, mv_up_ne b]), b1, by rw [mv_up_ne (by omega), mv_up_ne (by omega)]; exact b2, by rw [up_x, if_pos ⟨rfl, rfl⟩], by rw [mv_up_ne (by omega), mv_up_ne (by omega)]; exact b4, fun j hj => by rw [mv_up_ne (by omega), mv_up_ne (by omega)]; exact b5 j hj⟩
  refine ⟨_, rr_step r1 (by omega) r3 (ev_le (rs_goOn_r 5 g (by omega) r1 b3 hrec) (by omega)), dq_ij hdq, sx_trans (sx_trans (sx_up (by omega)) (sx_up (by omega))) sx_ij⟩
