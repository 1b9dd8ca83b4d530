/-! THE RECURSION -/
theorem li_c {C : mv_M} {t e x j : Nat} {f : Nat → Int32} (h : li_ C t e) (hx : x = 4 ∨ x = 18) : li_ (mv_cp C x j f) t e := by
  obtain ⟨h1, h2, h3, h4, h5⟩ := h
  refine ⟨by rw [mv_cp_ne (by omega)]; exact h1, h2, by rw [mv_cp_ne (by omega)]; exact h3, ?_, fun i hi => by rw [mv_cp_ne (by omega), mv_cp_ne (by omega), mv_cp_ne (by omega)]; exact h5 i hi⟩
  rw [lv_congr (M := C) t (fun i _ => by rw [mv_cp_ne (by omega)])]
  exact h4
theorem lr_c {C M : mv_M} {t e l x j : Nat} {f : Nat → Int32} (h : lr_ C M t e l) (hx : x = 4 ∨ x = 18) : lr_ (mv_cp C x j f) M t e l := by
  obtain ⟨a1, a2, a3, a4, a5, a6, a7, a8⟩ := h
  refine ⟨li_c a1 hx, ?_, a3, ?_, ?_, ?_, ?_, fun i hi => ?_⟩
  · rw [mv_cp_ne (by omega)]; exact a2
  · rw [mv_cp_ne (by omega), mv_cp_ne (by omega)]; exact a4
  · rw [mv_cp_ne (by omega)]; exact a5
  · rw [mv_cp_ne (by omega)]; exact a6
  · rw [mv_cp_ne (by omega)]; exact a7
  · have := a8 i hi
    unfold ir_ pr_ at this ⊢
    rw [mv_cp_ne (by omega), mv_cp_ne (by omega), mv_cp_ne (by omega), mv_cp_ne (by omega), mv_cp_ne (by omega)]
    exact this
theorem kv_c {C : mv_M} {t x j : Nat} {f : Nat → Int32} (h : kv_ C t) (hx : x = 4 ∨ x = 18) : kv_ (mv_cp C x j f) t := kv_congr h (mv_cp_ne (by omega)) (mv_cp_ne (by omega)) (mv_cp_ne (by omega)) (fun s c => by rw [mv_cp_ne (by omega)])
theorem dr_c {C M : mv_M} {n x j : Nat} {f : Nat → Int32} (h : dr_ C M n) (hx : x = 4 ∨ x = 18) : dr_ (mv_cp C x j f) M n := by
  obtain ⟨⟨a1, a2, a3⟩, b1, b2, b3, b4, b5, b6⟩ := h
  refine ⟨⟨by rw [mv_cp_ne (by omega)]; exact a1, a2, fun c hc => ?_⟩, b1, by rw [mv_cp_ne (by omega)]; exact b2, by rw [mv_cp_ne (by omega)]; exact b3, by rw [mv_cp_ne (by omega)]; exact b4, by rw [mv_cp_ne (by omega)]; exact b5, by rw [mv_cp_ne (by omega)]; exact b6⟩
  unfold dc_
  rw [mv_cp_ne (by omega)]
  exact a3 c hc
theorem sd_c {C : mv_M} {x j : Nat} {f : Nat → Int32} (hx : x = 4 ∨ x = 18) : sd_ C (mv_cp C x j f) := ⟨mv_cp_ne (by omega), mv_cp_ne (by omega), mv_cp_ne (by omega), mv_cp_ne (by omega), mv_cp_ne (by omega)⟩
theorem cs_o (M : mv_M) (g c : Nat) (sc : Int32) (x : Nat) (h : x ≠ 22) (h27 : x ≠ 27) (h28 : x ≠ 28) (h29 : x ≠ 29) (h38 : x ≠ 38) (h39 : x ≠ 39) : cs_ M g c sc x = M x := by
  unfold cs_ pu_
  rw [mv_up_ne h39, mv_up_ne h38, mv_up_ne h, mv_up_ne h29, mv_up_ne h28, mv_up_ne h27]
theorem cs_22 (M : mv_M) (g c : Nat) (sc : Int32) (o : Nat) : cs_ M g c sc 22 0 o = if o = 10 then nI (g + 1) else M 22 0 o := by
  simp only [cs_, pu_, rd_, up_, Nat.reduceEqDiff, reduceIte, and_self, and_true, true_and, and_false, false_and, if_true, if_false]
theorem cs_27 (M : mv_M) (g c : Nat) (sc : Int32) (i : Nat) : cs_ M g c sc 27 0 i = (if i = g then nI c else M 27 0 i) ∧ cs_ M g c sc 28 0 i = (if i = g then 0 else M 28 0 i) ∧ cs_ M g c sc 29 0 i = (if i = g then 0 else M 29 0 i) ∧ cs_ M g c sc 38 0 i = (if i = g then sc else M 38 0 i) ∧ cs_ M g c sc 39 0 i = (if i = g then 0 else M 39 0 i) := by
  refine ⟨?_, ?_, ?_, ?_, ?_⟩ <;> simp only [cs_, pu_, rd_, up_, Nat.reduceEqDiff, reduceIte, and_self, and_true, true_and, and_false, false_and, if_true, if_false]
theorem rl_push {n g c : Nat} {C M : mv_M} {sc : Int32} (h : rl_ n g C M) (hc : c < n) (hu : uc_ C c g 0 = false) : g < 20 ∧ rl_ n (g + 1) (mv_up C 4 0 g (nI c)) (cs_ M g c sc) := by
  obtain ⟨hV, hD, ⟨t, e, l, hL, hK⟩, ⟨h1, h2, h3⟩, h4, u, h5, h6⟩ := h
  have h20 := hD.1.2.1
  have hcu : ii_ u c = false := (h6 c hc).trans hu
  have hca := cn_add hcu n (by omega) hc
  have h4g (i : Nat) : mv_up C 4 0 g (nI c) 4 0 i = if i = g then nI c else C 4 0 i := by simp only [rd_, up_, Nat.reduceEqDiff, reduceIte, and_self, and_true, true_and, and_false, false_and, if_true, if_false]
  refine ⟨by omega, cv_cp hV (by omega), ?_, ⟨t, e, l, ?_, kv_c hK (Or.inl rfl)⟩, ⟨?_, by omega, ?_⟩, fun i hi => ?_, u ||| (1 <<< (nI c &&& 31)), by omega, fun c2 hc2 => ?_⟩
  · have := dr_c (x := 4) (j := 0) (f := upd (C 4 0) g (nI c)) hD (Or.inl rfl)
    obtain ⟨b0, b1, b2, b3, b4, b5, b6⟩ := this
    exact ⟨b0, by rw [cs_22]; exact b1, by rw [cs_22]; exact b2, by rw [cs_o _ _ _ _ 23 (by omega) (by omega) (by omega) (by omega) (by omega) (by omega)]; exact b3, by rw [cs_o _ _ _ _ 24 (by omega) (by omega) (by omega) (by omega) (by omega) (by omega)]; exact b4, by rw [cs_o _ _ _ _ 25 (by omega) (by omega) (by omega) (by omega) (by omega) (by omega)]; exact b5, b6⟩
  · have := lr_c (x := 4) (j := 0) (f := upd (C 4 0) g (nI c)) hL (Or.inl rfl)
    obtain ⟨a1, a2, a3, a4, a5, a6, a7, a8⟩ := this
    refine ⟨a1, a2, ?_, ?_, ?_, ?_, ?_, fun i hi => ?_⟩
    · rw [cs_22, cs_22, cs_22]; exact a3
    · rw [cs_22, cs_22, cs_22]; exact a4
    · rw [cs_o _ _ _ _ 37 (by omega) (by omega) (by omega) (by omega) (by omega) (by omega)]; exact a5
    · rw [cs_o _ _ _ _ 36 (by omega) (by omega) (by omega) (by omega) (by omega) (by omega)]; exact a6
    · rw [cs_o _ _ _ _ 26 (by omega) (by omega) (by omega) (by omega) (by omega) (by omega)]; exact a7
    · have := a8 i hi
      unfold ir_ pr_ at this ⊢
      rw [cs_o _ _ _ _ 30 (by omega) (by omega) (by omega) (by omega) (by omega) (by omega), cs_o _ _ _ _ 31 (by omega) (by omega) (by omega) (by omega) (by omega) (by omega), cs_o _ _ _ _ 32 (by omega) (by omega) (by omega) (by omega) (by omega) (by omega), cs_o _ _ _ _ 33 (by omega) (by omega) (by omega) (by omega) (by omega) (by omega), cs_o _ _ _ _ 34 (by omega) (by omega) (by omega) (by omega) (by omega) (by omega), cs_o _ _ _ _ 35 (by omega) (by omega) (by omega) (by omega) (by omega) (by omega)]
      exact this
  · rw [cs_22, if_pos rfl]
  · rw [cs_22, if_neg (by omega)]; exact h3
  · rw [(cs_27 M g c sc i).1, h4g]
    split
    · rfl
    · exact h4 i (by omega)
  · rw [ii_or (by omega) (by omega), h6 c2 hc2]
    have e : (uc_ (mv_up C 4 0 g (nI c)) c2 (g + 1) 0 = true) ↔ (uc_ C c2 g 0 = true ∨ c2 = c) := by
      rw [uc_iff, uc_iff]
      refine ⟨fun ⟨k, _, k1, k2⟩ => ?_, fun q => ?_⟩
      · rw [h4g] at k2
        by_cases e : k = g
        · rw [if_pos e] at k2
          exact Or.inr (nI_inj (by omega) (by omega) k2.symm)
        · rw [if_neg e] at k2
          exact Or.inl ⟨k, by omega, by omega, k2⟩
      · rcases q with ⟨k, _, k1, k2⟩ | q
        · exact ⟨k, by omega, by omega, by rw [h4g, if_neg (by omega)]; exact k2⟩
        · exact ⟨g, by omega, by omega, by rw [h4g, if_pos rfl, q]⟩
    cases hx : uc_ (mv_up C 4 0 g (nI c)) c2 (g + 1) 0 with
    | true =>
      rcases e.mp hx with q | q
      · rw [q]; rfl
      · rw [decide_eq_true q, Bool.or_true]
    | false =>
      have : ¬ (uc_ C c2 g 0 = true ∨ c2 = c) := fun q => by rw [e.mpr q] at hx; cases hx
      rw [decide_eq_false (fun q => this (Or.inr q)), Bool.or_false]
      cases hy : uc_ C c2 g 0 with
      | true => exact absurd (Or.inl hy) this
      | false => rfl
/-- the relation doesn't look at the frames' own cells -/
theorem rl_m {n g : Nat} {C M M' : mv_M} (h : rl_ n g C M) (ho : ∀ x, x ≠ 28 → x ≠ 29 → x ≠ 38 → x ≠ 39 → x ≠ 40 → x ≠ 41 → M' x = M x) : rl_ n g C M' := by
  have e (x : Nat) (hx : x < 28 ∨ (29 < x ∧ x < 38)) : M' x = M x := ho x (by omega) (by omega) (by omega) (by omega) (by omega) (by omega)
  obtain ⟨hV, ⟨b0, b1, b2, b3, b4, b5, b6⟩, ⟨t, e1, l, ⟨a1, a2, a3, a4, a5, a6, a7, a8⟩, hK⟩, hR, h4, hu⟩ := h
  refine ⟨hV, ⟨b0, by rw [e 22 (by omega)]; exact b1, by rw [e 22 (by omega)]; exact b2, by rw [e 23 (by omega)]; exact b3, by rw [e 24 (by omega)]; exact b4, by rw [e 25 (by omega)]; exact b5, b6⟩, ⟨t, e1, l, ⟨a1, a2, by rw [e 22 (by omega)]; exact a3, by rw [e 22 (by omega)]; exact a4, by rw [e 37 (by omega)]; exact a5, by rw [e 36 (by omega)]; exact a6, by rw [e 26 (by omega)]; exact a7, fun i hi => ?_⟩, hK⟩, by rw [e 22 (by omega)]; exact hR, by rw [e 27 (by omega)]; exact h4, hu⟩
  have := a8 i hi
  unfold ir_ pr_ at this ⊢
  rw [e 30 (by omega), e 31 (by omega), e 32 (by omega), e 33 (by omega), e 34 (by omega), e 35 (by omega)]
  exact this
theorem uc_c18 (C : mv_M) (j : Nat) (f : Nat → Int32) (c g : Nat) : uc_ (mv_cp C 18 j f) c g 0 = uc_ C c g 0 := by
  have e : (uc_ (mv_cp C 18 j f) c g 0 = true) ↔ (uc_ C c g 0 = true) := by
    rw [uc_iff, uc_iff, mv_cp_ne (by omega)]
  cases h1 : uc_ (mv_cp C 18 j f) c g 0 with
  | true => exact (e.mp h1).symm
  | false =>
    cases h2 : uc_ C c g 0 with
    | true => rw [e.mpr h2] at h1; cases h1
    | false => rfl
theorem rl_c18 {n g j : Nat} {f : Nat → Int32} {C M : mv_M} (h : rl_ n g C M) : rl_ n g (mv_cp C 18 j f) M := by
  obtain ⟨hV, hD, ⟨t, e1, l, hL, hK⟩, hR, h4, u, h5, h6⟩ := h
  refine ⟨cv_cp hV (by omega), dr_c hD (Or.inr rfl), ⟨t, e1, l, lr_c hL (Or.inr rfl), kv_c hK (Or.inr rfl)⟩, hR, by rw [mv_cp_ne (by omega)]; exact h4, u, h5, fun c hc => by rw [uc_c18]; exact h6 c hc⟩
/-- frame g builds c, i of its dependencies served -/
def dq_ (n g c : Nat) (sc : Int32) (i : Nat) (C M : mv_M) : Prop := rl_ n (g + 1) C M ∧ C 4 0 g = nI c ∧ M 28 0 g = nI i ∧ M 39 0 g = 0 ∧ M 38 0 g = sc ∧ ∀ j, j < i → M 41 0 (6 * g + j) = C 18 g j
theorem dq_ij {n g c i : Nat} {sc v : Int32} {C M : mv_M} (h : dq_ n g c sc i C M) : dq_ n g c sc (i + 1) (mv_up C 18 g i v) (ij4_ M g i v) := by
  obtain ⟨h1, h2, h3, h4, h5, h6⟩ := h
  have e (x : Nat) (hx : x ≠ 28) (hx2 : x ≠ 41) : ij4_ M g i v x = M x := by
    unfold ij4_
    rw [mv_up_ne hx, mv_up_ne hx2]
  refine ⟨rl_c18 (rl_m h1 (fun x a _ _ _ _ b => e x a b)), by rw [mv_up_ne (by omega)]; exact h2, by simp only [ij4_, rd_, up_, Nat.reduceEqDiff, reduceIte, and_self, and_true, true_and, and_false, false_and, if_true, if_false], by rw [e 39 (by omega) (by omega)]; exact h4, by rw [e 38 (by omega) (by omega)]; exact h5, fun j hj => ?_⟩
  have e41 : ij4_ M g i v 41 0 (6 * g + j) = if 6 * g + j = 6 * g + i then v else M 41 0 (6 * g + j) := by simp only [ij4_, rd_, up_, Nat.reduceEqDiff, reduceIte, and_self, and_true, true_and, and_false, false_and, if_true, if_false]
  have e18 : mv_up C 18 g i v 18 g j = if j = i then v else C 18 g j := by simp only [rd_, up_, Nat.reduceEqDiff, reduceIte, and_self, and_true, true_and, and_false, false_and, if_true, if_false]
  rw [e41, e18]
  by_cases q : j = i
  · rw [if_pos q, if_pos (by omega)]
  · rw [if_neg q, if_neg (by omega)]
    exact h6 j (by omega)
/-- a frame just pushed -/
theorem dq_cs {n g c : Nat} {C M : mv_M} {sc : Int32} (h : rl_ n g C M) (hc : c < n) (hu : uc_ C c g 0 = false) : dq_ n g c sc 0 (mv_up C 4 0 g (nI c)) (cs_ M g c sc) := by
  obtain ⟨-, h2⟩ := rl_push (sc := sc) h hc hu
  refine ⟨h2, by simp only [rd_, up_, Nat.reduceEqDiff, reduceIte, and_self, and_true, true_and, and_false, false_and, if_true, if_false], by rw [(cs_27 M g c sc g).2.1, if_pos rfl]; rfl, by rw [(cs_27 M g c sc g).2.2.2.2, if_pos rfl], by rw [(cs_27 M g c sc g).2.2.2.1, if_pos rfl], fun j hj => by omega⟩
