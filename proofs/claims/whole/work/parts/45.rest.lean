/-! THE RELATION AT REST, CALL BY CALL -/
theorem rw_cg {n t e l : Nat} {C C' M M' : mv_M} (h : rw_ n t e l C M) (hC : ∀ g, g ≤ 21 → C' g = C g) (hM : ∀ g, 22 ≤ g → g ≤ 41 → M' g = M g) : rw_ n t e l C' M' := by
  obtain ⟨hV, hD, ⟨⟨g1, g2, g3, g4, g5⟩, a2, ⟨b1, b2, b3⟩, ⟨b4, b5, b6⟩, a5, a6, a7, a8⟩, hK⟩ := h
  have e (x : Nat) (hx : x ≤ 21) := hC x hx
  have z (x : Nat) (hx : 22 ≤ x ∧ x ≤ 41) := hM x hx.1 hx.2
  refine ⟨cv_congr hV (e 0 (by omega)) (e 1 (by omega)) (e 2 (by omega)) (e 8 (by omega)) (e 9 (by omega)) (e 10 (by omega)) (e 11 (by omega)) (e 19 (by omega)), dr_cg hD (e 1 (by omega)) (e 8 (by omega)) (e 19 (by omega)) (e 20 (by omega)) (by rw [z 22 (by omega)]) (by rw [z 22 (by omega)]) (z 23 (by omega)) (z 24 (by omega)) (z 25 (by omega)), ?_, kv_congr hK (e 9 (by omega)) (e 10 (by omega)) (e 11 (by omega)) (fun s c => by rw [e 21 (by omega)])⟩
  refine ⟨⟨by rw [e 2 (by omega)]; exact g1, g2, by rw [e 2 (by omega)]; exact g3, ?_, fun i hi => by rw [e 9 (by omega), e 10 (by omega), e 11 (by omega)]; exact g5 i hi⟩, by rw [e 3 (by omega)]; exact a2, by rw [z 22 (by omega)]; exact ⟨b1, b2, b3⟩, by rw [z 22 (by omega), e 0 (by omega), e 3 (by omega)]; exact ⟨b4, b5, b6⟩, by rw [z 37 (by omega), e 17 (by omega)]; exact a5, by rw [z 36 (by omega), e 16 (by omega)]; exact a6, by rw [z 26 (by omega), e 15 (by omega)]; exact a7, fun i hi => ?_⟩
  · rw [lv_congr (M := C) t (fun i _ => by rw [e 11 (by omega)])]
    exact g4
  · have := a8 i hi
    unfold ir_ pr_ at this ⊢
    rw [z 30 (by omega), z 31 (by omega), z 32 (by omega), z 33 (by omega), z 34 (by omega), z 35 (by omega), e 9 (by omega), e 10 (by omega), e 11 (by omega), e 12 (by omega), e 13 (by omega)]
    exact this
/-- the descriptions have changed alone -/
theorem rw_dd {n n2 t e l : Nat} {C C' M M' : mv_M} (h : rw_ n t e l C M) (hD : dr_ C' M' n2) (hc : ∀ c, c < 20 → C' 19 c 1 = 0 ∨ C' 19 c 1 = 1 ∨ C' 19 c 1 = 2) (hC : ∀ g, g ≠ 1 → g ≠ 8 → g ≠ 19 → g ≠ 20 → C' g = C g) (h22 : ∀ o, o ≠ 0 → o ≠ 1 → o ≠ 6 → M' 22 0 o = M 22 0 o) (hM : ∀ g, g ≠ 22 → g ≠ 23 → g ≠ 24 → g ≠ 25 → M' g = M g) : rw_ n2 t e l C' M' := by
  obtain ⟨⟨-, ⟨t1, e1, v1, v2, v3, v4, v5⟩, w1, -⟩, -, ⟨⟨g1, g2, g3, g4, g5⟩, a2, ⟨b1, b2, b3⟩, ⟨b4, b5, b6⟩, a5, a6, a7, a8⟩, hK⟩ := h
  have c (x : Nat) (hx : x ≠ 1 ∧ x ≠ 8 ∧ x ≠ 19 ∧ x ≠ 20) := hC x hx.1 hx.2.1 hx.2.2.1 hx.2.2.2
  have z (x : Nat) (hx : 26 ≤ x) := hM x (by omega) (by omega) (by omega) (by omega)
  have o (x : Nat) (hx : 7 ≤ x) := h22 x (by omega) (by omega) (by omega)
  have hlv (s : Nat) : lv_ C' s = lv_ C s := lv_congr (M := C) s (fun i _ => by rw [c 11 (by omega)])
  refine ⟨⟨hD.1, ⟨t1, e1, by rw [c 2 (by omega)]; exact v1, v2, by rw [c 2 (by omega)]; exact v3, by rw [hlv]; exact v4, fun i hi => by rw [c 9 (by omega), c 10 (by omega), c 11 (by omega)]; exact v5 i hi⟩, by rw [c 0 (by omega)]; exact w1, hc⟩, hD, ?_, kv_congr hK (c 9 (by omega)) (c 10 (by omega)) (c 11 (by omega)) (fun s x => by rw [c 21 (by omega)])⟩
  refine ⟨⟨by rw [c 2 (by omega)]; exact g1, g2, by rw [c 2 (by omega)]; exact g3, by rw [hlv]; exact g4, fun i hi => by rw [c 9 (by omega), c 10 (by omega), c 11 (by omega)]; exact g5 i hi⟩, by rw [c 3 (by omega)]; exact a2, ⟨by rw [o 12 (by omega)]; exact b1, by rw [o 20 (by omega)]; exact b2, by rw [o 24 (by omega)]; exact b3⟩, ⟨by rw [o 19 (by omega), c 0 (by omega)]; exact b4, by rw [o 22 (by omega), c 3 (by omega)]; exact b5, by rw [o 23 (by omega), c 3 (by omega)]; exact b6⟩, by rw [z 37 (by omega), c 17 (by omega)]; exact a5, by rw [z 36 (by omega), c 16 (by omega)]; exact a6, by rw [z 26 (by omega), c 15 (by omega)]; exact a7, fun i hi => ?_⟩
  have := a8 i hi
  unfold ir_ pr_ at this ⊢
  rw [z 30 (by omega), z 31 (by omega), z 32 (by omega), z 33 (by omega), z 34 (by omega), z 35 (by omega), c 9 (by omega), c 10 (by omega), c 11 (by omega), c 12 (by omega), c 13 (by omega)]
  exact this
theorem bw_iff (v lo hi : Int32) : bw_ v lo hi = true ↔ lo.toInt ≤ v.toInt ∧ v.toInt ≤ hi.toInt := by
  unfold bw_
  rw [Bool.and_eq_true, Bool.not_eq_true', Bool.not_eq_true', decide_eq_false_iff_not, decide_eq_false_iff_not, Int32.lt_iff_toInt_lt, Int32.lt_iff_toInt_lt]
  omega
theorem bw_01 {v : Int32} (h : bw_ v 0 1 = true) : v = 0 ∨ v = 1 := by
  obtain ⟨h1, h2⟩ := (bw_iff v 0 1).mp h
  have e0 : (0 : Int32).toInt = 0 := by decide
  have e1 : (1 : Int32).toInt = 1 := by decide
  rcases (show v.toInt = 0 ∨ v.toInt = 1 by omega) with q | q
  · exact Or.inl (Int32.toInt_inj.mp (q.trans e0.symm))
  · exact Or.inr (Int32.toInt_inj.mp (q.trans e1.symm))
theorem bw_02 {v : Int32} (h : bw_ v 0 2 = true) : v = 0 ∨ v = 1 ∨ v = 2 := by
  obtain ⟨h1, h2⟩ := (bw_iff v 0 2).mp h
  have e0 : (0 : Int32).toInt = 0 := by decide
  have e1 : (1 : Int32).toInt = 1 := by decide
  have e2 : (2 : Int32).toInt = 2 := by decide
  rcases (show v.toInt = 0 ∨ v.toInt = 1 ∨ v.toInt = 2 by omega) with q | q | q
  · exact Or.inl (Int32.toInt_inj.mp (q.trans e0.symm))
  · exact Or.inr (Or.inl (Int32.toInt_inj.mp (q.trans e1.symm)))
  · exact Or.inr (Or.inr (Int32.toInt_inj.mp (q.trans e2.symm)))
theorem bw_nI {v : Int32} {m : Nat} (hm : m < 2 ^ 31) (h : bw_ v 0 (nI m) = true) : ∃ k, k ≤ m ∧ v = nI k := by
  obtain ⟨h1, h2⟩ := (bw_iff v 0 (nI m)).mp h
  rw [nI_toInt hm] at h2
  have e0 : (0 : Int32).toInt = 0 := by decide
  have hv : ¬ v < 0 := by
    rw [Int32.lt_iff_toInt_lt]
    omega
  obtain ⟨k, hk, rfl⟩ := nI_of hv
  rw [nI_toInt hk] at h2
  exact ⟨k, by omega, rfl⟩
theorem up_xj (M : mv_M) (y j o x a i : Nat) (v : Int32) : mv_up M y j o v x a i = if (x = y ∧ a = j) ∧ i = o then v else M x a i := by
  simp only [rd_]
  by_cases h : x = y ∧ a = j
  · rw [if_pos h, up_]
    by_cases q : i = o
    · rw [if_pos q, if_pos ⟨h, q⟩]
    · rw [if_neg q, if_neg (fun r => q r.2), h.1, h.2]
  · rw [if_neg h, if_neg (fun r => h r.1)]
theorem rw_add {n t e l : Nat} {C M : mv_M} {ty s : Int32} (h : rw_ n t e l C M) (h20 : n < 20) (hs : bw_ s 0 2 = true) : rw_ (n + 1) t e l (ap_ C n ty s) (ra_ M n ty s) := by
  obtain ⟨⟨b0, b00, b01⟩, b1, b2, b3, b4, b5, b6⟩ := h.2.1
  have c19 (c k : Nat) : ap_ C n ty s 19 c k = if c = n ∧ k = 0 then ty else if c = n ∧ k = 1 then s else if c = n ∧ (k = 2 ∨ k = 5 ∨ k = 6) then -1 else C 19 c k := by
    unfold ap_
    simp only [up_xj]
    by_cases hc : c = n
    · subst hc
      by_cases k0 : k = 0
      · subst k0; simp
      · by_cases k1 : k = 1
        · subst k1; simp
        · by_cases k2 : k = 2
          · subst k2; simp
          · by_cases k5 : k = 5
            · subst k5; simp
            · by_cases k6 : k = 6
              · subst k6; simp
              · simp [k0, k1, k2, k5, k6]
    · simp [hc]
  have m23 (j : Nat) : ra_ M n ty s 23 0 j = if j = 7 * n then ty else if j = 7 * n + 1 then s else if j = 7 * n + 2 ∨ j = 7 * n + 5 ∨ j = 7 * n + 6 then -1 else M 23 0 j := by
    unfold ra_ th_
    simp only [up_x]
    by_cases k0 : j = 7 * n
    · subst k0; simp
    · by_cases k1 : j = 7 * n + 1
      · subst k1; simp
      · by_cases k2 : j = 7 * n + 2
        · subst k2; simp
        · by_cases k5 : j = 7 * n + 5
          · subst k5; simp
          · by_cases k6 : j = 7 * n + 6
            · subst k6; simp
            · simp [k0, k1, k2, k5, k6]
  have o (x : Nat) (h1 : x ≠ 19) (h2 : x ≠ 1) : ap_ C n ty s x = C x := by
    unfold ap_
    rw [mv_up_ne h2, mv_up_ne h1, mv_up_ne h1, mv_up_ne h1, mv_up_ne h1, mv_up_ne h1]
  have r (x : Nat) (h1 : x ≠ 22) (h2 : x ≠ 23) : ra_ M n ty s x = M x := by
    unfold ra_ th_
    rw [mv_up_ne h1, mv_up_ne h2, mv_up_ne h2, mv_up_ne h2, mv_up_ne h2, mv_up_ne h2, mv_up_ne h1]
  refine rw_dd h ⟨⟨by unfold ap_; rw [up_x, if_pos ⟨rfl, rfl⟩], by omega, fun c hc => ?_⟩, by unfold ra_; rw [up_x, if_pos ⟨rfl, rfl⟩], ?_, fun c k hc hk => ?_, fun c hc => by rw [r 24 (by omega) (by omega), o 8 (by omega) (by omega)]; exact b4 c hc, fun c j hc hj => by rw [r 25 (by omega) (by omega), o 20 (by omega) (by omega)]; exact b5 c j hc hj, fun c hc => ?_⟩ (fun c hc => ?_) (fun g h1 _ h19 _ => o g h19 h1) (fun p h0 h1 _ => ?_) (fun g h1 h2 _ _ => r g h1 h2)
  · unfold dc_
    rw [o 8 (by omega) (by omega)]
    exact b01 c hc
  · unfold ap_ ra_ th_
    simp only [up_xj]
    simpa using b2
  · rw [c19, m23]
    by_cases q : c = n
    · subst q
      by_cases k0 : k = 0
      · subst k0; simp
      · by_cases k1 : k = 1
        · subst k1; simp
        · by_cases k2 : k = 2 ∨ k = 5 ∨ k = 6
          · rw [if_neg (by omega), if_neg (by omega), if_pos (by omega), if_neg (by omega), if_neg (by omega), if_pos ⟨rfl, k2⟩]
          · rw [if_neg (by omega), if_neg (by omega), if_neg (by omega), if_neg (by omega), if_neg (by omega), if_neg (fun z => k2 z.2)]
            exact b3 c k hc hk
    · rw [if_neg (by omega), if_neg (by omega), if_neg (by omega), if_neg (fun z => q z.1), if_neg (fun z => q z.1), if_neg (fun z => q z.1)]
      exact b3 c k hc hk
  · rw [c19, if_neg (by omega), if_neg (by omega), if_neg (by omega)]
    exact b6 c hc
  · rw [c19]
    by_cases q : c = n
    · rw [if_neg (by omega), if_pos ⟨q, rfl⟩]
      exact bw_02 hs
    · rw [if_neg (by omega), if_neg (by omega), if_neg (by omega)]
      exact h.1.2.2.2 c hc
  · unfold ra_ th_
    rw [up_x, if_neg (fun z => h1 z.2), mv_up_ne (by omega), mv_up_ne (by omega), mv_up_ne (by omega), mv_up_ne (by omega), mv_up_ne (by omega), up_x, if_neg (fun z => h0 z.2)]
theorem rw_set {n t e l c p : Nat} {C M : mv_M} {v : Int32} (h : rw_ n t e l C M) (hc : c < n) (hp : p < 7) (hv : bw_ v (pb_ p).1 (pb_ p).2 = true) : rw_ n t e l (mv_up C 19 c p v) (mv_up (th_ M 0) 23 0 (7 * c + p) v) := by
  obtain ⟨⟨b0, b00, b01⟩, b1, b2, b3, b4, b5, b6⟩ := h.2.1
  refine rw_dd h ⟨⟨by rw [mv_up_ne (by omega)]; exact b0, b00, fun x hx => ?_⟩, b1, b2, fun x k hx hk => ?_, fun x hx => by rw [mv_up_ne (by omega), mv_up_ne (g' := 8) (by omega)]; exact b4 x hx, fun x j hx hj => by rw [mv_up_ne (by omega), mv_up_ne (g' := 20) (by omega)]; exact b5 x j hx hj, fun x hx => ?_⟩ (fun x hx => ?_) (fun g _ _ h19 _ => mv_up_ne h19) (fun o h0 _ _ => ?_) (fun g h1 h2 _ _ => by unfold th_; rw [mv_up_ne h2, mv_up_ne h1])
  · unfold dc_
    rw [mv_up_ne (g' := 8) (by omega)]
    exact b01 x hx
  · rw [up_x, up_xj]
    by_cases q : x = c ∧ k = p
    · rw [if_pos ⟨rfl, by omega⟩, if_pos ⟨⟨rfl, q.1⟩, q.2⟩]
    · rw [if_neg (by omega), if_neg (fun z => q ⟨z.1.2, z.2⟩)]
      exact b3 x k hx hk
  · rw [up_xj]
    split
    · next q =>
      have hp3 : p = 3 := q.2.symm
      subst hp3
      exact bw_01 hv
    · exact b6 x hx
  · rw [up_xj]
    split
    · next q =>
      have hp1 : p = 1 := q.2.symm
      subst hp1
      exact bw_02 hv
    · exact h.1.2.2.2 x hx
  · unfold th_
    rw [mv_up_ne (by omega), up_x, if_neg (fun z => h0 z.2)]
theorem rw_depend {n t e l c k : Nat} {C M : mv_M} {ty q m : Int32} (h : rw_ n t e l C M) (hc : c < n) (hk : C 8 0 c = nI k) (h6 : k < 6) : rw_ n t e l (ad_ C c k ty q m) (rd4_ M c k ty q m) := by
  obtain ⟨⟨b0, b00, b01⟩, b1, b2, b3, b4, b5, b6⟩ := h.2.1
  have o (x : Nat) (h1 : x ≠ 8) (h2 : x ≠ 20) : ad_ C c k ty q m x = C x := by
    unfold ad_
    rw [mv_up_ne h1, mv_up_ne h2, mv_up_ne h2, mv_up_ne h2]
  have r (x : Nat) (h1 : x ≠ 22) (h2 : x ≠ 24) (h3 : x ≠ 25) : rd4_ M c k ty q m x = M x := by
    unfold rd4_ th_
    rw [mv_up_ne h2, mv_up_ne h3, mv_up_ne h3, mv_up_ne h3, mv_up_ne h1]
  have r22 (x : Nat) (hx : x ≠ 0) : rd4_ M c k ty q m 22 0 x = M 22 0 x := by
    unfold rd4_ th_
    rw [mv_up_ne (by omega), mv_up_ne (by omega), mv_up_ne (by omega), mv_up_ne (by omega), up_x, if_neg (fun z => hx z.2)]
  have c8 (x : Nat) : ad_ C c k ty q m 8 0 x = if x = c then nI (k + 1) else C 8 0 x := by
    unfold ad_
    rw [up_x]
    simp only [true_and]
    split
    · rfl
    · rw [mv_up_ne (by omega), mv_up_ne (by omega), mv_up_ne (by omega)]
  have m24 (x : Nat) : rd4_ M c k ty q m 24 0 x = if x = c then nI (k + 1) else M 24 0 x := by
    unfold rd4_ th_
    rw [up_x]
    simp only [true_and]
    split
    · rfl
    · rw [mv_up_ne (by omega), mv_up_ne (by omega), mv_up_ne (by omega), mv_up_ne (by omega)]
  refine rw_dd h ⟨⟨by rw [o 1 (by omega) (by omega)]; exact b0, b00, fun x hx => ?_⟩, by rw [r22 1 (by omega)]; exact b1, by rw [r22 6 (by omega), o 1 (by omega) (by omega)]; exact b2, fun x j hx hj => by rw [r 23 (by omega) (by omega) (by omega), o 19 (by omega) (by omega)]; exact b3 x j hx hj, fun x hx => ?_, fun x j hx hj => ?_, by rw [o 19 (by omega) (by omega)]; exact b6⟩ (by rw [o 19 (by omega) (by omega)]; exact h.1.2.2.2) (fun g _ h8 _ h20 => o g h8 h20) (fun p h0 _ _ => r22 p h0) (fun g h1 _ h2 h3 => r g h1 h2 h3)
  · unfold dc_
    rw [c8]
    split
    · rw [nI_clamp (by omega)]
      exact ⟨rfl, by omega⟩
    · exact b01 x hx
  · rw [m24, c8]
    split
    · rfl
    · exact b4 x hx
  · unfold rd4_ th_ ad_
    simp only [up_xj]
    by_cases hx2 : x = c
    · subst hx2
      by_cases j0 : j = 3 * k
      · subst j0; simp
      · by_cases j1 : j = 3 * k + 1
        · subst j1; simp [Nat.add_assoc]
        · by_cases j2 : j = 3 * k + 2
          · subst j2; simp [Nat.add_assoc]
          · rw [if_neg (by omega), if_neg (by omega), if_neg (by omega), if_neg (by omega), if_neg (by omega), if_neg (by omega), if_neg (by omega), if_neg (by omega), if_neg (by omega)]
            exact b5 x j hx hj
    · rw [if_neg (by omega), if_neg (by omega), if_neg (by omega), if_neg (by omega), if_neg (by omega), if_neg (by omega), if_neg (by omega), if_neg (by omega), if_neg (by omega)]
      exact b5 x j hx hj
theorem rw_clear {n t e l c : Nat} {C M : mv_M} (h : rw_ n t e l C M) (hc : c < n) : rw_ n t e l (mv_up C 8 0 c 0) (mv_up (th_ M 0) 24 0 c 0) := by
  obtain ⟨⟨b0, b00, b01⟩, b1, b2, b3, b4, b5, b6⟩ := h.2.1
  refine rw_dd h ⟨⟨by rw [mv_up_ne (by omega)]; exact b0, b00, fun x hx => ?_⟩, b1, b2, fun x k hx hk => ?_, fun x hx => ?_, fun x j hx hj => ?_, fun x hx => ?_⟩ (fun x hx => ?_) (fun g _ h8 _ _ => mv_up_ne h8) (fun o h0 _ _ => ?_) (fun g h1 _ h2 _ => by unfold th_; rw [mv_up_ne h2, mv_up_ne h1])
  · unfold dc_
    rw [up_x]
    split
    · exact ⟨rfl, by decide⟩
    · exact b01 x hx
  · rw [mv_up_ne (g' := 19) (by omega)]
    exact b3 x k hx hk
  · rw [up_x, up_x]
    simp only [true_and]
    split
    · rfl
    · exact b4 x hx
  · rw [mv_up_ne (g' := 20) (by omega)]
    exact b5 x j hx hj
  · rw [mv_up_ne (g' := 19) (by omega)]
    exact b6 x hx
  · rw [mv_up_ne (g' := 19) (by omega)]
    exact h.1.2.2.2 x hx
  · unfold th_
    rw [mv_up_ne (by omega), up_x, if_neg (fun z => h0 z.2)]
theorem rw_profile {n t e l : Nat} {C M : mv_M} {p on : Int32} (h : rw_ n t e l C M) : rw_ n t e l (tp_ C p on) (mv_up (th_ M 0) 22 0 6 (tp_ C p on 1 0 4)) := by
  obtain ⟨⟨b0, b00, b01⟩, b1, b2, b3, b4, b5, b6⟩ := h.2.1
  have o (x : Nat) (h1 : x ≠ 1) : tp_ C p on x = C x := by
    unfold tp_
    rw [mv_up_ne h1]
  refine rw_dd h ⟨⟨?_, b00, fun x hx => ?_⟩, b1, by rw [up_x, if_pos ⟨rfl, rfl⟩], fun x k hx hk => ?_, fun x hx => ?_, fun x j hx hj => ?_, fun x hx => ?_⟩ (fun x hx => ?_) (fun g h1 _ _ _ => o g h1) (fun o h0 _ h6 => ?_) (fun g h1 _ _ _ => by unfold th_; rw [mv_up_ne h1, mv_up_ne h1])
  · unfold tp_
    rw [up_x, if_neg (by omega)]
    exact b0
  · unfold dc_
    rw [o 8 (by omega)]
    exact b01 x hx
  · rw [o 19 (by omega)]
    exact b3 x k hx hk
  · rw [o 8 (by omega)]
    exact b4 x hx
  · rw [o 20 (by omega)]
    exact b5 x j hx hj
  · rw [o 19 (by omega)]
    exact b6 x hx
  · rw [o 19 (by omega)]
    exact h.1.2.2.2 x hx
  · unfold th_
    rw [up_x, if_neg (fun z => h6 z.2), up_x, if_neg (fun z => h0 z.2)]
theorem rw_begin {n t e l o : Nat} {C M : mv_M} (h : rw_ n t e l C M) (ho : o ≤ 5) : rw_ n t e l (mv_up C 0 0 3 (nI o)) (mv_up (th_ M 0) 22 0 19 (nI o)) := by
  obtain ⟨hV, hD, ⟨⟨g1, g2, g3, g4, g5⟩, a2, a3, ⟨a4, a5, a6⟩, a7, a8, a9, a10⟩, hK⟩ := h
  refine ⟨cv_open hV ho, hD, ⟨⟨g1, g2, g3, ?_, g5⟩, a2, a3, ⟨rfl, a5, a6⟩, a7, a8, a9, a10⟩, kv_congr hK rfl rfl rfl (fun _ _ => rfl)⟩
  exact (congrArg (fun z => e + z) (lv_congr (M := C) (M' := mv_up C 0 0 3 (nI o)) t (fun i _ => rfl))).trans g4
theorem ic_da {C : mv_M} {t e : Nat} (hL : li_ C t e) : ic_ C = mv_up (da_ C 0 (C 0 0 3) t).1 0 0 3 (C 0 0 3 - 1) := by
  have h2 := hL.2.1
  unfold ic_
  rw [hL.1, nI_clamp (by omega)]
theorem kv_ic {C : mv_M} {t e : Nat} (h : kv_ C t) (hL : li_ C t e) : kv_ (ic_ C) t := by
  rw [ic_da hL]
  exact kv_congr (kv_df 0 (C 0 0 3) t t C e 0 (Nat.le_refl t) hL h) rfl rfl rfl (fun _ _ => rfl)
theorem li_ic {C : mv_M} {t e : Nat} (hL : li_ C t e) : ∃ e', li_ (ic_ C) t e' := by
  rw [ic_da hL]
  obtain ⟨e', g1, g2, g3, g4, g5⟩ := li_df 0 (C 0 0 3) t t C e 0 (Nat.le_refl t) hL
  refine ⟨e', g1, g2, g3, ?_, g5⟩
  exact (congrArg (fun z => e' + z) (lv_congr (M := (da_ C 0 (C 0 0 3) t).1) (M' := mv_up (da_ C 0 (C 0 0 3) t).1 0 0 3 (C 0 0 3 - 1)) t (fun i _ => rfl))).trans g4
theorem ic_o {C : mv_M} {t e x : Nat} (hL : li_ C t e) (hx : x = 1 ∨ x = 8 ∨ x = 19 ∨ x = 20) : ic_ C x = C x := by
  rw [ic_da hL, mv_up_ne (by omega)]
  exact df_o 0 _ x (by omega) (by omega) (by omega) (by omega) t C 0
theorem rp_end2 {n t e l s : Nat} {C M : mv_M} (h : rw_ n t e l C M) (hs : s < 5) (ho : C 0 0 3 = nI (s + 1)) : ∃ M2 e2, rw_ n t e2 l (ic_ C) M2 ∧ M2 22 0 0 = 0 ∧ ev_ 3 kX4_end [mv_R 22 0] M (Sum.inl (some (mv_I (nI (in_ C))))) M2 := by
  obtain ⟨hV, hD, hL, hK⟩ := h
  obtain ⟨M1, e1, a1, a2, a3, a4, a5⟩ := rp_end 0 s hs hL ho
  refine ⟨M1, e1, ⟨cv_ic hV ho hs, ?_, a1, kv_ic hK hL.1⟩, a5, a2⟩
  exact dr_cg hD (ic_o hL.1 (by omega)) (ic_o hL.1 (by omega)) (ic_o hL.1 (by omega)) (ic_o hL.1 (by omega)) (a4 1 (by omega) (by omega) (by omega)) (a4 6 (by omega) (by omega) (by omega)) (a3 23 (by omega) (by omega) (by omega)) (a3 24 (by omega) (by omega) (by omega)) (a3 25 (by omega) (by omega) (by omega))
theorem ca_inv {n t : Nat} : ∀ (o k e : Nat) (C : mv_M), o ≤ 5 → cv_ C n → li_ C t e → kv_ C t → C 0 0 3 = nI o → cv_ (ca_ o C k).1 n ∧ (∃ e', li_ (ca_ o C k).1 t e') ∧ kv_ (ca_ o C k).1 t ∧ ∀ x, x = 1 ∨ x = 8 ∨ x = 19 ∨ x = 20 → (ca_ o C k).1 x = C x
  | 0, k, e, C, _, hV, hL, hK, _ => ⟨hV, ⟨e, hL⟩, hK, fun _ _ => rfl⟩
  | o + 1, k, e, C, h5, hV, hL, hK, ho => by
    rw [ca_s]
    obtain ⟨e', hL'⟩ := li_ic hL
    obtain ⟨h1, h2, h3, h4⟩ := ca_inv o (k + in_ C) e' (ic_ C) (by omega) (cv_ic hV ho (by omega)) hL' (kv_ic hK hL) (by rw [ic_3, ho, nI_pred])
    exact ⟨h1, h2, h3, fun x hx => (h4 x hx).trans (ic_o hL hx)⟩
theorem rp_close2 {n t e l : Nat} {C M : mv_M} (h : rw_ n t e l C M) : ∃ M2 e2, rw_ n t e2 l (cl_r C).2 M2 ∧ M2 22 0 0 = 0 ∧ ev_ 3 kX4_close [mv_R 22 0] M (Sum.inl (some (mv_I (cl_r C).1))) M2 := by
  obtain ⟨hV, hD, hL, hK⟩ := h
  obtain ⟨M1, e1, a1, a2, a3, a4⟩ := rp_close 0 n hV hL
  obtain ⟨o, ho, h5⟩ := hV.2.2.1
  obtain ⟨c1, ⟨e', c2⟩, c3, c4⟩ := ca_inv (n := n) (t := t) o 0 e C h5 hV hL.1 hK ho
  have h3 := hL.1.2.1
  have hcl : (cl_r C).2 = (da_ (ca_ o C 0).1 0 0 t).1 := by
    unfold cl_r
    rw [ho, nI_clamp (by omega), c2.1, nI_clamp (by omega)]
  have od (x : Nat) (hx : x = 1 ∨ x = 8 ∨ x = 19 ∨ x = 20) : (cl_r C).2 x = C x := by
    rw [hcl]
    exact (df_o 0 _ x (by omega) (by omega) (by omega) (by omega) t _ 0).trans (c4 x hx)
  refine ⟨M1, e1, ⟨?_, ?_, a1, ?_⟩, (a4 0 (by omega) (by omega)).trans rfl, a2⟩
  · rw [hcl]
    exact (cv_da c1 c2).1
  · exact dr_cg hD (od 1 (by omega)) (od 8 (by omega)) (od 19 (by omega)) (od 20 (by omega)) ((a4 1 (by omega) (by omega)).trans rfl) ((a4 6 (by omega) (by omega)).trans rfl) ((a3 23 (by omega) (by omega) (by omega)).trans rfl) ((a3 24 (by omega) (by omega) (by omega)).trans rfl) ((a3 25 (by omega) (by omega) (by omega)).trans rfl)
  · rw [hcl]
    exact kv_df 0 0 t t _ e' 0 (Nat.le_refl t) c2 c3
