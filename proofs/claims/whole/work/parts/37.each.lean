/-! EACH OF A MASK, SIMULATED -/
theorem mOe_s (K : mK_) (x : Int32) (g m j got : Nat) (M : mv_M) : mOe K x g (m + 1) j got M = if ii_ x j = true then (if (mOb K j g M).1 = -2 then (-2, (mOb K j g M).2) else mOe K x g m (j + 1) (got + 1) (mOb K j g M).2) else mOe K x g m (j + 1) got M := rfl
theorem mOe_none (K : mK_) (x : Int32) (g : Nat) (M : mv_M) : ∀ m j got : Nat, j + m ≤ 32 → (∀ k, j ≤ k → bt x k = false) → mOe K x g m j got M = (nI got, M)
  | 0, j, got, _, _ => rfl
  | m + 1, j, got, h, hb => by
    rw [mOe_s, if_neg (by rw [ii_bt (by omega), hb j (by omega)]; decide)]
    exact mOe_none K x g M m (j + 1) got (by omega) (fun k hk => hb k (by omega))
theorem bn_from {x y : Int32} {j : Nat} (hb : ∀ k, bt y k = (bt x k && decide (j ≤ k))) : ∀ m : Nat, j ≤ m → bn_ x m = bn_ x j + bn_ y m
  | 0, h => by
    have : j = 0 := by omega
    subst this
    rfl
  | m + 1, h => by
    rw [bn_s, bn_s]
    by_cases e : j ≤ m
    · rw [bn_from hb m e, hb m, decide_eq_true e, Bool.and_true]
      omega
    · have hj : j = m + 1 := by omega
      have h0 : bn_ y m = 0 := (bn_0 y m).mpr (fun i hi => by rw [hb i, decide_eq_false (by omega), Bool.and_false])
      rw [h0, hb m, decide_eq_false e, Bool.and_false, hj, bn_s]
      simp
theorem lo_uniq {x : Int32} {i j : Nat} (h1 : lo_ x i) (h2 : lo_ x j) : i = j := by
  rcases Nat.lt_trichotomy i j with h | h | h
  · have := h2.2 i h
    rw [h1.1] at this
    cases this
  · exact h
  · have := h1.2 j h
    rw [h2.1] at this
    cases this
theorem st_r30 {n g : Nat} {C M M2 : mv_M} {r : Int32 × mv_M} (h : sr_ n g C M r M2) (hr : ¬ r.1 = -2) : rl_ n g r.2 M2 ∧ M2 22 0 30 = r.1 ∧ st_ g C M r.2 M2 := by
  rcases h with h | h
  · exact h.2
  · exact absurd h.1 hr
theorem each_sim {n g c i : Nat} {K : mK_} {sc x : Int32} (hK : kc_ n (g + 1) K) (hc : c < n) (hi : i < 6) (hx : be_ x n) : ∀ (m j got : Nat) (y : Int32) (C M : mv_M) (j0 : Nat), j + m = n → aq_ n g c sc i x y C M → C 20 c (3 * i + 2) = 2 → (∀ k, bt y k = (bt x k && decide (j ≤ k))) → lo_ y j0 → bn_ x j = got → ∃ M1, ev_ 4 kX4_obtain [mv_R 22 0, mv_I (nI j0)] M (Sum.inl none) M1 ∧ ∃ M2, rr_ M1 M2 ∧ ou_ n g c sc i C M (mOe K x (g + 1) m j got C) M2 := by
  intro m
  induction m with
  | zero =>
    intro j got y C M j0 hj hA hmode hy hl hgot
    have := hl.1
    rw [hy j0] at this
    by_cases e : j ≤ j0
    · rw [hx j0 (by omega)] at this
      cases this
    · rw [decide_eq_false e, Bool.and_false] at this
      cases this
  | succ m ih =>
    intro j got y C M j0 hj hA hmode hy hl hgot
    have hR := hA.1
    have h20 := hR.2.1.1.2.1
    rw [mOe_s]
    rcases ev_or (bt x j) with hb | hb
    · have hlj : lo_ y j := ⟨by rw [hy j, hb, decide_eq_true (Nat.le_refl j)]; rfl, fun k hk => by rw [hy k, decide_eq_false (by omega), Bool.and_false]⟩
      have hjj := lo_uniq hl hlj
      subst hjj
      rw [if_pos (by rw [ii_bt (by omega)]; exact hb)]
      obtain ⟨M1, a1, M2, a2, a3⟩ := ob_sim hK (show j0 < n by omega) hR
      refine ⟨M1, a1, ?_⟩
      by_cases hr : (mOb K j0 (g + 1) C).1 = -2
      · rw [if_pos hr]
        rcases a3 with a3 | a3
        · exact absurd hr a3.1
        · exact ⟨M2, a2, Or.inr ⟨rfl, a3.2⟩⟩
      · rw [if_neg hr]
        obtain ⟨b1, b2, b3⟩ := st_r30 a3 hr
        have hA2 := aq_st hA hi b1 b3
        have hsx := st_sx b3
        have hy2 : ∀ k, bt (y &&& (y - 1)) k = (bt x k && decide (j0 + 1 ≤ k)) := fun k => by
          rw [drop_low (by omega) hlj, hy k]
          by_cases e : k = j0
          · rw [decide_eq_true e, decide_eq_false (show ¬ j0 + 1 ≤ k by omega)]
            simp
          · rw [decide_eq_false e]
            by_cases e2 : j0 ≤ k
            · rw [decide_eq_true e2, decide_eq_true (by omega)]; simp
            · rw [decide_eq_false e2, decide_eq_false (by omega)]; simp
        have hgot2 : bn_ x (j0 + 1) = got + 1 := by rw [bn_s, hgot, hb, if_pos rfl]
        have hmode2 : (mOb K j0 (g + 1) C).2 20 c (3 * i + 2) = 2 := by rw [hsx.2.2.2.1.2.2.2.2]; exact hmode
        by_cases hz : y &&& (y - 1) = 0
        · have hno : ∀ k, j0 + 1 ≤ k → bt x k = false := fun k hk => by
            have := hy2 k
            rw [hz, b_0, decide_eq_true hk, Bool.and_true] at this
            exact this.symm
          rw [mOe_none K x (g + 1) _ m (j0 + 1) (got + 1) (by omega) hno]
          obtain ⟨M3, d1, d2, d3⟩ := rec_l hA2 hc hi hz
          have hbx : bn_ x 20 = got + 1 := by
            rw [bn_from hy2 20 (by omega), hgot2, (bn_0 _ 20).mpr (fun k _ => by rw [hz, b_0])]
          rw [if_pos hmode2, hbx] at d2 d3
          have hle := bn_le x 20
          exact ⟨M3, rr_trans a2 d1, Or.inl ⟨fun q => nI_pos (n := got + 1) (by omega) (by show nI (got + 1) < 0; rw [show nI (got + 1) = -2 from q]; decide), d2, sx_trans hsx d3⟩⟩
        · have hbe : be_ (y &&& (y - 1)) n := fun k hk => by rw [hy2, hx k hk]; rfl
          obtain ⟨j1, hj1, hl1⟩ := be_lo hbe hz
          obtain ⟨hR2, e1, e2, e3, e4, e5, e6, e7⟩ := hA2
          have hA3 : aq_ n g c sc i x (y &&& (y - 1)) (mOb K j0 (g + 1) C).2 (mv_up M2 29 0 g (y &&& (y - 1))) := ⟨rl_m hR2 (fun z _ b _ _ _ _ => by rw [mv_up_ne b]), e1, by rw [mv_up_ne (by omega)]; exact e2, by rw [mv_up_ne (by omega)]; exact e3, by rw [mv_up_ne (by omega)]; exact e4, fun k hk => by rw [mv_up_ne (by omega)]; exact e5 k hk, by rw [up_x, if_pos ⟨rfl, rfl⟩], by rw [mv_up_ne (by omega)]; exact e7⟩
          obtain ⟨M3, d1, M4, d2, d3⟩ := ih (j0 + 1) (got + 1) (y &&& (y - 1)) _ _ j1 (by omega) hA3 hmode2 hy2 hl1 hgot2
          have hg1 := hR2.2.2.2.1
          have hrec := rs_receive_m (M := M2) 4 g j1 (by omega) (by omega) (by rw [e6]; exact hz) (by rw [e6]; exact hl1) (M1 := M3) (by rw [e6]; exact d1)
          have hstep := rr_step hg1.1 (by omega) hg1.2.2 (ev_le (rs_goOn_r 5 g (by omega) hg1.1 e3 hrec) (by omega))
          exact ⟨M4, rr_trans a2 (rr_trans hstep d2), ou_sx (sx_trans hsx (sx_up (by omega))) d3⟩
    · rw [if_neg (by rw [ii_bt (by omega), hb]; decide)]
      refine ih (j + 1) got y C M j0 (by omega) hA hmode (fun k => ?_) hl (by rw [bn_s, hb]; simpa using hgot)
      rw [hy k]
      by_cases e : k = j
      · rw [e, hb]; rfl
      · by_cases e2 : j ≤ k
        · rw [decide_eq_true e2, decide_eq_true (by omega)]
        · rw [decide_eq_false e2, decide_eq_false (by omega)]
/-- dependency i, whatever it wants -/
theorem dep_sim {n g c i : Nat} {K : mK_} {sc : Int32} {C M : mv_M} (hK : kc_ n (g + 1) K) (hc : c < n) (hi : i < dc_ C c) (hQ : dq_ n g c sc i C M) : ∃ M2, rr_ M M2 ∧ ou_ n g c sc i C M (mIn n K c i (g + 1) C) M2 := by
  obtain ⟨hR, b1, b2, b3, b4, b5⟩ := id hQ
  have hD := hR.2.1
  have h20 := hD.1.2.1
  obtain ⟨hk, hk6⟩ := hD.1.2.2 c (by omega)
  have hk4 : M 24 0 c = nI (dc_ C c) := (hD.2.2.2.2.1 c (by omega)).trans hk
  obtain ⟨r1, r2, r3⟩ := hR.2.2.2.1
  have h27 : M 27 0 g = nI c := (hR.2.2.2.2.1 g (by omega)).trans b1
  have hne : ¬ M 28 0 g = M 24 0 c := by
    rw [b2, hk4]
    exact fun q => absurd (nI_inj (by omega) (by omega) q) (by omega)
  have go {M1 : mv_M} (h : ev_ 5 kX4_serve [mv_R 22 0, mv_I (nI g)] M (Sum.inl none) M1) : rr_ M M1 := rr_step r1 (by omega) r3 (ev_le (rs_goOn_s 5 g c (by omega) (by omega) r1 b3 h27 hne h) (by omega))
  by_cases hw : wt_ C n c i < 0
  · obtain ⟨h1, h2⟩ := in_f (g := g + 1) K h20 hw
    rw [h1]
    refine ⟨_, go (rs_serve_f 0 n g c i hD (by omega) (by omega) (by omega) h27 b2 hw), Or.inr ⟨rfl, ?_⟩⟩
    rcases sr_fail (M := M) hR h2 with q | q
    · exact absurd rfl q.1
    · exact q.2
  · rcases in_n4 (g := g + 1) K h20 hw with ⟨h1, h2⟩ | ⟨h0, h1, h2, h3⟩ | ⟨h0, j, hj, h1, h2⟩
    · rw [h2]
      refine ⟨_, go (rs_serve_0 0 n g c i hD (by omega) (by omega) (by omega) h27 b2 h1), Or.inl ⟨?_, dq_ij hQ, sx_ij⟩⟩
      show ¬ (if C 20 c (3 * i + 2) = 2 then (0 : Int32) else -1) = -2
      split <;> decide
    · have hbe : be_ (wt_ C n c i) n := by rw [h2]; exact mk_be _ h20
      obtain ⟨j0, hj0, hl0⟩ := be_lo hbe h1
      have hA : aq_ n g c sc i (cf_ C n c i) (cf_ C n c i) C (sv4_ M g (wt_ C n c i)) := by
        unfold sv4_
        refine ⟨rl_m hR (fun z a b d e f k => by rw [mv_up_ne e, mv_up_ne f, mv_up_ne b]), b1, by rw [mv_up_ne (by omega), mv_up_ne (by omega), mv_up_ne (by omega)]; exact b2, by rw [up_x, if_pos ⟨rfl, rfl⟩]; decide, by rw [mv_up_ne (by omega), mv_up_ne (by omega), mv_up_ne (by omega)]; exact b4, fun k hk => by rw [mv_up_ne (by omega), mv_up_ne (by omega), mv_up_ne (by omega)]; exact b5 k hk, by rw [mv_up_ne (by omega), mv_up_ne (by omega), up_x, if_pos ⟨rfl, rfl⟩]; exact h2, by rw [mv_up_ne (by omega), up_x, if_pos ⟨rfl, rfl⟩, h2]⟩
      rw [h2] at hl0
      obtain ⟨M1, a1, M2, a2, a3⟩ := each_sim hK hc (by omega) (by rw [← h2]; exact hbe) n 0 0 (cf_ C n c i) C _ j0 (by omega) hA h0 (fun k => by rw [decide_eq_true (Nat.zero_le k), Bool.and_true]) hl0 rfl
      rw [h3]
      refine ⟨M2, rr_trans (go (rs_serve_m 0 n g c i j0 hD (by omega) (by omega) (by omega) h27 b2 hw h1 (by omega) (by rw [h2]; exact hl0) a1)) a2, ou_sx ?_ a3⟩
      exact sx_trans (sx_trans (sx_up (by omega)) (sx_up (by omega))) (sx_up (by omega))
    · have hl0 : lo_ (wt_ C n c i) j := by rw [h1]; exact lo_one (by omega)
      have hw0 : ¬ wt_ C n c i = 0 := fun q => by
        have := hl0.1
        rw [q, b_0] at this
        cases this
      have hA : aq_ n g c sc i (wt_ C n c i) (wt_ C n c i) C (sv4_ M g (wt_ C n c i)) := by
        unfold sv4_
        refine ⟨rl_m hR (fun z a b d e f k => by rw [mv_up_ne e, mv_up_ne f, mv_up_ne b]), b1, by rw [mv_up_ne (by omega), mv_up_ne (by omega), mv_up_ne (by omega)]; exact b2, by rw [up_x, if_pos ⟨rfl, rfl⟩]; decide, by rw [mv_up_ne (by omega), mv_up_ne (by omega), mv_up_ne (by omega)]; exact b4, fun k hk => by rw [mv_up_ne (by omega), mv_up_ne (by omega), mv_up_ne (by omega)]; exact b5 k hk, by rw [mv_up_ne (by omega), mv_up_ne (by omega), up_x, if_pos ⟨rfl, rfl⟩], by rw [mv_up_ne (by omega), up_x, if_pos ⟨rfl, rfl⟩]⟩
      have hsx0 : sx_ g C M C (sv4_ M g (wt_ C n c i)) := sx_trans (sx_trans (sx_up (by omega)) (sx_up (by omega))) (sx_up (by omega))
      obtain ⟨M1, a1, M2, a2, a3⟩ := ob_sim hK hj hA.1
      have hgo := go (rs_serve_m 0 n g c i j hD (by omega) (by omega) (by omega) h27 b2 hw hw0 (by omega) hl0 a1)
      rw [h2]
      by_cases hr : (mOb K j (g + 1) C).1 = -2
      · rcases a3 with a3 | a3
        · exact absurd hr a3.1
        · exact ⟨M2, rr_trans hgo a2, Or.inr ⟨hr, a3.2⟩⟩
      · obtain ⟨e1, e2, e3⟩ := st_r30 a3 hr
        have hA2 := aq_st hA (by omega) e1 e3
        have hsx := st_sx e3
        have hz : wt_ C n c i &&& (wt_ C n c i - 1) = 0 := b_ext (fun k hk => by
          rw [drop_low (by omega) hl0, h1, bt_one (by omega), b_0]
          cases decide (k = j) <;> rfl)
        obtain ⟨M3, d1, d2, d3⟩ := rec_l hA2 hc (by omega) hz
        rw [if_neg (by rw [hsx.2.2.2.1.2.2.2.2]; exact h0), e2] at d2 d3
        exact ⟨M3, rr_trans hgo (rr_trans a2 d1), Or.inl ⟨hr, d2, sx_trans hsx0 (sx_trans hsx d3)⟩⟩
