/-! THE TRIAL, SIMULATED -/
/-- what a component under construction, or known to be sound, comes to -/
def kb_ (K : mT_) : Prop := ∀ (c : Nat) (u : Int32) (C : mv_M), (ii_ u c = true → K c u C = (3, C)) ∧ (ii_ u c = false → ii_ (C 0 0 6) c = true → K c u C = (0, C))
theorem kb_mTc (n f : Nat) : kb_ (mTc n (f + 1)) := by
  intro c u C
  refine ⟨fun h => ?_, fun h h2 => ?_⟩
  · rw [mTc_s, if_pos]
    unfold ii_ at h
    simpa using h
  · rw [mTc_s, if_neg, if_pos]
    · unfold ii_ at h2
      simpa using h2
    · unfold ii_ at h
      simpa using h
/-- K does at depth g what the loop of problem does -/
def kt_ (n g : Nat) (K : mT_) : Prop := ∀ (c : Nat) (u : Int32) (C M : mv_M), c < n → tl_ n g u C M → ii_ u c = false → ii_ (C 0 0 6) c = false → ∃ M2, fq_ g M M2 ∧ pr4_ (K c u C).1 (pu_ M g (nI c)) M2 ∧ ((K c u C).1 = 0 → tl_ n g u (K c u C).2 M2)
/-- frame g tries c, i of its dependencies looked at, y left of this one -/
def vq_ (n g c : Nat) (u : Int32) (i : Nat) (y : Int32) (C M : mv_M) : Prop := tl_ n (g + 1) u C M ∧ M 27 0 g = nI c ∧ M 28 0 g = nI i ∧ M 29 0 g = y
theorem tl_29 {n g : Nat} {u : Int32} {C M : mv_M} {o y : Nat} {v : Int32} (h : tl_ n g u C M) (hy : y = 28 ∨ y = 29) : tl_ n g u C (mv_up M y 0 o v) := by
  obtain ⟨h1, h2, h3, h4, h5, h6⟩ := h
  refine ⟨dr_cg h1 rfl rfl rfl rfl (by rw [mv_up_ne (by omega)]) (by rw [mv_up_ne (by omega)]) (mv_up_ne (by omega)) (mv_up_ne (by omega)) (mv_up_ne (by omega)), ?_, ?_, h4, fun c hc => ?_, h6⟩
  · rw [mv_up_ne (by omega)]; exact h2
  · rw [mv_up_ne (by omega)]; exact h3
  · exact (h5 c hc).trans (ff_eq (M := M) (M2 := mv_up M y 0 o v) g (fun i _ => by rw [mv_up_ne (by omega)])).symm
theorem mTe_s (K : mT_) (x u : Int32) (m j : Nat) (M : mv_M) : mTe K x u (m + 1) j M = if ii_ x j = true then (if ¬ (K j u M).1 = 0 then K j u M else mTe K x u m (j + 1) (K j u M).2) else mTe K x u m (j + 1) M := rfl
theorem be_off {n j : Nat} {y : Int32} (h : be_ y n) (hj : j < 32) (hn : n ≤ 20) : be_ (of4_ y j) n := by
  intro k hk
  rcases Nat.lt_or_ge k 32 with q | q
  · unfold of4_
    rw [bt_off hj y k q, h k hk]
    rfl
  · exact b_big q
theorem te_sim {n g c i : Nat} {u x : Int32} {K : mT_} (hK : kt_ n (g + 1) K) (hB : kb_ K) (hx : be_ x n) (hg : g < 20) : ∀ (m j : Nat) (y : Int32) (C M : mv_M), j + m = n → vq_ n g c u i y C M → (∀ k, bt y k = (bt x k && decide (j ≤ k))) → ∃ M2, fq_ g M M2 ∧ pr4_ (mTe K x u m j C).1 M M2 ∧ ((mTe K x u m j C).1 = 0 → vq_ n g c u i 0 (mTe K x u m j C).2 M2) := by
  intro m
  induction m with
  | zero =>
    intro j y C M hj hQ hy
    have hy0 : y = 0 := b_ext (fun k _ => by
      rw [hy k, b_0]
      by_cases e : j ≤ k
      · rw [hx k (by omega), Bool.false_and]
      · rw [decide_eq_false e, Bool.and_false])
    rw [hy0] at hQ
    exact ⟨M, fq_refl g M, pr4_refl M, fun _ => hQ⟩
  | succ m ih =>
    intro j y C M hj hQ hy
    obtain ⟨hT, q1, q2, q3⟩ := id hQ
    have h20 := hT.1.1.2.1
    have hdp := hT.2.1.1
    rw [mTe_s]
    cases hb : bt x j with
    | true =>
      rw [if_pos (by rw [ii_bt (by omega)]; exact hb)]
      have hyj : bt y j = true := by rw [hy j, hb, decide_eq_true (Nat.le_refl j)]; rfl
      have hl : lo_ (M 29 0 g) j := by
        rw [q3]
        exact ⟨hyj, fun k hk => by rw [hy k, decide_eq_false (by omega), Bool.and_false]⟩
      have hy0 : ¬ M 29 0 g = 0 := fun q => by
        rw [q3] at q
        rw [q, b_0] at hyj
        cases hyj
      have hy2 (k : Nat) : bt (of4_ y j) k = (bt x k && decide (j + 1 ≤ k)) := by
        rcases Nat.lt_or_ge k 32 with hk | hk
        · unfold of4_
          rw [bt_off (by omega) y k hk, hy k]
          by_cases e : k = j
          · rw [decide_eq_true e, decide_eq_false (show ¬ j + 1 ≤ k by omega)]
            simp
          · by_cases e2 : j ≤ k
            · rw [decide_eq_false e, decide_eq_true e2, decide_eq_true (show j + 1 ≤ k by omega)]
              simp
            · rw [decide_eq_false e2, decide_eq_false (show ¬ j + 1 ≤ k by omega)]
              simp
        · rw [b_big hk, b_big hk, Bool.false_and]
      have hff := hT.2.2.2.2.1 j (by omega)
      have hQ2 : vq_ n g c u i (of4_ y j) C (mv_up M 29 0 g (of4_ (M 29 0 g) j)) := ⟨tl_29 hT (Or.inr rfl), by rw [mv_up_ne (by omega)]; exact q1, by rw [mv_up_ne (by omega)]; exact q2, by rw [up_x, if_pos ⟨rfl, rfl⟩, q3]⟩
      cases hu : ii_ u j with
      | true =>
        rw [(hB j u C).1 hu]
        have hk := hT.2.2.2.2.2 j (by omega) hu
        rw [if_pos (by show ¬ (3 : Int32) = 0; decide)]
        refine ⟨_, fq_up (by omega), pr4_step hdp (by omega) (ev_le (wg_c 0 g j (by omega) (by omega) hdp hy0 hl (by rw [hT.2.2.1]; exact hk) (hff.symm.trans hu)) (by omega)), fun q => absurd q (by show ¬ (3 : Int32) = 0; decide)⟩
      | false =>
        cases hk : ii_ (C 0 0 6) j with
        | true =>
          rw [(hB j u C).2 hu hk, if_neg (fun q => q rfl)]
          obtain ⟨M2, a1, a2, a3⟩ := ih (j + 1) _ C _ (by omega) hQ2 hy2
          exact ⟨M2, fq_trans (fq_up (by omega)) a1, pr4_trans (pr4_step hdp (by omega) (ev_le (wg_k 0 g j (by omega) (by omega) hdp hy0 hl (by rw [hT.2.2.1]; exact hk)) (by omega))) a2, a3⟩
        | false =>
          obtain ⟨M2, a1, a2, a3⟩ := hK j u C _ (by omega) hQ2.1 hu hk
          have hgn : g + 1 < 20 := by
            have h4 := hT.2.2.2.1
            have := cn_add hu n (by omega) (show j < n by omega)
            omega
          have hst := pr4_step hdp (by omega) (ev_le (wg_p 0 g j (by omega) (by omega) hdp hy0 hl (by rw [hT.2.2.1]; exact hk) (hff.symm.trans hu)) (by omega))
          have hfq : fq_ g M M2 := fq_trans (fq_up (by omega)) (fq_le a1 (by omega))
          by_cases hr : (K j u C).1 = 0
          · rw [if_neg (fun q => q hr)]
            have hQ3 : vq_ n g c u i (of4_ y j) (K j u C).2 M2 := ⟨a3 hr, (a1.2.2 27 g (by omega) (by omega)).trans hQ2.2.1, (a1.2.2 28 g (by omega) (by omega)).trans hQ2.2.2.1, (a1.2.2 29 g (by omega) (by omega)).trans hQ2.2.2.2⟩
            obtain ⟨M3, b1, b2, b3⟩ := ih (j + 1) _ _ M2 (by omega) hQ3 hy2
            rw [hr] at a2
            exact ⟨M3, fq_trans hfq b1, pr4_trans hst (pr4_trans a2 b2), b3⟩
          · rw [if_pos hr]
            exact ⟨M2, hfq, pr4_trans hst a2, fun q => absurd q hr⟩
    | false =>
      rw [if_neg (by rw [ii_bt (by omega), hb]; decide)]
      refine ih (j + 1) y C M (by omega) hQ (fun k => ?_)
      rw [hy k]
      by_cases e : k = j
      · rw [e, hb]; rfl
      · by_cases e2 : j ≤ k
        · rw [decide_eq_true e2, decide_eq_true (by omega)]
        · rw [decide_eq_false e2, decide_eq_false (by omega)]
theorem mTe_none (K : mT_) (x u : Int32) (M : mv_M) : ∀ m j : Nat, j + m ≤ 32 → (∀ k, j ≤ k → k < j + m → bt x k = false) → mTe K x u m j M = (0, M)
  | 0, _, _, _ => rfl
  | m + 1, j, h, hx => by
    rw [mTe_s, if_neg (by rw [ii_bt (by omega), hx j (by omega) (by omega)]; decide)]
    exact mTe_none K x u M m (j + 1) (by omega) (fun k h1 h2 => hx k (by omega) (by omega))
theorem mTe_one {K : mT_} {u : Int32} {M : mv_M} {i : Nat} : ∀ m j : Nat, j ≤ i → i < j + m → j + m ≤ 32 → mTe K (1 <<< (nI i &&& 31)) u m j M = K i u M
  | 0, j, h1, h2, _ => by omega
  | m + 1, j, h1, h2, h3 => by
    rw [mTe_s]
    by_cases e : j = i
    · subst e
      rw [if_pos (by rw [ii_bt (by omega), bt_one (by omega)]; simp)]
      split
      · rfl
      · next h =>
        rw [mTe_none K _ u _ m (j + 1) (by omega) (fun k _ _ => by rw [bt_one (by omega), decide_eq_false (by omega)])]
        have h0 := Decidable.not_not.mp h
        rw [← h0]
    · rw [if_neg (by rw [ii_bt (by omega), bt_one (by omega), decide_eq_false e]; decide)]
      exact mTe_one m (j + 1) (by omega) (by omega) (by omega)
/-- a dependency of the trial, out of what the reference wants -/
theorem td_eq {C : mv_M} {n c i : Nat} {u : Int32} (K : mT_) (hn : n ≤ 20) : (wt_ C n c i < 0 ∧ mTd n K c i u C = (-(wt_ C n c i), C) ∧ ¬ -(wt_ C n c i) = 0) ∨ (¬ wt_ C n c i < 0 ∧ mTd n K c i u C = mTe K (wt_ C n c i) u n 0 C ∧ be_ (wt_ C n c i) n) := by
  have hz : ∀ k, bt 0 k = false := b_0
  by_cases h3 : C 20 c (3 * i + 2) = 3
  · have hw : wt_ C n c i = 0 := by rw [wt_, if_pos h3]
    refine Or.inr ⟨by rw [hw]; decide, ?_, by rw [hw]; exact fun k _ => b_0 k⟩
    rw [hw, mTd, if_pos h3, mTe_none K 0 u C n 0 (by omega) (fun k _ _ => b_0 k)]
  by_cases h2 : C 20 c (3 * i + 2) = 2
  · have hw : wt_ C n c i = cf_ C n c i := by rw [wt_, if_neg h3, if_pos h2]
    have hbe : be_ (cf_ C n c i) n := mk_be _ hn
    refine Or.inr ⟨by rw [hw]; exact be_nn hbe (by omega), by rw [hw, mTd, if_neg h3, if_pos h2], by rw [hw]; exact hbe⟩
  have htd : mTd n K c i u C = if cf_ C n c i = 0 then ((if C 20 c (3 * i + 2) = 1 then 0 else 1), C) else if ch_ C n (cf_ C n c i) = -1 then (2, C) else K (ch_ C n (cf_ C n c i)).toNatClampNeg u C := by rw [mTd, if_neg h3, if_neg h2]
  have hwt : wt_ C n c i = if ¬ co_ C n (C 20 c (3 * i)) (C 20 c (3 * i + 1)) < 0 then 1 <<< (co_ C n (C 20 c (3 * i)) (C 20 c (3 * i + 1)) &&& 31) else if C 20 c (3 * i + 2) = 1 ∧ co_ C n (C 20 c (3 * i)) (C 20 c (3 * i + 1)) = -1 then 0 else co_ C n (C 20 c (3 * i)) (C 20 c (3 * i + 1)) := by rw [wt_, if_neg h3, if_neg h2]
  rw [htd]
  by_cases hm : cf_ C n c i = 0
  · have hco : co_ C n (C 20 c (3 * i)) (C 20 c (3 * i + 1)) = -1 := by rw [co_, if_pos (show mk_ (cb_ C (C 20 c (3 * i)) (C 20 c (3 * i + 1))) n = 0 from hm)]
    rw [hco, if_neg (by decide)] at hwt
    rw [if_pos hm]
    by_cases h1 : C 20 c (3 * i + 2) = 1
    · rw [if_pos ⟨h1, rfl⟩] at hwt
      refine Or.inr ⟨by rw [hwt]; decide, ?_, by rw [hwt]; exact fun k _ => b_0 k⟩
      rw [hwt, if_pos h1, mTe_none K 0 u C n 0 (by omega) (fun k _ _ => b_0 k)]
    · rw [if_neg (fun q => h1 q.1)] at hwt
      refine Or.inl ⟨by rw [hwt]; decide, ?_, by rw [hwt]; decide⟩
      rw [hwt, if_neg h1]
      rfl
  · rw [if_neg hm]
    by_cases hc : ch_ C n (cf_ C n c i) = -1
    · have hco : co_ C n (C 20 c (3 * i)) (C 20 c (3 * i + 1)) = -2 := by
        rw [co_, if_neg (show ¬ mk_ (cb_ C (C 20 c (3 * i)) (C 20 c (3 * i + 1))) n = 0 from hm), if_pos (show ch_ C n (mk_ (cb_ C (C 20 c (3 * i)) (C 20 c (3 * i + 1))) n) = -1 from hc)]
      rw [hco, if_neg (by decide), if_neg (fun q => absurd q.2 (by decide))] at hwt
      refine Or.inl ⟨by rw [hwt]; decide, ?_, by rw [hwt]; decide⟩
      rw [hwt, if_pos hc]
      rfl
    · rw [if_neg hc]
      obtain ⟨j, hj, hjn⟩ := (ch_val C n _).resolve_left hc
      have hco : co_ C n (C 20 c (3 * i)) (C 20 c (3 * i + 1)) = nI j := by
        rw [co_, if_neg (show ¬ mk_ (cb_ C (C 20 c (3 * i)) (C 20 c (3 * i + 1))) n = 0 from hm), if_neg (show ¬ ch_ C n (mk_ (cb_ C (C 20 c (3 * i)) (C 20 c (3 * i + 1))) n) = -1 from hc)]
        exact hj
      rw [hco, if_pos (nI_pos (by omega))] at hwt
      have hbe : be_ ((1 : Int32) <<< (nI j &&& 31)) n := fun k hk => by rw [bt_one (by omega), decide_eq_false (by omega)]
      refine Or.inr ⟨by rw [hwt]; exact be_nn hbe (by omega), ?_, by rw [hwt]; exact hbe⟩
      rw [hwt, hj, nI_clamp (by omega), mTe_one n 0 (by omega) (by omega) (by omega)]
theorem mTl_s (n : Nat) (K : mT_) (c : Nat) (u : Int32) (m i : Nat) (M : mv_M) : mTl n K c u (m + 1) i M = if ¬ (mTd n K c i u M).1 = 0 then mTd n K c i u M else mTl n K c u m (i + 1) (mTd n K c i u M).2 := rfl
theorem tdl_sim {n g c : Nat} {u : Int32} {K : mT_} (hK : kt_ n (g + 1) K) (hB : kb_ K) (hK6 : mT6 K) (hc : c < n) (hg : g < 20) : ∀ (m i : Nat) (C M : mv_M), i + m = dc_ C c → vq_ n g c u i 0 C M → ∃ M2, fq_ g M M2 ∧ pr4_ (mTl n K c u m i C).1 M M2 ∧ ((mTl n K c u m i C).1 = 0 → vq_ n g c u (dc_ C c) 0 (mTl n K c u m i C).2 M2) := by
  intro m
  induction m with
  | zero =>
    intro i C M hi hQ
    have hie : i = dc_ C c := by omega
    subst hie
    exact ⟨M, fq_refl g M, pr4_refl M, fun _ => hQ⟩
  | succ m ih =>
    intro i C M hi hQ
    obtain ⟨hT, q1, q2, q3⟩ := id hQ
    have hD := hT.1
    have h20 := hD.1.2.1
    have hdp := hT.2.1.1
    obtain ⟨hk, hk6⟩ := hD.1.2.2 c (by omega)
    have hk4 : M 24 0 c = nI (dc_ C c) := (hD.2.2.2.2.1 c (by omega)).trans hk
    have hne : ¬ nI i = M 24 0 c := by
      rw [hk4]
      exact fun q => absurd (nI_inj (by omega) (by omega) q) (by omega)
    rw [mTl_s]
    rcases td_eq (C := C) (n := n) (c := c) (i := i) (u := u) K h20 with ⟨h1, h2, h3⟩ | ⟨h1, h2, h3⟩
    · rw [h2, if_pos h3]
      exact ⟨_, fq_up (by omega), pr4_step hdp (by omega) (ev_le (wg_f 0 n g c i hD (by omega) (by omega) (by omega) hdp q3 q1 q2 hne h1) (by omega)), fun q => absurd q h3⟩
    · have hst := pr4_step hdp (by omega) (ev_le (wg_w 0 n g c i hD (by omega) (by omega) (by omega) hdp q3 q1 q2 hne h1) (by omega))
      have hfq : fq_ g M (mv_up (mv_up M 28 0 g (nI (i + 1))) 29 0 g (wt_ C n c i)) := fq_trans (fq_up (by omega)) (fq_up (by omega))
      have hQ2 : vq_ n g c u (i + 1) (wt_ C n c i) C (mv_up (mv_up M 28 0 g (nI (i + 1))) 29 0 g (wt_ C n c i)) := ⟨tl_29 (tl_29 hT (Or.inl rfl)) (Or.inr rfl), by rw [mv_up_ne (by omega), mv_up_ne (by omega)]; exact q1, by rw [mv_up_ne (by omega), up_x, if_pos ⟨rfl, rfl⟩], by rw [up_x, if_pos ⟨rfl, rfl⟩]⟩
      obtain ⟨M2, a1, a2, a3⟩ := te_sim hK hB h3 hg n 0 (wt_ C n c i) C _ (by omega) hQ2 (fun k => by rw [decide_eq_true (Nat.zero_le k), Bool.and_true])
      rw [← h2] at a2 a3
      by_cases hr : (mTd n K c i u C).1 = 0
      · rw [if_neg (fun q => q hr)]
        obtain ⟨z, hz⟩ := mTd_6 (n := n) hK6 c i u C
        have hdc : dc_ (mTd n K c i u C).2 c = dc_ C c := by rw [hz]; rfl
        obtain ⟨M3, b1, b2, b3⟩ := ih (i + 1) _ M2 (by rw [hdc]; omega) (a3 hr)
        rw [hdc] at b3
        rw [hr] at a2
        exact ⟨M3, fq_trans (fq_trans hfq a1) b1, pr4_trans (pr4_trans hst a2) b2, b3⟩
      · rw [if_pos hr]
        exact ⟨M2, fq_trans hfq a1, pr4_trans hst a2, fun q => absurd q hr⟩
theorem tl_push {n g c : Nat} {u : Int32} {C M : mv_M} (h : tl_ n g u C M) (hc : c < n) (hu : ii_ u c = false) (hk : ii_ (C 0 0 6) c = false) : g < 20 ∧ vq_ n g c (u ||| (1 <<< (nI c &&& 31))) 0 0 C (pu_ M g (nI c)) := by
  obtain ⟨h1, ⟨h2, h2b⟩, h3, h4, h5, h6⟩ := h
  have h20 := h1.1.2.1
  have hca := cn_add hu n (by omega) hc
  have e (x i : Nat) (hx : x = 27 ∨ x = 28 ∨ x = 29) : pu_ M g (nI c) x 0 i = if i = g then (if x = 27 then nI c else 0) else M x 0 i := by
    rcases hx with rfl | rfl | rfl <;> simp only [pu_, rd_, up_, Nat.reduceEqDiff, reduceIte, and_self, and_true, true_and, and_false, false_and, if_true, if_false]
  have e22 (o : Nat) : pu_ M g (nI c) 22 0 o = if o = 10 then nI (g + 1) else M 22 0 o := by simp only [pu_, rd_, up_, Nat.reduceEqDiff, reduceIte, and_self, and_true, true_and, and_false, false_and, if_true, if_false]
  refine ⟨by omega, ⟨dr_fq h1 (fq_pu (g := g)), ⟨by rw [e22, if_pos rfl], by omega⟩, by rw [e22, if_neg (by omega)]; exact h3, by omega, fun c2 hc2 => ?_, fun c2 hc2 hu2 => ?_⟩, by rw [e _ _ (by omega), if_pos rfl, if_pos rfl], by rw [e _ _ (by omega), if_pos rfl, if_neg (by omega)]; rfl, by rw [e _ _ (by omega), if_pos rfl, if_neg (by omega)]⟩
  · unfold ff_
    rw [ff_eq (M := M) g (fun i hi => by rw [e _ _ (by omega), if_neg (by omega)]), e _ _ (by omega), if_pos rfl, if_pos rfl, ii_or (by omega) (by omega), h5 c2 hc2]
    congr 1
    by_cases q : c2 = c
    · rw [q]
      simp
    · rw [decide_eq_false q, decide_eq_false (fun r => q (nI_inj (by omega) (by omega) r).symm)]
  · rw [ii_or (by omega) (by omega), Bool.or_eq_true] at hu2
    rcases hu2 with q | q
    · exact h6 c2 hc2 q
    · rw [of_decide_eq_true q]
      exact hk
theorem kt_mTc (n : Nat) : ∀ (f g : Nat), g + f = 20 → kt_ n g (mTc n (f + 1)) := by
  intro f
  induction f with
  | zero =>
    intro g hg c u C M hc hT hu hk
    have := (tl_push hT hc hu hk).1
    omega
  | succ f ih =>
    intro g hg c u C M hc hT hu hk
    obtain ⟨hg20, hQ⟩ := tl_push hT hc hu hk
    have h20 := hT.1.1.2.1
    obtain ⟨hkk, hk6⟩ := hT.1.1.2.2 c (by omega)
    have hm : mTc n (f + 1 + 1) c u C = mTz c (mTl n (mTc n (f + 1)) c (u ||| (1 <<< (nI c &&& 31))) (dc_ C c) 0 C) := by
      rw [mTc_s, if_neg, if_neg]
      · unfold ii_ at hk
        simpa using hk
      · unfold ii_ at hu
        simpa using hu
    obtain ⟨M2, a1, a2, a3⟩ := tdl_sim (ih (g + 1) (by omega)) (kb_mTc n f) (mTc_6 n (f + 1)) hc hg20 (dc_ C c) 0 C _ (by omega) hQ
    rw [hm]
    unfold mTz
    have hfq : fq_ g M M2 := fq_trans fq_pu a1
    by_cases hr : (mTl n (mTc n (f + 1)) c (u ||| (1 <<< (nI c &&& 31))) (dc_ C c) 0 C).1 = 0
    · rw [if_neg (fun q => q hr)]
      rw [hr] at a2
      obtain ⟨⟨b1, ⟨b2, b2b⟩, b3, b4, b5, b6⟩, q1, q2, q3⟩ := a3 hr
      have hk4 : M2 24 0 c = nI (dc_ C c) := by
        rw [hfq.1 24 (by omega) (by omega) (by omega) (by omega)]
        exact (hT.1.2.2.2.2.1 c (by omega)).trans hkk
      have hst := pr4_step b2 (by omega) (ev_le (wg_d 0 g c (by omega) (by omega) b2 q3 q1 (q2.trans hk4.symm)) (by omega))
      have hfq2 : fq_ g M2 (mv_up (mv_up M2 22 0 11 (M2 22 0 11 ||| (1 <<< (nI c &&& 31)))) 22 0 10 (nI g)) := fq_trans (fq_22 (by omega)) (fq_22 (by omega))
      refine ⟨_, fq_trans hfq hfq2, pr4_trans a2 hst, fun _ => ⟨dr_6 (dr_fq b1 hfq2), ⟨by rw [up_x, if_pos ⟨rfl, rfl⟩], hT.2.1.2⟩, ?_, hT.2.2.2.1, fun c2 hc2 => ?_, fun c2 hc2 hu2 => ?_⟩⟩
      · rw [up_x, if_neg (by omega), up_x, if_pos ⟨rfl, rfl⟩, b3]
        rfl
      · rw [hT.2.2.2.2.1 c2 hc2, ff_eq (M := M) g (fun i hi => (fq_trans hfq hfq2).2.2 27 i (by omega) hi)]
      · show ii_ ((mTl n (mTc n (f + 1)) c (u ||| (1 <<< (nI c &&& 31))) (dc_ C c) 0 C).2 0 0 6 ||| (1 <<< (nI c &&& 31))) c2 = false
        rw [ii_or (by omega) (by omega), b6 c2 hc2 (by rw [ii_or (by omega) (by omega), hu2]; rfl), Bool.false_or]
        exact decide_eq_false (fun q => by rw [q, hu] at hu2; cases hu2)
    · rw [if_pos hr]
      exact ⟨M2, hfq, a2, fun q => absurd q hr⟩
theorem lr_fq {g t e l : Nat} {C M M2 : mv_M} {x : Int32} (h : lr_ C M t e l) (hq : fq_ g M M2) : lr_ (mv_up C 0 0 6 x) M2 t e l := by
  obtain ⟨⟨g1, g2, g3, g4, g5⟩, a2, ⟨b1, b2, b3⟩, ⟨b4, b5, b6⟩, a5, a6, a7, a8⟩ := h
  have z (y : Nat) (hy : y ≠ 22 ∧ y ≠ 27 ∧ y ≠ 28 ∧ y ≠ 29) := hq.1 y hy.1 hy.2.1 hy.2.2.1 hy.2.2.2
  have o (y : Nat) (hy : y ≠ 10 ∧ y ≠ 11) := hq.2.1 y hy.1 hy.2
  refine ⟨⟨g1, g2, g3, ?_, g5⟩, a2, ⟨by rw [o 12 (by omega)]; exact b1, by rw [o 20 (by omega)]; exact b2, by rw [o 24 (by omega)]; exact b3⟩, ⟨by rw [o 19 (by omega)]; exact b4, by rw [o 22 (by omega)]; exact b5, by rw [o 23 (by omega)]; exact b6⟩, by rw [z 37 (by omega)]; exact a5, by rw [z 36 (by omega)]; exact a6, by rw [z 26 (by omega)]; exact a7, fun i hi => ?_⟩
  · rw [lv_congr (M := C) (M' := mv_up C 0 0 6 x) t (fun i _ => rfl)]
    exact g4
  · have := a8 i hi
    unfold ir_ pr_ at this ⊢
    rw [z 30 (by omega), z 31 (by omega), z 32 (by omega), z 33 (by omega), z 34 (by omega), z 35 (by omega)]
    exact this
/-- problem: what the reference answers -/
theorem rp_problem {n t e l c : Nat} {C M : mv_M} (h : rw_ n t e l C M) (hc : c < n) : ∃ M2, rw_ n t e l (tr_ C n c).2 M2 ∧ M2 22 0 0 = 0 ∧ ev_ 10 kX4_problem [mv_R 22 0, mv_I (nI c)] M (Sum.inl (some (mv_I (tr_ C n c).1))) M2 := by
  obtain ⟨hV, hD, hL, hK⟩ := h
  have h20 := hD.1.2.1
  have hcm := cm_nI (n := n) (by omega) hc
  have hfq0 : fq_ 0 (th_ M 0) (mv_up (mv_up (th_ M 0) 22 0 10 0) 22 0 11 0) := fq_trans (fq_22 (by omega)) (fq_22 (by omega))
  have hz (j : Nat) (hj : j < 32) : ii_ 0 j = false := by rw [ii_bt hj, b_0]
  have hcn : cn_ 0 n = n := by
    have key : ∀ m, m ≤ 32 → cn_ 0 m = m := by
      intro m
      induction m with
      | zero => exact fun _ => rfl
      | succ m ih =>
        intro hm
        unfold cn_
        rw [ih (by omega), hz m (by omega)]
        rfl
    exact key n (by omega)
  have hT : tl_ n 0 0 (mv_up C 0 0 6 0) (mv_up (mv_up (th_ M 0) 22 0 10 0) 22 0 11 0) := ⟨dr_6 (dr_fq (dr_th hD) hfq0), ⟨rfl, by omega⟩, rfl, by omega, fun c2 hc2 => hz c2 (by omega), fun c2 hc2 _ => hz c2 (by omega)⟩
  obtain ⟨M2, a1, a2, a3⟩ := kt_mTc n 20 0 rfl c 0 (mv_up C 0 0 6 0) _ hc hT (hz c (by omega)) (hz c (by omega))
  have htr : tr_ C n c = mTc n 21 c 0 (mv_up C 0 0 6 0) := rfl
  rw [← htr] at a2 a3
  have hcv : cv_ (tr_ C n c).2 n := (sp_tryConstruction n 21 0 (by have := cn_le 0 n; omega) c (mv_up C 0 0 6 0) hc (cv_6 hV)).2
  obtain ⟨x, hx⟩ := mTc_6 n 21 c 0 (mv_up C 0 0 6 0)
  rw [← htr, up_up] at hx
  have hfq : fq_ 0 (th_ M 0) (mv_up M2 22 0 10 0) := fq_trans (fq_trans hfq0 a1) (fq_22 (by omega))
  refine ⟨mv_up M2 22 0 10 0, ⟨hcv, ?_, ?_, ?_⟩, ?_, ?_⟩
  · rw [hx]
    exact dr_6 (dr_fq (dr_th hD) hfq)
  · rw [hx]
    exact lr_fq (lr_th (k := 0) hL) hfq
  · rw [hx]
    exact kv_congr hK rfl rfl rfl (fun _ _ => rfl)
  · rw [hfq.2.1 0 (by omega) (by omega)]
    rfl
  · have hpu := rs_push 9 (mv_up (mv_up (th_ M 0) 22 0 10 0) 22 0 11 0) (nI c) 0 rfl (by omega)
    have hin := ev_le (d' := 9) (rs_isComponent 0 hD.2.1 (by omega) (nI c)) (by omega)
    have hend : er_ 9 0 kX4_problem (43, [some (mv_R 22 0), some (mv_I (nI c)), some (mv_I (tr_ C n c).1)], [], M2) (Sum.inl (some (mv_I (tr_ C n c).1))) (mv_up M2 22 0 10 0) := by
      have hlast : er_ 9 0 kX4_problem (62, [some (mv_R 22 0), some (mv_I (nI c)), some (mv_I (tr_ C n c).1)], [], M2) (Sum.inl (some (mv_I (tr_ C n c).1))) (mv_up M2 22 0 10 0) := by
        skip
        refine e_run 4 rfl trivial ?_
        exact e_ret rfl trivial rfl rfl
      by_cases hw : (tr_ C n c).1 = 0
      · have h10 := (a3 hw).2.1.1
        refine e_run 2 rfl trivial ?_
        try simp only [h10]
        refine e_if rfl (fun h47 => ?_) (fun h47 => absurd (by decide) h47)
        exact hlast
      · skip
        refine e_run 2 rfl trivial ?_
        refine e_if rfl (fun h47 => ?_) (fun h47 => ?_)
        · exact hlast
        · refine e_run 1 rfl trivial ?_
          refine e_if rfl (fun h51 => ?_) (fun h51 => absurd h51 hw)
          exact hlast
    refine e_ev rfl rfl ?_
    refine e_run 3 rfl trivial ?_
    try simp only [rd_, up_, Nat.reduceEqDiff, reduceIte, and_self, and_true, true_and, and_false, false_and, if_true, if_false]
    refine e_calli rfl ((by rw [hcm] at hin; exact ev_le hin (by omega))) (by decide) ?_
    try simp only [rd_, up_, Nat.reduceEqDiff, reduceIte, and_self, and_true, true_and, and_false, false_and, if_true, if_false]
    refine e_if rfl (fun h6 => absurd h6 (by decide)) (fun h6 => ?_)
    refine e_run 5 rfl trivial ?_
    try simp only [rd_, up_, Nat.reduceEqDiff, reduceIte, and_self, and_true, true_and, and_false, false_and, if_true, if_false]
    refine e_if rfl (fun h21 => ?_) (fun h21 => absurd rfl h21)
    refine e_run 8 rfl trivial ?_
    try simp only [rd_, up_, Nat.reduceEqDiff, reduceIte, and_self, and_true, true_and, and_false, false_and, if_true, if_false]
    refine e_callv rfl (hpu) (by decide) ?_
    try simp only [rd_, up_, Nat.reduceEqDiff, reduceIte, and_self, and_true, true_and, and_false, false_and, if_true, if_false]
    refine e_run 2 rfl trivial ?_
    try simp only [rd_, up_, Nat.reduceEqDiff, reduceIte, and_self, and_true, true_and, and_false, false_and, if_true, if_false]
    exact er_le (a2 (mv_I (nI c)) _ _ hend) (by omega)
theorem rp_problem_x (d n : Nat) {C M : mv_M} (x : Int32) (hD : dr_ C M n) (h : cm_ n x = false) : ev_ (d + 2) kX4_problem [mv_R 22 0, mv_I x] M (Sum.inl (some (mv_I 0))) (th_ M 1) := by
  have h20 := hD.1.2.1
  refine e_ev rfl rfl ?_
  refine e_run 3 rfl trivial ?_
  try simp only [rd_, up_, Nat.reduceEqDiff, reduceIte, and_self, and_true, true_and, and_false, false_and, if_true, if_false]
  refine e_calli rfl (rs_isComponent d hD.2.1 (by omega) x) (by decide) ?_
  try simp only [rd_, up_, Nat.reduceEqDiff, reduceIte, and_self, and_true, true_and, and_false, false_and, if_true, if_false]
  refine e_if rfl (fun h6 => ?_) (fun h6 => absurd (by simp [h]) h6)
  refine e_run 4 rfl trivial ?_
  try simp only [rd_, up_, Nat.reduceEqDiff, reduceIte, and_self, and_true, true_and, and_false, false_and, if_true, if_false]
  refine e_if rfl (fun h21 => absurd h21 (by decide)) (fun h21 => ?_)
  refine e_run 1 rfl trivial ?_
  try simp only [rd_, up_, Nat.reduceEqDiff, reduceIte, and_self, and_true, true_and, and_false, false_and, if_true, if_false]
  exact e_ret rfl trivial rfl rfl
