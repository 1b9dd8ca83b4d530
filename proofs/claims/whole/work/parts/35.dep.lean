/-! ONE DEPENDENCY: what the reference wants against what the class injects -/
theorem in_f {C : mv_M} {n c i g : Nat} (K : mK_) (hn : n ≤ 20) (hw : wt_ C n c i < 0) : mIn n K c i g C = rf_ C (-(wt_ C n c i)) (C 20 c (3 * i)) g ∧ ¬ -(wt_ C n c i) = 0 := by
  by_cases h3 : C 20 c (3 * i + 2) = 3
  · rw [show wt_ C n c i = 0 by rw [wt_, if_pos h3]] at hw
    exact absurd hw (by decide)
  by_cases h2 : C 20 c (3 * i + 2) = 2
  · rw [show wt_ C n c i = cf_ C n c i by rw [wt_, if_neg h3, if_pos h2]] at hw
    exact absurd hw (be_nn (mk_be _ hn) (by omega))
  have hwt : wt_ C n c i = if ¬ co_ C n (C 20 c (3 * i)) (C 20 c (3 * i + 1)) < 0 then 1 <<< (co_ C n (C 20 c (3 * i)) (C 20 c (3 * i + 1)) &&& 31) else if C 20 c (3 * i + 2) = 1 ∧ co_ C n (C 20 c (3 * i)) (C 20 c (3 * i + 1)) = -1 then 0 else co_ C n (C 20 c (3 * i)) (C 20 c (3 * i + 1)) := by rw [wt_, if_neg h3, if_neg h2]
  have hin : mIn n K c i g C = if C 20 c (3 * i + 2) = 1 ∧ cf_ C n c i = 0 then (-1, C) else mRq n K (C 20 c (3 * i)) (C 20 c (3 * i + 1)) g C := by rw [mIn, if_neg h3, if_neg h2]
  have hne : ∀ x : Int32, x = -1 → ¬ x = -2 := fun x hx q => by rw [hx] at q; exact absurd q (by decide)
  rw [hin]
  by_cases hm : mk_ (cb_ C (C 20 c (3 * i)) (C 20 c (3 * i + 1))) n = 0
  · have hco : co_ C n (C 20 c (3 * i)) (C 20 c (3 * i + 1)) = -1 := by rw [co_, if_pos hm]
    rw [hco] at hwt
    rw [if_neg (by decide)] at hwt
    by_cases h1 : C 20 c (3 * i + 2) = 1
    · rw [if_pos ⟨h1, rfl⟩] at hwt
      rw [hwt] at hw
      exact absurd hw (by decide)
    · rw [if_neg (fun q => h1 q.1)] at hwt
      rw [hwt, if_neg (fun q => h1 q.1), mRq, if_pos hm]
      exact ⟨rfl, by decide⟩
  · by_cases hc : ch_ C n (mk_ (cb_ C (C 20 c (3 * i)) (C 20 c (3 * i + 1))) n) = -1
    · have hco : co_ C n (C 20 c (3 * i)) (C 20 c (3 * i + 1)) = -2 := by rw [co_, if_neg hm, if_pos hc]
      rw [hco, if_neg (by decide), if_neg (fun q => absurd q.2 (by decide))] at hwt
      rw [hwt, if_neg (fun q => hm q.2), mRq, if_neg hm, if_pos hc]
      exact ⟨rfl, by decide⟩
    · have hco : co_ C n (C 20 c (3 * i)) (C 20 c (3 * i + 1)) = ch_ C n (mk_ (cb_ C (C 20 c (3 * i)) (C 20 c (3 * i + 1))) n) := by rw [co_, if_neg hm, if_neg hc]
      obtain ⟨j, hj, hjn⟩ := (ch_val C n _).resolve_left hc
      rw [hco, hj, if_pos (nI_pos (by omega))] at hwt
      rw [hwt] at hw
      exact absurd hw (be_nn (n := n) (fun k hk => by rw [bt_one (by omega), decide_eq_false (by omega)]) (by omega))
/-- wanted: nothing; each of a mask; or one -/
theorem in_n4 {C : mv_M} {n c i g : Nat} (K : mK_) (hn : n ≤ 20) (hw : ¬ wt_ C n c i < 0) : (wt_ C n c i = 0 ∧ mIn n K c i g C = ((if C 20 c (3 * i + 2) = 2 then 0 else -1), C)) ∨ (C 20 c (3 * i + 2) = 2 ∧ ¬ wt_ C n c i = 0 ∧ wt_ C n c i = cf_ C n c i ∧ mIn n K c i g C = mOe K (cf_ C n c i) g n 0 0 C) ∨ (¬ C 20 c (3 * i + 2) = 2 ∧ ∃ j, j < n ∧ wt_ C n c i = 1 <<< (nI j &&& 31) ∧ mIn n K c i g C = mOb K j g C) := by
  by_cases h3 : C 20 c (3 * i + 2) = 3
  · refine Or.inl ⟨by rw [wt_, if_pos h3], ?_⟩
    rw [mIn, if_pos h3, h3]
    rfl
  by_cases h2 : C 20 c (3 * i + 2) = 2
  · have hwt : wt_ C n c i = cf_ C n c i := by rw [wt_, if_neg h3, if_pos h2]
    have hin : mIn n K c i g C = mOe K (cf_ C n c i) g n 0 0 C := by rw [mIn, if_neg h3, if_pos h2]
    by_cases h0 : cf_ C n c i = 0
    · refine Or.inl ⟨hwt.trans h0, ?_⟩
      rw [hin, h0, if_pos h2]
      have key : ∀ m j, j + m ≤ 32 → mOe K 0 g m j 0 C = (0, C) := by
        intro m
        induction m with
        | zero => exact fun j _ => rfl
        | succ m ih =>
          intro j hj
          rw [mOe, if_neg (by rw [ii_bt (by omega), b_0]; decide)]
          exact ih (j + 1) (by omega)
      exact key n 0 (by omega)
    · exact Or.inr (Or.inl ⟨h2, by rw [hwt]; exact h0, hwt, hin⟩)
  have hwt : wt_ C n c i = if ¬ co_ C n (C 20 c (3 * i)) (C 20 c (3 * i + 1)) < 0 then 1 <<< (co_ C n (C 20 c (3 * i)) (C 20 c (3 * i + 1)) &&& 31) else if C 20 c (3 * i + 2) = 1 ∧ co_ C n (C 20 c (3 * i)) (C 20 c (3 * i + 1)) = -1 then 0 else co_ C n (C 20 c (3 * i)) (C 20 c (3 * i + 1)) := by rw [wt_, if_neg h3, if_neg h2]
  have hin : mIn n K c i g C = if C 20 c (3 * i + 2) = 1 ∧ cf_ C n c i = 0 then (-1, C) else mRq n K (C 20 c (3 * i)) (C 20 c (3 * i + 1)) g C := by rw [mIn, if_neg h3, if_neg h2]
  by_cases hm : mk_ (cb_ C (C 20 c (3 * i)) (C 20 c (3 * i + 1))) n = 0
  · have hco : co_ C n (C 20 c (3 * i)) (C 20 c (3 * i + 1)) = -1 := by rw [co_, if_pos hm]
    rw [hco, if_neg (by decide)] at hwt
    by_cases h1 : C 20 c (3 * i + 2) = 1
    · rw [if_pos ⟨h1, rfl⟩] at hwt
      refine Or.inl ⟨hwt, ?_⟩
      rw [hin, if_pos ⟨h1, hm⟩, if_neg h2]
    · rw [if_neg (fun q => h1 q.1)] at hwt
      exact absurd (by rw [hwt]; decide) hw
  · by_cases hc : ch_ C n (mk_ (cb_ C (C 20 c (3 * i)) (C 20 c (3 * i + 1))) n) = -1
    · have hco : co_ C n (C 20 c (3 * i)) (C 20 c (3 * i + 1)) = -2 := by rw [co_, if_neg hm, if_pos hc]
      rw [hco, if_neg (by decide), if_neg (fun q => absurd q.2 (by decide))] at hwt
      exact absurd (by rw [hwt]; decide) hw
    · have hco : co_ C n (C 20 c (3 * i)) (C 20 c (3 * i + 1)) = ch_ C n (mk_ (cb_ C (C 20 c (3 * i)) (C 20 c (3 * i + 1))) n) := by rw [co_, if_neg hm, if_neg hc]
      obtain ⟨j, hj, hjn⟩ := (ch_val C n _).resolve_left hc
      rw [hco, hj, if_pos (nI_pos (by omega))] at hwt
      refine Or.inr (Or.inr ⟨h2, j, hjn, hwt, ?_⟩)
      rw [hin, if_neg (fun q => hm q.2), mRq, if_neg hm, if_neg hc, hj, nI_clamp (by omega)]
