/-! WHAT IS KEPT, AND THE SMALL STEPS OF THE REFERENCE'S CONSTRUCTIONS -/
/-- instance i lives, a component c's at the place s -/
def at_ (C : mv_M) (i s c : Nat) : Prop := ¬ C 11 0 i = 0 ∧ C 10 0 i = nI s ∧ C 9 0 i = nI c
/-- what is kept: the only living instance of a component at a place -/
def kv_ (C : mv_M) (t : Nat) : Prop := ∀ s c : Nat, s < 6 → c < 20 → (C 21 s c = -1 ∧ ∀ i, i < t → ¬ at_ C i s c) ∨ ∃ i, i < t ∧ C 21 s c = nI i ∧ at_ C i s c ∧ ∀ j, j < t → at_ C j s c → j = i
theorem ds_21 (C : mv_M) (i e s c : Nat) : ds_ C i e 21 s c = if ¬ C 10 0 i = -1 ∧ s = (C 10 0 i).toNatClampNeg ∧ c = (C 9 0 i).toNatClampNeg then -1 else C 21 s c := by
  unfold ds_ rc_
  by_cases h : C 10 0 i = -1
  · rw [if_pos h, if_neg (fun q => q.1 h)]
    simp [rd_]
  · rw [if_neg h]
    simp only [rd_, up_, Nat.reduceEqDiff, false_and, if_false, h, not_false_eq_true, true_and]
    by_cases h2 : s = (C 10 0 i).toNatClampNeg
    · rw [if_pos h2, ← h2, up_]
      by_cases h3 : c = (C 9 0 i).toNatClampNeg
      · rw [if_pos h3, if_pos ⟨rfl, h3⟩]
      · rw [if_neg h3, if_neg (fun q => h3 q.2)]
    · rw [if_neg h2, if_neg (fun q => h2 q.1)]
theorem kv_ds {C : mv_M} {t e i : Nat} (h : kv_ C t) (hL : li_ C t e) (hi : i < t) (hl : ¬ C 11 0 i = 0) : kv_ (ds_ C i e) t := by
  intro s c hs hc
  have hat (j : Nat) : at_ (ds_ C i e) j s c ↔ j ≠ i ∧ at_ C j s c := by
    unfold at_
    rw [ds_11, ds_10, ds_9]
    by_cases q : j = i
    · simp [q]
    · simp [q]
  rw [ds_21]
  obtain ⟨-, hp, c9, hc9, hc20⟩ := hL.2.2.2.2 i hi
  by_cases q : ¬ C 10 0 i = -1 ∧ s = (C 10 0 i).toNatClampNeg ∧ c = (C 9 0 i).toNatClampNeg
  · rw [if_pos q]
    refine Or.inl ⟨rfl, fun j hj hjat => ?_⟩
    obtain ⟨h1, h2⟩ := (hat j).mp hjat
    have hia : at_ C i s c := by
      obtain ⟨q1, q2, q3⟩ := q
      obtain ⟨pl, hpl, hpl6⟩ := hp.resolve_left q1
      rw [hpl, nI_clamp (by omega)] at q2
      rw [hc9, nI_clamp (by omega)] at q3
      exact ⟨hl, by rw [hpl, q2], by rw [hc9, q3]⟩
    rcases h s c hs hc with ⟨-, k⟩ | ⟨m, -, -, -, k⟩
    · exact k i hi hia
    · exact h1 ((k j hj h2).trans (k i hi hia).symm)
  · rw [if_neg q]
    have hia : ¬ at_ C i s c := by
      rintro ⟨-, r1, r2⟩
      apply q
      rw [r1, r2, nI_clamp (by omega), nI_clamp (by omega)]
      exact ⟨fun r => nI_pos (n := s) (by omega) (by rw [r]; decide), rfl, rfl⟩
    rcases h s c hs hc with ⟨k1, k2⟩ | ⟨m, k1, k2, k3, k4⟩
    · exact Or.inl ⟨k1, fun j hj hjat => k2 j hj ((hat j).mp hjat).2⟩
    · refine Or.inr ⟨m, k1, k2, (hat m).mpr ⟨fun r => hia (r ▸ k3), k3⟩, fun j hj hjat => k4 j hj ((hat j).mp hjat).2⟩
theorem kv_df (f : Nat) (pl : Int32) (t : Nat) : ∀ (i : Nat) (C : mv_M) (e k : Nat), i ≤ t → li_ C t e → kv_ C t → kv_ (df_ f pl i C k).1 t
  | 0, C, e, k, _, _, hK => hK
  | i + 1, C, e, k, hi, hL, hK => by
    by_cases h1 : i < f
    · rw [df_s, if_pos h1]
      exact hK
    · by_cases h2 : dl_ C pl i = true
      · rw [lr_df f pl hL (by omega) h2 h1]
        exact kv_df f pl t i _ (e + 1) _ (by omega) (li_ds hL (by omega) (dl_live h2)) (kv_ds hK hL (by omega) (dl_live h2))
      · rw [df_s, if_neg h1, if_neg h2]
        exact kv_df f pl t i C e k (by omega) hL hK
theorem ia_21 (C : mv_M) (t e c : Nat) (pl : Int32) (g k s c2 : Nat) : ia_ C t e c pl g k 21 s c2 = if ¬ pl = -1 ∧ s = pl.toNatClampNeg ∧ c2 = c then nI t else C 21 s c2 := by
  unfold ia_ rc_
  dsimp only
  by_cases h : pl = -1
  · rw [if_pos h, if_neg (fun q => q.1 h)]
    simp [rd_]
  · rw [if_neg h]
    simp only [rd_, up_, Nat.reduceEqDiff, false_and, if_false, h, not_false_eq_true, true_and]
    by_cases h2 : s = pl.toNatClampNeg
    · rw [if_pos h2, ← h2, up_]
      by_cases h3 : c2 = c
      · rw [if_pos h3, if_pos ⟨rfl, h3⟩]
      · rw [if_neg h3, if_neg (fun q => h3 q.2)]
    · rw [if_neg h2, if_neg (fun q => h2 q.1)]
theorem kv_ia {C : mv_M} {t e c g k p9 : Nat} {pl : Int32} (h : kv_ C t) (ht3 : t ≤ 300) (hc20 : c < 20) (hp : pl = -1 ∨ (pl = nI p9 ∧ p9 < 6)) (hfree : ¬ pl = -1 → C 21 pl.toNatClampNeg c = -1) : kv_ (ia_ C t e c pl g k) (t + 1) := by
  intro s c2 hs hc
  have hat (j : Nat) (hj : j < t) : at_ (ia_ C t e c pl g k) j s c2 ↔ at_ C j s c2 := by
    unfold at_
    rw [ia_11, ia_10, ia_9, if_neg (by omega), if_neg (by omega), if_neg (by omega)]
  have hatt : at_ (ia_ C t e c pl g k) t s c2 ↔ pl = nI s ∧ c = c2 := by
    unfold at_
    rw [ia_11, ia_10, ia_9, if_pos rfl, if_pos rfl, if_pos rfl]
    exact ⟨fun q => ⟨q.2.1, nI_inj (by omega) (by omega) q.2.2⟩, fun q => ⟨by decide, q.1, by rw [q.2]⟩⟩
  rw [ia_21]
  by_cases q : ¬ pl = -1 ∧ s = pl.toNatClampNeg ∧ c2 = c
  · rw [if_pos q]
    obtain ⟨q1, q2, q3⟩ := q
    obtain ⟨hpl, hp6⟩ := hp.resolve_left q1
    have hsp : s = p9 := by rw [q2, hpl, nI_clamp (by omega)]
    have hf := hfree q1
    rw [← q2, ← q3] at hf
    refine Or.inr ⟨t, by omega, rfl, hatt.mpr ⟨by rw [hpl, hsp], q3.symm⟩, fun j hj hja => ?_⟩
    rcases h s c2 hs hc with ⟨-, k2⟩ | ⟨m, k1, k2, -, -⟩
    · by_cases r : j = t
      · exact r
      · exact absurd ((hat j (by omega)).mp hja) (k2 j (by omega))
    · rw [hf] at k2
      exact absurd k2.symm (fun r => nI_pos (n := m) (by omega) (by rw [r]; decide))
  · rw [if_neg q]
    have hnt : ¬ at_ (ia_ C t e c pl g k) t s c2 := by
      rw [hatt]
      rintro ⟨r1, r2⟩
      apply q
      rw [r1, nI_clamp (by omega)]
      exact ⟨fun r => nI_pos (n := s) (by omega) (by rw [r]; decide), rfl, r2.symm⟩
    rcases h s c2 hs hc with ⟨k1, k2⟩ | ⟨m, k1, k2, k3, k4⟩
    · refine Or.inl ⟨k1, fun j hj hja => ?_⟩
      by_cases r : j = t
      · exact hnt (r ▸ hja)
      · exact k2 j (by omega) ((hat j (by omega)).mp hja)
    · refine Or.inr ⟨m, by omega, k2, (hat m k1).mpr k3, fun j hj hja => ?_⟩
      by_cases r : j = t
      · exact absurd (r ▸ hja) hnt
      · exact k4 j (by omega) ((hat j (by omega)).mp hja)
theorem kv_congr {C C' : mv_M} {t : Nat} (h : kv_ C t) (h9 : C' 9 = C 9) (h10 : C' 10 = C 10) (h11 : C' 11 = C 11) (h21 : ∀ s c, C' 21 s c = C 21 s c) : kv_ C' t := by
  intro s c hs hc
  have := h s c hs hc
  unfold at_ at this ⊢
  rw [h9, h10, h11, h21]
  exact this
theorem rs_fail (d : Nat) (M : mv_M) (k x : Int32) : ev_ d kX4_fail [mv_R 22 0, mv_I k, mv_I x] M (Sum.inl none) (mv_up (mv_up M 22 0 31 k) 22 0 32 x) := by
  refine e_ev rfl rfl ?_
  refine e_run 6 rfl trivial ?_
  exact e_ret rfl trivial rfl rfl
theorem rs_clean (d : Nat) (M : mv_M) : ev_ d kX4_clean [mv_R 22 0] M (Sum.inl none) (mv_up (mv_up (mv_up M 22 0 10 0) 22 0 31 0) 22 0 30 (-1)) := by
  refine e_ev rfl rfl ?_
  refine e_run 9 rfl trivial ?_
  exact e_ret rfl trivial rfl rfl
/-- a dependency served -/
def ij4_ (M : mv_M) (g i : Nat) (v : Int32) : mv_M := mv_up (mv_up M 41 0 (6 * g + i) v) 28 0 g (nI (i + 1))
theorem rs_inject (d g i : Nat) (M : mv_M) (v : Int32) (hg : g < 21) (hi : i < 6) (hd : M 28 0 g = nI i) : ev_ d kX4_inject [mv_R 22 0, mv_I (nI g), mv_I v] M (Sum.inl none) (ij4_ M g i v) := by
  have hcl : (nI g).toNatClampNeg = g := nI_clamp (by omega)
  have hij : (nI (6 * g + i)).toNatClampNeg = 6 * g + i := nI_clamp (by omega)
  refine e_ev rfl rfl ?_
  refine e_run 20 rfl ?_ ?_
  · ((try simp only [rd_, up_, Nat.reduceEqDiff, reduceIte, and_self, and_true, true_and, and_false, false_and, if_true, if_false, hcl, hd, ix_6l, hij, nI_1]) <;> and_intros <;> first | trivial | exact in_n (by omega) (by omega) | omega | (unfold vp_in; decide) | (simp only [*]; omega))
  try simp only [rd_, up_, Nat.reduceEqDiff, reduceIte, and_self, and_true, true_and, and_false, false_and, if_true, if_false, hcl, hd, ix_6l, hij, nI_1]
  exact e_ret rfl trivial rfl rfl
/-- the reference's test of an instance -/
def il_ (M : mv_M) (c : Nat) (sc : Int32) (i : Nat) : Bool := !decide (M 33 0 i = 0) && decide (M 30 0 i = nI c) && decide (M 31 0 i = sc) && (decide (sc = 0) || decide (M 32 0 i = M 22 0 19))
def ll_ (M : mv_M) (c : Nat) (sc : Int32) : Nat → Int32
  | 0 => -1
  | t + 1 => if il_ M c sc t = true then nI t else ll_ M c sc t
theorem lp_living (d : Nat) (M : mv_M) (c : Nat) (sc : Int32) (t : Nat) (ht : M 22 0 12 = nI t) (h3 : t ≤ 300) : ∀ (m i : Nat) (z : Option mv_V), i + m = t → er_ d 0 kX4_living (5, [some (mv_R 22 0), some (mv_I (nI c)), some (mv_I sc), some (mv_I (ll_ M c sc i)), some (mv_I (nI i)), z], [], M) (Sum.inl (some (mv_I (ll_ M c sc t)))) M := by
  intro m
  induction m with
  | zero =>
    intro i z h1
    have hce : i = t := by omega
    subst hce
    refine e_run 3 rfl trivial ?_
    try simp only [ht]
    refine e_if rfl (fun h11 => ?_) (fun h11 => absurd (nI_le (by omega) (by omega)) h11)
    refine e_run 1 rfl trivial ?_
    try simp only [ht]
    exact e_ret rfl trivial rfl rfl
  | succ m ih =>
    intro i z h1
    have hcl : (nI i).toNatClampNeg = i := nI_clamp (by omega)
    refine e_run 3 rfl trivial ?_
    try simp only [ht, hcl]
    refine e_if rfl (fun h11 => absurd h11 (nI_ge (by omega) (by omega))) (fun h11 => ?_)
    refine e_run 4 rfl ?_ ?_
    · ((try simp only [ht, hcl]) <;> and_intros <;> first | trivial | exact in_n (by omega) (by omega) | omega | (unfold vp_in; decide) | (simp only [*]; omega))
    try simp only [ht, hcl]
    refine e_if rfl (fun h21 => ?_) (fun h21 => ?_)
    · refine e_run 3 rfl trivial ?_
      try simp only [ht, hcl]
      refine e_if rfl (fun h73 => ?_) (fun h73 => ?_)
      · refine e_run 4 rfl trivial ?_
        try simp only [ht, hcl]
        first
          | exact absurd h73 (by decide)
          | (refine er_cong ?_ (ih (i + 1) (some (mv_I 0)) (by omega)); rw [nI_1]; clear ih; simp_all [ll_, il_]; done)
          | (refine er_cong ?_ (ih (i + 1) (some (mv_I 1)) (by omega)); rw [nI_1]; clear ih; simp_all [ll_, il_]; done)
      · refine e_run 5 rfl trivial ?_
        try simp only [ht, hcl]
        first
          | exact absurd h73 (by decide)
          | (refine er_cong ?_ (ih (i + 1) (some (mv_I 0)) (by omega)); rw [nI_1]; clear ih; simp_all [ll_, il_]; done)
          | (refine er_cong ?_ (ih (i + 1) (some (mv_I 1)) (by omega)); rw [nI_1]; clear ih; simp_all [ll_, il_]; done)
    · refine e_run 5 rfl ?_ ?_
      · ((try simp only [ht, hcl]) <;> and_intros <;> first | trivial | exact in_n (by omega) (by omega) | omega | (unfold vp_in; decide) | (simp only [*]; omega))
      try simp only [ht, hcl]
      refine e_if rfl (fun h32 => ?_) (fun h32 => ?_)
      · refine e_run 3 rfl trivial ?_
        try simp only [ht, hcl]
        refine e_if rfl (fun h73 => ?_) (fun h73 => ?_)
        · refine e_run 4 rfl trivial ?_
          try simp only [ht, hcl]
          first
            | exact absurd h73 (by decide)
            | (refine er_cong ?_ (ih (i + 1) (some (mv_I 0)) (by omega)); rw [nI_1]; clear ih; simp_all [ll_, il_]; done)
            | (refine er_cong ?_ (ih (i + 1) (some (mv_I 1)) (by omega)); rw [nI_1]; clear ih; simp_all [ll_, il_]; done)
        · refine e_run 5 rfl trivial ?_
          try simp only [ht, hcl]
          first
            | exact absurd h73 (by decide)
            | (refine er_cong ?_ (ih (i + 1) (some (mv_I 0)) (by omega)); rw [nI_1]; clear ih; simp_all [ll_, il_]; done)
            | (refine er_cong ?_ (ih (i + 1) (some (mv_I 1)) (by omega)); rw [nI_1]; clear ih; simp_all [ll_, il_]; done)
      · refine e_run 5 rfl ?_ ?_
        · ((try simp only [ht, hcl]) <;> and_intros <;> first | trivial | exact in_n (by omega) (by omega) | omega | (unfold vp_in; decide) | (simp only [*]; omega))
        try simp only [ht, hcl]
        refine e_if rfl (fun h43 => ?_) (fun h43 => ?_)
        · refine e_run 3 rfl trivial ?_
          try simp only [ht, hcl]
          refine e_if rfl (fun h73 => ?_) (fun h73 => ?_)
          · refine e_run 4 rfl trivial ?_
            try simp only [ht, hcl]
            first
              | exact absurd h73 (by decide)
              | (refine er_cong ?_ (ih (i + 1) (some (mv_I 0)) (by omega)); rw [nI_1]; clear ih; simp_all [ll_, il_]; done)
              | (refine er_cong ?_ (ih (i + 1) (some (mv_I 1)) (by omega)); rw [nI_1]; clear ih; simp_all [ll_, il_]; done)
          · refine e_run 5 rfl trivial ?_
            try simp only [ht, hcl]
            first
              | exact absurd h73 (by decide)
              | (refine er_cong ?_ (ih (i + 1) (some (mv_I 0)) (by omega)); rw [nI_1]; clear ih; simp_all [ll_, il_]; done)
              | (refine er_cong ?_ (ih (i + 1) (some (mv_I 1)) (by omega)); rw [nI_1]; clear ih; simp_all [ll_, il_]; done)
        · refine e_run 1 rfl trivial ?_
          try simp only [ht, hcl]
          refine e_if rfl (fun h47 => ?_) (fun h47 => ?_)
          · refine e_run 4 rfl trivial ?_
            try simp only [ht, hcl]
            refine e_if rfl (fun h73 => ?_) (fun h73 => ?_)
            · refine e_run 4 rfl trivial ?_
              try simp only [ht, hcl]
              first
                | exact absurd h73 (by decide)
                | (refine er_cong ?_ (ih (i + 1) (some (mv_I 0)) (by omega)); rw [nI_1]; clear ih; simp_all [ll_, il_]; done)
                | (refine er_cong ?_ (ih (i + 1) (some (mv_I 1)) (by omega)); rw [nI_1]; clear ih; simp_all [ll_, il_]; done)
            · refine e_run 5 rfl trivial ?_
              try simp only [ht, hcl]
              first
                | exact absurd h73 (by decide)
                | (refine er_cong ?_ (ih (i + 1) (some (mv_I 0)) (by omega)); rw [nI_1]; clear ih; simp_all [ll_, il_]; done)
                | (refine er_cong ?_ (ih (i + 1) (some (mv_I 1)) (by omega)); rw [nI_1]; clear ih; simp_all [ll_, il_]; done)
          · refine e_run 6 rfl ?_ ?_
            · ((try simp only [ht, hcl]) <;> and_intros <;> first | trivial | exact in_n (by omega) (by omega) | omega | (unfold vp_in; decide) | (simp only [*]; omega))
            try simp only [ht, hcl]
            refine e_if rfl (fun h61 => ?_) (fun h61 => ?_)
            · refine e_run 3 rfl trivial ?_
              try simp only [ht, hcl]
              refine e_if rfl (fun h73 => ?_) (fun h73 => ?_)
              · refine e_run 4 rfl trivial ?_
                try simp only [ht, hcl]
                first
                  | exact absurd h73 (by decide)
                  | (refine er_cong ?_ (ih (i + 1) (some (mv_I 0)) (by omega)); rw [nI_1]; clear ih; simp_all [ll_, il_]; done)
                  | (refine er_cong ?_ (ih (i + 1) (some (mv_I 1)) (by omega)); rw [nI_1]; clear ih; simp_all [ll_, il_]; done)
              · refine e_run 5 rfl trivial ?_
                try simp only [ht, hcl]
                first
                  | exact absurd h73 (by decide)
                  | (refine er_cong ?_ (ih (i + 1) (some (mv_I 0)) (by omega)); rw [nI_1]; clear ih; simp_all [ll_, il_]; done)
                  | (refine er_cong ?_ (ih (i + 1) (some (mv_I 1)) (by omega)); rw [nI_1]; clear ih; simp_all [ll_, il_]; done)
            · refine e_run 4 rfl trivial ?_
              try simp only [ht, hcl]
              refine e_if rfl (fun h73 => ?_) (fun h73 => ?_)
              · refine e_run 4 rfl trivial ?_
                try simp only [ht, hcl]
                first
                  | exact absurd h73 (by decide)
                  | (refine er_cong ?_ (ih (i + 1) (some (mv_I 0)) (by omega)); rw [nI_1]; clear ih; simp_all [ll_, il_]; done)
                  | (refine er_cong ?_ (ih (i + 1) (some (mv_I 1)) (by omega)); rw [nI_1]; clear ih; simp_all [ll_, il_]; done)
              · refine e_run 5 rfl trivial ?_
                try simp only [ht, hcl]
                first
                  | exact absurd h73 (by decide)
                  | (refine er_cong ?_ (ih (i + 1) (some (mv_I 0)) (by omega)); rw [nI_1]; clear ih; simp_all [ll_, il_]; done)
                  | (refine er_cong ?_ (ih (i + 1) (some (mv_I 1)) (by omega)); rw [nI_1]; clear ih; simp_all [ll_, il_]; done)
theorem rs_living (d : Nat) (M : mv_M) (c : Nat) (sc : Int32) (t : Nat) (ht : M 22 0 12 = nI t) (h3 : t ≤ 300) : ev_ d kX4_living [mv_R 22 0, mv_I (nI c), mv_I sc] M (Sum.inl (some (mv_I (ll_ M c sc t)))) M := by
  refine e_ev rfl rfl ?_
  refine e_run 4 rfl trivial ?_
  exact lp_living d M c sc t ht h3 t 0 none (by omega)
theorem ll_none {M : mv_M} {c : Nat} {sc : Int32} : ∀ t : Nat, (∀ i, i < t → il_ M c sc i = false) → ll_ M c sc t = -1
  | 0, _ => rfl
  | t + 1, h => by
    unfold ll_
    rw [if_neg (by rw [h t (by omega)]; decide)]
    exact ll_none t (fun i hi => h i (by omega))
theorem ll_one {M : mv_M} {c : Nat} {sc : Int32} {m : Nat} (hm : il_ M c sc m = true) : ∀ t : Nat, m < t → (∀ i, i < t → il_ M c sc i = true → i = m) → ll_ M c sc t = nI m
  | 0, h, _ => by omega
  | t + 1, h, hu => by
    unfold ll_
    by_cases e : t = m
    · subst e
      rw [if_pos hm]
    · rw [if_neg (fun q => e (hu t (by omega) q))]
      exact ll_one hm t (by omega) (fun i hi q => hu i (by omega) q)
