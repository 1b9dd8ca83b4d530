/-! THE CLASS'S TRIAL, AND ITS PUBLIC METHODS -/
theorem ii_bt {c : Nat} (hc : c < 32) (x : Int32) : ii_ x c = bt x c := by
  unfold ii_
  cases h : bt x c with
  | true =>
    have : ¬ x &&& (1 <<< (nI c &&& 31)) = 0 := fun q => by
      have := (bt_and1 hc x).mp q
      rw [h] at this
      cases this
    rw [decide_eq_false this]
    rfl
  | false =>
    rw [decide_eq_true ((bt_and1 hc x).mpr h)]
    rfl
/-- how many of the first n aren't in u -/
def cn_ (u : Int32) : Nat → Nat
  | 0 => 0
  | n + 1 => cn_ u n + (if ii_ u n = true then 0 else 1)
theorem cn_same {u v : Int32} : ∀ n : Nat, n ≤ 32 → (∀ j, j < n → ii_ v j = ii_ u j) → cn_ v n = cn_ u n
  | 0, _, _ => rfl
  | n + 1, hn, h => by
    unfold cn_
    rw [cn_same n (by omega) (fun j hj => h j (by omega)), h n (by omega)]
theorem ii_or {u : Int32} {c j : Nat} (hc : c < 32) (hj : j < 32) : ii_ (u ||| (1 <<< (nI c &&& 31))) j = (ii_ u j || decide (j = c)) := by rw [ii_bt hj, ii_bt hj, bt_or1 hc]
theorem cn_add {u : Int32} {c : Nat} (hu : ii_ u c = false) : ∀ n : Nat, n ≤ 32 → c < n → cn_ (u ||| (1 <<< (nI c &&& 31))) n + 1 = cn_ u n
  | 0, _, h => by omega
  | n + 1, hn, h => by
    unfold cn_
    by_cases e : c = n
    · subst e
      rw [cn_same (u := u) (v := u ||| (1 <<< (nI c &&& 31))) c (by omega) (fun j hj => by rw [ii_or (by omega) (by omega), decide_eq_false (by omega), Bool.or_false]), ii_or (by omega) (by omega), hu]
      simp
    · have := cn_add hu n (by omega) (by omega)
      rw [ii_or (by omega) (by omega), decide_eq_false (show ¬ n = c from fun q => e q.symm), Bool.or_false]
      omega
abbrev mT_ : Type := Nat → Int32 → mv_M → Int32 × mv_M
def mTe (K : mT_) (x u : Int32) : Nat → Nat → mv_M → Int32 × mv_M
  | 0, _, M => (0, M)
  | m + 1, j, M => if ii_ x j = true then (if ¬ (K j u M).1 = 0 then K j u M else mTe K x u m (j + 1) (K j u M).2) else mTe K x u m (j + 1) M
def mTd (n : Nat) (K : mT_) (c i : Nat) (u : Int32) (M : mv_M) : Int32 × mv_M :=
  if M 20 c (3 * i + 2) = 3 then (0, M)
  else if M 20 c (3 * i + 2) = 2 then mTe K (cf_ M n c i) u n 0 M
  else if cf_ M n c i = 0 then ((if M 20 c (3 * i + 2) = 1 then 0 else 1), M)
  else if ch_ M n (cf_ M n c i) = -1 then (2, M)
  else K (ch_ M n (cf_ M n c i)).toNatClampNeg u M
def mTl (n : Nat) (K : mT_) (c : Nat) (u : Int32) : Nat → Nat → mv_M → Int32 × mv_M
  | 0, _, M => (0, M)
  | m + 1, i, M => if ¬ (mTd n K c i u M).1 = 0 then mTd n K c i u M else mTl n K c u m (i + 1) (mTd n K c i u M).2
def mTc (n : Nat) : Nat → mT_
  | 0 => fun _ _ M => (0, M)
  | f + 1 => fun c u M =>
    if ¬ u &&& (1 <<< (nI c &&& 31)) = 0 then (3, M)
    else if ¬ M 0 0 6 &&& (1 <<< (nI c &&& 31)) = 0 then (0, M)
    else if ¬ (mTl n (mTc n f) c (u ||| (1 <<< (nI c &&& 31))) (dc_ M c) 0 M).1 = 0 then mTl n (mTc n f) c (u ||| (1 <<< (nI c &&& 31))) (dc_ M c) 0 M
    else (0, mv_up (mTl n (mTc n f) c (u ||| (1 <<< (nI c &&& 31))) (dc_ M c) 0 M).2 0 0 6 ((mTl n (mTc n f) c (u ||| (1 <<< (nI c &&& 31))) (dc_ M c) 0 M).2 0 0 6 ||| (1 <<< (nI c &&& 31))))
theorem cv_6 {M : mv_M} {n : Nat} {x : Int32} (h : cv_ M n) : cv_ (mv_up M 0 0 6 x) n := by
  obtain ⟨⟨a1, a2, a3⟩, ⟨t, e, b1, b2, b3, b4, b5⟩, ⟨o, c1, c2⟩, d1⟩ := h
  exact ⟨⟨a1, a2, a3⟩, ⟨t, e, b1, b2, b3, by rw [lv_congr (M := M) (M' := mv_up M 0 0 6 x) t (fun i _ => rfl)]; exact b4, b5⟩, ⟨o, c1, c2⟩, d1⟩
/-- K does what the class's tryConstruction does, with u under construction -/
def mTg (n D : Nat) (u : Int32) (K : mT_) : Prop := ∀ (c : Nat) (M : mv_M), c < n → cv_ M n → ev_ D kX3_tryConstruction [mv_R 0 0, mv_I (nI c), mv_I u] M (Sum.inl (some (mv_I (K c u M).1))) (K c u M).2 ∧ cv_ (K c u M).2 n
theorem lp_tryEach {n D : Nat} {u : Int32} {K : mT_} (hK : mTg n D u K) (x : Int32) : ∀ (m j : Nat) (M : mv_M) (z : Option mv_V), j + m = n → cv_ M n → er_ (D + 1) 0 kX3_tryEach (2, [some (mv_R 0 0), some (mv_I x), some (mv_I u), some (mv_I (nI j)), z], [], M) (Sum.inl (some (mv_I (mTe K x u m j M).1))) (mTe K x u m j M).2 ∧ cv_ (mTe K x u m j M).2 n := by
  intro m
  induction m with
  | zero =>
    intro j M z hj hV
    have hn := hV.1.1
    have h20 := hV.1.2.1
    refine ⟨?_, hV⟩
    refine e_run 4 rfl trivial ?_
    try simp only [hn]
    refine e_if rfl (fun h10 => ?_) (fun h10 => absurd (nI_le (by omega) (by omega)) h10)
    refine e_run 1 rfl trivial ?_
    try simp only [hn]
    exact e_ret rfl trivial rfl rfl
  | succ m ih =>
    intro j M z hj hV
    have hn := hV.1.1
    have h20 := hV.1.2.1
    have hob := hK j M (by omega) hV
    constructor
    · skip
      refine e_run 4 rfl trivial ?_
      try simp only [hn]
      refine e_if rfl (fun h10 => absurd h10 (nI_ge (by omega) (by omega))) (fun h10 => ?_)
      refine e_run 2 rfl trivial ?_
      try simp only [hn]
      refine e_calli rfl (ev_le (sp_isIn 0 M x j) (by omega)) (by decide) ?_
      try simp only [hn]
      refine e_if rfl (fun h18 => ?_) (fun h18 => ?_)
      · refine e_run 2 rfl trivial ?_
        try simp only [hn]
        first
          | (have e1 : mTe K x u (m + 1) j M = mTe K x u m (j + 1) (K j u M).2 := by simp_all [mTe]
             rw [e1]
             exact er_cong (by rw [nI_1]) (ih (j + 1) _ _ (by omega) hob.2).1)
          | (have e1 : mTe K x u (m + 1) j M = mTe K x u m (j + 1) M := by simp_all [mTe]
             rw [e1]
             exact er_cong (by rw [nI_1]) (ih (j + 1) _ _ (by omega) hV).1)
      · refine e_run 3 rfl trivial ?_
        try simp only [hn]
        refine e_calli rfl (hob.1) (by decide) ?_
        try simp only [hn]
        refine e_run 2 rfl trivial ?_
        try simp only [hn]
        refine e_if rfl (fun h31 => ?_) (fun h31 => ?_)
        · refine e_run 2 rfl trivial ?_
          try simp only [hn]
          first
            | (have e1 : mTe K x u (m + 1) j M = mTe K x u m (j + 1) (K j u M).2 := by simp_all [mTe]
               rw [e1]
               exact er_cong (by rw [nI_1]) (ih (j + 1) _ _ (by omega) hob.2).1)
            | (have e1 : mTe K x u (m + 1) j M = mTe K x u m (j + 1) M := by simp_all [mTe]
               rw [e1]
               exact er_cong (by rw [nI_1]) (ih (j + 1) _ _ (by omega) hV).1)
        · refine e_run 1 rfl trivial ?_
          try simp only [hn]
          (refine e_ret rfl trivial ?_ ?_ <;> simp_all [mTe])
    · unfold mTe
      split
      · split
        · exact hob.2
        · exact (ih (j + 1) _ none (by omega) hob.2).2
      · exact (ih (j + 1) _ none (by omega) hV).2
theorem sp_tryDependency {n D : Nat} {u : Int32} {K : mT_} (hK : mTg n D u K) (hD : 1 ≤ D) (M : mv_M) (c i : Nat) (hc : c < n) (hi : i < 6) (hV : cv_ M n) : ev_ (D + 2) kX3_tryDependency [mv_R 0 0, mv_I (nI c), mv_I (nI i), mv_I u] M (Sum.inl (some (mv_I (mTd n K c i u M).1))) (mTd n K c i u M).2 ∧ cv_ (mTd n K c i u M).2 n := by
  have hn := hV.1.1
  have h20 := hV.1.2.1
  have hea := lp_tryEach hK (cf_ M n c i) n 0 M none (by omega) hV
  have hev : ev_ (D + 1) kX3_tryEach [mv_R 0 0, mv_I (cf_ M n c i), mv_I u] M (Sum.inl (some (mv_I (mTe K (cf_ M n c i) u n 0 M).1))) (mTe K (cf_ M n c i) u n 0 M).2 := by
    refine e_ev rfl rfl ?_
    refine e_run 2 rfl trivial ?_
    exact hea.1
  constructor
  · refine e_ev rfl rfl ?_
    refine e_run 5 rfl trivial ?_
    refine e_calli rfl (ev_le (sp_partOf 0 M c i 2 (by omega) hi (by omega)) (by omega)) (by decide) ?_
    refine e_run 3 rfl trivial ?_
    refine e_if rfl (fun h15 => ?_) (fun h15 => ?_)
    · refine e_run 4 rfl trivial ?_
      refine e_calli rfl (ev_le (sp_candidatesFor 0 M n c i hn h20 (by omega) hi) (by omega)) (by decide) ?_
      refine e_run 3 rfl trivial ?_
      refine e_if rfl (fun h34 => ?_) (fun h34 => ?_)
      · refine e_run 1 rfl trivial ?_
        refine e_if rfl (fun h47 => ?_) (fun h47 => ?_)
        · refine e_run 3 rfl trivial ?_
          refine e_calli rfl (ev_le (sp_choiceAmong 0 M n _ hn h20) (by omega)) (by decide) ?_
          refine e_run 3 rfl trivial ?_
          refine e_if rfl (fun h76 => ?_) (fun h76 => ?_)
          · obtain ⟨j, hch, hj⟩ := (ch_val M n (cf_ M n c i)).resolve_left h76
            have hjl : (nI j).toNatClampNeg = j := nI_clamp (by omega)
            rw [hch]
            refine e_run 3 rfl trivial ?_
            refine e_calli rfl (ev_le (hK j M hj hV).1 (by omega)) (by decide) ?_
            (refine e_ret rfl trivial ?_ ?_ <;> simp_all [mTd])
          · refine e_run 2 rfl trivial ?_
            (refine e_ret rfl trivial ?_ ?_ <;> simp_all [mTd])
        · refine e_run 2 rfl trivial ?_
          refine e_if rfl (fun h53 => ?_) (fun h53 => ?_)
          · refine e_run 1 rfl trivial ?_
            (refine e_ret rfl trivial ?_ ?_ <;> simp_all [mTd])
          · refine e_run 2 rfl trivial ?_
            (refine e_ret rfl trivial ?_ ?_ <;> simp_all [mTd])
      · refine e_run 3 rfl trivial ?_
        refine e_calli rfl (hev) (by decide) ?_
        (refine e_ret rfl trivial ?_ ?_ <;> simp_all [mTd])
    · refine e_run 1 rfl trivial ?_
      (refine e_ret rfl trivial ?_ ?_ <;> simp_all [mTd])
  · unfold mTd
    split
    · exact hV
    · split
      · exact hea.2
      · split
        · exact hV
        · split
          · exact hV
          · next h =>
            obtain ⟨j, hch, hj⟩ := (ch_val M n (cf_ M n c i)).resolve_left h
            rw [hch, nI_clamp (by omega)]
            exact (hK j M hj hV).2
/-- what the dependencies leave: the component is sound, if none of them failed -/
def mTz (c : Nat) (r : Int32 × mv_M) : Int32 × mv_M := if ¬ r.1 = 0 then r else (0, mv_up r.2 0 0 6 (r.2 0 0 6 ||| (1 <<< (nI c &&& 31))))
theorem mTc_s (n f c : Nat) (u : Int32) (M : mv_M) : mTc n (f + 1) c u M = if ¬ u &&& (1 <<< (nI c &&& 31)) = 0 then (3, M)
    else if ¬ M 0 0 6 &&& (1 <<< (nI c &&& 31)) = 0 then (0, M)
    else mTz c (mTl n (mTc n f) c (u ||| (1 <<< (nI c &&& 31))) (dc_ M c) 0 M) := rfl
/-- the trial leaves the dependencies as they are -/
def mT8 (K : mT_) : Prop := ∀ (c : Nat) (u : Int32) (M : mv_M) (g : Nat), g ≠ 0 → (K c u M).2 g = M g
theorem mTe_8 {K : mT_} (hK : mT8 K) (x u : Int32) (g : Nat) (hg : g ≠ 0) : ∀ (m j : Nat) (M : mv_M), (mTe K x u m j M).2 g = M g
  | 0, _, _ => rfl
  | m + 1, j, M => by
    unfold mTe
    split
    · split
      · exact hK j u M g hg
      · exact (mTe_8 hK x u g hg m (j + 1) _).trans (hK j u M g hg)
    · exact mTe_8 hK x u g hg m (j + 1) M
theorem mTd_8 {n : Nat} {K : mT_} (hK : mT8 K) (c i : Nat) (u : Int32) (M : mv_M) (g : Nat) (hg : g ≠ 0) : (mTd n K c i u M).2 g = M g := by
  unfold mTd
  split
  · rfl
  · split
    · exact mTe_8 hK _ u g hg n 0 M
    · split
      · rfl
      · split
        · rfl
        · exact hK _ u M g hg
theorem mTl_8 {n : Nat} {K : mT_} (hK : mT8 K) (c : Nat) (u : Int32) (g : Nat) (hg : g ≠ 0) : ∀ (m i : Nat) (M : mv_M), (mTl n K c u m i M).2 g = M g
  | 0, _, _ => rfl
  | m + 1, i, M => by
    unfold mTl
    split
    · exact mTd_8 hK c i u M g hg
    · exact (mTl_8 hK c u g hg m (i + 1) _).trans (mTd_8 hK c i u M g hg)
theorem mTc_8 (n : Nat) : ∀ f : Nat, mT8 (mTc n f)
  | 0 => fun _ _ _ _ _ => rfl
  | f + 1 => fun c u M g hg => by
    rw [mTc_s]
    split
    · rfl
    · split
      · rfl
      · unfold mTz
        split
        · exact mTl_8 (mTc_8 n f) c _ g hg _ 0 M
        · exact (mv_up_ne hg).trans (mTl_8 (mTc_8 n f) c _ g hg _ 0 M)
theorem cv_mTz {r : Int32 × mv_M} {n c : Nat} (h : cv_ r.2 n) : cv_ (mTz c r).2 n := by
  unfold mTz
  split
  · exact h
  · exact cv_6 h
theorem lp_tryConstruction {n D : Nat} {u : Int32} {K : mT_} (hD : 1 ≤ D) (c k : Nat) (hc : c < n) (h6 : k ≤ 6) (hK : mTg n D (u ||| (1 <<< (nI c &&& 31))) K) (hK8 : mT8 K) : ∀ (m i : Nat) (M : mv_M) (z : Option mv_V), i + m = k → cv_ M n → M 8 0 c = nI k → er_ (D + 3) 0 kX3_tryConstruction (26, [some (mv_R 0 0), some (mv_I (nI c)), some (mv_I u), some (mv_I (1 <<< (nI c &&& 31))), some (mv_I (nI i)), z], [], M) (Sum.inl (some (mv_I (mTz c (mTl n K c (u ||| (1 <<< (nI c &&& 31))) m i M)).1))) (mTz c (mTl n K c (u ||| (1 <<< (nI c &&& 31))) m i M)).2 ∧ cv_ (mTl n K c (u ||| (1 <<< (nI c &&& 31))) m i M).2 n := by
  intro m
  induction m with
  | zero =>
    intro i M z hi hV h8
    have h20 := hV.1.2.1
    have hcl : (nI c).toNatClampNeg = c := nI_clamp (by omega)
    refine ⟨?_, hV⟩
    refine e_run 6 rfl ?_ ?_
    · ((try simp only [hcl, h8]) <;> and_intros <;> first | trivial | exact in_n (by omega) (by omega) | omega | (unfold vp_in; decide) | (simp only [*]; omega))
    try simp only [hcl, h8]
    refine e_if rfl (fun h37 => ?_) (fun h37 => absurd (nI_le (by omega) (by omega)) h37)
    refine e_run 7 rfl trivial ?_
    try simp only [hcl, h8]
    exact e_ret rfl trivial rfl rfl
  | succ m ih =>
    intro i M z hi hV h8
    have h20 := hV.1.2.1
    have hcl : (nI c).toNatClampNeg = c := nI_clamp (by omega)
    have hin := sp_tryDependency hK hD M c i hc (by omega) hV
    constructor
    · skip
      refine e_run 6 rfl ?_ ?_
      · ((try simp only [hcl, h8]) <;> and_intros <;> first | trivial | exact in_n (by omega) (by omega) | omega | (unfold vp_in; decide) | (simp only [*]; omega))
      try simp only [hcl, h8]
      refine e_if rfl (fun h37 => absurd h37 (nI_ge (by omega) (by omega))) (fun h37 => ?_)
      refine e_run 6 rfl trivial ?_
      try simp only [hcl, h8]
      refine e_calli rfl (hin.1) (by decide) ?_
      try simp only [hcl, h8]
      refine e_run 2 rfl trivial ?_
      try simp only [hcl, h8]
      refine e_if rfl (fun h54 => ?_) (fun h54 => ?_)
      · refine e_run 2 rfl trivial ?_
        try simp only [hcl, h8]
        have e1 : mTl n K c (u ||| (1 <<< (nI c &&& 31))) (m + 1) i M = mTl n K c (u ||| (1 <<< (nI c &&& 31))) m (i + 1) (mTd n K c i (u ||| (1 <<< (nI c &&& 31))) M).2 := by simp_all [mTl]
        rw [e1]
        exact er_cong (by rw [nI_1]) (ih (i + 1) _ _ (by omega) hin.2 (by rw [mTd_8 hK8 c i _ M 8 (by omega)]; exact h8)).1
      · refine e_run 1 rfl trivial ?_
        try simp only [hcl, h8]
        have e1 : mTl n K c (u ||| (1 <<< (nI c &&& 31))) (m + 1) i M = mTd n K c i (u ||| (1 <<< (nI c &&& 31))) M := by simp_all [mTl]
        rw [e1]
        (refine e_ret rfl trivial ?_ ?_ <;> simp_all [mTz])
    · unfold mTl
      split
      · exact hin.2
      · exact (ih (i + 1) _ none (by omega) hin.2 (by rw [mTd_8 hK8 c i _ M 8 (by omega)]; exact h8)).2
theorem sp_tryConstruction (n : Nat) : ∀ (f : Nat) (u : Int32), cn_ u n < f → mTg n (3 * f + 1) u (mTc n f) := by
  intro f
  induction f with
  | zero => intro u hu; omega
  | succ f ih =>
    intro u hu c M hc hV
    have h20 := hV.1.2.1
    have hk := hV.1.2.2 c (by omega)
    have hcl : (nI c).toNatClampNeg = c := nI_clamp (by omega)
    rw [show 3 * (f + 1) + 1 = (3 * f + 1) + 3 by omega]
    by_cases h7c : u &&& (1 <<< (nI c &&& 31)) = 0
    · have hcn : cn_ (u ||| (1 <<< (nI c &&& 31))) n < f := by
        have := cn_add (u := u) (c := c) (by unfold ii_; rw [decide_eq_true h7c]; rfl) n (by omega) hc
        omega
      have hlp := lp_tryConstruction (by omega) c (dc_ M c) hc hk.2 (ih _ hcn) (mTc_8 n f) (dc_ M c) 0 M none (by omega) hV hk.1
      constructor
      · refine e_ev rfl rfl ?_
        refine e_run 7 rfl trivial ?_
        refine e_if rfl (fun h7 => ?_) (fun h7 => absurd h7c h7)
        refine e_run 4 rfl trivial ?_
        refine e_if rfl (fun h18 => ?_) (fun h18 => ?_)
        · refine e_run 2 rfl trivial ?_
          rw [mTc_s, if_neg (by simp_all), if_neg (by simp_all)]
          exact hlp.1
        · refine e_run 1 rfl trivial ?_
          rw [mTc_s, if_neg (by simp_all), if_pos (by simp_all)]
          exact e_ret rfl trivial rfl rfl
      · rw [mTc_s]
        split
        · exact hV
        · split
          · exact hV
          · exact cv_mTz hlp.2
    · have e1 : mTc n (f + 1) c u M = (3, M) := by rw [mTc_s, if_pos h7c]
      rw [e1]
      refine ⟨?_, hV⟩
      refine e_ev rfl rfl ?_
      refine e_run 7 rfl trivial ?_
      refine e_if rfl (fun h7 => absurd h7 h7c) (fun h7 => ?_)
      refine e_run 1 rfl trivial ?_
      exact e_ret rfl trivial rfl rfl
