/-! THE CLASS'S CONSTRUCTIONS -/
theorem mv_Ev_d : ∀ (n d b k : Nat) (s : mv_S) (Φ : mv_O → mv_M → Prop), mv_Ev n d b k s Φ → mv_Ev n (d + 1) b k s Φ := by
  intro n
  induction n with
  | zero => intro d b k s Φ h; exact h.elim
  | succ n ih =>
    intro d b k s Φ h
    unfold mv_Ev at h ⊢
    revert h
    cases hact : mv_act k s with
    | none => exact fun h => h
    | some act =>
      rcases act with ⟨P, s1⟩ | bs | ⟨k', as, rest, nx⟩ | ⟨P, v⟩ | E
      · exact fun h => ⟨h.1, ih _ _ _ _ _ h.2⟩
      · exact fun h x hx hx1 => ih _ _ _ _ _ (h x hx hx1)
      · rintro ⟨h1, h2, d', h3, Ψ, h4, h5⟩
        subst h3
        refine ⟨h1, h2, d' + 1, rfl, Ψ, ih _ _ _ _ _ h4, fun o M' ho => ?_⟩
        have h6 := h5 o M' ho
        rcases o with v | E
        · exact ih _ _ _ _ _ h6
        · revert h6
          show (match mv_hnd k s.1 E with
            | some (p, i) => mv_Ev n (d' + 1) (b - mv_mc k') k (p, s.2.1.set i none, [], M') Φ
            | none => mv_nh k = true ∧ Φ (Sum.inr E) M') → (match mv_hnd k s.1 E with
            | some (p, i) => mv_Ev n (d' + 1 + 1) (b - mv_mc k') k (p, s.2.1.set i none, [], M') Φ
            | none => mv_nh k = true ∧ Φ (Sum.inr E) M')
          cases mv_hnd k s.1 E with
          | none => exact fun h => h
          | some pi => exact fun h => ih _ _ _ _ _ h
      · exact fun h => h
      · exact fun h => h
theorem er_le {d d' b k : Nat} {s : mv_S} {o : mv_O} {M' : mv_M} (h : er_ d b k s o M') (hd : d ≤ d') : er_ d' b k s o M' := by
  obtain ⟨n, hn⟩ := h
  refine ⟨n, ?_⟩
  induction hd with
  | refl => exact hn
  | step _ ih => exact mv_Ev_d _ _ _ _ _ _ ih
theorem ev_le {d d' k : Nat} {as : List mv_V} {M : mv_M} {o : mv_O} {M' : mv_M} (h : ev_ d k as M o M') (hd : d ≤ d') : ev_ d' k as M o M' := ⟨h.1, er_le h.2 hd⟩
/-- a failure is recorded -/
def rf_ (M : mv_M) (kind det : Int32) (l : Nat) : Int32 × mv_M := (-2, fr_ M kind det l)
theorem sp_recordFailure (d : Nat) (M : mv_M) (kind det : Int32) (l : Nat) (hl : l ≤ 20) : ev_ (d + 1) kX3_recordFailure [mv_R 0 0, mv_I kind, mv_I det, mv_I (nI l)] M (Sum.inl (some (mv_I (rf_ M kind det l).1))) (rf_ M kind det l).2 := by
  refine e_ev rfl rfl ?_
  refine e_run 7 rfl trivial ?_
  refine e_callv rfl (sp_remember d M kind det l hl) (by decide) ?_
  refine e_run 1 rfl trivial ?_
  exact e_ret rfl trivial rfl rfl
/-- under construction already -/
def uc_ (M : mv_M) (c : Nat) : Nat → Nat → Bool
  | 0, _ => false
  | m + 1, i => if M 4 0 i = nI c then true else uc_ M c m (i + 1)
theorem lp_isUnderConstruction (d : Nat) (M : mv_M) (c g : Nat) (hg : g ≤ 20) : ∀ m i : Nat, i + m = g → er_ d 0 kX3_isUnderConstruction (2, [some (mv_R 0 0), some (mv_I (nI c)), some (mv_I (nI g)), some (mv_I (nI i))], [], M) (Sum.inl (some (mv_I (if uc_ M c m i = true then 1 else 0)))) M := by
  intro m
  induction m with
  | zero =>
    intro i h1
    refine e_run 2 rfl trivial ?_
    refine e_if rfl (fun h4 => ?_) (fun h4 => absurd (nI_le (by omega) (by omega)) h4)
    refine e_run 1 rfl trivial ?_
    exact e_ret rfl (Or.inl rfl) rfl rfl
  | succ m ih =>
    intro i h1
    have hcl : (nI i).toNatClampNeg = i := nI_clamp (by omega)
    refine e_run 2 rfl trivial ?_
    try simp only [hcl]
    refine e_if rfl (fun h4 => absurd h4 (nI_ge (by omega) (by omega))) (fun h4 => ?_)
    refine e_run 5 rfl ?_ ?_
    · ((try simp only [hcl]) <;> and_intros <;> first | trivial | exact in_n (by omega) (by omega) | omega | (unfold vp_in; decide) | (simp only [*]; omega))
    try simp only [hcl]
    refine e_if rfl (fun h14 => ?_) (fun h14 => ?_)
    · refine e_run 2 rfl trivial ?_
      try simp only [hcl]
      rw [show uc_ M c (m + 1) i = uc_ M c m (i + 1) by simp_all [uc_]]
      exact er_cong (by rw [nI_1]) (ih (i + 1) (by omega))
    · refine e_run 1 rfl trivial ?_
      try simp only [hcl]
      (refine e_ret rfl (Or.inr rfl) ?_ rfl <;> simp_all [uc_])
theorem sp_isUnderConstruction (d : Nat) (M : mv_M) (c g : Nat) (hg : g ≤ 20) : ev_ d kX3_isUnderConstruction [mv_R 0 0, mv_I (nI c), mv_I (nI g)] M (Sum.inl (some (mv_I (if uc_ M c g 0 = true then 1 else 0)))) M := by
  refine e_ev rfl rfl ?_
  refine e_run 2 rfl trivial ?_
  exact lp_isUnderConstruction d M c g hg g 0 (by omega)
/-- what the class's constructions rest on: n components -/
def cv_ (M : mv_M) (n : Nat) : Prop := ci_ M n ∧ (∃ t e : Nat, li_ M t e) ∧ (∃ o : Nat, M 0 0 3 = nI o ∧ o ≤ 5) ∧ ∀ c, c < 20 → M 19 c 1 = 0 ∨ M 19 c 1 = 1 ∨ M 19 c 1 = 2
def mc_ (M : mv_M) (c : Nat) (pl : Int32) (g : Nat) : Int32 × mv_M :=
  if ¬ M 2 0 5 < 300 then rf_ M 5 (nI c) (g + 1)
  else if ¬ M 19 c 6 = -1 ∧ ¬ M 15 0 c < M 19 c 6 then rf_ M 6 (nI c) (g + 1)
  else (M 2 0 5, ia_ M (M 2 0 5).toNatClampNeg (M 2 0 9).toNatClampNeg c pl g (dc_ M c))
theorem sp_complete (d : Nat) (M : mv_M) (n c g p9 : Nat) (pl : Int32) (hV : cv_ M n) (hc : c < 20) (hg : g < 20) (hp : pl = -1 ∨ (pl = nI p9 ∧ p9 < 6)) : ev_ (d + 2) kX3_complete [mv_R 0 0, mv_I (nI c), mv_I pl, mv_I (nI g)] M (Sum.inl (some (mv_I (mc_ M c pl g).1))) (mc_ M c pl g).2 := by
  obtain ⟨⟨hn, h20, hk⟩, ⟨t, e, hL⟩, -, -⟩ := hV
  have hcl : (nI c).toNatClampNeg = c := nI_clamp (by omega)
  have hgl : (nI g).toNatClampNeg = g := nI_clamp (by omega)
  have ht := hL.1
  have ht3 := hL.2.1
  have he := hL.2.2.1
  have h4 := hL.2.2.2.1
  have htl : (nI t).toNatClampNeg = t := nI_clamp (by omega)
  have hel : (nI e).toNatClampNeg = e := nI_clamp (by omega)
  refine e_ev rfl rfl ?_
  refine e_run 4 rfl trivial ?_
  try simp only [ht, hcl, hgl, cl_0, cl_1, cl_2, cl_3, cl_4, cl_5, cl_6, nI_1, (hk c hc).1]
  refine e_if rfl (fun h10 => ?_) (fun h10 => ?_)
  · refine e_run 10 rfl ?_ ?_
    · ((try simp only [ht, hcl, hgl, cl_0, cl_1, cl_2, cl_3, cl_4, cl_5, cl_6, nI_1, (hk c hc).1]) <;> and_intros <;> first | trivial | exact in_n (by omega) (by omega) | omega | (unfold vp_in; decide) | (simp only [*]; omega))
    try simp only [ht, hcl, hgl, cl_0, cl_1, cl_2, cl_3, cl_4, cl_5, cl_6, nI_1, (hk c hc).1]
    refine e_if rfl (fun h40 => ?_) (fun h40 => ?_)
    · refine e_run 13 rfl ?_ ?_
      · ((try simp only [ht, hcl, hgl, cl_0, cl_1, cl_2, cl_3, cl_4, cl_5, cl_6, nI_1, (hk c hc).1]) <;> and_intros <;> first | trivial | exact in_n (by omega) (by omega) | omega | (unfold vp_in; decide) | (simp only [*]; omega))
      try simp only [ht, hcl, hgl, cl_0, cl_1, cl_2, cl_3, cl_4, cl_5, cl_6, nI_1, (hk c hc).1]
      refine e_calli rfl (sp_append2 d M t e c g (dc_ M c) p9 pl ht ((nI_ltI (by omega) (by omega)).mp h10) he (by have := (nI_ltI (a := t) (b := 300) (by omega) (by omega)).mp h10; omega) hc hg (hk c hc).2 hp) (by decide) ?_
      try simp only [ht, hcl, hgl, cl_0, cl_1, cl_2, cl_3, cl_4, cl_5, cl_6, nI_1, (hk c hc).1]
      (refine e_ret rfl trivial ?_ ?_ <;> simp_all [mc_, rf_])
    · refine e_run 6 rfl ?_ ?_
      · ((try simp only [ht, hcl, hgl, cl_0, cl_1, cl_2, cl_3, cl_4, cl_5, cl_6, nI_1, (hk c hc).1]) <;> and_intros <;> first | trivial | exact in_n (by omega) (by omega) | omega | (unfold vp_in; decide) | (simp only [*]; omega))
      try simp only [ht, hcl, hgl, cl_0, cl_1, cl_2, cl_3, cl_4, cl_5, cl_6, nI_1, (hk c hc).1]
      refine e_if rfl (fun h54 => ?_) (fun h54 => ?_)
      · refine e_run 13 rfl ?_ ?_
        · ((try simp only [ht, hcl, hgl, cl_0, cl_1, cl_2, cl_3, cl_4, cl_5, cl_6, nI_1, (hk c hc).1]) <;> and_intros <;> first | trivial | exact in_n (by omega) (by omega) | omega | (unfold vp_in; decide) | (simp only [*]; omega))
        try simp only [ht, hcl, hgl, cl_0, cl_1, cl_2, cl_3, cl_4, cl_5, cl_6, nI_1, (hk c hc).1]
        refine e_calli rfl (sp_append2 d M t e c g (dc_ M c) p9 pl ht ((nI_ltI (by omega) (by omega)).mp h10) he (by have := (nI_ltI (a := t) (b := 300) (by omega) (by omega)).mp h10; omega) hc hg (hk c hc).2 hp) (by decide) ?_
        try simp only [ht, hcl, hgl, cl_0, cl_1, cl_2, cl_3, cl_4, cl_5, cl_6, nI_1, (hk c hc).1]
        (refine e_ret rfl trivial ?_ ?_ <;> simp_all [mc_, rf_])
      · refine e_run 6 rfl trivial ?_
        try simp only [ht, hcl, hgl, cl_0, cl_1, cl_2, cl_3, cl_4, cl_5, cl_6, nI_1, (hk c hc).1]
        refine e_calli rfl (sp_recordFailure d M 6 (nI c) (g + 1) (by omega)) (by decide) ?_
        try simp only [ht, hcl, hgl, cl_0, cl_1, cl_2, cl_3, cl_4, cl_5, cl_6, nI_1, (hk c hc).1]
        (refine e_ret rfl trivial ?_ ?_ <;> simp_all [mc_, rf_])
  · refine e_run 6 rfl trivial ?_
    try simp only [ht, hcl, hgl, cl_0, cl_1, cl_2, cl_3, cl_4, cl_5, cl_6, nI_1, (hk c hc).1]
    refine e_calli rfl (sp_recordFailure d M 5 (nI c) (g + 1) (by omega)) (by decide) ?_
    try simp only [ht, hcl, hgl, cl_0, cl_1, cl_2, cl_3, cl_4, cl_5, cl_6, nI_1, (hk c hc).1]
    (refine e_ret rfl trivial ?_ ?_ <;> simp_all [mc_, rf_])
theorem cv_congr {M M' : mv_M} {n : Nat} (h : cv_ M n) (h0 : M' 0 = M 0) (h1 : M' 1 = M 1) (h2 : M' 2 = M 2) (h8 : M' 8 = M 8) (h9 : M' 9 = M 9) (h10 : M' 10 = M 10) (h11 : M' 11 = M 11) (h19 : M' 19 = M 19) : cv_ M' n := by
  obtain ⟨⟨a1, a2, a3⟩, ⟨t, e, b1, b2, b3, b4, b5⟩, c1, d1⟩ := h
  refine ⟨⟨by rw [h1]; exact a1, a2, fun c hc => ?_⟩, ⟨t, e, by rw [h2]; exact b1, b2, by rw [h2]; exact b3, ?_, fun i hi => by rw [h9, h10, h11]; exact b5 i hi⟩, by rw [h0]; exact c1, by rw [h19]; exact d1⟩
  · unfold dc_
    rw [h8]
    exact a3 c hc
  · rw [lv_congr t (fun i _ => by rw [h11])]
    exact b4
theorem cv_cp {M : mv_M} {n g j : Nat} {f : Nat → Int32} (h : cv_ M n) (hg : g = 3 ∨ g = 4 ∨ g = 12 ∨ g = 13 ∨ g = 15 ∨ g = 17 ∨ g = 18 ∨ g = 21) : cv_ (mv_cp M g j f) n := by
  refine cv_congr h ?_ ?_ ?_ ?_ ?_ ?_ ?_ ?_ <;> exact mv_cp_ne (by omega)
theorem cv_fr {M : mv_M} {n l : Nat} {kind det : Int32} (h : cv_ M n) : cv_ (fr_ M kind det l) n := by
  unfold fr_
  exact cv_cp (cv_cp (cv_cp (cv_cp h (by omega)) (by omega)) (by omega)) (by omega)
theorem ia_11 (M : mv_M) (t e c : Nat) (pl : Int32) (g k j : Nat) : ia_ M t e c pl g k 11 0 j = if j = t then 1 else M 11 0 j := by
  unfold ia_ rc_
  dsimp only
  split <;> simp only [rd_, up_, Nat.reduceEqDiff, false_and, if_false, and_self, if_true]
theorem ia_10 (M : mv_M) (t e c : Nat) (pl : Int32) (g k j : Nat) : ia_ M t e c pl g k 10 0 j = if j = t then pl else M 10 0 j := by
  unfold ia_ rc_
  dsimp only
  split <;> simp only [rd_, up_, Nat.reduceEqDiff, false_and, if_false, and_self, if_true]
theorem ia_9 (M : mv_M) (t e c : Nat) (pl : Int32) (g k j : Nat) : ia_ M t e c pl g k 9 0 j = if j = t then nI c else M 9 0 j := by
  unfold ia_ rc_
  dsimp only
  split <;> simp only [rd_, up_, Nat.reduceEqDiff, false_and, if_false, and_self, if_true]
theorem ia_2 (M : mv_M) (t e c : Nat) (pl : Int32) (g k : Nat) : ia_ M t e c pl g k 2 0 5 = nI (t + 1) ∧ ia_ M t e c pl g k 2 0 9 = nI (e + 1) := by
  unfold ia_ rc_
  dsimp only
  split <;> simp [rd_, up_]
theorem mv_up_ne {M : mv_M} {g j o g' : Nat} {x : Int32} (h : g' ≠ g) : mv_up M g j o x g' = M g' := mv_cp_ne h
theorem ia_o (M : mv_M) (t e c : Nat) (pl : Int32) (g k x : Nat) (hx : x = 0 ∨ x = 1 ∨ x = 8 ∨ x = 19 ∨ x = 20 ∨ x = 4 ∨ x = 18 ∨ x = 3 ∨ x = 17 ∨ 22 ≤ x) : ia_ M t e c pl g k x = M x := by
  funext b
  unfold ia_ rc_
  dsimp only
  split <;> (repeat first | rw [mv_cp_ne (by omega)] | rw [mv_up_ne (by omega)])
theorem li_ia {M : mv_M} {t e c : Nat} {pl : Int32} {g k p9 : Nat} (h : li_ M t e) (ht : t < 300) (hc : c < 20) (hp : pl = -1 ∨ (pl = nI p9 ∧ p9 < 6)) : li_ (ia_ M t e c pl g k) (t + 1) (e + 1) := by
  obtain ⟨h1, h2, h3, h4, h5⟩ := h
  refine ⟨(ia_2 ..).1, by omega, (ia_2 ..).2, ?_, fun j hj => ?_⟩
  · show e + 1 + (lv_ _ t + _) = _
    rw [lv_congr t (fun i hi => by rw [ia_11, if_neg (by omega)]), ia_11, if_pos rfl, if_neg (by decide)]
    omega
  · rw [ia_11, ia_10, ia_9]
    by_cases e1 : j = t
    · rw [if_pos e1, if_pos e1, if_pos e1]
      refine ⟨Or.inr rfl, ?_, c, rfl, hc⟩
      rcases hp with hp | ⟨hp, hp6⟩
      · exact Or.inl hp
      · exact Or.inr ⟨p9, hp, hp6⟩
    · rw [if_neg e1, if_neg e1, if_neg e1]
      exact h5 j (by omega)
theorem cv_ia {M : mv_M} {n t e c : Nat} {pl : Int32} {g k p9 : Nat} (h : cv_ M n) (hL : li_ M t e) (ht : t < 300) (hc : c < 20) (hp : pl = -1 ∨ (pl = nI p9 ∧ p9 < 6)) : cv_ (ia_ M t e c pl g k) n := by
  obtain ⟨⟨a1, a2, a3⟩, -, c1, d1⟩ := h
  refine ⟨⟨?_, a2, fun c hc => ?_⟩, ⟨_, _, li_ia hL ht hc hp⟩, ?_, ?_⟩
  · rw [ia_o _ _ _ _ _ _ _ 1 (by omega)]; exact a1
  · unfold dc_
    rw [ia_o _ _ _ _ _ _ _ 8 (by omega)]; exact a3 c hc
  · rw [ia_o _ _ _ _ _ _ _ 0 (by omega)]; exact c1
  · rw [ia_o _ _ _ _ _ _ _ 19 (by omega)]; exact d1
theorem cv_mc {M : mv_M} {n c g p9 : Nat} {pl : Int32} (h : cv_ M n) (hc : c < 20) (hp : pl = -1 ∨ (pl = nI p9 ∧ p9 < 6)) : cv_ (mc_ M c pl g).2 n := by
  obtain ⟨-, ⟨t, e, hL⟩, -, -⟩ := id h
  unfold mc_
  split
  · exact cv_fr h
  · next h3 =>
    split
    · exact cv_fr h
    · have hlt : t < 300 := by
        rw [hL.1] at h3
        exact (nI_ltI (a := t) (b := 300) (by have := hL.2.1; omega) (by omega)).mp (Decidable.not_not.mp h3)
      show cv_ (ia_ M (M 2 0 5).toNatClampNeg (M 2 0 9).toNatClampNeg c pl g (dc_ M c)) n
      rw [hL.1, hL.2.2.1, nI_clamp (by omega), nI_clamp (by have := hL.2.2.2.1; omega)]
      exact cv_ia h hL hlt hc hp
theorem si_val (x : Int32) : ∀ m c : Nat, si_ x m c = -1 ∨ ∃ j, si_ x m c = nI j ∧ c ≤ j ∧ j < c + m
  | 0, _ => Or.inl rfl
  | m + 1, c => by
    unfold si_
    split
    · exact Or.inr ⟨c, rfl, Nat.le_refl c, by omega⟩
    · rcases si_val x m (c + 1) with h | ⟨j, h1, h2, h3⟩
      · exact Or.inl h
      · exact Or.inr ⟨j, h1, by omega, by omega⟩
theorem ch_val (M : mv_M) (n : Nat) (x : Int32) : ch_ M n x = -1 ∨ ∃ j, ch_ M n x = nI j ∧ j < n := by
  unfold ch_
  split
  · rcases si_val x n 0 with h | ⟨j, h1, h2, h3⟩
    · exact Or.inl h
    · exact Or.inr ⟨j, h1, by omega⟩
  · rcases si_val (x &&& pm_ M n) n 0 with h | ⟨j, h1, h2, h3⟩
    · exact Or.inl h
    · exact Or.inr ⟨j, h1, by omega⟩
abbrev mK_ : Type := Nat → Int32 → Nat → mv_M → Int32 × mv_M
/-- the place of a component's instances -/
def pl_ (M : mv_M) (c : Nat) : Int32 := if M 19 c 1 = 0 then 0 else M 0 0 3
def mOb (K : mK_) (c g : Nat) (M : mv_M) : Int32 × mv_M :=
  if M 19 c 1 = 1 then K c (-1) g M
  else if M 19 c 1 = 2 ∧ M 0 0 3 = 0 then rf_ M 4 (nI c) g
  else if M 21 (pl_ M c).toNatClampNeg c = -1 then K c (pl_ M c) g M
  else (M 21 (pl_ M c).toNatClampNeg c, M)
def mRq (n : Nat) (K : mK_) (t q : Int32) (g : Nat) (M : mv_M) : Int32 × mv_M :=
  if mk_ (cb_ M t q) n = 0 then rf_ M 1 t g
  else if ch_ M n (mk_ (cb_ M t q) n) = -1 then rf_ M 2 t g
  else mOb K (ch_ M n (mk_ (cb_ M t q) n)).toNatClampNeg g M
def mOe (K : mK_) (x : Int32) (g : Nat) : Nat → Nat → Nat → mv_M → Int32 × mv_M
  | 0, _, got, M => (nI got, M)
  | m + 1, j, got, M => if ii_ x j = true then (if (mOb K j g M).1 = -2 then (-2, (mOb K j g M).2) else mOe K x g m (j + 1) (got + 1) (mOb K j g M).2) else mOe K x g m (j + 1) got M
def mIn (n : Nat) (K : mK_) (c i g : Nat) (M : mv_M) : Int32 × mv_M :=
  if M 20 c (3 * i + 2) = 3 then (-1, M)
  else if M 20 c (3 * i + 2) = 2 then mOe K (cf_ M n c i) g n 0 0 M
  else if M 20 c (3 * i + 2) = 1 ∧ cf_ M n c i = 0 then (-1, M)
  else mRq n K (M 20 c (3 * i)) (M 20 c (3 * i + 1)) g M
def mDl (n : Nat) (K : mK_) (c g : Nat) : Nat → Nat → mv_M → Int32 × mv_M
  | 0, _, M => (0, M)
  | m + 1, i, M => if (mIn n K c i (g + 1) M).1 = -2 then (-2, (mIn n K c i (g + 1) M).2) else mDl n K c g m (i + 1) (mv_up (mIn n K c i (g + 1) M).2 18 g i (mIn n K c i (g + 1) M).1)
def mCo (n : Nat) : Nat → mK_
  | 0 => fun _ _ _ M => (0, M)
  | f + 1 => fun c pl g M =>
    if ¬ g < 20 ∨ uc_ M c g 0 = true then rf_ M 3 (nI c) g
    else if (mDl n (mCo n f) c g (dc_ M c) 0 (mv_up M 4 0 g (nI c))).1 = -2 then mDl n (mCo n f) c g (dc_ M c) 0 (mv_up M 4 0 g (nI c))
    else mc_ (mDl n (mCo n f) c g (dc_ M c) 0 (mv_up M 4 0 g (nI c))).2 c pl g
/-- K does what the class's construct does at depth g -/
def mKg (n D g : Nat) (K : mK_) : Prop := ∀ (c p9 : Nat) (pl : Int32) (M : mv_M), c < n → cv_ M n → (pl = -1 ∨ (pl = nI p9 ∧ p9 < 6)) → ev_ D kX3_construct [mv_R 0 0, mv_I (nI c), mv_I pl, mv_I (nI g)] M (Sum.inl (some (mv_I (K c pl g M).1))) (K c pl g M).2 ∧ cv_ (K c pl g M).2 n
theorem pl_val {M : mv_M} {n c : Nat} (h : cv_ M n) : ∃ p9, pl_ M c = nI p9 ∧ p9 < 6 := by
  unfold pl_
  split
  · exact ⟨0, rfl, by omega⟩
  · obtain ⟨o, h1, h2⟩ := h.2.2.1
    exact ⟨o, h1, by omega⟩
theorem sp_obtain {n D g : Nat} {K : mK_} (hK : mKg n D g K) (hD : 2 ≤ D) (hg : g ≤ 20) (M : mv_M) (c : Nat) (hc : c < n) (hV : cv_ M n) : ev_ (D + 1) kX3_obtain [mv_R 0 0, mv_I (nI c), mv_I (nI g)] M (Sum.inl (some (mv_I (mOb K c g M).1))) (mOb K c g M).2 ∧ cv_ (mOb K c g M).2 n := by
  obtain ⟨p9, hp, hp6⟩ := pl_val (c := c) hV
  have h20 := hV.1.2.1
  have hcl : (nI c).toNatClampNeg = c := nI_clamp (by omega)
  have hpl : (nI p9).toNatClampNeg = p9 := nI_clamp (by omega)
  have hp2 := hp
  constructor
  · refine e_ev rfl rfl ?_
    refine e_run 10 rfl ?_ ?_
    · ((try simp only [hcl, cl_0, cl_1, cl_2, cl_3, cl_4, cl_5, cl_6]) <;> and_intros <;> first | trivial | exact in_n (by omega) (by omega) | omega | (unfold vp_in; decide) | (simp only [*]; omega))
    try simp only [hcl, cl_0, cl_1, cl_2, cl_3, cl_4, cl_5, cl_6]
    refine e_if rfl (fun h14 => ?_) (fun h14 => ?_)
    · refine e_run 2 rfl trivial ?_
      try simp only [hcl, cl_0, cl_1, cl_2, cl_3, cl_4, cl_5, cl_6]
      refine e_if rfl (fun h27 => ?_) (fun h27 => ?_)
      · refine e_run 1 rfl trivial ?_
        try simp only [hcl, cl_0, cl_1, cl_2, cl_3, cl_4, cl_5, cl_6]
        refine e_if rfl (fun h46 => ?_) (fun h46 => ?_)
        · have hpe : pl_ M c = M 0 0 3 := by unfold pl_; rw [if_neg h46]
          rw [hpe] at hp
          refine e_run 13 rfl ?_ ?_
          · rw [hp]
            exact ⟨⟨in_n hp6 (by omega), by decide⟩, ⟨in_n (by omega) (by omega), by rw [hpl]; exact hp6⟩, trivial⟩
          try simp only [hcl, cl_0, cl_1, cl_2, cl_3, cl_4, cl_5, cl_6]
          refine e_if rfl (fun h76 => ?_) (fun h76 => ?_)
          · refine e_run 1 rfl trivial ?_
            try simp only [hcl, cl_0, cl_1, cl_2, cl_3, cl_4, cl_5, cl_6]
            (refine e_ret rfl trivial ?_ ?_ <;> simp_all [mOb, rf_, nI_0, cl_0])
          · refine e_run 4 rfl trivial ?_
            try simp only [hcl, cl_0, cl_1, cl_2, cl_3, cl_4, cl_5, cl_6]
            have hh := (hK c _ (pl_ M c) M hc hV (Or.inr ⟨hp2, hp6⟩)).1
            rw [hpe] at hh
            refine e_calli rfl (hh) (by decide) ?_
            try simp only [hcl, cl_0, cl_1, cl_2, cl_3, cl_4, cl_5, cl_6]
            refine e_run 1 rfl trivial ?_
            try simp only [hcl, cl_0, cl_1, cl_2, cl_3, cl_4, cl_5, cl_6]
            (refine e_ret rfl trivial ?_ ?_ <;> simp_all [mOb, rf_, nI_0, cl_0])
        · have hpe : pl_ M c = 0 := by unfold pl_; rw [if_pos h46]
          have hp0 : p9 = 0 := nI_inj (by omega) (by omega) (hp2.symm.trans hpe)
          subst hp0
          refine e_run 13 rfl ?_ ?_
          · exact ⟨⟨by unfold vp_in; decide, by decide⟩, ⟨in_n (by omega) (by omega), by decide⟩, trivial⟩
          try simp only [hcl, cl_0, cl_1, cl_2, cl_3, cl_4, cl_5, cl_6]
          refine e_if rfl (fun h76 => ?_) (fun h76 => ?_)
          · refine e_run 1 rfl trivial ?_
            try simp only [hcl, cl_0, cl_1, cl_2, cl_3, cl_4, cl_5, cl_6]
            (refine e_ret rfl trivial ?_ ?_ <;> simp_all [mOb, rf_, nI_0, cl_0])
          · refine e_run 4 rfl trivial ?_
            try simp only [hcl, cl_0, cl_1, cl_2, cl_3, cl_4, cl_5, cl_6]
            have hh := (hK c _ (pl_ M c) M hc hV (Or.inr ⟨hp2, hp6⟩)).1
            rw [hpe] at hh
            refine e_calli rfl (hh) (by decide) ?_
            try simp only [hcl, cl_0, cl_1, cl_2, cl_3, cl_4, cl_5, cl_6]
            refine e_run 1 rfl trivial ?_
            try simp only [hcl, cl_0, cl_1, cl_2, cl_3, cl_4, cl_5, cl_6]
            (refine e_ret rfl trivial ?_ ?_ <;> simp_all [mOb, rf_, nI_0, cl_0])
      · refine e_run 2 rfl trivial ?_
        try simp only [hcl, cl_0, cl_1, cl_2, cl_3, cl_4, cl_5, cl_6]
        refine e_if rfl (fun h34 => ?_) (fun h34 => ?_)
        · refine e_run 1 rfl trivial ?_
          try simp only [hcl, cl_0, cl_1, cl_2, cl_3, cl_4, cl_5, cl_6]
          refine e_if rfl (fun h46 => ?_) (fun h46 => ?_)
          · have hpe : pl_ M c = M 0 0 3 := by unfold pl_; rw [if_neg h46]
            rw [hpe] at hp
            refine e_run 13 rfl ?_ ?_
            · rw [hp]
              exact ⟨⟨in_n hp6 (by omega), by decide⟩, ⟨in_n (by omega) (by omega), by rw [hpl]; exact hp6⟩, trivial⟩
            try simp only [hcl, cl_0, cl_1, cl_2, cl_3, cl_4, cl_5, cl_6]
            refine e_if rfl (fun h76 => ?_) (fun h76 => ?_)
            · refine e_run 1 rfl trivial ?_
              try simp only [hcl, cl_0, cl_1, cl_2, cl_3, cl_4, cl_5, cl_6]
              (refine e_ret rfl trivial ?_ ?_ <;> simp_all [mOb, rf_, nI_0, cl_0])
            · refine e_run 4 rfl trivial ?_
              try simp only [hcl, cl_0, cl_1, cl_2, cl_3, cl_4, cl_5, cl_6]
              have hh := (hK c _ (pl_ M c) M hc hV (Or.inr ⟨hp2, hp6⟩)).1
              rw [hpe] at hh
              refine e_calli rfl (hh) (by decide) ?_
              try simp only [hcl, cl_0, cl_1, cl_2, cl_3, cl_4, cl_5, cl_6]
              refine e_run 1 rfl trivial ?_
              try simp only [hcl, cl_0, cl_1, cl_2, cl_3, cl_4, cl_5, cl_6]
              (refine e_ret rfl trivial ?_ ?_ <;> simp_all [mOb, rf_, nI_0, cl_0])
          · have hpe : pl_ M c = 0 := by unfold pl_; rw [if_pos h46]
            have hp0 : p9 = 0 := nI_inj (by omega) (by omega) (hp2.symm.trans hpe)
            subst hp0
            refine e_run 13 rfl ?_ ?_
            · exact ⟨⟨by unfold vp_in; decide, by decide⟩, ⟨in_n (by omega) (by omega), by decide⟩, trivial⟩
            try simp only [hcl, cl_0, cl_1, cl_2, cl_3, cl_4, cl_5, cl_6]
            refine e_if rfl (fun h76 => ?_) (fun h76 => ?_)
            · refine e_run 1 rfl trivial ?_
              try simp only [hcl, cl_0, cl_1, cl_2, cl_3, cl_4, cl_5, cl_6]
              (refine e_ret rfl trivial ?_ ?_ <;> simp_all [mOb, rf_, nI_0, cl_0])
            · refine e_run 4 rfl trivial ?_
              try simp only [hcl, cl_0, cl_1, cl_2, cl_3, cl_4, cl_5, cl_6]
              have hh := (hK c _ (pl_ M c) M hc hV (Or.inr ⟨hp2, hp6⟩)).1
              rw [hpe] at hh
              refine e_calli rfl (hh) (by decide) ?_
              try simp only [hcl, cl_0, cl_1, cl_2, cl_3, cl_4, cl_5, cl_6]
              refine e_run 1 rfl trivial ?_
              try simp only [hcl, cl_0, cl_1, cl_2, cl_3, cl_4, cl_5, cl_6]
              (refine e_ret rfl trivial ?_ ?_ <;> simp_all [mOb, rf_, nI_0, cl_0])
        · refine e_run 4 rfl trivial ?_
          try simp only [hcl, cl_0, cl_1, cl_2, cl_3, cl_4, cl_5, cl_6]
          refine e_calli rfl (ev_le (sp_recordFailure 0 M 4 (nI c) g hg) (by omega)) (by decide) ?_
          try simp only [hcl, cl_0, cl_1, cl_2, cl_3, cl_4, cl_5, cl_6]
          (refine e_ret rfl trivial ?_ ?_ <;> simp_all [mOb, rf_, nI_0, cl_0])
    · refine e_run 4 rfl trivial ?_
      try simp only [hcl, cl_0, cl_1, cl_2, cl_3, cl_4, cl_5, cl_6]
      refine e_calli rfl ((hK c 0 (-1) M hc hV (Or.inl rfl)).1) (by decide) ?_
      try simp only [hcl, cl_0, cl_1, cl_2, cl_3, cl_4, cl_5, cl_6]
      (refine e_ret rfl trivial ?_ ?_ <;> simp_all [mOb, rf_, nI_0, cl_0])
  · unfold mOb
    split
    · exact (hK c 0 (-1) M hc hV (Or.inl rfl)).2
    · split
      · exact cv_fr hV
      · split
        · exact (hK c p9 (pl_ M c) M hc hV (Or.inr ⟨hp, hp6⟩)).2
        · exact hV
theorem sp_request {n D g : Nat} {K : mK_} (hK : mKg n D g K) (hD : 2 ≤ D) (hg : g ≤ 20) (M : mv_M) (t q : Int32) (hV : cv_ M n) : ev_ (D + 2) kX3_request [mv_R 0 0, mv_I t, mv_I q, mv_I (nI g)] M (Sum.inl (some (mv_I (mRq n K t q g M).1))) (mRq n K t q g M).2 ∧ cv_ (mRq n K t q g M).2 n := by
  have hn := hV.1.1
  have h20 := hV.1.2.1
  constructor
  · refine e_ev rfl rfl ?_
    refine e_run 4 rfl trivial ?_
    refine e_calli rfl (ev_le (sp_candidateMask 0 M n t q hn h20) (by omega)) (by decide) ?_
    refine e_run 2 rfl trivial ?_
    refine e_if rfl (fun h13 => ?_) (fun h13 => ?_)
    · refine e_run 3 rfl trivial ?_
      refine e_calli rfl (ev_le (sp_choiceAmong 0 M n _ hn h20) (by omega)) (by decide) ?_
      refine e_run 3 rfl trivial ?_
      refine e_if rfl (fun h38 => ?_) (fun h38 => ?_)
      · obtain ⟨j, hch, hj⟩ := (ch_val M n (mk_ (cb_ M t q) n)).resolve_left h38
        have hjl : (nI j).toNatClampNeg = j := nI_clamp (by omega)
        rw [hch]
        refine e_run 3 rfl trivial ?_
        refine e_calli rfl ((sp_obtain hK hD hg M j hj hV).1) (by decide) ?_
        (refine e_ret rfl trivial ?_ ?_ <;> simp_all [mRq, rf_])
      · refine e_run 4 rfl trivial ?_
        refine e_calli rfl (ev_le (sp_recordFailure 0 M 2 t g hg) (by omega)) (by decide) ?_
        refine e_run 1 rfl trivial ?_
        (refine e_ret rfl trivial ?_ ?_ <;> simp_all [mRq, rf_])
    · refine e_run 4 rfl trivial ?_
      refine e_calli rfl (ev_le (sp_recordFailure 0 M 1 t g hg) (by omega)) (by decide) ?_
      (refine e_ret rfl trivial ?_ ?_ <;> simp_all [mRq, rf_])
  · unfold mRq
    split
    · exact cv_fr hV
    · split
      · exact cv_fr hV
      · next h =>
        obtain ⟨j, hch, hj⟩ := (ch_val M n (mk_ (cb_ M t q) n)).resolve_left h
        rw [hch, nI_clamp (by omega)]
        exact (sp_obtain hK hD hg M j hj hV).2
theorem lp_obtainEach {n D g : Nat} {K : mK_} (hK : mKg n D g K) (hD : 2 ≤ D) (hg : g ≤ 20) (x : Int32) : ∀ (m j got : Nat) (M : mv_M), j + m = n → cv_ M n → er_ (D + 2) 0 kX3_obtainEach (5, [some (mv_R 0 0), some (mv_I x), some (mv_I (nI g)), some (mv_I (nI got)), some (mv_I (nI j))], [], M) (Sum.inl (some (mv_I (mOe K x g m j got M).1))) (mOe K x g m j got M).2 ∧ cv_ (mOe K x g m j got M).2 n := by
  intro m
  induction m with
  | zero =>
    intro j got M hj hV
    have hn := hV.1.1
    have h20 := hV.1.2.1
    refine ⟨?_, hV⟩
    refine e_run 4 rfl trivial ?_
    try simp only [hn]
    refine e_if rfl (fun h14 => ?_) (fun h14 => absurd (nI_le (by omega) (by omega)) h14)
    refine e_run 1 rfl trivial ?_
    try simp only [hn]
    exact e_ret rfl trivial rfl rfl
  | succ m ih =>
    intro j got M hj hV
    have hn := hV.1.1
    have h20 := hV.1.2.1
    have hob := sp_obtain hK hD hg M j (by omega) hV
    constructor
    · skip
      refine e_run 4 rfl trivial ?_
      try simp only [hn]
      refine e_if rfl (fun h14 => absurd h14 (nI_ge (by omega) (by omega))) (fun h14 => ?_)
      refine e_run 2 rfl trivial ?_
      try simp only [hn]
      refine e_calli rfl (ev_le (sp_isIn 0 M x j) (by omega)) (by decide) ?_
      try simp only [hn]
      refine e_if rfl (fun h23 => ?_) (fun h23 => ?_)
      · refine e_run 2 rfl trivial ?_
        try simp only [hn]
        first
          | (have e1 : mOe K x g (m + 1) j got M = mOe K x g m (j + 1) (got + 1) (mOb K j g M).2 := by simp_all [mOe]
             rw [e1]
             exact er_cong (by rw [nI_1, nI_1]) (ih (j + 1) (got + 1) _ (by omega) hob.2).1)
          | (have e1 : mOe K x g (m + 1) j got M = mOe K x g m (j + 1) got M := by simp_all [mOe]
             rw [e1]
             exact er_cong (by rw [nI_1]) (ih (j + 1) got _ (by omega) hV).1)
      · refine e_run 3 rfl trivial ?_
        try simp only [hn]
        refine e_calli rfl (hob.1) (by decide) ?_
        try simp only [hn]
        refine e_run 1 rfl trivial ?_
        try simp only [hn]
        refine e_if rfl (fun h35 => ?_) (fun h35 => ?_)
        · refine e_run 3 rfl trivial ?_
          try simp only [hn]
          first
            | (have e1 : mOe K x g (m + 1) j got M = mOe K x g m (j + 1) (got + 1) (mOb K j g M).2 := by simp_all [mOe]
               rw [e1]
               exact er_cong (by rw [nI_1, nI_1]) (ih (j + 1) (got + 1) _ (by omega) hob.2).1)
            | (have e1 : mOe K x g (m + 1) j got M = mOe K x g m (j + 1) got M := by simp_all [mOe]
               rw [e1]
               exact er_cong (by rw [nI_1]) (ih (j + 1) got _ (by omega) hV).1)
        · refine e_run 1 rfl trivial ?_
          try simp only [hn]
          (refine e_ret rfl trivial ?_ ?_ <;> simp_all [mOe])
    · unfold mOe
      split
      · split
        · exact hob.2
        · exact (ih (j + 1) (got + 1) _ (by omega) hob.2).2
      · exact (ih (j + 1) got _ (by omega) hV).2
theorem sp_obtainEach {n D g : Nat} {K : mK_} (hK : mKg n D g K) (hD : 2 ≤ D) (hg : g ≤ 20) (x : Int32) (M : mv_M) (hV : cv_ M n) : ev_ (D + 2) kX3_obtainEach [mv_R 0 0, mv_I x, mv_I (nI g)] M (Sum.inl (some (mv_I (mOe K x g n 0 0 M).1))) (mOe K x g n 0 0 M).2 ∧ cv_ (mOe K x g n 0 0 M).2 n := by
  have h := lp_obtainEach hK hD hg x n 0 0 M (by omega) hV
  refine ⟨?_, h.2⟩
  refine e_ev rfl rfl ?_
  refine e_run 4 rfl trivial ?_
  exact h.1
theorem sp_inject {n D g : Nat} {K : mK_} (hK : mKg n D g K) (hD : 2 ≤ D) (hg : g ≤ 20) (M : mv_M) (c i : Nat) (hc : c < n) (hi : i < 6) (hV : cv_ M n) : ev_ (D + 3) kX3_inject [mv_R 0 0, mv_I (nI c), mv_I (nI i), mv_I (nI g)] M (Sum.inl (some (mv_I (mIn n K c i g M).1))) (mIn n K c i g M).2 ∧ cv_ (mIn n K c i g M).2 n := by
  have hn := hV.1.1
  have h20 := hV.1.2.1
  constructor
  · refine e_ev rfl rfl ?_
    refine e_run 5 rfl trivial ?_
    refine e_calli rfl (sp_partOf (D + 2) M c i 2 (by omega) hi (by omega)) (by decide) ?_
    refine e_run 3 rfl trivial ?_
    refine e_if rfl (fun h15 => ?_) (fun h15 => ?_)
    · refine e_run 4 rfl trivial ?_
      refine e_calli rfl (ev_le (sp_candidatesFor 0 M n c i hn h20 (by omega) hi) (by omega)) (by decide) ?_
      refine e_run 3 rfl trivial ?_
      refine e_if rfl (fun h34 => ?_) (fun h34 => ?_)
      · refine e_run 2 rfl trivial ?_
        refine e_if rfl (fun h48 => ?_) (fun h48 => ?_)
        · refine e_run 6 rfl trivial ?_
          refine e_calli rfl (sp_partOf (D + 2) M c i 0 (by omega) hi (by omega)) (by decide) ?_
          refine e_run 5 rfl trivial ?_
          refine e_calli rfl (sp_partOf (D + 2) M c i 1 (by omega) hi (by omega)) (by decide) ?_
          refine e_run 1 rfl trivial ?_
          refine e_calli rfl ((sp_request hK hD hg M _ _ hV).1) (by decide) ?_
          (refine e_ret rfl trivial ?_ ?_ <;> simp_all [mIn])
        · refine e_run 1 rfl trivial ?_
          refine e_if rfl (fun h53 => ?_) (fun h53 => ?_)
          · refine e_run 6 rfl trivial ?_
            refine e_calli rfl (sp_partOf (D + 2) M c i 0 (by omega) hi (by omega)) (by decide) ?_
            refine e_run 5 rfl trivial ?_
            refine e_calli rfl (sp_partOf (D + 2) M c i 1 (by omega) hi (by omega)) (by decide) ?_
            refine e_run 1 rfl trivial ?_
            refine e_calli rfl ((sp_request hK hD hg M _ _ hV).1) (by decide) ?_
            (refine e_ret rfl trivial ?_ ?_ <;> simp_all [mIn])
          · refine e_run 1 rfl trivial ?_
            (refine e_ret rfl trivial ?_ ?_ <;> simp_all [mIn])
      · refine e_run 3 rfl trivial ?_
        refine e_calli rfl ((sp_obtainEach hK hD hg _ M hV).1) (by decide) ?_
        (refine e_ret rfl trivial ?_ ?_ <;> simp_all [mIn])
    · refine e_run 1 rfl trivial ?_
      (refine e_ret rfl trivial ?_ ?_ <;> simp_all [mIn])
  · unfold mIn
    split
    · exact hV
    · split
      · exact (sp_obtainEach hK hD hg _ M hV).2
      · split
        · exact hV
        · exact (sp_request hK hD hg M _ _ hV).2
theorem dc_up {M : mv_M} {g j : Nat} {f : Nat → Int32} (h : 8 ≠ g) (c : Nat) : dc_ (mv_cp M g j f) c = dc_ M c := by
  unfold dc_
  rw [mv_cp_ne h]
theorem lp_construct {n D g : Nat} {K : mK_} (hK : mKg n D (g + 1) K) (hD : 2 ≤ D) (hg : g < 20) (c p9 : Nat) (pl : Int32) (hc : c < n) (hp : pl = -1 ∨ (pl = nI p9 ∧ p9 < 6)) (k : Nat) (h6 : k ≤ 6) : ∀ (m i : Nat) (M : mv_M) (z : Option mv_V), i + m = k → cv_ M n → er_ (D + 4) 0 kX3_construct (44, [some (mv_R 0 0), some (mv_I (nI c)), some (mv_I pl), some (mv_I (nI g)), some (mv_I (nI k)), some (mv_I (nI i)), z], [], M) (Sum.inl (some (mv_I (if (mDl n K c g m i M).1 = -2 then mDl n K c g m i M else mc_ (mDl n K c g m i M).2 c pl g).1))) (if (mDl n K c g m i M).1 = -2 then mDl n K c g m i M else mc_ (mDl n K c g m i M).2 c pl g).2 ∧ cv_ (mDl n K c g m i M).2 n := by
  intro m
  induction m with
  | zero =>
    intro i M z hi hV
    have h20 := hV.1.2.1
    refine ⟨?_, hV⟩
    have e0 : mDl n K c g 0 i M = (0, M) := rfl
    rw [e0, if_neg (show ¬ (0 : Int32) = -2 by decide)]
    refine e_run 2 rfl trivial ?_
    refine e_if rfl (fun h48 => ?_) (fun h48 => absurd (nI_le (by omega) (by omega)) h48)
    refine e_run 4 rfl trivial ?_
    refine e_calli rfl (ev_le (sp_complete 0 M n c g p9 pl hV (by omega) hg hp) (by omega)) (by decide) ?_
    exact e_ret rfl trivial rfl rfl
  | succ m ih =>
    intro i M z hi hV
    have h20 := hV.1.2.1
    have hin := sp_inject hK hD (by omega) M c i hc (by omega) hV
    have hgl : (nI g).toNatClampNeg = g := nI_clamp (by omega)
    have hil : (nI i).toNatClampNeg = i := nI_clamp (by omega)
    constructor
    · skip
      refine e_run 2 rfl trivial ?_
      try simp only [hgl, hil, nI_1]
      refine e_if rfl (fun h48 => absurd h48 (nI_ge (by omega) (by omega))) (fun h48 => ?_)
      refine e_run 6 rfl trivial ?_
      try simp only [hgl, hil, nI_1]
      refine e_calli rfl (hin.1) (by decide) ?_
      try simp only [hgl, hil, nI_1]
      refine e_run 3 rfl trivial ?_
      try simp only [hgl, hil, nI_1]
      refine e_if rfl (fun h67 => ?_) (fun h67 => ?_)
      · refine e_run 9 rfl ?_ ?_
        · ((try simp only [hgl, hil, nI_1]) <;> and_intros <;> first | trivial | exact in_n (by omega) (by omega) | omega | (unfold vp_in; decide) | (simp only [*]; omega))
        try simp only [hgl, hil, nI_1]
        have e1 : mDl n K c g (m + 1) i M = mDl n K c g m (i + 1) (mv_up (mIn n K c i (g + 1) M).2 18 g i (mIn n K c i (g + 1) M).1) := by simp_all [mDl]
        rw [e1]
        exact (ih (i + 1) _ _ (by omega) (cv_cp hin.2 (by omega))).1
      · refine e_run 1 rfl trivial ?_
        try simp only [hgl, hil, nI_1]
        have e1 : mDl n K c g (m + 1) i M = (-2, (mIn n K c i (g + 1) M).2) := by simp_all [mDl]
        rw [e1]
        (refine e_ret rfl trivial ?_ ?_ <;> simp_all)
    · unfold mDl
      split
      · exact hin.2
      · exact (ih (i + 1) _ none (by omega) (cv_cp hin.2 (by omega))).2
theorem mCo_s (n f c : Nat) (pl : Int32) (g : Nat) (M : mv_M) : mCo n (f + 1) c pl g M = if ¬ g < 20 ∨ uc_ M c g 0 = true then rf_ M 3 (nI c) g
    else if (mDl n (mCo n f) c g (dc_ M c) 0 (mv_up M 4 0 g (nI c))).1 = -2 then mDl n (mCo n f) c g (dc_ M c) 0 (mv_up M 4 0 g (nI c))
    else mc_ (mDl n (mCo n f) c g (dc_ M c) 0 (mv_up M 4 0 g (nI c))).2 c pl g := rfl
theorem sp_construct (n : Nat) : ∀ (f g : Nat), g + f = 20 → mKg n (4 * f + 6) g (mCo n (f + 1)) := by
  intro f
  induction f with
  | zero =>
    intro g hg c p9 pl M hc hV hp
    have hg20 : g = 20 := by omega
    subst hg20
    have e1 : mCo n (0 + 1) c pl 20 M = rf_ M 3 (nI c) 20 := by rw [mCo_s, if_pos (Or.inl (by omega))]
    rw [e1]
    refine ⟨?_, cv_fr hV⟩
    refine e_ev rfl rfl ?_
    refine e_run 2 rfl trivial ?_
    refine e_if rfl (fun h3 => ?_) (fun h3 => absurd (nI_le (a := 20) (b := 20) (by omega) (by omega)) h3)
    refine e_run 4 rfl trivial ?_
    refine e_calli rfl (ev_le (sp_recordFailure 0 M 3 (nI c) 20 (by omega)) (by omega)) (by decide) ?_
    exact e_ret rfl trivial rfl rfl
  | succ f ih =>
    intro g hg c p9 pl M hc hV hp
    have h20 := hV.1.2.1
    have hk := hV.1.2.2 c (by omega)
    have hcl : (nI c).toNatClampNeg = c := nI_clamp (by omega)
    have hgl : (nI g).toNatClampNeg = g := nI_clamp (by omega)
    have hlt : g < 20 := by omega
    have hup : cv_ (mv_up M 4 0 g (nI c)) n := cv_cp hV (by omega)
    have hlp := lp_construct (ih (g + 1) (by omega)) (by omega) hlt c p9 pl hc hp (dc_ M c) hk.2 (dc_ M c) 0 (mv_up M 4 0 g (nI c)) none (by omega) hup
    rw [show 4 * (f + 1) + 6 = (4 * f + 6) + 4 by omega]
    constructor
    · refine e_ev rfl rfl ?_
      refine e_run 2 rfl trivial ?_
      try simp only [hcl, hgl]
      refine e_if rfl (fun h3 => absurd h3 (nI_ge (b := 20) hlt (by omega))) (fun h3 => ?_)
      refine e_run 3 rfl trivial ?_
      try simp only [hcl, hgl]
      refine e_calli rfl (ev_le (sp_isUnderConstruction 0 M c g (by omega)) (by omega)) (by decide) ?_
      try simp only [hcl, hgl]
      refine e_if rfl (fun h12 => ?_) (fun h12 => ?_)
      · refine e_run 13 rfl ?_ ?_
        · exact ⟨⟨in_n (by omega) (by omega), by decide⟩, ⟨in_n (by omega) (by omega), by decide⟩, trivial⟩
        try simp only [hcl, hgl]
        rw [mCo_s, if_neg (by simp_all)]
        exact er_cong (by rw [mv_up_ne (g' := 8) (by omega), hk.1]; rfl) hlp.1
      · refine e_run 4 rfl trivial ?_
        try simp only [hcl, hgl]
        refine e_calli rfl (ev_le (sp_recordFailure 0 M 3 (nI c) g (by omega)) (by omega)) (by decide) ?_
        try simp only [hcl, hgl]
        rw [mCo_s, if_pos (by simp_all)]
        exact e_ret rfl trivial rfl rfl
    · rw [mCo_s]
      split
      · exact cv_fr hV
      · split
        · exact hlp.2
        · exact cv_mc hlp.2 (by omega) hp
