/-! THE CLASS'S CONSTRUCTIONS -/
theorem mv_Ev_d : ∀ (n d b k : Nat) (s : mv_S) (Φ : mv_O → mv_M → Prop), mv_Ev n d b k s Φ → mv_Ev n (d + 1) b k s Φ := by
  intro n
  induction n with
  | zero => intro d b k s Φ h; exact h.elim
  | succ n ih =>
    intro d b k s Φ h
    unfold mv_Ev at h ⊢
    revert h
    cases hact : mv_act k s with
    | none => exact fun h => h
    | some act =>
      rcases act with ⟨P, s1⟩ | bs | ⟨k', as, rest, nx⟩ | ⟨P, v⟩ | E
      · exact fun h => ⟨h.1, ih _ _ _ _ _ h.2⟩
      · exact fun h x hx hx1 => ih _ _ _ _ _ (h x hx hx1)
      · rintro ⟨h1, h2, d', h3, Ψ, h4, h5⟩
        subst h3
        refine ⟨h1, h2, d' + 1, rfl, Ψ, ih _ _ _ _ _ h4, fun o M' ho => ?_⟩
        have h6 := h5 o M' ho
        rcases o with v | E
        · exact ih _ _ _ _ _ h6
        · revert h6
          show (match mv_hnd k s.1 E with
            | some (p, i) => mv_Ev n (d' + 1) (b - mv_mc k') k (p, s.2.1.set i none, [], M') Φ
            | none => mv_nh k = true ∧ Φ (Sum.inr E) M') → (match mv_hnd k s.1 E with
            | some (p, i) => mv_Ev n (d' + 1 + 1) (b - mv_mc k') k (p, s.2.1.set i none, [], M') Φ
            | none => mv_nh k = true ∧ Φ (Sum.inr E) M')
          cases mv_hnd k s.1 E with
          | none => exact fun h => h
          | some pi => exact fun h => ih _ _ _ _ _ h
      · exact fun h => h
      · exact fun h => h
theorem er_le {d d' b k : Nat} {s : mv_S} {o : mv_O} {M' : mv_M} (h : er_ d b k s o M') (hd : d ≤ d') : er_ d' b k s o M' := by
  obtain ⟨n, hn⟩ := h
  refine ⟨n, ?_⟩
  induction hd with
  | refl => exact hn
  | step _ ih => exact mv_Ev_d _ _ _ _ _ _ ih
theorem ev_le {d d' k : Nat} {as : List mv_V} {M : mv_M} {o : mv_O} {M' : mv_M} (h : ev_ d k as M o M') (hd : d ≤ d') : ev_ d' k as M o M' := ⟨h.1, er_le h.2 hd⟩
/-- a failure is recorded -/
def rf_ (M : mv_M) (kind det : Int32) (l : Nat) : Int32 × mv_M := (-2, fr_ M kind det l)
theorem sp_recordFailure (d : Nat) (M : mv_M) (kind det : Int32) (l : Nat) (hl : l ≤ 20) : ev_ (d + 1) kX3_recordFailure [mv_R 0 0, mv_I kind, mv_I det, mv_I (nI l)] M (Sum.inl (some (mv_I (rf_ M kind det l).1))) (rf_ M kind det l).2 := by
  refine e_ev rfl rfl ?_
  refine e_run 7 rfl trivial ?_
  refine e_callv rfl (sp_remember d M kind det l hl) (by decide) ?_
  refine e_run 1 rfl trivial ?_
  exact e_ret rfl trivial rfl rfl
/-- under construction already -/
def uc_ (M : mv_M) (c : Nat) : Nat → Nat → Bool
  | 0, _ => false
  | m + 1, i => if M 4 0 i = nI c then true else uc_ M c m (i + 1)
theorem lp_isUnderConstruction (d : Nat) (M : mv_M) (c g : Nat) (hg : g ≤ 20) : ∀ m i : Nat, i + m = g → er_ d 0 kX3_isUnderConstruction (2, [some (mv_R 0 0), some (mv_I (nI c)), some (mv_I (nI g)), some (mv_I (nI i))], [], M) (Sum.inl (some (mv_I (if uc_ M c m i = true then 1 else 0)))) M := by
  intro m
  induction m with
  | zero =>
    intro i h1
    refine e_run 2 rfl trivial ?_
    refine e_if rfl (fun h4 => ?_) (fun h4 => absurd (nI_le (by omega) (by omega)) h4)
    refine e_run 1 rfl trivial ?_
    exact e_ret rfl (Or.inl rfl) rfl rfl
  | succ m ih =>
    intro i h1
    have hcl : (nI i).toNatClampNeg = i := nI_clamp (by omega)
    refine e_run 2 rfl trivial ?_
    try simp only [hcl]
    refine e_if rfl (fun h4 => absurd h4 (nI_ge (by omega) (by omega))) (fun h4 => ?_)
    refine e_run 5 rfl ?_ ?_
    · ((try simp only [hcl]) <;> and_intros <;> first | trivial | exact in_n (by omega) (by omega) | omega | (unfold vp_in; decide) | (simp only [*]; omega))
    try simp only [hcl]
    refine e_if rfl (fun h14 => ?_) (fun h14 => ?_)
    · refine e_run 2 rfl trivial ?_
      try simp only [hcl]
      rw [show uc_ M c (m + 1) i = uc_ M c m (i + 1) by simp_all [uc_]]
      exact er_cong (by rw [nI_1]) (ih (i + 1) (by omega))
    · refine e_run 1 rfl trivial ?_
      try simp only [hcl]
      (refine e_ret rfl (Or.inr rfl) ?_ rfl <;> simp_all [uc_])
theorem sp_isUnderConstruction (d : Nat) (M : mv_M) (c g : Nat) (hg : g ≤ 20) : ev_ d kX3_isUnderConstruction [mv_R 0 0, mv_I (nI c), mv_I (nI g)] M (Sum.inl (some (mv_I (if uc_ M c g 0 = true then 1 else 0)))) M := by
  refine e_ev rfl rfl ?_
  refine e_run 2 rfl trivial ?_
  exact lp_isUnderConstruction d M c g hg g 0 (by omega)
/-- what the class's constructions rest on: n components -/
def cv_ (M : mv_M) (n : Nat) : Prop := ci_ M n ∧ (∃ t e : Nat, li_ M t e) ∧ (∃ o : Nat, M 0 0 3 = nI o ∧ o ≤ 5) ∧ ∀ c, c < 20 → M 19 c 1 = 0 ∨ M 19 c 1 = 1 ∨ M 19 c 1 = 2
def mc_ (M : mv_M) (c : Nat) (pl : Int32) (g : Nat) : Int32 × mv_M :=
  if ¬ M 2 0 5 < 300 then rf_ M 5 (nI c) (g + 1)
  else if ¬ M 19 c 6 = -1 ∧ ¬ M 15 0 c < M 19 c 6 then rf_ M 6 (nI c) (g + 1)
  else (M 2 0 5, ia_ M (M 2 0 5).toNatClampNeg (M 2 0 9).toNatClampNeg c pl g (dc_ M c))
theorem sp_complete (d : Nat) (M : mv_M) (n c g p9 : Nat) (pl : Int32) (hV : cv_ M n) (hc : c < 20) (hg : g < 20) (hp : pl = -1 ∨ (pl = nI p9 ∧ p9 < 6)) : ev_ (d + 2) kX3_complete [mv_R 0 0, mv_I (nI c), mv_I pl, mv_I (nI g)] M (Sum.inl (some (mv_I (mc_ M c pl g).1))) (mc_ M c pl g).2 := by
  obtain ⟨⟨hn, h20, hk⟩, ⟨t, e, hL⟩, -, -⟩ := hV
  have hcl : (nI c).toNatClampNeg = c := nI_clamp (by omega)
  have hgl : (nI g).toNatClampNeg = g := nI_clamp (by omega)
  have ht := hL.1
  have ht3 := hL.2.1
  have he := hL.2.2.1
  have h4 := hL.2.2.2.1
  have htl : (nI t).toNatClampNeg = t := nI_clamp (by omega)
  have hel : (nI e).toNatClampNeg = e := nI_clamp (by omega)
  refine e_ev rfl rfl ?_
  refine e_run 4 rfl trivial ?_
  try simp only [ht, hcl, hgl, cl_0, cl_1, cl_2, cl_3, cl_4, cl_5, cl_6, nI_1, (hk c hc).1]
  refine e_if rfl (fun h10 => ?_) (fun h10 => ?_)
  · refine e_run 10 rfl ?_ ?_
    · ((try simp only [ht, hcl, hgl, cl_0, cl_1, cl_2, cl_3, cl_4, cl_5, cl_6, nI_1, (hk c hc).1]) <;> and_intros <;> first | trivial | exact in_n (by omega) (by omega) | omega | (unfold vp_in; decide) | (simp only [*]; omega))
    try simp only [ht, hcl, hgl, cl_0, cl_1, cl_2, cl_3, cl_4, cl_5, cl_6, nI_1, (hk c hc).1]
    refine e_if rfl (fun h40 => ?_) (fun h40 => ?_)
    · refine e_run 13 rfl ?_ ?_
      · ((try simp only [ht, hcl, hgl, cl_0, cl_1, cl_2, cl_3, cl_4, cl_5, cl_6, nI_1, (hk c hc).1]) <;> and_intros <;> first | trivial | exact in_n (by omega) (by omega) | omega | (unfold vp_in; decide) | (simp only [*]; omega))
      try simp only [ht, hcl, hgl, cl_0, cl_1, cl_2, cl_3, cl_4, cl_5, cl_6, nI_1, (hk c hc).1]
      refine e_calli rfl (sp_append2 d M t e c g (dc_ M c) p9 pl ht ((nI_ltI (by omega) (by omega)).mp h10) he (by have := (nI_ltI (a := t) (b := 300) (by omega) (by omega)).mp h10; omega) hc hg (hk c hc).2 hp) (by decide) ?_
      try simp only [ht, hcl, hgl, cl_0, cl_1, cl_2, cl_3, cl_4, cl_5, cl_6, nI_1, (hk c hc).1]
      (refine e_ret rfl trivial ?_ ?_ <;> simp_all [mc_, rf_])
    · refine e_run 6 rfl ?_ ?_
      · ((try simp only [ht, hcl, hgl, cl_0, cl_1, cl_2, cl_3, cl_4, cl_5, cl_6, nI_1, (hk c hc).1]) <;> and_intros <;> first | trivial | exact in_n (by omega) (by omega) | omega | (unfold vp_in; decide) | (simp only [*]; omega))
      try simp only [ht, hcl, hgl, cl_0, cl_1, cl_2, cl_3, cl_4, cl_5, cl_6, nI_1, (hk c hc).1]
      refine e_if rfl (fun h54 => ?_) (fun h54 => ?_)
      · refine e_run 13 rfl ?_ ?_
        · ((try simp only [ht, hcl, hgl, cl_0, cl_1, cl_2, cl_3, cl_4, cl_5, cl_6, nI_1, (hk c hc).1]) <;> and_intros <;> first | trivial | exact in_n (by omega) (by omega) | omega | (unfold vp_in; decide) | (simp only [*]; omega))
        try simp only [ht, hcl, hgl, cl_0, cl_1, cl_2, cl_3, cl_4, cl_5, cl_6, nI_1, (hk c hc).1]
        refine e_calli rfl (sp_append2 d M t e c g (dc_ M c) p9 pl ht ((nI_ltI (by omega) (by omega)).mp h10) he (by have := (nI_ltI (a := t) (b := 300) (by omega) (by omega)).mp h10; omega) hc hg (hk c hc).2 hp) (by decide) ?_
        try simp only [ht, hcl, hgl, cl_0, cl_1, cl_2, cl_3, cl_4, cl_5, cl_6, nI_1, (hk c hc).1]
        (refine e_ret rfl trivial ?_ ?_ <;> simp_all [mc_, rf_])
      · refine e_run 6 rfl trivial ?_
        try simp only [ht, hcl, hgl, cl_0, cl_1, cl_2, cl_3, cl_4, cl_5, cl_6, nI_1, (hk c hc).1]
        refine e_calli rfl (sp_recordFailure d M 6 (nI c) (g + 1) (by omega)) (by decide) ?_
        try simp only [ht, hcl, hgl, cl_0, cl_1, cl_2, cl_3, cl_4, cl_5, cl_6, nI_1, (hk c hc).1]
        (refine e_ret rfl trivial ?_ ?_ <;> simp_all [mc_, rf_])
  · refine e_run 6 rfl trivial ?_
    try simp only [ht, hcl, hgl, cl_0, cl_1, cl_2, cl_3, cl_4, cl_5, cl_6, nI_1, (hk c hc).1]
    refine e_calli rfl (sp_recordFailure d M 5 (nI c) (g + 1) (by omega)) (by decide) ?_
    try simp only [ht, hcl, hgl, cl_0, cl_1, cl_2, cl_3, cl_4, cl_5, cl_6, nI_1, (hk c hc).1]
    (refine e_ret rfl trivial ?_ ?_ <;> simp_all [mc_, rf_])
