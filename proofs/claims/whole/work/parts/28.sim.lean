/-! THE REFERENCE'S MACHINE OF FRAMES AGAINST THE CLASS'S RECURSION -/
theorem uc_iff (C : mv_M) (c : Nat) : ∀ m i : Nat, uc_ C c m i = true ↔ ∃ k, i ≤ k ∧ k < i + m ∧ C 4 0 k = nI c
  | 0, i => ⟨fun h => (by cases h), fun ⟨k, h1, h2, _⟩ => by omega⟩
  | m + 1, i => by
    unfold uc_
    by_cases h : C 4 0 i = nI c
    · rw [if_pos h]
      exact ⟨fun _ => ⟨i, by omega, by omega, h⟩, fun _ => rfl⟩
    · rw [if_neg h, uc_iff C c m (i + 1)]
      refine ⟨fun ⟨k, h1, h2, h3⟩ => ⟨k, by omega, by omega, h3⟩, fun ⟨k, h1, h2, h3⟩ => ⟨k, ?_, by omega, h3⟩⟩
      by_cases e : k = i
      · exact absurd (e ▸ h3) h
      · omega
theorem ff_iff (M : mv_M) (x : Int32) : ∀ g : Nat, ff_ M x g = true ↔ ∃ k, k < g ∧ M 27 0 k = x
  | 0 => ⟨fun h => (by cases h), fun ⟨k, h, _⟩ => by omega⟩
  | g + 1 => by
    unfold ff_
    rw [Bool.or_eq_true, ff_iff M x g, decide_eq_true_eq]
    refine ⟨fun h => ?_, fun ⟨k, h1, h2⟩ => ?_⟩
    · rcases h with ⟨k, h1, h2⟩ | h
      · exact ⟨k, by omega, h2⟩
      · exact ⟨g, by omega, h⟩
    · by_cases e : k = g
      · exact Or.inr (e ▸ h2)
      · exact Or.inl ⟨k, by omega, h2⟩
/-- at depth g: the class's memory C, the reference's M -/
def rl_ (n g : Nat) (C M : mv_M) : Prop := cv_ C n ∧ dr_ C M n ∧ (∃ t e l : Nat, lr_ C M t e l ∧ kv_ C t) ∧ (M 22 0 10 = nI g ∧ g ≤ 20 ∧ M 22 0 31 = 0) ∧ (∀ i, i < g → M 27 0 i = C 4 0 i) ∧ ∃ u : Int32, cn_ u n + g = n ∧ ∀ c, c < n → ii_ u c = uc_ C c g 0
theorem rl_ff {n g c : Nat} {C M : mv_M} (h : rl_ n g C M) : ff_ M (nI c) g = uc_ C c g 0 := by
  have h5 := h.2.2.2.2.1
  have e : ff_ M (nI c) g = true ↔ uc_ C c g 0 = true := by
    rw [ff_iff, uc_iff]
    refine ⟨fun ⟨k, h1, h2⟩ => ⟨k, by omega, by omega, (h5 k h1).symm.trans h2⟩, fun ⟨k, _, h1, h2⟩ => ⟨k, by omega, (h5 k (by omega)).trans h2⟩⟩
  cases h1 : ff_ M (nI c) g with
  | true => exact (e.mp h1).symm
  | false =>
    cases h2 : uc_ C c g 0 with
    | true => rw [e.mpr h2] at h1; cases h1
    | false => rfl
/-- the descriptions and the scopes are as they were -/
def sd_ (C C' : mv_M) : Prop := C' 0 = C 0 ∧ C' 1 = C 1 ∧ C' 8 = C 8 ∧ C' 19 = C 19 ∧ C' 20 = C 20
theorem sd_refl (C : mv_M) : sd_ C C := ⟨rfl, rfl, rfl, rfl, rfl⟩
theorem sd_trans {C C1 C2 : mv_M} (h : sd_ C C1) (h2 : sd_ C1 C2) : sd_ C C2 := ⟨h2.1.trans h.1, h2.2.1.trans h.2.1, h2.2.2.1.trans h.2.2.1, h2.2.2.2.1.trans h.2.2.2.1, h2.2.2.2.2.trans h.2.2.2.2⟩
/-- what lies below depth g is as it was -/
def st_ (g : Nat) (C M C' M' : mv_M) : Prop := (∀ i, i < g → C' 4 0 i = C 4 0 i) ∧ (∀ j, j < g → C' 18 j = C 18 j) ∧ (∀ c, uc_ C c g 0 = true → ∀ s, C' 21 s c = C 21 s c) ∧ sd_ C C' ∧ (∀ x i, x = 27 ∨ x = 28 ∨ x = 29 ∨ x = 38 ∨ x = 39 ∨ x = 40 → i < g → M' x 0 i = M x 0 i) ∧ ∀ i, i < 6 * g → M' 41 0 i = M 41 0 i
/-- the obtained one is there -/
def ps_ (n g : Nat) (C M : mv_M) (v : Int32) (C' M' : mv_M) : Prop := rl_ n g C' M' ∧ M' 22 0 30 = v ∧ st_ g C M C' M'
/-- it failed -/
def pf_ (n : Nat) (C C' M' : mv_M) : Prop := ∃ (kind det : Int32) (l t e l0 : Nat) (C0 : mv_M), C' = fr_ C0 kind det l ∧ lr_ C0 M' t e l0 ∧ kv_ C0 t ∧ dr_ C0 M' n ∧ cv_ C0 n ∧ ¬ kind = 0 ∧ M' 22 0 31 = kind ∧ M' 22 0 32 = det ∧ M' 22 0 10 = nI l ∧ l ≤ 20 ∧ (∀ i, i < l → M' 27 0 i = C0 4 0 i) ∧ sd_ C C0
def sr_ (n g : Nat) (C M : mv_M) (r : Int32 × mv_M) (M' : mv_M) : Prop := (¬ r.1 = -2 ∧ ps_ n g C M r.1 r.2 M') ∨ (r.1 = -2 ∧ pf_ n C r.2 M')
/-- the loop of make comes from M to M' -/
def rr_ (M M' : mv_M) : Prop := ∀ (z : Option mv_V) (R : mv_O) (M9 : mv_M), er_ 9 0 kX4_make (5, [some (mv_R 22 0), z], [], M') R M9 → er_ 9 0 kX4_make (5, [some (mv_R 22 0), z], [], M) R M9
theorem rr_refl (M : mv_M) : rr_ M M := fun _ _ _ h => h
theorem rr_trans {M M1 M2 : mv_M} (h : rr_ M M1) (h2 : rr_ M1 M2) : rr_ M M2 := fun z R M9 h9 => h z R M9 (h2 z R M9 h9)
theorem rr_step {M M1 : mv_M} {g : Nat} (hg : M 22 0 10 = nI (g + 1)) (h21 : g ≤ 21) (h0 : M 22 0 31 = 0) (h : ev_ 8 kX4_goOn [mv_R 22 0] M (Sum.inl none) M1) : rr_ M M1 := by
  intro z R M9 hz9
  have hgt : ¬ nI (g + 1) ≤ 0 := nI_ge (a := 0) (by omega) (by omega)
  refine e_run 2 rfl trivial ?_
  try simp only [hg, h0]
  refine e_if rfl (fun h9 => absurd h9 hgt) (fun h9 => ?_)
  refine e_run 2 rfl trivial ?_
  try simp only [hg, h0]
  refine e_if rfl (fun h16 => absurd rfl h16) (fun h16 => ?_)
  refine e_run 1 rfl trivial ?_
  try simp only [hg, h0]
  refine e_callv rfl (h) (by decide) ?_
  try simp only [hg, h0]
  refine e_run 1 rfl trivial ?_
  try simp only [hg, h0]
  exact hz9
/-- a construction begins -/
def cs_ (M : mv_M) (g c : Nat) (sc : Int32) : mv_M := mv_up (mv_up (pu_ M g (nI c)) 38 0 g sc) 39 0 g 0
theorem rs_construct_f (d g c : Nat) (M : mv_M) (sc : Int32) (hg : M 22 0 10 = nI g) (h21 : g ≤ 21) (hf : ff_ M (nI c) g = true) : ev_ (d + 1) kX4_construct [mv_R 22 0, mv_I (nI c), mv_I sc] M (Sum.inl none) (mv_up (mv_up M 22 0 31 3) 22 0 32 (nI c)) := by
  refine e_ev rfl rfl ?_
  refine e_run 2 rfl trivial ?_
  refine e_calli rfl (rs_isInFrames d M (nI c) g hg h21) (by decide) ?_
  refine e_if rfl (fun h5 => absurd h5 (by simp [hf])) (fun h5 => ?_)
  refine e_run 3 rfl trivial ?_
  refine e_callv rfl (rs_fail d M 3 (nI c)) (by decide) ?_
  exact e_ret rfl trivial rfl rfl
theorem rs_construct (d g c : Nat) (M : mv_M) (sc : Int32) (hg : M 22 0 10 = nI g) (h21 : g < 21) (hf : ff_ M (nI c) g = false) : ev_ (d + 1) kX4_construct [mv_R 22 0, mv_I (nI c), mv_I sc] M (Sum.inl none) (cs_ M g c sc) := by
  have hp10 : pu_ M g (nI c) 22 0 10 = nI (g + 1) := by simp [pu_, rd_, up_]
  have hcl : (nI g).toNatClampNeg = g := nI_clamp (by omega)
  refine e_ev rfl rfl ?_
  refine e_run 2 rfl trivial ?_
  try simp only [rd_, up_, Nat.reduceEqDiff, reduceIte, and_self, and_true, true_and, and_false, false_and, if_true, if_false, hp10, nI_pred, hcl]
  refine e_calli rfl (rs_isInFrames d M (nI c) g hg (by omega)) (by decide) ?_
  try simp only [rd_, up_, Nat.reduceEqDiff, reduceIte, and_self, and_true, true_and, and_false, false_and, if_true, if_false, hp10, nI_pred, hcl]
  refine e_if rfl (fun h5 => ?_) (fun h5 => absurd (by simp [hf]) h5)
  refine e_run 2 rfl trivial ?_
  try simp only [rd_, up_, Nat.reduceEqDiff, reduceIte, and_self, and_true, true_and, and_false, false_and, if_true, if_false, hp10, nI_pred, hcl]
  refine e_callv rfl (rs_push d M (nI c) g hg h21) (by decide) ?_
  try simp only [rd_, up_, Nat.reduceEqDiff, reduceIte, and_self, and_true, true_and, and_false, false_and, if_true, if_false, hp10, nI_pred, hcl]
  refine e_run 16 rfl ?_ ?_
  · ((try simp only [rd_, up_, Nat.reduceEqDiff, reduceIte, and_self, and_true, true_and, and_false, false_and, if_true, if_false, hp10, nI_pred, hcl]) <;> and_intros <;> first | trivial | exact in_n (by omega) (by omega) | omega | (unfold vp_in; decide) | (simp only [*]; omega))
  try simp only [rd_, up_, Nat.reduceEqDiff, reduceIte, and_self, and_true, true_and, and_false, false_and, if_true, if_false, hp10, nI_pred, hcl]
  exact e_ret rfl trivial rfl rfl
/-- a place, and the scope that it comes from -/
def pq_ (C : mv_M) (pl sc : Int32) : Prop := (pl = -1 ∧ sc = 1) ∨ (pl = 0 ∧ sc = 0) ∨ ∃ s : Nat, s < 5 ∧ pl = nI (s + 1) ∧ C 0 0 3 = nI (s + 1) ∧ sc = 2
/-- K does at depth g what the reference's loop does -/
def kc_ (n g : Nat) (K : mK_) : Prop := ∀ (c : Nat) (pl sc : Int32) (C M : mv_M), c < n → rl_ n g C M → pq_ C pl sc → (¬ pl = -1 → C 21 pl.toNatClampNeg c = -1) → (uc_ C c g 0 = true → K c pl g C = rf_ C 3 (nI c) g) ∧ (uc_ C c g 0 = false → ∀ x : Int32, ∃ M2, rr_ (cs_ (mv_up M 22 0 30 x) g c sc) M2 ∧ sr_ n g C M (K c pl g C) M2)
/-- the living one of the reference is the kept one -/
theorem ll_kept {C M : mv_M} {t e l c s : Nat} {sc : Int32} (hL : lr_ C M t e l) (hK : kv_ C t) (hc : c < 20) (hs : s < 6) (hp : (s = 0 ∧ sc = 0) ∨ (¬ s = 0 ∧ C 0 0 3 = nI s ∧ sc = 2)) : ll_ M c sc t = C 21 s c := by
  have hiff (i : Nat) (hi : i < t) : il_ M c sc i = true ↔ at_ C i s c := by
    obtain ⟨a1, a2, a3, -⟩ := hL.2.2.2.2.2.2.2 i hi
    have h19 := hL.2.2.2.1.1
    unfold il_ at_
    rw [a1, a2, h19]
    simp only [Bool.and_eq_true, Bool.not_eq_true', decide_eq_false_iff_not, decide_eq_true_eq, Bool.or_eq_true]
    have hz : ∀ s2 : Nat, s2 < 6 → ¬ nI s2 = -1 := fun s2 h2 q => nI_pos (n := s2) (by omega) (by rw [q]; decide)
    rcases hp with ⟨p1, p2⟩ | ⟨p1, p2, p3⟩
    · subst p1
      rw [p2, (pr_dl a3).1.symm]
      exact ⟨fun q => ⟨q.1.1.1, q.1.2, q.1.1.2⟩, fun q => ⟨⟨⟨q.1, q.2.2⟩, q.2.1⟩, Or.inl rfl⟩⟩
    · rw [p3, p2]
      have h20 : ¬ (2 : Int32) = 0 := by decide
      rcases a3 with ⟨q1, q2⟩ | ⟨q1, q2⟩ | ⟨s2, q1, q2, q3, q4⟩
      · rw [q1, q2]
        exact ⟨fun q => absurd q.1.2 (by decide), fun q => absurd q.2.1.symm (hz s hs)⟩
      · rw [q1, q2]
        exact ⟨fun q => absurd q.1.2 (by decide), fun q => absurd (nI_inj (a := 0) (by omega) (by omega) q.2.1) (fun r => p1 r.symm)⟩
      · rw [q1, q3, q4]
        exact ⟨fun q => ⟨q.1.1.1, q.2.resolve_left h20, q.1.1.2⟩, fun q => ⟨⟨⟨q.1, q.2.2⟩, rfl⟩, Or.inr q.2.1⟩⟩
  rcases hK s c hs hc with ⟨k1, k2⟩ | ⟨m, k1, k2, k3, k4⟩
  · rw [k1]
    refine ll_none t (fun i hi => ?_)
    cases h : il_ M c sc i with
    | true => exact absurd ((hiff i hi).mp h) (k2 i hi)
    | false => rfl
  · rw [k2]
    exact ll_one ((hiff m k1).mpr k3) t k1 (fun i hi h => k4 i hi ((hiff i hi).mp h))
