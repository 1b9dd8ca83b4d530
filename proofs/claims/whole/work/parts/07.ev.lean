/-! RUNS OF THE MINI-MACHINE, WITH ONE END -/
theorem mv_Ev_mono : ∀ (n d b k : Nat) (s : mv_S) (Φ : mv_O → mv_M → Prop), mv_Ev n d b k s Φ → mv_Ev (n + 1) d b k s Φ := by
  intro n
  induction n with
  | zero => intro d b k s Φ h; exact h.elim
  | succ n ih =>
    intro d b k s Φ h
    unfold mv_Ev at h ⊢
    revert h
    cases hact : mv_act k s with
    | none => exact fun h => h
    | some act =>
      rcases act with ⟨P, s1⟩ | bs | ⟨k', as, rest, nx⟩ | ⟨P, v⟩ | E
      · exact fun h => ⟨h.1, ih _ _ _ _ _ h.2⟩
      · exact fun h x hx hx1 => ih _ _ _ _ _ (h x hx hx1)
      · rintro ⟨h1, h2, d', h3, Ψ, h4, h5⟩
        refine ⟨h1, h2, d', h3, Ψ, ih _ _ _ _ _ h4, fun o M' ho => ?_⟩
        have h6 := h5 o M' ho
        rcases o with v | E
        · exact ih _ _ _ _ _ h6
        · revert h6
          show (match mv_hnd k s.1 E with
            | some (p, i) => mv_Ev n d (b - mv_mc k') k (p, s.2.1.set i none, [], M') Φ
            | none => mv_nh k = true ∧ Φ (Sum.inr E) M') → (match mv_hnd k s.1 E with
            | some (p, i) => mv_Ev (n + 1) d (b - mv_mc k') k (p, s.2.1.set i none, [], M') Φ
            | none => mv_nh k = true ∧ Φ (Sum.inr E) M')
          cases mv_hnd k s.1 E with
          | none => exact fun h => h
          | some pi => exact fun h => ih _ _ _ _ _ h
      · exact fun h => h
      · exact fun h => h
theorem mv_Ev_le {n n' d b k : Nat} {s : mv_S} {Φ : mv_O → mv_M → Prop} (h : mv_Ev n d b k s Φ) (hn : n ≤ n') : mv_Ev n' d b k s Φ := by
  induction hn with
  | refl => exact h
  | step _ ih => exact mv_Ev_mono _ _ _ _ _ _ ih
/-- from s in method k, at most d calls deep and b cells to spare, the run ends as o with memory M' -/
def er_ (d b k : Nat) (s : mv_S) (o : mv_O) (M' : mv_M) : Prop := ∃ n : Nat, mv_Ev n d b k s (fun o1 M1 => o1 = o ∧ M1 = M')
/-- a whole call of k -/
def ev_ (d k : Nat) (as : List mv_V) (M : mv_M) (o : mv_O) (M' : mv_M) : Prop := mv_ag k as = true ∧ er_ d (mv_mc k) k (0, mv_ent k as, [], M) o M'
section MVE
variable {d b k : Nat} {s s1 s2 : mv_S} {o : mv_O} {M M' : mv_M}
theorem er_step {P : Option Prop} (h : mv_act k s = some (Sum.inl (P, s1))) (hP : mv_pp P) (he : er_ d b k s1 o M') : er_ d b k s o M' := by
  obtain ⟨n, hn⟩ := he
  refine ⟨n + 1, ?_⟩
  unfold mv_Ev
  rw [h]
  exact ⟨hP, hn⟩
theorem er_if {P Q : Prop} (h : mv_act k s = some (Sum.inr (Sum.inl [(P, s1), (Q, s2)]))) (h1 : P → er_ d b k s1 o M') (h2 : Q → er_ d b k s2 o M') : er_ d b k s o M' := by
  have e1 : ∃ n, P → mv_Ev n d b k s1 (fun o1 M1 => o1 = o ∧ M1 = M') := by
    by_cases hP : P
    · obtain ⟨n, hn⟩ := h1 hP
      exact ⟨n, fun _ => hn⟩
    · exact ⟨0, fun q => absurd q hP⟩
  have e2 : ∃ n, Q → mv_Ev n d b k s2 (fun o1 M1 => o1 = o ∧ M1 = M') := by
    by_cases hQ : Q
    · obtain ⟨n, hn⟩ := h2 hQ
      exact ⟨n, fun _ => hn⟩
    · exact ⟨0, fun q => absurd q hQ⟩
  obtain ⟨n1, g1⟩ := e1
  obtain ⟨n2, g2⟩ := e2
  refine ⟨n1 + n2 + 1, ?_⟩
  unfold mv_Ev
  rw [h]
  intro x hx hx1
  simp only [List.mem_cons, List.not_mem_nil, or_false] at hx
  rcases hx with rfl | rfl
  · exact mv_Ev_le (g1 hx1) (by omega)
  · exact mv_Ev_le (g2 hx1) (by omega)
theorem er_brs {bs : List (Prop × mv_S)} (h : mv_act k s = some (Sum.inr (Sum.inl bs))) (h1 : ∀ x ∈ bs, x.1 → er_ d b k x.2 o M') : er_ d b k s o M' := by
  have key : ∀ bs : List (Prop × mv_S), (∀ x ∈ bs, x.1 → er_ d b k x.2 o M') → ∃ n, ∀ x ∈ bs, x.1 → mv_Ev n d b k x.2 (fun o1 M1 => o1 = o ∧ M1 = M') := by
    intro bs
    induction bs with
    | nil => intro _; exact ⟨0, fun x hx => by cases hx⟩
    | cons a t ih =>
      intro hb
      obtain ⟨n1, g1⟩ := ih (fun x hx => hb x (List.mem_cons_of_mem _ hx))
      by_cases ha : a.1
      · obtain ⟨n2, g2⟩ := hb a List.mem_cons_self ha
        refine ⟨n1 + n2, fun x hx hx1 => ?_⟩
        rcases List.mem_cons.mp hx with rfl | hx
        · exact mv_Ev_le g2 (by omega)
        · exact mv_Ev_le (g1 x hx hx1) (by omega)
      · refine ⟨n1, fun x hx hx1 => ?_⟩
        rcases List.mem_cons.mp hx with rfl | hx
        · exact absurd hx1 ha
        · exact g1 x hx hx1
  obtain ⟨n, g⟩ := key bs h1
  refine ⟨n + 1, ?_⟩
  unfold mv_Ev
  rw [h]
  exact g
theorem er_call {k' nx : Nat} {as rest : List mv_V} {v : Option mv_V} {M1 : mv_M} (h : mv_act k s = some (Sum.inr (Sum.inr (Sum.inl (k', as, rest, nx))))) (hb : mv_mc k' ≤ b) (hc : ev_ d k' as s.2.2.2 (Sum.inl v) M1) (he : er_ (d + 1) (b - mv_mc k') k (nx, s.2.1, v.toList ++ rest, M1) o M') : er_ (d + 1) b k s o M' := by
  obtain ⟨hag, n1, hn1⟩ := hc
  obtain ⟨n2, hn2⟩ := he
  refine ⟨n1 + n2 + 1, ?_⟩
  unfold mv_Ev
  rw [h]
  refine ⟨hag, hb, d, rfl, _, mv_Ev_le hn1 (by omega), ?_⟩
  rintro o1 M2 ⟨rfl, rfl⟩
  exact mv_Ev_le hn2 (by omega)
theorem er_callx {k' nx : Nat} {as rest : List mv_V} {E : Nat} {M1 : mv_M} (h : mv_act k s = some (Sum.inr (Sum.inr (Sum.inl (k', as, rest, nx))))) (hb : mv_mc k' ≤ b) (hc : ev_ d k' as s.2.2.2 (Sum.inr E) M1) (hh : mv_hnd k s.1 E = none) (hn : mv_nh k = true) : er_ (d + 1) b k s (Sum.inr E) M1 := by
  obtain ⟨hag, n1, hn1⟩ := hc
  refine ⟨n1 + 1, ?_⟩
  unfold mv_Ev
  rw [h]
  refine ⟨hag, hb, d, rfl, _, mv_Ev_le hn1 (by omega), ?_⟩
  rintro o1 M2 ⟨rfl, rfl⟩
  show match mv_hnd k s.1 E with
    | some (p, i) => _
    | none => mv_nh k = true ∧ _
  rw [hh]
  exact ⟨hn, rfl, rfl⟩
theorem er_catch {k' nx p i : Nat} {as rest : List mv_V} {E : Nat} {M1 : mv_M} (h : mv_act k s = some (Sum.inr (Sum.inr (Sum.inl (k', as, rest, nx))))) (hb : mv_mc k' ≤ b) (hc : ev_ d k' as s.2.2.2 (Sum.inr E) M1) (hh : mv_hnd k s.1 E = some (p, i)) (he : er_ (d + 1) (b - mv_mc k') k (p, s.2.1.set i none, [], M1) o M') : er_ (d + 1) b k s o M' := by
  obtain ⟨hag, n1, hn1⟩ := hc
  obtain ⟨n2, hn2⟩ := he
  refine ⟨n1 + n2 + 1, ?_⟩
  unfold mv_Ev
  rw [h]
  refine ⟨hag, hb, d, rfl, _, mv_Ev_le hn1 (by omega), ?_⟩
  rintro o1 M2 ⟨rfl, rfl⟩
  show match mv_hnd k s.1 E with
    | some (p, i) => _
    | none => _
  rw [hh]
  exact mv_Ev_le hn2 (by omega)
theorem er_ret {P : Prop} {v : Option mv_V} (h : mv_act k s = some (Sum.inr (Sum.inr (Sum.inr (Sum.inl (P, v)))))) (hP : P) : er_ d b k s (Sum.inl v) s.2.2.2 := by
  refine ⟨1, ?_⟩
  unfold mv_Ev
  rw [h]
  exact ⟨hP, rfl, rfl⟩
theorem er_thr {E : Nat} (h : mv_act k s = some (Sum.inr (Sum.inr (Sum.inr (Sum.inr E))))) (hn : mv_nh k = true) (hb : 1 ≤ b) : er_ d b k s (Sum.inr E) s.2.2.2 := by
  refine ⟨1, ?_⟩
  unfold mv_Ev
  rw [h]
  exact ⟨hn, hb, rfl, rfl⟩
/-- a list, spelt out -/
def mv_fl {α : Type} : mv_L → (mv_L → α) → α
  | [], k => k []
  | a :: l, k => mv_fl l (fun l' => k (a :: l'))
theorem mv_fl_eq {α : Type} : ∀ (l : mv_L) (k : mv_L → α), mv_fl l k = k l
  | [], _ => rfl
  | a :: l, k => mv_fl_eq l (fun l' => k (a :: l'))
def mv_ac (k pc : Nat) (lv : mv_L) (st : List mv_V) (M : mv_M) : mv_A := match mv_look pc (mv_tab k) with
  | some f => f lv st M
  | none => none
theorem mv_ac_eq (k pc : Nat) (lv : mv_L) (st : List mv_V) (M : mv_M) : mv_act k (pc, lv, st, M) = mv_ac k pc lv st M := rfl
/-- j steps at once: what they ask, and where they come -/
def mv_rn : Nat → Nat → Nat → mv_L → List mv_V → mv_M → Option (Prop × mv_S)
  | 0, _, pc, lv, st, M => mv_fl lv (fun lv' => some (True, (pc, lv', st, M)))
  | j + 1, k, pc, lv, st, M => match mv_ac k pc lv st M with
    | some (Sum.inl (none, (pc', lv', st', M'))) => mv_rn j k pc' lv' st' M'
    | some (Sum.inl (some P, (pc', lv', st', M'))) => match mv_rn j k pc' lv' st' M' with
      | some (P', s'') => some (P ∧ P', s'')
      | none => none
    | _ => none
theorem e_run {pc : Nat} {lv : mv_L} {st : List mv_V} {M0 : mv_M} (j : Nat) {P : Prop} (h : mv_rn j k pc lv st M0 = some (P, s1)) (hP : P) (he : er_ d b k s1 o M') : er_ d b k (pc, lv, st, M0) o M' := by
  induction j generalizing pc lv st M0 P with
  | zero =>
    unfold mv_rn at h
    rw [mv_fl_eq] at h
    cases h
    exact he
  | succ j ih =>
    unfold mv_rn at h
    split at h
    · next hs => exact er_step hs trivial (ih h hP)
    · next hs =>
      split at h
      · next h2 =>
        cases h
        exact er_step hs hP.1 (ih h2 hP.2)
      · cases h
    · cases h
theorem e_if {pc : Nat} {lv : mv_L} {st : List mv_V} {M0 : mv_M} {P Q : Prop} (h : mv_ac k pc lv st M0 = some (Sum.inr (Sum.inl [(P, s1), (Q, s2)]))) (h1 : P → er_ d b k s1 o M') (h2 : Q → er_ d b k s2 o M') : er_ d b k (pc, lv, st, M0) o M' := er_if h h1 h2
theorem e_brs {pc : Nat} {lv : mv_L} {st : List mv_V} {M0 : mv_M} {bs : List (Prop × mv_S)} (h : mv_ac k pc lv st M0 = some (Sum.inr (Sum.inl bs))) (h1 : ∀ x ∈ bs, x.1 → er_ d b k x.2 o M') : er_ d b k (pc, lv, st, M0) o M' := er_brs h h1
theorem e_calli {pc : Nat} {lv : mv_L} {st : List mv_V} {M0 : mv_M} {k' nx : Nat} {as rest : List mv_V} {v : mv_V} {M1 : mv_M} (h : mv_ac k pc lv st M0 = some (Sum.inr (Sum.inr (Sum.inl (k', as, rest, nx))))) (hc : ev_ d k' as M0 (Sum.inl (some v)) M1) (hb : mv_mc k' ≤ b) (he : er_ (d + 1) (b - mv_mc k') k (nx, lv, v :: rest, M1) o M') : er_ (d + 1) b k (pc, lv, st, M0) o M' := er_call h hb hc he
theorem e_callv {pc : Nat} {lv : mv_L} {st : List mv_V} {M0 : mv_M} {k' nx : Nat} {as rest : List mv_V} {M1 : mv_M} (h : mv_ac k pc lv st M0 = some (Sum.inr (Sum.inr (Sum.inl (k', as, rest, nx))))) (hc : ev_ d k' as M0 (Sum.inl none) M1) (hb : mv_mc k' ≤ b) (he : er_ (d + 1) (b - mv_mc k') k (nx, lv, rest, M1) o M') : er_ (d + 1) b k (pc, lv, st, M0) o M' := er_call h hb hc he
theorem e_callx {pc : Nat} {lv : mv_L} {st : List mv_V} {M0 : mv_M} {k' nx : Nat} {as rest : List mv_V} {E : Nat} {M1 : mv_M} (h : mv_ac k pc lv st M0 = some (Sum.inr (Sum.inr (Sum.inl (k', as, rest, nx))))) (hc : ev_ d k' as M0 (Sum.inr E) M1) (hb : mv_mc k' ≤ b) (hh : mv_hnd k pc E = none) (hn : mv_nh k = true) (ho : o = Sum.inr E) (hM : M' = M1) : er_ (d + 1) b k (pc, lv, st, M0) o M' := by
  subst ho
  subst hM
  exact er_callx h hb hc hh hn
theorem e_catch {pc : Nat} {lv : mv_L} {st : List mv_V} {M0 : mv_M} {k' nx p i : Nat} {as rest : List mv_V} {E : Nat} {M1 : mv_M} (h : mv_ac k pc lv st M0 = some (Sum.inr (Sum.inr (Sum.inl (k', as, rest, nx))))) (hc : ev_ d k' as M0 (Sum.inr E) M1) (hb : mv_mc k' ≤ b) (hh : mv_hnd k pc E = some (p, i)) (he : er_ (d + 1) (b - mv_mc k') k (p, lv.set i none, [], M1) o M') : er_ (d + 1) b k (pc, lv, st, M0) o M' := er_catch h hb hc hh he
theorem e_ret {pc : Nat} {lv : mv_L} {st : List mv_V} {M0 : mv_M} {P : Prop} {v : Option mv_V} (h : mv_ac k pc lv st M0 = some (Sum.inr (Sum.inr (Sum.inr (Sum.inl (P, v)))))) (hP : P) (ho : o = Sum.inl v) (hM : M' = M0) : er_ d b k (pc, lv, st, M0) o M' := by
  subst ho
  subst hM
  exact er_ret h hP
theorem e_thr {pc : Nat} {lv : mv_L} {st : List mv_V} {M0 : mv_M} {E : Nat} (h : mv_ac k pc lv st M0 = some (Sum.inr (Sum.inr (Sum.inr (Sum.inr E))))) (hn : mv_nh k = true) (hb : 1 ≤ b) (ho : o = Sum.inr E) (hM : M' = M0) : er_ d b k (pc, lv, st, M0) o M' := by
  subst ho
  subst hM
  exact er_thr h hn hb
/-- a call from its first instruction -/
theorem e_ev {as : List mv_V} {lv : mv_L} (hg : mv_ag k as = true) (hl : mv_ent k as = lv) (he : er_ d (mv_mc k) k (0, lv, [], M) o M') : ev_ d k as M o M' := by
  subst hl
  exact ⟨hg, he⟩
theorem in_n {c n : Nat} (h : c < n) (hn : n < 2 ^ 31) : vp_in (nI c) n := vp_in_nI h hn
theorem in_l {x : Int32} {c n : Nat} (hx : x = nI c) (h : c < n) (hn : n < 2 ^ 31) : vp_in x n := by rw [hx]; exact vp_in_nI h hn
end MVE
