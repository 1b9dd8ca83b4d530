/-! CLASS AND REFERENCE ANSWER ALIKE, METHOD BY METHOD -/
def anw_ (k3 k4 : Nat) (as : List mv_V) (cd : Nat → Int32) (B : Int32 → Prop) (n t e l : Nat) (M : mv_M) : Prop := ∃ (oC : mv_O) (M' : mv_M), ev_ 100 k3 (mv_R 0 0 :: as) M oC M' ∧ ∀ M2 : mv_M, rw_ n t e l M M2 → ∃ (M3 : mv_M) (n' t' e' l' : Nat), rw_ n' t' e' l' M' M3 ∧ ((∃ v : Int32, B v ∧ oC = Sum.inl (some (mv_I v)) ∧ M3 22 0 0 = 0 ∧ ev_ 100 k4 (mv_R 22 0 :: as) M2 (Sum.inl (some (mv_I v))) M3) ∨ ∃ (E : Nat) (w : Int32), oC = Sum.inr E ∧ ¬ cd E = 0 ∧ M3 22 0 0 = cd E ∧ ev_ 100 k4 (mv_R 22 0 :: as) M2 (Sum.inl (some (mv_I w))) M3)
theorem an_ok {k3 k4 : Nat} {as : List mv_V} {cd : Nat → Int32} {B : Int32 → Prop} {n t e l : Nat} {M M' : mv_M} {v : Int32} (h3 : ev_ 100 k3 (mv_R 0 0 :: as) M (Sum.inl (some (mv_I v))) M') (hB : B v) (h4 : ∀ M2 : mv_M, rw_ n t e l M M2 → ∃ (M3 : mv_M) (n' t' e' l' : Nat), rw_ n' t' e' l' M' M3 ∧ M3 22 0 0 = 0 ∧ ev_ 100 k4 (mv_R 22 0 :: as) M2 (Sum.inl (some (mv_I v))) M3) : anw_ k3 k4 as cd B n t e l M := by
  refine ⟨_, M', h3, fun M2 h2 => ?_⟩
  obtain ⟨M3, n', t', e', l', a1, a2, a3⟩ := h4 M2 h2
  exact ⟨M3, n', t', e', l', a1, Or.inl ⟨v, hB, rfl, a2, a3⟩⟩
theorem an_x {k3 k4 : Nat} {as : List mv_V} {cd : Nat → Int32} {B : Int32 → Prop} {n t e l : Nat} {M : mv_M} (E : Nat) (h3 : ev_ 100 k3 (mv_R 0 0 :: as) M (Sum.inr E) M) (hc : ¬ cd E = 0) (h4 : ∀ M2 : mv_M, rw_ n t e l M M2 → ev_ 100 k4 (mv_R 22 0 :: as) M2 (Sum.inl (some (mv_I 0))) (th_ M2 (cd E))) : anw_ k3 k4 as cd B n t e l M := ⟨_, M, h3, fun M2 h2 => ⟨th_ M2 (cd E), n, t, e, l, rw_th h2, Or.inr ⟨E, 0, rfl, hc, rfl, h4 M2 h2⟩⟩⟩
def cA_ (E : Nat) : Int32 := if E = 0 then 1 else if E = 1 then 2 else 0
def cB_ (E : Nat) : Int32 := if E = 2 then 1 else if E = 0 then 2 else 0
def cC_ (E : Nat) : Int32 := if E = 2 then 1 else if E = 0 then 2 else if E = 1 then 3 else 0
def cD_ (E : Nat) : Int32 := if E = 2 then 1 else 0
def cE_ (E : Nat) : Int32 := if E = 0 then 1 else 0
def cF_ (E : Nat) : Int32 := if E = 1 then 1 else 0
def c0_ (_ : Nat) : Int32 := 0
def bA_ (_ : Int32) : Prop := True
def bZ_ (v : Int32) : Prop := v = 0 ∨ v = 1
/-- the static rows' values -/
def sv_ (M : mv_M) : Prop := xs_ M ∧ ∀ p, p < 7 → M 50 0 p = (pb_ p).1 ∧ M 51 0 p = (pb_ p).2
theorem sv_vo {M : mv_M} (h : sv_ M) {p : Nat} (hp : p < 7) (v : Int32) : vo_ M p v = bw_ v (pb_ p).1 (pb_ p).2 := by
  unfold vo_
  rw [(h.2 p hp).1, (h.2 p hp).2]
section ANS
variable {n t e l : Nat} {M : mv_M}
theorem an_add (h : rw_ n t e l M M) (hS : sv_ M) (x s : Int32) : anw_ kX3_add kX4_add [mv_I x, mv_I s] cA_ bA_ n t e l M := by
  have h20 := h.2.1.1.2.1
  have v0 := sv_vo hS (p := 0) (by omega) x
  have v1 := sv_vo hS (p := 1) (by omega) s
  cases hb : bw_ x 1 65535 && bw_ s 0 2 with
  | false => exact an_x 0 (sp_add_i 98 M x s hS.1 (by rw [v0, v1]; exact hb)) (by decide) (fun M2 h2 => rp_add_i 99 M2 x s hb)
  | true =>
    rw [Bool.and_eq_true] at hb
    rcases Nat.lt_or_ge n 20 with q | q
    · exact an_ok (sp_add 98 M n x s hS.1 h.2.1.1.1 q (v0.trans hb.1) (v1.trans hb.2)) trivial (fun M2 h2 => ⟨_, n + 1, t, e, l, rw_add h2 q hb.2, by unfold ra_ th_; rw [up_x, if_neg (by omega), mv_up_ne (by omega), mv_up_ne (by omega), mv_up_ne (by omega), mv_up_ne (by omega), mv_up_ne (by omega), up_x, if_pos ⟨rfl, rfl⟩], rp_add 99 n M2 x s h2.2.1.2.1 q hb.1 hb.2⟩)
    · have hn : n = 20 := by omega
      subst hn
      exact an_x 1 (sp_add_s 98 M 20 x s hS.1 h.2.1.1.1 q (by omega) (v0.trans hb.1) (v1.trans hb.2)) (by decide) (fun M2 h2 => rp_add_s 99 M2 x s h2.2.1.2.1 hb.1 hb.2)
theorem an_set (h : rw_ n t e l M M) (hS : sv_ M) (x p v : Int32) : anw_ kX3_set kX4_set [mv_I x, mv_I p, mv_I v] cB_ bA_ n t e l M := by
  have h20 := h.2.1.1.2.1
  have hn := h.2.1.1.1
  cases hx : cm_ n x with
  | false => exact an_x 2 (sp_set_x 98 M n x p v hn (cm_f hx)) (by decide) (fun M2 h2 => rp_set_x 98 n x p v h2.2.1 hx)
  | true =>
    obtain ⟨c, hc, rfl⟩ := cm_t (by omega) hx
    cases hp : bw_ p 0 6 with
    | false => exact an_x 0 (sp_set_i 98 M n c p v hn h20 hc hp) (by decide) (fun M2 h2 => rp_set_i 98 n c p v h2.2.1 hc hp)
    | true =>
      obtain ⟨q, hq, rfl⟩ := bw_nI (m := 6) (by omega) hp
      have hvo := sv_vo hS (p := q) (by omega) v
      cases hv : bw_ v (pb_ q).1 (pb_ q).2 with
      | false => exact an_x 0 (sp_set_v 98 M n c q v hS.1 hn h20 hc (by omega) hp (hvo.trans hv)) (by decide) (fun M2 h2 => rp_set_v 98 n c q v h2.2.1 hc (by omega) hp hv)
      | true => exact an_ok (sp_set 98 M n c q v hS.1 hn h20 hc (by omega) hp (hvo.trans hv)) trivial (fun M2 h2 => ⟨_, n, t, e, l, rw_set h2 hc (by omega) hv, rfl, rp_set 98 n c q v h2.2.1 hc (by omega) hp hv⟩)
theorem an_property (h : rw_ n t e l M M) (x p : Int32) : anw_ kX3_property kX4_property [mv_I x, mv_I p] cB_ bA_ n t e l M := by
  have h20 := h.2.1.1.2.1
  have hn := h.2.1.1.1
  cases hx : cm_ n x with
  | false => exact an_x 2 (sp_property_x 98 M n x p hn (cm_f hx)) (by decide) (fun M2 h2 => rp_property_x 98 n x p h2.2.1 hx)
  | true =>
    obtain ⟨c, hc, rfl⟩ := cm_t (by omega) hx
    cases hp : bw_ p 0 6 with
    | false => exact an_x 0 (sp_property_i 98 M n c p hn h20 hc hp) (by decide) (fun M2 h2 => rp_property_i 98 n c p h2.2.1 hc hp)
    | true =>
      obtain ⟨q, hq, rfl⟩ := bw_nI (m := 6) (by omega) hp
      exact an_ok (sp_property 98 M n c q hn h20 hc (by omega) hp) trivial (fun M2 h2 => ⟨_, n, t, e, l, rw_th h2, rfl, rp_property 98 n c q h2.2.1 hc (by omega) hp⟩)
theorem an_depend (h : rw_ n t e l M M) (x ty q m : Int32) : anw_ kX3_depend kX4_depend [mv_I x, mv_I ty, mv_I q, mv_I m] cC_ bA_ n t e l M := by
  have h20 := h.2.1.1.2.1
  have hn := h.2.1.1.1
  cases hx : cm_ n x with
  | false => exact an_x 2 (sp_depend_x 98 M n x ty q m hn (cm_f hx)) (by decide) (fun M2 h2 => rp_depend_x 98 n x ty q m h2.2.1 hx)
  | true =>
    obtain ⟨c, hc, rfl⟩ := cm_t (by omega) hx
    obtain ⟨hk, hk6⟩ := h.2.1.1.2.2 c (by omega)
    cases ht : tq_ ty q with
    | false => exact an_x 0 (sp_depend_i 98 M n c ty q m hn h20 hc ht) (by decide) (fun M2 h2 => rp_depend_i 98 n c ty q m h2.2.1 hc (by rw [ht]; rfl))
    | true =>
      cases hm : bw_ m 0 3 with
      | false => exact an_x 0 (sp_depend_m 98 M n c ty q m hn h20 hc ht hm) (by decide) (fun M2 h2 => rp_depend_i 98 n c ty q m h2.2.1 hc (by rw [hm, Bool.and_false]))
      | true =>
        rcases Nat.lt_or_ge (dc_ M c) 6 with g | g
        · exact an_ok (sp_depend 98 M n c (dc_ M c) ty q m hn h20 hc ht hm hk g) trivial (fun M2 h2 => ⟨_, n, t, e, l, rw_depend h2 hc hk g, by unfold rd4_ th_; rw [mv_up_ne (by omega), mv_up_ne (by omega), mv_up_ne (by omega), mv_up_ne (by omega), up_x, if_pos ⟨rfl, rfl⟩], rp_depend 98 n c (dc_ M c) ty q m h2.2.1 hc ht hm hk g⟩)
        · have h6 : dc_ M c = 6 := by omega
          rw [h6] at hk
          exact an_x 1 (sp_depend_s 98 M n c 6 ty q m hn h20 hc ht hm hk (by omega) (by omega)) (by decide) (fun M2 h2 => rp_depend_s 98 n c ty q m h2.2.1 hc ht hm hk)
theorem an_clear (h : rw_ n t e l M M) (x : Int32) : anw_ kX3_clear kX4_clear [mv_I x] cD_ bA_ n t e l M := by
  have h20 := h.2.1.1.2.1
  have hn := h.2.1.1.1
  cases hx : cm_ n x with
  | false => exact an_x 2 (sp_clear_x 98 M n x hn (cm_f hx)) (by decide) (fun M2 h2 => rp_clear_x 98 n x h2.2.1 hx)
  | true =>
    obtain ⟨c, hc, rfl⟩ := cm_t (by omega) hx
    exact an_ok (sp_clear 98 M n c hn h20 hc) trivial (fun M2 h2 => ⟨_, n, t, e, l, rw_clear h2 hc, by unfold th_; rw [mv_up_ne (by omega), up_x, if_pos ⟨rfl, rfl⟩], rp_clear 98 n c h2.2.1 hc⟩)
theorem an_dependency (h : rw_ n t e l M M) (x i p : Int32) : anw_ kX3_dependency kX4_dependency [mv_I x, mv_I i, mv_I p] cB_ bA_ n t e l M := by
  have h20 := h.2.1.1.2.1
  have hn := h.2.1.1.1
  cases hx : cm_ n x with
  | false => exact an_x 2 (sp_dependency_x 98 M n x i p hn (cm_f hx)) (by decide) (fun M2 h2 => rp_dependency_x 98 n x i p h2.2.1 hx)
  | true =>
    obtain ⟨c, hc, rfl⟩ := cm_t (by omega) hx
    obtain ⟨hk, hk6⟩ := h.2.1.1.2.2 c (by omega)
    cases hp : bw_ p 0 2 with
    | false => exact an_x 0 (sp_dependency_i 98 M n c i p hn h20 hc hp) (by decide) (fun M2 h2 => rp_dependency_i 98 n c i p h2.2.1 hc hp)
    | true =>
      obtain ⟨q, hq, rfl⟩ := bw_nI (m := 2) (by omega) hp
      exact an_ok (sp_dependency 98 M n c (dc_ M c) q i hn h20 hc hk hk6 (by omega) hp) trivial (fun M2 h2 => ⟨_, n, t, e, l, rw_th h2, rfl, rp_dependency 98 n c q i h2.2.1 hc (by omega) hp⟩)
theorem an_profile (h : rw_ n t e l M M) (p on : Int32) : anw_ kX3_profile kX4_profile [mv_I p, mv_I on] cE_ bZ_ n t e l M := by
  cases hp : bw_ p 0 7 with
  | false => exact an_x 0 (sp_profile_i 98 M p on hp) (by decide) (fun M2 h2 => rp_profile_i 99 M2 p on hp)
  | true =>
    obtain ⟨q, hq, rfl⟩ := bw_nI (m := 7) (by omega) hp
    exact an_ok (sp_profile 98 M q on hp) (fz_ _) (fun M2 h2 => ⟨_, n, t, e, l, rw_profile h2, rfl, rp_profile 99 q n on h2.2.1 hp⟩)
theorem an_components (h : rw_ n t e l M M) : anw_ kX3_components kX4_components [] c0_ bA_ n t e l M := by
  refine an_ok (sp_components 100 M) trivial (fun M2 h2 => ⟨_, n, t, e, l, rw_th (k := 0) h2, rfl, ?_⟩)
  rw [h2.2.1.1.1, ← h2.2.1.2.1]
  exact rp_components 100 M2
theorem an_candidates (h : rw_ n t e l M M) (ty q : Int32) : anw_ kX3_candidates kX4_candidates [mv_I ty, mv_I q] cE_ bA_ n t e l M := by
  have h20 := h.2.1.1.2.1
  have hn := h.2.1.1.1
  cases ht : tq_ ty q with
  | false => exact an_x 0 (sp_candidates_i 98 M ty q ht) (by decide) (fun M2 h2 => rp_candidates_i 98 M2 ty q ht)
  | true => exact an_ok (sp_candidates 98 M n ty q hn h20 ht) trivial (fun M2 h2 => ⟨_, n, t, e, l, rw_th h2, rfl, rp_candidates 97 n ty q h2.2.1 ht⟩)
theorem an_chosen (h : rw_ n t e l M M) (ty q : Int32) : anw_ kX3_chosen kX4_chosen [mv_I ty, mv_I q] cE_ bA_ n t e l M := by
  have h20 := h.2.1.1.2.1
  have hn := h.2.1.1.1
  cases ht : tq_ ty q with
  | false => exact an_x 0 (sp_chosen_i 98 M ty q ht) (by decide) (fun M2 h2 => rp_chosen_i 98 M2 ty q ht)
  | true => exact an_ok (sp_chosen 98 M n ty q hn h20 ht) trivial (fun M2 h2 => ⟨_, n, t, e, l, rw_th h2, rfl, rp_chosen 96 n ty q h2.2.1 ht⟩)
theorem an_problem (h : rw_ n t e l M M) (x : Int32) : anw_ kX3_problem kX4_problem [mv_I x] cD_ bA_ n t e l M := by
  have h20 := h.2.1.1.2.1
  have hn := h.2.1.1.1
  cases hx : cm_ n x with
  | false => exact an_x 2 (sp_problem_x 98 M n x hn (cm_f hx)) (by decide) (fun M2 h2 => rp_problem_x 98 n x h2.2.1 hx)
  | true =>
    obtain ⟨c, hc, rfl⟩ := cm_t (by omega) hx
    refine an_ok (sp_problem 35 M n c h.1 hc) trivial (fun M2 h2 => ?_)
    obtain ⟨M3, a1, a2, a3⟩ := rp_problem h2 hc
    exact ⟨M3, n, t, e, l, a1, a2, ev_le a3 (by omega)⟩
theorem an_needs (h : rw_ n t e l M M) (x : Int32) : anw_ kX3_needs kX4_needs [mv_I x] cD_ bA_ n t e l M := by
  have h20 := h.2.1.1.2.1
  have hn := h.2.1.1.1
  cases hx : cm_ n x with
  | false => exact an_x 2 (sp_needs_x 98 M n x hn (cm_f hx)) (by decide) (fun M2 h2 => rp_needs_x 98 n x h2.2.1 hx)
  | true =>
    obtain ⟨c, hc, rfl⟩ := cm_t (by omega) hx
    exact an_ok (sp_needs 94 M n c h.2.1.1 hc) trivial (fun M2 h2 => ⟨_, n, t, e, l, rw_th h2, rfl, rp_needs 94 n c h2.2.1 hc⟩)
theorem an_resolve (h : rw_ n t e l M M) (ty q : Int32) : anw_ kX3_resolve kX4_resolve [mv_I ty, mv_I q] cA_ bA_ n t e l M := by
  cases ht : tq_ ty q with
  | false => exact an_x 0 (sp_resolve_i 98 M ty q ht) (by decide) (fun M2 h2 => rp_resolve_i 98 M2 ty q ht)
  | true =>
    refine ⟨_, _, sp_resolve 10 n M ty q h.1 ht, fun M2 h2 => ?_⟩
    obtain ⟨M3, t2, e2, l2, a1, a2⟩ := rp_resolve h2 ty q ht
    refine ⟨M3, n, t2, e2, l2, a1, ?_⟩
    rcases a2 with ⟨x, b1, b2, b3⟩ | ⟨b1, b2, b3⟩
    · exact Or.inl ⟨x, trivial, b1, b2, ev_le b3 (by omega)⟩
    · exact Or.inr ⟨1, 0, b1, by decide, b2, ev_le b3 (by omega)⟩
theorem an_provide (h : rw_ n t e l M M) (x i : Int32) : anw_ kX3_provide kX4_provide [mv_I x, mv_I i] cC_ bA_ n t e l M := by
  have hL := h.2.2.1
  have h3 := hL.1.2.1
  cases hx : cm_ t x with
  | false => exact an_x 2 (sp_provide_x 98 t M x i hL.1.1 (cm_f hx)) (by decide) (fun M2 h2 => rp_provide_x 98 x i h2.2.2.1 hx)
  | true =>
    obtain ⟨a, ha, rfl⟩ := cm_t (by omega) hx
    obtain ⟨-, -, c, hc, hc20⟩ := hL.1.2.2.2.2 a ha
    refine ⟨_, _, sp_provide 10 n t e a c M i h.1 hL.1 ha hc hc20, fun M2 h2 => ?_⟩
    obtain ⟨M3, t2, e2, l2, a1, a2⟩ := rp_provide h2 ha hc hc20 i
    refine ⟨M3, n, t2, e2, l2, a1, ?_⟩
    rcases a2 with ⟨y, b1, b2, b3⟩ | ⟨b1, b2, b3⟩ | ⟨b1, b2, b3⟩
    · exact Or.inl ⟨y, trivial, b1, b2, ev_le b3 (by omega)⟩
    · exact Or.inr ⟨0, 0, b1, by decide, b2, ev_le b3 (by omega)⟩
    · exact Or.inr ⟨1, 0, b1, by decide, b2, ev_le b3 (by omega)⟩
theorem an_start (h : rw_ n t e l M M) : anw_ kX3_start kX4_start [] cF_ bA_ n t e l M := by
  refine ⟨_, _, (sp_start 12 n M h.1).1, fun M2 h2 => ?_⟩
  obtain ⟨M3, t2, e2, l2, a1, a2⟩ := rp_start h2
  refine ⟨M3, n, t2, e2, l2, a1, ?_⟩
  rcases a2 with ⟨y, b1, b2, b3⟩ | ⟨b1, b2, b3⟩
  · exact Or.inl ⟨y, trivial, b1, b2, ev_le b3 (by omega)⟩
  · exact Or.inr ⟨1, 0, b1, by decide, b2, ev_le b3 (by omega)⟩
theorem an_begin (h : rw_ n t e l M M) : anw_ kX3_begin kX4_begin [] cF_ bA_ n t e l M := by
  obtain ⟨o, ho, h5⟩ := h.1.2.2.1
  by_cases q : o < 5
  · have hlt : M 0 0 3 < 5 := by rw [ho]; exact nI_lt (b := 5) q (by omega)
    refine an_ok (sp_begin 100 M hlt) trivial (fun M2 h2 => ?_)
    have h19 : M2 22 0 19 = nI o := h2.2.2.1.2.2.2.1.1.trans ho
    have hrb := rp_begin 100 M2 (by rw [h19]; exact fun z => absurd (nI_inj (b := 5) (by omega) (by omega) z) (by omega))
    have hrw := rw_begin (o := o + 1) h2 (by omega)
    rw [h19, nI_1] at hrb
    rw [ho, nI_1]
    exact ⟨_, n, t, e, l, hrw, rfl, hrb⟩
  · have h5 : o = 5 := by omega
    subst h5
    exact an_x 1 (sp_begin_x 100 M (by rw [ho]; decide)) (by decide) (fun M2 h2 => rp_begin_x 100 M2 (h2.2.2.1.2.2.2.1.1.trans ho))
theorem an_end (h : rw_ n t e l M M) : anw_ kX3_end kX4_end [] cF_ bA_ n t e l M := by
  obtain ⟨o, ho, h5⟩ := h.1.2.2.1
  cases o with
  | zero => exact an_x 1 (sp_end_x 95 M ho) (by decide) (fun M2 h2 => rp_end_x 100 M2 (h2.2.2.1.2.2.2.1.1.trans ho))
  | succ o =>
    refine an_ok (sp_end 95 n o M h.1 ho (by omega)) trivial (fun M2 h2 => ?_)
    obtain ⟨M3, e2, a1, a2, a3⟩ := rp_end2 h2 (by omega) ho
    exact ⟨M3, n, t, e2, l, a1, a2, ev_le a3 (by omega)⟩
theorem an_close (h : rw_ n t e l M M) : anw_ kX3_close kX4_close [] c0_ bA_ n t e l M := by
  refine an_ok (sp_close 95 n M h.1) trivial (fun M2 h2 => ?_)
  obtain ⟨M3, e2, a1, a2, a3⟩ := rp_close2 h2
  exact ⟨M3, n, t, e2, l, a1, a2, ev_le a3 (by omega)⟩
theorem an_instances (h : rw_ n t e l M M) : anw_ kX3_instances kX4_instances [] c0_ bA_ n t e l M := by
  refine an_ok (sp_instances 100 M) trivial (fun M2 h2 => ⟨_, n, t, e, l, rw_th (k := 0) h2, rfl, ?_⟩)
  rw [h2.2.2.1.1.1, ← h2.2.2.1.2.2.1.1]
  exact rp_instances 100 M2
theorem an_componentOf (h : rw_ n t e l M M) (x : Int32) : anw_ kX3_componentOf kX4_componentOf [mv_I x] cD_ bA_ n t e l M := by
  have hL := h.2.2.1
  have h3 := hL.1.2.1
  cases hx : cm_ t x with
  | false => exact an_x 2 (sp_componentOf_x 99 t x M hL.1.1 (cm_f hx)) (by decide) (fun M2 h2 => rp_componentOf_x 98 x h2.2.2.1 hx)
  | true =>
    obtain ⟨a, ha, rfl⟩ := cm_t (by omega) hx
    exact an_ok (sp_componentOf 99 t a M hL.1.1 h3 ha) trivial (fun M2 h2 => ⟨_, n, t, e, l, rw_th h2, rfl, rp_componentOf 98 a h2.2.2.1 ha⟩)
theorem an_isAlive (h : rw_ n t e l M M) (x : Int32) : anw_ kX3_isAlive kX4_isAlive [mv_I x] cD_ bZ_ n t e l M := by
  have hL := h.2.2.1
  have h3 := hL.1.2.1
  cases hx : cm_ t x with
  | false => exact an_x 2 (sp_isAlive_x 99 t x M hL.1.1 (cm_f hx)) (by decide) (fun M2 h2 => rp_isAlive_x 98 x h2.2.2.1 hx)
  | true =>
    obtain ⟨a, ha, rfl⟩ := cm_t (by omega) hx
    have hb := (hL.1.2.2.2.2 a ha).1
    exact an_ok (sp_isAlive 99 t a M hL.1.1 h3 ha hb) hb (fun M2 h2 => ⟨_, n, t, e, l, rw_th h2, rfl, rp_isAlive 98 a h2.2.2.1 ha⟩)
theorem an_injected (h : rw_ n t e l M M) (x y : Int32) : anw_ kX3_injected kX4_injected [mv_I x, mv_I y] cB_ bA_ n t e l M := by
  have hL := h.2.2.1
  have h3 := hL.1.2.1
  cases hx : cm_ t x with
  | false => exact an_x 2 (sp_injected_x 99 t x y M hL.1.1 (cm_f hx)) (by decide) (fun M2 h2 => rp_injected_x 98 x y h2.2.2.1 hx)
  | true =>
    obtain ⟨a, ha, rfl⟩ := cm_t (by omega) hx
    obtain ⟨-, -, -, -, k, hk, h6, -⟩ := hL.2.2.2.2.2.2.2 a ha
    have hsp := sp_injected 99 t a k y M hL.1.1 h3 ha hk h6
    unfold ij_ at hsp
    cases hy : cm_ k y with
    | false =>
      rw [if_neg (by rw [hk]; exact fun q => (cm_f hy).elim q.1 (fun z => z q.2))] at hsp
      exact an_x 0 hsp (by decide) (fun M2 h2 => rp_injected_i 98 a k y h2.2.2.1 ha hk h6 hy)
    | true =>
      obtain ⟨j, hj, rfl⟩ := cm_t (by omega) hy
      rw [if_pos ⟨nI_pos (by omega), by rw [hk]; exact nI_lt hj (by omega)⟩, nI_clamp (by omega)] at hsp
      exact an_ok hsp trivial (fun M2 h2 => ⟨_, n, t, e, l, rw_th h2, rfl, rp_injected 98 a j k h2.2.2.1 ha hk h6 hj⟩)
theorem an_event (h : rw_ n t e l M M) (x : Int32) : anw_ kX3_event kX4_event [mv_I x] c0_ bA_ n t e l M := by
  have hL := h.2.2.1
  have h4 := hL.1.2.2.2.1
  have h3 := hL.1.2.1
  have hsp := sp_event 100 e x M hL.1.2.2.1 (by omega)
  rw [hL.1.2.2.1] at hsp
  exact an_ok hsp trivial (fun M2 h2 => ⟨_, n, t, e, l, rw_th (k := 0) h2, rfl, rp_event 99 e (M 16 0) x h2.2.2.1.2.2.1.2.1 (by omega) (fun i hi => h2.2.2.1.2.2.2.2.2.1 i hi)⟩)
theorem an_failureKind (h : rw_ n t e l M M) : anw_ kX3_failureKind kX4_failureKind [] c0_ bA_ n t e l M := by
  refine an_ok (sp_failureKind 100 M) trivial (fun M2 h2 => ⟨_, n, t, e, l, rw_th (k := 0) h2, rfl, ?_⟩)
  rw [← h2.2.2.1.2.2.2.1.2.1]
  exact rp_failureKind 100 M2
theorem an_failureDetail (h : rw_ n t e l M M) : anw_ kX3_failureDetail kX4_failureDetail [] c0_ bA_ n t e l M := by
  refine an_ok (sp_failureDetail 100 M) trivial (fun M2 h2 => ⟨_, n, t, e, l, rw_th (k := 0) h2, rfl, ?_⟩)
  rw [← h2.2.2.1.2.2.2.1.2.2]
  exact rp_failureDetail 100 M2
theorem an_failureChain (h : rw_ n t e l M M) (x : Int32) : anw_ kX3_failureChain kX4_failureChain [mv_I x] c0_ bA_ n t e l M := by
  have hL := h.2.2.1
  have hl := hL.2.1
  have hsp := sp_failureChain 100 l x M hl.1 hl.2
  rw [hl.1] at hsp
  exact an_ok hsp trivial (fun M2 h2 => ⟨_, n, t, e, l, rw_th (k := 0) h2, rfl, rp_failureChain 99 l (M 17 0) x h2.2.2.1.2.2.1.2.2 hl.2 (fun i hi => h2.2.2.1.2.2.2.2.1 i hi)⟩)
end ANS
