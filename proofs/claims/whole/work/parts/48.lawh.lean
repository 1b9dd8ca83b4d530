/-! THE LAW: A CALL OF EACH SIDE -/
theorem gW3i {g : Nat} (h : g ≤ 21) : gW_ P3_ g = true := (show ∀ g, g < 22 → gW_ P3_ g = true by decide +kernel) g (by omega)
theorem gW3o {g : Nat} (h : 22 ≤ g) : gW_ P3_ g = false := by
  rcases Nat.lt_or_ge g 43 with q | q
  · exact (show ∀ g, g < 43 → 22 ≤ g → gW_ P3_ g = false by decide +kernel) g q h
  · unfold gW_
    rw [shp_none q]
    exact Bool.and_false _
theorem gW4i {g : Nat} (h : 22 ≤ g) (h2 : g ≤ 41) : gW_ P4_ g = true := (show ∀ g, g < 42 → 22 ≤ g → gW_ P4_ g = true by decide +kernel) g (by omega) h
theorem gW4o {g : Nat} (h : g ≤ 21 ∨ 42 ≤ g) : gW_ P4_ g = false := by
  rcases Nat.lt_or_ge g 43 with q | q
  · exact (show ∀ g, g < 43 → g ≤ 21 ∨ 42 ≤ g → gW_ P4_ g = false by decide +kernel) g q h
  · unfold gW_
    rw [shp_none q]
    exact Bool.and_false _
theorem stp_ {k3 k4 kL : Nat} {as : List mv_V} {cd : Nat → Int32} {B : Int32 → Prop} {n t e l : Nat} {M : mv_M} (ha : anw_ k3 k4 as cd B n t e l M) (hw : wrw_ k3 kL as cd B M) (q3 : Q3_ k3 = true) (q4 : Q4_ k4 = true) (h : rw_ n t e l M M) (p3 : gt_ P3_ as) (p4 : gt_ P4_ as) : ∃ (M2 M4 : mv_M) (n' t' e' l' : Nat) (k b : Int32), ev_ 101 kL (mv_R 0 0 :: (as ++ [mv_R 42 0])) M (Sum.inl (some (mv_I k))) M2 ∧ ev_ 101 k4 (mv_R 22 0 :: as) M2 (Sum.inl (some (mv_I b))) M4 ∧ rw_ n' t' e' l' M4 M4 ∧ (∀ g, 50 ≤ g → M2 g = M g) ∧ (∀ g, 50 ≤ g → M4 g = M g) ∧ M4 22 0 0 = k ∧ (k = 0 → M4 42 0 0 = b ∧ B b) := by
  obtain ⟨oC, M', h3, hr⟩ := ha
  have h3' := ev_p3 h3 q3 (gt_c rfl p3)
  have key (M2 : mv_M) (hM2 : ∀ g, g ≤ 41 → M2 g = gp_ P3_ M M' g) : ∃ (M3 : mv_M) (n' t' e' l' : Nat), rw_ n' t' e' l' M' M3 ∧ rw_ n' t' e' l' (gp_ P4_ M2 M3) (gp_ P4_ M2 M3) ∧ gp_ P4_ M2 M3 22 = M3 22 ∧ (∀ g, 42 ≤ g → gp_ P4_ M2 M3 g = M2 g) ∧ ((∃ v : Int32, B v ∧ oC = Sum.inl (some (mv_I v)) ∧ M3 22 0 0 = 0 ∧ ev_ 101 k4 (mv_R 22 0 :: as) M2 (Sum.inl (some (mv_I v))) (gp_ P4_ M2 M3)) ∨ ∃ (E : Nat) (w : Int32), oC = Sum.inr E ∧ ¬ cd E = 0 ∧ M3 22 0 0 = cd E ∧ ev_ 101 k4 (mv_R 22 0 :: as) M2 (Sum.inl (some (mv_I w))) (gp_ P4_ M2 M3)) := by
    have hrw : rw_ n t e l M M2 := rw_cg h (fun _ _ => rfl) (fun g g1 g2 => (hM2 g g2).trans (gp_out (gW3o g1)))
    obtain ⟨M3, n', t', e', l', a1, a2⟩ := hr M2 hrw
    refine ⟨M3, n', t', e', l', a1, rw_cg a1 (fun g hg => ?_) (fun g g1 g2 => gp_in (gW4i g1 g2)), gp_in (gW4i (by omega) (by omega)), fun g hg => gp_out (gW4o (Or.inr hg)), ?_⟩
    · rw [gp_out (gW4o (Or.inl hg)), hM2 g (by omega), gp_in (gW3i hg)]
    · rcases a2 with ⟨v, b1, b2, b3, b4⟩ | ⟨E, w, b1, b2, b3, b4⟩
      · exact Or.inl ⟨v, b1, b2, b3, ev_le (ev_p4 b4 q4 (gt_c rfl p4)) (by omega)⟩
      · exact Or.inr ⟨E, w, b1, b2, b3, ev_le (ev_p4 b4 q4 (gt_c rfl p4)) (by omega)⟩
  have h50 (g : Nat) (hg : 50 ≤ g) : gp_ P3_ M M' g = M g := gp_out (gW3o (by omega))
  obtain ⟨_, _, _, _, _, _, _, _, _, hd⟩ := key (gp_ P3_ M M') (fun _ _ => rfl)
  rcases hd with ⟨v, hB, rfl, -, -⟩ | ⟨E, w, rfl, hE, -, -⟩
  · obtain ⟨M3, n', t', e', l', a1, a2, a3, a4, a5⟩ := key (mv_up (gp_ P3_ M M') 42 0 0 v) (fun g hg => mv_up_ne (by omega))
    rcases a5 with ⟨v2, b1, b2, b3, b4⟩ | ⟨E, w, b1, -⟩
    · have hvv : v = v2 := Sum.inl.inj (Option.some.inj (Sum.inl.inj b2))
      subst hvv
      refine ⟨_, _, n', t', e', l', 0, v, hw.1 v _ hB h3', b4, a2, fun g hg => (mv_up_ne (by omega)).trans (h50 g hg), fun g hg => (a4 g (by omega)).trans ((mv_up_ne (by omega)).trans (h50 g hg)), by rw [a3]; exact b3, fun _ => ⟨by rw [a4 42 (by omega), up_x, if_pos ⟨rfl, rfl⟩], hB⟩⟩
    · cases b1
  · obtain ⟨M3, n', t', e', l', a1, a2, a3, a4, a5⟩ := key (gp_ P3_ M M') (fun _ _ => rfl)
    rcases a5 with ⟨v2, b1, b2, b3, b4⟩ | ⟨E2, w2, b1, b2, b3, b4⟩
    · cases b2
    · cases b1
      exact ⟨_, _, n', t', e', l', cd E, w2, hw.2 E _ hE h3', b4, a2, h50, fun g hg => (a4 g (by omega)).trans (h50 g hg), by rw [a3]; exact b3, fun q => absurd q hE⟩
theorem stp0_ {k3 k4 : Nat} {as : List mv_V} {n t e l : Nat} {M : mv_M} (ha : anw_ k3 k4 as c0_ bA_ n t e l M) (q3 : Q3_ k3 = true) (q4 : Q4_ k4 = true) (h : rw_ n t e l M M) (p3 : gt_ P3_ as) (p4 : gt_ P4_ as) : ∃ (M2 M4 : mv_M) (n' t' e' l' : Nat) (v : Int32), ev_ 101 k3 (mv_R 0 0 :: as) M (Sum.inl (some (mv_I v))) M2 ∧ ev_ 101 k4 (mv_R 22 0 :: as) M2 (Sum.inl (some (mv_I v))) M4 ∧ rw_ n' t' e' l' M4 M4 ∧ (∀ g, 50 ≤ g → M2 g = M g) ∧ ∀ g, 50 ≤ g → M4 g = M g := by
  obtain ⟨oC, M', h3, hr⟩ := ha
  have h3' := ev_p3 h3 q3 (gt_c rfl p3)
  have h50 (g : Nat) (hg : 50 ≤ g) : gp_ P3_ M M' g = M g := gp_out (gW3o (by omega))
  have hrw : rw_ n t e l M (gp_ P3_ M M') := rw_cg h (fun _ _ => rfl) (fun g g1 g2 => gp_out (gW3o g1))
  obtain ⟨M3, n', t', e', l', a1, a2⟩ := hr _ hrw
  rcases a2 with ⟨v, b1, rfl, b3, b4⟩ | ⟨E, w, b1, b2, b3, b4⟩
  · refine ⟨_, _, n', t', e', l', v, ev_le h3' (by omega), ev_le (ev_p4 b4 q4 (gt_c rfl p4)) (by omega), rw_cg a1 (fun g hg => ?_) (fun g g1 g2 => gp_in (gW4i g1 g2)), h50, fun g hg => (gp_out (gW4o (Or.inr (by omega)))).trans (h50 g hg)⟩
    rw [gp_out (gW4o (Or.inl hg)), gp_in (gW3i hg)]
  · exact absurd rfl b2
theorem mv_Ev_b : ∀ (n d b k : Nat) (s : mv_S) (Φ : mv_O → mv_M → Prop), mv_Ev n d b k s Φ → mv_Ev n d (b + 1) k s Φ := by
  intro n
  induction n with
  | zero => intro d b k s Φ h; exact h.elim
  | succ n ih =>
    intro d b k s Φ h
    unfold mv_Ev at h ⊢
    revert h
    cases hact : mv_act k s with
    | none => exact fun h => h
    | some act =>
      rcases act with ⟨p, s1⟩ | bs | ⟨k', as, rest, nx⟩ | ⟨p, v⟩ | E
      · exact fun h => ⟨h.1, ih _ _ _ _ _ h.2⟩
      · exact fun h x hx hx1 => ih _ _ _ _ _ (h x hx hx1)
      · rintro ⟨h1, h2, d', h3, Ψ, h4, h5⟩
        refine ⟨h1, by omega, d', h3, Ψ, h4, fun o M' ho => ?_⟩
        have h6 := h5 o M' ho
        rw [show b + 1 - mv_mc k' = b - mv_mc k' + 1 by omega]
        rcases o with v | E
        · exact ih _ _ _ _ _ h6
        · revert h6
          show (match mv_hnd k s.1 E with
            | some (p, i) => mv_Ev n d (b - mv_mc k') k (p, s.2.1.set i none, [], M') Φ
            | none => mv_nh k = true ∧ Φ (Sum.inr E) M') → (match mv_hnd k s.1 E with
            | some (p, i) => mv_Ev n d (b - mv_mc k' + 1) k (p, s.2.1.set i none, [], M') Φ
            | none => mv_nh k = true ∧ Φ (Sum.inr E) M')
          cases mv_hnd k s.1 E with
          | none => exact fun h => h
          | some pi => exact fun h => ih _ _ _ _ _ h
      · exact fun h => h
      · exact fun h => ⟨h.1, by omega, h.2.2⟩
theorem er_ble {d b b' k : Nat} {s : mv_S} {o : mv_O} {M' : mv_M} (h : er_ d b k s o M') (hb : b ≤ b') : er_ d b' k s o M' := by
  obtain ⟨n, hn⟩ := h
  refine ⟨n, ?_⟩
  induction hb with
  | refl => exact hn
  | step _ ih => exact mv_Ev_b _ _ _ _ _ _ ih
/-- a case of the law, from its first instruction to the loop's end -/
def lgo_ (pc i : Nat) (M M4 : mv_M) : Prop := ∀ (b : Nat) (z5 z6 : Option mv_V) (R : mv_O) (M9 : mv_M), (∀ y5 y6 : Option mv_V, er_ 102 b kL_law (1509, [some (mv_R 52 0), some (mv_R 0 0), some (mv_R 22 0), some (mv_R 42 0), some (mv_I (nI i)), y5, y6], [], M4) R M9) → er_ 102 (b + 4) kL_law (pc, [some (mv_R 52 0), some (mv_R 0 0), some (mv_R 22 0), some (mv_R 42 0), some (mv_I (nI i)), z5, z6], [], M) R M9
/-- the law's loop holds -/
def lv4_ (n t e l i len : Nat) (M : mv_M) : Prop := rw_ n t e l M M ∧ sv_ M ∧ mv_xl M 52 = len ∧ len ≤ 2560 ∧ i + 5 ≤ len
theorem lv_vp {i len k : Nat} (h : i + 5 ≤ len) (h2 : len ≤ 2560) (hk : k < 5) : vp_in (nI i + nI k) len := by
  rw [nI_add]
  exact in_n (by omega) (by omega)
