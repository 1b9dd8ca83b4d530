/-! COMPLETING, SIMULATED -/
theorem sr_f {n g g2 : Nat} {C M M2 : mv_M} {kind det : Int32} {l : Nat} (h : sr_ n g2 C M (rf_ C kind det l) M2) : sr_ n g C M (rf_ C kind det l) M2 := by
  rcases h with h | h
  · exact absurd rfl h.1
  · exact Or.inr h
/-- the chain up to g, as a mask -/
def um_ (n g : Nat) (C : mv_M) : Prop := ∃ u : Int32, cn_ u n + g = n ∧ ∀ c, c < n → ii_ u c = uc_ C c g 0
theorem uc_eq {C C' : mv_M} {c g : Nat} (h : ∀ i, i < g → C' 4 0 i = C 4 0 i) : uc_ C' c g 0 = uc_ C c g 0 := by
  have e : (uc_ C' c g 0 = true) ↔ (uc_ C c g 0 = true) := by
    rw [uc_iff, uc_iff]
    exact ⟨fun ⟨k, a, b, q⟩ => ⟨k, a, b, (h k (by omega)).symm.trans q⟩, fun ⟨k, a, b, q⟩ => ⟨k, a, b, (h k (by omega)).trans q⟩⟩
  cases h1 : uc_ C' c g 0 with
  | true => exact (e.mp h1).symm
  | false =>
    cases h2 : uc_ C c g 0 with
    | true => rw [e.mpr h2] at h1; cases h1
    | false => rfl
theorem um_eq {n g : Nat} {C C' : mv_M} (h : um_ n g C) (he : ∀ i, i < g → C' 4 0 i = C 4 0 i) : um_ n g C' := by
  obtain ⟨u, h1, h2⟩ := h
  exact ⟨u, h1, fun c hc => (h2 c hc).trans (uc_eq he).symm⟩
theorem co_sim {n g c : Nat} {C M : mv_M} {pl sc : Int32} (hQ : dq_ n g c sc (dc_ C c) C M) (hc : c < n) (hu : uc_ C c g 0 = false) (hum : um_ n g C) (hp : pq_ C pl sc) (hf : ¬ pl = -1 → C 21 pl.toNatClampNeg c = -1) : ∃ M1, rr_ M M1 ∧ sr_ n g C M (mc_ C c pl g) M1 := by
  obtain ⟨hR, q1, q2, q3, q4, q5⟩ := hQ
  obtain ⟨hV, hD, ⟨t, e, l, hL, hK⟩, ⟨r1, r2, r3⟩, r4, -⟩ := id hR
  have h20 := hD.1.2.1
  have hg : g < 20 := by omega
  have h27 : M 27 0 g = nI c := (r4 g (by omega)).trans q1
  obtain ⟨hk, hk6⟩ := hD.1.2.2 c (by omega)
  have hk4 : M 24 0 c = nI (dc_ C c) := (hD.2.2.2.2.1 c (by omega)).trans hk
  have ht2 := hL.1.1
  have he2 := hL.1.2.2.1
  have h12 := hL.2.2.1.1
  have h3 := hL.1.2.1
  have hcp := hL.2.2.2.2.2.2.1 c (by omega)
  have go {M1 : mv_M} (h : ev_ 2 kX4_complete [mv_R 22 0, mv_I (nI g)] M (Sum.inl none) M1) : rr_ M M1 := rr_step r1 (by omega) r3 (ev_le (rs_goOn_c 2 g c (by omega) (by omega) r1 q3 h27 (q2.trans hk4.symm) h) (by omega))
  by_cases h300 : t < 300
  · have hlt : C 2 0 5 < 300 := by rw [ht2]; exact (nI_ltI (b := 300) (by omega) (by omega)).mpr h300
    by_cases hb : ¬ C 19 c 6 = -1 ∧ ¬ C 15 0 c < C 19 c 6
    · rw [show mc_ C c pl g = rf_ C 6 (nI c) (g + 1) by rw [mc_, if_neg (fun q => q hlt), if_pos hb]]
      exact ⟨_, go (rs_complete_b 0 n g c t hD hc hg h27 h12 h300 hb.1 (by rw [hcp]; exact hb.2)), sr_f (sr_fail hR (by decide))⟩
    · have h4 := hL.1.2.2.2.1
      have hmc : mc_ C c pl g = (nI t, ia_ C t e c pl g (dc_ C c)) := by
        rw [mc_, if_neg (fun q => q hlt), if_neg hb, ht2, he2, nI_clamp (by omega), nI_clamp (by omega)]
      obtain ⟨w, hw⟩ : ∃ w : Int32, (sc = 2 ∧ w = M 22 0 19) ∨ (¬ sc = 2 ∧ w = 0) := by
        by_cases q : sc = 2
        · exact ⟨_, Or.inl ⟨q, rfl⟩⟩
        · exact ⟨_, Or.inr ⟨q, rfl⟩⟩
      obtain ⟨M1, m1, m2, m3, m4⟩ := rs_complete 0 n g c t e w hD hc hg h27 h12 h300 (by rw [hcp]; exact hb) hL.2.2.1.2.1 (by omega) r1 (by rw [q4]; exact hw)
      have hlr := lr_ia (g := g) (w := w) (M1 := M1) hL h300 (by omega) hp q4 hw hk4 hk6 q5 m1 m2 m3
      have hp9 : ∃ p9 : Nat, pl = -1 ∨ (pl = nI p9 ∧ p9 < 6) := by
        rcases hp with ⟨q, -⟩ | ⟨q, -⟩ | ⟨s, hs, q, -⟩
        · exact ⟨0, Or.inl q⟩
        · exact ⟨0, Or.inr ⟨q, by omega⟩⟩
        · exact ⟨s + 1, Or.inr ⟨q, by omega⟩⟩
      obtain ⟨p9, hp9⟩ := hp9
      have n22 (o : Nat) : M1 22 0 o = M 22 0 o := by rw [m3 22 (by omega), ca4_o _ _ _ _ _ 22 (by omega)]
      have nx (x : Nat) (h1 : x < 30 ∨ 34 < x) (h2 : x ≠ 35) (h22 : x ≠ 22) (h26 : x ≠ 26) (h36 : x ≠ 36) : cz4_ M1 g c t e (M 26 0 c + 1) x = M x := by rw [cz4_o _ _ _ _ _ _ x h22 h26 h36, m3 x h2, ca4_o _ _ _ _ _ x h1]
      have io (x : Nat) (hx : x = 0 ∨ x = 1 ∨ x = 8 ∨ x = 19 ∨ x = 20 ∨ x = 4 ∨ x = 18) : ia_ C t e c pl g (dc_ C c) x = C x := ia_o C t e c pl g (dc_ C c) x (by omega)
      rw [hmc]
      have i8 (x : Nat) : dc_ (ia_ C t e c pl g (dc_ C c)) x = dc_ C x := by
        show (ia_ C t e c pl g (dc_ C c) 8 0 x).toNatClampNeg = (C 8 0 x).toNatClampNeg
        rw [io 8 (by omega)]
      refine ⟨_, go m4, Or.inl ⟨fun q => nI_pos (n := t) (by omega) (by show nI t < 0; rw [show nI t = -2 from q]; decide), ?_⟩⟩
      show ps_ n g C M (nI t) (ia_ C t e c pl g (dc_ C c)) (cz4_ M1 g c t e (M 26 0 c + 1))
      refine ⟨⟨cv_ia hV hL.1 h300 (by omega) hp9, ?_, ⟨t + 1, e + 1, l, hlr, kv_ia hK h3 (by omega) hp9 hf⟩, ⟨by rw [cz4_22]; simp, by omega, by rw [cz4_22, n22]; simpa using r3⟩, fun i hi => ?_, ?_⟩, by rw [cz4_22]; simp, ?_⟩
      · obtain ⟨b0, b1, b2, b3, b4, b5, b6⟩ := hD
        refine ⟨⟨by rw [io 1 (by omega)]; exact b0.1, h20, fun x hx => by rw [i8, io 8 (by omega)]; exact b0.2.2 x hx⟩, by rw [cz4_22, n22]; simpa using b1, by rw [cz4_22, n22, io 1 (by omega)]; simpa using b2, ?_, ?_, ?_, by rw [io 19 (by omega)]; exact b6⟩
        · rw [nx 23 (by omega) (by omega) (by omega) (by omega) (by omega), io 19 (by omega)]; exact b3
        · rw [nx 24 (by omega) (by omega) (by omega) (by omega) (by omega), io 8 (by omega)]; exact b4
        · rw [nx 25 (by omega) (by omega) (by omega) (by omega) (by omega), io 20 (by omega)]; exact b5
      · rw [nx 27 (by omega) (by omega) (by omega) (by omega) (by omega), io 4 (by omega)]
        exact r4 i (by omega)
      · exact um_eq hum (fun i _ => by rw [io 4 (by omega)])
      · refine ⟨fun i _ => by rw [io 4 (by omega)], fun j _ => by rw [io 18 (by omega)], fun c2 hc2 s => ?_, ⟨io 0 (by omega), io 1 (by omega), io 8 (by omega), io 19 (by omega), io 20 (by omega)⟩, fun y i hy _ => by rw [nx y (by omega) (by omega) (by omega) (by omega) (by omega)], fun i _ => by rw [nx 41 (by omega) (by omega) (by omega) (by omega) (by omega)]⟩
        rw [ia_21, if_neg]
        rintro ⟨-, -, q⟩
        rw [q, hu] at hc2
        cases hc2
  · have ht : t = 300 := by omega
    subst ht
    rw [show mc_ C c pl g = rf_ C 5 (nI c) (g + 1) by rw [mc_, if_pos (by rw [ht2]; decide)]]
    exact ⟨_, go (rs_complete_l 0 g c hg h27 h12), sr_f (sr_fail hR (by decide))⟩
