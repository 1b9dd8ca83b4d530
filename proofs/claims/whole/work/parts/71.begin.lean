/-! THE BEGINNING -/
set_option maxRecDepth 100000 in
theorem gi_X3 : GoodIn lw_tbl wsX3_init := goodIn_p wsX3_init [68, 71, 76, 105, 110, 155] (by decide +kernel) (by decide +kernel)
set_option maxRecDepth 100000 in
theorem gi_X4 : GoodIn lw_tbl wsX4_init := goodIn_p wsX4_init [666, 71] (by decide +kernel) (by decide +kernel)
theorem rw_0 {F : Nat → Nat → Int32} (hF : ∀ i j, i < 6 → j < 20 → F i j = -1) (L : Nat) (xs : Nat → Int32) : rw_ 0 0 0 0 (wk_M F L xs) (wk_M F L xs) := by
  have hli : li_ (wk_M F L xs) 0 0 := ⟨rfl, by omega, rfl, rfl, fun i hi => by omega⟩
  have hci : ci_ (wk_M F L xs) 0 := ⟨rfl, by omega, fun c hc => ⟨rfl, by show (0 : Int32).toNatClampNeg ≤ 6; decide⟩⟩
  refine ⟨⟨hci, ⟨0, 0, hli⟩, ⟨0, rfl, by omega⟩, fun c hc => Or.inl rfl⟩, ⟨hci, rfl, rfl, fun c k hc hk => rfl, fun c hc => rfl, fun c j hc hj => rfl, fun c hc => Or.inl rfl⟩, ⟨hli, ⟨rfl, by omega⟩, ⟨rfl, rfl, rfl⟩, ⟨rfl, rfl, rfl⟩, fun i hi => by omega, fun i hi => by omega, fun c hc => rfl, fun i hi => by omega⟩, fun s c hs hc => Or.inl ⟨hF s c hs hc, fun i hi => by omega⟩⟩
theorem sv_0 (F : Nat → Nat → Int32) (L : Nat) (xs : Nat → Int32) : sv_ (wk_M F L xs) := ⟨⟨by show (7 : Int32).toNatClampNeg = 7; decide, by show (7 : Int32).toNatClampNeg = 7; decide⟩, fun p hp => ⟨rfl, rfl⟩⟩
theorem xl_0 (F : Nat → Nat → Int32) {L : Nat} (hL : L ≤ 2560) (xs : Nat → Int32) : mv_xl (wk_M F L xs) 52 = L := by
  show (nI L).toNatClampNeg = L
  exact nI_clamp (by omega)
theorem law_0 {F : Nat → Nat → Int32} (hF : ∀ i j, i < 6 → j < 20 → F i j = -1) {L : Nat} (hL : L ≤ 2560) (xs : Nat → Int32) : ∃ M9 : mv_M, er_ 102 2052 kL_law (23, [some (mv_R 52 0), some (mv_R 0 0), some (mv_R 22 0), some (mv_R 42 0), some (mv_I (nI 0)), none, none], [], wk_M F L xs) (Sum.inl (some (mv_I 1))) M9 := by
  obtain ⟨M9, h9⟩ := lp_law hL 513 0 2052 (wk_M F L xs) 0 0 0 0 (by omega) (by omega) (by omega) (rw_0 hF L xs) (sv_0 F L xs) (xl_0 F hL xs)
  exact ⟨M9, h9 none none⟩
theorem vX_of {b L : Nat} {xs : Nat → Int32} {U : State} {H : Heap} (h : va_X b L xs U H) : vX_ b L xs U H := by
  obtain ⟨scr, h1, h2, h3, h4, h5⟩ := h
  exact ⟨scr, h1, h2, h3, by omega, by rw [h4] <;> rfl, h5⟩
theorem vX_ofT {t N : Nat} {f : Nat → Int32} {A : Nat → Prop} {U : State} {H : Heap} (h : va_T .int t N (fun j => .int (f j)) A U H) : vX_ t N f U H ∧ t < H.size ∧ ¬ A t := by
  obtain ⟨scr, h1, h2, h3, h4, h5, h6, h7⟩ := h
  exact ⟨⟨scr, h1, h2, h3, h4, h5, h6⟩, (Array.getElem?_eq_some_iff.mp h1).1, h7⟩
theorem vX_cg {b L L2 : Nat} {xs xs2 : Nat → Int32} {U : State} {H : Heap} (h : vX_ b L xs U H) (hL : L2 = L) (hx : xs2 = xs) : vX_ b L2 xs2 U H := by
  subst hL
  subst hx
  exact h
theorem nst_on : ∀ w, mv_nk w = true → w.onTables = true := by
  intro w h
  cases w <;> first | rfl | (simp [mv_nk] at h)
set_option maxRecDepth 100000 in
theorem str_t : ∀ t, t ∈ mv_strs → Cond.stringRef t.1 t.2.1 t.2.2 ∈ lw_tbl := by decide +kernel
set_option maxRecDepth 100000 in
theorem str_n : ∀ t, t ∈ mv_strs → Cond.exactly (.string t.1 t.2.1) "java/lang/String" ∈ flatC (Jvm.Cond.and given_1 narrow_1) := by decide +kernel
set_option maxRecDepth 100000 in
theorem ncs_n : ∀ t, t ∈ mv_ncs → Cond.not (Cond.castable t.1 t.2) ∈ flatC (Jvm.Cond.and given_1 narrow_1) := by decide +kernel
/-- what stands beside the world -/
theorem ex_0 {s : State} {b L t50 t51 : Nat} {xs : Nat → Int32} {D : va_G} {cA : Nat → ClassId} {ad : Nat → Nat → Nat} {F : Nat → Nat → Int32} (hL : L ≤ 2560) (hts : ∀ w ∈ lw_tbl, w.before #[Value.ref b] s = true) (hgv : (Jvm.Cond.and given_1 narrow_1).before #[Value.ref b] s = true) (hX : va_X b L xs s s.heap) (hbl : b < s.heap.size) (hK : va_K D vwCl (mv_tys cA) s) (a50 : ad 50 0 = t50) (a51 : ad 51 0 = t51) (a52 : ad 52 0 = b)
    (h50 : (Term.static "ComponentContainer" "LOWEST_VALUES" "[I").eval #[Value.ref b] s none [] s = some (.ref t50)) (h51 : (Term.static "ComponentContainer" "HIGHEST_VALUES" "[I").eval #[Value.ref b] s none [] s = some (.ref t51)) (hT50 : va_T .int t50 7 (fun j => .int (pb_ j).1) (fun q => s.heap.size ≤ q) s s.heap) (hT51 : va_T .int t51 7 (fun j => .int (pb_ j).2) (fun q => s.heap.size ≤ q) s s.heap) : mv_EX D cA ad (wk_M F L xs) (fun q => s.heap.size ≤ q) s := by
  have hAn : ∀ a : Nat, a < s.heap.size → ¬ (fun q : Nat => s.heap.size ≤ q) a := fun a h => Nat.not_le.mpr h
  have hgn := flat_of_before _ hgv
  refine ⟨hK, fun w hw => ?_, ?_, ?_, fun t ht => ?_, fun t ht => va_Nc.of (hgn _ (ncs_n t ht)), fun t ht => ?_, fun g hg => ?_⟩
  · obtain ⟨h1, h2⟩ := List.mem_filter.mp hw
    exact va_Nw.of (nst_on w h2) (hts w h1)
  · exact vx_Zqof (hts (.laysStatic Bundle.tN "UNASSIGNED_STACK" Bundle.steD) (by decide +kernel)) (hts (.initialized Bundle.tN) (by decide +kernel)) (hgn (.isRef (.static Bundle.tN "UNASSIGNED_STACK" Bundle.steD)) (by decide +kernel)) hAn
  · exact vx_Zqof (hts (.laysStatic Bundle.tN "SUPPRESSED_SENTINEL" Bundle.listD) (by decide +kernel)) (hts (.initialized Bundle.tN) (by decide +kernel)) (hgn (.isRef (.static Bundle.tN "SUPPRESSED_SENTINEL" Bundle.listD)) (by decide +kernel)) hAn
  · obtain ⟨a, c, c2, kA, q1, -⟩ := Cond.exactly_spec (args := #[Value.ref b]) (first := s) (o := none) (s := s) (idx := []) (hgn _ (str_n t ht))
    exact ⟨a, vk_R.of (hts _ (str_t t ht)) q1⟩
  · unfold mv_stas at ht
    simp only [List.mem_cons, List.not_mem_nil, or_false] at ht
    rcases ht with rfl | rfl
    · rw [a50]
      exact va_Zref (hts (.laysStatic "ComponentContainer" "LOWEST_VALUES" "[I") (by decide +kernel)) (hts (.initialized "ComponentContainer") (by decide +kernel)) h50 hAn
    · rw [a51]
      exact va_Zref (hts (.laysStatic "ComponentContainer" "HIGHEST_VALUES" "[I") (by decide +kernel)) (hts (.initialized "ComponentContainer") (by decide +kernel)) h51 hAn
  · unfold mv_isX at hg
    rw [Bool.and_eq_true] at hg
    have g1 := Nat.le_of_ble_eq_true hg.1
    have g2 := Nat.le_of_ble_eq_true hg.2
    rcases (show g = 50 ∨ g = 51 ∨ g = 52 by omega) with rfl | rfl | rfl
    · rw [a50]
      obtain ⟨v1, v2, v3⟩ := vX_ofT hT50
      exact ⟨vX_cg v1 (sv_0 F L xs).1.1 rfl, v2, v3⟩
    · rw [a51]
      obtain ⟨v1, v2, v3⟩ := vX_ofT hT51
      exact ⟨vX_cg v1 (sv_0 F L xs).1.2 rfl, v2, v3⟩
    · rw [a52]
      exact ⟨vX_cg (vX_of hX) (xl_0 F hL xs) rfl, hbl, hAn b hbl⟩
/-- the static rows -/
theorem st_0 {s : State} {b : Nat} (hgv : (Jvm.Cond.and given_1 narrow_1).before #[Value.ref b] s = true) : (∃ t50 : Nat, (Term.static "ComponentContainer" "LOWEST_VALUES" "[I").eval #[Value.ref b] s none [] s = some (.ref t50) ∧ va_T .int t50 7 (fun j => .int (pb_ j).1) (fun q => s.heap.size ≤ q) s s.heap) ∧ ∃ t51 : Nat, (Term.static "ComponentContainer" "HIGHEST_VALUES" "[I").eval #[Value.ref b] s none [] s = some (.ref t51) ∧ va_T .int t51 7 (fun j => .int (pb_ j).2) (fun q => s.heap.size ≤ q) s s.heap := by
  have hAn : ∀ a : Nat, a < s.heap.size → ¬ (fun q : Nat => s.heap.size ≤ q) a := fun a h => Nat.not_le.mpr h
  have hgn := flat_of_before _ hgv
  refine ⟨va_Tof (by omega) (hgn (.arrayOf (.static "ComponentContainer" "LOWEST_VALUES" "[I") .int) (by decide +kernel)) (va_eqt (hgn (.eq (.length (.static "ComponentContainer" "LOWEST_VALUES" "[I")) (.int 7)) (by decide +kernel))) (fun j hj => ?_) hAn, va_Tof (by omega) (hgn (.arrayOf (.static "ComponentContainer" "HIGHEST_VALUES" "[I") .int) (by decide +kernel)) (va_eqt (hgn (.eq (.length (.static "ComponentContainer" "HIGHEST_VALUES" "[I")) (.int 7)) (by decide +kernel))) (fun j hj => ?_) hAn⟩
  · rcases (show j = 0 ∨ j = 1 ∨ j = 2 ∨ j = 3 ∨ j = 4 ∨ j = 5 ∨ j = 6 by omega) with rfl | rfl | rfl | rfl | rfl | rfl | rfl
    · exact va_eqt (hgn (.eq (.elem (.static "ComponentContainer" "LOWEST_VALUES" "[I") (.int 0)) (.int 1)) (by decide +kernel))
    · exact va_eqt (hgn (.eq (.elem (.static "ComponentContainer" "LOWEST_VALUES" "[I") (.int 1)) (.int 0)) (by decide +kernel))
    · exact va_eqt (hgn (.eq (.elem (.static "ComponentContainer" "LOWEST_VALUES" "[I") (.int 2)) (.int (-1))) (by decide +kernel))
    · exact va_eqt (hgn (.eq (.elem (.static "ComponentContainer" "LOWEST_VALUES" "[I") (.int 3)) (.int 0)) (by decide +kernel))
    · exact va_eqt (hgn (.eq (.elem (.static "ComponentContainer" "LOWEST_VALUES" "[I") (.int 4)) (.int 0)) (by decide +kernel))
    · exact va_eqt (hgn (.eq (.elem (.static "ComponentContainer" "LOWEST_VALUES" "[I") (.int 5)) (.int (-1))) (by decide +kernel))
    · exact va_eqt (hgn (.eq (.elem (.static "ComponentContainer" "LOWEST_VALUES" "[I") (.int 6)) (.int (-1))) (by decide +kernel))
  · rcases (show j = 0 ∨ j = 1 ∨ j = 2 ∨ j = 3 ∨ j = 4 ∨ j = 5 ∨ j = 6 by omega) with rfl | rfl | rfl | rfl | rfl | rfl | rfl
    · exact va_eqt (hgn (.eq (.elem (.static "ComponentContainer" "HIGHEST_VALUES" "[I") (.int 0)) (.int 65535)) (by decide +kernel))
    · exact va_eqt (hgn (.eq (.elem (.static "ComponentContainer" "HIGHEST_VALUES" "[I") (.int 1)) (.int 2)) (by decide +kernel))
    · exact va_eqt (hgn (.eq (.elem (.static "ComponentContainer" "HIGHEST_VALUES" "[I") (.int 2)) (.int 9)) (by decide +kernel))
    · exact va_eqt (hgn (.eq (.elem (.static "ComponentContainer" "HIGHEST_VALUES" "[I") (.int 3)) (.int 1)) (by decide +kernel))
    · exact va_eqt (hgn (.eq (.elem (.static "ComponentContainer" "HIGHEST_VALUES" "[I") (.int 4)) (.int 1)) (by decide +kernel))
    · exact va_eqt (hgn (.eq (.elem (.static "ComponentContainer" "HIGHEST_VALUES" "[I") (.int 5)) (.int 7)) (by decide +kernel))
    · exact va_eqt (hgn (.eq (.elem (.static "ComponentContainer" "HIGHEST_VALUES" "[I") (.int 6)) (.int 99)) (by decide +kernel))
