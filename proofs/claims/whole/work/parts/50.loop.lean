/-! THE LAW'S LOOP -/
def lpc_ (j : Nat) : Nat := ([156, 224, 304, 372, 464, 520, 600, 691, 704, 772, 840, 896, 952, 1020, 1088, 1132, 1176, 1220, 1233, 1246, 1302, 1365, 1433, 1458, 1471, 1484][j]?).getD 0
theorem lc_all {n t e l i len : Nat} {M : mv_M} (hI : lv4_ n t e l i len M) : ∀ j, j < 26 → ∃ (M4 : mv_M) (n' t' e' l' : Nat), rw_ n' t' e' l' M4 M4 ∧ (∀ g, 50 ≤ g → M4 g = M g) ∧ lgo_ (lpc_ j) i M M4 := by
  intro j hj
  rcases (show j = 0 ∨ j = 1 ∨ j = 2 ∨ j = 3 ∨ j = 4 ∨ j = 5 ∨ j = 6 ∨ j = 7 ∨ j = 8 ∨ j = 9 ∨ j = 10 ∨ j = 11 ∨ j = 12 ∨ j = 13 ∨ j = 14 ∨ j = 15 ∨ j = 16 ∨ j = 17 ∨ j = 18 ∨ j = 19 ∨ j = 20 ∨ j = 21 ∨ j = 22 ∨ j = 23 ∨ j = 24 ∨ j = 25 by omega) with rfl | rfl | rfl | rfl | rfl | rfl | rfl | rfl | rfl | rfl | rfl | rfl | rfl | rfl | rfl | rfl | rfl | rfl | rfl | rfl | rfl | rfl | rfl | rfl | rfl | rfl
  · exact lc_add hI
  · exact lc_set hI
  · exact lc_property hI
  · exact lc_depend hI
  · exact lc_clear hI
  · exact lc_dependency hI
  · exact lc_profile hI
  · exact lc_components hI
  · exact lc_candidates hI
  · exact lc_chosen hI
  · exact lc_problem hI
  · exact lc_needs hI
  · exact lc_resolve hI
  · exact lc_provide hI
  · exact lc_start hI
  · exact lc_begin hI
  · exact lc_end hI
  · exact lc_close hI
  · exact lc_instances hI
  · exact lc_componentOf hI
  · exact lc_isAlive hI
  · exact lc_injected hI
  · exact lc_event hI
  · exact lc_failureKind hI
  · exact lc_failureDetail hI
  · exact lc_failureChain hI
theorem e_tsw1 {d b k pc dd pc0 : Nat} {lv : mv_L} {st : List mv_V} {M0 M' : mv_M} {o : mv_O} {x hi : Int32} (ts : List (Int32 × Nat)) (h : mv_ac k pc lv (mv_I x :: st) M0 = mv_br ((x < 0 ∨ hi < x, (dd, lv, st, M0)) :: mv_sw x ts lv st M0)) (hne : ¬ (x < 0 ∨ hi < x)) (hu : ∀ t, t ∈ ts → x = t.1 → t.2 = pc0) (he : er_ d b k (pc0, lv, st, M0) o M') : er_ d b k (pc, lv, mv_I x :: st, M0) o M' := e_tsw ts h (fun q => absurd q hne) (fun t ht ht1 => by rw [hu t ht ht1]; exact he)
theorem e_tsw0 {d b k pc dd : Nat} {lv : mv_L} {st : List mv_V} {M0 M' : mv_M} {o : mv_O} {x hi : Int32} (ts : List (Int32 × Nat)) (h : mv_ac k pc lv (mv_I x :: st) M0 = mv_br ((x < 0 ∨ hi < x, (dd, lv, st, M0)) :: mv_sw x ts lv st M0)) (hu : ∀ t, t ∈ ts → ¬ x = t.1) (he : er_ d b k (dd, lv, st, M0) o M') : er_ d b k (pc, lv, mv_I x :: st, M0) o M' := e_tsw ts h (fun _ => he) (fun t ht ht1 => absurd ht1 (hu t ht))
def lts_ : List (Int32 × Nat) := [(0, 156), (1, 224), (2, 304), (3, 372), (4, 464), (5, 520), (6, 600), (7, 691), (8, 704), (9, 772), (10, 840), (11, 896), (12, 952), (13, 1020), (14, 1088), (15, 1132), (16, 1176), (17, 1220), (18, 1233), (19, 1246), (20, 1302), (21, 1365), (22, 1433), (23, 1458), (24, 1471), (25, 1484)]
theorem lts_k : ∀ j, j < 26 → ∀ t, t ∈ lts_ → nI j = t.1 → t.2 = lpc_ j := by decide +kernel
theorem lts_r : ∀ t, t ∈ lts_ → ¬ (t.1 < 0 ∨ 25 < t.1) := by decide +kernel
theorem len5 {len i : Nat} (hl : len ≤ 2560) (hi : i ≤ 5000) : (nI len - 5 < nI i) ↔ len < i + 5 := by
  rw [Int32.lt_iff_toInt_lt, nI_toInt (by omega)]
  have h : (nI len - 5).toInt = len - 5 := by
    rcases Nat.lt_or_ge len 5 with q | q
    · rcases (show len = 0 ∨ len = 1 ∨ len = 2 ∨ len = 3 ∨ len = 4 by omega) with rfl | rfl | rfl | rfl | rfl <;> decide
    · obtain ⟨m, rfl⟩ : ∃ m, len = m + 5 := ⟨len - 5, by omega⟩
      rw [← nI_add m 5, show nI 5 = (5 : Int32) from rfl, Int32.add_sub_cancel, nI_toInt (by omega)]
      omega
  rw [h]
  omega
theorem sv_cg {M M' : mv_M} (h : sv_ M) (hM : ∀ g, 50 ≤ g → M' g = M g) : sv_ M' := by
  obtain ⟨⟨h1, h2⟩, h3⟩ := h
  refine ⟨⟨?_, ?_⟩, fun p hp => ?_⟩
  · unfold mv_xl at h1 ⊢
    rw [hM 60 (by omega)]
    exact h1
  · unfold mv_xl at h2 ⊢
    rw [hM 60 (by omega)]
    exact h2
  · rw [hM 50 (by omega), hM 51 (by omega)]
    exact h3 p hp
set_option maxRecDepth 100000 in
theorem ll_exit {i len b : Nat} {M : mv_M} (h : len < i + 5) (hl : len ≤ 2560) (hi : i ≤ 5000) (hlen : mv_xl M 52 = len) (z5 z6 : Option mv_V) : er_ 102 b kL_law (23, [some (mv_R 52 0), some (mv_R 0 0), some (mv_R 22 0), some (mv_R 42 0), some (mv_I (nI i)), z5, z6], [], M) (Sum.inl (some (mv_I 1))) M := by
  have hgt : Int32.ofNat len - 5 < nI i := (len5 hl hi).mpr h
  refine e_run 5 rfl ?_ ?_
  · exact ⟨rfl, trivial⟩
  try simp only [hlen]
  refine e_if rfl (fun h29 => ?_) (fun h29 => absurd hgt h29)
  refine e_run 1 rfl trivial ?_
  try simp only [hlen]
  exact e_ret rfl (Or.inr rfl) rfl rfl
set_option maxRecDepth 100000 in
theorem ll_to39 {i len b : Nat} {M M9 : mv_M} {R : mv_O} (h : i + 5 ≤ len) (hl : len ≤ 2560) (hi : i ≤ 5000) (hlen : mv_xl M 52 = len) (z5 z6 : Option mv_V) (hk : er_ 102 b kL_law (39, [some (mv_R 52 0), some (mv_R 0 0), some (mv_R 22 0), some (mv_R 42 0), some (mv_I (nI i)), z5, z6], [mv_I (M 52 0 (nI i).toNatClampNeg &&& 31)], M) R M9) : er_ 102 b kL_law (23, [some (mv_R 52 0), some (mv_R 0 0), some (mv_R 22 0), some (mv_R 42 0), some (mv_I (nI i)), z5, z6], [], M) R M9 := by
  have hgt : ¬ Int32.ofNat len - 5 < nI i := fun q => absurd ((len5 hl hi).mp q) (by omega)
  refine e_run 5 rfl ?_ ?_
  · (and_intros <;> first | trivial | rfl | (rw [hlen]; exact in_n (by omega) (by omega)))
  try simp only [hlen]
  refine e_if rfl (fun h29 => absurd h29 hgt) (fun h29 => ?_)
  refine e_run 5 rfl ?_ ?_
  · (and_intros <;> first | trivial | rfl | (rw [hlen]; exact in_n (by omega) (by omega)))
  try simp only [hlen]
  exact hk
set_option maxRecDepth 100000 in
theorem ll_1509 {i b : Nat} {M M9 : mv_M} {R : mv_O} (z5 z6 : Option mv_V) (hk : er_ 102 b kL_law (23, [some (mv_R 52 0), some (mv_R 0 0), some (mv_R 22 0), some (mv_R 42 0), some (mv_I (nI (i + 5))), z5, z6], [], M) R M9) : er_ 102 b kL_law (1509, [some (mv_R 52 0), some (mv_R 0 0), some (mv_R 22 0), some (mv_R 42 0), some (mv_I (nI i)), z5, z6], [], M) R M9 := by
  refine e_run 2 rfl trivial ?_
  exact er_cong (by rw [show (5 : Int32) = nI 5 from rfl, nI_add]) hk
set_option maxRecDepth 100000 in
theorem ll_sw {i b j : Nat} {M M9 : mv_M} {R : mv_O} {x : Int32} (hx : x = nI j) (hj : j < 26) (z5 z6 : Option mv_V) (hk : er_ 102 b kL_law (lpc_ j, [some (mv_R 52 0), some (mv_R 0 0), some (mv_R 22 0), some (mv_R 42 0), some (mv_I (nI i)), z5, z6], [], M) R M9) : er_ 102 b kL_law (39, [some (mv_R 52 0), some (mv_R 0 0), some (mv_R 22 0), some (mv_R 42 0), some (mv_I (nI i)), z5, z6], [mv_I x], M) R M9 := by
  refine e_tsw1 lts_ rfl ?_ (fun t ht ht1 => lts_k j hj t ht (hx.symm.trans ht1)) hk
  rw [hx]
  refine not_or.mpr ⟨nI_pos (by omega), fun q9 => ?_⟩
  rw [show (25 : Int32) = nI 25 from rfl, nI_ltI (by omega) (by omega)] at q9
  omega
set_option maxRecDepth 100000 in
theorem ll_sw0 {i b : Nat} {M M9 : mv_M} {R : mv_O} {x : Int32} (hx : x < 0 ∨ 25 < x) (z5 z6 : Option mv_V) (hk : er_ 102 b kL_law (1509, [some (mv_R 52 0), some (mv_R 0 0), some (mv_R 22 0), some (mv_R 42 0), some (mv_I (nI i)), z5, z6], [], M) R M9) : er_ 102 b kL_law (39, [some (mv_R 52 0), some (mv_R 0 0), some (mv_R 22 0), some (mv_R 42 0), some (mv_I (nI i)), z5, z6], [mv_I x], M) R M9 := by
  refine e_tsw0 lts_ rfl (fun t ht ht1 => ?_) hk
  exact lts_r t ht (ht1 ▸ hx)
theorem lp_law {len : Nat} (hl : len ≤ 2560) : ∀ (m i b : Nat) (M : mv_M) (n t e l : Nat), 4 * m ≤ b → len ≤ i + 5 * m + 4 → i ≤ 5000 → rw_ n t e l M M → sv_ M → mv_xl M 52 = len → ∃ M9 : mv_M, ∀ z5 z6 : Option mv_V, er_ 102 b kL_law (23, [some (mv_R 52 0), some (mv_R 0 0), some (mv_R 22 0), some (mv_R 42 0), some (mv_I (nI i)), z5, z6], [], M) (Sum.inl (some (mv_I 1))) M9 := by
  intro m
  induction m with
  | zero =>
    intro i b M n t e l hb h1 hi h hS hlen
    exact ⟨M, fun z5 z6 => ll_exit (by omega) hl hi hlen z5 z6⟩
  | succ m ih =>
    intro i b M n t e l hb h1 hi h hS hlen
    rcases Nat.lt_or_ge len (i + 5) with q | q
    · exact ⟨M, fun z5 z6 => ll_exit q hl hi hlen z5 z6⟩
    · by_cases hx : M 52 0 (nI i).toNatClampNeg &&& 31 < 0 ∨ 25 < M 52 0 (nI i).toNatClampNeg &&& 31
      · obtain ⟨M9, h9⟩ := ih (i + 5) b M n t e l (by omega) (by omega) (by omega) h hS hlen
        exact ⟨M9, fun z5 z6 => ll_to39 q hl hi hlen z5 z6 (ll_sw0 hx z5 z6 (ll_1509 z5 z6 (h9 z5 z6)))⟩
      · have hx2 := not_or.mp hx
        obtain ⟨j, hj, hjx⟩ := nI_of hx2.1
        have hj26 : j < 26 := by
          rcases Nat.lt_or_ge j 26 with g | g
          · exact g
          · refine absurd ?_ hx2.2
            rw [hjx, show (25 : Int32) = nI 25 from rfl, nI_ltI (by omega) (by omega)]
            omega
        obtain ⟨M4, n', t', e', l', a1, a2, a3⟩ := lc_all (i := i) (len := len) ⟨h, hS, hlen, hl, q⟩ j hj26
        have hlen4 : mv_xl M4 52 = len := by
          unfold mv_xl at hlen ⊢
          rw [a2 60 (by omega)]
          exact hlen
        obtain ⟨M9, h9⟩ := ih (i + 5) (b - 4) M4 n' t' e' l' (by omega) (by omega) (by omega) a1 (sv_cg hS a2) hlen4
        refine ⟨M9, fun z5 z6 => ll_to39 q hl hi hlen z5 z6 (ll_sw hjx hj26 z5 z6 ?_)⟩
        exact er_ble (a3 (b - 4) z5 z6 _ _ (fun y5 y6 => ll_1509 y5 y6 (h9 y5 y6))) (by omega)

