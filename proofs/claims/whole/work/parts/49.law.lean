/-! THE CASES OF THE LAW -/
set_option maxRecDepth 100000 in
theorem lc_add {n t e l i len : Nat} {M : mv_M} (hI : lv4_ n t e l i len M) : ∃ (M4 : mv_M) (n' t' e' l' : Nat), rw_ n' t' e' l' M4 M4 ∧ (∀ g, 50 ≤ g → M4 g = M g) ∧ lgo_ 156 i M M4 := by
  obtain ⟨h, hS, hlen, h25, hi⟩ := hI
  obtain ⟨M2, M4, n', t', e', l', k, b, a1, a2, a3, h50, h54, hk, hkb⟩ := stp_ (an_add h hS (M 52 0 (nI i + nI 1).toNatClampNeg) (M 52 0 (nI i + nI 2).toNatClampNeg)) (wr_add (M 52 0 (nI i + nI 1).toNatClampNeg) (M 52 0 (nI i + nI 2).toNatClampNeg) M) rfl rfl h (gt_c trivial (gt_c trivial gt_n)) (gt_c trivial (gt_c trivial gt_n))
  have h52 : M2 52 = M 52 := h50 52 (by omega)
  have hv1 : vp_in (nI i + nI 1) (mv_xl M 52) := by rw [hlen]; exact lv_vp hi h25 (by omega)
  have hu1 : vp_in (nI i + nI 1) (mv_xl M2 52) := by rw [show mv_xl M2 52 = mv_xl M 52 by unfold mv_xl; rw [h50 60 (by omega)]]; exact hv1
  have hv2 : vp_in (nI i + nI 2) (mv_xl M 52) := by rw [hlen]; exact lv_vp hi h25 (by omega)
  have hu2 : vp_in (nI i + nI 2) (mv_xl M2 52) := by rw [show mv_xl M2 52 = mv_xl M 52 by unfold mv_xl; rw [h50 60 (by omega)]]; exact hv2
  refine ⟨M4, n', t', e', l', a3, h54, fun b9 z5 z6 R M9 hk9 => ?_⟩
  refine e_run 12 rfl ?_ ?_
  · (and_intros <;> first | trivial | rfl | exact ⟨by unfold vp_in; decide, by decide⟩ | (unfold vp_in; decide) | decide | exact hv1 | exact hu1 | exact hv2 | exact hu2)
  try simp only [h52, cl_0]
  refine e_calli rfl a1 (Nat.le_trans (show mv_mc kL_add ≤ 4 by decide) (Nat.le_add_left 4 b9)) ?_
  refine e_run 12 rfl ?_ ?_
  · (and_intros <;> first | trivial | rfl | exact ⟨by unfold vp_in; decide, by decide⟩ | (unfold vp_in; decide) | decide | exact hv1 | exact hu1 | exact hv2 | exact hu2)
  try simp only [h52, cl_0]
  refine e_calli rfl a2 (Nat.zero_le _) ?_
  refine e_run 2 rfl trivial ?_
  try simp only [h52, cl_0]
  refine e_calli rfl (rp_thrown 101 M4) (Nat.zero_le _) ?_
  refine e_run 1 rfl trivial ?_
  try simp only [h52, cl_0]
  refine e_if rfl (fun h199 => ?_) (fun h199 => absurd hk h199)
  refine e_run 1 rfl trivial ?_
  try simp only [h52, cl_0]
  refine e_if rfl (fun h206 => ?_) (fun h206 => ?_)
  · refine e_run 1 rfl trivial ?_
    try simp only [h52, cl_0]
    exact er_ble (hk9 _ _) (by show b9 ≤ b9 + 4 - 1 - 0 - 0; omega)
  · refine e_run 6 rfl ?_ ?_
    · (and_intros <;> first | trivial | rfl | exact ⟨by unfold vp_in; decide, by decide⟩ | (unfold vp_in; decide) | decide | exact hv1 | exact hu1 | exact hv2 | exact hu2)
    try simp only [h52, cl_0]
    refine e_if rfl (fun h216 => ?_) (fun h216 => absurd ((lg_cmp_eq _ _).mpr (by rw [(hkb h206).1])) h216)
    refine e_run 1 rfl trivial ?_
    try simp only [h52, cl_0]
    exact er_ble (hk9 _ _) (by show b9 ≤ b9 + 4 - 1 - 0 - 0; omega)
set_option maxRecDepth 100000 in
theorem lc_set {n t e l i len : Nat} {M : mv_M} (hI : lv4_ n t e l i len M) : ∃ (M4 : mv_M) (n' t' e' l' : Nat), rw_ n' t' e' l' M4 M4 ∧ (∀ g, 50 ≤ g → M4 g = M g) ∧ lgo_ 224 i M M4 := by
  obtain ⟨h, hS, hlen, h25, hi⟩ := hI
  obtain ⟨M2, M4, n', t', e', l', k, b, a1, a2, a3, h50, h54, hk, hkb⟩ := stp_ (an_set h hS (M 52 0 (nI i + nI 1).toNatClampNeg) (M 52 0 (nI i + nI 2).toNatClampNeg) (M 52 0 (nI i + nI 3).toNatClampNeg)) (wr_set (M 52 0 (nI i + nI 1).toNatClampNeg) (M 52 0 (nI i + nI 2).toNatClampNeg) (M 52 0 (nI i + nI 3).toNatClampNeg) M) rfl rfl h (gt_c trivial (gt_c trivial (gt_c trivial gt_n))) (gt_c trivial (gt_c trivial (gt_c trivial gt_n)))
  have h52 : M2 52 = M 52 := h50 52 (by omega)
  have hv1 : vp_in (nI i + nI 1) (mv_xl M 52) := by rw [hlen]; exact lv_vp hi h25 (by omega)
  have hu1 : vp_in (nI i + nI 1) (mv_xl M2 52) := by rw [show mv_xl M2 52 = mv_xl M 52 by unfold mv_xl; rw [h50 60 (by omega)]]; exact hv1
  have hv2 : vp_in (nI i + nI 2) (mv_xl M 52) := by rw [hlen]; exact lv_vp hi h25 (by omega)
  have hu2 : vp_in (nI i + nI 2) (mv_xl M2 52) := by rw [show mv_xl M2 52 = mv_xl M 52 by unfold mv_xl; rw [h50 60 (by omega)]]; exact hv2
  have hv3 : vp_in (nI i + nI 3) (mv_xl M 52) := by rw [hlen]; exact lv_vp hi h25 (by omega)
  have hu3 : vp_in (nI i + nI 3) (mv_xl M2 52) := by rw [show mv_xl M2 52 = mv_xl M 52 by unfold mv_xl; rw [h50 60 (by omega)]]; exact hv3
  refine ⟨M4, n', t', e', l', a3, h54, fun b9 z5 z6 R M9 hk9 => ?_⟩
  refine e_run 17 rfl ?_ ?_
  · (and_intros <;> first | trivial | rfl | exact ⟨by unfold vp_in; decide, by decide⟩ | (unfold vp_in; decide) | decide | exact hv1 | exact hu1 | exact hv2 | exact hu2 | exact hv3 | exact hu3)
  try simp only [h52, cl_0]
  refine e_calli rfl a1 (Nat.le_trans (show mv_mc kL_set ≤ 4 by decide) (Nat.le_add_left 4 b9)) ?_
  refine e_run 17 rfl ?_ ?_
  · (and_intros <;> first | trivial | rfl | exact ⟨by unfold vp_in; decide, by decide⟩ | (unfold vp_in; decide) | decide | exact hv1 | exact hu1 | exact hv2 | exact hu2 | exact hv3 | exact hu3)
  try simp only [h52, cl_0]
  refine e_calli rfl a2 (Nat.zero_le _) ?_
  refine e_run 2 rfl trivial ?_
  try simp only [h52, cl_0]
  refine e_calli rfl (rp_thrown 101 M4) (Nat.zero_le _) ?_
  refine e_run 1 rfl trivial ?_
  try simp only [h52, cl_0]
  refine e_if rfl (fun h279 => ?_) (fun h279 => absurd hk h279)
  refine e_run 1 rfl trivial ?_
  try simp only [h52, cl_0]
  refine e_if rfl (fun h286 => ?_) (fun h286 => ?_)
  · refine e_run 1 rfl trivial ?_
    try simp only [h52, cl_0]
    exact er_ble (hk9 _ _) (by show b9 ≤ b9 + 4 - 3 - 0 - 0; omega)
  · refine e_run 6 rfl ?_ ?_
    · (and_intros <;> first | trivial | rfl | exact ⟨by unfold vp_in; decide, by decide⟩ | (unfold vp_in; decide) | decide | exact hv1 | exact hu1 | exact hv2 | exact hu2 | exact hv3 | exact hu3)
    try simp only [h52, cl_0]
    refine e_if rfl (fun h296 => ?_) (fun h296 => absurd ((lg_cmp_eq _ _).mpr (by rw [(hkb h286).1])) h296)
    refine e_run 1 rfl trivial ?_
    try simp only [h52, cl_0]
    exact er_ble (hk9 _ _) (by show b9 ≤ b9 + 4 - 3 - 0 - 0; omega)
set_option maxRecDepth 100000 in
theorem lc_property {n t e l i len : Nat} {M : mv_M} (hI : lv4_ n t e l i len M) : ∃ (M4 : mv_M) (n' t' e' l' : Nat), rw_ n' t' e' l' M4 M4 ∧ (∀ g, 50 ≤ g → M4 g = M g) ∧ lgo_ 304 i M M4 := by
  obtain ⟨h, hS, hlen, h25, hi⟩ := hI
  obtain ⟨M2, M4, n', t', e', l', k, b, a1, a2, a3, h50, h54, hk, hkb⟩ := stp_ (an_property h (M 52 0 (nI i + nI 1).toNatClampNeg) (M 52 0 (nI i + nI 2).toNatClampNeg)) (wr_property (M 52 0 (nI i + nI 1).toNatClampNeg) (M 52 0 (nI i + nI 2).toNatClampNeg) M) rfl rfl h (gt_c trivial (gt_c trivial gt_n)) (gt_c trivial (gt_c trivial gt_n))
  have h52 : M2 52 = M 52 := h50 52 (by omega)
  have hv1 : vp_in (nI i + nI 1) (mv_xl M 52) := by rw [hlen]; exact lv_vp hi h25 (by omega)
  have hu1 : vp_in (nI i + nI 1) (mv_xl M2 52) := by rw [show mv_xl M2 52 = mv_xl M 52 by unfold mv_xl; rw [h50 60 (by omega)]]; exact hv1
  have hv2 : vp_in (nI i + nI 2) (mv_xl M 52) := by rw [hlen]; exact lv_vp hi h25 (by omega)
  have hu2 : vp_in (nI i + nI 2) (mv_xl M2 52) := by rw [show mv_xl M2 52 = mv_xl M 52 by unfold mv_xl; rw [h50 60 (by omega)]]; exact hv2
  refine ⟨M4, n', t', e', l', a3, h54, fun b9 z5 z6 R M9 hk9 => ?_⟩
  refine e_run 12 rfl ?_ ?_
  · (and_intros <;> first | trivial | rfl | exact ⟨by unfold vp_in; decide, by decide⟩ | (unfold vp_in; decide) | decide | exact hv1 | exact hu1 | exact hv2 | exact hu2)
  try simp only [h52, cl_0]
  refine e_calli rfl a1 (Nat.le_trans (show mv_mc kL_property ≤ 4 by decide) (Nat.le_add_left 4 b9)) ?_
  refine e_run 12 rfl ?_ ?_
  · (and_intros <;> first | trivial | rfl | exact ⟨by unfold vp_in; decide, by decide⟩ | (unfold vp_in; decide) | decide | exact hv1 | exact hu1 | exact hv2 | exact hu2)
  try simp only [h52, cl_0]
  refine e_calli rfl a2 (Nat.zero_le _) ?_
  refine e_run 2 rfl trivial ?_
  try simp only [h52, cl_0]
  refine e_calli rfl (rp_thrown 101 M4) (Nat.zero_le _) ?_
  refine e_run 1 rfl trivial ?_
  try simp only [h52, cl_0]
  refine e_if rfl (fun h347 => ?_) (fun h347 => absurd hk h347)
  refine e_run 1 rfl trivial ?_
  try simp only [h52, cl_0]
  refine e_if rfl (fun h354 => ?_) (fun h354 => ?_)
  · refine e_run 1 rfl trivial ?_
    try simp only [h52, cl_0]
    exact er_ble (hk9 _ _) (by show b9 ≤ b9 + 4 - 2 - 0 - 0; omega)
  · refine e_run 6 rfl ?_ ?_
    · (and_intros <;> first | trivial | rfl | exact ⟨by unfold vp_in; decide, by decide⟩ | (unfold vp_in; decide) | decide | exact hv1 | exact hu1 | exact hv2 | exact hu2)
    try simp only [h52, cl_0]
    refine e_if rfl (fun h364 => ?_) (fun h364 => absurd ((lg_cmp_eq _ _).mpr (by rw [(hkb h354).1])) h364)
    refine e_run 1 rfl trivial ?_
    try simp only [h52, cl_0]
    exact er_ble (hk9 _ _) (by show b9 ≤ b9 + 4 - 2 - 0 - 0; omega)
set_option maxRecDepth 100000 in
theorem lc_depend {n t e l i len : Nat} {M : mv_M} (hI : lv4_ n t e l i len M) : ∃ (M4 : mv_M) (n' t' e' l' : Nat), rw_ n' t' e' l' M4 M4 ∧ (∀ g, 50 ≤ g → M4 g = M g) ∧ lgo_ 372 i M M4 := by
  obtain ⟨h, hS, hlen, h25, hi⟩ := hI
  obtain ⟨M2, M4, n', t', e', l', k, b, a1, a2, a3, h50, h54, hk, hkb⟩ := stp_ (an_depend h (M 52 0 (nI i + nI 1).toNatClampNeg) (M 52 0 (nI i + nI 2).toNatClampNeg) (M 52 0 (nI i + nI 3).toNatClampNeg) (M 52 0 (nI i + nI 4).toNatClampNeg)) (wr_depend (M 52 0 (nI i + nI 1).toNatClampNeg) (M 52 0 (nI i + nI 2).toNatClampNeg) (M 52 0 (nI i + nI 3).toNatClampNeg) (M 52 0 (nI i + nI 4).toNatClampNeg) M) rfl rfl h (gt_c trivial (gt_c trivial (gt_c trivial (gt_c trivial gt_n)))) (gt_c trivial (gt_c trivial (gt_c trivial (gt_c trivial gt_n))))
  have h52 : M2 52 = M 52 := h50 52 (by omega)
  have hv1 : vp_in (nI i + nI 1) (mv_xl M 52) := by rw [hlen]; exact lv_vp hi h25 (by omega)
  have hu1 : vp_in (nI i + nI 1) (mv_xl M2 52) := by rw [show mv_xl M2 52 = mv_xl M 52 by unfold mv_xl; rw [h50 60 (by omega)]]; exact hv1
  have hv2 : vp_in (nI i + nI 2) (mv_xl M 52) := by rw [hlen]; exact lv_vp hi h25 (by omega)
  have hu2 : vp_in (nI i + nI 2) (mv_xl M2 52) := by rw [show mv_xl M2 52 = mv_xl M 52 by unfold mv_xl; rw [h50 60 (by omega)]]; exact hv2
  have hv3 : vp_in (nI i + nI 3) (mv_xl M 52) := by rw [hlen]; exact lv_vp hi h25 (by omega)
  have hu3 : vp_in (nI i + nI 3) (mv_xl M2 52) := by rw [show mv_xl M2 52 = mv_xl M 52 by unfold mv_xl; rw [h50 60 (by omega)]]; exact hv3
  have hv4 : vp_in (nI i + nI 4) (mv_xl M 52) := by rw [hlen]; exact lv_vp hi h25 (by omega)
  have hu4 : vp_in (nI i + nI 4) (mv_xl M2 52) := by rw [show mv_xl M2 52 = mv_xl M 52 by unfold mv_xl; rw [h50 60 (by omega)]]; exact hv4
  refine ⟨M4, n', t', e', l', a3, h54, fun b9 z5 z6 R M9 hk9 => ?_⟩
  refine e_run 22 rfl ?_ ?_
  · (and_intros <;> first | trivial | rfl | exact ⟨by unfold vp_in; decide, by decide⟩ | (unfold vp_in; decide) | decide | exact hv1 | exact hu1 | exact hv2 | exact hu2 | exact hv3 | exact hu3 | exact hv4 | exact hu4)
  try simp only [h52, cl_0]
  refine e_calli rfl a1 (Nat.le_trans (show mv_mc kL_depend ≤ 4 by decide) (Nat.le_add_left 4 b9)) ?_
  refine e_run 22 rfl ?_ ?_
  · (and_intros <;> first | trivial | rfl | exact ⟨by unfold vp_in; decide, by decide⟩ | (unfold vp_in; decide) | decide | exact hv1 | exact hu1 | exact hv2 | exact hu2 | exact hv3 | exact hu3 | exact hv4 | exact hu4)
  try simp only [h52, cl_0]
  refine e_calli rfl a2 (Nat.zero_le _) ?_
  refine e_run 2 rfl trivial ?_
  try simp only [h52, cl_0]
  refine e_calli rfl (rp_thrown 101 M4) (Nat.zero_le _) ?_
  refine e_run 1 rfl trivial ?_
  try simp only [h52, cl_0]
  refine e_if rfl (fun h439 => ?_) (fun h439 => absurd hk h439)
  refine e_run 1 rfl trivial ?_
  try simp only [h52, cl_0]
  refine e_if rfl (fun h446 => ?_) (fun h446 => ?_)
  · refine e_run 1 rfl trivial ?_
    try simp only [h52, cl_0]
    exact er_ble (hk9 _ _) (by show b9 ≤ b9 + 4 - 3 - 0 - 0; omega)
  · refine e_run 6 rfl ?_ ?_
    · (and_intros <;> first | trivial | rfl | exact ⟨by unfold vp_in; decide, by decide⟩ | (unfold vp_in; decide) | decide | exact hv1 | exact hu1 | exact hv2 | exact hu2 | exact hv3 | exact hu3 | exact hv4 | exact hu4)
    try simp only [h52, cl_0]
    refine e_if rfl (fun h456 => ?_) (fun h456 => absurd ((lg_cmp_eq _ _).mpr (by rw [(hkb h446).1])) h456)
    refine e_run 1 rfl trivial ?_
    try simp only [h52, cl_0]
    exact er_ble (hk9 _ _) (by show b9 ≤ b9 + 4 - 3 - 0 - 0; omega)
set_option maxRecDepth 100000 in
theorem lc_clear {n t e l i len : Nat} {M : mv_M} (hI : lv4_ n t e l i len M) : ∃ (M4 : mv_M) (n' t' e' l' : Nat), rw_ n' t' e' l' M4 M4 ∧ (∀ g, 50 ≤ g → M4 g = M g) ∧ lgo_ 464 i M M4 := by
  obtain ⟨h, hS, hlen, h25, hi⟩ := hI
  obtain ⟨M2, M4, n', t', e', l', k, b, a1, a2, a3, h50, h54, hk, hkb⟩ := stp_ (an_clear h (M 52 0 (nI i + nI 1).toNatClampNeg)) (wr_clear (M 52 0 (nI i + nI 1).toNatClampNeg) M) rfl rfl h (gt_c trivial gt_n) (gt_c trivial gt_n)
  have h52 : M2 52 = M 52 := h50 52 (by omega)
  have hv1 : vp_in (nI i + nI 1) (mv_xl M 52) := by rw [hlen]; exact lv_vp hi h25 (by omega)
  have hu1 : vp_in (nI i + nI 1) (mv_xl M2 52) := by rw [show mv_xl M2 52 = mv_xl M 52 by unfold mv_xl; rw [h50 60 (by omega)]]; exact hv1
  refine ⟨M4, n', t', e', l', a3, h54, fun b9 z5 z6 R M9 hk9 => ?_⟩
  refine e_run 7 rfl ?_ ?_
  · (and_intros <;> first | trivial | rfl | exact ⟨by unfold vp_in; decide, by decide⟩ | (unfold vp_in; decide) | decide | exact hv1 | exact hu1)
  try simp only [h52, cl_0]
  refine e_calli rfl a1 (Nat.le_trans (show mv_mc kL_clear ≤ 4 by decide) (Nat.le_add_left 4 b9)) ?_
  refine e_run 7 rfl ?_ ?_
  · (and_intros <;> first | trivial | rfl | exact ⟨by unfold vp_in; decide, by decide⟩ | (unfold vp_in; decide) | decide | exact hv1 | exact hu1)
  try simp only [h52, cl_0]
  refine e_calli rfl a2 (Nat.zero_le _) ?_
  refine e_run 2 rfl trivial ?_
  try simp only [h52, cl_0]
  refine e_calli rfl (rp_thrown 101 M4) (Nat.zero_le _) ?_
  refine e_run 1 rfl trivial ?_
  try simp only [h52, cl_0]
  refine e_if rfl (fun h495 => ?_) (fun h495 => absurd hk h495)
  refine e_run 1 rfl trivial ?_
  try simp only [h52, cl_0]
  refine e_if rfl (fun h502 => ?_) (fun h502 => ?_)
  · refine e_run 1 rfl trivial ?_
    try simp only [h52, cl_0]
    exact er_ble (hk9 _ _) (by show b9 ≤ b9 + 4 - 1 - 0 - 0; omega)
  · refine e_run 6 rfl ?_ ?_
    · (and_intros <;> first | trivial | rfl | exact ⟨by unfold vp_in; decide, by decide⟩ | (unfold vp_in; decide) | decide | exact hv1 | exact hu1)
    try simp only [h52, cl_0]
    refine e_if rfl (fun h512 => ?_) (fun h512 => absurd ((lg_cmp_eq _ _).mpr (by rw [(hkb h502).1])) h512)
    refine e_run 1 rfl trivial ?_
    try simp only [h52, cl_0]
    exact er_ble (hk9 _ _) (by show b9 ≤ b9 + 4 - 1 - 0 - 0; omega)
set_option maxRecDepth 100000 in
theorem lc_dependency {n t e l i len : Nat} {M : mv_M} (hI : lv4_ n t e l i len M) : ∃ (M4 : mv_M) (n' t' e' l' : Nat), rw_ n' t' e' l' M4 M4 ∧ (∀ g, 50 ≤ g → M4 g = M g) ∧ lgo_ 520 i M M4 := by
  obtain ⟨h, hS, hlen, h25, hi⟩ := hI
  obtain ⟨M2, M4, n', t', e', l', k, b, a1, a2, a3, h50, h54, hk, hkb⟩ := stp_ (an_dependency h (M 52 0 (nI i + nI 1).toNatClampNeg) (M 52 0 (nI i + nI 2).toNatClampNeg) (M 52 0 (nI i + nI 3).toNatClampNeg)) (wr_dependency (M 52 0 (nI i + nI 1).toNatClampNeg) (M 52 0 (nI i + nI 2).toNatClampNeg) (M 52 0 (nI i + nI 3).toNatClampNeg) M) rfl rfl h (gt_c trivial (gt_c trivial (gt_c trivial gt_n))) (gt_c trivial (gt_c trivial (gt_c trivial gt_n)))
  have h52 : M2 52 = M 52 := h50 52 (by omega)
  have hv1 : vp_in (nI i + nI 1) (mv_xl M 52) := by rw [hlen]; exact lv_vp hi h25 (by omega)
  have hu1 : vp_in (nI i + nI 1) (mv_xl M2 52) := by rw [show mv_xl M2 52 = mv_xl M 52 by unfold mv_xl; rw [h50 60 (by omega)]]; exact hv1
  have hv2 : vp_in (nI i + nI 2) (mv_xl M 52) := by rw [hlen]; exact lv_vp hi h25 (by omega)
  have hu2 : vp_in (nI i + nI 2) (mv_xl M2 52) := by rw [show mv_xl M2 52 = mv_xl M 52 by unfold mv_xl; rw [h50 60 (by omega)]]; exact hv2
  have hv3 : vp_in (nI i + nI 3) (mv_xl M 52) := by rw [hlen]; exact lv_vp hi h25 (by omega)
  have hu3 : vp_in (nI i + nI 3) (mv_xl M2 52) := by rw [show mv_xl M2 52 = mv_xl M 52 by unfold mv_xl; rw [h50 60 (by omega)]]; exact hv3
  refine ⟨M4, n', t', e', l', a3, h54, fun b9 z5 z6 R M9 hk9 => ?_⟩
  refine e_run 17 rfl ?_ ?_
  · (and_intros <;> first | trivial | rfl | exact ⟨by unfold vp_in; decide, by decide⟩ | (unfold vp_in; decide) | decide | exact hv1 | exact hu1 | exact hv2 | exact hu2 | exact hv3 | exact hu3)
  try simp only [h52, cl_0]
  refine e_calli rfl a1 (Nat.le_trans (show mv_mc kL_dependency ≤ 4 by decide) (Nat.le_add_left 4 b9)) ?_
  refine e_run 17 rfl ?_ ?_
  · (and_intros <;> first | trivial | rfl | exact ⟨by unfold vp_in; decide, by decide⟩ | (unfold vp_in; decide) | decide | exact hv1 | exact hu1 | exact hv2 | exact hu2 | exact hv3 | exact hu3)
  try simp only [h52, cl_0]
  refine e_calli rfl a2 (Nat.zero_le _) ?_
  refine e_run 2 rfl trivial ?_
  try simp only [h52, cl_0]
  refine e_calli rfl (rp_thrown 101 M4) (Nat.zero_le _) ?_
  refine e_run 1 rfl trivial ?_
  try simp only [h52, cl_0]
  refine e_if rfl (fun h575 => ?_) (fun h575 => absurd hk h575)
  refine e_run 1 rfl trivial ?_
  try simp only [h52, cl_0]
  refine e_if rfl (fun h582 => ?_) (fun h582 => ?_)
  · refine e_run 1 rfl trivial ?_
    try simp only [h52, cl_0]
    exact er_ble (hk9 _ _) (by show b9 ≤ b9 + 4 - 2 - 0 - 0; omega)
  · refine e_run 6 rfl ?_ ?_
    · (and_intros <;> first | trivial | rfl | exact ⟨by unfold vp_in; decide, by decide⟩ | (unfold vp_in; decide) | decide | exact hv1 | exact hu1 | exact hv2 | exact hu2 | exact hv3 | exact hu3)
    try simp only [h52, cl_0]
    refine e_if rfl (fun h592 => ?_) (fun h592 => absurd ((lg_cmp_eq _ _).mpr (by rw [(hkb h582).1])) h592)
    refine e_run 1 rfl trivial ?_
    try simp only [h52, cl_0]
    exact er_ble (hk9 _ _) (by show b9 ≤ b9 + 4 - 2 - 0 - 0; omega)
set_option maxRecDepth 100000 in
theorem lc_profile {n t e l i len : Nat} {M : mv_M} (hI : lv4_ n t e l i len M) : ∃ (M4 : mv_M) (n' t' e' l' : Nat), rw_ n' t' e' l' M4 M4 ∧ (∀ g, 50 ≤ g → M4 g = M g) ∧ lgo_ 600 i M M4 := by
  obtain ⟨h, hS, hlen, h25, hi⟩ := hI
  by_cases hz : M 52 0 (nI i + nI 2).toNatClampNeg = 0
  · obtain ⟨M2, M4, n', t', e', l', k, b, a1, a2, a3, h50, h54, hk, hkb⟩ := stp_ (an_profile h (M 52 0 (nI i + nI 1).toNatClampNeg) 0) (wr_profile (M 52 0 (nI i + nI 1).toNatClampNeg) 0 M) rfl rfl h (gt_c trivial (gt_c trivial gt_n)) (gt_c trivial (gt_c trivial gt_n))
    have h52 : M2 52 = M 52 := h50 52 (by omega)
    have hv1 : vp_in (nI i + nI 1) (mv_xl M 52) := by rw [hlen]; exact lv_vp hi h25 (by omega)
    have hu1 : vp_in (nI i + nI 1) (mv_xl M2 52) := by rw [show mv_xl M2 52 = mv_xl M 52 by unfold mv_xl; rw [h50 60 (by omega)]]; exact hv1
    have hv2 : vp_in (nI i + nI 2) (mv_xl M 52) := by rw [hlen]; exact lv_vp hi h25 (by omega)
    have hu2 : vp_in (nI i + nI 2) (mv_xl M2 52) := by rw [show mv_xl M2 52 = mv_xl M 52 by unfold mv_xl; rw [h50 60 (by omega)]]; exact hv2
    refine ⟨M4, n', t', e', l', a3, h54, fun b9 z5 z6 R M9 hk9 => ?_⟩
    refine e_run 11 rfl ?_ ?_
    · (and_intros <;> first | trivial | rfl | exact ⟨by unfold vp_in; decide, by decide⟩ | (unfold vp_in; decide) | decide | exact hv1 | exact hu1 | exact hv2 | exact hu2)
    try simp only [h52, cl_0]
    refine e_if rfl (fun h613 => ?_) (fun h613 => absurd hz h613)
    refine e_run 2 rfl trivial ?_
    try simp only [h52, cl_0]
    refine e_calli rfl a1 (Nat.le_trans (show mv_mc kL_profile ≤ 4 by decide) (Nat.le_add_left 4 b9)) ?_
    refine e_run 12 rfl ?_ ?_
    · (and_intros <;> first | trivial | rfl | exact ⟨by unfold vp_in; decide, by decide⟩ | (unfold vp_in; decide) | decide | exact hv1 | exact hu1 | exact hv2 | exact hu2)
    try simp only [h52, cl_0]
    refine e_if rfl (fun h640 => ?_) (fun h640 => absurd hz h640)
    refine e_run 1 rfl trivial ?_
    try simp only [h52, cl_0]
    refine e_calli rfl a2 (Nat.zero_le _) ?_
    refine e_run 2 rfl trivial ?_
    try simp only [h52, cl_0]
    refine e_calli rfl (rp_thrown 101 M4) (Nat.zero_le _) ?_
    refine e_run 1 rfl trivial ?_
    try simp only [h52, cl_0]
    refine e_if rfl (fun h659 => ?_) (fun h659 => absurd hk h659)
    refine e_run 1 rfl trivial ?_
    try simp only [h52, cl_0]
    refine e_if rfl (fun h666 => ?_) (fun h666 => ?_)
    · refine e_run 1 rfl trivial ?_
      try simp only [h52, cl_0]
      exact er_ble (hk9 _ _) (by show b9 ≤ b9 + 4 - 1 - 0 - 0; omega)
    · refine e_run 4 rfl ?_ ?_
      · (and_intros <;> first | trivial | rfl | exact ⟨by unfold vp_in; decide, by decide⟩ | (unfold vp_in; decide) | decide | exact hv1 | exact hu1 | exact hv2 | exact hu2)
      try simp only [h52, cl_0]
      refine e_if rfl (fun h674 => ?_) (fun h674 => ?_)
      · refine e_run 2 rfl trivial ?_
        try simp only [h52, cl_0]
        refine e_if rfl (fun h683 => ?_) (fun h683 => absurd ((lg_cmp_eq _ _).mpr (by first | rw [(hkb h666).1, h674] | rw [(hkb h666).1, (hkb h666).2.resolve_left h674])) h683)
        refine e_run 1 rfl trivial ?_
        try simp only [h52, cl_0]
        exact er_ble (hk9 _ _) (by show b9 ≤ b9 + 4 - 1 - 0 - 0; omega)
      · refine e_run 3 rfl trivial ?_
        try simp only [h52, cl_0]
        refine e_if rfl (fun h683 => ?_) (fun h683 => absurd ((lg_cmp_eq _ _).mpr (by first | rw [(hkb h666).1, h674] | rw [(hkb h666).1, (hkb h666).2.resolve_left h674])) h683)
        refine e_run 1 rfl trivial ?_
        try simp only [h52, cl_0]
        exact er_ble (hk9 _ _) (by show b9 ≤ b9 + 4 - 1 - 0 - 0; omega)
  · obtain ⟨M2, M4, n', t', e', l', k, b, a1, a2, a3, h50, h54, hk, hkb⟩ := stp_ (an_profile h (M 52 0 (nI i + nI 1).toNatClampNeg) 1) (wr_profile (M 52 0 (nI i + nI 1).toNatClampNeg) 1 M) rfl rfl h (gt_c trivial (gt_c trivial gt_n)) (gt_c trivial (gt_c trivial gt_n))
    have h52 : M2 52 = M 52 := h50 52 (by omega)
    have hv1 : vp_in (nI i + nI 1) (mv_xl M 52) := by rw [hlen]; exact lv_vp hi h25 (by omega)
    have hu1 : vp_in (nI i + nI 1) (mv_xl M2 52) := by rw [show mv_xl M2 52 = mv_xl M 52 by unfold mv_xl; rw [h50 60 (by omega)]]; exact hv1
    have hv2 : vp_in (nI i + nI 2) (mv_xl M 52) := by rw [hlen]; exact lv_vp hi h25 (by omega)
    have hu2 : vp_in (nI i + nI 2) (mv_xl M2 52) := by rw [show mv_xl M2 52 = mv_xl M 52 by unfold mv_xl; rw [h50 60 (by omega)]]; exact hv2
    refine ⟨M4, n', t', e', l', a3, h54, fun b9 z5 z6 R M9 hk9 => ?_⟩
    refine e_run 11 rfl ?_ ?_
    · (and_intros <;> first | trivial | rfl | exact ⟨by unfold vp_in; decide, by decide⟩ | (unfold vp_in; decide) | decide | exact hv1 | exact hu1 | exact hv2 | exact hu2)
    try simp only [h52, cl_0]
    refine e_if rfl (fun h613 => absurd h613 hz) (fun h613 => ?_)
    refine e_run 3 rfl trivial ?_
    try simp only [h52, cl_0]
    refine e_calli rfl a1 (Nat.le_trans (show mv_mc kL_profile ≤ 4 by decide) (Nat.le_add_left 4 b9)) ?_
    refine e_run 12 rfl ?_ ?_
    · (and_intros <;> first | trivial | rfl | exact ⟨by unfold vp_in; decide, by decide⟩ | (unfold vp_in; decide) | decide | exact hv1 | exact hu1 | exact hv2 | exact hu2)
    try simp only [h52, cl_0]
    refine e_if rfl (fun h640 => absurd h640 hz) (fun h640 => ?_)
    refine e_run 2 rfl trivial ?_
    try simp only [h52, cl_0]
    refine e_calli rfl a2 (Nat.zero_le _) ?_
    refine e_run 2 rfl trivial ?_
    try simp only [h52, cl_0]
    refine e_calli rfl (rp_thrown 101 M4) (Nat.zero_le _) ?_
    refine e_run 1 rfl trivial ?_
    try simp only [h52, cl_0]
    refine e_if rfl (fun h659 => ?_) (fun h659 => absurd hk h659)
    refine e_run 1 rfl trivial ?_
    try simp only [h52, cl_0]
    refine e_if rfl (fun h666 => ?_) (fun h666 => ?_)
    · refine e_run 1 rfl trivial ?_
      try simp only [h52, cl_0]
      exact er_ble (hk9 _ _) (by show b9 ≤ b9 + 4 - 1 - 0 - 0; omega)
    · refine e_run 4 rfl ?_ ?_
      · (and_intros <;> first | trivial | rfl | exact ⟨by unfold vp_in; decide, by decide⟩ | (unfold vp_in; decide) | decide | exact hv1 | exact hu1 | exact hv2 | exact hu2)
      try simp only [h52, cl_0]
      refine e_if rfl (fun h674 => ?_) (fun h674 => ?_)
      · refine e_run 2 rfl trivial ?_
        try simp only [h52, cl_0]
        refine e_if rfl (fun h683 => ?_) (fun h683 => absurd ((lg_cmp_eq _ _).mpr (by first | rw [(hkb h666).1, h674] | rw [(hkb h666).1, (hkb h666).2.resolve_left h674])) h683)
        refine e_run 1 rfl trivial ?_
        try simp only [h52, cl_0]
        exact er_ble (hk9 _ _) (by show b9 ≤ b9 + 4 - 1 - 0 - 0; omega)
      · refine e_run 3 rfl trivial ?_
        try simp only [h52, cl_0]
        refine e_if rfl (fun h683 => ?_) (fun h683 => absurd ((lg_cmp_eq _ _).mpr (by first | rw [(hkb h666).1, h674] | rw [(hkb h666).1, (hkb h666).2.resolve_left h674])) h683)
        refine e_run 1 rfl trivial ?_
        try simp only [h52, cl_0]
        exact er_ble (hk9 _ _) (by show b9 ≤ b9 + 4 - 1 - 0 - 0; omega)
set_option maxRecDepth 100000 in
theorem lc_components {n t e l i len : Nat} {M : mv_M} (hI : lv4_ n t e l i len M) : ∃ (M4 : mv_M) (n' t' e' l' : Nat), rw_ n' t' e' l' M4 M4 ∧ (∀ g, 50 ≤ g → M4 g = M g) ∧ lgo_ 691 i M M4 := by
  obtain ⟨h, hS, hlen, h25, hi⟩ := hI
  obtain ⟨M2, M4, n', t', e', l', v, a1, a2, a3, h50, h54⟩ := stp0_ (an_components h) rfl rfl h gt_n gt_n
  have h52 : M2 52 = M 52 := h50 52 (by omega)
  refine ⟨M4, n', t', e', l', a3, h54, fun b9 z5 z6 R M9 hk9 => ?_⟩
  refine e_run 1 rfl trivial ?_
  try simp only [h52, cl_0]
  refine e_calli rfl a1 (Nat.le_trans (show mv_mc kX3_components ≤ 4 by decide) (Nat.le_add_left 4 b9)) ?_
  refine e_run 1 rfl trivial ?_
  try simp only [h52, cl_0]
  refine e_calli rfl a2 (Nat.zero_le _) ?_
  refine e_if rfl (fun h699 => ?_) (fun h699 => absurd rfl h699)
  exact er_ble (hk9 _ _) (by show b9 ≤ b9 + 4 - 0 - 0; omega)
set_option maxRecDepth 100000 in
theorem lc_candidates {n t e l i len : Nat} {M : mv_M} (hI : lv4_ n t e l i len M) : ∃ (M4 : mv_M) (n' t' e' l' : Nat), rw_ n' t' e' l' M4 M4 ∧ (∀ g, 50 ≤ g → M4 g = M g) ∧ lgo_ 704 i M M4 := by
  obtain ⟨h, hS, hlen, h25, hi⟩ := hI
  obtain ⟨M2, M4, n', t', e', l', k, b, a1, a2, a3, h50, h54, hk, hkb⟩ := stp_ (an_candidates h (M 52 0 (nI i + nI 1).toNatClampNeg) (M 52 0 (nI i + nI 2).toNatClampNeg)) (wr_candidates (M 52 0 (nI i + nI 1).toNatClampNeg) (M 52 0 (nI i + nI 2).toNatClampNeg) M) rfl rfl h (gt_c trivial (gt_c trivial gt_n)) (gt_c trivial (gt_c trivial gt_n))
  have h52 : M2 52 = M 52 := h50 52 (by omega)
  have hv1 : vp_in (nI i + nI 1) (mv_xl M 52) := by rw [hlen]; exact lv_vp hi h25 (by omega)
  have hu1 : vp_in (nI i + nI 1) (mv_xl M2 52) := by rw [show mv_xl M2 52 = mv_xl M 52 by unfold mv_xl; rw [h50 60 (by omega)]]; exact hv1
  have hv2 : vp_in (nI i + nI 2) (mv_xl M 52) := by rw [hlen]; exact lv_vp hi h25 (by omega)
  have hu2 : vp_in (nI i + nI 2) (mv_xl M2 52) := by rw [show mv_xl M2 52 = mv_xl M 52 by unfold mv_xl; rw [h50 60 (by omega)]]; exact hv2
  refine ⟨M4, n', t', e', l', a3, h54, fun b9 z5 z6 R M9 hk9 => ?_⟩
  refine e_run 12 rfl ?_ ?_
  · (and_intros <;> first | trivial | rfl | exact ⟨by unfold vp_in; decide, by decide⟩ | (unfold vp_in; decide) | decide | exact hv1 | exact hu1 | exact hv2 | exact hu2)
  try simp only [h52, cl_0]
  refine e_calli rfl a1 (Nat.le_trans (show mv_mc kL_candidates ≤ 4 by decide) (Nat.le_add_left 4 b9)) ?_
  refine e_run 12 rfl ?_ ?_
  · (and_intros <;> first | trivial | rfl | exact ⟨by unfold vp_in; decide, by decide⟩ | (unfold vp_in; decide) | decide | exact hv1 | exact hu1 | exact hv2 | exact hu2)
  try simp only [h52, cl_0]
  refine e_calli rfl a2 (Nat.zero_le _) ?_
  refine e_run 2 rfl trivial ?_
  try simp only [h52, cl_0]
  refine e_calli rfl (rp_thrown 101 M4) (Nat.zero_le _) ?_
  refine e_run 1 rfl trivial ?_
  try simp only [h52, cl_0]
  refine e_if rfl (fun h747 => ?_) (fun h747 => absurd hk h747)
  refine e_run 1 rfl trivial ?_
  try simp only [h52, cl_0]
  refine e_if rfl (fun h754 => ?_) (fun h754 => ?_)
  · refine e_run 1 rfl trivial ?_
    try simp only [h52, cl_0]
    exact er_ble (hk9 _ _) (by show b9 ≤ b9 + 4 - 1 - 0 - 0; omega)
  · refine e_run 6 rfl ?_ ?_
    · (and_intros <;> first | trivial | rfl | exact ⟨by unfold vp_in; decide, by decide⟩ | (unfold vp_in; decide) | decide | exact hv1 | exact hu1 | exact hv2 | exact hu2)
    try simp only [h52, cl_0]
    refine e_if rfl (fun h764 => ?_) (fun h764 => absurd ((lg_cmp_eq _ _).mpr (by rw [(hkb h754).1])) h764)
    refine e_run 1 rfl trivial ?_
    try simp only [h52, cl_0]
    exact er_ble (hk9 _ _) (by show b9 ≤ b9 + 4 - 1 - 0 - 0; omega)
set_option maxRecDepth 100000 in
theorem lc_chosen {n t e l i len : Nat} {M : mv_M} (hI : lv4_ n t e l i len M) : ∃ (M4 : mv_M) (n' t' e' l' : Nat), rw_ n' t' e' l' M4 M4 ∧ (∀ g, 50 ≤ g → M4 g = M g) ∧ lgo_ 772 i M M4 := by
  obtain ⟨h, hS, hlen, h25, hi⟩ := hI
  obtain ⟨M2, M4, n', t', e', l', k, b, a1, a2, a3, h50, h54, hk, hkb⟩ := stp_ (an_chosen h (M 52 0 (nI i + nI 1).toNatClampNeg) (M 52 0 (nI i + nI 2).toNatClampNeg)) (wr_chosen (M 52 0 (nI i + nI 1).toNatClampNeg) (M 52 0 (nI i + nI 2).toNatClampNeg) M) rfl rfl h (gt_c trivial (gt_c trivial gt_n)) (gt_c trivial (gt_c trivial gt_n))
  have h52 : M2 52 = M 52 := h50 52 (by omega)
  have hv1 : vp_in (nI i + nI 1) (mv_xl M 52) := by rw [hlen]; exact lv_vp hi h25 (by omega)
  have hu1 : vp_in (nI i + nI 1) (mv_xl M2 52) := by rw [show mv_xl M2 52 = mv_xl M 52 by unfold mv_xl; rw [h50 60 (by omega)]]; exact hv1
  have hv2 : vp_in (nI i + nI 2) (mv_xl M 52) := by rw [hlen]; exact lv_vp hi h25 (by omega)
  have hu2 : vp_in (nI i + nI 2) (mv_xl M2 52) := by rw [show mv_xl M2 52 = mv_xl M 52 by unfold mv_xl; rw [h50 60 (by omega)]]; exact hv2
  refine ⟨M4, n', t', e', l', a3, h54, fun b9 z5 z6 R M9 hk9 => ?_⟩
  refine e_run 12 rfl ?_ ?_
  · (and_intros <;> first | trivial | rfl | exact ⟨by unfold vp_in; decide, by decide⟩ | (unfold vp_in; decide) | decide | exact hv1 | exact hu1 | exact hv2 | exact hu2)
  try simp only [h52, cl_0]
  refine e_calli rfl a1 (Nat.le_trans (show mv_mc kL_chosen ≤ 4 by decide) (Nat.le_add_left 4 b9)) ?_
  refine e_run 12 rfl ?_ ?_
  · (and_intros <;> first | trivial | rfl | exact ⟨by unfold vp_in; decide, by decide⟩ | (unfold vp_in; decide) | decide | exact hv1 | exact hu1 | exact hv2 | exact hu2)
  try simp only [h52, cl_0]
  refine e_calli rfl a2 (Nat.zero_le _) ?_
  refine e_run 2 rfl trivial ?_
  try simp only [h52, cl_0]
  refine e_calli rfl (rp_thrown 101 M4) (Nat.zero_le _) ?_
  refine e_run 1 rfl trivial ?_
  try simp only [h52, cl_0]
  refine e_if rfl (fun h815 => ?_) (fun h815 => absurd hk h815)
  refine e_run 1 rfl trivial ?_
  try simp only [h52, cl_0]
  refine e_if rfl (fun h822 => ?_) (fun h822 => ?_)
  · refine e_run 1 rfl trivial ?_
    try simp only [h52, cl_0]
    exact er_ble (hk9 _ _) (by show b9 ≤ b9 + 4 - 1 - 0 - 0; omega)
  · refine e_run 6 rfl ?_ ?_
    · (and_intros <;> first | trivial | rfl | exact ⟨by unfold vp_in; decide, by decide⟩ | (unfold vp_in; decide) | decide | exact hv1 | exact hu1 | exact hv2 | exact hu2)
    try simp only [h52, cl_0]
    refine e_if rfl (fun h832 => ?_) (fun h832 => absurd ((lg_cmp_eq _ _).mpr (by rw [(hkb h822).1])) h832)
    refine e_run 1 rfl trivial ?_
    try simp only [h52, cl_0]
    exact er_ble (hk9 _ _) (by show b9 ≤ b9 + 4 - 1 - 0 - 0; omega)
set_option maxRecDepth 100000 in
theorem lc_problem {n t e l i len : Nat} {M : mv_M} (hI : lv4_ n t e l i len M) : ∃ (M4 : mv_M) (n' t' e' l' : Nat), rw_ n' t' e' l' M4 M4 ∧ (∀ g, 50 ≤ g → M4 g = M g) ∧ lgo_ 840 i M M4 := by
  obtain ⟨h, hS, hlen, h25, hi⟩ := hI
  obtain ⟨M2, M4, n', t', e', l', k, b, a1, a2, a3, h50, h54, hk, hkb⟩ := stp_ (an_problem h (M 52 0 (nI i + nI 1).toNatClampNeg)) (wr_problem (M 52 0 (nI i + nI 1).toNatClampNeg) M) rfl rfl h (gt_c trivial gt_n) (gt_c trivial gt_n)
  have h52 : M2 52 = M 52 := h50 52 (by omega)
  have hv1 : vp_in (nI i + nI 1) (mv_xl M 52) := by rw [hlen]; exact lv_vp hi h25 (by omega)
  have hu1 : vp_in (nI i + nI 1) (mv_xl M2 52) := by rw [show mv_xl M2 52 = mv_xl M 52 by unfold mv_xl; rw [h50 60 (by omega)]]; exact hv1
  refine ⟨M4, n', t', e', l', a3, h54, fun b9 z5 z6 R M9 hk9 => ?_⟩
  refine e_run 7 rfl ?_ ?_
  · (and_intros <;> first | trivial | rfl | exact ⟨by unfold vp_in; decide, by decide⟩ | (unfold vp_in; decide) | decide | exact hv1 | exact hu1)
  try simp only [h52, cl_0]
  refine e_calli rfl a1 (Nat.le_trans (show mv_mc kL_problem ≤ 4 by decide) (Nat.le_add_left 4 b9)) ?_
  refine e_run 7 rfl ?_ ?_
  · (and_intros <;> first | trivial | rfl | exact ⟨by unfold vp_in; decide, by decide⟩ | (unfold vp_in; decide) | decide | exact hv1 | exact hu1)
  try simp only [h52, cl_0]
  refine e_calli rfl a2 (Nat.zero_le _) ?_
  refine e_run 2 rfl trivial ?_
  try simp only [h52, cl_0]
  refine e_calli rfl (rp_thrown 101 M4) (Nat.zero_le _) ?_
  refine e_run 1 rfl trivial ?_
  try simp only [h52, cl_0]
  refine e_if rfl (fun h871 => ?_) (fun h871 => absurd hk h871)
  refine e_run 1 rfl trivial ?_
  try simp only [h52, cl_0]
  refine e_if rfl (fun h878 => ?_) (fun h878 => ?_)
  · refine e_run 1 rfl trivial ?_
    try simp only [h52, cl_0]
    exact er_ble (hk9 _ _) (by show b9 ≤ b9 + 4 - 1 - 0 - 0; omega)
  · refine e_run 6 rfl ?_ ?_
    · (and_intros <;> first | trivial | rfl | exact ⟨by unfold vp_in; decide, by decide⟩ | (unfold vp_in; decide) | decide | exact hv1 | exact hu1)
    try simp only [h52, cl_0]
    refine e_if rfl (fun h888 => ?_) (fun h888 => absurd ((lg_cmp_eq _ _).mpr (by rw [(hkb h878).1])) h888)
    refine e_run 1 rfl trivial ?_
    try simp only [h52, cl_0]
    exact er_ble (hk9 _ _) (by show b9 ≤ b9 + 4 - 1 - 0 - 0; omega)
set_option maxRecDepth 100000 in
theorem lc_needs {n t e l i len : Nat} {M : mv_M} (hI : lv4_ n t e l i len M) : ∃ (M4 : mv_M) (n' t' e' l' : Nat), rw_ n' t' e' l' M4 M4 ∧ (∀ g, 50 ≤ g → M4 g = M g) ∧ lgo_ 896 i M M4 := by
  obtain ⟨h, hS, hlen, h25, hi⟩ := hI
  obtain ⟨M2, M4, n', t', e', l', k, b, a1, a2, a3, h50, h54, hk, hkb⟩ := stp_ (an_needs h (M 52 0 (nI i + nI 1).toNatClampNeg)) (wr_needs (M 52 0 (nI i + nI 1).toNatClampNeg) M) rfl rfl h (gt_c trivial gt_n) (gt_c trivial gt_n)
  have h52 : M2 52 = M 52 := h50 52 (by omega)
  have hv1 : vp_in (nI i + nI 1) (mv_xl M 52) := by rw [hlen]; exact lv_vp hi h25 (by omega)
  have hu1 : vp_in (nI i + nI 1) (mv_xl M2 52) := by rw [show mv_xl M2 52 = mv_xl M 52 by unfold mv_xl; rw [h50 60 (by omega)]]; exact hv1
  refine ⟨M4, n', t', e', l', a3, h54, fun b9 z5 z6 R M9 hk9 => ?_⟩
  refine e_run 7 rfl ?_ ?_
  · (and_intros <;> first | trivial | rfl | exact ⟨by unfold vp_in; decide, by decide⟩ | (unfold vp_in; decide) | decide | exact hv1 | exact hu1)
  try simp only [h52, cl_0]
  refine e_calli rfl a1 (Nat.le_trans (show mv_mc kL_needs ≤ 4 by decide) (Nat.le_add_left 4 b9)) ?_
  refine e_run 7 rfl ?_ ?_
  · (and_intros <;> first | trivial | rfl | exact ⟨by unfold vp_in; decide, by decide⟩ | (unfold vp_in; decide) | decide | exact hv1 | exact hu1)
  try simp only [h52, cl_0]
  refine e_calli rfl a2 (Nat.zero_le _) ?_
  refine e_run 2 rfl trivial ?_
  try simp only [h52, cl_0]
  refine e_calli rfl (rp_thrown 101 M4) (Nat.zero_le _) ?_
  refine e_run 1 rfl trivial ?_
  try simp only [h52, cl_0]
  refine e_if rfl (fun h927 => ?_) (fun h927 => absurd hk h927)
  refine e_run 1 rfl trivial ?_
  try simp only [h52, cl_0]
  refine e_if rfl (fun h934 => ?_) (fun h934 => ?_)
  · refine e_run 1 rfl trivial ?_
    try simp only [h52, cl_0]
    exact er_ble (hk9 _ _) (by show b9 ≤ b9 + 4 - 1 - 0 - 0; omega)
  · refine e_run 6 rfl ?_ ?_
    · (and_intros <;> first | trivial | rfl | exact ⟨by unfold vp_in; decide, by decide⟩ | (unfold vp_in; decide) | decide | exact hv1 | exact hu1)
    try simp only [h52, cl_0]
    refine e_if rfl (fun h944 => ?_) (fun h944 => absurd ((lg_cmp_eq _ _).mpr (by rw [(hkb h934).1])) h944)
    refine e_run 1 rfl trivial ?_
    try simp only [h52, cl_0]
    exact er_ble (hk9 _ _) (by show b9 ≤ b9 + 4 - 1 - 0 - 0; omega)
set_option maxRecDepth 100000 in
theorem lc_resolve {n t e l i len : Nat} {M : mv_M} (hI : lv4_ n t e l i len M) : ∃ (M4 : mv_M) (n' t' e' l' : Nat), rw_ n' t' e' l' M4 M4 ∧ (∀ g, 50 ≤ g → M4 g = M g) ∧ lgo_ 952 i M M4 := by
  obtain ⟨h, hS, hlen, h25, hi⟩ := hI
  obtain ⟨M2, M4, n', t', e', l', k, b, a1, a2, a3, h50, h54, hk, hkb⟩ := stp_ (an_resolve h (M 52 0 (nI i + nI 1).toNatClampNeg) (M 52 0 (nI i + nI 2).toNatClampNeg)) (wr_resolve (M 52 0 (nI i + nI 1).toNatClampNeg) (M 52 0 (nI i + nI 2).toNatClampNeg) M) rfl rfl h (gt_c trivial (gt_c trivial gt_n)) (gt_c trivial (gt_c trivial gt_n))
  have h52 : M2 52 = M 52 := h50 52 (by omega)
  have hv1 : vp_in (nI i + nI 1) (mv_xl M 52) := by rw [hlen]; exact lv_vp hi h25 (by omega)
  have hu1 : vp_in (nI i + nI 1) (mv_xl M2 52) := by rw [show mv_xl M2 52 = mv_xl M 52 by unfold mv_xl; rw [h50 60 (by omega)]]; exact hv1
  have hv2 : vp_in (nI i + nI 2) (mv_xl M 52) := by rw [hlen]; exact lv_vp hi h25 (by omega)
  have hu2 : vp_in (nI i + nI 2) (mv_xl M2 52) := by rw [show mv_xl M2 52 = mv_xl M 52 by unfold mv_xl; rw [h50 60 (by omega)]]; exact hv2
  refine ⟨M4, n', t', e', l', a3, h54, fun b9 z5 z6 R M9 hk9 => ?_⟩
  refine e_run 12 rfl ?_ ?_
  · (and_intros <;> first | trivial | rfl | exact ⟨by unfold vp_in; decide, by decide⟩ | (unfold vp_in; decide) | decide | exact hv1 | exact hu1 | exact hv2 | exact hu2)
  try simp only [h52, cl_0]
  refine e_calli rfl a1 (Nat.le_trans (show mv_mc kL_resolve ≤ 4 by decide) (Nat.le_add_left 4 b9)) ?_
  refine e_run 12 rfl ?_ ?_
  · (and_intros <;> first | trivial | rfl | exact ⟨by unfold vp_in; decide, by decide⟩ | (unfold vp_in; decide) | decide | exact hv1 | exact hu1 | exact hv2 | exact hu2)
  try simp only [h52, cl_0]
  refine e_calli rfl a2 (Nat.zero_le _) ?_
  refine e_run 2 rfl trivial ?_
  try simp only [h52, cl_0]
  refine e_calli rfl (rp_thrown 101 M4) (Nat.zero_le _) ?_
  refine e_run 1 rfl trivial ?_
  try simp only [h52, cl_0]
  refine e_if rfl (fun h995 => ?_) (fun h995 => absurd hk h995)
  refine e_run 1 rfl trivial ?_
  try simp only [h52, cl_0]
  refine e_if rfl (fun h1002 => ?_) (fun h1002 => ?_)
  · refine e_run 1 rfl trivial ?_
    try simp only [h52, cl_0]
    exact er_ble (hk9 _ _) (by show b9 ≤ b9 + 4 - 2 - 0 - 0; omega)
  · refine e_run 6 rfl ?_ ?_
    · (and_intros <;> first | trivial | rfl | exact ⟨by unfold vp_in; decide, by decide⟩ | (unfold vp_in; decide) | decide | exact hv1 | exact hu1 | exact hv2 | exact hu2)
    try simp only [h52, cl_0]
    refine e_if rfl (fun h1012 => ?_) (fun h1012 => absurd ((lg_cmp_eq _ _).mpr (by rw [(hkb h1002).1])) h1012)
    refine e_run 1 rfl trivial ?_
    try simp only [h52, cl_0]
    exact er_ble (hk9 _ _) (by show b9 ≤ b9 + 4 - 2 - 0 - 0; omega)
set_option maxRecDepth 100000 in
theorem lc_provide {n t e l i len : Nat} {M : mv_M} (hI : lv4_ n t e l i len M) : ∃ (M4 : mv_M) (n' t' e' l' : Nat), rw_ n' t' e' l' M4 M4 ∧ (∀ g, 50 ≤ g → M4 g = M g) ∧ lgo_ 1020 i M M4 := by
  obtain ⟨h, hS, hlen, h25, hi⟩ := hI
  obtain ⟨M2, M4, n', t', e', l', k, b, a1, a2, a3, h50, h54, hk, hkb⟩ := stp_ (an_provide h (M 52 0 (nI i + nI 1).toNatClampNeg) (M 52 0 (nI i + nI 2).toNatClampNeg)) (wr_provide (M 52 0 (nI i + nI 1).toNatClampNeg) (M 52 0 (nI i + nI 2).toNatClampNeg) M) rfl rfl h (gt_c trivial (gt_c trivial gt_n)) (gt_c trivial (gt_c trivial gt_n))
  have h52 : M2 52 = M 52 := h50 52 (by omega)
  have hv1 : vp_in (nI i + nI 1) (mv_xl M 52) := by rw [hlen]; exact lv_vp hi h25 (by omega)
  have hu1 : vp_in (nI i + nI 1) (mv_xl M2 52) := by rw [show mv_xl M2 52 = mv_xl M 52 by unfold mv_xl; rw [h50 60 (by omega)]]; exact hv1
  have hv2 : vp_in (nI i + nI 2) (mv_xl M 52) := by rw [hlen]; exact lv_vp hi h25 (by omega)
  have hu2 : vp_in (nI i + nI 2) (mv_xl M2 52) := by rw [show mv_xl M2 52 = mv_xl M 52 by unfold mv_xl; rw [h50 60 (by omega)]]; exact hv2
  refine ⟨M4, n', t', e', l', a3, h54, fun b9 z5 z6 R M9 hk9 => ?_⟩
  refine e_run 12 rfl ?_ ?_
  · (and_intros <;> first | trivial | rfl | exact ⟨by unfold vp_in; decide, by decide⟩ | (unfold vp_in; decide) | decide | exact hv1 | exact hu1 | exact hv2 | exact hu2)
  try simp only [h52, cl_0]
  refine e_calli rfl a1 (Nat.le_trans (show mv_mc kL_provide ≤ 4 by decide) (Nat.le_add_left 4 b9)) ?_
  refine e_run 12 rfl ?_ ?_
  · (and_intros <;> first | trivial | rfl | exact ⟨by unfold vp_in; decide, by decide⟩ | (unfold vp_in; decide) | decide | exact hv1 | exact hu1 | exact hv2 | exact hu2)
  try simp only [h52, cl_0]
  refine e_calli rfl a2 (Nat.zero_le _) ?_
  refine e_run 2 rfl trivial ?_
  try simp only [h52, cl_0]
  refine e_calli rfl (rp_thrown 101 M4) (Nat.zero_le _) ?_
  refine e_run 1 rfl trivial ?_
  try simp only [h52, cl_0]
  refine e_if rfl (fun h1063 => ?_) (fun h1063 => absurd hk h1063)
  refine e_run 1 rfl trivial ?_
  try simp only [h52, cl_0]
  refine e_if rfl (fun h1070 => ?_) (fun h1070 => ?_)
  · refine e_run 1 rfl trivial ?_
    try simp only [h52, cl_0]
    exact er_ble (hk9 _ _) (by show b9 ≤ b9 + 4 - 3 - 0 - 0; omega)
  · refine e_run 6 rfl ?_ ?_
    · (and_intros <;> first | trivial | rfl | exact ⟨by unfold vp_in; decide, by decide⟩ | (unfold vp_in; decide) | decide | exact hv1 | exact hu1 | exact hv2 | exact hu2)
    try simp only [h52, cl_0]
    refine e_if rfl (fun h1080 => ?_) (fun h1080 => absurd ((lg_cmp_eq _ _).mpr (by rw [(hkb h1070).1])) h1080)
    refine e_run 1 rfl trivial ?_
    try simp only [h52, cl_0]
    exact er_ble (hk9 _ _) (by show b9 ≤ b9 + 4 - 3 - 0 - 0; omega)
set_option maxRecDepth 100000 in
theorem lc_start {n t e l i len : Nat} {M : mv_M} (hI : lv4_ n t e l i len M) : ∃ (M4 : mv_M) (n' t' e' l' : Nat), rw_ n' t' e' l' M4 M4 ∧ (∀ g, 50 ≤ g → M4 g = M g) ∧ lgo_ 1088 i M M4 := by
  obtain ⟨h, hS, hlen, h25, hi⟩ := hI
  obtain ⟨M2, M4, n', t', e', l', k, b, a1, a2, a3, h50, h54, hk, hkb⟩ := stp_ (an_start h) (wr_start M) rfl rfl h gt_n gt_n
  have h52 : M2 52 = M 52 := h50 52 (by omega)
  refine ⟨M4, n', t', e', l', a3, h54, fun b9 z5 z6 R M9 hk9 => ?_⟩
  refine e_run 2 rfl trivial ?_
  try simp only [h52, cl_0]
  refine e_calli rfl a1 (Nat.le_trans (show mv_mc kL_start ≤ 4 by decide) (Nat.le_add_left 4 b9)) ?_
  refine e_run 2 rfl trivial ?_
  try simp only [h52, cl_0]
  refine e_calli rfl a2 (Nat.zero_le _) ?_
  refine e_run 2 rfl trivial ?_
  try simp only [h52, cl_0]
  refine e_calli rfl (rp_thrown 101 M4) (Nat.zero_le _) ?_
  refine e_run 1 rfl trivial ?_
  try simp only [h52, cl_0]
  refine e_if rfl (fun h1107 => ?_) (fun h1107 => absurd hk h1107)
  refine e_run 1 rfl trivial ?_
  try simp only [h52, cl_0]
  refine e_if rfl (fun h1114 => ?_) (fun h1114 => ?_)
  · refine e_run 1 rfl trivial ?_
    try simp only [h52, cl_0]
    exact er_ble (hk9 _ _) (by show b9 ≤ b9 + 4 - 1 - 0 - 0; omega)
  · refine e_run 6 rfl ?_ ?_
    · (and_intros <;> first | trivial | rfl | exact ⟨by unfold vp_in; decide, by decide⟩ | (unfold vp_in; decide) | decide)
    try simp only [h52, cl_0]
    refine e_if rfl (fun h1124 => ?_) (fun h1124 => absurd ((lg_cmp_eq _ _).mpr (by rw [(hkb h1114).1])) h1124)
    refine e_run 1 rfl trivial ?_
    try simp only [h52, cl_0]
    exact er_ble (hk9 _ _) (by show b9 ≤ b9 + 4 - 1 - 0 - 0; omega)
set_option maxRecDepth 100000 in
theorem lc_begin {n t e l i len : Nat} {M : mv_M} (hI : lv4_ n t e l i len M) : ∃ (M4 : mv_M) (n' t' e' l' : Nat), rw_ n' t' e' l' M4 M4 ∧ (∀ g, 50 ≤ g → M4 g = M g) ∧ lgo_ 1132 i M M4 := by
  obtain ⟨h, hS, hlen, h25, hi⟩ := hI
  obtain ⟨M2, M4, n', t', e', l', k, b, a1, a2, a3, h50, h54, hk, hkb⟩ := stp_ (an_begin h) (wr_begin M) rfl rfl h gt_n gt_n
  have h52 : M2 52 = M 52 := h50 52 (by omega)
  refine ⟨M4, n', t', e', l', a3, h54, fun b9 z5 z6 R M9 hk9 => ?_⟩
  refine e_run 2 rfl trivial ?_
  try simp only [h52, cl_0]
  refine e_calli rfl a1 (Nat.le_trans (show mv_mc kL_begin ≤ 4 by decide) (Nat.le_add_left 4 b9)) ?_
  refine e_run 2 rfl trivial ?_
  try simp only [h52, cl_0]
  refine e_calli rfl a2 (Nat.zero_le _) ?_
  refine e_run 2 rfl trivial ?_
  try simp only [h52, cl_0]
  refine e_calli rfl (rp_thrown 101 M4) (Nat.zero_le _) ?_
  refine e_run 1 rfl trivial ?_
  try simp only [h52, cl_0]
  refine e_if rfl (fun h1151 => ?_) (fun h1151 => absurd hk h1151)
  refine e_run 1 rfl trivial ?_
  try simp only [h52, cl_0]
  refine e_if rfl (fun h1158 => ?_) (fun h1158 => ?_)
  · refine e_run 1 rfl trivial ?_
    try simp only [h52, cl_0]
    exact er_ble (hk9 _ _) (by show b9 ≤ b9 + 4 - 1 - 0 - 0; omega)
  · refine e_run 6 rfl ?_ ?_
    · (and_intros <;> first | trivial | rfl | exact ⟨by unfold vp_in; decide, by decide⟩ | (unfold vp_in; decide) | decide)
    try simp only [h52, cl_0]
    refine e_if rfl (fun h1168 => ?_) (fun h1168 => absurd ((lg_cmp_eq _ _).mpr (by rw [(hkb h1158).1])) h1168)
    refine e_run 1 rfl trivial ?_
    try simp only [h52, cl_0]
    exact er_ble (hk9 _ _) (by show b9 ≤ b9 + 4 - 1 - 0 - 0; omega)
set_option maxRecDepth 100000 in
theorem lc_end {n t e l i len : Nat} {M : mv_M} (hI : lv4_ n t e l i len M) : ∃ (M4 : mv_M) (n' t' e' l' : Nat), rw_ n' t' e' l' M4 M4 ∧ (∀ g, 50 ≤ g → M4 g = M g) ∧ lgo_ 1176 i M M4 := by
  obtain ⟨h, hS, hlen, h25, hi⟩ := hI
  obtain ⟨M2, M4, n', t', e', l', k, b, a1, a2, a3, h50, h54, hk, hkb⟩ := stp_ (an_end h) (wr_end M) rfl rfl h gt_n gt_n
  have h52 : M2 52 = M 52 := h50 52 (by omega)
  refine ⟨M4, n', t', e', l', a3, h54, fun b9 z5 z6 R M9 hk9 => ?_⟩
  refine e_run 2 rfl trivial ?_
  try simp only [h52, cl_0]
  refine e_calli rfl a1 (Nat.le_trans (show mv_mc kL_end ≤ 4 by decide) (Nat.le_add_left 4 b9)) ?_
  refine e_run 2 rfl trivial ?_
  try simp only [h52, cl_0]
  refine e_calli rfl a2 (Nat.zero_le _) ?_
  refine e_run 2 rfl trivial ?_
  try simp only [h52, cl_0]
  refine e_calli rfl (rp_thrown 101 M4) (Nat.zero_le _) ?_
  refine e_run 1 rfl trivial ?_
  try simp only [h52, cl_0]
  refine e_if rfl (fun h1195 => ?_) (fun h1195 => absurd hk h1195)
  refine e_run 1 rfl trivial ?_
  try simp only [h52, cl_0]
  refine e_if rfl (fun h1202 => ?_) (fun h1202 => ?_)
  · refine e_run 1 rfl trivial ?_
    try simp only [h52, cl_0]
    exact er_ble (hk9 _ _) (by show b9 ≤ b9 + 4 - 1 - 0 - 0; omega)
  · refine e_run 6 rfl ?_ ?_
    · (and_intros <;> first | trivial | rfl | exact ⟨by unfold vp_in; decide, by decide⟩ | (unfold vp_in; decide) | decide)
    try simp only [h52, cl_0]
    refine e_if rfl (fun h1212 => ?_) (fun h1212 => absurd ((lg_cmp_eq _ _).mpr (by rw [(hkb h1202).1])) h1212)
    refine e_run 1 rfl trivial ?_
    try simp only [h52, cl_0]
    exact er_ble (hk9 _ _) (by show b9 ≤ b9 + 4 - 1 - 0 - 0; omega)
set_option maxRecDepth 100000 in
theorem lc_close {n t e l i len : Nat} {M : mv_M} (hI : lv4_ n t e l i len M) : ∃ (M4 : mv_M) (n' t' e' l' : Nat), rw_ n' t' e' l' M4 M4 ∧ (∀ g, 50 ≤ g → M4 g = M g) ∧ lgo_ 1220 i M M4 := by
  obtain ⟨h, hS, hlen, h25, hi⟩ := hI
  obtain ⟨M2, M4, n', t', e', l', v, a1, a2, a3, h50, h54⟩ := stp0_ (an_close h) rfl rfl h gt_n gt_n
  have h52 : M2 52 = M 52 := h50 52 (by omega)
  refine ⟨M4, n', t', e', l', a3, h54, fun b9 z5 z6 R M9 hk9 => ?_⟩
  refine e_run 1 rfl trivial ?_
  try simp only [h52, cl_0]
  refine e_calli rfl a1 (Nat.le_trans (show mv_mc kX3_close ≤ 4 by decide) (Nat.le_add_left 4 b9)) ?_
  refine e_run 1 rfl trivial ?_
  try simp only [h52, cl_0]
  refine e_calli rfl a2 (Nat.zero_le _) ?_
  refine e_if rfl (fun h1228 => ?_) (fun h1228 => absurd rfl h1228)
  exact er_ble (hk9 _ _) (by show b9 ≤ b9 + 4 - 0 - 0; omega)
set_option maxRecDepth 100000 in
theorem lc_instances {n t e l i len : Nat} {M : mv_M} (hI : lv4_ n t e l i len M) : ∃ (M4 : mv_M) (n' t' e' l' : Nat), rw_ n' t' e' l' M4 M4 ∧ (∀ g, 50 ≤ g → M4 g = M g) ∧ lgo_ 1233 i M M4 := by
  obtain ⟨h, hS, hlen, h25, hi⟩ := hI
  obtain ⟨M2, M4, n', t', e', l', v, a1, a2, a3, h50, h54⟩ := stp0_ (an_instances h) rfl rfl h gt_n gt_n
  have h52 : M2 52 = M 52 := h50 52 (by omega)
  refine ⟨M4, n', t', e', l', a3, h54, fun b9 z5 z6 R M9 hk9 => ?_⟩
  refine e_run 1 rfl trivial ?_
  try simp only [h52, cl_0]
  refine e_calli rfl a1 (Nat.le_trans (show mv_mc kX3_instances ≤ 4 by decide) (Nat.le_add_left 4 b9)) ?_
  refine e_run 1 rfl trivial ?_
  try simp only [h52, cl_0]
  refine e_calli rfl a2 (Nat.zero_le _) ?_
  refine e_if rfl (fun h1241 => ?_) (fun h1241 => absurd rfl h1241)
  exact er_ble (hk9 _ _) (by show b9 ≤ b9 + 4 - 0 - 0; omega)
set_option maxRecDepth 100000 in
theorem lc_componentOf {n t e l i len : Nat} {M : mv_M} (hI : lv4_ n t e l i len M) : ∃ (M4 : mv_M) (n' t' e' l' : Nat), rw_ n' t' e' l' M4 M4 ∧ (∀ g, 50 ≤ g → M4 g = M g) ∧ lgo_ 1246 i M M4 := by
  obtain ⟨h, hS, hlen, h25, hi⟩ := hI
  obtain ⟨M2, M4, n', t', e', l', k, b, a1, a2, a3, h50, h54, hk, hkb⟩ := stp_ (an_componentOf h (M 52 0 (nI i + nI 1).toNatClampNeg)) (wr_componentOf (M 52 0 (nI i + nI 1).toNatClampNeg) M) rfl rfl h (gt_c trivial gt_n) (gt_c trivial gt_n)
  have h52 : M2 52 = M 52 := h50 52 (by omega)
  have hv1 : vp_in (nI i + nI 1) (mv_xl M 52) := by rw [hlen]; exact lv_vp hi h25 (by omega)
  have hu1 : vp_in (nI i + nI 1) (mv_xl M2 52) := by rw [show mv_xl M2 52 = mv_xl M 52 by unfold mv_xl; rw [h50 60 (by omega)]]; exact hv1
  refine ⟨M4, n', t', e', l', a3, h54, fun b9 z5 z6 R M9 hk9 => ?_⟩
  refine e_run 7 rfl ?_ ?_
  · (and_intros <;> first | trivial | rfl | exact ⟨by unfold vp_in; decide, by decide⟩ | (unfold vp_in; decide) | decide | exact hv1 | exact hu1)
  try simp only [h52, cl_0]
  refine e_calli rfl a1 (Nat.le_trans (show mv_mc kL_componentOf ≤ 4 by decide) (Nat.le_add_left 4 b9)) ?_
  refine e_run 7 rfl ?_ ?_
  · (and_intros <;> first | trivial | rfl | exact ⟨by unfold vp_in; decide, by decide⟩ | (unfold vp_in; decide) | decide | exact hv1 | exact hu1)
  try simp only [h52, cl_0]
  refine e_calli rfl a2 (Nat.zero_le _) ?_
  refine e_run 2 rfl trivial ?_
  try simp only [h52, cl_0]
  refine e_calli rfl (rp_thrown 101 M4) (Nat.zero_le _) ?_
  refine e_run 1 rfl trivial ?_
  try simp only [h52, cl_0]
  refine e_if rfl (fun h1277 => ?_) (fun h1277 => absurd hk h1277)
  refine e_run 1 rfl trivial ?_
  try simp only [h52, cl_0]
  refine e_if rfl (fun h1284 => ?_) (fun h1284 => ?_)
  · refine e_run 1 rfl trivial ?_
    try simp only [h52, cl_0]
    exact er_ble (hk9 _ _) (by show b9 ≤ b9 + 4 - 1 - 0 - 0; omega)
  · refine e_run 6 rfl ?_ ?_
    · (and_intros <;> first | trivial | rfl | exact ⟨by unfold vp_in; decide, by decide⟩ | (unfold vp_in; decide) | decide | exact hv1 | exact hu1)
    try simp only [h52, cl_0]
    refine e_if rfl (fun h1294 => ?_) (fun h1294 => absurd ((lg_cmp_eq _ _).mpr (by rw [(hkb h1284).1])) h1294)
    refine e_run 1 rfl trivial ?_
    try simp only [h52, cl_0]
    exact er_ble (hk9 _ _) (by show b9 ≤ b9 + 4 - 1 - 0 - 0; omega)
set_option maxRecDepth 100000 in
theorem lc_isAlive {n t e l i len : Nat} {M : mv_M} (hI : lv4_ n t e l i len M) : ∃ (M4 : mv_M) (n' t' e' l' : Nat), rw_ n' t' e' l' M4 M4 ∧ (∀ g, 50 ≤ g → M4 g = M g) ∧ lgo_ 1302 i M M4 := by
  obtain ⟨h, hS, hlen, h25, hi⟩ := hI
  obtain ⟨M2, M4, n', t', e', l', k, b, a1, a2, a3, h50, h54, hk, hkb⟩ := stp_ (an_isAlive h (M 52 0 (nI i + nI 1).toNatClampNeg)) (wr_isAlive (M 52 0 (nI i + nI 1).toNatClampNeg) M) rfl rfl h (gt_c trivial gt_n) (gt_c trivial gt_n)
  have h52 : M2 52 = M 52 := h50 52 (by omega)
  have hv1 : vp_in (nI i + nI 1) (mv_xl M 52) := by rw [hlen]; exact lv_vp hi h25 (by omega)
  have hu1 : vp_in (nI i + nI 1) (mv_xl M2 52) := by rw [show mv_xl M2 52 = mv_xl M 52 by unfold mv_xl; rw [h50 60 (by omega)]]; exact hv1
  refine ⟨M4, n', t', e', l', a3, h54, fun b9 z5 z6 R M9 hk9 => ?_⟩
  refine e_run 7 rfl ?_ ?_
  · (and_intros <;> first | trivial | rfl | exact ⟨by unfold vp_in; decide, by decide⟩ | (unfold vp_in; decide) | decide | exact hv1 | exact hu1)
  try simp only [h52, cl_0]
  refine e_calli rfl a1 (Nat.le_trans (show mv_mc kL_isAlive ≤ 4 by decide) (Nat.le_add_left 4 b9)) ?_
  refine e_run 7 rfl ?_ ?_
  · (and_intros <;> first | trivial | rfl | exact ⟨by unfold vp_in; decide, by decide⟩ | (unfold vp_in; decide) | decide | exact hv1 | exact hu1)
  try simp only [h52, cl_0]
  refine e_calli rfl a2 (Nat.zero_le _) ?_
  refine e_run 2 rfl trivial ?_
  try simp only [h52, cl_0]
  refine e_calli rfl (rp_thrown 101 M4) (Nat.zero_le _) ?_
  refine e_run 1 rfl trivial ?_
  try simp only [h52, cl_0]
  refine e_if rfl (fun h1333 => ?_) (fun h1333 => absurd hk h1333)
  refine e_run 1 rfl trivial ?_
  try simp only [h52, cl_0]
  refine e_if rfl (fun h1340 => ?_) (fun h1340 => ?_)
  · refine e_run 1 rfl trivial ?_
    try simp only [h52, cl_0]
    exact er_ble (hk9 _ _) (by show b9 ≤ b9 + 4 - 1 - 0 - 0; omega)
  · refine e_run 4 rfl ?_ ?_
    · (and_intros <;> first | trivial | rfl | exact ⟨by unfold vp_in; decide, by decide⟩ | (unfold vp_in; decide) | decide | exact hv1 | exact hu1)
    try simp only [h52, cl_0]
    refine e_if rfl (fun h1348 => ?_) (fun h1348 => ?_)
    · refine e_run 2 rfl trivial ?_
      try simp only [h52, cl_0]
      refine e_if rfl (fun h1357 => ?_) (fun h1357 => absurd ((lg_cmp_eq _ _).mpr (by first | rw [(hkb h1340).1, h1348] | rw [(hkb h1340).1, (hkb h1340).2.resolve_left h1348])) h1357)
      refine e_run 1 rfl trivial ?_
      try simp only [h52, cl_0]
      exact er_ble (hk9 _ _) (by show b9 ≤ b9 + 4 - 1 - 0 - 0; omega)
    · refine e_run 3 rfl trivial ?_
      try simp only [h52, cl_0]
      refine e_if rfl (fun h1357 => ?_) (fun h1357 => absurd ((lg_cmp_eq _ _).mpr (by first | rw [(hkb h1340).1, h1348] | rw [(hkb h1340).1, (hkb h1340).2.resolve_left h1348])) h1357)
      refine e_run 1 rfl trivial ?_
      try simp only [h52, cl_0]
      exact er_ble (hk9 _ _) (by show b9 ≤ b9 + 4 - 1 - 0 - 0; omega)
set_option maxRecDepth 100000 in
theorem lc_injected {n t e l i len : Nat} {M : mv_M} (hI : lv4_ n t e l i len M) : ∃ (M4 : mv_M) (n' t' e' l' : Nat), rw_ n' t' e' l' M4 M4 ∧ (∀ g, 50 ≤ g → M4 g = M g) ∧ lgo_ 1365 i M M4 := by
  obtain ⟨h, hS, hlen, h25, hi⟩ := hI
  obtain ⟨M2, M4, n', t', e', l', k, b, a1, a2, a3, h50, h54, hk, hkb⟩ := stp_ (an_injected h (M 52 0 (nI i + nI 1).toNatClampNeg) (M 52 0 (nI i + nI 2).toNatClampNeg)) (wr_injected (M 52 0 (nI i + nI 1).toNatClampNeg) (M 52 0 (nI i + nI 2).toNatClampNeg) M) rfl rfl h (gt_c trivial (gt_c trivial gt_n)) (gt_c trivial (gt_c trivial gt_n))
  have h52 : M2 52 = M 52 := h50 52 (by omega)
  have hv1 : vp_in (nI i + nI 1) (mv_xl M 52) := by rw [hlen]; exact lv_vp hi h25 (by omega)
  have hu1 : vp_in (nI i + nI 1) (mv_xl M2 52) := by rw [show mv_xl M2 52 = mv_xl M 52 by unfold mv_xl; rw [h50 60 (by omega)]]; exact hv1
  have hv2 : vp_in (nI i + nI 2) (mv_xl M 52) := by rw [hlen]; exact lv_vp hi h25 (by omega)
  have hu2 : vp_in (nI i + nI 2) (mv_xl M2 52) := by rw [show mv_xl M2 52 = mv_xl M 52 by unfold mv_xl; rw [h50 60 (by omega)]]; exact hv2
  refine ⟨M4, n', t', e', l', a3, h54, fun b9 z5 z6 R M9 hk9 => ?_⟩
  refine e_run 12 rfl ?_ ?_
  · (and_intros <;> first | trivial | rfl | exact ⟨by unfold vp_in; decide, by decide⟩ | (unfold vp_in; decide) | decide | exact hv1 | exact hu1 | exact hv2 | exact hu2)
  try simp only [h52, cl_0]
  refine e_calli rfl a1 (Nat.le_trans (show mv_mc kL_injected ≤ 4 by decide) (Nat.le_add_left 4 b9)) ?_
  refine e_run 12 rfl ?_ ?_
  · (and_intros <;> first | trivial | rfl | exact ⟨by unfold vp_in; decide, by decide⟩ | (unfold vp_in; decide) | decide | exact hv1 | exact hu1 | exact hv2 | exact hu2)
  try simp only [h52, cl_0]
  refine e_calli rfl a2 (Nat.zero_le _) ?_
  refine e_run 2 rfl trivial ?_
  try simp only [h52, cl_0]
  refine e_calli rfl (rp_thrown 101 M4) (Nat.zero_le _) ?_
  refine e_run 1 rfl trivial ?_
  try simp only [h52, cl_0]
  refine e_if rfl (fun h1408 => ?_) (fun h1408 => absurd hk h1408)
  refine e_run 1 rfl trivial ?_
  try simp only [h52, cl_0]
  refine e_if rfl (fun h1415 => ?_) (fun h1415 => ?_)
  · refine e_run 1 rfl trivial ?_
    try simp only [h52, cl_0]
    exact er_ble (hk9 _ _) (by show b9 ≤ b9 + 4 - 2 - 0 - 0; omega)
  · refine e_run 6 rfl ?_ ?_
    · (and_intros <;> first | trivial | rfl | exact ⟨by unfold vp_in; decide, by decide⟩ | (unfold vp_in; decide) | decide | exact hv1 | exact hu1 | exact hv2 | exact hu2)
    try simp only [h52, cl_0]
    refine e_if rfl (fun h1425 => ?_) (fun h1425 => absurd ((lg_cmp_eq _ _).mpr (by rw [(hkb h1415).1])) h1425)
    refine e_run 1 rfl trivial ?_
    try simp only [h52, cl_0]
    exact er_ble (hk9 _ _) (by show b9 ≤ b9 + 4 - 2 - 0 - 0; omega)
set_option maxRecDepth 100000 in
theorem lc_event {n t e l i len : Nat} {M : mv_M} (hI : lv4_ n t e l i len M) : ∃ (M4 : mv_M) (n' t' e' l' : Nat), rw_ n' t' e' l' M4 M4 ∧ (∀ g, 50 ≤ g → M4 g = M g) ∧ lgo_ 1433 i M M4 := by
  obtain ⟨h, hS, hlen, h25, hi⟩ := hI
  obtain ⟨M2, M4, n', t', e', l', v, a1, a2, a3, h50, h54⟩ := stp0_ (an_event h (M 52 0 (nI i + nI 1).toNatClampNeg)) rfl rfl h (gt_c trivial gt_n) (gt_c trivial gt_n)
  have h52 : M2 52 = M 52 := h50 52 (by omega)
  have hv1 : vp_in (nI i + nI 1) (mv_xl M 52) := by rw [hlen]; exact lv_vp hi h25 (by omega)
  have hu1 : vp_in (nI i + nI 1) (mv_xl M2 52) := by rw [show mv_xl M2 52 = mv_xl M 52 by unfold mv_xl; rw [h50 60 (by omega)]]; exact hv1
  refine ⟨M4, n', t', e', l', a3, h54, fun b9 z5 z6 R M9 hk9 => ?_⟩
  refine e_run 6 rfl ?_ ?_
  · (and_intros <;> first | trivial | rfl | exact ⟨by unfold vp_in; decide, by decide⟩ | (unfold vp_in; decide) | decide | exact hv1 | exact hu1)
  try simp only [h52, cl_0]
  refine e_calli rfl a1 (Nat.le_trans (show mv_mc kX3_event ≤ 4 by decide) (Nat.le_add_left 4 b9)) ?_
  refine e_run 6 rfl ?_ ?_
  · (and_intros <;> first | trivial | rfl | exact ⟨by unfold vp_in; decide, by decide⟩ | (unfold vp_in; decide) | decide | exact hv1 | exact hu1)
  try simp only [h52, cl_0]
  refine e_calli rfl a2 (Nat.zero_le _) ?_
  refine e_if rfl (fun h1453 => ?_) (fun h1453 => absurd rfl h1453)
  exact er_ble (hk9 _ _) (by show b9 ≤ b9 + 4 - 0 - 0; omega)
set_option maxRecDepth 100000 in
theorem lc_failureKind {n t e l i len : Nat} {M : mv_M} (hI : lv4_ n t e l i len M) : ∃ (M4 : mv_M) (n' t' e' l' : Nat), rw_ n' t' e' l' M4 M4 ∧ (∀ g, 50 ≤ g → M4 g = M g) ∧ lgo_ 1458 i M M4 := by
  obtain ⟨h, hS, hlen, h25, hi⟩ := hI
  obtain ⟨M2, M4, n', t', e', l', v, a1, a2, a3, h50, h54⟩ := stp0_ (an_failureKind h) rfl rfl h gt_n gt_n
  have h52 : M2 52 = M 52 := h50 52 (by omega)
  refine ⟨M4, n', t', e', l', a3, h54, fun b9 z5 z6 R M9 hk9 => ?_⟩
  refine e_run 1 rfl trivial ?_
  try simp only [h52, cl_0]
  refine e_calli rfl a1 (Nat.le_trans (show mv_mc kX3_failureKind ≤ 4 by decide) (Nat.le_add_left 4 b9)) ?_
  refine e_run 1 rfl trivial ?_
  try simp only [h52, cl_0]
  refine e_calli rfl a2 (Nat.zero_le _) ?_
  refine e_if rfl (fun h1466 => ?_) (fun h1466 => absurd rfl h1466)
  exact er_ble (hk9 _ _) (by show b9 ≤ b9 + 4 - 0 - 0; omega)
set_option maxRecDepth 100000 in
theorem lc_failureDetail {n t e l i len : Nat} {M : mv_M} (hI : lv4_ n t e l i len M) : ∃ (M4 : mv_M) (n' t' e' l' : Nat), rw_ n' t' e' l' M4 M4 ∧ (∀ g, 50 ≤ g → M4 g = M g) ∧ lgo_ 1471 i M M4 := by
  obtain ⟨h, hS, hlen, h25, hi⟩ := hI
  obtain ⟨M2, M4, n', t', e', l', v, a1, a2, a3, h50, h54⟩ := stp0_ (an_failureDetail h) rfl rfl h gt_n gt_n
  have h52 : M2 52 = M 52 := h50 52 (by omega)
  refine ⟨M4, n', t', e', l', a3, h54, fun b9 z5 z6 R M9 hk9 => ?_⟩
  refine e_run 1 rfl trivial ?_
  try simp only [h52, cl_0]
  refine e_calli rfl a1 (Nat.le_trans (show mv_mc kX3_failureDetail ≤ 4 by decide) (Nat.le_add_left 4 b9)) ?_
  refine e_run 1 rfl trivial ?_
  try simp only [h52, cl_0]
  refine e_calli rfl a2 (Nat.zero_le _) ?_
  refine e_if rfl (fun h1479 => ?_) (fun h1479 => absurd rfl h1479)
  exact er_ble (hk9 _ _) (by show b9 ≤ b9 + 4 - 0 - 0; omega)
set_option maxRecDepth 100000 in
theorem lc_failureChain {n t e l i len : Nat} {M : mv_M} (hI : lv4_ n t e l i len M) : ∃ (M4 : mv_M) (n' t' e' l' : Nat), rw_ n' t' e' l' M4 M4 ∧ (∀ g, 50 ≤ g → M4 g = M g) ∧ lgo_ 1484 i M M4 := by
  obtain ⟨h, hS, hlen, h25, hi⟩ := hI
  obtain ⟨M2, M4, n', t', e', l', v, a1, a2, a3, h50, h54⟩ := stp0_ (an_failureChain h (M 52 0 (nI i + nI 1).toNatClampNeg)) rfl rfl h (gt_c trivial gt_n) (gt_c trivial gt_n)
  have h52 : M2 52 = M 52 := h50 52 (by omega)
  have hv1 : vp_in (nI i + nI 1) (mv_xl M 52) := by rw [hlen]; exact lv_vp hi h25 (by omega)
  have hu1 : vp_in (nI i + nI 1) (mv_xl M2 52) := by rw [show mv_xl M2 52 = mv_xl M 52 by unfold mv_xl; rw [h50 60 (by omega)]]; exact hv1
  refine ⟨M4, n', t', e', l', a3, h54, fun b9 z5 z6 R M9 hk9 => ?_⟩
  refine e_run 6 rfl ?_ ?_
  · (and_intros <;> first | trivial | rfl | exact ⟨by unfold vp_in; decide, by decide⟩ | (unfold vp_in; decide) | decide | exact hv1 | exact hu1)
  try simp only [h52, cl_0]
  refine e_calli rfl a1 (Nat.le_trans (show mv_mc kX3_failureChain ≤ 4 by decide) (Nat.le_add_left 4 b9)) ?_
  refine e_run 6 rfl ?_ ?_
  · (and_intros <;> first | trivial | rfl | exact ⟨by unfold vp_in; decide, by decide⟩ | (unfold vp_in; decide) | decide | exact hv1 | exact hu1)
  try simp only [h52, cl_0]
  refine e_calli rfl a2 (Nat.zero_le _) ?_
  refine e_if rfl (fun h1504 => ?_) (fun h1504 => absurd rfl h1504)
  exact er_ble (hk9 _ _) (by show b9 ≤ b9 + 4 - 0 - 0; omega)
