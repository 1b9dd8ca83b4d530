/-! THE REFERENCE'S PUBLIC METHODS: descriptions -/
theorem lt_pred {n : Nat} (hn : n < 2 ^ 31) (x : Int32) : nI n - 1 < x ↔ ¬ x < nI n := by
  rw [Int32.lt_iff_toInt_lt, Int32.lt_iff_toInt_lt, nI_toInt hn]
  have h : (nI n - 1).toInt = n - 1 := by
    cases n with
    | zero => decide
    | succ m => rw [nI_pred, nI_toInt (by omega)]; omega
  rw [h]
  omega
/-- x is one of the first n -/
def cm_ (n : Nat) (x : Int32) : Bool := !decide (x < 0) && decide (x < nI n)
theorem bw_cm {n : Nat} (hn : n < 2 ^ 31) (x : Int32) : bw_ x 0 (nI n - 1) = cm_ n x := by
  unfold bw_ cm_
  by_cases h : x < nI n
  · rw [decide_eq_true h, decide_eq_false (fun q => (lt_pred hn x).mp q h)]
    rfl
  · rw [decide_eq_false h, decide_eq_true ((lt_pred hn x).mpr h)]
    rfl
theorem cm_t {n : Nat} {x : Int32} (hn : n < 2 ^ 31) (h : cm_ n x = true) : ∃ c, c < n ∧ x = nI c := by
  unfold cm_ at h
  rw [Bool.and_eq_true, Bool.not_eq_true', decide_eq_false_iff_not, decide_eq_true_eq] at h
  obtain ⟨j, hj, rfl⟩ := nI_of h.1
  exact ⟨j, (nI_ltI hj hn).mp h.2, rfl⟩
theorem cm_f {n : Nat} {x : Int32} (h : cm_ n x = false) : x < 0 ∨ ¬ x < nI n := by
  unfold cm_ at h
  by_cases h1 : x < 0
  · exact Or.inl h1
  · refine Or.inr (fun q => ?_)
    rw [decide_eq_false h1, decide_eq_true q] at h
    cases h
theorem cm_nI {n c : Nat} (hn : n < 2 ^ 31) (hc : c < n) : cm_ n (nI c) = true := by
  unfold cm_
  rw [decide_eq_false (nI_pos (by omega)), decide_eq_true (nI_lt hc hn)]
  rfl
theorem rs_isComponent (d : Nat) {M : mv_M} {n : Nat} (hn : M 22 0 1 = nI n) (h31 : n < 2 ^ 31) (x : Int32) : ev_ (d + 1) kX4_isComponent [mv_R 22 0, mv_I x] M (Sum.inl (some (mv_I (if cm_ n x = true then 1 else 0)))) M := by
  have hb := bw_cm h31 x
  refine e_ev rfl rfl ?_
  refine e_run 6 rfl trivial ?_
  try simp only [hn]
  refine e_calli rfl (rs_in d M x 0 _) (by decide) ?_
  try simp only [hn]
  (rw [hb]; refine e_ret rfl ?_ rfl rfl; show (if cm_ n x = true then (1 : Int32) else 0) = 0 ∨ (if cm_ n x = true then (1 : Int32) else 0) = 1; split <;> simp)
theorem rs_isAsked (d : Nat) (M : mv_M) (t q : Int32) : ev_ (d + 1) kX4_isAsked [mv_I t, mv_I q] M (Sum.inl (some (mv_I (if tq_ t q = true then 1 else 0)))) M := by
  refine e_ev rfl rfl ?_
  unfold tq_
  refine e_run 3 rfl trivial ?_
  refine e_calli rfl (rs_in d M t 0 15) (by decide) ?_
  refine e_if rfl (fun h7 => ?_) (fun h7 => ?_)
  · refine e_run 1 rfl trivial ?_
    (refine e_ret rfl ?_ ?_ rfl <;> first | exact Or.inl rfl | exact Or.inr rfl | (simp_all; done))
  · refine e_run 3 rfl trivial ?_
    refine e_calli rfl (rs_in d M q (-1) 9) (by decide) ?_
    refine e_if rfl (fun h17 => ?_) (fun h17 => ?_)
    · refine e_run 1 rfl trivial ?_
      (refine e_ret rfl ?_ ?_ rfl <;> first | exact Or.inl rfl | exact Or.inr rfl | (simp_all; done))
    · refine e_run 2 rfl trivial ?_
      (refine e_ret rfl ?_ ?_ rfl <;> first | exact Or.inl rfl | exact Or.inr rfl | (simp_all; done))
/-- the code of what was thrown -/
def th_ (M : mv_M) (k : Int32) : mv_M := mv_up M 22 0 0 k
theorem dr_th {C M : mv_M} {n : Nat} {k : Int32} (h : dr_ C M n) : dr_ C (th_ M k) n := h
theorem e_tsw {d b k pc dd : Nat} {lv : mv_L} {st : List mv_V} {M0 M' : mv_M} {o : mv_O} {x hi : Int32} (ts : List (Int32 × Nat)) (h : mv_ac k pc lv (mv_I x :: st) M0 = mv_br ((x < 0 ∨ hi < x, (dd, lv, st, M0)) :: mv_sw x ts lv st M0)) (h0 : x < 0 ∨ hi < x → er_ d b k (dd, lv, st, M0) o M') (h1 : ∀ t, t ∈ ts → x = t.1 → er_ d b k (t.2, lv, st, M0) o M') : er_ d b k (pc, lv, mv_I x :: st, M0) o M' := by
  refine e_brs h (fun y hy hy1 => ?_)
  rcases List.mem_cons.mp hy with rfl | hy
  · exact h0 hy1
  · obtain ⟨t, ht, rfl⟩ := List.mem_map.mp hy
    exact h1 t ht hy1
/-- a property's lowest and highest value -/
def pb_ (p : Nat) : Int32 × Int32 := if p = 0 then (1, 65535) else if p = 1 then (0, 2) else if p = 2 then (-1, 9) else if p = 5 then (-1, 7) else if p = 6 then (-1, 99) else (0, 1)
theorem rs_isValue (d p : Nat) (M : mv_M) (v : Int32) (hp : p < 7) : ev_ (d + 1) kX4_isValue [mv_I (nI p), mv_I v] M (Sum.inl (some (mv_I (if bw_ v (pb_ p).1 (pb_ p).2 = true then 1 else 0)))) M := by
  refine e_ev rfl rfl ?_
  have hz : ∀ b : Bool, (if b = true then (1 : Int32) else 0) = 0 ∨ (if b = true then (1 : Int32) else 0) = 1 := fun b => by cases b <;> simp
  refine e_run 1 rfl trivial ?_
  refine e_tsw [(0, 44), (1, 52), (2, 59), (3, 83), (4, 83), (5, 67), (6, 75)] rfl (fun q => ?_) (fun t ht ht1 => ?_)
  · refine absurd q (not_or.mpr ⟨nI_pos (by omega), fun q9 => ?_⟩)
    rw [show (6 : Int32) = nI 6 from rfl, nI_ltI (by omega) (by omega)] at q9
    omega
  obtain rfl | rfl | rfl | rfl | rfl | rfl | rfl : p = 0 ∨ p = 1 ∨ p = 2 ∨ p = 3 ∨ p = 4 ∨ p = 5 ∨ p = 6 := by omega
  all_goals
    simp only [List.mem_cons, List.not_mem_nil, or_false] at ht
    rcases ht with rfl | rfl | rfl | rfl | rfl | rfl | rfl
  all_goals first
    | exact absurd ht1 (by decide)
    | exact e_run 3 rfl trivial (e_calli rfl (rs_in d M v _ _) (by decide) (e_ret rfl (hz _) rfl rfl))
