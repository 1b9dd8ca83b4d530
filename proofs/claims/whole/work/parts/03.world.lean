/-! THE MINI-MACHINE'S WORLD IN THE HEAP -/
section MVW
def mv_val (ad : Nat → Nat → Nat) : mv_V → Value
  | Sum.inl x => .int x
  | Sum.inr (Sum.inl r) => .ref (ad r.1 r.2)
  | Sum.inr (Sum.inr x) => .long x.toInt64
def mv_LR (ad : Nat → Nat → Nat) (ls : Array Slot) (lv : mv_L) : Prop := ls.size = lv.length ∧ lv_wf ls ∧ ∀ (i : Nat) (v : mv_V), lv[i]? = some (some v) → ls[i]? = some (.val (mv_val ad v)) ∧ (mv_val ad v).category = 1
def mv_lvl (ad : Nat → Nat → Nat) (lv : mv_L) : List (Nat × Value) := (List.range lv.length).filterMap (fun i => match lv[i]? with
  | some (some v) => some (i, mv_val ad v)
  | _ => none)
theorem mv_lvl_mem {ad : Nat → Nat → Nat} {lv : mv_L} {i : Nat} {w : Value} : (i, w) ∈ mv_lvl ad lv ↔ ∃ v, lv[i]? = some (some v) ∧ w = mv_val ad v := by
  unfold mv_lvl
  rw [List.mem_filterMap]
  constructor
  · rintro ⟨j, -, h⟩
    split at h
    · next v hv => cases h; exact ⟨v, hv, rfl⟩
    · cases h
  · rintro ⟨v, h1, h2⟩
    refine ⟨i, List.mem_range.mpr (List.getElem?_eq_some_iff.mp h1).1, ?_⟩
    rw [h1, h2]
theorem mv_LR.has {ad : Nat → Nat → Nat} {ls : Array Slot} {lv : mv_L} (h : mv_LR ad ls lv) : lv_has ls lv.length (mv_lvl ad lv) := ⟨h.1, h.2.1, fun q hq => by
  obtain ⟨i, w⟩ := q
  obtain ⟨v, h1, h2⟩ := mv_lvl_mem.mp hq
  subst h2
  exact (h.2.2 _ _ h1).1⟩
theorem mv_LR.put {ad : Nat → Nat → Nat} {ls ls' : Array Slot} {lv : mv_L} {i : Nat} {v : mv_V} (h : mv_LR ad ls lv) (hi : i < lv.length) (hv : (mv_val ad v).category = 1) (hl : lv_has ls' lv.length ((i, mv_val ad v) :: (mv_lvl ad lv).filter (fun q => !(q.1 == i) && !(q.1 + 1 == i && q.2.category == 2)))) : mv_LR ad ls' (lv.set i (some v)) := by
  refine ⟨by rw [List.length_set]; exact hl.1, hl.2.1, fun j w hj => ?_⟩
  by_cases e : j = i
  · subst e
    rw [List.getElem?_set_self hi] at hj
    cases hj
    exact ⟨hl.2.2 (j, mv_val ad v) List.mem_cons_self, hv⟩
  · rw [List.getElem?_set_ne (fun q => e q.symm)] at hj
    obtain ⟨a, b⟩ := h.2.2 j w hj
    refine ⟨hl.2.2 (j, mv_val ad w) (List.mem_cons_of_mem _ (List.mem_filter.mpr ⟨mv_lvl_mem.mpr ⟨w, hj, rfl⟩, ?_⟩)), b⟩
    simp [e, b]
theorem mv_LR.drop {ad : Nat → Nat → Nat} {ls ls' : Array Slot} {lv : mv_L} {i : Nat} {v : Value} (h : mv_LR ad ls lv) (hi : i < lv.length) (hl : lv_has ls' lv.length ((i, v) :: (mv_lvl ad lv).filter (fun q => !(q.1 == i) && !(q.1 + 1 == i && q.2.category == 2)))) : mv_LR ad ls' (lv.set i none) := by
  refine ⟨by rw [List.length_set]; exact hl.1, hl.2.1, fun j w hj => ?_⟩
  by_cases e : j = i
  · subst e
    rw [List.getElem?_set_self hi] at hj
    cases hj
  · rw [List.getElem?_set_ne (fun q => e q.symm)] at hj
    obtain ⟨a, b⟩ := h.2.2 j w hj
    refine ⟨hl.2.2 (j, mv_val ad w) (List.mem_cons_of_mem _ (List.mem_filter.mpr ⟨mv_lvl_mem.mpr ⟨w, hj, rfl⟩, ?_⟩)), b⟩
    simp [e, b]
def mv_flds (ad : Nat → Nat → Nat) (fs : List (Option Nat)) (f : Nat → Int32) : List Value := (List.range fs.length).map (fun k => match fs[k]? with
  | some (some r) => .ref (ad r 0)
  | _ => .int (f k))
def mv_cel (cA : Nat → ClassId) (ad : Nat → Nat → Nat) (g : Nat) (f : Nat → Int32) : va_E := match mv_shp g with
  | some (Sum.inl (ci, fs), _) => .inr (ci, mv_flds ad fs f)
  | some (Sum.inr (Sum.inl (2, n)), _) => .inl (cA 2, n, .inr (.inl (fun o => (f o).toInt64)))
  | some (Sum.inr (Sum.inl (kd, n)), _) => .inl (cA kd, n, .inl f)
  | some (Sum.inr (Sum.inr (r, n)), _) => .inl (cA 3, n, .inr (.inr (.inr (.inr (fun i => if i < n then some (ad r i) else none)))))
  | none => .inr (0, [])
def mv_cnt (g : Nat) : Nat := match mv_shp g with
  | some (_, c) => c
  | none => 0
def mv_cells : List (Nat × Nat) := (List.range 43).flatMap (fun g => (List.range (mv_cnt g)).map (fun j => (g, j)))
theorem mv_cells_nd : mv_cells.Nodup := by decide +kernel
theorem mv_shp_lt {g : Nat} {x : mv_Sh × Nat} (h : mv_shp g = some x) : g < 43 := (List.getElem?_eq_some_iff.mp h).1
theorem mv_cells_mem {g j c : Nat} {sh : mv_Sh} (h : mv_shp g = some (sh, c)) (hj : j < c) : (g, j) ∈ mv_cells := by
  refine List.mem_flatMap.mpr ⟨g, List.mem_range.mpr (mv_shp_lt h), List.mem_map.mpr ⟨j, List.mem_range.mpr ?_, rfl⟩⟩
  unfold mv_cnt
  rw [h]
  exact hj
def mv_WS (cA : Nat → ClassId) (ad : Nat → Nat → Nat) (M : mv_M) : va_W := mv_cells.map (fun c => (ad c.1 c.2, mv_cel cA ad c.1 (M c.1 c.2)))
theorem mv_WS_at {g j c : Nat} {sh : mv_Sh} (cA : Nat → ClassId) (ad : Nat → Nat → Nat) (M : mv_M) (h : mv_shp g = some (sh, c)) (hj : j < c) : ∃ q0 : Nat, mv_cells[q0]? = some (g, j) ∧ (mv_WS cA ad M)[q0]? = some (ad g j, mv_cel cA ad g (M g j)) := by
  obtain ⟨q0, hq⟩ := List.getElem?_of_mem (mv_cells_mem h hj)
  exact ⟨q0, hq, by unfold mv_WS; rw [List.getElem?_map, hq]; rfl⟩
theorem mv_WS_set {q0 g j : Nat} {cA : Nat → ClassId} {ad : Nat → Nat → Nat} {M : mv_M} {f : Nat → Int32} (h : mv_cells[q0]? = some (g, j)) : (mv_WS cA ad M).set q0 (ad g j, mv_cel cA ad g f) = mv_WS cA ad (mv_cp M g j f) := by
  apply List.ext_getElem?
  intro i
  have hlt : q0 < mv_cells.length := (List.getElem?_eq_some_iff.mp h).1
  unfold mv_WS
  rw [List.getElem?_set, List.getElem?_map, List.getElem?_map, List.length_map]
  by_cases e : q0 = i
  · subst e
    rw [if_pos rfl, if_pos hlt, h]
    simp [mv_cp]
  · rw [if_neg e]
    cases hc : mv_cells[i]? with
    | none => rfl
    | some c =>
      have hne : ¬ (c.1 = g ∧ c.2 = j) := by
        rintro ⟨h1, h2⟩
        have hcc : c = (g, j) := by rw [← h1, ← h2]
        rw [hcc] at hc
        exact e ((List.getElem?_inj hlt mv_cells_nd).mp (h.trans hc.symm))
      simp [mv_cp, hne]
theorem mv_D_any {A : Nat → Prop} {cA : Nat → ClassId} {ad : Nat → Nat → Nat} {M : mv_M} (h : va_D A (mv_WS cA ad M)) (M' : mv_M) : va_D A (mv_WS cA ad M') := by
  have key : ∀ (k : Nat) (q : Nat × va_E), (mv_WS cA ad M')[k]? = some q → ∃ q' : Nat × va_E, (mv_WS cA ad M)[k]? = some q' ∧ q'.1 = q.1 := by
    intro k q hq
    unfold mv_WS at hq ⊢
    rw [List.getElem?_map] at hq ⊢
    cases hc : mv_cells[k]? with
    | none => rw [hc] at hq; cases hq
    | some c => rw [hc] at hq; cases hq; exact ⟨_, rfl, rfl⟩
  refine ⟨fun i j p q hp hq hpq => ?_, fun k q hq => ?_⟩
  · obtain ⟨p', h1, h2⟩ := key i p hp
    obtain ⟨q', h3, h4⟩ := key j q hq
    exact h.1 i j p' q' h1 h3 (by rw [h2, h4, hpq])
  · obtain ⟨q', h1, h2⟩ := key k q hq
    rw [← h2]
    exact h.2 k q' h1
theorem mv_WS_addr {cA : Nat → ClassId} {ad : Nat → Nat → Nat} {M : mv_M} {k : Nat} {q : Nat × va_E} (h : (mv_WS cA ad M)[k]? = some q) : ∃ c ∈ mv_cells, q.1 = ad c.1 c.2 := by
  unfold mv_WS at h
  obtain ⟨c, hc, rfl⟩ := List.mem_map.mp (List.mem_of_getElem? h)
  exact ⟨c, hc, rfl⟩
theorem mv_flds_get {ad : Nat → Nat → Nat} {fs : List (Option Nat)} {f : Nat → Int32} {k : Nat} {x : Option Nat} (h : fs[k]? = some x) : (mv_flds ad fs f)[k]? = some (match x with
  | some r => .ref (ad r 0)
  | none => .int (f k)) := by
  have hk : k < fs.length := (List.getElem?_eq_some_iff.mp h).1
  unfold mv_flds
  rw [List.getElem?_map, List.getElem?_range hk]
  cases x <;> simp [h]
theorem mv_flds_set {ad : Nat → Nat → Nat} {fs : List (Option Nat)} {f : Nat → Int32} {k : Nat} {x : Int32} (h : fs[k]? = some none) : (mv_flds ad fs f).set k (.int x) = mv_flds ad fs (upd f k x) := by
  have hk : k < fs.length := (List.getElem?_eq_some_iff.mp h).1
  apply List.ext_getElem?
  intro i
  unfold mv_flds
  rw [List.getElem?_set, List.getElem?_map, List.getElem?_map, List.length_map, List.length_range]
  by_cases e : k = i
  · subst e
    rw [if_pos rfl, if_pos hk, List.getElem?_range hk]
    simp [h, upd]
  · rw [if_neg e]
    by_cases hi : i < fs.length
    · rw [List.getElem?_range hi]
      have e2 : ¬ i = k := fun q => e q.symm
      simp only [Option.map_some, Option.some.injEq]
      split
      · rfl
      · simp [upd, e2]
    · rw [List.getElem?_eq_none (by simpa using hi)]
      rfl
theorem mv_flds_len {ad : Nat → Nat → Nat} {fs : List (Option Nat)} {f : Nat → Int32} : (mv_flds ad fs f).length = fs.length := by simp [mv_flds]
end MVW
