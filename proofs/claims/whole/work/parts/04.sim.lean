def mv_nms : List MethodName := [yX0_append, yX0_appendDependency, yX0_hasDependency, yX0_partOf, yX0_turnProfile, yX0_isActive, yX0_isStarted, yX0_provides, yX0_candidateMask, yX0_candidatesFor, yX0_choiceAmong, yX0_singleIn, yX0_primaryMask, yX0_directNeeds, yX0_needsOfDependency, yX0_allNeeds, yX1_remember, yX2_append, yX2_hasInjection, yX2_destroyAllIn, yX2_destroyPrototypesFrom, yX2_destroyFrom, yX2_destroy, yX2_recordEvent, yX3_add, yX3_set, yX3_property, yX3_depend, yX3_clear, yX3_dependency, yX3_profile, yX3_components, yX3_candidates, yX3_chosen, yX3_problem, yX3_needs, yX3_resolve, yX3_provide, yX3_start, yX3_begin, yX3_end, yX3_close, yX3_instances, yX3_componentOf, yX3_isAlive, yX3_injected, yX3_event, yX3_failureKind, yX3_failureDetail, yX3_failureChain, yX3_isBetween, yX3_isPropertyValue, yX3_requireComponent, yX3_requireInstance, yX3_requireProperty, yX3_requireTypeAndQualifier, yX3_tryConstruction, yX3_tryDependency, yX3_tryEach, yX3_requestOrThrow, yX3_request, yX3_obtain, yX3_construct, yX3_isUnderConstruction, yX3_inject, yX3_obtainEach, yX3_complete, yX3_recordFailure, yX3_closeInnermostScope, yX3_isIn, yX4_thrown, yX4_in, yX4_isComponent, yX4_of, yX4_add, yX4_isValue, yX4_set, yX4_property, yX4_isAsked, yX4_dependAt, yX4_depend, yX4_clear, yX4_dependency, yX4_profile, yX4_components, yX4_isActive, yX4_candidatesFor, yX4_bits, yX4_lowest, yX4_choose, yX4_candidates, yX4_chosen, yX4_isInFrames, yX4_push, yX4_wanted, yX4_wouldGoOn, yX4_problem, yX4_directly, yX4_needs, yX4_fail, yX4_construct, yX4_living, yX4_obtain, yX4_inject, yX4_serve, yX4_receive, yX4_note, yX4_complete, yX4_goOn, yX4_clean, yX4_destroy, yX4_make, yX4_settle, yX4_request, yX4_resolve, yX4_isInstance, yX4_isLater, yX4_provide, yX4_start, yX4_begin, yX4_endScope, yX4_end, yX4_close, yX4_instances, yX4_componentOf, yX4_isAlive, yX4_injected, yX4_event, yX4_failureKind, yX4_failureDetail, yX4_failureChain, yL_add, yL_set, yL_property, yL_depend, yL_clear, yL_dependency, yL_profile, yL_candidates, yL_chosen, yL_problem, yL_needs, yL_resolve, yL_provide, yL_start, yL_begin, yL_end, yL_componentOf, yL_isAlive, yL_injected, yL_law]
def mv_cods : List ByteArray := [cX0_append, cX0_appendDependency, cX0_hasDependency, cX0_partOf, cX0_turnProfile, cX0_isActive, cX0_isStarted, cX0_provides, cX0_candidateMask, cX0_candidatesFor, cX0_choiceAmong, cX0_singleIn, cX0_primaryMask, cX0_directNeeds, cX0_needsOfDependency, cX0_allNeeds, cX1_remember, cX2_append, cX2_hasInjection, cX2_destroyAllIn, cX2_destroyPrototypesFrom, cX2_destroyFrom, cX2_destroy, cX2_recordEvent, cX3_add, cX3_set, cX3_property, cX3_depend, cX3_clear, cX3_dependency, cX3_profile, cX3_components, cX3_candidates, cX3_chosen, cX3_problem, cX3_needs, cX3_resolve, cX3_provide, cX3_start, cX3_begin, cX3_end, cX3_close, cX3_instances, cX3_componentOf, cX3_isAlive, cX3_injected, cX3_event, cX3_failureKind, cX3_failureDetail, cX3_failureChain, cX3_isBetween, cX3_isPropertyValue, cX3_requireComponent, cX3_requireInstance, cX3_requireProperty, cX3_requireTypeAndQualifier, cX3_tryConstruction, cX3_tryDependency, cX3_tryEach, cX3_requestOrThrow, cX3_request, cX3_obtain, cX3_construct, cX3_isUnderConstruction, cX3_inject, cX3_obtainEach, cX3_complete, cX3_recordFailure, cX3_closeInnermostScope, cX3_isIn, cX4_thrown, cX4_in, cX4_isComponent, cX4_of, cX4_add, cX4_isValue, cX4_set, cX4_property, cX4_isAsked, cX4_dependAt, cX4_depend, cX4_clear, cX4_dependency, cX4_profile, cX4_components, cX4_isActive, cX4_candidatesFor, cX4_bits, cX4_lowest, cX4_choose, cX4_candidates, cX4_chosen, cX4_isInFrames, cX4_push, cX4_wanted, cX4_wouldGoOn, cX4_problem, cX4_directly, cX4_needs, cX4_fail, cX4_construct, cX4_living, cX4_obtain, cX4_inject, cX4_serve, cX4_receive, cX4_note, cX4_complete, cX4_goOn, cX4_clean, cX4_destroy, cX4_make, cX4_settle, cX4_request, cX4_resolve, cX4_isInstance, cX4_isLater, cX4_provide, cX4_start, cX4_begin, cX4_endScope, cX4_end, cX4_close, cX4_instances, cX4_componentOf, cX4_isAlive, cX4_injected, cX4_event, cX4_failureKind, cX4_failureDetail, cX4_failureChain, cL_add, cL_set, cL_property, cL_depend, cL_clear, cL_dependency, cL_profile, cL_candidates, cL_chosen, cL_problem, cL_needs, cL_resolve, cL_provide, cL_start, cL_begin, cL_end, cL_componentOf, cL_isAlive, cL_injected, cL_law]
def mv_rts : List (Option FieldType) := [some .int, some .int, some .boolean, some .int, none, some .boolean, some .boolean, some .boolean, some .int, some .int, some .int, some .int, some .int, some .int, some .int, some .int, none, some .int, some .boolean, some .int, none, some .int, none, none, some .int, some .int, some .int, some .int, some .int, some .int, some .boolean, some .int, some .int, some .int, some .int, some .int, some .int, some .int, some .int, some .int, some .int, some .int, some .int, some .int, some .boolean, some .int, some .int, some .int, some .int, some .int, some .boolean, some .boolean, none, none, none, none, some .int, some .int, some .int, some .int, some .int, some .int, some .int, some .boolean, some .int, some .int, some .int, some .int, some .int, some .boolean, some .int, some .boolean, some .boolean, some .int, some .int, some .boolean, some .int, some .int, some .boolean, some .int, some .int, some .int, some .int, some .boolean, some .int, some .boolean, some .int, some .int, some .int, some .int, some .int, some .int, some .boolean, none, some .int, some .int, some .int, some .int, some .int, none, none, some .int, none, none, none, none, none, none, none, none, none, none, some .boolean, some .int, some .int, some .boolean, some .boolean, some .int, some .int, some .int, some .int, some .int, some .int, some .int, some .int, some .boolean, some .int, some .int, some .int, some .int, some .int, some .int, some .int, some .int, some .int, some .int, some .int, some .int, some .int, some .int, some .int, some .int, some .int, some .int, some .int, some .int, some .int, some .int, some .int, some .int, some .boolean]
def mv_hhs : List (List (Nat × Nat × Nat × Nat)) := [[], [], [], [], [], [], [], [], [], [], [], [], [], [], [], [], [], [], [], [], [], [], [], [], [], [], [], [], [], [], [], [], [], [], [], [], [], [], [], [], [], [], [], [], [], [], [], [], [], [], [], [], [], [], [], [], [], [], [], [], [], [], [], [], [], [], [], [], [], [], [], [], [], [], [], [], [], [], [], [], [], [], [], [], [], [], [], [], [], [], [], [], [], [], [], [], [], [], [], [], [], [], [], [], [], [], [], [], [], [], [], [], [], [], [], [], [], [], [], [], [], [], [], [], [], [], [], [], [], [], [], [(0, 10, 13, 13), (0, 10, 17, 15)], [(0, 12, 15, 21), (0, 12, 19, 13)], [(0, 10, 13, 21), (0, 10, 17, 13)], [(0, 14, 17, 21), (0, 14, 21, 13), (0, 14, 25, 15)], [(0, 9, 12, 21)], [(0, 12, 15, 21), (0, 12, 19, 13)], [(0, 17, 20, 13)], [(0, 10, 13, 13)], [(0, 10, 13, 13)], [(0, 9, 12, 21)], [(0, 9, 12, 21)], [(0, 10, 13, 13), (0, 10, 17, 15)], [(0, 10, 13, 21), (0, 10, 17, 13), (0, 10, 21, 15)], [(0, 8, 11, 15)], [(0, 8, 11, 15)], [(0, 8, 11, 15)], [(0, 9, 12, 21)], [(0, 16, 19, 21)], [(0, 10, 13, 21), (0, 10, 17, 13)], []]
def mv_strs : List (String × Nat × String) := [("ComponentContainer", 52, "types or scope is out of range"), ("ComponentContainer", 62, "there are 20 components"), ("ComponentContainer", 76, "the value is out of its range"), ("ComponentContainer", 89, "mode is out of range"), ("ComponentContainer", 94, "the component has 6 dependencies"), ("ComponentContainer", 100, "part is out of range"), ("ComponentContainer", 109, "profile is out of range"), ("ComponentContainer", 143, "no LATER dependency has this number"), ("ComponentContainer", 149, "the instance is not alive"), ("ComponentContainer", 162, "an instance could not be obtained"), ("ComponentContainer", 164, "5 scopes are open"), ("ComponentContainer", 166, "no scope is open"), ("ComponentContainer", 178, "the component had no such dependency"), ("ComponentContainer", 207, "there is no such component"), ("ComponentContainer", 210, "there is no such instance"), ("ComponentContainer", 212, "there is no such property"), ("ComponentContainer", 214, "type or qualifier is out of range"), ("ComponentContainer", 228, "the request failed")]
def mv_stas : List (Nat × String) := [(50, "LOWEST_VALUES"), (51, "HIGHEST_VALUES")]
def mv_ncs : List (String × String) := [("java/lang/IllegalArgumentException", "java/lang/IndexOutOfBoundsException"), ("java/lang/IllegalStateException", "java/lang/IllegalArgumentException"), ("java/lang/IllegalStateException", "java/lang/IndexOutOfBoundsException")]
/-! EACH INSTRUCTION OF THE MINI-MACHINE IS THE MACHINE'S -/
def mv_ex (E : Nat) : String := (["java/lang/IllegalArgumentException", "java/lang/IllegalStateException", "java/lang/IndexOutOfBoundsException"][E]?).getD ""
def mv_W : List Cond := lw_tbl.filter goodWord
def mv_nk : Cond → Bool
  | .fieldLinkNest .. => true
  | .methodLinkNest .. => true
  | .castable .. => true
  | .declares .. => true
  | _ => false
def mv_nst : List Cond := lw_tbl.filter mv_nk
def mv_nm (k : Nat) : MethodName := (mv_nms[k]?).getD yL_law
def mv_cod (k : Nat) : ByteArray := (mv_cods[k]?).getD ByteArray.empty
def mv_rt (k : Nat) : Option FieldType := (mv_rts[k]?).getD none
def mv_hh (k : Nat) : List (Nat × Nat × Nat × Nat) := (mv_hhs[k]?).getD []
def mv_own (k : Nat) : String := (mv_nm k).cls
def mv_cw (k : Nat) : Cond := match mv_hh k with
  | [] => .code (mv_nm k) (mv_cod k) (mv_nL k) (mv_rt k)
  | hh => .codeWith (mv_nm k) (mv_cod k) (mv_nL k) (mv_rt k) hh
def mv_wd (k : Nat) : List Cond := mv_cw k :: mv_W
def mv_tys (cA : Nat → ClassId) : List (ClassId × FieldType) := [(cA 0, .int), (cA 1, .boolean), (cA 2, .long), (cA 3, .array .int)]
/-- a row that is read alone: at least L cells, and as many as an int tells -/
def vX_ (b L : Nat) (xs : Nat → Int32) (U : State) (H : Heap) : Prop := ∃ scr : Cell, H[b]? = some scr ∧ U.isArrayOf scr .int ∧ scr.vm ≠ .unknown ∧ L ≤ scr.slots.size ∧ scr.slots.size.toInt32 = Int32.ofNat L ∧ ∀ j : Nat, j < L → scr.slots[j]? = some (.int (xs j))
theorem vX_.kept {b L : Nat} {xs : Nat → Int32} {U : State} {H H1 : Heap} (h : vX_ b L xs U H) (hq : H1[b]? = H[b]?) : vX_ b L xs U H1 := by
  obtain ⟨scr, h1, h2⟩ := h
  exact ⟨scr, by rw [hq]; exact h1, h2⟩
theorem vX_.moved {b L : Nat} {xs : Nat → Int32} {u U : State} {H : Heap} (hvm : u.vm.Alike U.vm) (h : vX_ b L xs u H) : vX_ b L xs U H := by
  obtain ⟨scr, h1, h2, h3⟩ := h
  exact ⟨scr, h1, State.isArrayOf_alike hvm h2, h3⟩
section VXR
variable {p : Program} {l : Launch} {e : Env} {R : Room} {s : State} {m : MethodId} {args : Array Value} {below : List Frame} {meth : Method} {c : Code} {H : Heap} {locs : List Loc} {cells slots : Nat} {Q : State → Prop} {cc : ByteArray} {pc : Nat} {ls : Array Slot} {rest : List Value} {A : Nat → Prop} {H0 : Heap}
theorem vX_sld (hexec : p.tables.exec = Jvm.exec) (hb : c.code = cc) {b L : Nat} {xs : Nat → Int32} (hX : vX_ b L xs s H0) (hbl : b < H0.size) (hbA : ¬ A b) (hS : va_S A H0 H locs) {i : Int32} (hin : vp_in i L) (hdg : decode cc pc = .ok (.iaload, 1))
    (kk : W p l e R s m args below meth c H locs cells slots Q (F0 m (pc + 1) ls (.int (xs i.toNatClampNeg) :: rest))) : W p l e R s m args below meth c H locs cells slots Q (F0 m pc ls (.int i :: .ref b :: rest)) := by
  obtain ⟨scr, h1, h2, h3, h4, -, h5⟩ := hX
  have hlt : i.toNatClampNeg < L := Nat.not_le.mp fun q => hin (Or.inr q)
  exact W.iald (v := .int (xs i.toNatClampNeg)) hexec hb (by rw [hS.2.1 b hbl hbA]; exact h1) h2 h3 (fun q => hin (q.elim Or.inl (fun z => Or.inr (Nat.le_trans h4 z)))) (h5 _ hlt) rfl rfl hdg kk
theorem vX_slen (hexec : p.tables.exec = Jvm.exec) (hb : c.code = cc) {b L : Nat} {xs : Nat → Int32} (hX : vX_ b L xs s H0) (hbl : b < H0.size) (hbA : ¬ A b) (hS : va_S A H0 H locs) (hdg : decode cc pc = .ok (.arraylength, 1))
    (kk : W p l e R s m args below meth c H locs cells slots Q (F0 m (pc + 1) ls (.int (Int32.ofNat L) :: rest))) : W p l e R s m args below meth c H locs cells slots Q (F0 m pc ls (.ref b :: rest)) := by
  obtain ⟨scr, h1, h2, h3, -, h4, h5⟩ := hX
  exact W.alen (n := Int32.ofNat L) hexec hb (by rw [hS.2.1 b hbl hbA]; exact h1) h2 h4 rfl rfl hdg kk
end VXR
/-- what stands beside the world and never changes: the tables' words of nest mates, the texts of the exceptions, the static rows, the script -/
def mv_EX (D : va_G) (cA : Nat → ClassId) (ad : Nat → Nat → Nat) (X0 : mv_M) (A : Nat → Prop) (U : State) : Prop :=
  va_K D vwCl (mv_tys cA) U ∧ (∀ w ∈ mv_nst, va_Nw w U) ∧ vx_Zq Bundle.tN "UNASSIGNED_STACK" Bundle.steD A U U.heap ∧ vx_Zq Bundle.tN "SUPPRESSED_SENTINEL" Bundle.listD A U U.heap ∧
  (∀ t ∈ mv_strs, ∃ sa : Nat, vk_R t.1 t.2.1 t.2.2 sa U) ∧ (∀ t ∈ mv_ncs, va_Nc t.1 t.2 U) ∧ (∀ t ∈ mv_stas, va_Z "ComponentContainer" t.2 "[I" (.ref (ad t.1 0)) A U U.heap) ∧
  ∀ g : Nat, mv_isX g = true → vX_ (ad g 0) (mv_xl X0 g) (X0 g 0) U U.heap ∧ ad g 0 < U.heap.size ∧ ¬ A (ad g 0)
def mv_AA (ad : Nat → Nat → Nat) (sz : Nat) : Nat → Prop := fun q => (∃ c ∈ mv_cells, q = ad c.1 c.2) ∨ sz ≤ q
def mv_rm (k d : Nat) : Room := { frames := d + 8, cells := mv_mc k, slots := 6 * mv_mc k, locals := 64 * d + 200 }
/-- a contract's start -/
def mv_Pr (D : va_G) (cA : Nat → ClassId) (ad : Nat → Nat → Nat) (X0 : mv_M) (sz : Nat) (as : List mv_V) (M : mv_M) : Array Value → State → Prop := va_Pc (as.map (mv_val ad)) (fun U => U.heap.size = sz ∧ va_P D vwCl (mv_WS cA ad M) U.heap ∧ (∀ g, 50 ≤ g → M g = X0 g) ∧ mv_EX D cA ad X0 (mv_AA ad sz) U ∧ ∀ M' : mv_M, va_D (mv_AA ad sz) (mv_WS cA ad M'))
def mv_B (D : va_G) (cA : Nat → ClassId) (ad : Nat → Nat → Nat) (X0 : mv_M) (u : mv_M) (t : State) : Prop := va_P D vwCl (mv_WS cA ad u) t.heap ∧ ∀ g, 50 ≤ g → u g = X0 g
def mv_Qc (D : va_G) (cA : Nat → ClassId) (ad : Nat → Nat → Nat) (X0 : mv_M) (A : Nat → Prop) (Φ : mv_O → mv_M → Prop) (k : Nat) : Array Value → State → Outcome → State → Prop := match mv_rt k with
  | none => va_Qv (fun u => Φ (Sum.inl none) u) (mv_B D cA ad X0) A
  | some _ => va_Qi (fun r u => Φ (Sum.inl (some (Sum.inl r))) u) (mv_B D cA ad X0) A
def mv_XC (D : va_G) (cA : Nat → ClassId) (ad : Nat → Nat → Nat) (X0 : mv_M) (A : Nat → Prop) (Φ : mv_O → mv_M → Prop) : String → State → State → Prop := vx_X (fun u : Nat × mv_M => Φ (Sum.inr u.1) u.2) (fun E u t => E = mv_ex u.1 ∧ mv_B D cA ad X0 u.2 t) A
/-- the contract of method k, d calls deep -/
def mv_Ct (l : Launch) (D : va_G) (cA : Nat → ClassId) (ad : Nat → Nat → Nat) (X0 : mv_M) (d k : Nat) (as : List mv_V) (M : mv_M) (Φ : mv_O → mv_M → Prop) : Prop :=
  ∀ sz : Nat, vx_Met l (mv_nm k) (mv_wd k) (mv_rm k d) (mv_Pr D cA ad X0 sz as M) (mv_Qc D cA ad X0 (mv_AA ad sz) Φ k) (mv_XC D cA ad X0 (mv_AA ad sz) Φ) (mv_mc k) (6 * mv_mc k) (mv_AA ad sz)
/-- where a method's body stands -/
def mv_CX (p : Program) (l : Launch) (s : State) (m : MethodId) (args : Array Value) (meth : Method) (c : Code) (D : va_G) (cA : Nat → ClassId) (ad : Nat → Nat → Nat) (X0 : mv_M) (A : Nat → Prop) (k : Nat) : Prop :=
  p.tables.exec = Jvm.exec ∧ c.code = mv_cod k ∧ meth.sig.returnType = mv_rt k ∧ meth.locks = false ∧ c.maxLocals = mv_nL k ∧ s.vm.findClass (mv_own k) = some m.cls ∧ (∀ w ∈ mv_W, w.before args s = true) ∧ l.stackTraces = false ∧ mv_EX D cA ad X0 A s ∧ (∀ q : Nat, s.heap.size ≤ q → A q) ∧ ∀ M : mv_M, va_D A (mv_WS cA ad M)
def mv_GH (D : va_G) (cA : Nat → ClassId) (ad : Nat → Nat → Nat) (X0 : mv_M) (A : Nat → Prop) (s : State) (M : mv_M) (H : Heap) (locs : List Loc) : Prop := va_P D vwCl (mv_WS cA ad M) H ∧ va_S A s.heap H locs ∧ ∀ g : Nat, 50 ≤ g → M g = X0 g
def mv_WW (p : Program) (l : Launch) (e : Env) (R : Room) (s : State) (m : MethodId) (args : Array Value) (below : List Frame) (meth : Method) (c : Code) (D : va_G) (cA : Nat → ClassId) (ad : Nat → Nat → Nat) (X0 : mv_M) (A : Nat → Prop) (k cells slots : Nat) (Q : State → Prop) (s' : mv_S) : Prop :=
  ∀ (ls : Array Slot) (H : Heap) (locs : List Loc), s'.2.1.length = mv_nL k → mv_LR ad ls s'.2.1 → mv_GH D cA ad X0 A s s'.2.2.2 H locs → W p l e R s m args below meth c H locs cells slots Q (F0 m s'.1 ls (s'.2.2.1.map (mv_val ad)))
def mv_VW (p : Program) (l : Launch) (e : Env) (R : Room) (s : State) (m : MethodId) (args : Array Value) (below : List Frame) (meth : Method) (c : Code) (D : va_G) (cA : Nat → ClassId) (ad : Nat → Nat → Nat) (X0 : mv_M) (A : Nat → Prop) (k cells slots : Nat) (Q : State → Prop) (pc : Nat) (lv : mv_L) (rest : List mv_V) (M : mv_M) (E : Nat) : Prop :=
  ∀ (ls : Array Slot) (H : Heap) (locs : List Loc) (q : Addr) (ce : Cell), lv.length = mv_nL k → mv_LR ad ls lv → mv_GH D cA ad X0 A s M H locs → H[q]? = some ce → ce.vm = .none → s.vm.findClass (mv_ex E) = some ce.cls → vx_W p l e R s m args below meth c H locs cells slots Q (F0 m pc ls (rest.map (mv_val ad))) q
def mv_cl (p : Program) (l : Launch) (e : Env) (R : Room) (s : State) (m : MethodId) (args : Array Value) (below : List Frame) (meth : Method) (c : Code) (D : va_G) (cA : Nat → ClassId) (ad : Nat → Nat → Nat) (X0 : mv_M) (A : Nat → Prop) (k pc : Nat) (lv : mv_L) (st : List mv_V) (M : mv_M) : mv_A → Prop
  | none => True
  | some (Sum.inl (P, s')) => ∀ (cells slots : Nat) (Q : State → Prop), mv_pp P → mv_WW p l e R s m args below meth c D cA ad X0 A k cells slots Q s' → mv_WW p l e R s m args below meth c D cA ad X0 A k cells slots Q (pc, lv, st, M)
  | some (Sum.inr (Sum.inl bs)) => ∀ (cells slots : Nat) (Q : State → Prop), (∀ x ∈ bs, x.1 → mv_WW p l e R s m args below meth c D cA ad X0 A k cells slots Q x.2) → mv_WW p l e R s m args below meth c D cA ad X0 A k cells slots Q (pc, lv, st, M)
  | some (Sum.inr (Sum.inr (Sum.inl (k', as, rest, nx)))) => k' < 150 ∧ ∀ (cells slots : Nat) (Q : State → Prop) (d : Nat) (Ψ : mv_O → mv_M → Prop), mv_Ct l D cA ad X0 d k' as M Ψ → d + 9 ≤ R.frames → 64 * d + 264 ≤ R.locals → cells + mv_mc k' ≤ R.cells → slots + 6 * mv_mc k' ≤ R.slots →
    (∀ (v : Option mv_V) (M' : mv_M), Ψ (Sum.inl v) M' → mv_WW p l e R s m args below meth c D cA ad X0 A k (cells + mv_mc k') (slots + 6 * mv_mc k') Q (nx, lv, v.toList ++ rest, M')) →
    (∀ (E : Nat) (M' : mv_M), Ψ (Sum.inr E) M' → mv_VW p l e R s m args below meth c D cA ad X0 A k (cells + mv_mc k') (slots + 6 * mv_mc k') Q pc lv rest M' E) →
    mv_WW p l e R s m args below meth c D cA ad X0 A k cells slots Q (pc, lv, st, M)
  | some (Sum.inr (Sum.inr (Sum.inr (Sum.inl (P, v))))) => P → (st = [] ∧ v = none ∧ mv_rt k = none ∧ decode (mv_cod k) pc = .ok (.return_, 1)) ∨ ∃ x : Int32, st = [Sum.inl x] ∧ v = some (Sum.inl x) ∧ decode (mv_cod k) pc = .ok (.ireturn, 1) ∧ ∃ ty : FieldType, mv_rt k = some ty ∧ narrow ty (.int x) = .int x
  | some (Sum.inr (Sum.inr (Sum.inr (Sum.inr E)))) => c.exceptionTable.toList = [] → ∀ (cells slots : Nat) (Qc : Array Value → State → Outcome → State → Prop) (XC : String → State → State → Prop) (mc ms : Nat) (free : Addr → Prop), cells + 1 ≤ mc → slots + 6 ≤ ms → cells + 1 ≤ R.cells → slots + 6 ≤ R.slots →
    (∀ t : State, va_P D vwCl (mv_WS cA ad M) t.heap → va_F A s t → XC (mv_ex E) s t) → (∀ z, A z → free z) →
    mv_WW p l e R s m args below meth c D cA ad X0 A k cells slots (vx_MQ below Qc XC args s mc ms free) (pc, lv, st, M)
def mv_Sim (k pc : Nat) (f : mv_F) : Prop := ∀ {p : Program} {l : Launch} {e : Env} {R : Room} {s : State} {m : MethodId} {args : Array Value} {below : List Frame} {meth : Method} {c : Code} {D : va_G} {cA : Nat → ClassId} {ad : Nat → Nat → Nat} {X0 : mv_M} {A : Nat → Prop}, mv_CX p l s m args meth c D cA ad X0 A k → 8 ≤ R.frames → 200 ≤ R.locals → ∀ (lv : mv_L) (st : List mv_V) (M : mv_M), mv_cl p l e R s m args below meth c D cA ad X0 A k pc lv st M (f lv st M)

section MVS
variable {cc : ByteArray} {k pc nx tg i : Nat}
theorem ms_const {v : Int32} (hc : mv_cod k = cc) (hn : ∀ {p : Program} {l : Launch} {e : Env} {R : Room} {s : State} {m : MethodId} {args : Array Value} {below : List Frame} {meth : Method} {c : Code} {H : Heap} {locs : List Loc} {cells slots : Nat} {Q : State → Prop} {ls : Array Slot} {rest : List Value}, p.tables.exec = Jvm.exec → c.code = cc → (∀ w ∈ mv_W, w.before args s = true) → s.vm.findClass (mv_own k) = some m.cls → W p l e R s m args below meth c H locs cells slots Q (F0 m nx ls (.int v :: rest)) → W p l e R s m args below meth c H locs cells slots Q (F0 m pc ls rest)) : mv_Sim k pc (mi_const nx v) := by
  intro p l e R s m args below meth c D cA ad X0 A C hR1 hR2 lv st M cells slots Q _ hw ls H locs h1 h2 h3
  exact hn C.1 (C.2.1.trans hc) C.2.2.2.2.2.2.1 C.2.2.2.2.2.1 (hw ls H locs h1 h2 h3)
theorem ms_iconst {n : Int} {v : Int32} (hc : mv_cod k = cc) (hd : decode cc pc = .ok (.iconst n, 1)) (hv : Int32.ofInt n = v) (hx : nx = pc + 1) : mv_Sim k pc (mi_const nx v) := by
  subst hx
  exact ms_const hc (fun a b _ _ w => lv_iconst a b hd hv w)
theorem ms_bipush {n : Int} {v : Int32} (hc : mv_cod k = cc) (hd : decode cc pc = .ok (.bipush n, 2)) (hv : (Int8.ofInt n).toInt32 = v) (hx : nx = pc + 2) : mv_Sim k pc (mi_const nx v) := by
  subst hx
  exact ms_const hc (fun a b _ _ w => lv_bipush a b hd hv w)
theorem ms_sipush {n : Int} {v : Int32} (hc : mv_cod k = cc) (hd : decode cc pc = .ok (.sipush n, 3)) (hv : (Int16.ofInt n).toInt32 = v) (hx : nx = pc + 3) : mv_Sim k pc (mi_const nx v) := by
  subst hx
  exact ms_const hc (fun a b _ _ w => lv_sipush a b hd hv w)
theorem ms_ldc {index : Nat} {v : Int32} (hc : mv_cod k = cc) (hd : decode cc pc = .ok (.ldc index, 2)) (hw : Cond.constant (mv_own k) index v ∈ mv_W) (hx : nx = pc + 2) : mv_Sim k pc (mi_const nx v) := by
  subst hx
  exact ms_const hc (fun a b t o w => lv_ldc a b o (t _ hw) hd w)
theorem ms_lconst {n : Fin 2} {v : Int32} (hc : mv_cod k = cc) (hd : decode cc pc = .ok (.lconst n, 1)) (hv : Int64.ofNat (n : Nat) = v.toInt64) (hx : nx = pc + 1) : mv_Sim k pc (mi_lconst nx v) := by
  subst hx
  intro p l e R s m args below meth c D cA ad X0 A C hR1 hR2 lv st M cells slots Q _ hw ls H locs h1 h2 h3
  exact lv_lconst C.1 (C.2.1.trans hc) hd hv (hw ls H locs h1 h2 h3)
theorem ms_iload (hc : mv_cod k = cc) (hd : (∃ q : Fin 4, decode cc pc = .ok (.iload_n q, 1) ∧ (q : Nat) = i ∧ nx = pc + 1) ∨ (decode cc pc = .ok (.iload i, 2) ∧ nx = pc + 2)) : mv_Sim k pc (mi_iload nx i) := by
  intro p l e R s m args below meth c D cA ad X0 A C hR1 hR2 lv st M
  unfold mi_iload
  split
  · next x hx =>
    intro cells slots Q _ hw ls H locs h1 h2 h3
    rcases hd with ⟨q, hd, hq, rfl⟩ | ⟨hd, rfl⟩
    · exact lv_iload_n C.1 (C.2.1.trans hc) hd hq (h2.2.2 _ _ hx).1 (hw ls H locs h1 h2 h3)
    · exact lv_iload C.1 (C.2.1.trans hc) hd (h2.2.2 _ _ hx).1 (hw ls H locs h1 h2 h3)
  · trivial
theorem ms_aload (hc : mv_cod k = cc) (hd : (∃ q : Fin 4, decode cc pc = .ok (.aload_n q, 1) ∧ (q : Nat) = i ∧ nx = pc + 1) ∨ (decode cc pc = .ok (.aload i, 2) ∧ nx = pc + 2)) : mv_Sim k pc (mi_aload nx i) := by
  intro p l e R s m args below meth c D cA ad X0 A C hR1 hR2 lv st M
  unfold mi_aload
  split
  · next x hx =>
    intro cells slots Q _ hw ls H locs h1 h2 h3
    rcases hd with ⟨q, hd, hq, rfl⟩ | ⟨hd, rfl⟩
    · exact lv_aload_n C.1 (C.2.1.trans hc) hd hq (h2.2.2 _ _ hx).1 (hw ls H locs h1 h2 h3)
    · exact lv_aload C.1 (C.2.1.trans hc) hd (h2.2.2 _ _ hx).1 (hw ls H locs h1 h2 h3)
  · trivial
theorem ms_istore (hc : mv_cod k = cc) (hd : (∃ q : Fin 4, decode cc pc = .ok (.istore_n q, 1) ∧ (q : Nat) = i ∧ nx = pc + 1) ∨ (decode cc pc = .ok (.istore i, 2) ∧ nx = pc + 2)) : mv_Sim k pc (mi_istore nx i) := by
  intro p l e R s m args below meth c D cA ad X0 A C hR1 hR2 lv st M
  unfold mi_istore
  split
  · next x st1 y hy =>
    intro cells slots Q _ hw ls H locs h1 h2 h3
    have hi : i < lv.length := (List.getElem?_eq_some_iff.mp hy).1
    rcases hd with ⟨q, hd, hq, rfl⟩ | ⟨hd, rfl⟩
    · exact lv_istore_n C.1 (C.2.1.trans hc) hd hq h2.has hi rfl (fun ls hl => hw ls H locs ((List.length_set ..).trans h1) (h2.put (v := Sum.inl x) hi rfl hl) h3)
    · exact lv_istore C.1 (C.2.1.trans hc) hd h2.has hi rfl (fun ls hl => hw ls H locs ((List.length_set ..).trans h1) (h2.put (v := Sum.inl x) hi rfl hl) h3)
  · trivial
theorem ms_astore (hc : mv_cod k = cc) (hd : (∃ q : Fin 4, decode cc pc = .ok (.astore_n q, 1) ∧ (q : Nat) = i ∧ nx = pc + 1) ∨ (decode cc pc = .ok (.astore i, 2) ∧ nx = pc + 2)) : mv_Sim k pc (mi_astore nx i) := by
  intro p l e R s m args below meth c D cA ad X0 A C hR1 hR2 lv st M
  unfold mi_astore
  split
  · next x st1 y hy =>
    intro cells slots Q _ hw ls H locs h1 h2 h3
    have hi : i < lv.length := (List.getElem?_eq_some_iff.mp hy).1
    rcases hd with ⟨q, hd, hq, rfl⟩ | ⟨hd, rfl⟩
    · exact lv_astore_n C.1 (C.2.1.trans hc) hd hq h2.has hi rfl (fun ls hl => hw ls H locs ((List.length_set ..).trans h1) (h2.put (v := Sum.inr (Sum.inl x)) hi rfl hl) h3)
    · exact lv_astore C.1 (C.2.1.trans hc) hd h2.has hi rfl (fun ls hl => hw ls H locs ((List.length_set ..).trans h1) (h2.put (v := Sum.inr (Sum.inl x)) hi rfl hl) h3)
  · trivial
theorem ms_iinc {n : Int} {v : Int32} (hc : mv_cod k = cc) (hd : decode cc pc = .ok (.iinc i n, 3)) (hv : Int32.ofInt n = v) (hx : nx = pc + 3) : mv_Sim k pc (mi_iinc nx i v) := by
  subst hx
  subst hv
  intro p l e R s m args below meth c D cA ad X0 A C hR1 hR2 lv st M
  unfold mi_iinc
  split
  · next x hy =>
    intro cells slots Q _ hw ls H locs h1 h2 h3
    have hi : i < lv.length := (List.getElem?_eq_some_iff.mp hy).1
    obtain ⟨kk, hkk⟩ := List.getElem?_of_mem (mv_lvl_mem (ad := ad).mpr ⟨_, hy, rfl⟩)
    exact lv_iinc C.1 (C.2.1.trans hc) hd h2.has hkk rfl hi rfl (fun ls hl => hw ls H locs ((List.length_set ..).trans h1) (h2.put (v := Sum.inl (x + Int32.ofInt n)) hi rfl hl) h3)
  · trivial
theorem ms_bin {f : Int32 → Int32 → Int32} (hc : mv_cod k = cc) (hn : ∀ {p : Program} {l : Launch} {e : Env} {R : Room} {s : State} {m : MethodId} {args : Array Value} {below : List Frame} {meth : Method} {c : Code} {H : Heap} {locs : List Loc} {cells slots : Nat} {Q : State → Prop} {ls : Array Slot} {rest : List Value} {x y : Int32}, p.tables.exec = Jvm.exec → c.code = cc → W p l e R s m args below meth c H locs cells slots Q (F0 m nx ls (.int (f x y) :: rest)) → W p l e R s m args below meth c H locs cells slots Q (F0 m pc ls (.int y :: .int x :: rest))) : mv_Sim k pc (mi_bin nx f) := by
  intro p l e R s m args below meth c D cA ad X0 A C hR1 hR2 lv st M
  unfold mi_bin
  split
  · intro cells slots Q _ hw ls H locs h1 h2 h3
    exact hn C.1 (C.2.1.trans hc) (hw ls H locs h1 h2 h3)
  · trivial
theorem ms_iadd (hc : mv_cod k = cc) (hd : decode cc pc = .ok (.iadd, 1)) (hx : nx = pc + 1) : mv_Sim k pc (mi_bin nx mb_iadd) := by subst hx; exact ms_bin hc (fun a b w => lv_iadd a b hd w)
theorem ms_isub (hc : mv_cod k = cc) (hd : decode cc pc = .ok (.isub, 1)) (hx : nx = pc + 1) : mv_Sim k pc (mi_bin nx mb_isub) := by subst hx; exact ms_bin hc (fun a b w => lv_isub a b hd w)
theorem ms_imul (hc : mv_cod k = cc) (hd : decode cc pc = .ok (.imul, 1)) (hx : nx = pc + 1) : mv_Sim k pc (mi_bin nx mb_imul) := by subst hx; exact ms_bin hc (fun a b w => lv_imul a b hd w)
theorem ms_iand (hc : mv_cod k = cc) (hd : decode cc pc = .ok (.iand, 1)) (hx : nx = pc + 1) : mv_Sim k pc (mi_bin nx mb_iand) := by subst hx; exact ms_bin hc (fun a b w => lv_iand a b hd w)
theorem ms_ior (hc : mv_cod k = cc) (hd : decode cc pc = .ok (.ior, 1)) (hx : nx = pc + 1) : mv_Sim k pc (mi_bin nx mb_ior) := by subst hx; exact ms_bin hc (fun a b w => lv_ior a b hd w)
theorem ms_ixor (hc : mv_cod k = cc) (hd : decode cc pc = .ok (.ixor, 1)) (hx : nx = pc + 1) : mv_Sim k pc (mi_bin nx mb_ixor) := by subst hx; exact ms_bin hc (fun a b w => lv_ixor a b hd w)
theorem ms_ishl (hc : mv_cod k = cc) (hd : decode cc pc = .ok (.ishl, 1)) (hx : nx = pc + 1) : mv_Sim k pc (mi_bin nx mb_ishl) := by subst hx; exact ms_bin hc (fun a b w => lv_ishl a b hd w)
theorem ms_ishr (hc : mv_cod k = cc) (hd : decode cc pc = .ok (.ishr, 1)) (hx : nx = pc + 1) : mv_Sim k pc (mi_bin nx mb_ishr) := by subst hx; exact ms_bin hc (fun a b w => lv_ishr a b hd w)
theorem ms_ineg (hc : mv_cod k = cc) (hd : decode cc pc = .ok (.ineg, 1)) (hx : nx = pc + 1) : mv_Sim k pc (mi_neg nx) := by
  subst hx
  intro p l e R s m args below meth c D cA ad X0 A C hR1 hR2 lv st M
  unfold mi_neg
  split
  · intro cells slots Q _ hw ls H locs h1 h2 h3
    exact lv_ineg C.1 (C.2.1.trans hc) hd (hw ls H locs h1 h2 h3)
  · trivial
theorem ms_i2l (hc : mv_cod k = cc) (hd : decode cc pc = .ok (.i2l, 1)) (hx : nx = pc + 1) : mv_Sim k pc (mi_i2l nx) := by
  subst hx
  intro p l e R s m args below meth c D cA ad X0 A C hR1 hR2 lv st M
  unfold mi_i2l
  split
  · intro cells slots Q _ hw ls H locs h1 h2 h3
    exact lv_i2l C.1 (C.2.1.trans hc) hd rfl (hw ls H locs h1 h2 h3)
  · trivial
theorem ms_lcmp (hc : mv_cod k = cc) (hd : decode cc pc = .ok (.lcmp, 1)) (hx : nx = pc + 1) : mv_Sim k pc (mi_lcmp nx) := by
  subst hx
  intro p l e R s m args below meth c D cA ad X0 A C hR1 hR2 lv st M
  unfold mi_lcmp
  split
  · intro cells slots Q _ hw ls H locs h1 h2 h3
    exact W.lcmp C.1 (C.2.1.trans hc) hd (hw ls H locs h1 h2 h3)
  · trivial
theorem ms_dup (hc : mv_cod k = cc) (hd : decode cc pc = .ok (.dup, 1)) (hx : nx = pc + 1) : mv_Sim k pc (mi_dup nx) := by
  subst hx
  intro p l e R s m args below meth c D cA ad X0 A C hR1 hR2 lv st M
  unfold mi_dup
  split
  · intro cells slots Q _ hw ls H locs h1 h2 h3
    exact lv_dup C.1 (C.2.1.trans hc) hd rfl (hw ls H locs h1 h2 h3)
  · intro cells slots Q _ hw ls H locs h1 h2 h3
    exact lv_dup C.1 (C.2.1.trans hc) hd rfl (hw ls H locs h1 h2 h3)
  · trivial
theorem ms_dup2 (hc : mv_cod k = cc) (hd : decode cc pc = .ok (.dup2, 1)) (hx : nx = pc + 1) : mv_Sim k pc (mi_dup2 nx) := by
  subst hx
  intro p l e R s m args below meth c D cA ad X0 A C hR1 hR2 lv st M
  unfold mi_dup2
  split
  · intro cells slots Q _ hw ls H locs h1 h2 h3
    exact lv_dup2_11 C.1 (C.2.1.trans hc) hd rfl rfl (hw ls H locs h1 h2 h3)
  · trivial
theorem ms_pop (hc : mv_cod k = cc) (hd : decode cc pc = .ok (.pop, 1)) (hx : nx = pc + 1) : mv_Sim k pc (mi_pop nx) := by
  subst hx
  intro p l e R s m args below meth c D cA ad X0 A C hR1 hR2 lv st M
  unfold mi_pop
  split
  · intro cells slots Q _ hw ls H locs h1 h2 h3
    exact lv_pop C.1 (C.2.1.trans hc) hd rfl (hw ls H locs h1 h2 h3)
  · trivial
theorem ms_if {P Q' : Int32 → Prop} (hc : mv_cod k = cc) (hn : ∀ {p : Program} {l : Launch} {e : Env} {R : Room} {s : State} {m : MethodId} {args : Array Value} {below : List Frame} {meth : Method} {c : Code} {H : Heap} {locs : List Loc} {cells slots : Nat} {Q : State → Prop} {ls : Array Slot} {rest : List Value} {x : Int32}, p.tables.exec = Jvm.exec → c.code = cc → (P x → W p l e R s m args below meth c H locs cells slots Q (F0 m tg ls rest)) → (Q' x → W p l e R s m args below meth c H locs cells slots Q (F0 m nx ls rest)) → W p l e R s m args below meth c H locs cells slots Q (F0 m pc ls (.int x :: rest))) : mv_Sim k pc (mi_if nx tg P Q') := by
  intro p l e R s m args below meth c D cA ad X0 A C hR1 hR2 lv st M
  unfold mi_if
  split
  · intro cells slots Q hw ls H locs h1 h2 h3
    exact hn C.1 (C.2.1.trans hc) (fun h => hw _ List.mem_cons_self h ls H locs h1 h2 h3) (fun h => hw _ (List.mem_cons_of_mem _ List.mem_cons_self) h ls H locs h1 h2 h3)
  · trivial
theorem ms_icmp {P Q' : Int32 → Int32 → Prop} (hc : mv_cod k = cc) (hn : ∀ {p : Program} {l : Launch} {e : Env} {R : Room} {s : State} {m : MethodId} {args : Array Value} {below : List Frame} {meth : Method} {c : Code} {H : Heap} {locs : List Loc} {cells slots : Nat} {Q : State → Prop} {ls : Array Slot} {rest : List Value} {x y : Int32}, p.tables.exec = Jvm.exec → c.code = cc → (P x y → W p l e R s m args below meth c H locs cells slots Q (F0 m tg ls rest)) → (Q' x y → W p l e R s m args below meth c H locs cells slots Q (F0 m nx ls rest)) → W p l e R s m args below meth c H locs cells slots Q (F0 m pc ls (.int y :: .int x :: rest))) : mv_Sim k pc (mi_icmp nx tg P Q') := by
  intro p l e R s m args below meth c D cA ad X0 A C hR1 hR2 lv st M
  unfold mi_icmp
  split
  · intro cells slots Q hw ls H locs h1 h2 h3
    exact hn C.1 (C.2.1.trans hc) (fun h => hw _ List.mem_cons_self h ls H locs h1 h2 h3) (fun h => hw _ (List.mem_cons_of_mem _ List.mem_cons_self) h ls H locs h1 h2 h3)
  · trivial
theorem ms_if_eq {off : Int} (hc : mv_cod k = cc) (hd : decode cc pc = .ok (.ifCond .eq off, 3)) (ht : (pc : Int) + off = (tg : Int)) (hx : nx = pc + 3) : mv_Sim k pc (mi_if nx tg mb_eq mb_neq) := by subst hx; exact ms_if hc (fun a b w1 w2 => lv_if_eq a b hd ht w1 w2)
theorem ms_icmp_eq {off : Int} (hc : mv_cod k = cc) (hd : decode cc pc = .ok (.if_icmp .eq off, 3)) (ht : (pc : Int) + off = (tg : Int)) (hx : nx = pc + 3) : mv_Sim k pc (mi_icmp nx tg mc_eq mc_neq) := by subst hx; exact ms_icmp hc (fun a b w1 w2 => lv_icmp_eq a b hd ht w1 w2)
theorem ms_if_ne {off : Int} (hc : mv_cod k = cc) (hd : decode cc pc = .ok (.ifCond .ne off, 3)) (ht : (pc : Int) + off = (tg : Int)) (hx : nx = pc + 3) : mv_Sim k pc (mi_if nx tg mb_ne mb_nne) := by subst hx; exact ms_if hc (fun a b w1 w2 => lv_if_ne a b hd ht w1 w2)
theorem ms_icmp_ne {off : Int} (hc : mv_cod k = cc) (hd : decode cc pc = .ok (.if_icmp .ne off, 3)) (ht : (pc : Int) + off = (tg : Int)) (hx : nx = pc + 3) : mv_Sim k pc (mi_icmp nx tg mc_ne mc_nne) := by subst hx; exact ms_icmp hc (fun a b w1 w2 => lv_icmp_ne a b hd ht w1 w2)
theorem ms_if_lt {off : Int} (hc : mv_cod k = cc) (hd : decode cc pc = .ok (.ifCond .lt off, 3)) (ht : (pc : Int) + off = (tg : Int)) (hx : nx = pc + 3) : mv_Sim k pc (mi_if nx tg mb_lt mb_nlt) := by subst hx; exact ms_if hc (fun a b w1 w2 => lv_if_lt a b hd ht w1 w2)
theorem ms_icmp_lt {off : Int} (hc : mv_cod k = cc) (hd : decode cc pc = .ok (.if_icmp .lt off, 3)) (ht : (pc : Int) + off = (tg : Int)) (hx : nx = pc + 3) : mv_Sim k pc (mi_icmp nx tg mc_lt mc_nlt) := by subst hx; exact ms_icmp hc (fun a b w1 w2 => lv_icmp_lt a b hd ht w1 w2)
theorem ms_if_ge {off : Int} (hc : mv_cod k = cc) (hd : decode cc pc = .ok (.ifCond .ge off, 3)) (ht : (pc : Int) + off = (tg : Int)) (hx : nx = pc + 3) : mv_Sim k pc (mi_if nx tg mb_ge mb_nge) := by subst hx; exact ms_if hc (fun a b w1 w2 => lv_if_ge a b hd ht w1 w2)
theorem ms_icmp_ge {off : Int} (hc : mv_cod k = cc) (hd : decode cc pc = .ok (.if_icmp .ge off, 3)) (ht : (pc : Int) + off = (tg : Int)) (hx : nx = pc + 3) : mv_Sim k pc (mi_icmp nx tg mc_ge mc_nge) := by subst hx; exact ms_icmp hc (fun a b w1 w2 => lv_icmp_ge a b hd ht w1 w2)
theorem ms_if_gt {off : Int} (hc : mv_cod k = cc) (hd : decode cc pc = .ok (.ifCond .gt off, 3)) (ht : (pc : Int) + off = (tg : Int)) (hx : nx = pc + 3) : mv_Sim k pc (mi_if nx tg mb_gt mb_ngt) := by subst hx; exact ms_if hc (fun a b w1 w2 => lv_if_gt a b hd ht w1 w2)
theorem ms_icmp_gt {off : Int} (hc : mv_cod k = cc) (hd : decode cc pc = .ok (.if_icmp .gt off, 3)) (ht : (pc : Int) + off = (tg : Int)) (hx : nx = pc + 3) : mv_Sim k pc (mi_icmp nx tg mc_gt mc_ngt) := by subst hx; exact ms_icmp hc (fun a b w1 w2 => lv_icmp_gt a b hd ht w1 w2)
theorem ms_if_le {off : Int} (hc : mv_cod k = cc) (hd : decode cc pc = .ok (.ifCond .le off, 3)) (ht : (pc : Int) + off = (tg : Int)) (hx : nx = pc + 3) : mv_Sim k pc (mi_if nx tg mb_le mb_nle) := by subst hx; exact ms_if hc (fun a b w1 w2 => lv_if_le a b hd ht w1 w2)
theorem ms_icmp_le {off : Int} (hc : mv_cod k = cc) (hd : decode cc pc = .ok (.if_icmp .le off, 3)) (ht : (pc : Int) + off = (tg : Int)) (hx : nx = pc + 3) : mv_Sim k pc (mi_icmp nx tg mc_le mc_nle) := by subst hx; exact ms_icmp hc (fun a b w1 w2 => lv_icmp_le a b hd ht w1 w2)
theorem ms_goto {off : Int} (hc : mv_cod k = cc) (hd : decode cc pc = .ok (.goto off, 3)) (ht : (pc : Int) + off = (tg : Int)) : mv_Sim k pc (mi_goto tg) := by
  intro p l e R s m args below meth c D cA ad X0 A C hR1 hR2 lv st M cells slots Q _ hw ls H locs h1 h2 h3
  exact lv_goto C.1 (C.2.1.trans hc) hd ht (hw ls H locs h1 h2 h3)
theorem ms_tsw {ts : List (Int32 × Nat)} {hi : Int32} {d len : Nat} {dflt hi' : Int} {offs : Array Int} (hc : mv_cod k = cc) (hd : decode cc pc = .ok (.tableswitch dflt 0 hi' offs, len)) (hh : hi.toInt = hi') (h0 : (pc : Int) + dflt = (d : Int)) (hts : ∀ j : Nat, j < hi'.toNat + 1 → ∃ (t : Int32 × Nat) (off : Int), t ∈ ts ∧ t.1 = Int32.ofNat j ∧ offs[j]? = some off ∧ (pc : Int) + off = (t.2 : Int)) (hb2 : hi'.toNat < 1000) : mv_Sim k pc (mi_tsw ts hi d) := by
  intro p l e R s m args below meth c D cA ad X0 A C hR1 hR2 lv st M
  unfold mi_tsw
  split
  · next x st1 =>
    intro cells slots Q hw ls H locs h1 h2 h3
    by_cases h : x.toInt < 0 ∨ hi' < x.toInt
    · refine lv_tableOut C.1 (C.2.1.trans hc) hd h h0 ?_
      refine hw _ List.mem_cons_self ?_ ls H locs h1 h2 h3
      show x < 0 ∨ hi < x
      rw [Int32.lt_iff_toInt_lt, Int32.lt_iff_toInt_lt, hh, Int32.toInt_zero]
      exact h
    · have ha : ¬ x.toInt < 0 := fun q => h (Or.inl q)
      have hb : ¬ hi' < x.toInt := fun q => h (Or.inr q)
      obtain ⟨t, off, t1, t2, t3, t4⟩ := hts x.toInt.toNat (by omega)
      have hxt : x = t.1 := by
        rw [t2, ← Int32.toInt_inj]
        show x.toInt = (nI x.toInt.toNat).toInt
        rw [nI_toInt (by omega)]
        omega
      refine lv_tableIn C.1 (C.2.1.trans hc) hd ha hb (by simpa using t3) t4 ?_
      exact hw _ (List.mem_cons_of_mem _ (List.mem_map.mpr ⟨t, t1, rfl⟩)) hxt ls H locs h1 h2 h3
  · trivial
theorem ms_iret (hc : mv_cod k = cc) (hd : decode cc pc = .ok (.ireturn, 1)) (hr : mv_rt k = some .int) : mv_Sim k pc mi_iret := by
  intro p l e R s m args below meth c D cA ad X0 A C hR1 hR2 lv st M
  unfold mi_iret
  split
  · next x =>
    intro _
    exact Or.inr ⟨x, rfl, rfl, by rw [hc]; exact hd, .int, hr, rfl⟩
  · trivial
theorem ms_zret (hc : mv_cod k = cc) (hd : decode cc pc = .ok (.ireturn, 1)) (hr : mv_rt k = some .boolean) : mv_Sim k pc mi_zret := by
  intro p l e R s m args below meth c D cA ad X0 A C hR1 hR2 lv st M
  unfold mi_zret
  split
  · next x =>
    intro hx
    refine Or.inr ⟨x, rfl, rfl, by rw [hc]; exact hd, .boolean, hr, ?_⟩
    rcases hx with rfl | rfl <;> decide
  · trivial
theorem ms_vret (hc : mv_cod k = cc) (hd : decode cc pc = .ok (.return_, 1)) (hr : mv_rt k = none) : mv_Sim k pc mi_vret := by
  intro p l e R s m args below meth c D cA ad X0 A C hR1 hR2 lv st M
  unfold mi_vret
  split
  · intro _
    exact Or.inl ⟨rfl, rfl, hr, by rw [hc]; exact hd⟩
  · trivial

theorem mv_obj_cnt {g ci c : Nat} {fs : List (Option Nat)} (h : mv_shp g = some (Sum.inl (ci, fs), c)) : c = 1 := by
  have := List.all_eq_true.mp (show mv_shps.all (fun q => match q.1 with
    | Sum.inl _ => q.2 == 1
    | _ => true) = true by decide +kernel) _ (List.mem_of_getElem? h)
  simpa using this
theorem mv_cel_o {cA : Nat → ClassId} {ad : Nat → Nat → Nat} {g ci c : Nat} {fs : List (Option Nat)} {f : Nat → Int32} (h : mv_shp g = some (Sum.inl (ci, fs), c)) : mv_cel cA ad g f = .inr (ci, mv_flds ad fs f) := by
  unfold mv_cel
  rw [h]
theorem mv_cel_i {cA : Nat → ClassId} {ad : Nat → Nat → Nat} {g n c : Nat} {f : Nat → Int32} (h : mv_shp g = some (Sum.inr (Sum.inl (0, n)), c)) : mv_cel cA ad g f = .inl (cA 0, n, .inl f) := by
  unfold mv_cel
  rw [h]
  rfl
theorem mv_cel_z {cA : Nat → ClassId} {ad : Nat → Nat → Nat} {g n c : Nat} {f : Nat → Int32} (h : mv_shp g = some (Sum.inr (Sum.inl (1, n)), c)) : mv_cel cA ad g f = .inl (cA 1, n, .inl f) := by
  unfold mv_cel
  rw [h]
  rfl
theorem mv_cel_l {cA : Nat → ClassId} {ad : Nat → Nat → Nat} {g n c : Nat} {f : Nat → Int32} (h : mv_shp g = some (Sum.inr (Sum.inl (2, n)), c)) : mv_cel cA ad g f = .inl (cA 2, n, .inr (.inl (fun o => (f o).toInt64))) := by
  unfold mv_cel
  rw [h]
  rfl
theorem mv_cel_r {cA : Nat → ClassId} {ad : Nat → Nat → Nat} {g n c r : Nat} {f : Nat → Int32} (h : mv_shp g = some (Sum.inr (Sum.inr (r, n)), c)) : mv_cel cA ad g f = .inl (cA 3, n, .inr (.inr (.inr (.inr (fun i => if i < n then some (ad r i) else none))))) := by
  unfold mv_cel
  rw [h]
theorem mv_cp_ne {M : mv_M} {g j g' : Nat} {f : Nat → Int32} (h : g' ≠ g) : mv_cp M g j f g' = M g' := by
  funext b
  simp [mv_cp, h]
theorem mv_GH.put {D : va_G} {cA : Nat → ClassId} {ad : Nat → Nat → Nat} {X0 : mv_M} {A : Nat → Prop} {s : State} {M : mv_M} {H1 : Heap} {locs1 : List Loc} {g j q0 : Nat} {x : mv_Sh × Nat} {f : Nat → Int32} (hX : ∀ g : Nat, 50 ≤ g → M g = X0 g) (hs : mv_shp g = some x) (hq : mv_cells[q0]? = some (g, j)) (hP : va_P D vwCl ((mv_WS cA ad M).set q0 (ad g j, mv_cel cA ad g f)) H1) (hS : va_S A s.heap H1 locs1) : mv_GH D cA ad X0 A s (mv_cp M g j f) H1 locs1 := by
  rw [mv_WS_set hq] at hP
  have hlt := mv_shp_lt hs
  exact ⟨hP, hS, fun g' h => (mv_cp_ne (by omega)).trans (hX g' h)⟩
theorem mv_isX_ge {g : Nat} (h : mv_isX g = true) : 50 ≤ g := by
  simp only [mv_isX, Bool.and_eq_true, Nat.ble_eq] at h
  exact h.1
theorem ms_getf_ {index ci f N : Nat} {C : String} {T : u_T} (hc : mv_cod k = cc) (hcl : vwCl[ci]? = some (C, T, N)) (hf : f < N) (hT : (T f).1 = C)
    (hn : ∀ {p : Program} {l : Launch} {e : Env} {R : Room} {s : State} {m : MethodId} {args : Array Value} {below : List Frame} {meth : Method} {c : Code} {D : va_G} {cA : Nat → ClassId} {ad : Nat → Nat → Nat} {X0 : mv_M} {A : Nat → Prop} {H : Heap} {locs : List Loc} {cells slots : Nat} {Q : State → Prop} {ls : Array Slot} {rest : List Value} {ws : va_W} {a q0 : Nat} {fs : List Value} {v : Value}, mv_CX p l s m args meth c D cA ad X0 A k → va_P D vwCl ws H → ws[q0]? = some (a, .inr (ci, fs)) → fs[f]? = some v → W p l e R s m args below meth c H locs cells slots Q (F0 m nx ls (v :: rest)) → W p l e R s m args below meth c H locs cells slots Q (F0 m pc ls (.ref a :: rest))) : mv_Sim k pc (mi_getf nx ci f) := by
  intro p l e R s m args below meth c D cA ad X0 A C hR1 hR2 lv st M
  unfold mi_getf
  split
  · next g st1 =>
    split
    · next c0 fs c1 hs =>
      split
      · next hb =>
        have hce := Nat.eq_of_beq_eq_true hb
        subst hce
        obtain ⟨q0, hq0, hq⟩ := mv_WS_at cA ad M hs (j := 0) (by rw [mv_obj_cnt hs]; exact Nat.zero_lt_one)
        rw [mv_cel_o hs] at hq
        split
        · next r hfs =>
          intro cells slots Q _ hw ls H locs h1 h2 h3
          exact hn C h3.1 hq (mv_flds_get hfs) (hw ls H locs h1 h2 h3)
        · next hfs =>
          intro cells slots Q _ hw ls H locs h1 h2 h3
          exact hn C h3.1 hq (mv_flds_get hfs) (hw ls H locs h1 h2 h3)
        · trivial
      · trivial
    · trivial
  · trivial
theorem ms_getf {index ci f N : Nat} {C : String} {T : u_T} (hc : mv_cod k = cc) (hcl : vwCl[ci]? = some (C, T, N)) (hf : f < N) (hT : (T f).1 = C) (hin : ∀ w ∈ u_ws C T N, w ∈ mv_W) (hl : Cond.fieldLink (mv_own k) index C (T f).2.1 (T f).2.2.1 ∈ mv_W) (hd : decode cc pc = .ok (.getfield index, 3)) (hx : nx = pc + 3) : mv_Sim k pc (mi_getf nx ci f) := by
  subst hx
  refine ms_getf_ (index := index) hc hcl hf hT ?_
  intro p l e R s m args below meth c D cA ad X0 A H locs cells slots Q ls rest ws a q0 fs v C9 hP he hv w
  exact va_get C9.1 (C9.2.1.trans hc) C9.2.2.2.2.2.2.1 hin C9.2.2.2.2.2.1 C9.2.2.2.2.2.2.2.2.1.1 hP q0 he hcl f hf (C9.2.2.2.2.2.2.1 _ hl) (fun _ h9 => by rw [hT] at h9; exact h9) hv hd w
theorem ms_getfN {index ci f N : Nat} {C host : String} {T : u_T} (hc : mv_cod k = cc) (hcl : vwCl[ci]? = some (C, T, N)) (hf : f < N) (hT : (T f).1 = C) (hin : ∀ w ∈ u_ws C T N, w ∈ mv_W) (hl : Cond.fieldLinkNest (mv_own k) index C (T f).2.1 (T f).2.2.1 host ∈ mv_nst) (hd : decode cc pc = .ok (.getfield index, 3)) (hx : nx = pc + 3) : mv_Sim k pc (mi_getf nx ci f) := by
  subst hx
  refine ms_getf_ (index := index) hc hcl hf hT ?_
  intro p l e R s m args below meth c D cA ad X0 A H locs cells slots Q ls rest ws a q0 fs v C9 hP he hv w
  exact va_getN C9.1 (C9.2.1.trans hc) C9.2.2.2.2.2.2.1 hin C9.2.2.2.2.2.1 C9.2.2.2.2.2.2.2.2.1.1 hP q0 he hcl f hf (va_Nw.use rfl (C9.2.2.2.2.2.2.2.2.1.2.1 _ hl)) (fun _ h9 => by rw [hT] at h9; exact h9) hv hd w
theorem ms_putf_ {ci f : Nat} (hn : ∀ {p : Program} {l : Launch} {e : Env} {R : Room} {s : State} {m : MethodId} {args : Array Value} {below : List Frame} {meth : Method} {c : Code} {D : va_G} {cA : Nat → ClassId} {ad : Nat → Nat → Nat} {X0 : mv_M} {A : Nat → Prop} {H : Heap} {locs : List Loc} {cells slots : Nat} {Q : State → Prop} {ls : Array Slot} {rest : List Value} {ws : va_W} {a q0 : Nat} {fs : List Value} {x : Int32}, mv_CX p l s m args meth c D cA ad X0 A k → va_P D vwCl ws H → va_D A ws → va_S A s.heap H locs → ws[q0]? = some (a, .inr (ci, fs)) → f < fs.length → (∀ (H1 : Heap) (locs1 : List Loc), va_P D vwCl (ws.set q0 (a, .inr (ci, fs.set f (.int x)))) H1 → va_D A (ws.set q0 (a, .inr (ci, fs.set f (.int x)))) → va_S A s.heap H1 locs1 → W p l e R s m args below meth c H1 locs1 cells slots Q (F0 m nx ls rest)) → W p l e R s m args below meth c H locs cells slots Q (F0 m pc ls (.int x :: .ref a :: rest))) : mv_Sim k pc (mi_putf nx ci f) := by
  intro p l e R s m args below meth c D cA ad X0 A C hR1 hR2 lv st M
  unfold mi_putf
  split
  · next x g st1 =>
    split
    · next c0 fs c1 hs =>
      split
      · next hb =>
        have hce := Nat.eq_of_beq_eq_true hb
        subst hce
        obtain ⟨q0, hq0, hq⟩ := mv_WS_at cA ad M hs (j := 0) (by rw [mv_obj_cnt hs]; exact Nat.zero_lt_one)
        rw [mv_cel_o hs] at hq
        split
        · next hfs =>
          intro cells slots Q _ hw ls H locs h1 h2 h3
          refine hn C h3.1 (C.2.2.2.2.2.2.2.2.2.2 M) h3.2.1 hq (by rw [mv_flds_len]; exact (List.getElem?_eq_some_iff.mp hfs).1) (fun H1 locs1 hP1 _ hS1 => ?_)
          rw [mv_flds_set hfs, ← mv_cel_o (cA := cA) hs] at hP1
          exact hw ls H1 locs1 h1 h2 (mv_GH.put h3.2.2 hs hq0 hP1 hS1)
        · trivial
      · trivial
    · trivial
  · trivial
theorem ms_putf {index ci f N : Nat} {C : String} {T : u_T} {ty0 : Nat → FieldType} (hc : mv_cod k = cc) (hcl : vwCl[ci]? = some (C, T, N)) (hf : f < N) (hT : (T f).1 = C) (hin : ∀ w ∈ u_ws C T N, w ∈ mv_W) (hty : ∀ k, k < N → parseFieldDescriptor (T k).2.2.1 = some (ty0 k)) (hnm : ∀ a, a < N → ∀ b, b < N → a ≠ b → (T a).2.1 ≠ (T b).2.1) (hfin : (T f).2.2.2 = false) (hde : parseFieldDescriptor (T f).2.2.1 = some .int) (hl : Cond.fieldLink (mv_own k) index C (T f).2.1 (T f).2.2.1 ∈ mv_W) (hd : decode cc pc = .ok (.putfield index, 3)) (hx : nx = pc + 3) : mv_Sim k pc (mi_putf nx ci f) := by
  subst hx
  refine ms_putf_ ?_
  intro p l e R s m args below meth c D cA ad X0 A H locs cells slots Q ls rest ws a q0 fs x C9 hP hD hS he hlen w
  exact va_put C9.1 (C9.2.1.trans hc) C9.2.2.2.2.2.2.1 hin ty0 hty hnm C9.2.2.2.2.2.1 C9.2.2.2.2.2.2.2.2.1.1 hP hD hS q0 he hcl f hf (C9.2.2.2.2.2.2.1 _ hl) (fun _ h9 => by rw [hT] at h9; exact h9) hfin hde rfl rfl hlen hd w
theorem ms_putfN {index ci f N : Nat} {C host : String} {T : u_T} {ty0 : Nat → FieldType} (hc : mv_cod k = cc) (hcl : vwCl[ci]? = some (C, T, N)) (hf : f < N) (hT : (T f).1 = C) (hin : ∀ w ∈ u_ws C T N, w ∈ mv_W) (hty : ∀ k, k < N → parseFieldDescriptor (T k).2.2.1 = some (ty0 k)) (hnm : ∀ a, a < N → ∀ b, b < N → a ≠ b → (T a).2.1 ≠ (T b).2.1) (hfin : (T f).2.2.2 = false) (hde : parseFieldDescriptor (T f).2.2.1 = some .int) (hl : Cond.fieldLinkNest (mv_own k) index C (T f).2.1 (T f).2.2.1 host ∈ mv_nst) (hd : decode cc pc = .ok (.putfield index, 3)) (hx : nx = pc + 3) : mv_Sim k pc (mi_putf nx ci f) := by
  subst hx
  refine ms_putf_ ?_
  intro p l e R s m args below meth c D cA ad X0 A H locs cells slots Q ls rest ws a q0 fs x C9 hP hD hS he hlen w
  exact va_putN C9.1 (C9.2.1.trans hc) C9.2.2.2.2.2.2.1 hin ty0 hty hnm C9.2.2.2.2.2.1 C9.2.2.2.2.2.2.2.2.1.1 hP hD hS q0 he hcl f hf (va_Nw.use rfl (C9.2.2.2.2.2.2.2.2.1.2.1 _ hl)) (fun _ h9 => by rw [hT] at h9; exact h9) hfin hde rfl rfl hlen hd w
theorem ms_iald (hc : mv_cod k = cc) (hd : decode cc pc = .ok (.iaload, 1)) (hx : nx = pc + 1) : mv_Sim k pc (mi_iald nx) := by
  subst hx
  intro p l e R s m args below meth c D cA ad X0 A C hR1 hR2 lv st M
  unfold mi_iald
  split
  · next x g j st1 =>
    split
    · next n c1 hs =>
      intro cells slots Q hp hw ls H locs h1 h2 h3
      obtain ⟨q0, hq0, hq⟩ := mv_WS_at cA ad M hs hp.2
      rw [mv_cel_i hs] at hq
      exact va_iald C.1 (C.2.1.trans hc) C.2.2.2.2.2.2.2.2.1.1 h3.1 q0 0 hq rfl hp.1 hd (hw ls H locs h1 h2 h3)
    · split
      · next hg =>
        intro cells slots Q hp hw ls H locs h1 h2 h3
        obtain ⟨hpi, rfl⟩ := hp
        obtain ⟨x1, x2, x3⟩ := C.2.2.2.2.2.2.2.2.1.2.2.2.2.2.2.2 g hg
        have e1 : M g = X0 g := h3.2.2 g (mv_isX_ge hg)
        have e2 : mv_xl M g = mv_xl X0 g := by
          have e60 : M 60 = X0 60 := h3.2.2 60 (by omega)
          unfold mv_xl
          rw [e60]
        rw [← e1, ← e2] at x1
        exact vX_sld C.1 (C.2.1.trans hc) x1 x2 x3 h3.2.1 hpi hd (hw ls H locs h1 h2 h3)
      · trivial
    · trivial
  · trivial
theorem ms_zald (hc : mv_cod k = cc) (hd : decode cc pc = .ok (.baload, 1)) (hx : nx = pc + 1) : mv_Sim k pc (mi_zald nx) := by
  subst hx
  intro p l e R s m args below meth c D cA ad X0 A C hR1 hR2 lv st M
  unfold mi_zald
  split
  · next x g j st1 =>
    split
    · next n c1 hs =>
      intro cells slots Q hp hw ls H locs h1 h2 h3
      obtain ⟨q0, hq0, hq⟩ := mv_WS_at cA ad M hs hp.2
      rw [mv_cel_z hs] at hq
      exact va_zald C.1 (C.2.1.trans hc) C.2.2.2.2.2.2.2.2.1.1 h3.1 q0 1 hq rfl hp.1 hd (hw ls H locs h1 h2 h3)
    · trivial
  · trivial
theorem ms_lald (hc : mv_cod k = cc) (hd : decode cc pc = .ok (.laload, 1)) (hx : nx = pc + 1) : mv_Sim k pc (mi_lald nx) := by
  subst hx
  intro p l e R s m args below meth c D cA ad X0 A C hR1 hR2 lv st M
  unfold mi_lald
  split
  · next x g j st1 =>
    split
    · next n c1 hs =>
      intro cells slots Q hp hw ls H locs h1 h2 h3
      obtain ⟨q0, hq0, hq⟩ := mv_WS_at cA ad M hs hp.2
      rw [mv_cel_l hs] at hq
      exact va_lald C.1 (C.2.1.trans hc) C.2.2.2.2.2.2.2.2.1.1 h3.1 q0 2 hq rfl hp.1 hd (hw ls H locs h1 h2 h3)
    · trivial
  · trivial
theorem ms_aald (hc : mv_cod k = cc) (hd : decode cc pc = .ok (.aaload, 1)) (hx : nx = pc + 1) : mv_Sim k pc (mi_aald nx) := by
  subst hx
  intro p l e R s m args below meth c D cA ad X0 A C hR1 hR2 lv st M
  unfold mi_aald
  split
  · next x g j st1 =>
    split
    · next r n c1 hs =>
      intro cells slots Q hp hw ls H locs h1 h2 h3
      obtain ⟨q0, hq0, hq⟩ := mv_WS_at cA ad M hs hp.2
      rw [mv_cel_r hs] at hq
      have hlt : x.toNatClampNeg < n := Nat.not_le.mp fun q => hp.1 (Or.inr q)
      refine W.aald (v := .ref (ad r x.toNatClampNeg)) (ty := .array .int) C.1 (C.2.1.trans hc) (h3.1 q0 _ hq) ((C.2.2.2.2.2.2.2.2.1.1.2 3 _ rfl).1 n (fun j => va_rf (if j < n then some (ad r j) else none))) rfl (fun q => by cases q) (by show ¬ (x < 0 ∨ (arrV _ _ _).slots.size ≤ _); rw [arrV_size]; exact hp.1) (by show (arrV _ _ _).slots[_]? = _; rw [arrV_read _ _ hlt]; show some (va_rf (if x.toNatClampNeg < n then some (ad r x.toNatClampNeg) else none)) = _; rw [if_pos hlt]; rfl) rfl rfl hd ?_
      exact hw ls H locs h1 h2 h3
    · trivial
  · trivial
theorem ms_iast (hc : mv_cod k = cc) (hd : decode cc pc = .ok (.iastore, 1)) (hx : nx = pc + 1) : mv_Sim k pc (mi_iast nx) := by
  subst hx
  intro p l e R s m args below meth c D cA ad X0 A C hR1 hR2 lv st M
  unfold mi_iast
  split
  · next v x g j st1 =>
    split
    · next n c1 hs =>
      intro cells slots Q hp hw ls H locs h1 h2 h3
      obtain ⟨q0, hq0, hq⟩ := mv_WS_at cA ad M hs hp.2
      rw [mv_cel_i hs] at hq
      refine va_iast C.1 (C.2.1.trans hc) C.2.2.2.2.2.2.2.2.1.1 h3.1 (C.2.2.2.2.2.2.2.2.2.2 M) h3.2.1 q0 0 hq rfl hp.1 hd (fun H1 locs1 hP1 _ hS1 => ?_)
      rw [← mv_cel_i (cA := cA) (ad := ad) hs] at hP1
      exact hw ls H1 locs1 h1 h2 (mv_GH.put h3.2.2 hs hq0 hP1 hS1)
    · trivial
  · trivial
theorem ms_zast (hc : mv_cod k = cc) (hd : decode cc pc = .ok (.bastore, 1)) (hx : nx = pc + 1) : mv_Sim k pc (mi_zast nx) := by
  subst hx
  intro p l e R s m args below meth c D cA ad X0 A C hR1 hR2 lv st M
  unfold mi_zast
  split
  · next v x g j st1 =>
    split
    · next n c1 hs =>
      intro cells slots Q hp hw ls H locs h1 h2 h3
      obtain ⟨hp, hv⟩ := hp
      obtain ⟨q0, hq0, hq⟩ := mv_WS_at cA ad M hs hp.2
      rw [mv_cel_z hs] at hq
      have hnar : vp_nar .boolean v = v := by rcases hv with rfl | rfl <;> decide
      refine va_zast C.1 (C.2.1.trans hc) C.2.2.2.2.2.2.2.2.1.1 h3.1 (C.2.2.2.2.2.2.2.2.2.2 M) h3.2.1 q0 1 hq rfl hp.1 hd (fun H1 locs1 hP1 _ hS1 => ?_)
      rw [hnar, ← mv_cel_z (cA := cA) (ad := ad) hs] at hP1
      exact hw ls H1 locs1 h1 h2 (mv_GH.put h3.2.2 hs hq0 hP1 hS1)
    · trivial
  · trivial
theorem ms_last (hc : mv_cod k = cc) (hd : decode cc pc = .ok (.lastore, 1)) (hx : nx = pc + 1) : mv_Sim k pc (mi_last nx) := by
  subst hx
  intro p l e R s m args below meth c D cA ad X0 A C hR1 hR2 lv st M
  unfold mi_last
  split
  · next v x g j st1 =>
    split
    · next n c1 hs =>
      intro cells slots Q hp hw ls H locs h1 h2 h3
      obtain ⟨q0, hq0, hq⟩ := mv_WS_at cA ad M hs hp.2
      rw [mv_cel_l hs] at hq
      refine va_last C.1 (C.2.1.trans hc) C.2.2.2.2.2.2.2.2.1.1 h3.1 (C.2.2.2.2.2.2.2.2.2.2 M) h3.2.1 q0 2 hq rfl hp.1 hd (fun H1 locs1 hP1 _ hS1 => ?_)
      have hu : vp_updL (fun o => (M g j o).toInt64) x.toNatClampNeg v.toInt64 = fun o => (upd (M g j) x.toNatClampNeg v o).toInt64 := by
        funext o
        unfold vp_updL upd
        split <;> rfl
      rw [hu, ← mv_cel_l (cA := cA) (ad := ad) (f := upd (M g j) x.toNatClampNeg v) hs] at hP1
      exact hw ls H1 locs1 h1 h2 (mv_GH.put h3.2.2 hs hq0 hP1 hS1)
    · trivial
  · trivial
theorem ms_alen (hc : mv_cod k = cc) (hd : decode cc pc = .ok (.arraylength, 1)) (hx : nx = pc + 1) : mv_Sim k pc (mi_alen nx) := by
  subst hx
  intro p l e R s m args below meth c D cA ad X0 A C hR1 hR2 lv st M
  unfold mi_alen
  split
  · next g j st1 =>
    split
    · next kd n c1 hs =>
      intro cells slots Q hp hw ls H locs h1 h2 h3
      obtain ⟨q0, hq0, hq⟩ := mv_WS_at cA ad M hs hp
      have hkd : kd < 3 := by
        have := List.all_eq_true.mp (show mv_shps.all (fun q => match q.1 with
          | Sum.inr (Sum.inl (kd, _)) => Nat.blt kd 3
          | _ => true) = true by decide +kernel) _ (List.mem_of_getElem? hs)
        simpa using this
      rcases (show kd = 0 ∨ kd = 1 ∨ kd = 2 by omega) with rfl | rfl | rfl
      · rw [mv_cel_i hs] at hq
        exact va_alen C.1 (C.2.1.trans hc) C.2.2.2.2.2.2.2.2.1.1 h3.1 q0 0 hq rfl rfl hd (hw ls H locs h1 h2 h3)
      · rw [mv_cel_z hs] at hq
        exact va_alen C.1 (C.2.1.trans hc) C.2.2.2.2.2.2.2.2.1.1 h3.1 q0 1 hq rfl rfl hd (hw ls H locs h1 h2 h3)
      · rw [mv_cel_l hs] at hq
        exact va_alen C.1 (C.2.1.trans hc) C.2.2.2.2.2.2.2.2.1.1 h3.1 q0 2 hq rfl rfl hd (hw ls H locs h1 h2 h3)
    · split
      · next hg =>
        intro cells slots Q hp hw ls H locs h1 h2 h3
        have hp : j = 0 := hp
        subst hp
        obtain ⟨x1, x2, x3⟩ := C.2.2.2.2.2.2.2.2.1.2.2.2.2.2.2.2 g hg
        have e2 : mv_xl M g = mv_xl X0 g := by
          have e60 : M 60 = X0 60 := h3.2.2 60 (by omega)
          unfold mv_xl
          rw [e60]
        rw [← e2] at x1
        exact vX_slen C.1 (C.2.1.trans hc) x1 x2 x3 h3.2.1 hd (hw ls H locs h1 h2 h3)
      · trivial
    · trivial
  · trivial
theorem ms_gets {index g : Nat} {fn : String} (hc : mv_cod k = cc) (hs : (g, fn) ∈ mv_stas) (hl : Cond.fieldLink (mv_own k) index "ComponentContainer" fn "[I" ∈ mv_W) (hd : decode cc pc = .ok (.getstatic index, 3)) (hx : nx = pc + 3) : mv_Sim k pc (mi_gets nx g) := by
  subst hx
  intro p l e R s m args below meth c D cA ad X0 A C hR1 hR2 lv st M cells slots Q _ hw ls H locs h1 h2 h3
  exact va_gets C.1 (C.2.1.trans hc) (C.2.2.2.2.2.2.2.2.1.2.2.2.2.2.2.1 (g, fn) hs) h3.2.1 C.2.2.2.2.2.1 (C.2.2.2.2.2.2.1 _ hl) (fun _ h => h) hd (hw ls H locs h1 h2 h3)
theorem mv_cats (ad : Nat → Nat → Nat) : ∀ (st : List mv_V), ((st.map (mv_val ad)).map fun v => v.category).sum ≤ 2 * st.length
  | [] => Nat.le_refl _
  | v :: st => by
    have h := mv_cats ad st
    have h1 := lv_cat (mv_val ad v)
    simp only [List.map_cons, List.sum_cons, List.length_cons]
    omega
theorem ms_copy {index : Nat} (hc : mv_cod k = cc) (hl : Cond.methodLink (mv_own k) index arraycopyName ∈ mv_W) (hn : Cond.native arraycopyName ∈ mv_W) (hst : Cond.static arraycopyName ∈ mv_W) (hi : Cond.initialized "java/lang/System" ∈ mv_W) (hR : nativeFrameWords "java/lang/System" "arraycopy" 5 ≤ 100) (hd : decode cc pc = .ok (.invokestatic index, 3)) (hx : nx = pc + 3) : mv_Sim k pc (mi_copy nx) := by
  subst hx
  intro p l e R s m args below meth c D cA ad X0 A C hR1 hR2 lv st M
  unfold mi_copy
  split
  · next n dp g j sp g0 j0 st1 =>
    split
    · next n1 c1 n0 c0 hs hs0 hlen =>
      intro cells slots Q hp hw ls H locs h1 h2 h3
      obtain ⟨⟨p1, p2, p3⟩, ⟨p4, p5⟩, p6, p7⟩ := hp
      obtain ⟨q1, hq1, hq⟩ := mv_WS_at cA ad M hs p6
      obtain ⟨q0, hq0, hqs⟩ := mv_WS_at cA ad M hs0 p7
      rw [mv_cel_i hs] at hq
      rw [mv_cel_i hs0] at hqs
      have hts := C.2.2.2.2.2.2.1
      refine va_copyi C.1 (C.2.1.trans hc) (by rw [h2.1, h1]; exact C.2.2.2.2.1) C.2.2.2.2.2.1 (hts _ hl) (hts _ hn) (hts _ hst) (hts _ hi) C.2.2.2.2.2.2.2.2.1.1 h3.1 (C.2.2.2.2.2.2.2.2.2.2 M) h3.2.1 q0 q1 0 0 hqs hq rfl rfl rfl p1 p2 p3 p4 p5 (fun _ _ => rfl) ?_ ?_ hd (fun H1 locs1 hP1 _ hS1 => ?_)
      · omega
      · have hc9 := mv_cats ad st1
        have hl9 := Nat.le_of_ble_eq_true hlen
        omega
      · rw [← mv_cel_i (cA := cA) (ad := ad) hs] at hP1
        exact hw ls H1 locs1 h1 h2 (mv_GH.put h3.2.2 hs hq1 hP1 hS1)
    · trivial
  · trivial

theorem mv_pop_spec : ∀ {n : Nat} {st acc as rest : List mv_V}, mv_pop n st acc = some (as, rest) → ∃ xs : List mv_V, st = xs ++ rest ∧ xs.length = n ∧ as = xs.reverse ++ acc := by
  intro n
  induction n with
  | zero =>
    intro st acc as rest h
    cases h
    exact ⟨[], rfl, rfl, rfl⟩
  | succ n ih =>
    intro st acc as rest h
    cases st with
    | nil => cases h
    | cons v st =>
      obtain ⟨xs, h1, h2, h3⟩ := ih (show mv_pop n st (v :: acc) = some (as, rest) from h)
      exact ⟨v :: xs, by rw [h1]; rfl, by rw [List.length_cons, h2], by rw [h3]; simp⟩
theorem mv_nst_warm {w : Cond} {s U : State} (hw : w ∈ mv_nst) (hW : s.WarmedH U.vm) (h : va_Nw w s) : va_Nw w U := by
  have hk := (List.mem_filter.mp hw).2
  cases w with
  | fieldLinkNest => exact va_Nw.warmF hW h
  | methodLinkNest => exact va_Nw.warmM hW h
  | castable => exact va_Nw.warmC hW h
  | declares => exact va_Nw.warmD hW h
  | _ => cases hk
theorem mv_nst_tab {w : Cond} (hw : w ∈ mv_nst) : w.onTables = true := by
  have hk := (List.mem_filter.mp hw).2
  cases w with
  | fieldLinkNest => rfl
  | methodLinkNest => rfl
  | castable => rfl
  | declares => rfl
  | _ => cases hk
theorem mv_EX.call {D : va_G} {cA : Nat → ClassId} {ad : Nat → Nat → Nat} {X0 : mv_M} {A B : Nat → Prop} {s U : State} {H : Heap} {locs : List Loc} (h : mv_EX D cA ad X0 A s) (hS : va_S A s.heap H locs) (hW : s.WarmedH U.vm) (hU : U.heap = H) (hAB : ∀ q, B q → A q) : mv_EX D cA ad X0 B U := by
  obtain ⟨h1, h2, h3, h4, h5, h6, h7, h8⟩ := h
  refine ⟨va_K.moved hW.alike h1, fun w hw => mv_nst_warm hw hW (h2 w hw), ?_, ?_, fun t ht => ?_, fun t ht => va_Nc.moved hW.alike (h6 t ht), fun t ht => ?_, fun g hg => ?_⟩
  · rw [hU]; exact (vx_Zq.moved hW.alike (h3.kept hS.2.1)).narrow hAB
  · rw [hU]; exact (vx_Zq.moved hW.alike (h4.kept hS.2.1)).narrow hAB
  · obtain ⟨sa, h⟩ := h5 t ht
    exact ⟨sa, vk_R.warm hW h⟩
  · rw [hU]; exact (va_Z.moved hW.alike ((h7 t ht).kept hS.2.1)).narrow hAB
  · obtain ⟨x1, x2, x3⟩ := h8 g hg
    rw [hU]
    exact ⟨vX_.moved hW.alike (x1.kept (hS.2.1 _ x2 x3)), Nat.lt_of_lt_of_le x2 hS.1, fun q => x3 (hAB _ q)⟩
theorem mv_EX.same {D : va_G} {cA : Nat → ClassId} {ad : Nat → Nat → Nat} {X0 : mv_M} {A : Nat → Prop} {s U : State} (h : mv_EX D cA ad X0 A s) (hv : U.vm = s.vm) (hU : U.heap = s.heap) : mv_EX D cA ad X0 A U := by
  obtain ⟨h1, h2, h3, h4, h5, h6, h7, h8⟩ := h
  have ha : s.vm.Alike U.vm := by rw [hv]; exact Vm.Alike.refl s.vm
  refine ⟨va_K.moved ha h1, fun w hw => va_Nw.same (mv_nst_tab hw) hv.symm (h2 w hw), ?_, ?_, fun t ht => ?_, fun t ht => va_Nc.moved ha (h6 t ht), fun t ht => ?_, fun g hg => ?_⟩
  · rw [hU]; exact vx_Zq.moved ha h3
  · rw [hU]; exact vx_Zq.moved ha h4
  · obtain ⟨sa, h⟩ := h5 t ht
    exact ⟨sa, vk_R.same hv h⟩
  · rw [hU]; exact va_Z.moved ha (h7 t ht)
  · obtain ⟨x1, x2, x3⟩ := h8 g hg
    rw [hU]
    exact ⟨vX_.moved ha x1, x2, x3⟩
theorem mv_Pr_blind {D : va_G} {cA : Nat → ClassId} {ad : Nat → Nat → Nat} {X0 : mv_M} {sz : Nat} {as : List mv_V} {M : mv_M} : FrameBlind (mv_Pr D cA ad X0 sz as M) := fun a U g mk q => by
  obtain ⟨q0, q1, q2, q3, q4, q5⟩ := q
  exact ⟨q0, q1, q2, q3, q4.same rfl rfl, q5⟩
theorem mv_AA_sub {D : va_G} {cA : Nat → ClassId} {ad : Nat → Nat → Nat} {A : Nat → Prop} {H0 H : Heap} {locs : List Loc} (hA : ∀ q : Nat, H0.size ≤ q → A q) (hD : ∀ M : mv_M, va_D A (mv_WS cA ad M)) (hS : va_S A H0 H locs) : ∀ q, mv_AA ad H.size q → A q := by
  intro q h
  rcases h with ⟨c, hc, rfl⟩ | h
  · obtain ⟨i, hi⟩ := List.getElem?_of_mem hc
    have := (hD (fun _ _ _ => 0)).2 i (ad c.1 c.2, mv_cel cA ad c.1 (fun _ => 0)) (by unfold mv_WS; rw [List.getElem?_map, hi]; rfl)
    exact this
  · exact hA q (Nat.le_trans hS.1 h)
theorem mv_AA_D {cA : Nat → ClassId} {ad : Nat → Nat → Nat} {A : Nat → Prop} {sz : Nat} (hD : ∀ M : mv_M, va_D A (mv_WS cA ad M)) (M : mv_M) : va_D (mv_AA ad sz) (mv_WS cA ad M) := (hD M).weaken (fun k q hk _ => Or.inl (mv_WS_addr hk))
theorem mv_Pr_of {p : Program} {l : Launch} {s U : State} {m : MethodId} {args : Array Value} {meth : Method} {c : Code} {D : va_G} {cA : Nat → ClassId} {ad : Nat → Nat → Nat} {X0 : mv_M} {A : Nat → Prop} {M : mv_M} {H : Heap} {locs : List Loc} {as : List mv_V} (C : mv_CX p l s m args meth c D cA ad X0 A k) (h3 : mv_GH D cA ad X0 A s M H locs) (hU : U.heap = H) (hW : s.WarmedH U.vm) : mv_Pr D cA ad X0 H.size as M (as.map (mv_val ad)).toArray U := by
  have hD := C.2.2.2.2.2.2.2.2.2.2
  exact ⟨rfl, by rw [hU], by rw [hU]; exact h3.1, h3.2.2, C.2.2.2.2.2.2.2.2.1.call h3.2.1 hW hU (mv_AA_sub (D := D) C.2.2.2.2.2.2.2.2.2.1 hD h3.2.1), mv_AA_D hD⟩
/-- behind a call -/
theorem mv_after {p : Program} {l : Launch} {e : Env} {R : Room} {s : State} {m : MethodId} {args : Array Value} {below : List Frame} {meth : Method} {c : Code} {D : va_G} {cA : Nat → ClassId} {ad : Nat → Nat → Nat} {X0 : mv_M} {A : Nat → Prop} {lv : mv_L} {rest : List mv_V} {M : mv_M} {cells slots : Nat} {Q : State → Prop} {k' : Nat} {Ψ : mv_O → mv_M → Prop} {ls : Array Slot} {H : Heap} {locs : List Loc} {st : List Value} {a : Array Value}
    (C : mv_CX p l s m args meth c D cA ad X0 A k) (h1 : lv.length = mv_nL k) (h2 : mv_LR ad ls lv) (h3 : mv_GH D cA ad X0 A s M H locs)
    (hr : vx_Run p l e R s m args below meth c H locs cells slots (mv_mc k') (6 * mv_mc k') (F0 m pc ls st) (rest.map (mv_val ad)) (mv_Qc D cA ad X0 (mv_AA ad H.size) Ψ k' a) (mv_XC D cA ad X0 (mv_AA ad H.size) Ψ) (mv_AA ad H.size))
    (hret : ∀ (v : Option mv_V) (M' : mv_M), Ψ (Sum.inl v) M' → mv_WW p l e R s m args below meth c D cA ad X0 A k (cells + mv_mc k') (slots + 6 * mv_mc k') Q (pc + 3, lv, v.toList ++ rest, M'))
    (hthr : ∀ (E : Nat) (M' : mv_M), Ψ (Sum.inr E) M' → mv_VW p l e R s m args below meth c D cA ad X0 A k (cells + mv_mc k') (slots + 6 * mv_mc k') Q pc lv rest M' E) :
    W p l e R s m args below meth c H locs cells slots Q (F0 m pc ls st) := by
  have hAA := mv_AA_sub (D := D) C.2.2.2.2.2.2.2.2.2.1 C.2.2.2.2.2.2.2.2.2.2 h3.2.1
  have hth : ∀ (E : String) (ce : Cell) (q9 : Addr) (u : Nat × mv_M) (t : State) (H1 : Heap) (locs1 : List Loc), t.heap = H1 → s.vm.Alike t.vm → Ψ (Sum.inr u.1) u.2 → (E = mv_ex u.1 ∧ mv_B D cA ad X0 u.2 t) → H.size ≤ H1.size → (∀ q : Nat, q < H.size → ¬ mv_AA ad H.size q → H1[q]? = H[q]?) → va_S A s.heap H1 locs1 → H1[q9]? = some ce → ce.vm = .none → s.vm.findClass E = some ce.cls → vx_W p l e R s m args below meth c H1 locs1 (cells + mv_mc k') (slots + 6 * mv_mc k') Q (F0 m pc ls (rest.map (mv_val ad))) q9 := by
    intro E ce q9 u t H1 locs1 ht _ hp hb _ _ hS1 hce hcv hcl
    obtain ⟨rfl, hb1, hb2⟩ := hb
    rw [ht] at hb1
    exact hthr u.1 u.2 hp ls H1 locs1 q9 ce h1 h2 ⟨hb1, hS1, hb2⟩ hce hcv hcl
  unfold mv_Qc at hr
  cases hrt : mv_rt k' with
  | none =>
    simp only [hrt] at hr
    refine vx_callv hr h3.2.1 (fun q _ h => hAA q h) hAA (fun q _ h => hAA q h) hth (fun u t H1 locs1 ht _ hp hb _ _ hS1 => ?_)
    obtain ⟨hb1, hb2⟩ := hb
    rw [ht] at hb1
    exact hret none u hp ls H1 locs1 h1 h2 ⟨hb1, hS1, hb2⟩
  | some ty =>
    simp only [hrt] at hr
    refine vx_calli hr h3.2.1 (fun q _ h => hAA q h) hAA (fun q _ h => hAA q h) hth (fun r u t H1 locs1 ht _ hp hb _ _ hS1 => ?_)
    obtain ⟨hb1, hb2⟩ := hb
    rw [ht] at hb1
    exact hret (some (Sum.inl r)) u hp ls H1 locs1 h1 h2 ⟨hb1, hS1, hb2⟩
/-- what a call asks of the callee -/
def mv_ok (k' n : Nat) : Prop := k' < 150 ∧ mv_cw k' ∈ mv_W ∧ Cond.initialized (mv_nm k').cls ∈ mv_W ∧ ((mv_nm k').cls ≠ "java/lang/invoke/MethodHandle" ∧ (mv_nm k').cls ≠ "java/lang/invoke/VarHandle") ∧ (parseMethodDescriptor (mv_nm k').desc).map (fun d => d.parameters.length) = some n ∧ mv_nL k' ≤ 45
theorem mv_wd_hold {k' : Nat} {args : Array Value} {s : State} (hts : ∀ w ∈ mv_W, w.before args s = true) (h : mv_cw k' ∈ mv_W) : ∀ w ∈ mv_wd k', ∀ (a' : Array Value) (U : State), s.WarmedH U.vm → w.before a' U = true := by
  intro w hw a' U hW
  have hm : w ∈ mv_W := by
    rcases List.mem_cons.mp hw with rfl | h9
    · exact h
    · exact h9
  exact word_at hW (good_of_word (List.mem_filter.mp hm).2) (hts w hm)
theorem mv_par {x : MethodName} {n : Nat} (h : (parseMethodDescriptor x.desc).map (fun d => d.parameters.length) = some n) : ∀ sig, parseMethodDescriptor x.desc = some sig → n = sig.parameters.length := by
  intro sig hs
  rw [hs] at h
  exact (Option.some.inj h).symm
theorem mv_room9 {d k' : Nat} {R : Room} (h1 : d + 9 ≤ R.frames) (h2 : 64 * d + 264 ≤ R.locals) (h3 : mv_nL k' ≤ 45) : (mv_rm k' d).frames + 1 ≤ R.frames ∧ 8 + (mv_nL k' + 11) + (mv_rm k' d).locals ≤ R.locals := by
  constructor
  · show d + 8 + 1 ≤ _
    omega
  · show 8 + (mv_nL k' + 11) + (64 * d + 200) ≤ _
    omega
theorem ms_callv {k' n ci index N : Nat} {C : String} {T : u_T} (hc : mv_cod k = cc) (ho : mv_ok k' n) (hh : mv_hh k' = []) (hcl : vwCl[ci]? = some (C, T, N)) (hl : Cond.methodLink (mv_own k) index (mv_nm k') ∈ mv_W) (hi : Cond.instanceMethod (mv_nm k') ∈ mv_W) (hse : Cond.selects C (mv_nm k') (mv_nm k') ∈ mv_W) (hd : decode cc pc = .ok (.invokevirtual index, 3)) (hx : nx = pc + 3) : mv_Sim k pc (mi_callv nx k' (n + 1) ci) := by
  subst hx
  obtain ⟨o1, o2, o3, o4, o5, o6⟩ := ho
  have hcw : mv_cw k' = .code (mv_nm k') (mv_cod k') (mv_nL k') (mv_rt k') := by unfold mv_cw; rw [hh]
  intro p l e R s m args below meth c D cA ad X0 A C9 hR1 hR2 lv st M
  unfold mi_callv
  split
  · next g as rest hpop =>
    split
    · next c0 fs c1 hs =>
      split
      · next hb =>
        simp only [Bool.and_eq_true] at hb
        have hce := Nat.eq_of_beq_eq_true hb.1
        subst hce
        refine ⟨o1, ?_⟩
        intro cells slots Q d Ψ hCt f1 f2 f3 f4 hret hthr ls H locs h1 h2 h3
        obtain ⟨q0, hq0, hq⟩ := mv_WS_at cA ad M hs (j := 0) (by rw [mv_obj_cnt hs]; exact Nat.zero_lt_one)
        rw [mv_cel_o hs] at hq
        obtain ⟨xs, e1, e2, e3⟩ := mv_pop_spec hpop
        rw [List.append_nil] at e3
        have hts := C9.2.2.2.2.2.2.1
        have hst : st.map (mv_val ad) = (as.map (mv_val ad)).reverse ++ Value.ref (ad g 0) :: rest.map (mv_val ad) := by
          have e4 : xs = (Sum.inr (Sum.inl (g, 0)) :: as : List mv_V).reverse := by rw [e3, List.reverse_reverse]
          rw [e1, e4, List.map_append, List.map_reverse]
          simp [mv_val]
        have hlen : (as.map (mv_val ad)).length = n := by
          have e5 := congrArg List.length e3
          rw [List.length_reverse, e2, List.length_cons] at e5
          rw [List.length_map]
          omega
        have hrest := Nat.le_of_ble_eq_true hb.2
        have hcats := mv_cats ad rest
        refine mv_after (k' := k') (Ψ := Ψ) (a := (Value.ref (ad g 0) :: as.map (mv_val ad)).toArray) C9 h1 h2 h3 ?_ hret hthr
        exact vx_runV (nL := mv_nL k) (maxL := mv_nL k') (ret := mv_rt k') (bytes := mv_cod k') (index := index) (n := n) (b := ad g 0) (As := as.map (mv_val ad)) (C := C) ⟨C9.1, C9.2.1.trans hc, C9.2.2.2.2.1, C9.2.2.2.2.2.1, hts⟩ (hCt H.size)
          ⟨⟨rfl, rfl, (mv_room9 f1 f2 o6).1, (mv_room9 f1 f2 o6).2, mv_wd_hold hts o2, by rw [← hcw]; exact List.mem_cons_self, by rw [← hcw]; exact hts _ o2, hts _ o3, o4, mv_par o5, hts _ hl⟩, hts _ hi, hts _ hse⟩
          ⟨mv_Pr_blind, va_recv C9.2.2.2.2.2.2.2.2.1.1 h3.1 hcl hq, fun U hU hW => mv_Pr_of (as := Sum.inr (Sum.inl (g, 0)) :: as) C9 h3 hU hW⟩
          rfl hlen (by show ls.size = _; rw [h2.1, h1]) hst (lv_room (by omega)) hd ⟨f3, f4⟩
      · trivial
    · trivial
  · trivial
theorem ms_calls {k' n index : Nat} (hc : mv_cod k = cc) (ho : mv_ok k' n) (hh : mv_hh k' = []) (hl : Cond.methodLink (mv_own k) index (mv_nm k') ∈ mv_W) (hst9 : Cond.static (mv_nm k') ∈ mv_W) (hd : decode cc pc = .ok (.invokestatic index, 3)) (hx : nx = pc + 3) : mv_Sim k pc (mi_calls nx k' n) := by
  subst hx
  obtain ⟨o1, o2, o3, o4, o5, o6⟩ := ho
  have hcw : mv_cw k' = .code (mv_nm k') (mv_cod k') (mv_nL k') (mv_rt k') := by unfold mv_cw; rw [hh]
  intro p l e R s m args below meth c D cA ad X0 A C9 hR1 hR2 lv st M
  unfold mi_calls
  split
  · next as rest hpop =>
    split
    · next hb =>
      refine ⟨o1, ?_⟩
      intro cells slots Q d Ψ hCt f1 f2 f3 f4 hret hthr ls H locs h1 h2 h3
      obtain ⟨xs, e1, e2, e3⟩ := mv_pop_spec hpop
      rw [List.append_nil] at e3
      have hts := C9.2.2.2.2.2.2.1
      have hst : st.map (mv_val ad) = (as.map (mv_val ad)).reverse ++ rest.map (mv_val ad) := by
        have e4 : xs = as.reverse := by rw [e3, List.reverse_reverse]
        rw [e1, e4, List.map_append, List.map_reverse]
      have hlen : (as.map (mv_val ad)).length = n := by rw [List.length_map, e3, List.length_reverse, e2]
      have hrest := Nat.le_of_ble_eq_true hb
      have hcats := mv_cats ad rest
      refine mv_after (k' := k') (Ψ := Ψ) (a := (as.map (mv_val ad)).toArray) C9 h1 h2 h3 ?_ hret hthr
      exact vx_runS (nL := mv_nL k) (maxL := mv_nL k') (ret := mv_rt k') (bytes := mv_cod k') (index := index) (n := n) (As := as.map (mv_val ad)) ⟨C9.1, C9.2.1.trans hc, C9.2.2.2.2.1, C9.2.2.2.2.2.1, hts⟩ (hCt H.size)
        ⟨⟨rfl, rfl, (mv_room9 f1 f2 o6).1, (mv_room9 f1 f2 o6).2, mv_wd_hold hts o2, by rw [← hcw]; exact List.mem_cons_self, by rw [← hcw]; exact hts _ o2, hts _ o3, o4, mv_par o5, hts _ hl⟩, hts _ hst9⟩
        ⟨mv_Pr_blind, fun U hU hW => mv_Pr_of (as := as) C9 h3 hU hW⟩
        rfl hlen (by show ls.size = _; rw [h2.1, h1]) hst (lv_room (by omega)) hd ⟨f3, f4⟩
    · trivial
  · trivial
theorem ms_callsX {k' n index : Nat} (hc : mv_cod k = cc) (ho : mv_ok k' n) (hcw : mv_cw k' = .codeWith (mv_nm k') (mv_cod k') (mv_nL k') (mv_rt k') (mv_hh k')) (hl : Cond.methodLink (mv_own k) index (mv_nm k') ∈ mv_W) (hst9 : Cond.static (mv_nm k') ∈ mv_W) (hd : decode cc pc = .ok (.invokestatic index, 3)) (hx : nx = pc + 3) : mv_Sim k pc (mi_calls nx k' n) := by
  subst hx
  obtain ⟨o1, o2, o3, o4, o5, o6⟩ := ho
  intro p l e R s m args below meth c D cA ad X0 A C9 hR1 hR2 lv st M
  unfold mi_calls
  split
  · next as rest hpop =>
    split
    · next hb =>
      refine ⟨o1, ?_⟩
      intro cells slots Q d Ψ hCt f1 f2 f3 f4 hret hthr ls H locs h1 h2 h3
      obtain ⟨xs, e1, e2, e3⟩ := mv_pop_spec hpop
      rw [List.append_nil] at e3
      have hts := C9.2.2.2.2.2.2.1
      have hst : st.map (mv_val ad) = (as.map (mv_val ad)).reverse ++ rest.map (mv_val ad) := by
        have e4 : xs = as.reverse := by rw [e3, List.reverse_reverse]
        rw [e1, e4, List.map_append, List.map_reverse]
      have hlen : (as.map (mv_val ad)).length = n := by rw [List.length_map, e3, List.length_reverse, e2]
      have hrest := Nat.le_of_ble_eq_true hb
      have hcats := mv_cats ad rest
      refine mv_after (k' := k') (Ψ := Ψ) (a := (as.map (mv_val ad)).toArray) C9 h1 h2 h3 ?_ hret hthr
      exact vx_runSX (hh := mv_hh k') (nL := mv_nL k) (maxL := mv_nL k') (ret := mv_rt k') (bytes := mv_cod k') (index := index) (n := n) (As := as.map (mv_val ad)) ⟨C9.1, C9.2.1.trans hc, C9.2.2.2.2.1, C9.2.2.2.2.2.1, hts⟩ (hCt H.size)
        ⟨⟨rfl, rfl, (mv_room9 f1 f2 o6).1, (mv_room9 f1 f2 o6).2, mv_wd_hold hts o2, by rw [← hcw]; exact List.mem_cons_self⟩, by rw [← hcw]; exact hts _ o2, hts _ o3, o4, mv_par o5, hts _ hl, hts _ hst9⟩
        ⟨mv_Pr_blind, fun U hU hW => mv_Pr_of (as := as) C9 h3 hU hW⟩
        rfl hlen (by show ls.size = _; rw [h2.1, h1]) hst (lv_room (by omega)) hd ⟨f3, f4⟩
    · trivial
  · trivial
theorem ms_callsN {k' n index : Nat} {host : String} (hc : mv_cod k = cc) (ho : mv_ok k' n) (hh : mv_hh k' = []) (hl : Cond.methodLinkNest (mv_own k) index (mv_nm k') host ∈ mv_nst) (hst9 : Cond.static (mv_nm k') ∈ mv_W) (hd : decode cc pc = .ok (.invokestatic index, 3)) (hx : nx = pc + 3) : mv_Sim k pc (mi_calls nx k' n) := by
  subst hx
  obtain ⟨o1, o2, o3, o4, o5, o6⟩ := ho
  have hcw : mv_cw k' = .code (mv_nm k') (mv_cod k') (mv_nL k') (mv_rt k') := by unfold mv_cw; rw [hh]
  intro p l e R s m args below meth c D cA ad X0 A C9 hR1 hR2 lv st M
  unfold mi_calls
  split
  · next as rest hpop =>
    split
    · next hb =>
      refine ⟨o1, ?_⟩
      intro cells slots Q d Ψ hCt f1 f2 f3 f4 hret hthr ls H locs h1 h2 h3
      obtain ⟨xs, e1, e2, e3⟩ := mv_pop_spec hpop
      rw [List.append_nil] at e3
      have hts := C9.2.2.2.2.2.2.1
      have hst : st.map (mv_val ad) = (as.map (mv_val ad)).reverse ++ rest.map (mv_val ad) := by
        have e4 : xs = as.reverse := by rw [e3, List.reverse_reverse]
        rw [e1, e4, List.map_append, List.map_reverse]
      have hlen : (as.map (mv_val ad)).length = n := by rw [List.length_map, e3, List.length_reverse, e2]
      have hrest := Nat.le_of_ble_eq_true hb
      have hcats := mv_cats ad rest
      refine mv_after (k' := k') (Ψ := Ψ) (a := (as.map (mv_val ad)).toArray) C9 h1 h2 h3 ?_ hret hthr
      exact vx_runSN (nL := mv_nL k) (maxL := mv_nL k') (ret := mv_rt k') (bytes := mv_cod k') (index := index) (n := n) (As := as.map (mv_val ad)) ⟨C9.1, C9.2.1.trans hc, C9.2.2.2.2.1, C9.2.2.2.2.2.1, hts⟩ (hCt H.size)
        ⟨⟨⟨rfl, rfl, (mv_room9 f1 f2 o6).1, (mv_room9 f1 f2 o6).2, mv_wd_hold hts o2, by rw [← hcw]; exact List.mem_cons_self⟩, by rw [← hcw]; exact hts _ o2, hts _ o3, o4, mv_par o5, va_Nw.use rfl (C9.2.2.2.2.2.2.2.2.1.2.1 _ hl)⟩, hts _ hst9, trivial⟩
        ⟨mv_Pr_blind, fun U hU hW => mv_Pr_of (as := as) C9 h3 hU hW⟩
        rfl hlen (by show ls.size = _; rw [h2.1, h1]) hst (lv_room (by omega)) hd ⟨f3, f4⟩
    · trivial
  · trivial
def mv_names : List String := ["java/lang/RuntimeException", "java/lang/Exception"]
theorem ms_throw {E ik is ic : Nat} {cls text : String} (hE : mv_ex E = cls) (hc : mv_cod k = cc) (hfit : Bundle.fit cls = true) (hk : Cond.classLink (mv_own k) ik cls ∈ mv_W) (hi : Cond.initialized cls ∈ mv_W) (hs : (mv_own k, is, text) ∈ mv_strs) (hat : ∀ w ∈ vx_atS (mv_own k) ic cls mv_names, w ∈ mv_W ∨ w ∈ mv_nst)
    (d0 : decode cc pc = .ok (.new ik, 3)) (d3 : decode cc (pc + 3) = .ok (.dup, 1)) (d4 : decode cc (pc + 4) = .ok (.ldc is, 2)) (d6 : decode cc (pc + 6) = .ok (.invokespecial ic, 3)) (d9 : decode cc (pc + 9) = .ok (.athrow, 1)) : mv_Sim k pc (mi_throw E) := by
  intro p l e R s m args below meth c D cA ad X0 A C9 hR1 hR2 lv st M
  unfold mi_throw
  split
  · next hlen =>
    intro htab cells slots Qc XC mc ms free g1 g2 g3 g4 hx hf ls H locs h1 h2 h3
    obtain ⟨x1, x2, x3, x4, x5, x6, x7, x8⟩ := C9.2.2.2.2.2.2.2.2.1
    have hts := C9.2.2.2.2.2.2.1
    obtain ⟨sa, hsa⟩ := x5 _ hs
    have hl9 := Nat.le_of_ble_eq_true hlen
    have hc9 := mv_cats ad st
    have hat9 : ∀ w ∈ vx_atS (mv_own k) ic cls mv_names, w.before args s = true := by
      intro w hw
      rcases hat w hw with h | h
      · exact hts _ h
      · exact va_Nw.use (mv_nst_tab h) (x2 _ h)
    have hgood : ∀ w ∈ Cond.classLink (mv_own k) ik cls :: Cond.initialized cls :: vx_atS (mv_own k) ic cls mv_names, vx_ot w = true := by
      intro w hw
      have : w ∈ mv_W ∨ w ∈ mv_nst := by
        rcases List.mem_cons.mp hw with rfl | hw
        · exact Or.inl hk
        · rcases List.mem_cons.mp hw with rfl | hw
          · exact Or.inl hi
          · exact hat w hw
      unfold vx_ot
      rcases this with h | h
      · rw [(List.mem_filter.mp h).2, Bool.or_true]
      · rw [mv_nst_tab h, Bool.true_or]
    refine vx_throwS (A := A) (names := mv_names) (own := mv_own k) (ik := ik) (is := is) (ic := ic) (cls := cls) (text := text) (sa := sa) C9.1 (C9.2.1.trans hc) C9.2.2.2.2.2.2.2.1 C9.2.2.2.2.2.1 hfit (by decide) (hts _ hk) (hts _ hi) hsa hat9 hgood x3 x4 h3.2.1 (by rw [h2.1, h1]; exact C9.2.2.2.2.1.symm) d0 d3 d4 d6 d9 (fun x hx9 => by rw [htab] at hx9; cases hx9) ?_ ?_ g3 g4 C9.2.2.2.1 (fun t _ hsz hk9 => ?_) (fun z hz => hf _ (h3.2.1.2.2 z hz)) g1 g2
    · show 2 + 3 < R.frames
      omega
    · show ((st.map (mv_val ad)).map fun v => v.category).sum + (13 * (2 + 1) + 43) ≤ R.locals
      omega
    · rw [← hE]
      exact hx t (h3.1.kept (fun k9 q9 hq9 => hk9 q9.1 ((h3.1 k9 q9 hq9).lt))) ⟨Nat.le_trans h3.2.1.1 hsz, fun q9 p1 p2 => (hk9 q9 (Nat.lt_of_lt_of_le p1 h3.2.1.1)).trans (h3.2.1.2.1 q9 p1 p2)⟩
  · trivial
end MVS
