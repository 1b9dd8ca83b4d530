/-! THE CLAIM OUT OF ONE WALK OF THE LAW'S BODY. Your part is whole_start (and what it stands on); all else here is the same for every law, but numbers. -/
def R_law : String := "ComponentContainerLaw"
def lw_P (b : Addr) (xs : List Int32) (args : Array Value) (s : State) : Prop := args = #[.ref b] ∧ s.IntsAt b xs ∧ xs.length ≤ 2560 ∧ (Jvm.Cond.and given_1 narrow_1).before args s = true
def lw_Q (_ : Array Value) (s : State) (o : Outcome) (t : State) : Prop := o = .returned (some (.int 1)) ∧ Framed s o t [] 601024 7293034
def lw_Z (below : List Frame) (a : Array Value) (s : State) : State → Prop := fun t => ∃ o, t.status = .running ∧ Ended t below o ∧ lw_Q a s o t
/-- the law's own end, with 1 on the stack, nothing written that was there before, its room as the claim has it -/
theorem lw_ret {p : Program} {l : Launch} {e : Env} {s : State} {m : MethodId} {below : List Frame} {meth : Method} {c : Code} {b : Nat} (hx : p.tables.exec = Jvm.exec) (hb : c.code = code) (hr : meth.sig.returnType = ret) (hlocks : meth.locks = false) {pc : Nat} {H : Heap} {ls : Array Slot} (hdg : decode code pc = .ok (.ireturn, 1)) : W p l e room_1 s m #[Value.ref b] below meth c H [] 601024 7293034 (lw_Z below #[Value.ref b] s) (F0 m pc ls [.int 1]) := by
  intro T hT X
  obtain ⟨fs, hret, hrun, hended, hW, hframe⟩ := X.leave (v := some (.int 1)) (hlocks := hlocks) (fun h => by rw [hr] at h; cases h)
  have hmeth' : T.vm.method? m = some meth := X.method'
  refine ⟨T.setFrames fs, ?_, .returned (some (.int 1)), hrun, hended, rfl, ⟨_, rfl⟩, hW, hframe⟩
  jvm_step X.here [X.here.top, hx, hb, hdg, hmeth', hr, ret, narrow_b1]
  (try refine ⟨rfl, ?_⟩); (try refine ⟨rfl, ?_⟩)
  first | (intro acts; rw [hret _ acts rfl rfl rfl]) | rw [hret _ _ rfl rfl rfl]
  exact Steps.refl _
/-- what holds at the law's entry: the machine, the code, the tables' words (any of lw_tbl by 'hts w (by decide +kernel)'), the script of L ints xs at the cell b, what the Statement gives of the start (any of its parts by flat_of_before) -/
def lw_At (p : Program) (s : State) (m : MethodId) (meth : Method) (c : Code) (b L : Nat) (xs : Nat → Int32) : Prop :=
  p.tables.exec = Jvm.exec ∧ c.code = code ∧ meth.sig.returnType = ret ∧ c.maxLocals = 7 ∧ s.vm.findClass R_law = some m.cls ∧ (∀ w ∈ lw_tbl, w.before #[Value.ref b] s = true) ∧ va_X b L xs s s.heap ∧ b < s.heap.size ∧ meth.locks = false ∧ (Jvm.Cond.and given_1 narrow_1).before #[Value.ref b] s = true
set_option maxHeartbeats 4000000 in
set_option maxRecDepth 100000 in
/-- YOUR PART: from the entry, for every script of at most 2560 ints, the law comes to its end with true -/
theorem whole_start {p : Program} {e : Env} {s : State} {m : MethodId} {below : List Frame} {meth : Method} {c : Code} (l : Launch) (hflags : l.flags = flags0) {b L : Nat} {xs : Nat → Int32} (hL : L ≤ 2560) (C0 : lw_At p s m meth c b L xs) : W p l e room_1 s m #[Value.ref b] below meth c s.heap [] 0 0 (lw_Z below #[Value.ref b] s) (entryFrame m ([Value.ref b] : List Value).toArray 7) := by
  obtain ⟨hx, hb, hr, hml, hown, hts, hX, hbl, hlocks, hgv⟩ := id C0
  have hA' : ∀ q : Nat, s.heap.size ≤ q → (fun q : Nat => s.heap.size ≤ q) q := fun _ h => h
  have htW : ∀ w ∈ mv_W, w.before #[Value.ref b] s = true := fun w h => hts w (List.mem_filter.mp h).1
  obtain ⟨⟨t50, h50, hT50⟩, t51, h51, hT51⟩ := st_0 hgv
  obtain ⟨c0, i0, n0⟩ := u_known (C := RX0) (T := TX0) (N := 5) (n := 5) htW inW_X0 (hts (.instantiable RX0 5) (by decide +kernel))
  obtain ⟨c1, i1, n1⟩ := u_known (C := RX1) (T := TX1) (N := 4) (n := 4) htW inW_X1 (hts (.instantiable RX1 4) (by decide +kernel))
  obtain ⟨c2, i2, n2⟩ := u_known (C := RX2) (T := TX2) (N := 10) (n := 10) htW inW_X2 (hts (.instantiable RX2 10) (by decide +kernel))
  obtain ⟨c3, i3, n3⟩ := u_known (C := RX3) (T := TX3) (N := 7) (n := 7) htW inW_X3 (hts (.instantiable RX3 7) (by decide +kernel))
  obtain ⟨c4, i4, n4⟩ := u_known (C := RX4) (T := TX4) (N := 33) (n := 33) htW inW_X4 (hts (.instantiable RX4 33) (by decide +kernel))
  have hOw : (Cond.arrayOver (.array .int)).before #[Value.ref b] s = true := hts _ (by decide +kernel)
  obtain ⟨a0, a0a, a0b⟩ := wk_arr (ty := .int) (fun C h => by cases h) (hts (.arrayClass .int) (by decide +kernel))
  obtain ⟨a1, a1a, a1b⟩ := wk_arr (ty := .boolean) (fun C h => by cases h) (hts (.arrayClass .boolean) (by decide +kernel))
  obtain ⟨a2, a2a, a2b⟩ := wk_arr (ty := .long) (fun C h => by cases h) (hts (.arrayClass .long) (by decide +kernel))
  obtain ⟨a3, a3a, a3b⟩ := wk_arrA (ty := .int) hOw
  have hO : va_AOA .int s := va_AOA.of hOw
  have hN0 : va_Nw (.methodLinkNest RX3 9 yX0_init "ComponentContainer") s := va_Nw.of rfl (hts (.methodLinkNest RX3 9 yX0_init "ComponentContainer") (by decide +kernel))
  have hN1 : va_Nw (.methodLinkNest RX3 25 yX1_init "ComponentContainer") s := va_Nw.of rfl (hts (.methodLinkNest RX3 25 yX1_init "ComponentContainer") (by decide +kernel))
  obtain ⟨D, cA, hK⟩ : ∃ (D : va_G) (cA : Nat → ClassId), va_K D vwCl (mv_tys cA) s := by
    refine ⟨(fun k => match k with | 0 => c0 | 1 => c1 | 2 => c2 | 3 => c3 | _ => c4, fun k => match k with | 0 => i0 | 1 => i1 | 2 => i2 | 3 => i3 | _ => i4), fun k => match k with | 0 => a0 | 1 => a1 | 2 => a2 | _ => a3, fun k q hq => ?_, fun k q hq => ?_⟩
    · match k, hq with
      | 0, hq => cases hq; exact n0
      | 1, hq => cases hq; exact n1
      | 2, hq => cases hq; exact n2
      | 3, hq => cases hq; exact n3
      | 4, hq => cases hq; exact n4
      | k + 5, hq => simp [vwCl] at hq
    · match k, hq with
      | 0, hq => cases hq; exact ⟨a0a, a0b⟩
      | 1, hq => cases hq; exact ⟨a1a, a1b⟩
      | 2, hq => cases hq; exact ⟨a2a, a2b⟩
      | 3, hq => cases hq; exact ⟨a3a, a3b⟩
      | k + 4, hq => simp [mv_tys] at hq
  have hS : va_S (fun q : Nat => s.heap.size ≤ q) s.heap s.heap [] := va_S.rf
  have hP : va_P D vwCl [] s.heap := fun k q h => by simp at h
  have hD : va_D (fun q : Nat => s.heap.size ≤ q) [] := ⟨fun i j p q h => by simp at h, fun k q h => by simp at h⟩
  have hl := lv_entry ([.ref b]) (n := 7) (Nat.le_of_ble_eq_true rfl)
  rw [lg_entry_eq]
  generalize (lg_sl ([.ref b]) ++ List.replicate (7 - (lg_sl ([.ref b])).length) Slot.unset).toArray = ls at hl ⊢
  have hl : lv_has ls 7 [(0, .ref b)] := hl
  refine va_new (ci := 3) (fs := [.null, .null, .null, .int 0, .null, .null, .int 0]) (C := RX3) (T := TX3) (N := 7) hx hb htW inW_X3 tyX3 tyX3_ok hown (hts (.classLink RL 8 RX3) (by decide +kernel)) (hts (.instantiable RX3 7) (by decide +kernel)) (hts (.initialized RX3) (by decide +kernel)) hK hP hD hS hA' rfl (fun j hj => by rcases (show j = 0 ∨ j = 1 ∨ j = 2 ∨ j = 3 ∨ j = 4 ∨ j = 5 ∨ j = 6 by omega) with rfl | rfl | rfl | rfl | rfl | rfl | rfl <;> rfl) (Nat.le_of_ble_eq_true rfl) (Nat.le_of_ble_eq_true rfl) dL_law_0 (fun hA H hP hD hS => ?_)
  have hP : va_P D vwCl [(hA, .inr (3, [.null, .null, .null, .int 0, .null, .null, .int 0]))] H := hP
  have hD : va_D (fun q : Nat => s.heap.size ≤ q) [(hA, .inr (3, [.null, .null, .null, .int 0, .null, .null, .int 0]))] := hD
  refine W.widen (k := 1) (n := 7) (by omega) (by omega) ?_
  refine lv_dup hx hb dL_law_3 rfl ?_
  have hPc := hP
  have hFc := wk_free (wc := [(hA, .inr (3, [.null, .null, .null, .int 0, .null, .null, .int 0]))]) hD hS hA' (fun z hz => hz)
  refine va_callv (va_runI (As := []) (rest := [.ref hA]) ⟨hx, hb, hml, hown, hts⟩ (k_X3 l D cA hA H.size) (cwI 0 hts gi_X3 rfl rfl rfl (hts (.initialized RX3) (by decide +kernel)) (hts (.methodLink RL 79 yX3_init) (by decide +kernel)) (hts (.instanceMethod yX3_init) (by decide +kernel)) rfl (by decide +kernel) ⟨Nat.le_of_ble_eq_true rfl, Nat.le_of_ble_eq_true rfl⟩) ⟨fun a U g mk q => by obtain ⟨q0, q1, qP, qK, qO, qN0, qN1⟩ := q; exact ⟨q0, q1, qP, va_K.moved (u := U) (U := U.calling g mk a) (Vm.Alike.refl U.vm) qK, va_AOA.moved (u := U) (U := U.calling g mk a) (Vm.Alike.refl U.vm) qO, va_Nw.same (u := U) (U := U.calling g mk a) rfl rfl qN0, va_Nw.same (u := U) (U := U.calling g mk a) rfl rfl qN1⟩, fun U hU hW => ⟨rfl, by rw [hU], by rw [hU]; exact hPc, va_K.moved hW.alike hK, va_AOA.moved hW.alike hO, va_Nw.warmM hW hN0, va_Nw.warmM hW hN1⟩⟩ rfl rfl hl.1 rfl (lv_room (Nat.le_of_ble_eq_true rfl)) dL_law_4 ⟨Nat.le_of_ble_eq_true rfl, Nat.le_of_ble_eq_true rfl⟩) hS (fun q _ h => hFc q h) hFc (fun uA t H1 locs ht hvm hw hB hz1 hk1 hS => ?_)
  obtain ⟨hP1, hD1⟩ := hB
  rw [ht] at hP1
  obtain ⟨hP, hD⟩ := va_join (wr := []) (w1 := wk_X3 cA hA uA) hP hD [0] [] rfl rfl (by decide) (by decide) hk1 hFc hP1 hD1
  generalize H1 = H at hP hS ⊢
  have hP : va_P D vwCl (wk_X3 cA hA uA) H := hP
  have hD : va_D (fun q : Nat => s.heap.size ≤ q) (wk_X3 cA hA uA) := hD
  obtain ⟨P1, hPe1⟩ : ∃ z : va_W, z = wk_X3 cA hA uA := ⟨_, rfl⟩
  rw [← hPe1] at hP hD
  refine W.widen (k := 84) (n := 4512) (by omega) (by omega) ?_
  refine lv_astore_n (lv' := [(1, .ref hA), (0, .ref b)]) hx hb dL_law_7 rfl hl (by decide) rfl (fun ls hl => ?_)
  refine va_new (ci := 4) (fs := (.int 0 :: .int 0 :: .null :: .null :: .null :: .null :: .int 0 :: .null :: .null :: .null :: .int 0 :: .int 0 :: .int 0 :: .null :: .null :: .null :: .null :: .null :: .null :: .int 0 :: .int 0 :: .null :: .int 0 :: .int 0 :: .int 0 :: .null :: .null :: .null :: .null :: .null :: .int 0 :: .int 0 :: .int 0 :: [])) (C := RX4) (T := TX4) (N := 33) hx hb htW inW_X4 tyX4 tyX4_ok hown (hts (.classLink RL 80 RX4) (by decide +kernel)) (hts (.instantiable RX4 33) (by decide +kernel)) (hts (.initialized RX4) (by decide +kernel)) hK hP hD hS hA' rfl (fun j hj => by rcases (show j = 0 ∨ j = 1 ∨ j = 2 ∨ j = 3 ∨ j = 4 ∨ j = 5 ∨ j = 6 ∨ j = 7 ∨ j = 8 ∨ j = 9 ∨ j = 10 ∨ j = 11 ∨ j = 12 ∨ j = 13 ∨ j = 14 ∨ j = 15 ∨ j = 16 ∨ j = 17 ∨ j = 18 ∨ j = 19 ∨ j = 20 ∨ j = 21 ∨ j = 22 ∨ j = 23 ∨ j = 24 ∨ j = 25 ∨ j = 26 ∨ j = 27 ∨ j = 28 ∨ j = 29 ∨ j = 30 ∨ j = 31 ∨ j = 32 by omega) with rfl | rfl | rfl | rfl | rfl | rfl | rfl | rfl | rfl | rfl | rfl | rfl | rfl | rfl | rfl | rfl | rfl | rfl | rfl | rfl | rfl | rfl | rfl | rfl | rfl | rfl | rfl | rfl | rfl | rfl | rfl | rfl | rfl <;> rfl) (Nat.le_of_ble_eq_true rfl) (Nat.le_of_ble_eq_true rfl) dL_law_8 (fun hB H hP hD hS => ?_)
  have hP : va_P D vwCl ([(hB, .inr (4, (.int 0 :: .int 0 :: .null :: .null :: .null :: .null :: .int 0 :: .null :: .null :: .null :: .int 0 :: .int 0 :: .int 0 :: .null :: .null :: .null :: .null :: .null :: .null :: .int 0 :: .int 0 :: .null :: .int 0 :: .int 0 :: .int 0 :: .null :: .null :: .null :: .null :: .null :: .int 0 :: .int 0 :: .int 0 :: [])))] ++ P1) H := wk_PP hP List.perm_append_comm
  have hD : va_D (fun q : Nat => s.heap.size ≤ q) ([(hB, .inr (4, (.int 0 :: .int 0 :: .null :: .null :: .null :: .null :: .int 0 :: .null :: .null :: .null :: .int 0 :: .int 0 :: .int 0 :: .null :: .null :: .null :: .null :: .null :: .null :: .int 0 :: .int 0 :: .null :: .int 0 :: .int 0 :: .int 0 :: .null :: .null :: .null :: .null :: .null :: .int 0 :: .int 0 :: .int 0 :: [])))] ++ P1) := wk_DP hD List.perm_append_comm
  refine W.widen (k := 85) (n := 4545) (by omega) (by omega) ?_
  refine lv_dup hx hb dL_law_11 rfl ?_
  have hPc : va_P D vwCl [(hB, .inr (4, (.int 0 :: .int 0 :: .null :: .null :: .null :: .null :: .int 0 :: .null :: .null :: .null :: .int 0 :: .int 0 :: .int 0 :: .null :: .null :: .null :: .null :: .null :: .null :: .int 0 :: .int 0 :: .null :: .int 0 :: .int 0 :: .int 0 :: .null :: .null :: .null :: .null :: .null :: .int 0 :: .int 0 :: .int 0 :: [])))] H := wk_P hP (fun z hz => List.mem_append_left _ hz)
  have hFc := wk_free (wc := [(hB, .inr (4, (.int 0 :: .int 0 :: .null :: .null :: .null :: .null :: .int 0 :: .null :: .null :: .null :: .int 0 :: .int 0 :: .int 0 :: .null :: .null :: .null :: .null :: .null :: .null :: .int 0 :: .int 0 :: .null :: .int 0 :: .int 0 :: .int 0 :: .null :: .null :: .null :: .null :: .null :: .int 0 :: .int 0 :: .int 0 :: [])))]) hD hS hA' (fun z hz => List.mem_append_left _ hz)
  refine va_callv (va_runI (As := []) (rest := [.ref hB]) ⟨hx, hb, hml, hown, hts⟩ (k_X4 l D cA hB H.size) (cwI 0 hts gi_X4 rfl rfl rfl (hts (.initialized RX4) (by decide +kernel)) (hts (.methodLink RL 82 yX4_init) (by decide +kernel)) (hts (.instanceMethod yX4_init) (by decide +kernel)) rfl (by decide +kernel) ⟨Nat.le_of_ble_eq_true rfl, Nat.le_of_ble_eq_true rfl⟩) ⟨fun a U g mk q => by obtain ⟨q0, q1, qP, qK, qO⟩ := q; exact ⟨q0, q1, qP, va_K.moved (u := U) (U := U.calling g mk a) (Vm.Alike.refl U.vm) qK, va_AOA.moved (u := U) (U := U.calling g mk a) (Vm.Alike.refl U.vm) qO⟩, fun U hU hW => ⟨rfl, by rw [hU], by rw [hU]; exact hPc, va_K.moved hW.alike hK, va_AOA.moved hW.alike hO⟩⟩ rfl rfl hl.1 rfl (lv_room (Nat.le_of_ble_eq_true rfl)) dL_law_12 ⟨Nat.le_of_ble_eq_true rfl, Nat.le_of_ble_eq_true rfl⟩) hS (fun q _ h => hFc q h) hFc (fun uB t H1 locs ht hvm hw4 hB4 hz1 hk1 hS => ?_)
  obtain ⟨hP1, hD1⟩ := hB4
  rw [ht] at hP1
  obtain ⟨hP, hD⟩ := va_joinQ (X := [(hB, .inr (4, (.int 0 :: .int 0 :: .null :: .null :: .null :: .null :: .int 0 :: .null :: .null :: .null :: .int 0 :: .int 0 :: .int 0 :: .null :: .null :: .null :: .null :: .null :: .null :: .int 0 :: .int 0 :: .null :: .int 0 :: .int 0 :: .int 0 :: .null :: .null :: .null :: .null :: .null :: .int 0 :: .int 0 :: .int 0 :: [])))]) (cx := [(hB, .inr (4, (.int 0 :: .int 0 :: .null :: .null :: .null :: .null :: .int 0 :: .null :: .null :: .null :: .int 0 :: .int 0 :: .int 0 :: .null :: .null :: .null :: .null :: .null :: .null :: .int 0 :: .int 0 :: .null :: .int 0 :: .int 0 :: .int 0 :: .null :: .null :: .null :: .null :: .null :: .int 0 :: .int 0 :: .int 0 :: [])))]) (wr := []) (w1 := wk_X4 cA hB uB) (pl := P1) hP hD [0] [] rfl rfl (by decide) (by decide) hk1 hFc hP1 hD1
  generalize H1 = H at hP hS ⊢
  have hP : va_P D vwCl (wk_X4 cA hB uB ++ P1) H := hP
  have hD : va_D (fun q : Nat => s.heap.size ≤ q) (wk_X4 cA hB uB ++ P1) := hD
  obtain ⟨P2, hPe2⟩ : ∃ z : va_W, z = wk_X4 cA hB uB ++ P1 := ⟨_, rfl⟩
  rw [← hPe2] at hP hD
  refine W.widen (k := 104) (n := 9257) (by omega) (by omega) ?_
  refine lv_astore_n (lv' := [(2, .ref hB), (1, .ref hA), (0, .ref b)]) hx hb dL_law_15 rfl hl (by decide) rfl (fun ls hl => ?_)
  refine lv_iconst (v := 1) hx hb dL_law_16 (by decide) ?_
  refine wk_newa (atype := .long) (a0 := (1, .inr (.inl (fun _ => 0)))) (N' := 1) hx hb (hts (.arrayClass .long) (by decide +kernel)) (ty := .long) rfl (fun C h => by cases h) hK (k := 2) rfl hP hD hS hA' (fun _ => rfl) (by decide) (by decide) (Nat.le_of_ble_eq_true rfl) (Nat.le_of_ble_eq_true rfl) (Nat.le_of_ble_eq_true rfl) dL_law_17 (fun qo H hP hD hS => ?_)
  refine W.widen (k := 105) (n := 9258) (by omega) (by omega) ?_
  refine lv_astore_n (lv' := [(3, .ref qo), (2, .ref hB), (1, .ref hA), (0, .ref b)]) hx hb dL_law_19 rfl hl (by decide) rfl (fun ls hl => ?_)
  refine lv_iconst (v := 0) hx hb dL_law_20 (by decide) ?_
  refine lv_istore (lv' := [(4, .int 0), (3, .ref qo), (2, .ref hB), (1, .ref hA), (0, .ref b)]) hx hb dL_law_21 hl (by decide) rfl (fun ls hl => ?_)
  subst hPe2
  subst hPe1
  have hPW : va_P D vwCl (mv_WS cA (wk_ad hA uA hB uB qo t50 t51 b) (wk_M (uA.2.2.2.1.2.2.2.2.2.2.2.2.2) L xs)) H := wk_PP hP wk_perm
  have hDW : va_D (fun q : Nat => s.heap.size ≤ q) (mv_WS cA (wk_ad hA uA hB uB qo t50 t51 b) (wk_M (uA.2.2.2.1.2.2.2.2.2.2.2.2.2) L xs)) := wk_DP hD wk_perm
  have hEX : mv_EX D cA (wk_ad hA uA hB uB qo t50 t51 b) (wk_M (uA.2.2.2.1.2.2.2.2.2.2.2.2.2) L xs) (fun q : Nat => s.heap.size ≤ q) s := ex_0 hL hts hgv hX hbl hK rfl rfl rfl h50 h51 hT50 hT51
  obtain ⟨M9, n9, hn9⟩ := law_0 hw hL xs
  have hst : l.stackTraces = false := by
    unfold Launch.stackTraces
    rw [hflags]
    decide
  have C9 : mv_CX p l s m #[Value.ref b] meth c D cA (wk_ad hA uA hB uB qo t50 t51 b) (wk_M (uA.2.2.2.1.2.2.2.2.2.2.2.2.2) L xs) (fun q : Nat => s.heap.size ≤ q) kL_law := ⟨hx, hb, hr, hlocks, hml, hown, htW, hst, hEX, hA', fun M => mv_D_any hDW M⟩
  have hbody := mv_body gd_all n9 102 2052 kL_law _ _ hn9 gd_L_law C9 (e := e) (R := room_1) (below := below) (Or.inr ⟨by decide, fun E M h => by cases h.1⟩) (Nat.le_of_ble_eq_true rfl) (Nat.le_of_ble_eq_true rfl) 601024 7293034 105 9258 (lw_Z below #[Value.ref b] s) (Nat.le_of_ble_eq_true rfl) (Nat.le_of_ble_eq_true rfl) (Nat.le_of_ble_eq_true rfl) (Nat.le_of_ble_eq_true rfl) ⟨?_, Or.inl (fun E M h => by cases h.1)⟩
  · refine hbody ls H _ rfl ⟨hl.1, hl.2.1, fun i v hv => ?_⟩ ⟨hPW, hS, fun g _ => rfl⟩
    match i, hv with
    | 0, hv => cases hv; exact ⟨lv_at hl 4 rfl, rfl⟩
    | 1, hv => cases hv; exact ⟨lv_at hl 3 rfl, rfl⟩
    | 2, hv => cases hv; exact ⟨lv_at hl 2 rfl, rfl⟩
    | 3, hv => cases hv; exact ⟨lv_at hl 1 rfl, rfl⟩
    | 4, hv => cases hv; exact ⟨lv_at hl 0 rfl, rfl⟩
    | 5, hv => cases hv
    | 6, hv => cases hv
    | i + 7, hv => simp at hv
  · intro pc lv st M v cells slots hΦ hc9 hs9 hst2 ls H locs h1 h2 h3
    obtain ⟨hv, -⟩ := hΦ
    rcases hst2 with ⟨-, hv2, -, -⟩ | ⟨x, hst2, hv2, hdd, -⟩
    · rw [hv2] at hv
      cases hv
    · have hx1 : x = 1 := by
        rw [hv2] at hv
        cases hv
        rfl
      subst hx1
      subst hst2
      refine va_forget (fun q hq => h3.2.1.2.2 q hq) ?_
      refine W.widen hc9 hs9 ?_
      exact lw_ret hx hb hr hlocks hdd
