def wk_X3 (cA : Nat → ClassId) (h0 : Nat) (u : Nat × (Nat × (Nat → Nat) × Nat × (Nat → Nat) × Nat) × Nat × (Nat × Nat × Nat × Nat × Nat × Nat × (Nat → Nat) × Nat × Nat × (Nat → Nat → Int32)) × Nat × Nat × Nat × Nat × (Nat → Nat)) : va_W := ((h0, .inr (3, [.ref u.1, .ref u.2.2.1, .ref u.2.2.2.2.1, .int 0, .ref u.2.2.2.2.2.2.1, .ref u.2.2.2.2.2.2.2.1, .int 0])) :: ((((wk_X1 cA u.2.2.2.2.1 u.2.2.2.2.2.1 ++ (wk_X2 cA u.2.2.1 u.2.2.2.1 ++ (wk_X0 cA u.1 u.2.1 ++ []))) ++ [(u.2.2.2.2.2.2.1, .inl (cA 0, 20, .inl (fun _ => 0)))]) ++ [wk_outer (cA 3) u.2.2.2.2.2.2.2.1 u.2.2.2.2.2.2.2.2 20]) ++ wk_rows (cA 0) u.2.2.2.2.2.2.2.2 (fun _ _ => 0) 20 6))
set_option maxHeartbeats 4000000 in
set_option maxRecDepth 100000 in
theorem k_X3 (l : Launch) (D : va_G) (cA : Nat → ClassId) (h0 sz : Nat) : Met l yX3_init wsX3_init ({ frames := 3, cells := 83, slots := 4505, locals := 64 }) (va_Pc [.ref h0] (fun U => U.heap.size = sz ∧ va_P D vwCl [(h0, .inr (3, [.null, .null, .null, .int 0, .null, .null, .int 0]))] U.heap ∧ va_K D vwCl (mv_tys cA) U ∧ va_AOA .int U ∧ va_Nw (.methodLinkNest RX3 9 yX0_init "ComponentContainer") U ∧ va_Nw (.methodLinkNest RX3 25 yX1_init "ComponentContainer") U)) (va_Qv (fun u : Nat × (Nat × (Nat → Nat) × Nat × (Nat → Nat) × Nat) × Nat × (Nat × Nat × Nat × Nat × Nat × Nat × (Nat → Nat) × Nat × Nat × (Nat → Nat → Int32)) × Nat × Nat × Nat × Nat × (Nat → Nat) => ∀ i j, i < 6 → j < 20 → u.2.2.2.1.2.2.2.2.2.2.2.2.2 i j = -1) (fun u t => va_P D vwCl (wk_X3 cA h0 u) t.heap ∧ va_D (va_A [(h0, .inr (3, [.null, .null, .null, .int 0, .null, .null, .int 0]))] sz) (wk_X3 cA h0 u)) (va_A [(h0, .inr (3, [.null, .null, .null, .int 0, .null, .null, .int 0]))] sz)) 83 4505 (va_A [(h0, .inr (3, [.null, .null, .null, .int 0, .null, .null, .int 0]))] sz) := by
  refine Met.ofW (cc := cX3_init) (maxL := 1) (ret := none) (by decide) rfl ?_
  intro p e s m args below meth c s₁ B hml hv
  obtain ⟨rfl, hsz, hP, hK, hO, hN0, hN1⟩ := hv
  have hx := B.exec
  have hb := B.bytes
  have hr := B.returns
  have hts := atoms_spec (ws := wsX3_init) B.pre
  have hown : s.vm.findClass RX3 = some m.cls := findClass_of_methodNamed B.named
  have hlocks := B.notSynchronized
  have hin : meth.name = "<init>" := (name_of_methodNamed B.named B.method).1
  subst hsz
  have hD : va_D (va_A [(h0, .inr (3, [.null, .null, .null, .int 0, .null, .null, .int 0]))] s.heap.size) [(h0, .inr (3, [.null, .null, .null, .int 0, .null, .null, .int 0]))] := wk_D1 (Or.inl ⟨0, _, rfl⟩)
  generalize hAe : va_A [(h0, .inr (3, [.null, .null, .null, .int 0, .null, .null, .int 0]))] s.heap.size = A at hD ⊢
  have hA : ∀ q : Nat, s.heap.size ≤ q → A q := fun q h => by rw [← hAe]; exact Or.inr h
  have hS : va_S A s.heap s.heap [] := va_S.rf
  have hl := lv_entry ([.ref h0]) (n := 1) (Nat.le_of_ble_eq_true rfl)
  rw [lg_entry_eq]
  generalize (lg_sl ([.ref h0]) ++ List.replicate (1 - (lg_sl ([.ref h0])).length) Slot.unset).toArray = ls at hl ⊢
  have hl : lv_has ls 1 [(0, .ref h0)] := hl
  have hiw : ∀ w ∈ u_ws RX3 TX3 7, w ∈ wsX3_init := by decide +kernel
  obtain ⟨P0, hPe0⟩ : ∃ z : va_W, z = [] := ⟨_, rfl⟩
  rw [← hPe0] at hP hD
  refine lv_aload_n hx hb dX3_init_0 rfl (lv_at hl 0 rfl) ?_
  refine W.objInit hx hb hown (hts (.methodLink RX3 1 objectInit) (by decide +kernel)) (hts (.instanceMethod objectInit) (by decide +kernel)) (hts (.code objectInit ⟨#[0xb1]⟩ 1 none) (by decide +kernel)) rfl (by rw [hml]; exact hl.1) rfl dX3_init_1 (Nat.le_of_ble_eq_true rfl) (Nat.le_of_ble_eq_true rfl) ?_
  refine W.eq (g2 := F0 m 4 ls []) rfl ?_
  refine lv_aload_n hx hb dX3_init_4 rfl (lv_at hl 0 rfl) ?_
  refine va_new (ci := 0) (fs := [.null, .null, .null, .int 0, .int 0]) (C := RX0) (T := TX0) (N := 5) hx hb hts (by decide +kernel) tyX0 tyX0_ok hown (hts (.classLink RX3 7 RX0) (by decide +kernel)) (hts (.instantiable RX0 5) (by decide +kernel)) (hts (.initialized RX0) (by decide +kernel)) hK hP hD hS hA rfl (fun j hj => by rcases (show j = 0 ∨ j = 1 ∨ j = 2 ∨ j = 3 ∨ j = 4 by omega) with rfl | rfl | rfl | rfl | rfl <;> rfl) (Nat.le_of_ble_eq_true rfl) (Nat.le_of_ble_eq_true rfl) dX3_init_5 (fun oX0 H hP hD hS => ?_)
  have hP : va_P D vwCl ([(h0, .inr (3, [.null, .null, .null, .int 0, .null, .null, .int 0])), (oX0, .inr (0, [.null, .null, .null, .int 0, .int 0]))] ++ P0) H := va_P.swap (a := [(h0, .inr (3, [.null, .null, .null, .int 0, .null, .null, .int 0]))]) (b := P0) (c := [(oX0, .inr (0, [.null, .null, .null, .int 0, .int 0]))]) hP
  have hD : va_D A ([(h0, .inr (3, [.null, .null, .null, .int 0, .null, .null, .int 0])), (oX0, .inr (0, [.null, .null, .null, .int 0, .int 0]))] ++ P0) := va_D.swap (a := [(h0, .inr (3, [.null, .null, .null, .int 0, .null, .null, .int 0]))]) (b := P0) (c := [(oX0, .inr (0, [.null, .null, .null, .int 0, .int 0]))]) hD
  refine W.widen (k := 1) (n := 5) (by omega) (by omega) ?_
  refine lv_dup hx hb dX3_init_8 rfl ?_
  have hPc : va_P D vwCl [(oX0, .inr (0, [.null, .null, .null, .int 0, .int 0]))] H := wk_P hP (fun z hz => List.mem_append_left _ (List.mem_cons_of_mem _ hz))
  have hFc := wk_free (wc := [(oX0, .inr (0, [.null, .null, .null, .int 0, .int 0]))]) hD hS hA (fun z hz => List.mem_append_left _ (List.mem_cons_of_mem _ hz))
  refine va_callv (va_runIN (As := []) (rest := [.ref oX0, .ref h0]) ⟨hx, hb, hml, hown, hts⟩ (k_X0 l D cA oX0 H.size) ⟨va_cnB 0 hts gX3_init_X0_init_n9 rfl rfl rfl hN0 (hts (.initialized RX0) (by decide +kernel)) (by decide +kernel) ⟨Nat.le_of_ble_eq_true rfl, Nat.le_of_ble_eq_true rfl⟩, rfl, hts (.instanceMethod yX0_init) (by decide +kernel)⟩ ⟨fun a U g mk q => by obtain ⟨q0, q1, qP, qK, qO⟩ := q; exact ⟨q0, q1, qP, va_K.moved (u := U) (U := U.calling g mk a) (Vm.Alike.refl U.vm) qK, va_AOA.moved (u := U) (U := U.calling g mk a) (Vm.Alike.refl U.vm) qO⟩, fun U hU hW => ⟨rfl, by rw [hU], by rw [hU]; exact hPc, va_K.moved hW.alike hK, va_AOA.moved hW.alike hO⟩⟩ rfl rfl hl.1 rfl (lv_room (Nat.le_of_ble_eq_true rfl)) dX3_init_9 ⟨Nat.le_of_ble_eq_true rfl, Nat.le_of_ble_eq_true rfl⟩) hS (fun q _ h => hFc q h) hFc (fun uX0 t H1 locs ht hvm hwX0 hB hz1 hk1 hS => ?_)
  obtain ⟨hP1, hD1⟩ := hB
  rw [ht] at hP1
  obtain ⟨hP, hD⟩ := va_joinQ (X := [(h0, .inr (3, [.null, .null, .null, .int 0, .null, .null, .int 0])), (oX0, .inr (0, [.null, .null, .null, .int 0, .int 0]))]) (cx := [(oX0, .inr (0, [.null, .null, .null, .int 0, .int 0]))]) (wr := [(h0, .inr (3, [.null, .null, .null, .int 0, .null, .null, .int 0]))]) (w1 := wk_X0 cA oX0 uX0) (pl := P0) hP hD [1] [0] rfl rfl (by decide) (by decide) hk1 hFc hP1 hD1
  generalize H1 = H at hP hS ⊢
  have hP : va_P D vwCl ((h0, .inr (3, [.null, .null, .null, .int 0, .null, .null, .int 0])) :: (wk_X0 cA oX0 uX0 ++ P0)) H := hP
  have hD : va_D A ((h0, .inr (3, [.null, .null, .null, .int 0, .null, .null, .int 0])) :: (wk_X0 cA oX0 uX0 ++ P0)) := hD
  obtain ⟨P1, hPe1⟩ : ∃ z : va_W, z = (wk_X0 cA oX0 uX0 ++ P0) := ⟨_, rfl⟩
  rw [← hPe1] at hP hD
  refine W.widen (k := 44) (n := 565) (by omega) (by omega) ?_
  refine va_putF (D := D) (ci := 3) (v := .ref oX0) (ty := (.object "ComponentContainer$Descriptions")) (C := RX3) (T := TX3) (N := 7) hx hb hts hiw tyX3 tyX3_ok nmX3 hown hK hP hD hS 0 rfl rfl 0 (by decide) (hts (.fieldLink RX3 10 "ComponentContainer" "descriptions" "LComponentContainer$Descriptions;") (by decide +kernel)) (fun _ h9 => h9) rfl hin rfl (by decide +kernel) rfl rfl (Nat.le_of_ble_eq_true rfl) dX3_init_12 (fun H locs hP hD hS => ?_)
  have hP : va_P D vwCl ((h0, .inr (3, [.ref oX0, .null, .null, .int 0, .null, .null, .int 0])) :: P1) H := hP
  have hD : va_D A ((h0, .inr (3, [.ref oX0, .null, .null, .int 0, .null, .null, .int 0])) :: P1) := hD
  refine lv_aload_n hx hb dX3_init_15 rfl (lv_at hl 0 rfl) ?_
  refine va_new (ci := 2) (fs := [.null, .null, .null, .null, .null, .int 0, .null, .null, .null, .int 0]) (C := RX2) (T := TX2) (N := 10) hx hb hts (by decide +kernel) tyX2 tyX2_ok hown (hts (.classLink RX3 16 RX2) (by decide +kernel)) (hts (.instantiable RX2 10) (by decide +kernel)) (hts (.initialized RX2) (by decide +kernel)) hK hP hD hS hA rfl (fun j hj => by rcases (show j = 0 ∨ j = 1 ∨ j = 2 ∨ j = 3 ∨ j = 4 ∨ j = 5 ∨ j = 6 ∨ j = 7 ∨ j = 8 ∨ j = 9 by omega) with rfl | rfl | rfl | rfl | rfl | rfl | rfl | rfl | rfl | rfl <;> rfl) (Nat.le_of_ble_eq_true rfl) (Nat.le_of_ble_eq_true rfl) dX3_init_16 (fun oX2 H hP hD hS => ?_)
  have hP : va_P D vwCl ([(h0, .inr (3, [.ref oX0, .null, .null, .int 0, .null, .null, .int 0])), (oX2, .inr (2, [.null, .null, .null, .null, .null, .int 0, .null, .null, .null, .int 0]))] ++ P1) H := va_P.swap (a := [(h0, .inr (3, [.ref oX0, .null, .null, .int 0, .null, .null, .int 0]))]) (b := P1) (c := [(oX2, .inr (2, [.null, .null, .null, .null, .null, .int 0, .null, .null, .null, .int 0]))]) hP
  have hD : va_D A ([(h0, .inr (3, [.ref oX0, .null, .null, .int 0, .null, .null, .int 0])), (oX2, .inr (2, [.null, .null, .null, .null, .null, .int 0, .null, .null, .null, .int 0]))] ++ P1) := va_D.swap (a := [(h0, .inr (3, [.ref oX0, .null, .null, .int 0, .null, .null, .int 0]))]) (b := P1) (c := [(oX2, .inr (2, [.null, .null, .null, .null, .null, .int 0, .null, .null, .null, .int 0]))]) hD
  refine W.widen (k := 45) (n := 575) (by omega) (by omega) ?_
  refine lv_dup hx hb dX3_init_19 rfl ?_
  have hPc : va_P D vwCl [(oX2, .inr (2, [.null, .null, .null, .null, .null, .int 0, .null, .null, .null, .int 0]))] H := wk_P hP (fun z hz => List.mem_append_left _ (List.mem_cons_of_mem _ hz))
  have hFc := wk_free (wc := [(oX2, .inr (2, [.null, .null, .null, .null, .null, .int 0, .null, .null, .null, .int 0]))]) hD hS hA (fun z hz => List.mem_append_left _ (List.mem_cons_of_mem _ hz))
  refine va_callv (va_runI (As := []) (rest := [.ref oX2, .ref h0]) ⟨hx, hb, hml, hown, hts⟩ (k_X2 l D cA oX2 H.size) (cwI 0 hts gX3_init_X2_init rfl rfl rfl (hts (.initialized RX2) (by decide +kernel)) (hts (.methodLink RX3 18 yX2_init) (by decide +kernel)) (hts (.instanceMethod yX2_init) (by decide +kernel)) rfl (by decide +kernel) ⟨Nat.le_of_ble_eq_true rfl, Nat.le_of_ble_eq_true rfl⟩) ⟨fun a U g mk q => by obtain ⟨q0, q1, qP, qK, qO⟩ := q; exact ⟨q0, q1, qP, va_K.moved (u := U) (U := U.calling g mk a) (Vm.Alike.refl U.vm) qK, va_AOA.moved (u := U) (U := U.calling g mk a) (Vm.Alike.refl U.vm) qO⟩, fun U hU hW => ⟨rfl, by rw [hU], by rw [hU]; exact hPc, va_K.moved hW.alike hK, va_AOA.moved hW.alike hO⟩⟩ rfl rfl hl.1 rfl (lv_room (Nat.le_of_ble_eq_true rfl)) dX3_init_20 ⟨Nat.le_of_ble_eq_true rfl, Nat.le_of_ble_eq_true rfl⟩) hS (fun q _ h => hFc q h) hFc (fun uX2 t H1 locs ht hvm hwX2 hB hz1 hk1 hS => ?_)
  obtain ⟨hP1, hD1⟩ := hB
  rw [ht] at hP1
  obtain ⟨hP, hD⟩ := va_joinQ (X := [(h0, .inr (3, [.ref oX0, .null, .null, .int 0, .null, .null, .int 0])), (oX2, .inr (2, [.null, .null, .null, .null, .null, .int 0, .null, .null, .null, .int 0]))]) (cx := [(oX2, .inr (2, [.null, .null, .null, .null, .null, .int 0, .null, .null, .null, .int 0]))]) (wr := [(h0, .inr (3, [.ref oX0, .null, .null, .int 0, .null, .null, .int 0]))]) (w1 := wk_X2 cA oX2 uX2) (pl := P1) hP hD [1] [0] rfl rfl (by decide) (by decide) hk1 hFc hP1 hD1
  generalize H1 = H at hP hS ⊢
  have hP : va_P D vwCl ((h0, .inr (3, [.ref oX0, .null, .null, .int 0, .null, .null, .int 0])) :: (wk_X2 cA oX2 uX2 ++ P1)) H := hP
  have hD : va_D A ((h0, .inr (3, [.ref oX0, .null, .null, .int 0, .null, .null, .int 0])) :: (wk_X2 cA oX2 uX2 ++ P1)) := hD
  obtain ⟨P2, hPe2⟩ : ∃ z : va_W, z = (wk_X2 cA oX2 uX2 ++ P1) := ⟨_, rfl⟩
  rw [← hPe2] at hP hD
  refine W.widen (k := 59) (n := 4321) (by omega) (by omega) ?_
  refine va_putF (D := D) (ci := 3) (v := .ref oX2) (ty := (.object "ComponentContainer$Ledger")) (C := RX3) (T := TX3) (N := 7) hx hb hts hiw tyX3 tyX3_ok nmX3 hown hK hP hD hS 0 rfl rfl 1 (by decide) (hts (.fieldLink RX3 19 "ComponentContainer" "ledger" "LComponentContainer$Ledger;") (by decide +kernel)) (fun _ h9 => h9) rfl hin rfl (by decide +kernel) rfl rfl (Nat.le_of_ble_eq_true rfl) dX3_init_23 (fun H locs hP hD hS => ?_)
  have hP : va_P D vwCl ((h0, .inr (3, [.ref oX0, .ref oX2, .null, .int 0, .null, .null, .int 0])) :: P2) H := hP
  have hD : va_D A ((h0, .inr (3, [.ref oX0, .ref oX2, .null, .int 0, .null, .null, .int 0])) :: P2) := hD
  refine lv_aload_n hx hb dX3_init_26 rfl (lv_at hl 0 rfl) ?_
  refine va_new (ci := 1) (fs := [.int 0, .int 0, .null, .int 0]) (C := RX1) (T := TX1) (N := 4) hx hb hts (by decide +kernel) tyX1 tyX1_ok hown (hts (.classLink RX3 23 RX1) (by decide +kernel)) (hts (.instantiable RX1 4) (by decide +kernel)) (hts (.initialized RX1) (by decide +kernel)) hK hP hD hS hA rfl (fun j hj => by rcases (show j = 0 ∨ j = 1 ∨ j = 2 ∨ j = 3 by omega) with rfl | rfl | rfl | rfl <;> rfl) (Nat.le_of_ble_eq_true rfl) (Nat.le_of_ble_eq_true rfl) dX3_init_27 (fun oX1 H hP hD hS => ?_)
  have hP : va_P D vwCl ([(h0, .inr (3, [.ref oX0, .ref oX2, .null, .int 0, .null, .null, .int 0])), (oX1, .inr (1, [.int 0, .int 0, .null, .int 0]))] ++ P2) H := va_P.swap (a := [(h0, .inr (3, [.ref oX0, .ref oX2, .null, .int 0, .null, .null, .int 0]))]) (b := P2) (c := [(oX1, .inr (1, [.int 0, .int 0, .null, .int 0]))]) hP
  have hD : va_D A ([(h0, .inr (3, [.ref oX0, .ref oX2, .null, .int 0, .null, .null, .int 0])), (oX1, .inr (1, [.int 0, .int 0, .null, .int 0]))] ++ P2) := va_D.swap (a := [(h0, .inr (3, [.ref oX0, .ref oX2, .null, .int 0, .null, .null, .int 0]))]) (b := P2) (c := [(oX1, .inr (1, [.int 0, .int 0, .null, .int 0]))]) hD
  refine W.widen (k := 60) (n := 4325) (by omega) (by omega) ?_
  refine lv_dup hx hb dX3_init_30 rfl ?_
  have hPc : va_P D vwCl [(oX1, .inr (1, [.int 0, .int 0, .null, .int 0]))] H := wk_P hP (fun z hz => List.mem_append_left _ (List.mem_cons_of_mem _ hz))
  have hFc := wk_free (wc := [(oX1, .inr (1, [.int 0, .int 0, .null, .int 0]))]) hD hS hA (fun z hz => List.mem_append_left _ (List.mem_cons_of_mem _ hz))
  refine va_callv (va_runIN (As := []) (rest := [.ref oX1, .ref h0]) ⟨hx, hb, hml, hown, hts⟩ (k_X1 l D cA oX1 H.size) ⟨va_cnB 0 hts gX3_init_X1_init_n25 rfl rfl rfl hN1 (hts (.initialized RX1) (by decide +kernel)) (by decide +kernel) ⟨Nat.le_of_ble_eq_true rfl, Nat.le_of_ble_eq_true rfl⟩, rfl, hts (.instanceMethod yX1_init) (by decide +kernel)⟩ ⟨fun a U g mk q => by obtain ⟨q0, q1, qP, qK, qO⟩ := q; exact ⟨q0, q1, qP, va_K.moved (u := U) (U := U.calling g mk a) (Vm.Alike.refl U.vm) qK, va_AOA.moved (u := U) (U := U.calling g mk a) (Vm.Alike.refl U.vm) qO⟩, fun U hU hW => ⟨rfl, by rw [hU], by rw [hU]; exact hPc, va_K.moved hW.alike hK, va_AOA.moved hW.alike hO⟩⟩ rfl rfl hl.1 rfl (lv_room (Nat.le_of_ble_eq_true rfl)) dX3_init_31 ⟨Nat.le_of_ble_eq_true rfl, Nat.le_of_ble_eq_true rfl⟩) hS (fun q _ h => hFc q h) hFc (fun uX1 t H1 locs ht hvm hwX1 hB hz1 hk1 hS => ?_)
  obtain ⟨hP1, hD1⟩ := hB
  rw [ht] at hP1
  obtain ⟨hP, hD⟩ := va_joinQ (X := [(h0, .inr (3, [.ref oX0, .ref oX2, .null, .int 0, .null, .null, .int 0])), (oX1, .inr (1, [.int 0, .int 0, .null, .int 0]))]) (cx := [(oX1, .inr (1, [.int 0, .int 0, .null, .int 0]))]) (wr := [(h0, .inr (3, [.ref oX0, .ref oX2, .null, .int 0, .null, .null, .int 0]))]) (w1 := wk_X1 cA oX1 uX1) (pl := P2) hP hD [1] [0] rfl rfl (by decide) (by decide) hk1 hFc hP1 hD1
  generalize H1 = H at hP hS ⊢
  have hP : va_P D vwCl ((h0, .inr (3, [.ref oX0, .ref oX2, .null, .int 0, .null, .null, .int 0])) :: (wk_X1 cA oX1 uX1 ++ P2)) H := hP
  have hD : va_D A ((h0, .inr (3, [.ref oX0, .ref oX2, .null, .int 0, .null, .null, .int 0])) :: (wk_X1 cA oX1 uX1 ++ P2)) := hD
  obtain ⟨P3, hPe3⟩ : ∃ z : va_W, z = (wk_X1 cA oX1 uX1 ++ P2) := ⟨_, rfl⟩
  rw [← hPe3] at hP hD
  refine W.widen (k := 61) (n := 4345) (by omega) (by omega) ?_
  refine va_putF (D := D) (ci := 3) (v := .ref oX1) (ty := (.object "ComponentContainer$Failure")) (C := RX3) (T := TX3) (N := 7) hx hb hts hiw tyX3 tyX3_ok nmX3 hown hK hP hD hS 0 rfl rfl 2 (by decide) (hts (.fieldLink RX3 26 "ComponentContainer" "failure" "LComponentContainer$Failure;") (by decide +kernel)) (fun _ h9 => h9) rfl hin rfl (by decide +kernel) rfl rfl (Nat.le_of_ble_eq_true rfl) dX3_init_34 (fun H locs hP hD hS => ?_)
  have hP : va_P D vwCl ((h0, .inr (3, [.ref oX0, .ref oX2, .ref oX1, .int 0, .null, .null, .int 0])) :: P3) H := hP
  have hD : va_D A ((h0, .inr (3, [.ref oX0, .ref oX2, .ref oX1, .int 0, .null, .null, .int 0])) :: P3) := hD
  refine lv_aload_n hx hb dX3_init_37 rfl (lv_at hl 0 rfl) ?_
  refine lv_iconst (v := 0) hx hb dX3_init_38 (by decide) ?_
  refine va_put (D := D) (ci := 3) (v := .int 0) (ty := .int) (C := RX3) (T := TX3) (N := 7) hx hb hts hiw tyX3 tyX3_ok nmX3 hown hK hP hD hS 0 rfl rfl 3 (by decide) (hts (.fieldLink RX3 30 "ComponentContainer" "openScopes" "I") (by decide +kernel)) (fun _ h9 => h9) rfl (by decide +kernel) rfl rfl (Nat.le_of_ble_eq_true rfl) dX3_init_39 (fun H locs hP hD hS => ?_)
  have hP : va_P D vwCl ((h0, .inr (3, [.ref oX0, .ref oX2, .ref oX1, .int 0, .null, .null, .int 0])) :: P3) H := hP
  have hD : va_D A ((h0, .inr (3, [.ref oX0, .ref oX2, .ref oX1, .int 0, .null, .null, .int 0])) :: P3) := hD
  refine lv_aload_n hx hb dX3_init_42 rfl (lv_at hl 0 rfl) ?_
  refine lv_bipush (v := 20) hx hb dX3_init_43 (by decide) ?_
  refine wk_newa (atype := .int) (a0 := (20, .inl (fun _ => 0))) (N' := 20) hx hb (hts (.arrayClass .int) (by decide +kernel)) (ty := .int) rfl (fun C h => by cases h) hK (k := 0) rfl hP hD hS hA (fun _ => rfl) (by decide) (by decide) (Nat.le_of_ble_eq_true rfl) (Nat.le_of_ble_eq_true rfl) (Nat.le_of_ble_eq_true rfl) dX3_init_45 (fun q1 H hP hD hS => ?_)
  have hP : va_P D vwCl ((h0, .inr (3, [.ref oX0, .ref oX2, .ref oX1, .int 0, .null, .null, .int 0])) :: (P3 ++ [(q1, .inl (cA 0, 20, .inl (fun _ => 0)))])) H := hP
  have hD : va_D A ((h0, .inr (3, [.ref oX0, .ref oX2, .ref oX1, .int 0, .null, .null, .int 0])) :: (P3 ++ [(q1, .inl (cA 0, 20, .inl (fun _ => 0)))])) := hD
  obtain ⟨P4, hPe4⟩ : ∃ z : va_W, z = (P3 ++ [(q1, .inl (cA 0, 20, .inl (fun _ => 0)))]) := ⟨_, rfl⟩
  rw [← hPe4] at hP hD
  refine W.widen (k := 62) (n := 4365) (by omega) (by omega) ?_
  refine va_putF (D := D) (ci := 3) (v := .ref q1) (ty := (.array .int)) (C := RX3) (T := TX3) (N := 7) hx hb hts hiw tyX3 tyX3_ok nmX3 hown hK hP hD hS 0 rfl rfl 4 (by decide) (hts (.fieldLink RX3 34 "ComponentContainer" "chain" "[I") (by decide +kernel)) (fun _ h9 => h9) rfl hin rfl (by decide +kernel) rfl rfl (Nat.le_of_ble_eq_true rfl) dX3_init_47 (fun H locs hP hD hS => ?_)
  have hP : va_P D vwCl ((h0, .inr (3, [.ref oX0, .ref oX2, .ref oX1, .int 0, .ref q1, .null, .int 0])) :: P4) H := hP
  have hD : va_D A ((h0, .inr (3, [.ref oX0, .ref oX2, .ref oX1, .int 0, .ref q1, .null, .int 0])) :: P4) := hD
  refine lv_aload_n hx hb dX3_init_50 rfl (lv_at hl 0 rfl) ?_
  refine lv_bipush (v := 20) hx hb dX3_init_51 (by decide) ?_
  refine lv_bipush (v := 6) hx hb dX3_init_53 (by decide) ?_
  refine wk_mna (N' := 20) (K' := 6) hx hb hown (hts (.classLink RX3 38 "[[I") (by decide +kernel)) hO (hts (.arrayClass .int) (by decide +kernel)) hK (k1 := 0) (k2 := 3) rfl rfl hP hD hS hA (by decide) (by decide) (by decide) (by decide) (Nat.le_of_ble_eq_true rfl) (Nat.le_of_ble_eq_true rfl) (Nat.le_of_ble_eq_true rfl) (Nat.le_of_ble_eq_true rfl) (Nat.le_of_ble_eq_true rfl) dX3_init_55 (fun q2 r2 H hP hD hS => ?_)
  have hP : va_P D vwCl ((h0, .inr (3, [.ref oX0, .ref oX2, .ref oX1, .int 0, .ref q1, .null, .int 0])) :: ((P4 ++ [wk_outer (cA 3) q2 r2 20]) ++ wk_rows (cA 0) r2 (fun _ _ => 0) 20 6)) H := hP
  have hD : va_D A ((h0, .inr (3, [.ref oX0, .ref oX2, .ref oX1, .int 0, .ref q1, .null, .int 0])) :: ((P4 ++ [wk_outer (cA 3) q2 r2 20]) ++ wk_rows (cA 0) r2 (fun _ _ => 0) 20 6)) := hD
  obtain ⟨P5, hPe5⟩ : ∃ z : va_W, z = ((P4 ++ [wk_outer (cA 3) q2 r2 20]) ++ wk_rows (cA 0) r2 (fun _ _ => 0) 20 6) := ⟨_, rfl⟩
  rw [← hPe5] at hP hD
  refine W.widen (k := 83) (n := 4505) (by omega) (by omega) ?_
  refine va_putF (D := D) (ci := 3) (v := .ref q2) (ty := (.array (.array .int))) (C := RX3) (T := TX3) (N := 7) hx hb hts hiw tyX3 tyX3_ok nmX3 hown hK hP hD hS 0 rfl rfl 5 (by decide) (hts (.fieldLink RX3 40 "ComponentContainer" "injecting" "[[I") (by decide +kernel)) (fun _ h9 => h9) rfl hin rfl (by decide +kernel) rfl rfl (Nat.le_of_ble_eq_true rfl) dX3_init_59 (fun H locs hP hD hS => ?_)
  have hP : va_P D vwCl ((h0, .inr (3, [.ref oX0, .ref oX2, .ref oX1, .int 0, .ref q1, .ref q2, .int 0])) :: P5) H := hP
  have hD : va_D A ((h0, .inr (3, [.ref oX0, .ref oX2, .ref oX1, .int 0, .ref q1, .ref q2, .int 0])) :: P5) := hD
  refine lv_aload_n hx hb dX3_init_62 rfl (lv_at hl 0 rfl) ?_
  refine lv_iconst (v := 0) hx hb dX3_init_63 (by decide) ?_
  refine va_put (D := D) (ci := 3) (v := .int 0) (ty := .int) (C := RX3) (T := TX3) (N := 7) hx hb hts hiw tyX3 tyX3_ok nmX3 hown hK hP hD hS 0 rfl rfl 6 (by decide) (hts (.fieldLink RX3 43 "ComponentContainer" "soundComponents" "I") (by decide +kernel)) (fun _ h9 => h9) rfl (by decide +kernel) rfl rfl (Nat.le_of_ble_eq_true rfl) dX3_init_64 (fun H locs hP hD hS => ?_)
  have hP : va_P D vwCl ((h0, .inr (3, [.ref oX0, .ref oX2, .ref oX1, .int 0, .ref q1, .ref q2, .int 0])) :: P5) H := hP
  have hD : va_D A ((h0, .inr (3, [.ref oX0, .ref oX2, .ref oX1, .int 0, .ref q1, .ref q2, .int 0])) :: P5) := hD
  subst hPe5
  subst hPe4
  subst hPe3
  subst hPe2
  subst hPe1
  subst hPe0
  have hB : va_P D vwCl (wk_X3 cA h0 ⟨oX0, uX0, oX2, uX2, oX1, uX1, q1, q2, r2⟩) H ∧ va_D A (wk_X3 cA h0 ⟨oX0, uX0, oX2, uX2, oX1, uX1, q1, q2, r2⟩) := ⟨hP, hD⟩
  exact W.vret hx hb hr (fun t ht hW => ⟨⟨⟨oX0, uX0, oX2, uX2, oX1, uX1, q1, q2, r2⟩, rfl, hwX2, by subst ht; exact hB⟩, hS.F ht⟩) hS.2.2 dX3_init_67
