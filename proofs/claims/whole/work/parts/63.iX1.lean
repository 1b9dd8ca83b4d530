def wk_X1 (cA : Nat → ClassId) (h0 : Nat) (u : Nat) : va_W := ((h0, .inr (1, [.int 0, .int (-1), .ref u, .int 0])) :: ([] ++ [(u, .inl (cA 0, 20, .inl (fun _ => 0)))]))
set_option maxHeartbeats 4000000 in
set_option maxRecDepth 100000 in
theorem k_X1 (l : Launch) (D : va_G) (cA : Nat → ClassId) (h0 sz : Nat) : Met l yX1_init wsX1_init ({ frames := 1, cells := 1, slots := 20, locals := 12 }) (va_Pc [.ref h0] (fun U => U.heap.size = sz ∧ va_P D vwCl [(h0, .inr (1, [.int 0, .int 0, .null, .int 0]))] U.heap ∧ va_K D vwCl (mv_tys cA) U ∧ va_AOA .int U)) (va_Qv (fun _ : Nat => True) (fun u t => va_P D vwCl (wk_X1 cA h0 u) t.heap ∧ va_D (va_A [(h0, .inr (1, [.int 0, .int 0, .null, .int 0]))] sz) (wk_X1 cA h0 u)) (va_A [(h0, .inr (1, [.int 0, .int 0, .null, .int 0]))] sz)) 1 20 (va_A [(h0, .inr (1, [.int 0, .int 0, .null, .int 0]))] sz) := by
  refine Met.ofW (cc := cX1_init) (maxL := 1) (ret := none) (by decide) rfl ?_
  intro p e s m args below meth c s₁ B hml hv
  obtain ⟨rfl, hsz, hP, hK, hO⟩ := hv
  have hx := B.exec
  have hb := B.bytes
  have hr := B.returns
  have hts := atoms_spec (ws := wsX1_init) B.pre
  have hown : s.vm.findClass RX1 = some m.cls := findClass_of_methodNamed B.named
  have hlocks := B.notSynchronized
  have hin : meth.name = "<init>" := (name_of_methodNamed B.named B.method).1
  subst hsz
  have hD : va_D (va_A [(h0, .inr (1, [.int 0, .int 0, .null, .int 0]))] s.heap.size) [(h0, .inr (1, [.int 0, .int 0, .null, .int 0]))] := wk_D1 (Or.inl ⟨0, _, rfl⟩)
  generalize hAe : va_A [(h0, .inr (1, [.int 0, .int 0, .null, .int 0]))] s.heap.size = A at hD ⊢
  have hA : ∀ q : Nat, s.heap.size ≤ q → A q := fun q h => by rw [← hAe]; exact Or.inr h
  have hS : va_S A s.heap s.heap [] := va_S.rf
  have hl := lv_entry ([.ref h0]) (n := 1) (Nat.le_of_ble_eq_true rfl)
  rw [lg_entry_eq]
  generalize (lg_sl ([.ref h0]) ++ List.replicate (1 - (lg_sl ([.ref h0])).length) Slot.unset).toArray = ls at hl ⊢
  have hl : lv_has ls 1 [(0, .ref h0)] := hl
  have hiw : ∀ w ∈ u_ws RX1 TX1 4, w ∈ wsX1_init := by decide +kernel
  obtain ⟨P0, hPe0⟩ : ∃ z : va_W, z = [] := ⟨_, rfl⟩
  rw [← hPe0] at hP hD
  refine lv_aload_n hx hb dX1_init_0 rfl (lv_at hl 0 rfl) ?_
  refine W.objInit hx hb hown (hts (.methodLink RX1 3 objectInit) (by decide +kernel)) (hts (.instanceMethod objectInit) (by decide +kernel)) (hts (.code objectInit ⟨#[0xb1]⟩ 1 none) (by decide +kernel)) rfl (by rw [hml]; exact hl.1) rfl dX1_init_1 (Nat.le_of_ble_eq_true rfl) (Nat.le_of_ble_eq_true rfl) ?_
  refine W.eq (g2 := F0 m 4 ls []) rfl ?_
  refine lv_aload_n hx hb dX1_init_4 rfl (lv_at hl 0 rfl) ?_
  refine lv_iconst (v := 0) hx hb dX1_init_5 (by decide) ?_
  refine va_put (D := D) (ci := 1) (v := .int 0) (ty := .int) (C := RX1) (T := TX1) (N := 4) hx hb hts hiw tyX1 tyX1_ok nmX1 hown hK hP hD hS 0 rfl rfl 0 (by decide) (hts (.fieldLink RX1 9 "ComponentContainer$Failure" "kind" "I") (by decide +kernel)) (fun _ h9 => h9) rfl (by decide +kernel) rfl rfl (Nat.le_of_ble_eq_true rfl) dX1_init_6 (fun H locs hP hD hS => ?_)
  have hP : va_P D vwCl ((h0, .inr (1, [.int 0, .int 0, .null, .int 0])) :: P0) H := hP
  have hD : va_D A ((h0, .inr (1, [.int 0, .int 0, .null, .int 0])) :: P0) := hD
  refine lv_aload_n hx hb dX1_init_9 rfl (lv_at hl 0 rfl) ?_
  refine lv_iconst (v := (-1)) hx hb dX1_init_10 (by decide) ?_
  refine va_put (D := D) (ci := 1) (v := .int (-1)) (ty := .int) (C := RX1) (T := TX1) (N := 4) hx hb hts hiw tyX1 tyX1_ok nmX1 hown hK hP hD hS 0 rfl rfl 1 (by decide) (hts (.fieldLink RX1 15 "ComponentContainer$Failure" "detail" "I") (by decide +kernel)) (fun _ h9 => h9) rfl (by decide +kernel) rfl rfl (Nat.le_of_ble_eq_true rfl) dX1_init_11 (fun H locs hP hD hS => ?_)
  have hP : va_P D vwCl ((h0, .inr (1, [.int 0, .int (-1), .null, .int 0])) :: P0) H := hP
  have hD : va_D A ((h0, .inr (1, [.int 0, .int (-1), .null, .int 0])) :: P0) := hD
  refine lv_aload_n hx hb dX1_init_14 rfl (lv_at hl 0 rfl) ?_
  refine lv_bipush (v := 20) hx hb dX1_init_15 (by decide) ?_
  refine wk_newa (atype := .int) (a0 := (20, .inl (fun _ => 0))) (N' := 20) hx hb (hts (.arrayClass .int) (by decide +kernel)) (ty := .int) rfl (fun C h => by cases h) hK (k := 0) rfl hP hD hS hA (fun _ => rfl) (by decide) (by decide) (Nat.le_of_ble_eq_true rfl) (Nat.le_of_ble_eq_true rfl) (Nat.le_of_ble_eq_true rfl) dX1_init_17 (fun q1 H hP hD hS => ?_)
  have hP : va_P D vwCl ((h0, .inr (1, [.int 0, .int (-1), .null, .int 0])) :: (P0 ++ [(q1, .inl (cA 0, 20, .inl (fun _ => 0)))])) H := hP
  have hD : va_D A ((h0, .inr (1, [.int 0, .int (-1), .null, .int 0])) :: (P0 ++ [(q1, .inl (cA 0, 20, .inl (fun _ => 0)))])) := hD
  obtain ⟨P1, hPe1⟩ : ∃ z : va_W, z = (P0 ++ [(q1, .inl (cA 0, 20, .inl (fun _ => 0)))]) := ⟨_, rfl⟩
  rw [← hPe1] at hP hD
  refine W.widen (k := 1) (n := 20) (by omega) (by omega) ?_
  refine va_putF (D := D) (ci := 1) (v := .ref q1) (ty := (.array .int)) (C := RX1) (T := TX1) (N := 4) hx hb hts hiw tyX1 tyX1_ok nmX1 hown hK hP hD hS 0 rfl rfl 2 (by decide) (hts (.fieldLink RX1 18 "ComponentContainer$Failure" "chain" "[I") (by decide +kernel)) (fun _ h9 => h9) rfl hin rfl (by decide +kernel) rfl rfl (Nat.le_of_ble_eq_true rfl) dX1_init_19 (fun H locs hP hD hS => ?_)
  have hP : va_P D vwCl ((h0, .inr (1, [.int 0, .int (-1), .ref q1, .int 0])) :: P1) H := hP
  have hD : va_D A ((h0, .inr (1, [.int 0, .int (-1), .ref q1, .int 0])) :: P1) := hD
  refine lv_aload_n hx hb dX1_init_22 rfl (lv_at hl 0 rfl) ?_
  refine lv_iconst (v := 0) hx hb dX1_init_23 (by decide) ?_
  refine va_put (D := D) (ci := 1) (v := .int 0) (ty := .int) (C := RX1) (T := TX1) (N := 4) hx hb hts hiw tyX1 tyX1_ok nmX1 hown hK hP hD hS 0 rfl rfl 3 (by decide) (hts (.fieldLink RX1 22 "ComponentContainer$Failure" "chainLength" "I") (by decide +kernel)) (fun _ h9 => h9) rfl (by decide +kernel) rfl rfl (Nat.le_of_ble_eq_true rfl) dX1_init_24 (fun H locs hP hD hS => ?_)
  have hP : va_P D vwCl ((h0, .inr (1, [.int 0, .int (-1), .ref q1, .int 0])) :: P1) H := hP
  have hD : va_D A ((h0, .inr (1, [.int 0, .int (-1), .ref q1, .int 0])) :: P1) := hD
  subst hPe1
  subst hPe0
  have hB : va_P D vwCl (wk_X1 cA h0 q1) H ∧ va_D A (wk_X1 cA h0 q1) := ⟨hP, hD⟩
  exact W.vret hx hb hr (fun t ht hW => ⟨⟨q1, rfl, trivial, by subst ht; exact hB⟩, hS.F ht⟩) hS.2.2 dX1_init_27
