def wk_X0 (cA : Nat → ClassId) (h0 : Nat) (u : Nat × (Nat → Nat) × Nat × (Nat → Nat) × Nat) : va_W := ((h0, .inr (0, [.ref u.1, .ref u.2.2.1, .ref u.2.2.2.2, .int 0, .int 0])) :: ((((([] ++ [wk_outer (cA 3) u.1 u.2.1 20]) ++ wk_rows (cA 0) u.2.1 (fun _ _ => 0) 20 7) ++ [wk_outer (cA 3) u.2.2.1 u.2.2.2.1 20]) ++ wk_rows (cA 0) u.2.2.2.1 (fun _ _ => 0) 20 18) ++ [(u.2.2.2.2, .inl (cA 0, 20, .inl (fun _ => 0)))]))
set_option maxHeartbeats 4000000 in
set_option maxRecDepth 100000 in
theorem k_X0 (l : Launch) (D : va_G) (cA : Nat → ClassId) (h0 sz : Nat) : Met l yX0_init wsX0_init ({ frames := 1, cells := 43, slots := 560, locals := 12 }) (va_Pc [.ref h0] (fun U => U.heap.size = sz ∧ va_P D vwCl [(h0, .inr (0, [.null, .null, .null, .int 0, .int 0]))] U.heap ∧ va_K D vwCl (mv_tys cA) U ∧ va_AOA .int U)) (va_Qv (fun _ : Nat × (Nat → Nat) × Nat × (Nat → Nat) × Nat => True) (fun u t => va_P D vwCl (wk_X0 cA h0 u) t.heap ∧ va_D (va_A [(h0, .inr (0, [.null, .null, .null, .int 0, .int 0]))] sz) (wk_X0 cA h0 u)) (va_A [(h0, .inr (0, [.null, .null, .null, .int 0, .int 0]))] sz)) 43 560 (va_A [(h0, .inr (0, [.null, .null, .null, .int 0, .int 0]))] sz) := by
  refine Met.ofW (cc := cX0_init) (maxL := 1) (ret := none) (by decide) rfl ?_
  intro p e s m args below meth c s₁ B hml hv
  obtain ⟨rfl, hsz, hP, hK, hO⟩ := hv
  have hx := B.exec
  have hb := B.bytes
  have hr := B.returns
  have hts := atoms_spec (ws := wsX0_init) B.pre
  have hown : s.vm.findClass RX0 = some m.cls := findClass_of_methodNamed B.named
  have hlocks := B.notSynchronized
  have hin : meth.name = "<init>" := (name_of_methodNamed B.named B.method).1
  subst hsz
  have hD : va_D (va_A [(h0, .inr (0, [.null, .null, .null, .int 0, .int 0]))] s.heap.size) [(h0, .inr (0, [.null, .null, .null, .int 0, .int 0]))] := wk_D1 (Or.inl ⟨0, _, rfl⟩)
  generalize hAe : va_A [(h0, .inr (0, [.null, .null, .null, .int 0, .int 0]))] s.heap.size = A at hD ⊢
  have hA : ∀ q : Nat, s.heap.size ≤ q → A q := fun q h => by rw [← hAe]; exact Or.inr h
  have hS : va_S A s.heap s.heap [] := va_S.rf
  have hl := lv_entry ([.ref h0]) (n := 1) (Nat.le_of_ble_eq_true rfl)
  rw [lg_entry_eq]
  generalize (lg_sl ([.ref h0]) ++ List.replicate (1 - (lg_sl ([.ref h0])).length) Slot.unset).toArray = ls at hl ⊢
  have hl : lv_has ls 1 [(0, .ref h0)] := hl
  have hiw : ∀ w ∈ u_ws RX0 TX0 5, w ∈ wsX0_init := by decide +kernel
  obtain ⟨P0, hPe0⟩ : ∃ z : va_W, z = [] := ⟨_, rfl⟩
  rw [← hPe0] at hP hD
  refine lv_aload_n hx hb dX0_init_0 rfl (lv_at hl 0 rfl) ?_
  refine W.objInit hx hb hown (hts (.methodLink RX0 3 objectInit) (by decide +kernel)) (hts (.instanceMethod objectInit) (by decide +kernel)) (hts (.code objectInit ⟨#[0xb1]⟩ 1 none) (by decide +kernel)) rfl (by rw [hml]; exact hl.1) rfl dX0_init_1 (Nat.le_of_ble_eq_true rfl) (Nat.le_of_ble_eq_true rfl) ?_
  refine W.eq (g2 := F0 m 4 ls []) rfl ?_
  refine lv_aload_n hx hb dX0_init_4 rfl (lv_at hl 0 rfl) ?_
  refine lv_bipush (v := 20) hx hb dX0_init_5 (by decide) ?_
  refine lv_bipush (v := 7) hx hb dX0_init_7 (by decide) ?_
  refine wk_mna (N' := 20) (K' := 7) hx hb hown (hts (.classLink RX0 9 "[[I") (by decide +kernel)) hO (hts (.arrayClass .int) (by decide +kernel)) hK (k1 := 0) (k2 := 3) rfl rfl hP hD hS hA (by decide) (by decide) (by decide) (by decide) (Nat.le_of_ble_eq_true rfl) (Nat.le_of_ble_eq_true rfl) (Nat.le_of_ble_eq_true rfl) (Nat.le_of_ble_eq_true rfl) (Nat.le_of_ble_eq_true rfl) dX0_init_9 (fun q1 r1 H hP hD hS => ?_)
  have hP : va_P D vwCl ((h0, .inr (0, [.null, .null, .null, .int 0, .int 0])) :: ((P0 ++ [wk_outer (cA 3) q1 r1 20]) ++ wk_rows (cA 0) r1 (fun _ _ => 0) 20 7)) H := hP
  have hD : va_D A ((h0, .inr (0, [.null, .null, .null, .int 0, .int 0])) :: ((P0 ++ [wk_outer (cA 3) q1 r1 20]) ++ wk_rows (cA 0) r1 (fun _ _ => 0) 20 7)) := hD
  obtain ⟨P1, hPe1⟩ : ∃ z : va_W, z = ((P0 ++ [wk_outer (cA 3) q1 r1 20]) ++ wk_rows (cA 0) r1 (fun _ _ => 0) 20 7) := ⟨_, rfl⟩
  rw [← hPe1] at hP hD
  refine W.widen (k := 21) (n := 160) (by omega) (by omega) ?_
  refine va_putF (D := D) (ci := 0) (v := .ref q1) (ty := (.array (.array .int))) (C := RX0) (T := TX0) (N := 5) hx hb hts hiw tyX0 tyX0_ok nmX0 hown hK hP hD hS 0 rfl rfl 0 (by decide) (hts (.fieldLink RX0 11 "ComponentContainer$Descriptions" "properties" "[[I") (by decide +kernel)) (fun _ h9 => h9) rfl hin rfl (by decide +kernel) rfl rfl (Nat.le_of_ble_eq_true rfl) dX0_init_13 (fun H locs hP hD hS => ?_)
  have hP : va_P D vwCl ((h0, .inr (0, [.ref q1, .null, .null, .int 0, .int 0])) :: P1) H := hP
  have hD : va_D A ((h0, .inr (0, [.ref q1, .null, .null, .int 0, .int 0])) :: P1) := hD
  refine lv_aload_n hx hb dX0_init_16 rfl (lv_at hl 0 rfl) ?_
  refine lv_bipush (v := 20) hx hb dX0_init_17 (by decide) ?_
  refine lv_bipush (v := 18) hx hb dX0_init_19 (by decide) ?_
  refine wk_mna (N' := 20) (K' := 18) hx hb hown (hts (.classLink RX0 9 "[[I") (by decide +kernel)) hO (hts (.arrayClass .int) (by decide +kernel)) hK (k1 := 0) (k2 := 3) rfl rfl hP hD hS hA (by decide) (by decide) (by decide) (by decide) (Nat.le_of_ble_eq_true rfl) (Nat.le_of_ble_eq_true rfl) (Nat.le_of_ble_eq_true rfl) (Nat.le_of_ble_eq_true rfl) (Nat.le_of_ble_eq_true rfl) dX0_init_21 (fun q2 r2 H hP hD hS => ?_)
  have hP : va_P D vwCl ((h0, .inr (0, [.ref q1, .null, .null, .int 0, .int 0])) :: ((P1 ++ [wk_outer (cA 3) q2 r2 20]) ++ wk_rows (cA 0) r2 (fun _ _ => 0) 20 18)) H := hP
  have hD : va_D A ((h0, .inr (0, [.ref q1, .null, .null, .int 0, .int 0])) :: ((P1 ++ [wk_outer (cA 3) q2 r2 20]) ++ wk_rows (cA 0) r2 (fun _ _ => 0) 20 18)) := hD
  obtain ⟨P2, hPe2⟩ : ∃ z : va_W, z = ((P1 ++ [wk_outer (cA 3) q2 r2 20]) ++ wk_rows (cA 0) r2 (fun _ _ => 0) 20 18) := ⟨_, rfl⟩
  rw [← hPe2] at hP hD
  refine W.widen (k := 42) (n := 540) (by omega) (by omega) ?_
  refine va_putF (D := D) (ci := 0) (v := .ref q2) (ty := (.array (.array .int))) (C := RX0) (T := TX0) (N := 5) hx hb hts hiw tyX0 tyX0_ok nmX0 hown hK hP hD hS 0 rfl rfl 1 (by decide) (hts (.fieldLink RX0 16 "ComponentContainer$Descriptions" "dependencies" "[[I") (by decide +kernel)) (fun _ h9 => h9) rfl hin rfl (by decide +kernel) rfl rfl (Nat.le_of_ble_eq_true rfl) dX0_init_25 (fun H locs hP hD hS => ?_)
  have hP : va_P D vwCl ((h0, .inr (0, [.ref q1, .ref q2, .null, .int 0, .int 0])) :: P2) H := hP
  have hD : va_D A ((h0, .inr (0, [.ref q1, .ref q2, .null, .int 0, .int 0])) :: P2) := hD
  refine lv_aload_n hx hb dX0_init_28 rfl (lv_at hl 0 rfl) ?_
  refine lv_bipush (v := 20) hx hb dX0_init_29 (by decide) ?_
  refine wk_newa (atype := .int) (a0 := (20, .inl (fun _ => 0))) (N' := 20) hx hb (hts (.arrayClass .int) (by decide +kernel)) (ty := .int) rfl (fun C h => by cases h) hK (k := 0) rfl hP hD hS hA (fun _ => rfl) (by decide) (by decide) (Nat.le_of_ble_eq_true rfl) (Nat.le_of_ble_eq_true rfl) (Nat.le_of_ble_eq_true rfl) dX0_init_31 (fun q3 H hP hD hS => ?_)
  have hP : va_P D vwCl ((h0, .inr (0, [.ref q1, .ref q2, .null, .int 0, .int 0])) :: (P2 ++ [(q3, .inl (cA 0, 20, .inl (fun _ => 0)))])) H := hP
  have hD : va_D A ((h0, .inr (0, [.ref q1, .ref q2, .null, .int 0, .int 0])) :: (P2 ++ [(q3, .inl (cA 0, 20, .inl (fun _ => 0)))])) := hD
  obtain ⟨P3, hPe3⟩ : ∃ z : va_W, z = (P2 ++ [(q3, .inl (cA 0, 20, .inl (fun _ => 0)))]) := ⟨_, rfl⟩
  rw [← hPe3] at hP hD
  refine W.widen (k := 43) (n := 560) (by omega) (by omega) ?_
  refine va_putF (D := D) (ci := 0) (v := .ref q3) (ty := (.array .int)) (C := RX0) (T := TX0) (N := 5) hx hb hts hiw tyX0 tyX0_ok nmX0 hown hK hP hD hS 0 rfl rfl 2 (by decide) (hts (.fieldLink RX0 19 "ComponentContainer$Descriptions" "dependencyCounts" "[I") (by decide +kernel)) (fun _ h9 => h9) rfl hin rfl (by decide +kernel) rfl rfl (Nat.le_of_ble_eq_true rfl) dX0_init_33 (fun H locs hP hD hS => ?_)
  have hP : va_P D vwCl ((h0, .inr (0, [.ref q1, .ref q2, .ref q3, .int 0, .int 0])) :: P3) H := hP
  have hD : va_D A ((h0, .inr (0, [.ref q1, .ref q2, .ref q3, .int 0, .int 0])) :: P3) := hD
  refine lv_aload_n hx hb dX0_init_36 rfl (lv_at hl 0 rfl) ?_
  refine lv_iconst (v := 0) hx hb dX0_init_37 (by decide) ?_
  refine va_put (D := D) (ci := 0) (v := .int 0) (ty := .int) (C := RX0) (T := TX0) (N := 5) hx hb hts hiw tyX0 tyX0_ok nmX0 hown hK hP hD hS 0 rfl rfl 3 (by decide) (hts (.fieldLink RX0 23 "ComponentContainer$Descriptions" "count" "I") (by decide +kernel)) (fun _ h9 => h9) rfl (by decide +kernel) rfl rfl (Nat.le_of_ble_eq_true rfl) dX0_init_38 (fun H locs hP hD hS => ?_)
  have hP : va_P D vwCl ((h0, .inr (0, [.ref q1, .ref q2, .ref q3, .int 0, .int 0])) :: P3) H := hP
  have hD : va_D A ((h0, .inr (0, [.ref q1, .ref q2, .ref q3, .int 0, .int 0])) :: P3) := hD
  refine lv_aload_n hx hb dX0_init_41 rfl (lv_at hl 0 rfl) ?_
  refine lv_iconst (v := 0) hx hb dX0_init_42 (by decide) ?_
  refine va_put (D := D) (ci := 0) (v := .int 0) (ty := .int) (C := RX0) (T := TX0) (N := 5) hx hb hts hiw tyX0 tyX0_ok nmX0 hown hK hP hD hS 0 rfl rfl 4 (by decide) (hts (.fieldLink RX0 27 "ComponentContainer$Descriptions" "profilesOn" "I") (by decide +kernel)) (fun _ h9 => h9) rfl (by decide +kernel) rfl rfl (Nat.le_of_ble_eq_true rfl) dX0_init_43 (fun H locs hP hD hS => ?_)
  have hP : va_P D vwCl ((h0, .inr (0, [.ref q1, .ref q2, .ref q3, .int 0, .int 0])) :: P3) H := hP
  have hD : va_D A ((h0, .inr (0, [.ref q1, .ref q2, .ref q3, .int 0, .int 0])) :: P3) := hD
  subst hPe3
  subst hPe2
  subst hPe1
  subst hPe0
  have hB : va_P D vwCl (wk_X0 cA h0 ⟨q1, r1, q2, r2, q3⟩) H ∧ va_D A (wk_X0 cA h0 ⟨q1, r1, q2, r2, q3⟩) := ⟨hP, hD⟩
  exact W.vret hx hb hr (fun t ht hW => ⟨⟨⟨q1, r1, q2, r2, q3⟩, rfl, trivial, by subst ht; exact hB⟩, hS.F ht⟩) hS.2.2 dX0_init_46
