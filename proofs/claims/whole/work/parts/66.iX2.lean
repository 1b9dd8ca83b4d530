/-! THE LEDGER'S CONSTRUCTOR -/
def wk_X2 (cA : Nat → ClassId) (h0 : Nat) (u : Nat × Nat × Nat × Nat × Nat × Nat × (Nat → Nat) × Nat × Nat × (Nat → Nat → Int32)) : va_W := ((h0, .inr (2, [.ref u.1, .ref u.2.1, .ref u.2.2.1, .ref u.2.2.2.1, .ref u.2.2.2.2.1, .int 0, .ref u.2.2.2.2.2.1, .ref u.2.2.2.2.2.2.2.1, .ref u.2.2.2.2.2.2.2.2.1, .int 0])) :: (u.1, .inl (cA 0, 300, .inl (fun _ => 0))) :: (u.2.1, .inl (cA 0, 300, .inl (fun _ => 0))) :: (u.2.2.1, .inl (cA 1, 300, .inl (fun _ => 0))) :: (u.2.2.2.1, .inl (cA 0, 1800, .inl (fun _ => 0))) :: (u.2.2.2.2.1, .inl (cA 0, 300, .inl (fun _ => 0))) :: wk_outer (cA 3) u.2.2.2.2.2.1 u.2.2.2.2.2.2.1 6 :: (u.2.2.2.2.2.2.1 0, .inl (cA 0, 20, .inl (u.2.2.2.2.2.2.2.2.2 0))) :: (u.2.2.2.2.2.2.1 1, .inl (cA 0, 20, .inl (u.2.2.2.2.2.2.2.2.2 1))) :: (u.2.2.2.2.2.2.1 2, .inl (cA 0, 20, .inl (u.2.2.2.2.2.2.2.2.2 2))) :: (u.2.2.2.2.2.2.1 3, .inl (cA 0, 20, .inl (u.2.2.2.2.2.2.2.2.2 3))) :: (u.2.2.2.2.2.2.1 4, .inl (cA 0, 20, .inl (u.2.2.2.2.2.2.2.2.2 4))) :: (u.2.2.2.2.2.2.1 5, .inl (cA 0, 20, .inl (u.2.2.2.2.2.2.2.2.2 5))) :: (u.2.2.2.2.2.2.2.1, .inl (cA 0, 20, .inl (fun _ => 0))) :: (u.2.2.2.2.2.2.2.2.1, .inl (cA 0, 600, .inl (fun _ => 0))) :: [])
set_option maxHeartbeats 4000000 in
set_option maxRecDepth 100000 in
theorem k_X2 (l : Launch) (D : va_G) (cA : Nat → ClassId) (h0 sz : Nat) : Met l yX2_init wsX2_init ({ frames := 2, cells := 14, slots := 3746, locals := 32 }) (va_Pc [.ref h0] (fun U => U.heap.size = sz ∧ va_P D vwCl [(h0, .inr (2, [.null, .null, .null, .null, .null, .int 0, .null, .null, .null, .int 0]))] U.heap ∧ va_K D vwCl (mv_tys cA) U ∧ va_AOA .int U)) (va_Qv (fun u : Nat × Nat × Nat × Nat × Nat × Nat × (Nat → Nat) × Nat × Nat × (Nat → Nat → Int32) => ∀ i j, i < 6 → j < 20 → u.2.2.2.2.2.2.2.2.2 i j = -1) (fun u t => va_P D vwCl (wk_X2 cA h0 u) t.heap ∧ va_D (va_A [(h0, .inr (2, [.null, .null, .null, .null, .null, .int 0, .null, .null, .null, .int 0]))] sz) (wk_X2 cA h0 u)) (va_A [(h0, .inr (2, [.null, .null, .null, .null, .null, .int 0, .null, .null, .null, .int 0]))] sz)) 14 3746 (va_A [(h0, .inr (2, [.null, .null, .null, .null, .null, .int 0, .null, .null, .null, .int 0]))] sz) := by
  refine Met.ofW (cc := cX2_init) (maxL := 5) (ret := none) (by decide) rfl ?_
  intro p e s m args below meth c s₁ B hml hv
  obtain ⟨rfl, hsz, hP, hK, hO⟩ := hv
  have hx := B.exec
  have hb := B.bytes
  have hr := B.returns
  have hts := atoms_spec (ws := wsX2_init) B.pre
  have hown : s.vm.findClass RX2 = some m.cls := findClass_of_methodNamed B.named
  have hlocks := B.notSynchronized
  have hin : meth.name = "<init>" := (name_of_methodNamed B.named B.method).1
  subst hsz
  have hD : va_D (va_A [(h0, .inr (2, [.null, .null, .null, .null, .null, .int 0, .null, .null, .null, .int 0]))] s.heap.size) [(h0, .inr (2, [.null, .null, .null, .null, .null, .int 0, .null, .null, .null, .int 0]))] := wk_D1 (Or.inl ⟨0, _, rfl⟩)
  generalize hAe : va_A [(h0, .inr (2, [.null, .null, .null, .null, .null, .int 0, .null, .null, .null, .int 0]))] s.heap.size = A at hD ⊢
  have hA : ∀ q : Nat, s.heap.size ≤ q → A q := fun q h => by rw [← hAe]; exact Or.inr h
  have hS : va_S A s.heap s.heap [] := va_S.rf
  have hl := lv_entry ([.ref h0]) (n := 5) (Nat.le_of_ble_eq_true rfl)
  rw [lg_entry_eq]
  generalize (lg_sl ([.ref h0]) ++ List.replicate (5 - (lg_sl ([.ref h0])).length) Slot.unset).toArray = ls at hl ⊢
  have hl : lv_has ls 5 [(0, .ref h0)] := hl
  have hiw : ∀ w ∈ u_ws RX2 TX2 10, w ∈ wsX2_init := by decide +kernel
  have hkc : 14 + 0 ≤ 14 := by omega
  have hks : 3746 + 0 ≤ 3746 := by omega
  obtain ⟨P0, hPe0⟩ : ∃ z : va_W, z = [] := ⟨_, rfl⟩
  rw [← hPe0] at hP hD
  refine lv_aload_n hx hb dX2_init_0 rfl (lv_at hl 0 rfl) ?_
  refine W.objInit hx hb hown (hts (.methodLink RX2 3 objectInit) (by decide +kernel)) (hts (.instanceMethod objectInit) (by decide +kernel)) (hts (.code objectInit ⟨#[0xb1]⟩ 1 none) (by decide +kernel)) rfl (by rw [hml]; exact hl.1) rfl dX2_init_1 (Nat.le_of_ble_eq_true rfl) (Nat.le_of_ble_eq_true rfl) ?_
  refine W.eq (g2 := F0 m 4 ls []) rfl ?_
  refine lv_aload_n hx hb dX2_init_4 rfl (lv_at hl 0 rfl) ?_
  refine lv_sipush (v := 300) hx hb dX2_init_5 (by decide) ?_
  refine wk_newa (atype := .int) (a0 := (300, .inl (fun _ => 0))) (N' := 300) hx hb (hts (.arrayClass .int) (by decide +kernel)) (ty := .int) rfl (fun C h => by cases h) hK (k := 0) rfl hP hD hS hA (fun _ => rfl) (by decide) (by decide) (Nat.le_of_ble_eq_true rfl) (Nat.le_of_ble_eq_true rfl) (Nat.le_of_ble_eq_true rfl) dX2_init_8 (fun q1 H hP hD hS => ?_)
  have hP : va_P D vwCl ((h0, .inr (2, [.null, .null, .null, .null, .null, .int 0, .null, .null, .null, .int 0])) :: (P0 ++ [(q1, .inl (cA 0, 300, .inl (fun _ => 0)))])) H := hP
  have hD : va_D A ((h0, .inr (2, [.null, .null, .null, .null, .null, .int 0, .null, .null, .null, .int 0])) :: (P0 ++ [(q1, .inl (cA 0, 300, .inl (fun _ => 0)))])) := hD
  obtain ⟨P1, hPe1⟩ : ∃ z : va_W, z = (P0 ++ [(q1, .inl (cA 0, 300, .inl (fun _ => 0)))]) := ⟨_, rfl⟩
  rw [← hPe1] at hP hD
  refine W.widen (k := 1) (n := 300) (by omega) (by omega) ?_
  refine va_putF (D := D) (ci := 2) (v := .ref q1) (ty := (.array .int)) (C := RX2) (T := TX2) (N := 10) hx hb hts hiw tyX2 tyX2_ok nmX2 hown hK hP hD hS 0 rfl rfl 0 (by decide) (hts (.fieldLink RX2 9 "ComponentContainer$Ledger" "components" "[I") (by decide +kernel)) (fun _ h9 => h9) rfl hin rfl (by decide +kernel) rfl rfl (Nat.le_of_ble_eq_true rfl) dX2_init_10 (fun H locs hP hD hS => ?_)
  have hP : va_P D vwCl ((h0, .inr (2, [.ref q1, .null, .null, .null, .null, .int 0, .null, .null, .null, .int 0])) :: P1) H := hP
  have hD : va_D A ((h0, .inr (2, [.ref q1, .null, .null, .null, .null, .int 0, .null, .null, .null, .int 0])) :: P1) := hD
  refine lv_aload_n hx hb dX2_init_13 rfl (lv_at hl 0 rfl) ?_
  refine lv_sipush (v := 300) hx hb dX2_init_14 (by decide) ?_
  refine wk_newa (atype := .int) (a0 := (300, .inl (fun _ => 0))) (N' := 300) hx hb (hts (.arrayClass .int) (by decide +kernel)) (ty := .int) rfl (fun C h => by cases h) hK (k := 0) rfl hP hD hS hA (fun _ => rfl) (by decide) (by decide) (Nat.le_of_ble_eq_true rfl) (Nat.le_of_ble_eq_true rfl) (Nat.le_of_ble_eq_true rfl) dX2_init_17 (fun q2 H hP hD hS => ?_)
  have hP : va_P D vwCl ((h0, .inr (2, [.ref q1, .null, .null, .null, .null, .int 0, .null, .null, .null, .int 0])) :: (P1 ++ [(q2, .inl (cA 0, 300, .inl (fun _ => 0)))])) H := hP
  have hD : va_D A ((h0, .inr (2, [.ref q1, .null, .null, .null, .null, .int 0, .null, .null, .null, .int 0])) :: (P1 ++ [(q2, .inl (cA 0, 300, .inl (fun _ => 0)))])) := hD
  obtain ⟨P2, hPe2⟩ : ∃ z : va_W, z = (P1 ++ [(q2, .inl (cA 0, 300, .inl (fun _ => 0)))]) := ⟨_, rfl⟩
  rw [← hPe2] at hP hD
  refine W.widen (k := 2) (n := 600) (by omega) (by omega) ?_
  refine va_putF (D := D) (ci := 2) (v := .ref q2) (ty := (.array .int)) (C := RX2) (T := TX2) (N := 10) hx hb hts hiw tyX2 tyX2_ok nmX2 hown hK hP hD hS 0 rfl rfl 1 (by decide) (hts (.fieldLink RX2 15 "ComponentContainer$Ledger" "places" "[I") (by decide +kernel)) (fun _ h9 => h9) rfl hin rfl (by decide +kernel) rfl rfl (Nat.le_of_ble_eq_true rfl) dX2_init_19 (fun H locs hP hD hS => ?_)
  have hP : va_P D vwCl ((h0, .inr (2, [.ref q1, .ref q2, .null, .null, .null, .int 0, .null, .null, .null, .int 0])) :: P2) H := hP
  have hD : va_D A ((h0, .inr (2, [.ref q1, .ref q2, .null, .null, .null, .int 0, .null, .null, .null, .int 0])) :: P2) := hD
  refine lv_aload_n hx hb dX2_init_22 rfl (lv_at hl 0 rfl) ?_
  refine lv_sipush (v := 300) hx hb dX2_init_23 (by decide) ?_
  refine wk_newa (atype := .boolean) (a0 := (300, .inl (fun _ => 0))) (N' := 300) hx hb (hts (.arrayClass .boolean) (by decide +kernel)) (ty := .boolean) rfl (fun C h => by cases h) hK (k := 1) rfl hP hD hS hA (fun _ => rfl) (by decide) (by decide) (Nat.le_of_ble_eq_true rfl) (Nat.le_of_ble_eq_true rfl) (Nat.le_of_ble_eq_true rfl) dX2_init_26 (fun q3 H hP hD hS => ?_)
  have hP : va_P D vwCl ((h0, .inr (2, [.ref q1, .ref q2, .null, .null, .null, .int 0, .null, .null, .null, .int 0])) :: (P2 ++ [(q3, .inl (cA 1, 300, .inl (fun _ => 0)))])) H := hP
  have hD : va_D A ((h0, .inr (2, [.ref q1, .ref q2, .null, .null, .null, .int 0, .null, .null, .null, .int 0])) :: (P2 ++ [(q3, .inl (cA 1, 300, .inl (fun _ => 0)))])) := hD
  obtain ⟨P3, hPe3⟩ : ∃ z : va_W, z = (P2 ++ [(q3, .inl (cA 1, 300, .inl (fun _ => 0)))]) := ⟨_, rfl⟩
  rw [← hPe3] at hP hD
  refine W.widen (k := 3) (n := 900) (by omega) (by omega) ?_
  refine va_putF (D := D) (ci := 2) (v := .ref q3) (ty := (.array .boolean)) (C := RX2) (T := TX2) (N := 10) hx hb hts hiw tyX2 tyX2_ok nmX2 hown hK hP hD hS 0 rfl rfl 2 (by decide) (hts (.fieldLink RX2 18 "ComponentContainer$Ledger" "living" "[Z") (by decide +kernel)) (fun _ h9 => h9) rfl hin rfl (by decide +kernel) rfl rfl (Nat.le_of_ble_eq_true rfl) dX2_init_28 (fun H locs hP hD hS => ?_)
  have hP : va_P D vwCl ((h0, .inr (2, [.ref q1, .ref q2, .ref q3, .null, .null, .int 0, .null, .null, .null, .int 0])) :: P3) H := hP
  have hD : va_D A ((h0, .inr (2, [.ref q1, .ref q2, .ref q3, .null, .null, .int 0, .null, .null, .null, .int 0])) :: P3) := hD
  refine lv_aload_n hx hb dX2_init_31 rfl (lv_at hl 0 rfl) ?_
  refine lv_sipush (v := 1800) hx hb dX2_init_32 (by decide) ?_
  refine wk_newa (atype := .int) (a0 := (1800, .inl (fun _ => 0))) (N' := 1800) hx hb (hts (.arrayClass .int) (by decide +kernel)) (ty := .int) rfl (fun C h => by cases h) hK (k := 0) rfl hP hD hS hA (fun _ => rfl) (by decide) (by decide) (Nat.le_of_ble_eq_true rfl) (Nat.le_of_ble_eq_true rfl) (Nat.le_of_ble_eq_true rfl) dX2_init_35 (fun q4 H hP hD hS => ?_)
  have hP : va_P D vwCl ((h0, .inr (2, [.ref q1, .ref q2, .ref q3, .null, .null, .int 0, .null, .null, .null, .int 0])) :: (P3 ++ [(q4, .inl (cA 0, 1800, .inl (fun _ => 0)))])) H := hP
  have hD : va_D A ((h0, .inr (2, [.ref q1, .ref q2, .ref q3, .null, .null, .int 0, .null, .null, .null, .int 0])) :: (P3 ++ [(q4, .inl (cA 0, 1800, .inl (fun _ => 0)))])) := hD
  obtain ⟨P4, hPe4⟩ : ∃ z : va_W, z = (P3 ++ [(q4, .inl (cA 0, 1800, .inl (fun _ => 0)))]) := ⟨_, rfl⟩
  rw [← hPe4] at hP hD
  refine W.widen (k := 4) (n := 2700) (by omega) (by omega) ?_
  refine va_putF (D := D) (ci := 2) (v := .ref q4) (ty := (.array .int)) (C := RX2) (T := TX2) (N := 10) hx hb hts hiw tyX2 tyX2_ok nmX2 hown hK hP hD hS 0 rfl rfl 3 (by decide) (hts (.fieldLink RX2 22 "ComponentContainer$Ledger" "injections" "[I") (by decide +kernel)) (fun _ h9 => h9) rfl hin rfl (by decide +kernel) rfl rfl (Nat.le_of_ble_eq_true rfl) dX2_init_37 (fun H locs hP hD hS => ?_)
  have hP : va_P D vwCl ((h0, .inr (2, [.ref q1, .ref q2, .ref q3, .ref q4, .null, .int 0, .null, .null, .null, .int 0])) :: P4) H := hP
  have hD : va_D A ((h0, .inr (2, [.ref q1, .ref q2, .ref q3, .ref q4, .null, .int 0, .null, .null, .null, .int 0])) :: P4) := hD
  refine lv_aload_n hx hb dX2_init_40 rfl (lv_at hl 0 rfl) ?_
  refine lv_sipush (v := 300) hx hb dX2_init_41 (by decide) ?_
  refine wk_newa (atype := .int) (a0 := (300, .inl (fun _ => 0))) (N' := 300) hx hb (hts (.arrayClass .int) (by decide +kernel)) (ty := .int) rfl (fun C h => by cases h) hK (k := 0) rfl hP hD hS hA (fun _ => rfl) (by decide) (by decide) (Nat.le_of_ble_eq_true rfl) (Nat.le_of_ble_eq_true rfl) (Nat.le_of_ble_eq_true rfl) dX2_init_44 (fun q5 H hP hD hS => ?_)
  have hP : va_P D vwCl ((h0, .inr (2, [.ref q1, .ref q2, .ref q3, .ref q4, .null, .int 0, .null, .null, .null, .int 0])) :: (P4 ++ [(q5, .inl (cA 0, 300, .inl (fun _ => 0)))])) H := hP
  have hD : va_D A ((h0, .inr (2, [.ref q1, .ref q2, .ref q3, .ref q4, .null, .int 0, .null, .null, .null, .int 0])) :: (P4 ++ [(q5, .inl (cA 0, 300, .inl (fun _ => 0)))])) := hD
  obtain ⟨P5, hPe5⟩ : ∃ z : va_W, z = (P4 ++ [(q5, .inl (cA 0, 300, .inl (fun _ => 0)))]) := ⟨_, rfl⟩
  rw [← hPe5] at hP hD
  refine W.widen (k := 5) (n := 3000) (by omega) (by omega) ?_
  refine va_putF (D := D) (ci := 2) (v := .ref q5) (ty := (.array .int)) (C := RX2) (T := TX2) (N := 10) hx hb hts hiw tyX2 tyX2_ok nmX2 hown hK hP hD hS 0 rfl rfl 4 (by decide) (hts (.fieldLink RX2 25 "ComponentContainer$Ledger" "injectionCounts" "[I") (by decide +kernel)) (fun _ h9 => h9) rfl hin rfl (by decide +kernel) rfl rfl (Nat.le_of_ble_eq_true rfl) dX2_init_46 (fun H locs hP hD hS => ?_)
  have hP : va_P D vwCl ((h0, .inr (2, [.ref q1, .ref q2, .ref q3, .ref q4, .ref q5, .int 0, .null, .null, .null, .int 0])) :: P5) H := hP
  have hD : va_D A ((h0, .inr (2, [.ref q1, .ref q2, .ref q3, .ref q4, .ref q5, .int 0, .null, .null, .null, .int 0])) :: P5) := hD
  refine lv_aload_n hx hb dX2_init_49 rfl (lv_at hl 0 rfl) ?_
  refine lv_iconst (v := 0) hx hb dX2_init_50 (by decide) ?_
  refine va_put (D := D) (ci := 2) (v := .int 0) (ty := .int) (C := RX2) (T := TX2) (N := 10) hx hb hts hiw tyX2 tyX2_ok nmX2 hown hK hP hD hS 0 rfl rfl 5 (by decide) (hts (.fieldLink RX2 28 "ComponentContainer$Ledger" "count" "I") (by decide +kernel)) (fun _ h9 => h9) rfl (by decide +kernel) rfl rfl (Nat.le_of_ble_eq_true rfl) dX2_init_51 (fun H locs hP hD hS => ?_)
  have hP : va_P D vwCl ((h0, .inr (2, [.ref q1, .ref q2, .ref q3, .ref q4, .ref q5, .int 0, .null, .null, .null, .int 0])) :: P5) H := hP
  have hD : va_D A ((h0, .inr (2, [.ref q1, .ref q2, .ref q3, .ref q4, .ref q5, .int 0, .null, .null, .null, .int 0])) :: P5) := hD
  refine lv_aload_n hx hb dX2_init_54 rfl (lv_at hl 0 rfl) ?_
  refine lv_bipush (v := 6) hx hb dX2_init_55 (by decide) ?_
  refine lv_bipush (v := 20) hx hb dX2_init_57 (by decide) ?_
  refine wk_mna (N' := 6) (K' := 20) hx hb hown (hts (.classLink RX2 32 "[[I") (by decide +kernel)) hO (hts (.arrayClass .int) (by decide +kernel)) hK (k1 := 0) (k2 := 3) rfl rfl hP hD hS hA (by decide) (by decide) (by decide) (by decide) (Nat.le_of_ble_eq_true rfl) (Nat.le_of_ble_eq_true rfl) (Nat.le_of_ble_eq_true rfl) (Nat.le_of_ble_eq_true rfl) (Nat.le_of_ble_eq_true rfl) dX2_init_59 (fun q6 r6 H hP hD hS => ?_)
  have hP : va_P D vwCl ((h0, .inr (2, [.ref q1, .ref q2, .ref q3, .ref q4, .ref q5, .int 0, .null, .null, .null, .int 0])) :: ((P5 ++ [wk_outer (cA 3) q6 r6 6]) ++ wk_rows (cA 0) r6 (fun _ _ => 0) 6 20)) H := hP
  have hD : va_D A ((h0, .inr (2, [.ref q1, .ref q2, .ref q3, .ref q4, .ref q5, .int 0, .null, .null, .null, .int 0])) :: ((P5 ++ [wk_outer (cA 3) q6 r6 6]) ++ wk_rows (cA 0) r6 (fun _ _ => 0) 6 20)) := hD
  obtain ⟨P6, hPe6⟩ : ∃ z : va_W, z = ((P5 ++ [wk_outer (cA 3) q6 r6 6]) ++ wk_rows (cA 0) r6 (fun _ _ => 0) 6 20) := ⟨_, rfl⟩
  rw [← hPe6] at hP hD
  refine W.widen (k := 12) (n := 3126) (by omega) (by omega) ?_
  refine va_putF (D := D) (ci := 2) (v := .ref q6) (ty := (.array (.array .int))) (C := RX2) (T := TX2) (N := 10) hx hb hts hiw tyX2 tyX2_ok nmX2 hown hK hP hD hS 0 rfl rfl 6 (by decide) (hts (.fieldLink RX2 34 "ComponentContainer$Ledger" "kept" "[[I") (by decide +kernel)) (fun _ h9 => h9) rfl hin rfl (by decide +kernel) rfl rfl (Nat.le_of_ble_eq_true rfl) dX2_init_63 (fun H locs hP hD hS => ?_)
  have hP : va_P D vwCl ((h0, .inr (2, [.ref q1, .ref q2, .ref q3, .ref q4, .ref q5, .int 0, .ref q6, .null, .null, .int 0])) :: P6) H := hP
  have hD : va_D A ((h0, .inr (2, [.ref q1, .ref q2, .ref q3, .ref q4, .ref q5, .int 0, .ref q6, .null, .null, .int 0])) :: P6) := hD
  refine lv_aload_n hx hb dX2_init_66 rfl (lv_at hl 0 rfl) ?_
  refine lv_bipush (v := 20) hx hb dX2_init_67 (by decide) ?_
  refine wk_newa (atype := .int) (a0 := (20, .inl (fun _ => 0))) (N' := 20) hx hb (hts (.arrayClass .int) (by decide +kernel)) (ty := .int) rfl (fun C h => by cases h) hK (k := 0) rfl hP hD hS hA (fun _ => rfl) (by decide) (by decide) (Nat.le_of_ble_eq_true rfl) (Nat.le_of_ble_eq_true rfl) (Nat.le_of_ble_eq_true rfl) dX2_init_69 (fun q7 H hP hD hS => ?_)
  have hP : va_P D vwCl ((h0, .inr (2, [.ref q1, .ref q2, .ref q3, .ref q4, .ref q5, .int 0, .ref q6, .null, .null, .int 0])) :: (P6 ++ [(q7, .inl (cA 0, 20, .inl (fun _ => 0)))])) H := hP
  have hD : va_D A ((h0, .inr (2, [.ref q1, .ref q2, .ref q3, .ref q4, .ref q5, .int 0, .ref q6, .null, .null, .int 0])) :: (P6 ++ [(q7, .inl (cA 0, 20, .inl (fun _ => 0)))])) := hD
  obtain ⟨P7, hPe7⟩ : ∃ z : va_W, z = (P6 ++ [(q7, .inl (cA 0, 20, .inl (fun _ => 0)))]) := ⟨_, rfl⟩
  rw [← hPe7] at hP hD
  refine W.widen (k := 13) (n := 3146) (by omega) (by omega) ?_
  refine va_putF (D := D) (ci := 2) (v := .ref q7) (ty := (.array .int)) (C := RX2) (T := TX2) (N := 10) hx hb hts hiw tyX2 tyX2_ok nmX2 hown hK hP hD hS 0 rfl rfl 7 (by decide) (hts (.fieldLink RX2 37 "ComponentContainer$Ledger" "completedOf" "[I") (by decide +kernel)) (fun _ h9 => h9) rfl hin rfl (by decide +kernel) rfl rfl (Nat.le_of_ble_eq_true rfl) dX2_init_71 (fun H locs hP hD hS => ?_)
  have hP : va_P D vwCl ((h0, .inr (2, [.ref q1, .ref q2, .ref q3, .ref q4, .ref q5, .int 0, .ref q6, .ref q7, .null, .int 0])) :: P7) H := hP
  have hD : va_D A ((h0, .inr (2, [.ref q1, .ref q2, .ref q3, .ref q4, .ref q5, .int 0, .ref q6, .ref q7, .null, .int 0])) :: P7) := hD
  refine lv_aload_n hx hb dX2_init_74 rfl (lv_at hl 0 rfl) ?_
  refine lv_sipush (v := 600) hx hb dX2_init_75 (by decide) ?_
  refine wk_newa (atype := .int) (a0 := (600, .inl (fun _ => 0))) (N' := 600) hx hb (hts (.arrayClass .int) (by decide +kernel)) (ty := .int) rfl (fun C h => by cases h) hK (k := 0) rfl hP hD hS hA (fun _ => rfl) (by decide) (by decide) (Nat.le_of_ble_eq_true rfl) (Nat.le_of_ble_eq_true rfl) (Nat.le_of_ble_eq_true rfl) dX2_init_78 (fun q8 H hP hD hS => ?_)
  have hP : va_P D vwCl ((h0, .inr (2, [.ref q1, .ref q2, .ref q3, .ref q4, .ref q5, .int 0, .ref q6, .ref q7, .null, .int 0])) :: (P7 ++ [(q8, .inl (cA 0, 600, .inl (fun _ => 0)))])) H := hP
  have hD : va_D A ((h0, .inr (2, [.ref q1, .ref q2, .ref q3, .ref q4, .ref q5, .int 0, .ref q6, .ref q7, .null, .int 0])) :: (P7 ++ [(q8, .inl (cA 0, 600, .inl (fun _ => 0)))])) := hD
  obtain ⟨P8, hPe8⟩ : ∃ z : va_W, z = (P7 ++ [(q8, .inl (cA 0, 600, .inl (fun _ => 0)))]) := ⟨_, rfl⟩
  rw [← hPe8] at hP hD
  refine W.widen (k := 14) (n := 3746) (by omega) (by omega) ?_
  refine va_putF (D := D) (ci := 2) (v := .ref q8) (ty := (.array .int)) (C := RX2) (T := TX2) (N := 10) hx hb hts hiw tyX2 tyX2_ok nmX2 hown hK hP hD hS 0 rfl rfl 8 (by decide) (hts (.fieldLink RX2 40 "ComponentContainer$Ledger" "events" "[I") (by decide +kernel)) (fun _ h9 => h9) rfl hin rfl (by decide +kernel) rfl rfl (Nat.le_of_ble_eq_true rfl) dX2_init_80 (fun H locs hP hD hS => ?_)
  have hP : va_P D vwCl ((h0, .inr (2, [.ref q1, .ref q2, .ref q3, .ref q4, .ref q5, .int 0, .ref q6, .ref q7, .ref q8, .int 0])) :: P8) H := hP
  have hD : va_D A ((h0, .inr (2, [.ref q1, .ref q2, .ref q3, .ref q4, .ref q5, .int 0, .ref q6, .ref q7, .ref q8, .int 0])) :: P8) := hD
  refine lv_aload_n hx hb dX2_init_83 rfl (lv_at hl 0 rfl) ?_
  refine lv_iconst (v := 0) hx hb dX2_init_84 (by decide) ?_
  refine va_put (D := D) (ci := 2) (v := .int 0) (ty := .int) (C := RX2) (T := TX2) (N := 10) hx hb hts hiw tyX2 tyX2_ok nmX2 hown hK hP hD hS 0 rfl rfl 9 (by decide) (hts (.fieldLink RX2 43 "ComponentContainer$Ledger" "eventCount" "I") (by decide +kernel)) (fun _ h9 => h9) rfl (by decide +kernel) rfl rfl (Nat.le_of_ble_eq_true rfl) dX2_init_85 (fun H locs hP hD hS => ?_)
  have hP : va_P D vwCl ((h0, .inr (2, [.ref q1, .ref q2, .ref q3, .ref q4, .ref q5, .int 0, .ref q6, .ref q7, .ref q8, .int 0])) :: P8) H := hP
  have hD : va_D A ((h0, .inr (2, [.ref q1, .ref q2, .ref q3, .ref q4, .ref q5, .int 0, .ref q6, .ref q7, .ref q8, .int 0])) :: P8) := hD
  subst hPe8
  subst hPe7
  subst hPe6
  subst hPe5
  subst hPe4
  subst hPe3
  subst hPe2
  subst hPe1
  subst hPe0
  have hP : va_P D vwCl ((h0, .inr (2, [.ref q1, .ref q2, .ref q3, .ref q4, .ref q5, .int 0, .ref q6, .ref q7, .ref q8, .int 0])) :: (q1, .inl (cA 0, 300, .inl (fun _ => 0))) :: (q2, .inl (cA 0, 300, .inl (fun _ => 0))) :: (q3, .inl (cA 1, 300, .inl (fun _ => 0))) :: (q4, .inl (cA 0, 1800, .inl (fun _ => 0))) :: (q5, .inl (cA 0, 300, .inl (fun _ => 0))) :: wk_outer (cA 3) q6 r6 6 :: (r6 0, .inl (cA 0, 20, .inl (fun _ => 0))) :: (r6 1, .inl (cA 0, 20, .inl (fun _ => 0))) :: (r6 2, .inl (cA 0, 20, .inl (fun _ => 0))) :: (r6 3, .inl (cA 0, 20, .inl (fun _ => 0))) :: (r6 4, .inl (cA 0, 20, .inl (fun _ => 0))) :: (r6 5, .inl (cA 0, 20, .inl (fun _ => 0))) :: (q7, .inl (cA 0, 20, .inl (fun _ => 0))) :: (q8, .inl (cA 0, 600, .inl (fun _ => 0))) :: []) H := hP
  have hD : va_D A ((h0, .inr (2, [.ref q1, .ref q2, .ref q3, .ref q4, .ref q5, .int 0, .ref q6, .ref q7, .ref q8, .int 0])) :: (q1, .inl (cA 0, 300, .inl (fun _ => 0))) :: (q2, .inl (cA 0, 300, .inl (fun _ => 0))) :: (q3, .inl (cA 1, 300, .inl (fun _ => 0))) :: (q4, .inl (cA 0, 1800, .inl (fun _ => 0))) :: (q5, .inl (cA 0, 300, .inl (fun _ => 0))) :: wk_outer (cA 3) q6 r6 6 :: (r6 0, .inl (cA 0, 20, .inl (fun _ => 0))) :: (r6 1, .inl (cA 0, 20, .inl (fun _ => 0))) :: (r6 2, .inl (cA 0, 20, .inl (fun _ => 0))) :: (r6 3, .inl (cA 0, 20, .inl (fun _ => 0))) :: (r6 4, .inl (cA 0, 20, .inl (fun _ => 0))) :: (r6 5, .inl (cA 0, 20, .inl (fun _ => 0))) :: (q7, .inl (cA 0, 20, .inl (fun _ => 0))) :: (q8, .inl (cA 0, 600, .inl (fun _ => 0))) :: []) := hD
  refine lv_aload_n hx hb dX2_init_88 rfl (lv_at hl 0 rfl) ?_
  refine va_get (D := D) (ci := 2) (v := .ref q6) (C := RX2) (T := TX2) (N := 10) hx hb hts hiw hown hK hP 0 rfl rfl 6 (by decide) (hts (.fieldLink RX2 34 "ComponentContainer$Ledger" "kept" "[[I") (by decide +kernel)) (fun _ h9 => h9) rfl dX2_init_89 ?_
  refine lv_astore_n (lv' := [(1, .ref q6), (0, .ref h0)]) hx hb dX2_init_92 rfl hl (by decide) rfl (fun ls hl => ?_)
  refine lv_aload_n hx hb dX2_init_93 rfl (lv_at hl 0 rfl) ?_
  refine va_alen (v := 6) hx hb hK hP 6 3 rfl rfl rfl dX2_init_94 ?_
  refine lv_istore_n (lv' := [(2, .int 6), (1, .ref q6), (0, .ref h0)]) hx hb dX2_init_95 rfl hl (by decide) rfl (fun ls hl => ?_)
  refine lv_iconst (v := 0) hx hb dX2_init_96 (by decide) ?_
  refine lv_istore_n (lv' := [(3, .int 0), (2, .int 6), (1, .ref q6), (0, .ref h0)]) hx hb dX2_init_97 rfl hl (by decide) rfl (fun ls hl => ?_)
  -- row 0
  have hl : lv_has ls 5 [(3, .int 0), (2, .int 6), (1, .ref q6), (0, .ref h0)] := hl
  refine lv_iload_n hx hb dX2_init_98 rfl (lv_at hl 0 rfl) ?_
  refine lv_iload_n hx hb dX2_init_99 rfl (lv_at hl 1 rfl) ?_
  refine lv_icmp_ge (tgt := 120) hx hb dX2_init_100 (by decide) (fun h => absurd h (by decide)) (fun _ => ?_)
  refine lv_aload_n hx hb dX2_init_103 rfl (lv_at hl 2 rfl) ?_
  refine lv_iload_n hx hb dX2_init_104 rfl (lv_at hl 0 rfl) ?_
  refine wk_aald (r := r6 0) hx hb hK hP 6 3 rfl rfl (by unfold vp_in; decide) dX2_init_105 rfl ?_
  refine lv_astore (lv' := [(4, .ref (r6 0)), (3, .int 0), (2, .int 6), (1, .ref q6), (0, .ref h0)]) hx hb dX2_init_106 hl (by decide) rfl (fun ls hl => ?_)
  refine lv_aload hx hb dX2_init_108 (lv_at hl 0 rfl) ?_
  refine lv_iconst (v := -1) hx hb dX2_init_110 (by decide) ?_
  have hPc := hP.sub (ws' := [(r6 0, .inl (cA 0, 20, .inl (fun _ => 0)))]) [7] rfl
  have hFc := va_free (wc := [(r6 0, .inl (cA 0, 20, .inl (fun _ => 0)))]) hD hS hA [7] rfl
  refine va_callv (va_runS (As := [.ref (r6 0), .int (-1)]) (rest := []) ⟨hx, hb, hml, hown, hts⟩ (k_fill l D (cA 0) (r6 0) H.size 20 (fun _ => 0) (-1) (by omega)) (va_cwS 2 hts gX2_init_J7_fill_53178 rfl rfl rfl (by decide +kernel) ⟨Nat.le_of_ble_eq_true rfl, Nat.le_of_ble_eq_true rfl⟩) ⟨fun a U g mk q => by obtain ⟨q0, q1, qP, qK⟩ := q; exact ⟨q0, q1, qP, va_K.moved (u := U) (U := U.calling g mk a) (Vm.Alike.refl U.vm) qK⟩, fun U hU hW => ⟨rfl, by rw [hU], by rw [hU]; exact hPc, va_K.moved hW.alike (hK.sub [0] rfl)⟩⟩ rfl rfl hl.1 rfl (lv_room (Nat.le_of_ble_eq_true rfl)) dX2_init_111 ⟨hkc, hks⟩) hS (fun q _ h => hFc q h) hFc (fun f0 t H1 locs ht hvm hw0 hB hz1 hk1 hS => ?_)
  obtain ⟨hP1, hD1⟩ := hB
  rw [ht] at hP1
  obtain ⟨hP, hD⟩ := va_join (wr := ((h0, .inr (2, [.ref q1, .ref q2, .ref q3, .ref q4, .ref q5, .int 0, .ref q6, .ref q7, .ref q8, .int 0])) :: (q1, .inl (cA 0, 300, .inl (fun _ => 0))) :: (q2, .inl (cA 0, 300, .inl (fun _ => 0))) :: (q3, .inl (cA 1, 300, .inl (fun _ => 0))) :: (q4, .inl (cA 0, 1800, .inl (fun _ => 0))) :: (q5, .inl (cA 0, 300, .inl (fun _ => 0))) :: wk_outer (cA 3) q6 r6 6 :: (r6 1, .inl (cA 0, 20, .inl (fun _ => 0))) :: (r6 2, .inl (cA 0, 20, .inl (fun _ => 0))) :: (r6 3, .inl (cA 0, 20, .inl (fun _ => 0))) :: (r6 4, .inl (cA 0, 20, .inl (fun _ => 0))) :: (r6 5, .inl (cA 0, 20, .inl (fun _ => 0))) :: (q7, .inl (cA 0, 20, .inl (fun _ => 0))) :: (q8, .inl (cA 0, 600, .inl (fun _ => 0))) :: [])) (w1 := [(r6 0, .inl (cA 0, 20, .inl f0))]) hP hD [7] [0, 1, 2, 3, 4, 5, 6, 8, 9, 10, 11, 12, 13, 14] rfl rfl (by decide) (by decide) hk1 hFc hP1 hD1
  have hP := hP.sub (ws' := ((h0, .inr (2, [.ref q1, .ref q2, .ref q3, .ref q4, .ref q5, .int 0, .ref q6, .ref q7, .ref q8, .int 0])) :: (q1, .inl (cA 0, 300, .inl (fun _ => 0))) :: (q2, .inl (cA 0, 300, .inl (fun _ => 0))) :: (q3, .inl (cA 1, 300, .inl (fun _ => 0))) :: (q4, .inl (cA 0, 1800, .inl (fun _ => 0))) :: (q5, .inl (cA 0, 300, .inl (fun _ => 0))) :: wk_outer (cA 3) q6 r6 6 :: (r6 0, .inl (cA 0, 20, .inl f0)) :: (r6 1, .inl (cA 0, 20, .inl (fun _ => 0))) :: (r6 2, .inl (cA 0, 20, .inl (fun _ => 0))) :: (r6 3, .inl (cA 0, 20, .inl (fun _ => 0))) :: (r6 4, .inl (cA 0, 20, .inl (fun _ => 0))) :: (r6 5, .inl (cA 0, 20, .inl (fun _ => 0))) :: (q7, .inl (cA 0, 20, .inl (fun _ => 0))) :: (q8, .inl (cA 0, 600, .inl (fun _ => 0))) :: [])) [0, 1, 2, 3, 4, 5, 6, 14, 7, 8, 9, 10, 11, 12, 13] rfl
  have hD := hD.sub (ws' := ((h0, .inr (2, [.ref q1, .ref q2, .ref q3, .ref q4, .ref q5, .int 0, .ref q6, .ref q7, .ref q8, .int 0])) :: (q1, .inl (cA 0, 300, .inl (fun _ => 0))) :: (q2, .inl (cA 0, 300, .inl (fun _ => 0))) :: (q3, .inl (cA 1, 300, .inl (fun _ => 0))) :: (q4, .inl (cA 0, 1800, .inl (fun _ => 0))) :: (q5, .inl (cA 0, 300, .inl (fun _ => 0))) :: wk_outer (cA 3) q6 r6 6 :: (r6 0, .inl (cA 0, 20, .inl f0)) :: (r6 1, .inl (cA 0, 20, .inl (fun _ => 0))) :: (r6 2, .inl (cA 0, 20, .inl (fun _ => 0))) :: (r6 3, .inl (cA 0, 20, .inl (fun _ => 0))) :: (r6 4, .inl (cA 0, 20, .inl (fun _ => 0))) :: (r6 5, .inl (cA 0, 20, .inl (fun _ => 0))) :: (q7, .inl (cA 0, 20, .inl (fun _ => 0))) :: (q8, .inl (cA 0, 600, .inl (fun _ => 0))) :: [])) [0, 1, 2, 3, 4, 5, 6, 14, 7, 8, 9, 10, 11, 12, 13] (by decide) rfl
  generalize H1 = H at hP hS ⊢
  refine W.widen (k := 14) (n := 3746) (by omega) (by omega) ?_
  refine lv_iinc (v := 1) (lv' := [(3, .int 1), (4, .ref (r6 0)), (2, .int 6), (1, .ref q6), (0, .ref h0)]) hx hb dX2_init_114 hl (k := 1) rfl (by decide) (by decide) rfl (fun ls hl => ?_)
  refine lv_goto (tgt := 98) hx hb dX2_init_117 (by decide) ?_
  -- row 1
  have hl : lv_has ls 5 [(3, .int 1), (2, .int 6), (1, .ref q6), (0, .ref h0)] := lv_sub hl [0, 2, 3, 4] rfl
  refine lv_iload_n hx hb dX2_init_98 rfl (lv_at hl 0 rfl) ?_
  refine lv_iload_n hx hb dX2_init_99 rfl (lv_at hl 1 rfl) ?_
  refine lv_icmp_ge (tgt := 120) hx hb dX2_init_100 (by decide) (fun h => absurd h (by decide)) (fun _ => ?_)
  refine lv_aload_n hx hb dX2_init_103 rfl (lv_at hl 2 rfl) ?_
  refine lv_iload_n hx hb dX2_init_104 rfl (lv_at hl 0 rfl) ?_
  refine wk_aald (r := r6 1) hx hb hK hP 6 3 rfl rfl (by unfold vp_in; decide) dX2_init_105 rfl ?_
  refine lv_astore (lv' := [(4, .ref (r6 1)), (3, .int 1), (2, .int 6), (1, .ref q6), (0, .ref h0)]) hx hb dX2_init_106 hl (by decide) rfl (fun ls hl => ?_)
  refine lv_aload hx hb dX2_init_108 (lv_at hl 0 rfl) ?_
  refine lv_iconst (v := -1) hx hb dX2_init_110 (by decide) ?_
  have hPc := hP.sub (ws' := [(r6 1, .inl (cA 0, 20, .inl (fun _ => 0)))]) [8] rfl
  have hFc := va_free (wc := [(r6 1, .inl (cA 0, 20, .inl (fun _ => 0)))]) hD hS hA [8] rfl
  refine va_callv (va_runS (As := [.ref (r6 1), .int (-1)]) (rest := []) ⟨hx, hb, hml, hown, hts⟩ (k_fill l D (cA 0) (r6 1) H.size 20 (fun _ => 0) (-1) (by omega)) (va_cwS 2 hts gX2_init_J7_fill_53178 rfl rfl rfl (by decide +kernel) ⟨Nat.le_of_ble_eq_true rfl, Nat.le_of_ble_eq_true rfl⟩) ⟨fun a U g mk q => by obtain ⟨q0, q1, qP, qK⟩ := q; exact ⟨q0, q1, qP, va_K.moved (u := U) (U := U.calling g mk a) (Vm.Alike.refl U.vm) qK⟩, fun U hU hW => ⟨rfl, by rw [hU], by rw [hU]; exact hPc, va_K.moved hW.alike (hK.sub [0] rfl)⟩⟩ rfl rfl hl.1 rfl (lv_room (Nat.le_of_ble_eq_true rfl)) dX2_init_111 ⟨hkc, hks⟩) hS (fun q _ h => hFc q h) hFc (fun f1 t H1 locs ht hvm hw1 hB hz1 hk1 hS => ?_)
  obtain ⟨hP1, hD1⟩ := hB
  rw [ht] at hP1
  obtain ⟨hP, hD⟩ := va_join (wr := ((h0, .inr (2, [.ref q1, .ref q2, .ref q3, .ref q4, .ref q5, .int 0, .ref q6, .ref q7, .ref q8, .int 0])) :: (q1, .inl (cA 0, 300, .inl (fun _ => 0))) :: (q2, .inl (cA 0, 300, .inl (fun _ => 0))) :: (q3, .inl (cA 1, 300, .inl (fun _ => 0))) :: (q4, .inl (cA 0, 1800, .inl (fun _ => 0))) :: (q5, .inl (cA 0, 300, .inl (fun _ => 0))) :: wk_outer (cA 3) q6 r6 6 :: (r6 0, .inl (cA 0, 20, .inl f0)) :: (r6 2, .inl (cA 0, 20, .inl (fun _ => 0))) :: (r6 3, .inl (cA 0, 20, .inl (fun _ => 0))) :: (r6 4, .inl (cA 0, 20, .inl (fun _ => 0))) :: (r6 5, .inl (cA 0, 20, .inl (fun _ => 0))) :: (q7, .inl (cA 0, 20, .inl (fun _ => 0))) :: (q8, .inl (cA 0, 600, .inl (fun _ => 0))) :: [])) (w1 := [(r6 1, .inl (cA 0, 20, .inl f1))]) hP hD [8] [0, 1, 2, 3, 4, 5, 6, 7, 9, 10, 11, 12, 13, 14] rfl rfl (by decide) (by decide) hk1 hFc hP1 hD1
  have hP := hP.sub (ws' := ((h0, .inr (2, [.ref q1, .ref q2, .ref q3, .ref q4, .ref q5, .int 0, .ref q6, .ref q7, .ref q8, .int 0])) :: (q1, .inl (cA 0, 300, .inl (fun _ => 0))) :: (q2, .inl (cA 0, 300, .inl (fun _ => 0))) :: (q3, .inl (cA 1, 300, .inl (fun _ => 0))) :: (q4, .inl (cA 0, 1800, .inl (fun _ => 0))) :: (q5, .inl (cA 0, 300, .inl (fun _ => 0))) :: wk_outer (cA 3) q6 r6 6 :: (r6 0, .inl (cA 0, 20, .inl f0)) :: (r6 1, .inl (cA 0, 20, .inl f1)) :: (r6 2, .inl (cA 0, 20, .inl (fun _ => 0))) :: (r6 3, .inl (cA 0, 20, .inl (fun _ => 0))) :: (r6 4, .inl (cA 0, 20, .inl (fun _ => 0))) :: (r6 5, .inl (cA 0, 20, .inl (fun _ => 0))) :: (q7, .inl (cA 0, 20, .inl (fun _ => 0))) :: (q8, .inl (cA 0, 600, .inl (fun _ => 0))) :: [])) [0, 1, 2, 3, 4, 5, 6, 7, 14, 8, 9, 10, 11, 12, 13] rfl
  have hD := hD.sub (ws' := ((h0, .inr (2, [.ref q1, .ref q2, .ref q3, .ref q4, .ref q5, .int 0, .ref q6, .ref q7, .ref q8, .int 0])) :: (q1, .inl (cA 0, 300, .inl (fun _ => 0))) :: (q2, .inl (cA 0, 300, .inl (fun _ => 0))) :: (q3, .inl (cA 1, 300, .inl (fun _ => 0))) :: (q4, .inl (cA 0, 1800, .inl (fun _ => 0))) :: (q5, .inl (cA 0, 300, .inl (fun _ => 0))) :: wk_outer (cA 3) q6 r6 6 :: (r6 0, .inl (cA 0, 20, .inl f0)) :: (r6 1, .inl (cA 0, 20, .inl f1)) :: (r6 2, .inl (cA 0, 20, .inl (fun _ => 0))) :: (r6 3, .inl (cA 0, 20, .inl (fun _ => 0))) :: (r6 4, .inl (cA 0, 20, .inl (fun _ => 0))) :: (r6 5, .inl (cA 0, 20, .inl (fun _ => 0))) :: (q7, .inl (cA 0, 20, .inl (fun _ => 0))) :: (q8, .inl (cA 0, 600, .inl (fun _ => 0))) :: [])) [0, 1, 2, 3, 4, 5, 6, 7, 14, 8, 9, 10, 11, 12, 13] (by decide) rfl
  generalize H1 = H at hP hS ⊢
  refine W.widen (k := 14) (n := 3746) (by omega) (by omega) ?_
  refine lv_iinc (v := 2) (lv' := [(3, .int 2), (4, .ref (r6 1)), (2, .int 6), (1, .ref q6), (0, .ref h0)]) hx hb dX2_init_114 hl (k := 1) rfl (by decide) (by decide) rfl (fun ls hl => ?_)
  refine lv_goto (tgt := 98) hx hb dX2_init_117 (by decide) ?_
  -- row 2
  have hl : lv_has ls 5 [(3, .int 2), (2, .int 6), (1, .ref q6), (0, .ref h0)] := lv_sub hl [0, 2, 3, 4] rfl
  refine lv_iload_n hx hb dX2_init_98 rfl (lv_at hl 0 rfl) ?_
  refine lv_iload_n hx hb dX2_init_99 rfl (lv_at hl 1 rfl) ?_
  refine lv_icmp_ge (tgt := 120) hx hb dX2_init_100 (by decide) (fun h => absurd h (by decide)) (fun _ => ?_)
  refine lv_aload_n hx hb dX2_init_103 rfl (lv_at hl 2 rfl) ?_
  refine lv_iload_n hx hb dX2_init_104 rfl (lv_at hl 0 rfl) ?_
  refine wk_aald (r := r6 2) hx hb hK hP 6 3 rfl rfl (by unfold vp_in; decide) dX2_init_105 rfl ?_
  refine lv_astore (lv' := [(4, .ref (r6 2)), (3, .int 2), (2, .int 6), (1, .ref q6), (0, .ref h0)]) hx hb dX2_init_106 hl (by decide) rfl (fun ls hl => ?_)
  refine lv_aload hx hb dX2_init_108 (lv_at hl 0 rfl) ?_
  refine lv_iconst (v := -1) hx hb dX2_init_110 (by decide) ?_
  have hPc := hP.sub (ws' := [(r6 2, .inl (cA 0, 20, .inl (fun _ => 0)))]) [9] rfl
  have hFc := va_free (wc := [(r6 2, .inl (cA 0, 20, .inl (fun _ => 0)))]) hD hS hA [9] rfl
  refine va_callv (va_runS (As := [.ref (r6 2), .int (-1)]) (rest := []) ⟨hx, hb, hml, hown, hts⟩ (k_fill l D (cA 0) (r6 2) H.size 20 (fun _ => 0) (-1) (by omega)) (va_cwS 2 hts gX2_init_J7_fill_53178 rfl rfl rfl (by decide +kernel) ⟨Nat.le_of_ble_eq_true rfl, Nat.le_of_ble_eq_true rfl⟩) ⟨fun a U g mk q => by obtain ⟨q0, q1, qP, qK⟩ := q; exact ⟨q0, q1, qP, va_K.moved (u := U) (U := U.calling g mk a) (Vm.Alike.refl U.vm) qK⟩, fun U hU hW => ⟨rfl, by rw [hU], by rw [hU]; exact hPc, va_K.moved hW.alike (hK.sub [0] rfl)⟩⟩ rfl rfl hl.1 rfl (lv_room (Nat.le_of_ble_eq_true rfl)) dX2_init_111 ⟨hkc, hks⟩) hS (fun q _ h => hFc q h) hFc (fun f2 t H1 locs ht hvm hw2 hB hz1 hk1 hS => ?_)
  obtain ⟨hP1, hD1⟩ := hB
  rw [ht] at hP1
  obtain ⟨hP, hD⟩ := va_join (wr := ((h0, .inr (2, [.ref q1, .ref q2, .ref q3, .ref q4, .ref q5, .int 0, .ref q6, .ref q7, .ref q8, .int 0])) :: (q1, .inl (cA 0, 300, .inl (fun _ => 0))) :: (q2, .inl (cA 0, 300, .inl (fun _ => 0))) :: (q3, .inl (cA 1, 300, .inl (fun _ => 0))) :: (q4, .inl (cA 0, 1800, .inl (fun _ => 0))) :: (q5, .inl (cA 0, 300, .inl (fun _ => 0))) :: wk_outer (cA 3) q6 r6 6 :: (r6 0, .inl (cA 0, 20, .inl f0)) :: (r6 1, .inl (cA 0, 20, .inl f1)) :: (r6 3, .inl (cA 0, 20, .inl (fun _ => 0))) :: (r6 4, .inl (cA 0, 20, .inl (fun _ => 0))) :: (r6 5, .inl (cA 0, 20, .inl (fun _ => 0))) :: (q7, .inl (cA 0, 20, .inl (fun _ => 0))) :: (q8, .inl (cA 0, 600, .inl (fun _ => 0))) :: [])) (w1 := [(r6 2, .inl (cA 0, 20, .inl f2))]) hP hD [9] [0, 1, 2, 3, 4, 5, 6, 7, 8, 10, 11, 12, 13, 14] rfl rfl (by decide) (by decide) hk1 hFc hP1 hD1
  have hP := hP.sub (ws' := ((h0, .inr (2, [.ref q1, .ref q2, .ref q3, .ref q4, .ref q5, .int 0, .ref q6, .ref q7, .ref q8, .int 0])) :: (q1, .inl (cA 0, 300, .inl (fun _ => 0))) :: (q2, .inl (cA 0, 300, .inl (fun _ => 0))) :: (q3, .inl (cA 1, 300, .inl (fun _ => 0))) :: (q4, .inl (cA 0, 1800, .inl (fun _ => 0))) :: (q5, .inl (cA 0, 300, .inl (fun _ => 0))) :: wk_outer (cA 3) q6 r6 6 :: (r6 0, .inl (cA 0, 20, .inl f0)) :: (r6 1, .inl (cA 0, 20, .inl f1)) :: (r6 2, .inl (cA 0, 20, .inl f2)) :: (r6 3, .inl (cA 0, 20, .inl (fun _ => 0))) :: (r6 4, .inl (cA 0, 20, .inl (fun _ => 0))) :: (r6 5, .inl (cA 0, 20, .inl (fun _ => 0))) :: (q7, .inl (cA 0, 20, .inl (fun _ => 0))) :: (q8, .inl (cA 0, 600, .inl (fun _ => 0))) :: [])) [0, 1, 2, 3, 4, 5, 6, 7, 8, 14, 9, 10, 11, 12, 13] rfl
  have hD := hD.sub (ws' := ((h0, .inr (2, [.ref q1, .ref q2, .ref q3, .ref q4, .ref q5, .int 0, .ref q6, .ref q7, .ref q8, .int 0])) :: (q1, .inl (cA 0, 300, .inl (fun _ => 0))) :: (q2, .inl (cA 0, 300, .inl (fun _ => 0))) :: (q3, .inl (cA 1, 300, .inl (fun _ => 0))) :: (q4, .inl (cA 0, 1800, .inl (fun _ => 0))) :: (q5, .inl (cA 0, 300, .inl (fun _ => 0))) :: wk_outer (cA 3) q6 r6 6 :: (r6 0, .inl (cA 0, 20, .inl f0)) :: (r6 1, .inl (cA 0, 20, .inl f1)) :: (r6 2, .inl (cA 0, 20, .inl f2)) :: (r6 3, .inl (cA 0, 20, .inl (fun _ => 0))) :: (r6 4, .inl (cA 0, 20, .inl (fun _ => 0))) :: (r6 5, .inl (cA 0, 20, .inl (fun _ => 0))) :: (q7, .inl (cA 0, 20, .inl (fun _ => 0))) :: (q8, .inl (cA 0, 600, .inl (fun _ => 0))) :: [])) [0, 1, 2, 3, 4, 5, 6, 7, 8, 14, 9, 10, 11, 12, 13] (by decide) rfl
  generalize H1 = H at hP hS ⊢
  refine W.widen (k := 14) (n := 3746) (by omega) (by omega) ?_
  refine lv_iinc (v := 3) (lv' := [(3, .int 3), (4, .ref (r6 2)), (2, .int 6), (1, .ref q6), (0, .ref h0)]) hx hb dX2_init_114 hl (k := 1) rfl (by decide) (by decide) rfl (fun ls hl => ?_)
  refine lv_goto (tgt := 98) hx hb dX2_init_117 (by decide) ?_
  -- row 3
  have hl : lv_has ls 5 [(3, .int 3), (2, .int 6), (1, .ref q6), (0, .ref h0)] := lv_sub hl [0, 2, 3, 4] rfl
  refine lv_iload_n hx hb dX2_init_98 rfl (lv_at hl 0 rfl) ?_
  refine lv_iload_n hx hb dX2_init_99 rfl (lv_at hl 1 rfl) ?_
  refine lv_icmp_ge (tgt := 120) hx hb dX2_init_100 (by decide) (fun h => absurd h (by decide)) (fun _ => ?_)
  refine lv_aload_n hx hb dX2_init_103 rfl (lv_at hl 2 rfl) ?_
  refine lv_iload_n hx hb dX2_init_104 rfl (lv_at hl 0 rfl) ?_
  refine wk_aald (r := r6 3) hx hb hK hP 6 3 rfl rfl (by unfold vp_in; decide) dX2_init_105 rfl ?_
  refine lv_astore (lv' := [(4, .ref (r6 3)), (3, .int 3), (2, .int 6), (1, .ref q6), (0, .ref h0)]) hx hb dX2_init_106 hl (by decide) rfl (fun ls hl => ?_)
  refine lv_aload hx hb dX2_init_108 (lv_at hl 0 rfl) ?_
  refine lv_iconst (v := -1) hx hb dX2_init_110 (by decide) ?_
  have hPc := hP.sub (ws' := [(r6 3, .inl (cA 0, 20, .inl (fun _ => 0)))]) [10] rfl
  have hFc := va_free (wc := [(r6 3, .inl (cA 0, 20, .inl (fun _ => 0)))]) hD hS hA [10] rfl
  refine va_callv (va_runS (As := [.ref (r6 3), .int (-1)]) (rest := []) ⟨hx, hb, hml, hown, hts⟩ (k_fill l D (cA 0) (r6 3) H.size 20 (fun _ => 0) (-1) (by omega)) (va_cwS 2 hts gX2_init_J7_fill_53178 rfl rfl rfl (by decide +kernel) ⟨Nat.le_of_ble_eq_true rfl, Nat.le_of_ble_eq_true rfl⟩) ⟨fun a U g mk q => by obtain ⟨q0, q1, qP, qK⟩ := q; exact ⟨q0, q1, qP, va_K.moved (u := U) (U := U.calling g mk a) (Vm.Alike.refl U.vm) qK⟩, fun U hU hW => ⟨rfl, by rw [hU], by rw [hU]; exact hPc, va_K.moved hW.alike (hK.sub [0] rfl)⟩⟩ rfl rfl hl.1 rfl (lv_room (Nat.le_of_ble_eq_true rfl)) dX2_init_111 ⟨hkc, hks⟩) hS (fun q _ h => hFc q h) hFc (fun f3 t H1 locs ht hvm hw3 hB hz1 hk1 hS => ?_)
  obtain ⟨hP1, hD1⟩ := hB
  rw [ht] at hP1
  obtain ⟨hP, hD⟩ := va_join (wr := ((h0, .inr (2, [.ref q1, .ref q2, .ref q3, .ref q4, .ref q5, .int 0, .ref q6, .ref q7, .ref q8, .int 0])) :: (q1, .inl (cA 0, 300, .inl (fun _ => 0))) :: (q2, .inl (cA 0, 300, .inl (fun _ => 0))) :: (q3, .inl (cA 1, 300, .inl (fun _ => 0))) :: (q4, .inl (cA 0, 1800, .inl (fun _ => 0))) :: (q5, .inl (cA 0, 300, .inl (fun _ => 0))) :: wk_outer (cA 3) q6 r6 6 :: (r6 0, .inl (cA 0, 20, .inl f0)) :: (r6 1, .inl (cA 0, 20, .inl f1)) :: (r6 2, .inl (cA 0, 20, .inl f2)) :: (r6 4, .inl (cA 0, 20, .inl (fun _ => 0))) :: (r6 5, .inl (cA 0, 20, .inl (fun _ => 0))) :: (q7, .inl (cA 0, 20, .inl (fun _ => 0))) :: (q8, .inl (cA 0, 600, .inl (fun _ => 0))) :: [])) (w1 := [(r6 3, .inl (cA 0, 20, .inl f3))]) hP hD [10] [0, 1, 2, 3, 4, 5, 6, 7, 8, 9, 11, 12, 13, 14] rfl rfl (by decide) (by decide) hk1 hFc hP1 hD1
  have hP := hP.sub (ws' := ((h0, .inr (2, [.ref q1, .ref q2, .ref q3, .ref q4, .ref q5, .int 0, .ref q6, .ref q7, .ref q8, .int 0])) :: (q1, .inl (cA 0, 300, .inl (fun _ => 0))) :: (q2, .inl (cA 0, 300, .inl (fun _ => 0))) :: (q3, .inl (cA 1, 300, .inl (fun _ => 0))) :: (q4, .inl (cA 0, 1800, .inl (fun _ => 0))) :: (q5, .inl (cA 0, 300, .inl (fun _ => 0))) :: wk_outer (cA 3) q6 r6 6 :: (r6 0, .inl (cA 0, 20, .inl f0)) :: (r6 1, .inl (cA 0, 20, .inl f1)) :: (r6 2, .inl (cA 0, 20, .inl f2)) :: (r6 3, .inl (cA 0, 20, .inl f3)) :: (r6 4, .inl (cA 0, 20, .inl (fun _ => 0))) :: (r6 5, .inl (cA 0, 20, .inl (fun _ => 0))) :: (q7, .inl (cA 0, 20, .inl (fun _ => 0))) :: (q8, .inl (cA 0, 600, .inl (fun _ => 0))) :: [])) [0, 1, 2, 3, 4, 5, 6, 7, 8, 9, 14, 10, 11, 12, 13] rfl
  have hD := hD.sub (ws' := ((h0, .inr (2, [.ref q1, .ref q2, .ref q3, .ref q4, .ref q5, .int 0, .ref q6, .ref q7, .ref q8, .int 0])) :: (q1, .inl (cA 0, 300, .inl (fun _ => 0))) :: (q2, .inl (cA 0, 300, .inl (fun _ => 0))) :: (q3, .inl (cA 1, 300, .inl (fun _ => 0))) :: (q4, .inl (cA 0, 1800, .inl (fun _ => 0))) :: (q5, .inl (cA 0, 300, .inl (fun _ => 0))) :: wk_outer (cA 3) q6 r6 6 :: (r6 0, .inl (cA 0, 20, .inl f0)) :: (r6 1, .inl (cA 0, 20, .inl f1)) :: (r6 2, .inl (cA 0, 20, .inl f2)) :: (r6 3, .inl (cA 0, 20, .inl f3)) :: (r6 4, .inl (cA 0, 20, .inl (fun _ => 0))) :: (r6 5, .inl (cA 0, 20, .inl (fun _ => 0))) :: (q7, .inl (cA 0, 20, .inl (fun _ => 0))) :: (q8, .inl (cA 0, 600, .inl (fun _ => 0))) :: [])) [0, 1, 2, 3, 4, 5, 6, 7, 8, 9, 14, 10, 11, 12, 13] (by decide) rfl
  generalize H1 = H at hP hS ⊢
  refine W.widen (k := 14) (n := 3746) (by omega) (by omega) ?_
  refine lv_iinc (v := 4) (lv' := [(3, .int 4), (4, .ref (r6 3)), (2, .int 6), (1, .ref q6), (0, .ref h0)]) hx hb dX2_init_114 hl (k := 1) rfl (by decide) (by decide) rfl (fun ls hl => ?_)
  refine lv_goto (tgt := 98) hx hb dX2_init_117 (by decide) ?_
  -- row 4
  have hl : lv_has ls 5 [(3, .int 4), (2, .int 6), (1, .ref q6), (0, .ref h0)] := lv_sub hl [0, 2, 3, 4] rfl
  refine lv_iload_n hx hb dX2_init_98 rfl (lv_at hl 0 rfl) ?_
  refine lv_iload_n hx hb dX2_init_99 rfl (lv_at hl 1 rfl) ?_
  refine lv_icmp_ge (tgt := 120) hx hb dX2_init_100 (by decide) (fun h => absurd h (by decide)) (fun _ => ?_)
  refine lv_aload_n hx hb dX2_init_103 rfl (lv_at hl 2 rfl) ?_
  refine lv_iload_n hx hb dX2_init_104 rfl (lv_at hl 0 rfl) ?_
  refine wk_aald (r := r6 4) hx hb hK hP 6 3 rfl rfl (by unfold vp_in; decide) dX2_init_105 rfl ?_
  refine lv_astore (lv' := [(4, .ref (r6 4)), (3, .int 4), (2, .int 6), (1, .ref q6), (0, .ref h0)]) hx hb dX2_init_106 hl (by decide) rfl (fun ls hl => ?_)
  refine lv_aload hx hb dX2_init_108 (lv_at hl 0 rfl) ?_
  refine lv_iconst (v := -1) hx hb dX2_init_110 (by decide) ?_
  have hPc := hP.sub (ws' := [(r6 4, .inl (cA 0, 20, .inl (fun _ => 0)))]) [11] rfl
  have hFc := va_free (wc := [(r6 4, .inl (cA 0, 20, .inl (fun _ => 0)))]) hD hS hA [11] rfl
  refine va_callv (va_runS (As := [.ref (r6 4), .int (-1)]) (rest := []) ⟨hx, hb, hml, hown, hts⟩ (k_fill l D (cA 0) (r6 4) H.size 20 (fun _ => 0) (-1) (by omega)) (va_cwS 2 hts gX2_init_J7_fill_53178 rfl rfl rfl (by decide +kernel) ⟨Nat.le_of_ble_eq_true rfl, Nat.le_of_ble_eq_true rfl⟩) ⟨fun a U g mk q => by obtain ⟨q0, q1, qP, qK⟩ := q; exact ⟨q0, q1, qP, va_K.moved (u := U) (U := U.calling g mk a) (Vm.Alike.refl U.vm) qK⟩, fun U hU hW => ⟨rfl, by rw [hU], by rw [hU]; exact hPc, va_K.moved hW.alike (hK.sub [0] rfl)⟩⟩ rfl rfl hl.1 rfl (lv_room (Nat.le_of_ble_eq_true rfl)) dX2_init_111 ⟨hkc, hks⟩) hS (fun q _ h => hFc q h) hFc (fun f4 t H1 locs ht hvm hw4 hB hz1 hk1 hS => ?_)
  obtain ⟨hP1, hD1⟩ := hB
  rw [ht] at hP1
  obtain ⟨hP, hD⟩ := va_join (wr := ((h0, .inr (2, [.ref q1, .ref q2, .ref q3, .ref q4, .ref q5, .int 0, .ref q6, .ref q7, .ref q8, .int 0])) :: (q1, .inl (cA 0, 300, .inl (fun _ => 0))) :: (q2, .inl (cA 0, 300, .inl (fun _ => 0))) :: (q3, .inl (cA 1, 300, .inl (fun _ => 0))) :: (q4, .inl (cA 0, 1800, .inl (fun _ => 0))) :: (q5, .inl (cA 0, 300, .inl (fun _ => 0))) :: wk_outer (cA 3) q6 r6 6 :: (r6 0, .inl (cA 0, 20, .inl f0)) :: (r6 1, .inl (cA 0, 20, .inl f1)) :: (r6 2, .inl (cA 0, 20, .inl f2)) :: (r6 3, .inl (cA 0, 20, .inl f3)) :: (r6 5, .inl (cA 0, 20, .inl (fun _ => 0))) :: (q7, .inl (cA 0, 20, .inl (fun _ => 0))) :: (q8, .inl (cA 0, 600, .inl (fun _ => 0))) :: [])) (w1 := [(r6 4, .inl (cA 0, 20, .inl f4))]) hP hD [11] [0, 1, 2, 3, 4, 5, 6, 7, 8, 9, 10, 12, 13, 14] rfl rfl (by decide) (by decide) hk1 hFc hP1 hD1
  have hP := hP.sub (ws' := ((h0, .inr (2, [.ref q1, .ref q2, .ref q3, .ref q4, .ref q5, .int 0, .ref q6, .ref q7, .ref q8, .int 0])) :: (q1, .inl (cA 0, 300, .inl (fun _ => 0))) :: (q2, .inl (cA 0, 300, .inl (fun _ => 0))) :: (q3, .inl (cA 1, 300, .inl (fun _ => 0))) :: (q4, .inl (cA 0, 1800, .inl (fun _ => 0))) :: (q5, .inl (cA 0, 300, .inl (fun _ => 0))) :: wk_outer (cA 3) q6 r6 6 :: (r6 0, .inl (cA 0, 20, .inl f0)) :: (r6 1, .inl (cA 0, 20, .inl f1)) :: (r6 2, .inl (cA 0, 20, .inl f2)) :: (r6 3, .inl (cA 0, 20, .inl f3)) :: (r6 4, .inl (cA 0, 20, .inl f4)) :: (r6 5, .inl (cA 0, 20, .inl (fun _ => 0))) :: (q7, .inl (cA 0, 20, .inl (fun _ => 0))) :: (q8, .inl (cA 0, 600, .inl (fun _ => 0))) :: [])) [0, 1, 2, 3, 4, 5, 6, 7, 8, 9, 10, 14, 11, 12, 13] rfl
  have hD := hD.sub (ws' := ((h0, .inr (2, [.ref q1, .ref q2, .ref q3, .ref q4, .ref q5, .int 0, .ref q6, .ref q7, .ref q8, .int 0])) :: (q1, .inl (cA 0, 300, .inl (fun _ => 0))) :: (q2, .inl (cA 0, 300, .inl (fun _ => 0))) :: (q3, .inl (cA 1, 300, .inl (fun _ => 0))) :: (q4, .inl (cA 0, 1800, .inl (fun _ => 0))) :: (q5, .inl (cA 0, 300, .inl (fun _ => 0))) :: wk_outer (cA 3) q6 r6 6 :: (r6 0, .inl (cA 0, 20, .inl f0)) :: (r6 1, .inl (cA 0, 20, .inl f1)) :: (r6 2, .inl (cA 0, 20, .inl f2)) :: (r6 3, .inl (cA 0, 20, .inl f3)) :: (r6 4, .inl (cA 0, 20, .inl f4)) :: (r6 5, .inl (cA 0, 20, .inl (fun _ => 0))) :: (q7, .inl (cA 0, 20, .inl (fun _ => 0))) :: (q8, .inl (cA 0, 600, .inl (fun _ => 0))) :: [])) [0, 1, 2, 3, 4, 5, 6, 7, 8, 9, 10, 14, 11, 12, 13] (by decide) rfl
  generalize H1 = H at hP hS ⊢
  refine W.widen (k := 14) (n := 3746) (by omega) (by omega) ?_
  refine lv_iinc (v := 5) (lv' := [(3, .int 5), (4, .ref (r6 4)), (2, .int 6), (1, .ref q6), (0, .ref h0)]) hx hb dX2_init_114 hl (k := 1) rfl (by decide) (by decide) rfl (fun ls hl => ?_)
  refine lv_goto (tgt := 98) hx hb dX2_init_117 (by decide) ?_
  -- row 5
  have hl : lv_has ls 5 [(3, .int 5), (2, .int 6), (1, .ref q6), (0, .ref h0)] := lv_sub hl [0, 2, 3, 4] rfl
  refine lv_iload_n hx hb dX2_init_98 rfl (lv_at hl 0 rfl) ?_
  refine lv_iload_n hx hb dX2_init_99 rfl (lv_at hl 1 rfl) ?_
  refine lv_icmp_ge (tgt := 120) hx hb dX2_init_100 (by decide) (fun h => absurd h (by decide)) (fun _ => ?_)
  refine lv_aload_n hx hb dX2_init_103 rfl (lv_at hl 2 rfl) ?_
  refine lv_iload_n hx hb dX2_init_104 rfl (lv_at hl 0 rfl) ?_
  refine wk_aald (r := r6 5) hx hb hK hP 6 3 rfl rfl (by unfold vp_in; decide) dX2_init_105 rfl ?_
  refine lv_astore (lv' := [(4, .ref (r6 5)), (3, .int 5), (2, .int 6), (1, .ref q6), (0, .ref h0)]) hx hb dX2_init_106 hl (by decide) rfl (fun ls hl => ?_)
  refine lv_aload hx hb dX2_init_108 (lv_at hl 0 rfl) ?_
  refine lv_iconst (v := -1) hx hb dX2_init_110 (by decide) ?_
  have hPc := hP.sub (ws' := [(r6 5, .inl (cA 0, 20, .inl (fun _ => 0)))]) [12] rfl
  have hFc := va_free (wc := [(r6 5, .inl (cA 0, 20, .inl (fun _ => 0)))]) hD hS hA [12] rfl
  refine va_callv (va_runS (As := [.ref (r6 5), .int (-1)]) (rest := []) ⟨hx, hb, hml, hown, hts⟩ (k_fill l D (cA 0) (r6 5) H.size 20 (fun _ => 0) (-1) (by omega)) (va_cwS 2 hts gX2_init_J7_fill_53178 rfl rfl rfl (by decide +kernel) ⟨Nat.le_of_ble_eq_true rfl, Nat.le_of_ble_eq_true rfl⟩) ⟨fun a U g mk q => by obtain ⟨q0, q1, qP, qK⟩ := q; exact ⟨q0, q1, qP, va_K.moved (u := U) (U := U.calling g mk a) (Vm.Alike.refl U.vm) qK⟩, fun U hU hW => ⟨rfl, by rw [hU], by rw [hU]; exact hPc, va_K.moved hW.alike (hK.sub [0] rfl)⟩⟩ rfl rfl hl.1 rfl (lv_room (Nat.le_of_ble_eq_true rfl)) dX2_init_111 ⟨hkc, hks⟩) hS (fun q _ h => hFc q h) hFc (fun f5 t H1 locs ht hvm hw5 hB hz1 hk1 hS => ?_)
  obtain ⟨hP1, hD1⟩ := hB
  rw [ht] at hP1
  obtain ⟨hP, hD⟩ := va_join (wr := ((h0, .inr (2, [.ref q1, .ref q2, .ref q3, .ref q4, .ref q5, .int 0, .ref q6, .ref q7, .ref q8, .int 0])) :: (q1, .inl (cA 0, 300, .inl (fun _ => 0))) :: (q2, .inl (cA 0, 300, .inl (fun _ => 0))) :: (q3, .inl (cA 1, 300, .inl (fun _ => 0))) :: (q4, .inl (cA 0, 1800, .inl (fun _ => 0))) :: (q5, .inl (cA 0, 300, .inl (fun _ => 0))) :: wk_outer (cA 3) q6 r6 6 :: (r6 0, .inl (cA 0, 20, .inl f0)) :: (r6 1, .inl (cA 0, 20, .inl f1)) :: (r6 2, .inl (cA 0, 20, .inl f2)) :: (r6 3, .inl (cA 0, 20, .inl f3)) :: (r6 4, .inl (cA 0, 20, .inl f4)) :: (q7, .inl (cA 0, 20, .inl (fun _ => 0))) :: (q8, .inl (cA 0, 600, .inl (fun _ => 0))) :: [])) (w1 := [(r6 5, .inl (cA 0, 20, .inl f5))]) hP hD [12] [0, 1, 2, 3, 4, 5, 6, 7, 8, 9, 10, 11, 13, 14] rfl rfl (by decide) (by decide) hk1 hFc hP1 hD1
  have hP := hP.sub (ws' := ((h0, .inr (2, [.ref q1, .ref q2, .ref q3, .ref q4, .ref q5, .int 0, .ref q6, .ref q7, .ref q8, .int 0])) :: (q1, .inl (cA 0, 300, .inl (fun _ => 0))) :: (q2, .inl (cA 0, 300, .inl (fun _ => 0))) :: (q3, .inl (cA 1, 300, .inl (fun _ => 0))) :: (q4, .inl (cA 0, 1800, .inl (fun _ => 0))) :: (q5, .inl (cA 0, 300, .inl (fun _ => 0))) :: wk_outer (cA 3) q6 r6 6 :: (r6 0, .inl (cA 0, 20, .inl f0)) :: (r6 1, .inl (cA 0, 20, .inl f1)) :: (r6 2, .inl (cA 0, 20, .inl f2)) :: (r6 3, .inl (cA 0, 20, .inl f3)) :: (r6 4, .inl (cA 0, 20, .inl f4)) :: (r6 5, .inl (cA 0, 20, .inl f5)) :: (q7, .inl (cA 0, 20, .inl (fun _ => 0))) :: (q8, .inl (cA 0, 600, .inl (fun _ => 0))) :: [])) [0, 1, 2, 3, 4, 5, 6, 7, 8, 9, 10, 11, 14, 12, 13] rfl
  have hD := hD.sub (ws' := ((h0, .inr (2, [.ref q1, .ref q2, .ref q3, .ref q4, .ref q5, .int 0, .ref q6, .ref q7, .ref q8, .int 0])) :: (q1, .inl (cA 0, 300, .inl (fun _ => 0))) :: (q2, .inl (cA 0, 300, .inl (fun _ => 0))) :: (q3, .inl (cA 1, 300, .inl (fun _ => 0))) :: (q4, .inl (cA 0, 1800, .inl (fun _ => 0))) :: (q5, .inl (cA 0, 300, .inl (fun _ => 0))) :: wk_outer (cA 3) q6 r6 6 :: (r6 0, .inl (cA 0, 20, .inl f0)) :: (r6 1, .inl (cA 0, 20, .inl f1)) :: (r6 2, .inl (cA 0, 20, .inl f2)) :: (r6 3, .inl (cA 0, 20, .inl f3)) :: (r6 4, .inl (cA 0, 20, .inl f4)) :: (r6 5, .inl (cA 0, 20, .inl f5)) :: (q7, .inl (cA 0, 20, .inl (fun _ => 0))) :: (q8, .inl (cA 0, 600, .inl (fun _ => 0))) :: [])) [0, 1, 2, 3, 4, 5, 6, 7, 8, 9, 10, 11, 14, 12, 13] (by decide) rfl
  generalize H1 = H at hP hS ⊢
  refine W.widen (k := 14) (n := 3746) (by omega) (by omega) ?_
  refine lv_iinc (v := 6) (lv' := [(3, .int 6), (4, .ref (r6 5)), (2, .int 6), (1, .ref q6), (0, .ref h0)]) hx hb dX2_init_114 hl (k := 1) rfl (by decide) (by decide) rfl (fun ls hl => ?_)
  refine lv_goto (tgt := 98) hx hb dX2_init_117 (by decide) ?_
  have hl : lv_has ls 5 [(3, .int 6), (2, .int 6), (1, .ref q6), (0, .ref h0)] := lv_sub hl [0, 2, 3, 4] rfl
  refine lv_iload_n hx hb dX2_init_98 rfl (lv_at hl 0 rfl) ?_
  refine lv_iload_n hx hb dX2_init_99 rfl (lv_at hl 1 rfl) ?_
  refine lv_icmp_ge (tgt := 120) hx hb dX2_init_100 (by decide) (fun _ => ?_) (fun h => absurd (by decide) h)
  obtain ⟨Fx, hFx0, hFx1, hFx2, hFx3, hFx4, hFx5⟩ : ∃ F : Nat → Nat → Int32, F 0 = f0 ∧ F 1 = f1 ∧ F 2 = f2 ∧ F 3 = f3 ∧ F 4 = f4 ∧ F 5 = f5 := ⟨fun i => match i with | 0 => f0 | 1 => f1 | 2 => f2 | 3 => f3 | 4 => f4 | _ => f5, rfl, rfl, rfl, rfl, rfl, rfl⟩
  have hB : va_P D vwCl (wk_X2 cA h0 (q1, q2, q3, q4, q5, q6, r6, q7, q8, Fx)) H ∧ va_D A (wk_X2 cA h0 (q1, q2, q3, q4, q5, q6, r6, q7, q8, Fx)) := by
    unfold wk_X2
    dsimp only
    rw [hFx0, hFx1, hFx2, hFx3, hFx4, hFx5]
    exact ⟨hP, hD⟩
  have hF : ∀ i j, i < 6 → j < 20 → Fx i j = -1 := by
    intro i j hi hj
    rcases (show i = 0 ∨ i = 1 ∨ i = 2 ∨ i = 3 ∨ i = 4 ∨ i = 5 by omega) with rfl | rfl | rfl | rfl | rfl | rfl
    · rw [hFx0]; exact hw0 j hj
    · rw [hFx1]; exact hw1 j hj
    · rw [hFx2]; exact hw2 j hj
    · rw [hFx3]; exact hw3 j hj
    · rw [hFx4]; exact hw4 j hj
    · rw [hFx5]; exact hw5 j hj
  exact W.vret hx hb hr (fun t ht hW => ⟨⟨(q1, q2, q3, q4, q5, q6, r6, q7, q8, Fx), rfl, hF, by subst ht; exact hB⟩, hS.F ht⟩) hS.2.2 dX2_init_120
