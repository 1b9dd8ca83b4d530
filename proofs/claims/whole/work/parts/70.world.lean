/-! THE WORLD THAT THE CONSTRUCTORS MAKE -/
def wk_ad (hA : Nat) (uA : Nat × (Nat × (Nat → Nat) × Nat × (Nat → Nat) × Nat) × Nat × (Nat × Nat × Nat × Nat × Nat × Nat × (Nat → Nat) × Nat × Nat × (Nat → Nat → Int32)) × Nat × Nat × Nat × Nat × (Nat → Nat)) (hB : Nat) (uB : Nat × Nat × Nat × Nat × Nat × Nat × Nat × Nat × Nat × Nat × Nat × Nat × Nat × Nat × Nat × Nat × Nat × Nat × Nat) (qo t50 t51 b : Nat) : Nat → Nat → Nat := fun g j => match g with
  | 0 => hA
  | 1 => uA.1
  | 2 => uA.2.2.1
  | 3 => uA.2.2.2.2.1
  | 4 => uA.2.2.2.2.2.2.1
  | 5 => uA.2.2.2.2.2.2.2.1
  | 6 => uA.2.1.1
  | 7 => uA.2.1.2.2.1
  | 8 => uA.2.1.2.2.2.2
  | 9 => uA.2.2.2.1.1
  | 10 => uA.2.2.2.1.2.1
  | 11 => uA.2.2.2.1.2.2.1
  | 12 => uA.2.2.2.1.2.2.2.1
  | 13 => uA.2.2.2.1.2.2.2.2.1
  | 14 => uA.2.2.2.1.2.2.2.2.2.1
  | 15 => uA.2.2.2.1.2.2.2.2.2.2.2.1
  | 16 => uA.2.2.2.1.2.2.2.2.2.2.2.2.1
  | 17 => uA.2.2.2.2.2.1
  | 18 => uA.2.2.2.2.2.2.2.2 j
  | 19 => uA.2.1.2.1 j
  | 20 => uA.2.1.2.2.2.1 j
  | 21 => uA.2.2.2.1.2.2.2.2.2.2.1 j
  | 22 => hB
  | 23 => uB.1
  | 24 => uB.2.1
  | 25 => uB.2.2.1
  | 26 => uB.2.2.2.1
  | 27 => uB.2.2.2.2.1
  | 28 => uB.2.2.2.2.2.1
  | 29 => uB.2.2.2.2.2.2.1
  | 30 => uB.2.2.2.2.2.2.2.1
  | 31 => uB.2.2.2.2.2.2.2.2.1
  | 32 => uB.2.2.2.2.2.2.2.2.2.1
  | 33 => uB.2.2.2.2.2.2.2.2.2.2.1
  | 34 => uB.2.2.2.2.2.2.2.2.2.2.2.1
  | 35 => uB.2.2.2.2.2.2.2.2.2.2.2.2.1
  | 36 => uB.2.2.2.2.2.2.2.2.2.2.2.2.2.1
  | 37 => uB.2.2.2.2.2.2.2.2.2.2.2.2.2.2.1
  | 38 => uB.2.2.2.2.2.2.2.2.2.2.2.2.2.2.2.1
  | 39 => uB.2.2.2.2.2.2.2.2.2.2.2.2.2.2.2.2.1
  | 40 => uB.2.2.2.2.2.2.2.2.2.2.2.2.2.2.2.2.2.1
  | 41 => uB.2.2.2.2.2.2.2.2.2.2.2.2.2.2.2.2.2.2
  | 42 => qo
  | 50 => t50
  | 51 => t51
  | _ => b
def wk_M (F : Nat → Nat → Int32) (L : Nat) (xs : Nat → Int32) : mv_M := fun g j k => match g with
  | 3 => if k = 1 then -1 else 0
  | 21 => F j k
  | 22 => if k = 23 then -1 else 0
  | 50 => (pb_ k).1
  | 51 => (pb_ k).2
  | 52 => xs k
  | 60 => if j = 50 then 7 else if j = 51 then 7 else nI L
  | _ => 0
def wk_G (cA : Nat → ClassId) (ad : Nat → Nat → Nat) (M : mv_M) (g : Nat) : va_W := (List.range (mv_cnt g)).map (fun j => (ad g j, mv_cel cA ad g (M g j)))
theorem wk_WS (cA : Nat → ClassId) (ad : Nat → Nat → Nat) (M : mv_M) : mv_WS cA ad M = (List.range 43).flatMap (wk_G cA ad M) := by
  unfold mv_WS mv_cells
  rw [List.map_flatMap]
  congr 1
  funext g
  unfold wk_G
  rw [List.map_map]
  rfl
section WKW
variable {cA : Nat → ClassId} {hA : Nat} {uA : Nat × (Nat × (Nat → Nat) × Nat × (Nat → Nat) × Nat) × Nat × (Nat × Nat × Nat × Nat × Nat × Nat × (Nat → Nat) × Nat × Nat × (Nat → Nat → Int32)) × Nat × Nat × Nat × Nat × (Nat → Nat)} {hB : Nat} {uB : Nat × Nat × Nat × Nat × Nat × Nat × Nat × Nat × Nat × Nat × Nat × Nat × Nat × Nat × Nat × Nat × Nat × Nat × Nat} {qo t50 t51 b L : Nat} {xs : Nat → Int32}
set_option maxRecDepth 20000 in
theorem wg_0 : wk_G cA (wk_ad hA uA hB uB qo t50 t51 b) (wk_M (uA.2.2.2.1.2.2.2.2.2.2.2.2.2) L xs) 0 = [(hA, .inr (3, [.ref uA.1, .ref uA.2.2.1, .ref uA.2.2.2.2.1, .int 0, .ref uA.2.2.2.2.2.2.1, .ref uA.2.2.2.2.2.2.2.1, .int 0]))] := rfl
set_option maxRecDepth 20000 in
theorem wg_1 : wk_G cA (wk_ad hA uA hB uB qo t50 t51 b) (wk_M (uA.2.2.2.1.2.2.2.2.2.2.2.2.2) L xs) 1 = [(uA.1, .inr (0, [.ref uA.2.1.1, .ref uA.2.1.2.2.1, .ref uA.2.1.2.2.2.2, .int 0, .int 0]))] := rfl
set_option maxRecDepth 20000 in
theorem wg_2 : wk_G cA (wk_ad hA uA hB uB qo t50 t51 b) (wk_M (uA.2.2.2.1.2.2.2.2.2.2.2.2.2) L xs) 2 = [(uA.2.2.1, .inr (2, [.ref uA.2.2.2.1.1, .ref uA.2.2.2.1.2.1, .ref uA.2.2.2.1.2.2.1, .ref uA.2.2.2.1.2.2.2.1, .ref uA.2.2.2.1.2.2.2.2.1, .int 0, .ref uA.2.2.2.1.2.2.2.2.2.1, .ref uA.2.2.2.1.2.2.2.2.2.2.2.1, .ref uA.2.2.2.1.2.2.2.2.2.2.2.2.1, .int 0]))] := rfl
set_option maxRecDepth 20000 in
theorem wg_3 : wk_G cA (wk_ad hA uA hB uB qo t50 t51 b) (wk_M (uA.2.2.2.1.2.2.2.2.2.2.2.2.2) L xs) 3 = [(uA.2.2.2.2.1, .inr (1, [.int 0, .int (-1), .ref uA.2.2.2.2.2.1, .int 0]))] := rfl
set_option maxRecDepth 20000 in
theorem wg_4 : wk_G cA (wk_ad hA uA hB uB qo t50 t51 b) (wk_M (uA.2.2.2.1.2.2.2.2.2.2.2.2.2) L xs) 4 = [(uA.2.2.2.2.2.2.1, .inl (cA 0, 20, .inl (fun _ => 0)))] := rfl
set_option maxRecDepth 20000 in
theorem wg_5 : wk_G cA (wk_ad hA uA hB uB qo t50 t51 b) (wk_M (uA.2.2.2.1.2.2.2.2.2.2.2.2.2) L xs) 5 = [wk_outer (cA 3) uA.2.2.2.2.2.2.2.1 uA.2.2.2.2.2.2.2.2 20] := rfl
set_option maxRecDepth 20000 in
theorem wg_6 : wk_G cA (wk_ad hA uA hB uB qo t50 t51 b) (wk_M (uA.2.2.2.1.2.2.2.2.2.2.2.2.2) L xs) 6 = [wk_outer (cA 3) uA.2.1.1 uA.2.1.2.1 20] := rfl
set_option maxRecDepth 20000 in
theorem wg_7 : wk_G cA (wk_ad hA uA hB uB qo t50 t51 b) (wk_M (uA.2.2.2.1.2.2.2.2.2.2.2.2.2) L xs) 7 = [wk_outer (cA 3) uA.2.1.2.2.1 uA.2.1.2.2.2.1 20] := rfl
set_option maxRecDepth 20000 in
theorem wg_8 : wk_G cA (wk_ad hA uA hB uB qo t50 t51 b) (wk_M (uA.2.2.2.1.2.2.2.2.2.2.2.2.2) L xs) 8 = [(uA.2.1.2.2.2.2, .inl (cA 0, 20, .inl (fun _ => 0)))] := rfl
set_option maxRecDepth 20000 in
theorem wg_9 : wk_G cA (wk_ad hA uA hB uB qo t50 t51 b) (wk_M (uA.2.2.2.1.2.2.2.2.2.2.2.2.2) L xs) 9 = [(uA.2.2.2.1.1, .inl (cA 0, 300, .inl (fun _ => 0)))] := rfl
set_option maxRecDepth 20000 in
theorem wg_10 : wk_G cA (wk_ad hA uA hB uB qo t50 t51 b) (wk_M (uA.2.2.2.1.2.2.2.2.2.2.2.2.2) L xs) 10 = [(uA.2.2.2.1.2.1, .inl (cA 0, 300, .inl (fun _ => 0)))] := rfl
set_option maxRecDepth 20000 in
theorem wg_11 : wk_G cA (wk_ad hA uA hB uB qo t50 t51 b) (wk_M (uA.2.2.2.1.2.2.2.2.2.2.2.2.2) L xs) 11 = [(uA.2.2.2.1.2.2.1, .inl (cA 1, 300, .inl (fun _ => 0)))] := rfl
set_option maxRecDepth 20000 in
theorem wg_12 : wk_G cA (wk_ad hA uA hB uB qo t50 t51 b) (wk_M (uA.2.2.2.1.2.2.2.2.2.2.2.2.2) L xs) 12 = [(uA.2.2.2.1.2.2.2.1, .inl (cA 0, 1800, .inl (fun _ => 0)))] := rfl
set_option maxRecDepth 20000 in
theorem wg_13 : wk_G cA (wk_ad hA uA hB uB qo t50 t51 b) (wk_M (uA.2.2.2.1.2.2.2.2.2.2.2.2.2) L xs) 13 = [(uA.2.2.2.1.2.2.2.2.1, .inl (cA 0, 300, .inl (fun _ => 0)))] := rfl
set_option maxRecDepth 20000 in
theorem wg_14 : wk_G cA (wk_ad hA uA hB uB qo t50 t51 b) (wk_M (uA.2.2.2.1.2.2.2.2.2.2.2.2.2) L xs) 14 = [wk_outer (cA 3) uA.2.2.2.1.2.2.2.2.2.1 uA.2.2.2.1.2.2.2.2.2.2.1 6] := rfl
set_option maxRecDepth 20000 in
theorem wg_15 : wk_G cA (wk_ad hA uA hB uB qo t50 t51 b) (wk_M (uA.2.2.2.1.2.2.2.2.2.2.2.2.2) L xs) 15 = [(uA.2.2.2.1.2.2.2.2.2.2.2.1, .inl (cA 0, 20, .inl (fun _ => 0)))] := rfl
set_option maxRecDepth 20000 in
theorem wg_16 : wk_G cA (wk_ad hA uA hB uB qo t50 t51 b) (wk_M (uA.2.2.2.1.2.2.2.2.2.2.2.2.2) L xs) 16 = [(uA.2.2.2.1.2.2.2.2.2.2.2.2.1, .inl (cA 0, 600, .inl (fun _ => 0)))] := rfl
set_option maxRecDepth 20000 in
theorem wg_17 : wk_G cA (wk_ad hA uA hB uB qo t50 t51 b) (wk_M (uA.2.2.2.1.2.2.2.2.2.2.2.2.2) L xs) 17 = [(uA.2.2.2.2.2.1, .inl (cA 0, 20, .inl (fun _ => 0)))] := rfl
set_option maxRecDepth 20000 in
theorem wg_18 : wk_G cA (wk_ad hA uA hB uB qo t50 t51 b) (wk_M (uA.2.2.2.1.2.2.2.2.2.2.2.2.2) L xs) 18 = wk_rows (cA 0) uA.2.2.2.2.2.2.2.2 (fun _ _ => 0) 20 6 := rfl
set_option maxRecDepth 20000 in
theorem wg_19 : wk_G cA (wk_ad hA uA hB uB qo t50 t51 b) (wk_M (uA.2.2.2.1.2.2.2.2.2.2.2.2.2) L xs) 19 = wk_rows (cA 0) uA.2.1.2.1 (fun _ _ => 0) 20 7 := rfl
set_option maxRecDepth 20000 in
theorem wg_20 : wk_G cA (wk_ad hA uA hB uB qo t50 t51 b) (wk_M (uA.2.2.2.1.2.2.2.2.2.2.2.2.2) L xs) 20 = wk_rows (cA 0) uA.2.1.2.2.2.1 (fun _ _ => 0) 20 18 := rfl
set_option maxRecDepth 20000 in
theorem wg_21 : wk_G cA (wk_ad hA uA hB uB qo t50 t51 b) (wk_M (uA.2.2.2.1.2.2.2.2.2.2.2.2.2) L xs) 21 = ((uA.2.2.2.1.2.2.2.2.2.2.1 0, .inl (cA 0, 20, .inl (uA.2.2.2.1.2.2.2.2.2.2.2.2.2 0))) :: (uA.2.2.2.1.2.2.2.2.2.2.1 1, .inl (cA 0, 20, .inl (uA.2.2.2.1.2.2.2.2.2.2.2.2.2 1))) :: (uA.2.2.2.1.2.2.2.2.2.2.1 2, .inl (cA 0, 20, .inl (uA.2.2.2.1.2.2.2.2.2.2.2.2.2 2))) :: (uA.2.2.2.1.2.2.2.2.2.2.1 3, .inl (cA 0, 20, .inl (uA.2.2.2.1.2.2.2.2.2.2.2.2.2 3))) :: (uA.2.2.2.1.2.2.2.2.2.2.1 4, .inl (cA 0, 20, .inl (uA.2.2.2.1.2.2.2.2.2.2.2.2.2 4))) :: (uA.2.2.2.1.2.2.2.2.2.2.1 5, .inl (cA 0, 20, .inl (uA.2.2.2.1.2.2.2.2.2.2.2.2.2 5))) :: []) := rfl
set_option maxRecDepth 20000 in
theorem wg_22 : wk_G cA (wk_ad hA uA hB uB qo t50 t51 b) (wk_M (uA.2.2.2.1.2.2.2.2.2.2.2.2.2) L xs) 22 = [(hB, .inr (4, (.int 0 :: .int 0 :: .ref uB.1 :: .ref uB.2.1 :: .ref uB.2.2.1 :: .ref uB.2.2.2.1 :: .int 0 :: .ref uB.2.2.2.2.1 :: .ref uB.2.2.2.2.2.1 :: .ref uB.2.2.2.2.2.2.1 :: .int 0 :: .int 0 :: .int 0 :: .ref uB.2.2.2.2.2.2.2.1 :: .ref uB.2.2.2.2.2.2.2.2.1 :: .ref uB.2.2.2.2.2.2.2.2.2.1 :: .ref uB.2.2.2.2.2.2.2.2.2.2.1 :: .ref uB.2.2.2.2.2.2.2.2.2.2.2.1 :: .ref uB.2.2.2.2.2.2.2.2.2.2.2.2.1 :: .int 0 :: .int 0 :: .ref uB.2.2.2.2.2.2.2.2.2.2.2.2.2.1 :: .int 0 :: .int (-1) :: .int 0 :: .ref uB.2.2.2.2.2.2.2.2.2.2.2.2.2.2.1 :: .ref uB.2.2.2.2.2.2.2.2.2.2.2.2.2.2.2.1 :: .ref uB.2.2.2.2.2.2.2.2.2.2.2.2.2.2.2.2.1 :: .ref uB.2.2.2.2.2.2.2.2.2.2.2.2.2.2.2.2.2.1 :: .ref uB.2.2.2.2.2.2.2.2.2.2.2.2.2.2.2.2.2.2 :: .int 0 :: .int 0 :: .int 0 :: [])))] := rfl
set_option maxRecDepth 20000 in
theorem wg_23 : wk_G cA (wk_ad hA uA hB uB qo t50 t51 b) (wk_M (uA.2.2.2.1.2.2.2.2.2.2.2.2.2) L xs) 23 = [(uB.1, .inl (cA 0, 140, .inl (fun _ => 0)))] := rfl
set_option maxRecDepth 20000 in
theorem wg_24 : wk_G cA (wk_ad hA uA hB uB qo t50 t51 b) (wk_M (uA.2.2.2.1.2.2.2.2.2.2.2.2.2) L xs) 24 = [(uB.2.1, .inl (cA 0, 20, .inl (fun _ => 0)))] := rfl
set_option maxRecDepth 20000 in
theorem wg_25 : wk_G cA (wk_ad hA uA hB uB qo t50 t51 b) (wk_M (uA.2.2.2.1.2.2.2.2.2.2.2.2.2) L xs) 25 = [(uB.2.2.1, .inl (cA 0, 360, .inl (fun _ => 0)))] := rfl
set_option maxRecDepth 20000 in
theorem wg_26 : wk_G cA (wk_ad hA uA hB uB qo t50 t51 b) (wk_M (uA.2.2.2.1.2.2.2.2.2.2.2.2.2) L xs) 26 = [(uB.2.2.2.1, .inl (cA 0, 20, .inl (fun _ => 0)))] := rfl
set_option maxRecDepth 20000 in
theorem wg_27 : wk_G cA (wk_ad hA uA hB uB qo t50 t51 b) (wk_M (uA.2.2.2.1.2.2.2.2.2.2.2.2.2) L xs) 27 = [(uB.2.2.2.2.1, .inl (cA 0, 21, .inl (fun _ => 0)))] := rfl
set_option maxRecDepth 20000 in
theorem wg_28 : wk_G cA (wk_ad hA uA hB uB qo t50 t51 b) (wk_M (uA.2.2.2.1.2.2.2.2.2.2.2.2.2) L xs) 28 = [(uB.2.2.2.2.2.1, .inl (cA 0, 21, .inl (fun _ => 0)))] := rfl
set_option maxRecDepth 20000 in
theorem wg_29 : wk_G cA (wk_ad hA uA hB uB qo t50 t51 b) (wk_M (uA.2.2.2.1.2.2.2.2.2.2.2.2.2) L xs) 29 = [(uB.2.2.2.2.2.2.1, .inl (cA 0, 21, .inl (fun _ => 0)))] := rfl
set_option maxRecDepth 20000 in
theorem wg_30 : wk_G cA (wk_ad hA uA hB uB qo t50 t51 b) (wk_M (uA.2.2.2.1.2.2.2.2.2.2.2.2.2) L xs) 30 = [(uB.2.2.2.2.2.2.2.1, .inl (cA 0, 300, .inl (fun _ => 0)))] := rfl
set_option maxRecDepth 20000 in
theorem wg_31 : wk_G cA (wk_ad hA uA hB uB qo t50 t51 b) (wk_M (uA.2.2.2.1.2.2.2.2.2.2.2.2.2) L xs) 31 = [(uB.2.2.2.2.2.2.2.2.1, .inl (cA 0, 300, .inl (fun _ => 0)))] := rfl
set_option maxRecDepth 20000 in
theorem wg_32 : wk_G cA (wk_ad hA uA hB uB qo t50 t51 b) (wk_M (uA.2.2.2.1.2.2.2.2.2.2.2.2.2) L xs) 32 = [(uB.2.2.2.2.2.2.2.2.2.1, .inl (cA 0, 300, .inl (fun _ => 0)))] := rfl
set_option maxRecDepth 20000 in
theorem wg_33 : wk_G cA (wk_ad hA uA hB uB qo t50 t51 b) (wk_M (uA.2.2.2.1.2.2.2.2.2.2.2.2.2) L xs) 33 = [(uB.2.2.2.2.2.2.2.2.2.2.1, .inl (cA 1, 300, .inl (fun _ => 0)))] := rfl
set_option maxRecDepth 20000 in
theorem wg_34 : wk_G cA (wk_ad hA uA hB uB qo t50 t51 b) (wk_M (uA.2.2.2.1.2.2.2.2.2.2.2.2.2) L xs) 34 = [(uB.2.2.2.2.2.2.2.2.2.2.2.1, .inl (cA 0, 300, .inl (fun _ => 0)))] := rfl
set_option maxRecDepth 20000 in
theorem wg_35 : wk_G cA (wk_ad hA uA hB uB qo t50 t51 b) (wk_M (uA.2.2.2.1.2.2.2.2.2.2.2.2.2) L xs) 35 = [(uB.2.2.2.2.2.2.2.2.2.2.2.2.1, .inl (cA 0, 1800, .inl (fun _ => 0)))] := rfl
set_option maxRecDepth 20000 in
theorem wg_36 : wk_G cA (wk_ad hA uA hB uB qo t50 t51 b) (wk_M (uA.2.2.2.1.2.2.2.2.2.2.2.2.2) L xs) 36 = [(uB.2.2.2.2.2.2.2.2.2.2.2.2.2.1, .inl (cA 0, 600, .inl (fun _ => 0)))] := rfl
set_option maxRecDepth 20000 in
theorem wg_37 : wk_G cA (wk_ad hA uA hB uB qo t50 t51 b) (wk_M (uA.2.2.2.1.2.2.2.2.2.2.2.2.2) L xs) 37 = [(uB.2.2.2.2.2.2.2.2.2.2.2.2.2.2.1, .inl (cA 0, 20, .inl (fun _ => 0)))] := rfl
set_option maxRecDepth 20000 in
theorem wg_38 : wk_G cA (wk_ad hA uA hB uB qo t50 t51 b) (wk_M (uA.2.2.2.1.2.2.2.2.2.2.2.2.2) L xs) 38 = [(uB.2.2.2.2.2.2.2.2.2.2.2.2.2.2.2.1, .inl (cA 0, 21, .inl (fun _ => 0)))] := rfl
set_option maxRecDepth 20000 in
theorem wg_39 : wk_G cA (wk_ad hA uA hB uB qo t50 t51 b) (wk_M (uA.2.2.2.1.2.2.2.2.2.2.2.2.2) L xs) 39 = [(uB.2.2.2.2.2.2.2.2.2.2.2.2.2.2.2.2.1, .inl (cA 1, 21, .inl (fun _ => 0)))] := rfl
set_option maxRecDepth 20000 in
theorem wg_40 : wk_G cA (wk_ad hA uA hB uB qo t50 t51 b) (wk_M (uA.2.2.2.1.2.2.2.2.2.2.2.2.2) L xs) 40 = [(uB.2.2.2.2.2.2.2.2.2.2.2.2.2.2.2.2.2.1, .inl (cA 0, 21, .inl (fun _ => 0)))] := rfl
set_option maxRecDepth 20000 in
theorem wg_41 : wk_G cA (wk_ad hA uA hB uB qo t50 t51 b) (wk_M (uA.2.2.2.1.2.2.2.2.2.2.2.2.2) L xs) 41 = [(uB.2.2.2.2.2.2.2.2.2.2.2.2.2.2.2.2.2.2, .inl (cA 0, 126, .inl (fun _ => 0)))] := rfl
set_option maxRecDepth 20000 in
theorem wg_42 : wk_G cA (wk_ad hA uA hB uB qo t50 t51 b) (wk_M (uA.2.2.2.1.2.2.2.2.2.2.2.2.2) L xs) 42 = [(qo, .inl (cA 2, 1, .inr (.inl (fun _ => 0))))] := rfl
set_option maxRecDepth 20000 in
theorem wk_eq : ((wk_X4 cA hB uB ++ wk_X3 cA hA uA) ++ [(qo, .inl (cA 2, 1, .inr (.inl (fun _ => 0))))]) = ([22, 23, 24, 25, 26, 27, 28, 29, 30, 31, 32, 33, 34, 35, 36, 37, 38, 39, 40, 41, 0, 3, 17, 2, 9, 10, 11, 12, 13, 14, 21, 15, 16, 1, 6, 19, 7, 20, 8, 4, 5, 18, 42] : List Nat).flatMap (wk_G cA (wk_ad hA uA hB uB qo t50 t51 b) (wk_M (uA.2.2.2.1.2.2.2.2.2.2.2.2.2) L xs)) := by
  simp only [List.flatMap_cons, List.flatMap_nil, wg_0, wg_1, wg_2, wg_3, wg_4, wg_5, wg_6, wg_7, wg_8, wg_9, wg_10, wg_11, wg_12, wg_13, wg_14, wg_15, wg_16, wg_17, wg_18, wg_19, wg_20, wg_21, wg_22, wg_23, wg_24, wg_25, wg_26, wg_27, wg_28, wg_29, wg_30, wg_31, wg_32, wg_33, wg_34, wg_35, wg_36, wg_37, wg_38, wg_39, wg_40, wg_41, wg_42]
  unfold wk_X4 wk_X3 wk_X2 wk_X1 wk_X0
  simp only [List.append_assoc, List.nil_append, List.cons_append, List.append_nil]
theorem wk_perm : List.Perm ((wk_X4 cA hB uB ++ wk_X3 cA hA uA) ++ [(qo, .inl (cA 2, 1, .inr (.inl (fun _ => 0))))]) (mv_WS cA (wk_ad hA uA hB uB qo t50 t51 b) (wk_M (uA.2.2.2.1.2.2.2.2.2.2.2.2.2) L xs)) := by
  rw [wk_eq (qo := qo) (t50 := t50) (t51 := t51) (b := b) (L := L) (xs := xs), wk_WS]
  exact List.Perm.flatMap_right _ (by decide +kernel)
end WKW
