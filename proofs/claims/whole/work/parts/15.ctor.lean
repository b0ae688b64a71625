def LY_X7 : List Shp := [.inr (7, [(2, 1), (2, 2), (2, 3), (0, 0)]), .inl (0, 40), .inl (0, 40), .inl (1, 40)]
theorem LY_X7_0 : (LY_X7)[0]? = some (.inr (7, [(2, 1), (2, 2), (2, 3), (0, 0)])) := rfl
theorem LY_X7_1 : (LY_X7)[1]? = some (.inl (0, 40)) := rfl
theorem LY_X7_2 : (LY_X7)[2]? = some (.inl (0, 40)) := rfl
theorem LY_X7_3 : (LY_X7)[3]? = some (.inl (1, 40)) := rfl
def LY_X3 : List Shp := [.inr (3, [(2, 1), (2, 4), (2, 8), (0, 0)]), .inr (4, [(2, 2), (2, 3), (0, 0), (0, 0), (0, 0)]), .inl (1, 5), .inl (1, 5), .inr (7, [(2, 5), (2, 6), (2, 7), (0, 0)]), .inl (0, 40), .inl (0, 40), .inl (1, 40), .inr (0, [(2, 9), (2, 10), (0, 0), (0, 0), (0, 0)]), .inl (1, 8), .inl (3, 8)]
theorem LY_X3_0 : (LY_X3)[0]? = some (.inr (3, [(2, 1), (2, 4), (2, 8), (0, 0)])) := rfl
theorem LY_X3_1 : (LY_X3)[1]? = some (.inr (4, [(2, 2), (2, 3), (0, 0), (0, 0), (0, 0)])) := rfl
theorem LY_X3_2 : (LY_X3)[2]? = some (.inl (1, 5)) := rfl
theorem LY_X3_3 : (LY_X3)[3]? = some (.inl (1, 5)) := rfl
theorem LY_X3_4 : (LY_X3)[4]? = some (.inr (7, [(2, 5), (2, 6), (2, 7), (0, 0)])) := rfl
theorem LY_X3_5 : (LY_X3)[5]? = some (.inl (0, 40)) := rfl
theorem LY_X3_6 : (LY_X3)[6]? = some (.inl (0, 40)) := rfl
theorem LY_X3_7 : (LY_X3)[7]? = some (.inl (1, 40)) := rfl
theorem LY_X3_8 : (LY_X3)[8]? = some (.inr (0, [(2, 9), (2, 10), (0, 0), (0, 0), (0, 0)])) := rfl
theorem LY_X3_9 : (LY_X3)[9]? = some (.inl (1, 8)) := rfl
theorem LY_X3_10 : (LY_X3)[10]? = some (.inl (3, 8)) := rfl
theorem ha_0 (n : Nat) (cA : ClassId) : vp_cell cA (n, .inl (fun _ => 0)) = arrV cA n (fun _ => defaultValue .byte) := rfl
theorem ha_1 (n : Nat) (cA : ClassId) : vp_cell cA (n, .inl (fun _ => 0)) = arrV cA n (fun _ => defaultValue .int) := rfl
theorem ha_2 (n : Nat) (cA : ClassId) : vp_cell cA (n, .inr (.inl (fun _ => 0))) = arrV cA n (fun _ => defaultValue .long) := rfl
theorem ha_3 (n : Nat) (cA : ClassId) : vp_cell cA (n, .inl (fun _ => 0)) = arrV cA n (fun _ => defaultValue .boolean) := rfl
theorem cw_125 : (Jvm.Cond.arrayClass Jvm.ClassFile.FieldType.byte) ∈ Uw := Uw_of 125 (by decide +kernel) (by decide +kernel)
theorem cw_126 : (Jvm.Cond.arrayClass Jvm.ClassFile.FieldType.long) ∈ Uw := Uw_of 126 (by decide +kernel) (by decide +kernel)
theorem cw_128 : (Jvm.Cond.instantiable "CoalHoles$State" (5 : Nat)) ∈ Uw := Uw_of 128 (by decide +kernel) (by decide +kernel)
theorem cw_158 : (Jvm.Cond.arrayClass Jvm.ClassFile.FieldType.int) ∈ Uw := Uw_of 158 (by decide +kernel) (by decide +kernel)
theorem cw_160 : (Jvm.Cond.instantiable "CoalHoles$Heard" (5 : Nat)) ∈ Uw := Uw_of 160 (by decide +kernel) (by decide +kernel)
theorem cw_184 : (Jvm.Cond.arrayClass Jvm.ClassFile.FieldType.boolean) ∈ Uw := Uw_of 184 (by decide +kernel) (by decide +kernel)
theorem cw_227 : (Jvm.Cond.classLink "CoalHoles$Terrace" (46 : Nat) "CoalHoles$Law") ∈ Uw := Uw_of 227 (by decide +kernel) (by decide +kernel)
theorem cw_228 : (Jvm.Cond.instantiable "CoalHoles$Law" (5 : Nat)) ∈ Uw := Uw_of 228 (by decide +kernel) (by decide +kernel)
theorem cw_342 : (Jvm.Cond.instantiable "CoalHoles$Winter" (4 : Nat)) ∈ Uw := Uw_of 342 (by decide +kernel) (by decide +kernel)
theorem cw_366 : (Jvm.Cond.classLink "CoalHoles$Mark" (7 : Nat) "CoalHoles$State") ∈ Uw := Uw_of 366 (by decide +kernel) (by decide +kernel)
theorem cw_368 : (Jvm.Cond.classLink "CoalHoles$Mark" (16 : Nat) "CoalHoles$Winter") ∈ Uw := Uw_of 368 (by decide +kernel) (by decide +kernel)
theorem cw_370 : (Jvm.Cond.classLink "CoalHoles$Mark" (23 : Nat) "CoalHoles$Heard") ∈ Uw := Uw_of 370 (by decide +kernel) (by decide +kernel)
-- X4_init
def rmX4_init : Room := { frames := 1, cells := 2, slots := 10, locals := 21 }
set_option maxHeartbeats 4000000 in
set_option maxRecDepth 100000 in
theorem KX4_init (l : Launch) (D : va_G) (cy : Nat → ClassId) : CN l yX4_init cX4_init 1 rmX4_init D cy 4 [.null, .null, .int 0, .int 0, .int 0] LY_X4 (fun _ _ => 0) (fun _ _ => 0) (fun _ _ => 0) (fun _ _ => 0) (fun _ _ => True) 2 10 := by
  refine CN.of (own := RX4) (by decide) rfl rfl rfl ?_
  intro a p e s m below meth c ls Af C0 hin hK hN hA hW hl
  refine lv_aload_n C0.1 C0.2.1 dX4_init_0 rfl (lv_at hl 0 rfl) ?_
  refine n_init C0 hl.1 uw_132 uw_27 uw_28 rfl rfl rfl dX4_init_1 ?_
  refine lv_aload_n C0.1 C0.2.1 dX4_init_4 rfl (lv_at hl 0 rfl) ?_
  refine lv_iconst (v := 5) C0.1 C0.2.1 dX4_init_5 kI_5 ?_
  refine n_arr (at_ := .int) 1 (a0 := (5, .inl (fun _ => 0))) (N := 5) C0 hK hW hA cw_158 rfl (by intro C h; cases h) rfl (ha_1 5) (by decide +kernel) (by decide +kernel) rfl (Nat.le_of_ble_eq_true rfl) (Nat.le_of_ble_eq_true rfl) dX4_init_6 (fun q1 H hW => ?_)
  have hW : wd D [(a, .inr (4, [.null, .null, .int 0, .int 0, .int 0])), (q1, .inl (cy 1, 5, .inl (fun _ => 0)))] Af s.heap H [] := hW
  refine n_putF (v := .ref (q1)) (w' := [(a, .inr (4, [.ref (q1), .null, .int 0, .int 0, .int 0])), (q1, .inl (cy 1, 5, .inl (fun _ => 0)))]) (ty := tyX4 0) C0 hin hK hW 0 0 aw_X4 tyX4_ok nmX4 rfl rfl (by decide) uw_133 rfl rfl (by decide +kernel) rfl rfl (Nat.le_of_ble_eq_true rfl) rfl dX4_init_8 (fun H locs hW => ?_)
  refine lv_aload_n C0.1 C0.2.1 dX4_init_11 rfl (lv_at hl 0 rfl) ?_
  refine lv_iconst (v := 5) C0.1 C0.2.1 dX4_init_12 kI_5 ?_
  refine n_arr (at_ := .int) 1 (a0 := (5, .inl (fun _ => 0))) (N := 5) C0 hK hW hA cw_158 rfl (by intro C h; cases h) rfl (ha_1 5) (by decide +kernel) (by decide +kernel) rfl (Nat.le_of_ble_eq_true rfl) (Nat.le_of_ble_eq_true rfl) dX4_init_13 (fun q2 H hW => ?_)
  have hW : wd D [(a, .inr (4, [.ref (q1), .null, .int 0, .int 0, .int 0])), (q1, .inl (cy 1, 5, .inl (fun _ => 0))), (q2, .inl (cy 1, 5, .inl (fun _ => 0)))] Af s.heap H locs := hW
  refine n_putF (v := .ref (q2)) (w' := [(a, .inr (4, [.ref (q1), .ref (q2), .int 0, .int 0, .int 0])), (q1, .inl (cy 1, 5, .inl (fun _ => 0))), (q2, .inl (cy 1, 5, .inl (fun _ => 0)))]) (ty := tyX4 1) C0 hin hK hW 0 1 aw_X4 tyX4_ok nmX4 rfl rfl (by decide) uw_135 rfl rfl (by decide +kernel) rfl rfl (Nat.le_of_ble_eq_true rfl) rfl dX4_init_15 (fun H locs hW => ?_)
  exact n_ret C0 hK (fun q => ([a, q1, q2] : List Nat).getD q 0) (fun _ _ => none) (fun _ _ => .null) rfl trivial hW dX4_init_18
-- X0_init
def rmX0_init : Room := { frames := 1, cells := 2, slots := 16, locals := 21 }
set_option maxHeartbeats 4000000 in
set_option maxRecDepth 100000 in
theorem KX0_init (l : Launch) (D : va_G) (cy : Nat → ClassId) : CN l yX0_init cX0_init 1 rmX0_init D cy 0 [.null, .null, .int 0, .int 0, .int 0] LY_X0 (fun _ _ => 0) (fun _ _ => 0) (fun _ _ => 0) (fun _ _ => 0) (fun _ _ => True) 2 16 := by
  refine CN.of (own := RX0) (by decide) rfl rfl rfl ?_
  intro a p e s m below meth c ls Af C0 hin hK hN hA hW hl
  refine lv_aload_n C0.1 C0.2.1 dX0_init_0 rfl (lv_at hl 0 rfl) ?_
  refine n_init C0 hl.1 uw_164 uw_27 uw_28 rfl rfl rfl dX0_init_1 ?_
  refine lv_aload_n C0.1 C0.2.1 dX0_init_4 rfl (lv_at hl 0 rfl) ?_
  refine lv_bipush (v := 8) C0.1 C0.2.1 dX0_init_5 kB_8 ?_
  refine n_arr (at_ := .int) 1 (a0 := (8, .inl (fun _ => 0))) (N := 8) C0 hK hW hA cw_158 rfl (by intro C h; cases h) rfl (ha_1 8) (by decide +kernel) (by decide +kernel) rfl (Nat.le_of_ble_eq_true rfl) (Nat.le_of_ble_eq_true rfl) dX0_init_7 (fun q1 H hW => ?_)
  have hW : wd D [(a, .inr (0, [.null, .null, .int 0, .int 0, .int 0])), (q1, .inl (cy 1, 8, .inl (fun _ => 0)))] Af s.heap H [] := hW
  refine n_putF (v := .ref (q1)) (w' := [(a, .inr (0, [.ref (q1), .null, .int 0, .int 0, .int 0])), (q1, .inl (cy 1, 8, .inl (fun _ => 0)))]) (ty := tyX0 0) C0 hin hK hW 0 0 aw_X0 tyX0_ok nmX0 rfl rfl (by decide) uw_165 rfl rfl (by decide +kernel) rfl rfl (Nat.le_of_ble_eq_true rfl) rfl dX0_init_9 (fun H locs hW => ?_)
  refine lv_aload_n C0.1 C0.2.1 dX0_init_12 rfl (lv_at hl 0 rfl) ?_
  refine lv_bipush (v := 8) C0.1 C0.2.1 dX0_init_13 kB_8 ?_
  refine n_arr (at_ := .boolean) 3 (a0 := (8, .inl (fun _ => 0))) (N := 8) C0 hK hW hA cw_184 rfl (by intro C h; cases h) rfl (ha_3 8) (by decide +kernel) (by decide +kernel) rfl (Nat.le_of_ble_eq_true rfl) (Nat.le_of_ble_eq_true rfl) dX0_init_15 (fun q2 H hW => ?_)
  have hW : wd D [(a, .inr (0, [.ref (q1), .null, .int 0, .int 0, .int 0])), (q1, .inl (cy 1, 8, .inl (fun _ => 0))), (q2, .inl (cy 3, 8, .inl (fun _ => 0)))] Af s.heap H locs := hW
  refine n_putF (v := .ref (q2)) (w' := [(a, .inr (0, [.ref (q1), .ref (q2), .int 0, .int 0, .int 0])), (q1, .inl (cy 1, 8, .inl (fun _ => 0))), (q2, .inl (cy 3, 8, .inl (fun _ => 0)))]) (ty := tyX0 1) C0 hin hK hW 0 1 aw_X0 tyX0_ok nmX0 rfl rfl (by decide) uw_166 rfl rfl (by decide +kernel) rfl rfl (Nat.le_of_ble_eq_true rfl) rfl dX0_init_17 (fun H locs hW => ?_)
  exact n_ret C0 hK (fun q => ([a, q1, q2] : List Nat).getD q 0) (fun _ _ => none) (fun _ _ => .null) rfl trivial hW dX0_init_20
-- X1_init
def rmX1_init : Room := { frames := 1, cells := 2, slots := 1032, locals := 21 }
set_option maxHeartbeats 4000000 in
set_option maxRecDepth 100000 in
theorem KX1_init (l : Launch) (D : va_G) (cy : Nat → ClassId) : CN l yX1_init cX1_init 1 rmX1_init D cy 1 [.null, .null, .int 0, .int 0, .int 0] LY_X1 (fun _ _ => 0) (fun _ _ => 0) (fun _ _ => 0) (fun _ _ => 0) (fun _ _ => True) 2 1032 := by
  refine CN.of (own := RX1) (by decide) rfl rfl rfl ?_
  intro a p e s m below meth c ls Af C0 hin hK hN hA hW hl
  refine lv_aload_n C0.1 C0.2.1 dX1_init_0 rfl (lv_at hl 0 rfl) ?_
  refine n_init C0 hl.1 uw_232 uw_27 uw_28 rfl rfl rfl dX1_init_1 ?_
  refine lv_aload_n C0.1 C0.2.1 dX1_init_4 rfl (lv_at hl 0 rfl) ?_
  refine lv_sipush (v := 1000) C0.1 C0.2.1 dX1_init_5 kS_1000 ?_
  refine n_arr (at_ := .int) 1 (a0 := (1000, .inl (fun _ => 0))) (N := 1000) C0 hK hW hA cw_158 rfl (by intro C h; cases h) rfl (ha_1 1000) (by decide +kernel) (by decide +kernel) rfl (Nat.le_of_ble_eq_true rfl) (Nat.le_of_ble_eq_true rfl) dX1_init_8 (fun q1 H hW => ?_)
  have hW : wd D [(a, .inr (1, [.null, .null, .int 0, .int 0, .int 0])), (q1, .inl (cy 1, 1000, .inl (fun _ => 0)))] Af s.heap H [] := hW
  refine n_putF (v := .ref (q1)) (w' := [(a, .inr (1, [.ref (q1), .null, .int 0, .int 0, .int 0])), (q1, .inl (cy 1, 1000, .inl (fun _ => 0)))]) (ty := tyX1 0) C0 hin hK hW 0 0 aw_X1 tyX1_ok nmX1 rfl rfl (by decide) uw_233 rfl rfl (by decide +kernel) rfl rfl (Nat.le_of_ble_eq_true rfl) rfl dX1_init_10 (fun H locs hW => ?_)
  refine lv_aload_n C0.1 C0.2.1 dX1_init_13 rfl (lv_at hl 0 rfl) ?_
  refine lv_bipush (v := 32) C0.1 C0.2.1 dX1_init_14 kB_32 ?_
  refine n_arr (at_ := .int) 1 (a0 := (32, .inl (fun _ => 0))) (N := 32) C0 hK hW hA cw_158 rfl (by intro C h; cases h) rfl (ha_1 32) (by decide +kernel) (by decide +kernel) rfl (Nat.le_of_ble_eq_true rfl) (Nat.le_of_ble_eq_true rfl) dX1_init_16 (fun q2 H hW => ?_)
  have hW : wd D [(a, .inr (1, [.ref (q1), .null, .int 0, .int 0, .int 0])), (q1, .inl (cy 1, 1000, .inl (fun _ => 0))), (q2, .inl (cy 1, 32, .inl (fun _ => 0)))] Af s.heap H locs := hW
  refine n_putF (v := .ref (q2)) (w' := [(a, .inr (1, [.ref (q1), .ref (q2), .int 0, .int 0, .int 0])), (q1, .inl (cy 1, 1000, .inl (fun _ => 0))), (q2, .inl (cy 1, 32, .inl (fun _ => 0)))]) (ty := tyX1 1) C0 hin hK hW 0 1 aw_X1 tyX1_ok nmX1 rfl rfl (by decide) uw_234 rfl rfl (by decide +kernel) rfl rfl (Nat.le_of_ble_eq_true rfl) rfl dX1_init_18 (fun H locs hW => ?_)
  exact n_ret C0 hK (fun q => ([a, q1, q2] : List Nat).getD q 0) (fun _ _ => none) (fun _ _ => .null) rfl trivial hW dX1_init_21
-- X2_init
def rmX2_init : Room := { frames := 1, cells := 4, slots := 26, locals := 21 }
set_option maxHeartbeats 4000000 in
set_option maxRecDepth 100000 in
theorem KX2_init (l : Launch) (D : va_G) (cy : Nat → ClassId) : CN l yX2_init cX2_init 1 rmX2_init D cy 2 [.null, .null, .null, .int 0, .int 0, .int 0, .null, .int 0] LY_X2 (fun _ _ => 0) (fun _ _ => 0) (fun _ _ => 0) (fun _ _ => 0) (fun _ _ => True) 4 26 := by
  refine CN.of (own := RX2) (by decide) rfl rfl rfl ?_
  intro a p e s m below meth c ls Af C0 hin hK hN hA hW hl
  refine lv_aload_n C0.1 C0.2.1 dX2_init_0 rfl (lv_at hl 0 rfl) ?_
  refine n_init C0 hl.1 uw_190 uw_27 uw_28 rfl rfl rfl dX2_init_1 ?_
  refine lv_aload_n C0.1 C0.2.1 dX2_init_4 rfl (lv_at hl 0 rfl) ?_
  refine lv_iconst (v := 5) C0.1 C0.2.1 dX2_init_5 kI_5 ?_
  refine n_arr (at_ := .int) 1 (a0 := (5, .inl (fun _ => 0))) (N := 5) C0 hK hW hA cw_158 rfl (by intro C h; cases h) rfl (ha_1 5) (by decide +kernel) (by decide +kernel) rfl (Nat.le_of_ble_eq_true rfl) (Nat.le_of_ble_eq_true rfl) dX2_init_6 (fun q1 H hW => ?_)
  have hW : wd D [(a, .inr (2, [.null, .null, .null, .int 0, .int 0, .int 0, .null, .int 0])), (q1, .inl (cy 1, 5, .inl (fun _ => 0)))] Af s.heap H [] := hW
  refine n_putF (v := .ref (q1)) (w' := [(a, .inr (2, [.ref (q1), .null, .null, .int 0, .int 0, .int 0, .null, .int 0])), (q1, .inl (cy 1, 5, .inl (fun _ => 0)))]) (ty := tyX2 0) C0 hin hK hW 0 0 aw_X2 tyX2_ok nmX2 rfl rfl (by decide) uw_191 rfl rfl (by decide +kernel) rfl rfl (Nat.le_of_ble_eq_true rfl) rfl dX2_init_8 (fun H locs hW => ?_)
  refine lv_aload_n C0.1 C0.2.1 dX2_init_11 rfl (lv_at hl 0 rfl) ?_
  refine lv_bipush (v := 6) C0.1 C0.2.1 dX2_init_12 kB_6 ?_
  refine n_arr (at_ := .int) 1 (a0 := (6, .inl (fun _ => 0))) (N := 6) C0 hK hW hA cw_158 rfl (by intro C h; cases h) rfl (ha_1 6) (by decide +kernel) (by decide +kernel) rfl (Nat.le_of_ble_eq_true rfl) (Nat.le_of_ble_eq_true rfl) dX2_init_14 (fun q2 H hW => ?_)
  have hW : wd D [(a, .inr (2, [.ref (q1), .null, .null, .int 0, .int 0, .int 0, .null, .int 0])), (q1, .inl (cy 1, 5, .inl (fun _ => 0))), (q2, .inl (cy 1, 6, .inl (fun _ => 0)))] Af s.heap H locs := hW
  refine n_putF (v := .ref (q2)) (w' := [(a, .inr (2, [.ref (q1), .ref (q2), .null, .int 0, .int 0, .int 0, .null, .int 0])), (q1, .inl (cy 1, 5, .inl (fun _ => 0))), (q2, .inl (cy 1, 6, .inl (fun _ => 0)))]) (ty := tyX2 1) C0 hin hK hW 0 1 aw_X2 tyX2_ok nmX2 rfl rfl (by decide) uw_192 rfl rfl (by decide +kernel) rfl rfl (Nat.le_of_ble_eq_true rfl) rfl dX2_init_16 (fun H locs hW => ?_)
  refine lv_aload_n C0.1 C0.2.1 dX2_init_19 rfl (lv_at hl 0 rfl) ?_
  refine lv_bipush (v := 10) C0.1 C0.2.1 dX2_init_20 kB_10 ?_
  refine n_arr (at_ := .int) 1 (a0 := (10, .inl (fun _ => 0))) (N := 10) C0 hK hW hA cw_158 rfl (by intro C h; cases h) rfl (ha_1 10) (by decide +kernel) (by decide +kernel) rfl (Nat.le_of_ble_eq_true rfl) (Nat.le_of_ble_eq_true rfl) dX2_init_22 (fun q3 H hW => ?_)
  have hW : wd D [(a, .inr (2, [.ref (q1), .ref (q2), .null, .int 0, .int 0, .int 0, .null, .int 0])), (q1, .inl (cy 1, 5, .inl (fun _ => 0))), (q2, .inl (cy 1, 6, .inl (fun _ => 0))), (q3, .inl (cy 1, 10, .inl (fun _ => 0)))] Af s.heap H locs := hW
  refine n_putF (v := .ref (q3)) (w' := [(a, .inr (2, [.ref (q1), .ref (q2), .ref (q3), .int 0, .int 0, .int 0, .null, .int 0])), (q1, .inl (cy 1, 5, .inl (fun _ => 0))), (q2, .inl (cy 1, 6, .inl (fun _ => 0))), (q3, .inl (cy 1, 10, .inl (fun _ => 0)))]) (ty := tyX2 2) C0 hin hK hW 0 2 aw_X2 tyX2_ok nmX2 rfl rfl (by decide) uw_193 rfl rfl (by decide +kernel) rfl rfl (Nat.le_of_ble_eq_true rfl) rfl dX2_init_24 (fun H locs hW => ?_)
  refine lv_aload_n C0.1 C0.2.1 dX2_init_27 rfl (lv_at hl 0 rfl) ?_
  refine lv_iconst (v := 5) C0.1 C0.2.1 dX2_init_28 kI_5 ?_
  refine n_arr (at_ := .int) 1 (a0 := (5, .inl (fun _ => 0))) (N := 5) C0 hK hW hA cw_158 rfl (by intro C h; cases h) rfl (ha_1 5) (by decide +kernel) (by decide +kernel) rfl (Nat.le_of_ble_eq_true rfl) (Nat.le_of_ble_eq_true rfl) dX2_init_29 (fun q4 H hW => ?_)
  have hW : wd D [(a, .inr (2, [.ref (q1), .ref (q2), .ref (q3), .int 0, .int 0, .int 0, .null, .int 0])), (q1, .inl (cy 1, 5, .inl (fun _ => 0))), (q2, .inl (cy 1, 6, .inl (fun _ => 0))), (q3, .inl (cy 1, 10, .inl (fun _ => 0))), (q4, .inl (cy 1, 5, .inl (fun _ => 0)))] Af s.heap H locs := hW
  refine n_putF (v := .ref (q4)) (w' := [(a, .inr (2, [.ref (q1), .ref (q2), .ref (q3), .int 0, .int 0, .int 0, .ref (q4), .int 0])), (q1, .inl (cy 1, 5, .inl (fun _ => 0))), (q2, .inl (cy 1, 6, .inl (fun _ => 0))), (q3, .inl (cy 1, 10, .inl (fun _ => 0))), (q4, .inl (cy 1, 5, .inl (fun _ => 0)))]) (ty := tyX2 6) C0 hin hK hW 0 6 aw_X2 tyX2_ok nmX2 rfl rfl (by decide) uw_197 rfl rfl (by decide +kernel) rfl rfl (Nat.le_of_ble_eq_true rfl) rfl dX2_init_31 (fun H locs hW => ?_)
  exact n_ret C0 hK (fun q => ([a, q1, q2, q3, q4] : List Nat).getD q 0) (fun _ _ => none) (fun _ _ => .null) rfl trivial hW dX2_init_34
-- X7_init
def rmX7_init : Room := { frames := 1, cells := 3, slots := 120, locals := 21 }
set_option maxHeartbeats 4000000 in
set_option maxRecDepth 100000 in
theorem KX7_init (l : Launch) (D : va_G) (cy : Nat → ClassId) : CN l yX7_init cX7_init 1 rmX7_init D cy 7 [.null, .null, .null, .int 0] LY_X7 (fun _ _ => 0) (fun _ _ => 0) (fun _ _ => 0) (fun _ _ => 0) (fun _ _ => True) 3 120 := by
  refine CN.of (own := RX7) (by decide) rfl rfl rfl ?_
  intro a p e s m below meth c ls Af C0 hin hK hN hA hW hl
  refine lv_aload_n C0.1 C0.2.1 dX7_init_0 rfl (lv_at hl 0 rfl) ?_
  refine n_init C0 hl.1 uw_346 uw_27 uw_28 rfl rfl rfl dX7_init_1 ?_
  refine lv_aload_n C0.1 C0.2.1 dX7_init_4 rfl (lv_at hl 0 rfl) ?_
  refine lv_bipush (v := 40) C0.1 C0.2.1 dX7_init_5 kB_40 ?_
  refine n_arr (at_ := .byte) 0 (a0 := (40, .inl (fun _ => 0))) (N := 40) C0 hK hW hA cw_125 rfl (by intro C h; cases h) rfl (ha_0 40) (by decide +kernel) (by decide +kernel) rfl (Nat.le_of_ble_eq_true rfl) (Nat.le_of_ble_eq_true rfl) dX7_init_7 (fun q1 H hW => ?_)
  have hW : wd D [(a, .inr (7, [.null, .null, .null, .int 0])), (q1, .inl (cy 0, 40, .inl (fun _ => 0)))] Af s.heap H [] := hW
  refine n_putF (v := .ref (q1)) (w' := [(a, .inr (7, [.ref (q1), .null, .null, .int 0])), (q1, .inl (cy 0, 40, .inl (fun _ => 0)))]) (ty := tyX7 0) C0 hin hK hW 0 0 aw_X7 tyX7_ok nmX7 rfl rfl (by decide) uw_347 rfl rfl (by decide +kernel) rfl rfl (Nat.le_of_ble_eq_true rfl) rfl dX7_init_9 (fun H locs hW => ?_)
  refine lv_aload_n C0.1 C0.2.1 dX7_init_12 rfl (lv_at hl 0 rfl) ?_
  refine lv_bipush (v := 40) C0.1 C0.2.1 dX7_init_13 kB_40 ?_
  refine n_arr (at_ := .byte) 0 (a0 := (40, .inl (fun _ => 0))) (N := 40) C0 hK hW hA cw_125 rfl (by intro C h; cases h) rfl (ha_0 40) (by decide +kernel) (by decide +kernel) rfl (Nat.le_of_ble_eq_true rfl) (Nat.le_of_ble_eq_true rfl) dX7_init_15 (fun q2 H hW => ?_)
  have hW : wd D [(a, .inr (7, [.ref (q1), .null, .null, .int 0])), (q1, .inl (cy 0, 40, .inl (fun _ => 0))), (q2, .inl (cy 0, 40, .inl (fun _ => 0)))] Af s.heap H locs := hW
  refine n_putF (v := .ref (q2)) (w' := [(a, .inr (7, [.ref (q1), .ref (q2), .null, .int 0])), (q1, .inl (cy 0, 40, .inl (fun _ => 0))), (q2, .inl (cy 0, 40, .inl (fun _ => 0)))]) (ty := tyX7 1) C0 hin hK hW 0 1 aw_X7 tyX7_ok nmX7 rfl rfl (by decide) uw_348 rfl rfl (by decide +kernel) rfl rfl (Nat.le_of_ble_eq_true rfl) rfl dX7_init_17 (fun H locs hW => ?_)
  refine lv_aload_n C0.1 C0.2.1 dX7_init_20 rfl (lv_at hl 0 rfl) ?_
  refine lv_bipush (v := 40) C0.1 C0.2.1 dX7_init_21 kB_40 ?_
  refine n_arr (at_ := .int) 1 (a0 := (40, .inl (fun _ => 0))) (N := 40) C0 hK hW hA cw_158 rfl (by intro C h; cases h) rfl (ha_1 40) (by decide +kernel) (by decide +kernel) rfl (Nat.le_of_ble_eq_true rfl) (Nat.le_of_ble_eq_true rfl) dX7_init_23 (fun q3 H hW => ?_)
  have hW : wd D [(a, .inr (7, [.ref (q1), .ref (q2), .null, .int 0])), (q1, .inl (cy 0, 40, .inl (fun _ => 0))), (q2, .inl (cy 0, 40, .inl (fun _ => 0))), (q3, .inl (cy 1, 40, .inl (fun _ => 0)))] Af s.heap H locs := hW
  refine n_putF (v := .ref (q3)) (w' := [(a, .inr (7, [.ref (q1), .ref (q2), .ref (q3), .int 0])), (q1, .inl (cy 0, 40, .inl (fun _ => 0))), (q2, .inl (cy 0, 40, .inl (fun _ => 0))), (q3, .inl (cy 1, 40, .inl (fun _ => 0)))]) (ty := tyX7 2) C0 hin hK hW 0 2 aw_X7 tyX7_ok nmX7 rfl rfl (by decide) uw_349 rfl rfl (by decide +kernel) rfl rfl (Nat.le_of_ble_eq_true rfl) rfl dX7_init_25 (fun H locs hW => ?_)
  exact n_ret C0 hK (fun q => ([a, q1, q2, q3] : List Nat).getD q 0) (fun _ _ => none) (fun _ _ => .null) rfl trivial hW dX7_init_28
-- X3_init
def rmX3_init : Room := { frames := 2, cells := 10, slots := 160, locals := 41 }
set_option maxHeartbeats 4000000 in
set_option maxRecDepth 100000 in
theorem KX3_init (l : Launch) (D : va_G) (cy : Nat → ClassId) : CN l yX3_init cX3_init 1 rmX3_init D cy 3 [.null, .null, .null, .int 0] LY_X3 (fun _ _ => 0) (fun _ _ => 0) (fun _ _ => 0) (fun _ _ => 0) (fun _ _ => True) 10 160 := by
  refine CN.of (own := RX3) (by decide) rfl rfl rfl ?_
  intro a p e s m below meth c ls Af C0 hin hK hN hA hW hl
  refine lv_aload_n C0.1 C0.2.1 dX3_init_0 rfl (lv_at hl 0 rfl) ?_
  refine n_init C0 hl.1 uw_365 uw_27 uw_28 rfl rfl rfl dX3_init_1 ?_
  refine lv_aload_n C0.1 C0.2.1 dX3_init_4 rfl (lv_at hl 0 rfl) ?_
  refine n_obj (ci := 4) (ty := tyX4) (fs := [.null, .null, .int 0, .int 0, .int 0]) C0 hK hW hA aw_X4 tyX4_ok cw_366 cw_128 uw_7 rfl (by decide) (Nat.le_of_ble_eq_true rfl) (Nat.le_of_ble_eq_true rfl) dX3_init_5 (fun q1 H hW => ?_)
  refine lv_dup C0.1 C0.2.1 dX3_init_8 rfl ?_
  refine n_callN (w := [(a, .inr (3, [.null, .null, .null, .int 0]))]) C0 hK hN hl.1 hW hA (KX4_init l D cy) ⟨un_367, uw_130, uw_7, uw_131⟩ rfl rfl rfl hd_X4_init.2 ⟨rfl, rfl⟩ rfl rfl dX3_init_9 ⟨Nat.le_of_ble_eq_true rfl, Nat.le_of_ble_eq_true rfl⟩ (fun H locs ad2 _ _ had2 _ hX => ?_)
  subst had2
  have hW : wd D [(a, .inr (3, [.null, .null, .null, .int 0])), (ad2 0, .inr (4, [.ref (ad2 1), .ref (ad2 2), .int 0, .int 0, .int 0])), (ad2 1, .inl (cy 1, 5, .inl (fun _ => 0))), (ad2 2, .inl (cy 1, 5, .inl (fun _ => 0)))] Af s.heap H locs := hX
  clear hX
  refine n_putF (v := .ref (ad2 0)) (w' := [(a, .inr (3, [.ref (ad2 0), .null, .null, .int 0])), (ad2 0, .inr (4, [.ref (ad2 1), .ref (ad2 2), .int 0, .int 0, .int 0])), (ad2 1, .inl (cy 1, 5, .inl (fun _ => 0))), (ad2 2, .inl (cy 1, 5, .inl (fun _ => 0)))]) (ty := tyX3 0) C0 hin hK hW 0 0 aw_X3 tyX3_ok nmX3 rfl rfl (by decide) uw_372 rfl rfl (by decide +kernel) rfl rfl (Nat.le_of_ble_eq_true rfl) rfl dX3_init_12 (fun H locs hW => ?_)
  refine lv_aload_n C0.1 C0.2.1 dX3_init_15 rfl (lv_at hl 0 rfl) ?_
  refine n_obj (ci := 7) (ty := tyX7) (fs := [.null, .null, .null, .int 0]) C0 hK hW hA aw_X7 tyX7_ok cw_368 cw_342 uw_12 rfl (by decide) (Nat.le_of_ble_eq_true rfl) (Nat.le_of_ble_eq_true rfl) dX3_init_16 (fun q3 H hW => ?_)
  refine lv_dup C0.1 C0.2.1 dX3_init_19 rfl ?_
  refine n_callN (w := [(a, .inr (3, [.ref (ad2 0), .null, .null, .int 0])), (ad2 0, .inr (4, [.ref (ad2 1), .ref (ad2 2), .int 0, .int 0, .int 0])), (ad2 1, .inl (cy 1, 5, .inl (fun _ => 0))), (ad2 2, .inl (cy 1, 5, .inl (fun _ => 0)))]) C0 hK hN hl.1 hW hA (KX7_init l D cy) ⟨un_369, uw_344, uw_12, uw_345⟩ rfl rfl rfl hd_X7_init.2 ⟨rfl, rfl⟩ rfl rfl dX3_init_20 ⟨Nat.le_of_ble_eq_true rfl, Nat.le_of_ble_eq_true rfl⟩ (fun H locs ad4 _ _ had4 _ hX => ?_)
  subst had4
  have hW : wd D [(a, .inr (3, [.ref (ad2 0), .null, .null, .int 0])), (ad2 0, .inr (4, [.ref (ad2 1), .ref (ad2 2), .int 0, .int 0, .int 0])), (ad2 1, .inl (cy 1, 5, .inl (fun _ => 0))), (ad2 2, .inl (cy 1, 5, .inl (fun _ => 0))), (ad4 0, .inr (7, [.ref (ad4 1), .ref (ad4 2), .ref (ad4 3), .int 0])), (ad4 1, .inl (cy 0, 40, .inl (fun _ => 0))), (ad4 2, .inl (cy 0, 40, .inl (fun _ => 0))), (ad4 3, .inl (cy 1, 40, .inl (fun _ => 0)))] Af s.heap H locs := hX
  clear hX
  refine n_putF (v := .ref (ad4 0)) (w' := [(a, .inr (3, [.ref (ad2 0), .ref (ad4 0), .null, .int 0])), (ad2 0, .inr (4, [.ref (ad2 1), .ref (ad2 2), .int 0, .int 0, .int 0])), (ad2 1, .inl (cy 1, 5, .inl (fun _ => 0))), (ad2 2, .inl (cy 1, 5, .inl (fun _ => 0))), (ad4 0, .inr (7, [.ref (ad4 1), .ref (ad4 2), .ref (ad4 3), .int 0])), (ad4 1, .inl (cy 0, 40, .inl (fun _ => 0))), (ad4 2, .inl (cy 0, 40, .inl (fun _ => 0))), (ad4 3, .inl (cy 1, 40, .inl (fun _ => 0)))]) (ty := tyX3 1) C0 hin hK hW 0 1 aw_X3 tyX3_ok nmX3 rfl rfl (by decide) uw_373 rfl rfl (by decide +kernel) rfl rfl (Nat.le_of_ble_eq_true rfl) rfl dX3_init_23 (fun H locs hW => ?_)
  refine lv_aload_n C0.1 C0.2.1 dX3_init_26 rfl (lv_at hl 0 rfl) ?_
  refine n_obj (ci := 0) (ty := tyX0) (fs := [.null, .null, .int 0, .int 0, .int 0]) C0 hK hW hA aw_X0 tyX0_ok cw_370 cw_160 uw_8 rfl (by decide) (Nat.le_of_ble_eq_true rfl) (Nat.le_of_ble_eq_true rfl) dX3_init_27 (fun q5 H hW => ?_)
  refine lv_dup C0.1 C0.2.1 dX3_init_30 rfl ?_
  refine n_callN (w := [(a, .inr (3, [.ref (ad2 0), .ref (ad4 0), .null, .int 0])), (ad2 0, .inr (4, [.ref (ad2 1), .ref (ad2 2), .int 0, .int 0, .int 0])), (ad2 1, .inl (cy 1, 5, .inl (fun _ => 0))), (ad2 2, .inl (cy 1, 5, .inl (fun _ => 0))), (ad4 0, .inr (7, [.ref (ad4 1), .ref (ad4 2), .ref (ad4 3), .int 0])), (ad4 1, .inl (cy 0, 40, .inl (fun _ => 0))), (ad4 2, .inl (cy 0, 40, .inl (fun _ => 0))), (ad4 3, .inl (cy 1, 40, .inl (fun _ => 0)))]) C0 hK hN hl.1 hW hA (KX0_init l D cy) ⟨un_371, uw_162, uw_8, uw_163⟩ rfl rfl rfl hd_X0_init.2 ⟨rfl, rfl⟩ rfl rfl dX3_init_31 ⟨Nat.le_of_ble_eq_true rfl, Nat.le_of_ble_eq_true rfl⟩ (fun H locs ad6 _ _ had6 _ hX => ?_)
  subst had6
  have hW : wd D [(a, .inr (3, [.ref (ad2 0), .ref (ad4 0), .null, .int 0])), (ad2 0, .inr (4, [.ref (ad2 1), .ref (ad2 2), .int 0, .int 0, .int 0])), (ad2 1, .inl (cy 1, 5, .inl (fun _ => 0))), (ad2 2, .inl (cy 1, 5, .inl (fun _ => 0))), (ad4 0, .inr (7, [.ref (ad4 1), .ref (ad4 2), .ref (ad4 3), .int 0])), (ad4 1, .inl (cy 0, 40, .inl (fun _ => 0))), (ad4 2, .inl (cy 0, 40, .inl (fun _ => 0))), (ad4 3, .inl (cy 1, 40, .inl (fun _ => 0))), (ad6 0, .inr (0, [.ref (ad6 1), .ref (ad6 2), .int 0, .int 0, .int 0])), (ad6 1, .inl (cy 1, 8, .inl (fun _ => 0))), (ad6 2, .inl (cy 3, 8, .inl (fun _ => 0)))] Af s.heap H locs := hX
  clear hX
  refine n_putF (v := .ref (ad6 0)) (w' := [(a, .inr (3, [.ref (ad2 0), .ref (ad4 0), .ref (ad6 0), .int 0])), (ad2 0, .inr (4, [.ref (ad2 1), .ref (ad2 2), .int 0, .int 0, .int 0])), (ad2 1, .inl (cy 1, 5, .inl (fun _ => 0))), (ad2 2, .inl (cy 1, 5, .inl (fun _ => 0))), (ad4 0, .inr (7, [.ref (ad4 1), .ref (ad4 2), .ref (ad4 3), .int 0])), (ad4 1, .inl (cy 0, 40, .inl (fun _ => 0))), (ad4 2, .inl (cy 0, 40, .inl (fun _ => 0))), (ad4 3, .inl (cy 1, 40, .inl (fun _ => 0))), (ad6 0, .inr (0, [.ref (ad6 1), .ref (ad6 2), .int 0, .int 0, .int 0])), (ad6 1, .inl (cy 1, 8, .inl (fun _ => 0))), (ad6 2, .inl (cy 3, 8, .inl (fun _ => 0)))]) (ty := tyX3 2) C0 hin hK hW 0 2 aw_X3 tyX3_ok nmX3 rfl rfl (by decide) uw_374 rfl rfl (by decide +kernel) rfl rfl (Nat.le_of_ble_eq_true rfl) rfl dX3_init_34 (fun H locs hW => ?_)
  exact n_ret C0 hK (fun q => ([a, ad2 0, ad2 1, ad2 2, ad4 0, ad4 1, ad4 2, ad4 3, ad6 0, ad6 1, ad6 2] : List Nat).getD q 0) (fun _ _ => none) (fun _ _ => .null) rfl trivial hW dX3_init_37
-- X6_init
def rmX6_init : Room := { frames := 3, cells := 14, slots := 1104, locals := 66 }
set_option maxHeartbeats 4000000 in
set_option maxRecDepth 100000 in
theorem KX6_init (l : Launch) (D : va_G) (cy : Nat → ClassId) : CN l yX6_init cX6_init 1 rmX6_init D cy 6 [.null, .null, .null, .null, .int 0, .null, .null, .null, .null, .null, .null, .null, .null, .int 0, .int 0, .int 0, .int 0, .int 0] LY_X6 (gp (fun _ _ => 0) [(0, 15, 5), (0, 16, 0), (0, 17, 0)]) (gp (fun _ _ => 0) []) (gm (fun _ _ => 0) [(11, (fun _ => 0))]) (gm (fun _ _ => 0) []) (fun _ _ => True) 14 1104 := by
  refine CN.of (own := RX6) (by decide) rfl rfl rfl ?_
  intro a p e s m below meth c ls Af C0 hin hK hN hA hW hl
  refine lv_aload_n C0.1 C0.2.1 dX6_init_0 rfl (lv_at hl 0 rfl) ?_
  refine n_init C0 hl.1 uw_226 uw_27 uw_28 rfl rfl rfl dX6_init_1 ?_
  refine lv_aload_n C0.1 C0.2.1 dX6_init_4 rfl (lv_at hl 0 rfl) ?_
  refine lv_iconst (v := 5) C0.1 C0.2.1 dX6_init_5 kI_5 ?_
  refine n_arr (at_ := .long) 2 (a0 := (5, .inr (.inl (fun _ => 0)))) (N := 5) C0 hK hW hA cw_126 rfl (by intro C h; cases h) rfl (ha_2 5) (by decide +kernel) (by decide +kernel) rfl (Nat.le_of_ble_eq_true rfl) (Nat.le_of_ble_eq_true rfl) dX6_init_6 (fun q1 H hW => ?_)
  have hW : wd D [(a, .inr (6, [.null, .null, .null, .null, .int 0, .null, .null, .null, .null, .null, .null, .null, .null, .int 0, .int 0, .int 0, .int 0, .int 0])), (q1, .inl (cy 2, 5, .inr (.inl (fun _ => 0))))] Af s.heap H [] := hW
  refine n_putF (v := .ref (q1)) (w' := [(a, .inr (6, [.ref (q1), .null, .null, .null, .int 0, .null, .null, .null, .null, .null, .null, .null, .null, .int 0, .int 0, .int 0, .int 0, .int 0])), (q1, .inl (cy 2, 5, .inr (.inl (fun _ => 0))))]) (ty := tyX6 0) C0 hin hK hW 0 0 aw_X6 tyX6_ok nmX6 rfl rfl (by decide) uw_258 rfl rfl (by decide +kernel) rfl rfl (Nat.le_of_ble_eq_true rfl) rfl dX6_init_8 (fun H locs hW => ?_)
  refine lv_aload_n C0.1 C0.2.1 dX6_init_11 rfl (lv_at hl 0 rfl) ?_
  refine lv_iconst (v := 5) C0.1 C0.2.1 dX6_init_12 kI_5 ?_
  refine n_arr (at_ := .long) 2 (a0 := (5, .inr (.inl (fun _ => 0)))) (N := 5) C0 hK hW hA cw_126 rfl (by intro C h; cases h) rfl (ha_2 5) (by decide +kernel) (by decide +kernel) rfl (Nat.le_of_ble_eq_true rfl) (Nat.le_of_ble_eq_true rfl) dX6_init_13 (fun q2 H hW => ?_)
  have hW : wd D [(a, .inr (6, [.ref (q1), .null, .null, .null, .int 0, .null, .null, .null, .null, .null, .null, .null, .null, .int 0, .int 0, .int 0, .int 0, .int 0])), (q1, .inl (cy 2, 5, .inr (.inl (fun _ => 0)))), (q2, .inl (cy 2, 5, .inr (.inl (fun _ => 0))))] Af s.heap H locs := hW
  refine n_putF (v := .ref (q2)) (w' := [(a, .inr (6, [.ref (q1), .ref (q2), .null, .null, .int 0, .null, .null, .null, .null, .null, .null, .null, .null, .int 0, .int 0, .int 0, .int 0, .int 0])), (q1, .inl (cy 2, 5, .inr (.inl (fun _ => 0)))), (q2, .inl (cy 2, 5, .inr (.inl (fun _ => 0))))]) (ty := tyX6 1) C0 hin hK hW 0 1 aw_X6 tyX6_ok nmX6 rfl rfl (by decide) uw_259 rfl rfl (by decide +kernel) rfl rfl (Nat.le_of_ble_eq_true rfl) rfl dX6_init_15 (fun H locs hW => ?_)
  refine lv_aload_n C0.1 C0.2.1 dX6_init_18 rfl (lv_at hl 0 rfl) ?_
  refine lv_bipush (v := 10) C0.1 C0.2.1 dX6_init_19 kB_10 ?_
  refine n_arr (at_ := .int) 1 (a0 := (10, .inl (fun _ => 0))) (N := 10) C0 hK hW hA cw_158 rfl (by intro C h; cases h) rfl (ha_1 10) (by decide +kernel) (by decide +kernel) rfl (Nat.le_of_ble_eq_true rfl) (Nat.le_of_ble_eq_true rfl) dX6_init_21 (fun q3 H hW => ?_)
  have hW : wd D [(a, .inr (6, [.ref (q1), .ref (q2), .null, .null, .int 0, .null, .null, .null, .null, .null, .null, .null, .null, .int 0, .int 0, .int 0, .int 0, .int 0])), (q1, .inl (cy 2, 5, .inr (.inl (fun _ => 0)))), (q2, .inl (cy 2, 5, .inr (.inl (fun _ => 0)))), (q3, .inl (cy 1, 10, .inl (fun _ => 0)))] Af s.heap H locs := hW
  refine n_putF (v := .ref (q3)) (w' := [(a, .inr (6, [.ref (q1), .ref (q2), .ref (q3), .null, .int 0, .null, .null, .null, .null, .null, .null, .null, .null, .int 0, .int 0, .int 0, .int 0, .int 0])), (q1, .inl (cy 2, 5, .inr (.inl (fun _ => 0)))), (q2, .inl (cy 2, 5, .inr (.inl (fun _ => 0)))), (q3, .inl (cy 1, 10, .inl (fun _ => 0)))]) (ty := tyX6 2) C0 hin hK hW 0 2 aw_X6 tyX6_ok nmX6 rfl rfl (by decide) uw_260 rfl rfl (by decide +kernel) rfl rfl (Nat.le_of_ble_eq_true rfl) rfl dX6_init_23 (fun H locs hW => ?_)
  refine lv_aload_n C0.1 C0.2.1 dX6_init_26 rfl (lv_at hl 0 rfl) ?_
  refine lv_bipush (v := 12) C0.1 C0.2.1 dX6_init_27 kB_12 ?_
  refine n_arr (at_ := .int) 1 (a0 := (12, .inl (fun _ => 0))) (N := 12) C0 hK hW hA cw_158 rfl (by intro C h; cases h) rfl (ha_1 12) (by decide +kernel) (by decide +kernel) rfl (Nat.le_of_ble_eq_true rfl) (Nat.le_of_ble_eq_true rfl) dX6_init_29 (fun q4 H hW => ?_)
  have hW : wd D [(a, .inr (6, [.ref (q1), .ref (q2), .ref (q3), .null, .int 0, .null, .null, .null, .null, .null, .null, .null, .null, .int 0, .int 0, .int 0, .int 0, .int 0])), (q1, .inl (cy 2, 5, .inr (.inl (fun _ => 0)))), (q2, .inl (cy 2, 5, .inr (.inl (fun _ => 0)))), (q3, .inl (cy 1, 10, .inl (fun _ => 0))), (q4, .inl (cy 1, 12, .inl (fun _ => 0)))] Af s.heap H locs := hW
  refine n_putF (v := .ref (q4)) (w' := [(a, .inr (6, [.ref (q1), .ref (q2), .ref (q3), .ref (q4), .int 0, .null, .null, .null, .null, .null, .null, .null, .null, .int 0, .int 0, .int 0, .int 0, .int 0])), (q1, .inl (cy 2, 5, .inr (.inl (fun _ => 0)))), (q2, .inl (cy 2, 5, .inr (.inl (fun _ => 0)))), (q3, .inl (cy 1, 10, .inl (fun _ => 0))), (q4, .inl (cy 1, 12, .inl (fun _ => 0)))]) (ty := tyX6 3) C0 hin hK hW 0 3 aw_X6 tyX6_ok nmX6 rfl rfl (by decide) uw_261 rfl rfl (by decide +kernel) rfl rfl (Nat.le_of_ble_eq_true rfl) rfl dX6_init_31 (fun H locs hW => ?_)
  refine lv_aload_n C0.1 C0.2.1 dX6_init_34 rfl (lv_at hl 0 rfl) ?_
  refine lv_iconst (v := 5) C0.1 C0.2.1 dX6_init_35 kI_5 ?_
  refine n_arr (at_ := .int) 1 (a0 := (5, .inl (fun _ => 0))) (N := 5) C0 hK hW hA cw_158 rfl (by intro C h; cases h) rfl (ha_1 5) (by decide +kernel) (by decide +kernel) rfl (Nat.le_of_ble_eq_true rfl) (Nat.le_of_ble_eq_true rfl) dX6_init_36 (fun q5 H hW => ?_)
  have hW : wd D [(a, .inr (6, [.ref (q1), .ref (q2), .ref (q3), .ref (q4), .int 0, .null, .null, .null, .null, .null, .null, .null, .null, .int 0, .int 0, .int 0, .int 0, .int 0])), (q1, .inl (cy 2, 5, .inr (.inl (fun _ => 0)))), (q2, .inl (cy 2, 5, .inr (.inl (fun _ => 0)))), (q3, .inl (cy 1, 10, .inl (fun _ => 0))), (q4, .inl (cy 1, 12, .inl (fun _ => 0))), (q5, .inl (cy 1, 5, .inl (fun _ => 0)))] Af s.heap H locs := hW
  refine n_putF (v := .ref (q5)) (w' := [(a, .inr (6, [.ref (q1), .ref (q2), .ref (q3), .ref (q4), .int 0, .ref (q5), .null, .null, .null, .null, .null, .null, .null, .int 0, .int 0, .int 0, .int 0, .int 0])), (q1, .inl (cy 2, 5, .inr (.inl (fun _ => 0)))), (q2, .inl (cy 2, 5, .inr (.inl (fun _ => 0)))), (q3, .inl (cy 1, 10, .inl (fun _ => 0))), (q4, .inl (cy 1, 12, .inl (fun _ => 0))), (q5, .inl (cy 1, 5, .inl (fun _ => 0)))]) (ty := tyX6 5) C0 hin hK hW 0 5 aw_X6 tyX6_ok nmX6 rfl rfl (by decide) uw_263 rfl rfl (by decide +kernel) rfl rfl (Nat.le_of_ble_eq_true rfl) rfl dX6_init_38 (fun H locs hW => ?_)
  refine lv_aload_n C0.1 C0.2.1 dX6_init_41 rfl (lv_at hl 0 rfl) ?_
  refine lv_iconst (v := 5) C0.1 C0.2.1 dX6_init_42 kI_5 ?_
  refine n_arr (at_ := .int) 1 (a0 := (5, .inl (fun _ => 0))) (N := 5) C0 hK hW hA cw_158 rfl (by intro C h; cases h) rfl (ha_1 5) (by decide +kernel) (by decide +kernel) rfl (Nat.le_of_ble_eq_true rfl) (Nat.le_of_ble_eq_true rfl) dX6_init_43 (fun q6 H hW => ?_)
  have hW : wd D [(a, .inr (6, [.ref (q1), .ref (q2), .ref (q3), .ref (q4), .int 0, .ref (q5), .null, .null, .null, .null, .null, .null, .null, .int 0, .int 0, .int 0, .int 0, .int 0])), (q1, .inl (cy 2, 5, .inr (.inl (fun _ => 0)))), (q2, .inl (cy 2, 5, .inr (.inl (fun _ => 0)))), (q3, .inl (cy 1, 10, .inl (fun _ => 0))), (q4, .inl (cy 1, 12, .inl (fun _ => 0))), (q5, .inl (cy 1, 5, .inl (fun _ => 0))), (q6, .inl (cy 1, 5, .inl (fun _ => 0)))] Af s.heap H locs := hW
  refine n_putF (v := .ref (q6)) (w' := [(a, .inr (6, [.ref (q1), .ref (q2), .ref (q3), .ref (q4), .int 0, .ref (q5), .ref (q6), .null, .null, .null, .null, .null, .null, .int 0, .int 0, .int 0, .int 0, .int 0])), (q1, .inl (cy 2, 5, .inr (.inl (fun _ => 0)))), (q2, .inl (cy 2, 5, .inr (.inl (fun _ => 0)))), (q3, .inl (cy 1, 10, .inl (fun _ => 0))), (q4, .inl (cy 1, 12, .inl (fun _ => 0))), (q5, .inl (cy 1, 5, .inl (fun _ => 0))), (q6, .inl (cy 1, 5, .inl (fun _ => 0)))]) (ty := tyX6 6) C0 hin hK hW 0 6 aw_X6 tyX6_ok nmX6 rfl rfl (by decide) uw_267 rfl rfl (by decide +kernel) rfl rfl (Nat.le_of_ble_eq_true rfl) rfl dX6_init_45 (fun H locs hW => ?_)
  refine lv_aload_n C0.1 C0.2.1 dX6_init_48 rfl (lv_at hl 0 rfl) ?_
  refine lv_iconst (v := 5) C0.1 C0.2.1 dX6_init_49 kI_5 ?_
  refine n_arr (at_ := .int) 1 (a0 := (5, .inl (fun _ => 0))) (N := 5) C0 hK hW hA cw_158 rfl (by intro C h; cases h) rfl (ha_1 5) (by decide +kernel) (by decide +kernel) rfl (Nat.le_of_ble_eq_true rfl) (Nat.le_of_ble_eq_true rfl) dX6_init_50 (fun q7 H hW => ?_)
  have hW : wd D [(a, .inr (6, [.ref (q1), .ref (q2), .ref (q3), .ref (q4), .int 0, .ref (q5), .ref (q6), .null, .null, .null, .null, .null, .null, .int 0, .int 0, .int 0, .int 0, .int 0])), (q1, .inl (cy 2, 5, .inr (.inl (fun _ => 0)))), (q2, .inl (cy 2, 5, .inr (.inl (fun _ => 0)))), (q3, .inl (cy 1, 10, .inl (fun _ => 0))), (q4, .inl (cy 1, 12, .inl (fun _ => 0))), (q5, .inl (cy 1, 5, .inl (fun _ => 0))), (q6, .inl (cy 1, 5, .inl (fun _ => 0))), (q7, .inl (cy 1, 5, .inl (fun _ => 0)))] Af s.heap H locs := hW
  refine n_putF (v := .ref (q7)) (w' := [(a, .inr (6, [.ref (q1), .ref (q2), .ref (q3), .ref (q4), .int 0, .ref (q5), .ref (q6), .ref (q7), .null, .null, .null, .null, .null, .int 0, .int 0, .int 0, .int 0, .int 0])), (q1, .inl (cy 2, 5, .inr (.inl (fun _ => 0)))), (q2, .inl (cy 2, 5, .inr (.inl (fun _ => 0)))), (q3, .inl (cy 1, 10, .inl (fun _ => 0))), (q4, .inl (cy 1, 12, .inl (fun _ => 0))), (q5, .inl (cy 1, 5, .inl (fun _ => 0))), (q6, .inl (cy 1, 5, .inl (fun _ => 0))), (q7, .inl (cy 1, 5, .inl (fun _ => 0)))]) (ty := tyX6 7) C0 hin hK hW 0 7 aw_X6 tyX6_ok nmX6 rfl rfl (by decide) uw_269 rfl rfl (by decide +kernel) rfl rfl (Nat.le_of_ble_eq_true rfl) rfl dX6_init_52 (fun H locs hW => ?_)
  refine lv_aload_n C0.1 C0.2.1 dX6_init_55 rfl (lv_at hl 0 rfl) ?_
  refine lv_iconst (v := 5) C0.1 C0.2.1 dX6_init_56 kI_5 ?_
  refine n_arr (at_ := .int) 1 (a0 := (5, .inl (fun _ => 0))) (N := 5) C0 hK hW hA cw_158 rfl (by intro C h; cases h) rfl (ha_1 5) (by decide +kernel) (by decide +kernel) rfl (Nat.le_of_ble_eq_true rfl) (Nat.le_of_ble_eq_true rfl) dX6_init_57 (fun q8 H hW => ?_)
  have hW : wd D [(a, .inr (6, [.ref (q1), .ref (q2), .ref (q3), .ref (q4), .int 0, .ref (q5), .ref (q6), .ref (q7), .null, .null, .null, .null, .null, .int 0, .int 0, .int 0, .int 0, .int 0])), (q1, .inl (cy 2, 5, .inr (.inl (fun _ => 0)))), (q2, .inl (cy 2, 5, .inr (.inl (fun _ => 0)))), (q3, .inl (cy 1, 10, .inl (fun _ => 0))), (q4, .inl (cy 1, 12, .inl (fun _ => 0))), (q5, .inl (cy 1, 5, .inl (fun _ => 0))), (q6, .inl (cy 1, 5, .inl (fun _ => 0))), (q7, .inl (cy 1, 5, .inl (fun _ => 0))), (q8, .inl (cy 1, 5, .inl (fun _ => 0)))] Af s.heap H locs := hW
  refine n_putF (v := .ref (q8)) (w' := [(a, .inr (6, [.ref (q1), .ref (q2), .ref (q3), .ref (q4), .int 0, .ref (q5), .ref (q6), .ref (q7), .ref (q8), .null, .null, .null, .null, .int 0, .int 0, .int 0, .int 0, .int 0])), (q1, .inl (cy 2, 5, .inr (.inl (fun _ => 0)))), (q2, .inl (cy 2, 5, .inr (.inl (fun _ => 0)))), (q3, .inl (cy 1, 10, .inl (fun _ => 0))), (q4, .inl (cy 1, 12, .inl (fun _ => 0))), (q5, .inl (cy 1, 5, .inl (fun _ => 0))), (q6, .inl (cy 1, 5, .inl (fun _ => 0))), (q7, .inl (cy 1, 5, .inl (fun _ => 0))), (q8, .inl (cy 1, 5, .inl (fun _ => 0)))]) (ty := tyX6 8) C0 hin hK hW 0 8 aw_X6 tyX6_ok nmX6 rfl rfl (by decide) uw_272 rfl rfl (by decide +kernel) rfl rfl (Nat.le_of_ble_eq_true rfl) rfl dX6_init_59 (fun H locs hW => ?_)
  refine lv_aload_n C0.1 C0.2.1 dX6_init_62 rfl (lv_at hl 0 rfl) ?_
  refine lv_iconst (v := 5) C0.1 C0.2.1 dX6_init_63 kI_5 ?_
  refine n_arr (at_ := .int) 1 (a0 := (5, .inl (fun _ => 0))) (N := 5) C0 hK hW hA cw_158 rfl (by intro C h; cases h) rfl (ha_1 5) (by decide +kernel) (by decide +kernel) rfl (Nat.le_of_ble_eq_true rfl) (Nat.le_of_ble_eq_true rfl) dX6_init_64 (fun q9 H hW => ?_)
  have hW : wd D [(a, .inr (6, [.ref (q1), .ref (q2), .ref (q3), .ref (q4), .int 0, .ref (q5), .ref (q6), .ref (q7), .ref (q8), .null, .null, .null, .null, .int 0, .int 0, .int 0, .int 0, .int 0])), (q1, .inl (cy 2, 5, .inr (.inl (fun _ => 0)))), (q2, .inl (cy 2, 5, .inr (.inl (fun _ => 0)))), (q3, .inl (cy 1, 10, .inl (fun _ => 0))), (q4, .inl (cy 1, 12, .inl (fun _ => 0))), (q5, .inl (cy 1, 5, .inl (fun _ => 0))), (q6, .inl (cy 1, 5, .inl (fun _ => 0))), (q7, .inl (cy 1, 5, .inl (fun _ => 0))), (q8, .inl (cy 1, 5, .inl (fun _ => 0))), (q9, .inl (cy 1, 5, .inl (fun _ => 0)))] Af s.heap H locs := hW
  refine n_putF (v := .ref (q9)) (w' := [(a, .inr (6, [.ref (q1), .ref (q2), .ref (q3), .ref (q4), .int 0, .ref (q5), .ref (q6), .ref (q7), .ref (q8), .ref (q9), .null, .null, .null, .int 0, .int 0, .int 0, .int 0, .int 0])), (q1, .inl (cy 2, 5, .inr (.inl (fun _ => 0)))), (q2, .inl (cy 2, 5, .inr (.inl (fun _ => 0)))), (q3, .inl (cy 1, 10, .inl (fun _ => 0))), (q4, .inl (cy 1, 12, .inl (fun _ => 0))), (q5, .inl (cy 1, 5, .inl (fun _ => 0))), (q6, .inl (cy 1, 5, .inl (fun _ => 0))), (q7, .inl (cy 1, 5, .inl (fun _ => 0))), (q8, .inl (cy 1, 5, .inl (fun _ => 0))), (q9, .inl (cy 1, 5, .inl (fun _ => 0)))]) (ty := tyX6 9) C0 hin hK hW 0 9 aw_X6 tyX6_ok nmX6 rfl rfl (by decide) uw_275 rfl rfl (by decide +kernel) rfl rfl (Nat.le_of_ble_eq_true rfl) rfl dX6_init_66 (fun H locs hW => ?_)
  refine lv_aload_n C0.1 C0.2.1 dX6_init_69 rfl (lv_at hl 0 rfl) ?_
  refine lv_iconst (v := 5) C0.1 C0.2.1 dX6_init_70 kI_5 ?_
  refine n_arr (at_ := .int) 1 (a0 := (5, .inl (fun _ => 0))) (N := 5) C0 hK hW hA cw_158 rfl (by intro C h; cases h) rfl (ha_1 5) (by decide +kernel) (by decide +kernel) rfl (Nat.le_of_ble_eq_true rfl) (Nat.le_of_ble_eq_true rfl) dX6_init_71 (fun q10 H hW => ?_)
  have hW : wd D [(a, .inr (6, [.ref (q1), .ref (q2), .ref (q3), .ref (q4), .int 0, .ref (q5), .ref (q6), .ref (q7), .ref (q8), .ref (q9), .null, .null, .null, .int 0, .int 0, .int 0, .int 0, .int 0])), (q1, .inl (cy 2, 5, .inr (.inl (fun _ => 0)))), (q2, .inl (cy 2, 5, .inr (.inl (fun _ => 0)))), (q3, .inl (cy 1, 10, .inl (fun _ => 0))), (q4, .inl (cy 1, 12, .inl (fun _ => 0))), (q5, .inl (cy 1, 5, .inl (fun _ => 0))), (q6, .inl (cy 1, 5, .inl (fun _ => 0))), (q7, .inl (cy 1, 5, .inl (fun _ => 0))), (q8, .inl (cy 1, 5, .inl (fun _ => 0))), (q9, .inl (cy 1, 5, .inl (fun _ => 0))), (q10, .inl (cy 1, 5, .inl (fun _ => 0)))] Af s.heap H locs := hW
  refine n_putF (v := .ref (q10)) (w' := [(a, .inr (6, [.ref (q1), .ref (q2), .ref (q3), .ref (q4), .int 0, .ref (q5), .ref (q6), .ref (q7), .ref (q8), .ref (q9), .ref (q10), .null, .null, .int 0, .int 0, .int 0, .int 0, .int 0])), (q1, .inl (cy 2, 5, .inr (.inl (fun _ => 0)))), (q2, .inl (cy 2, 5, .inr (.inl (fun _ => 0)))), (q3, .inl (cy 1, 10, .inl (fun _ => 0))), (q4, .inl (cy 1, 12, .inl (fun _ => 0))), (q5, .inl (cy 1, 5, .inl (fun _ => 0))), (q6, .inl (cy 1, 5, .inl (fun _ => 0))), (q7, .inl (cy 1, 5, .inl (fun _ => 0))), (q8, .inl (cy 1, 5, .inl (fun _ => 0))), (q9, .inl (cy 1, 5, .inl (fun _ => 0))), (q10, .inl (cy 1, 5, .inl (fun _ => 0)))]) (ty := tyX6 10) C0 hin hK hW 0 10 aw_X6 tyX6_ok nmX6 rfl rfl (by decide) uw_279 rfl rfl (by decide +kernel) rfl rfl (Nat.le_of_ble_eq_true rfl) rfl dX6_init_73 (fun H locs hW => ?_)
  refine lv_aload_n C0.1 C0.2.1 dX6_init_76 rfl (lv_at hl 0 rfl) ?_
  refine lv_iconst (v := 5) C0.1 C0.2.1 dX6_init_77 kI_5 ?_
  refine n_arr (at_ := .int) 1 (a0 := (5, .inl (fun _ => 0))) (N := 5) C0 hK hW hA cw_158 rfl (by intro C h; cases h) rfl (ha_1 5) (by decide +kernel) (by decide +kernel) rfl (Nat.le_of_ble_eq_true rfl) (Nat.le_of_ble_eq_true rfl) dX6_init_78 (fun q11 H hW => ?_)
  have hW : wd D [(a, .inr (6, [.ref (q1), .ref (q2), .ref (q3), .ref (q4), .int 0, .ref (q5), .ref (q6), .ref (q7), .ref (q8), .ref (q9), .ref (q10), .null, .null, .int 0, .int 0, .int 0, .int 0, .int 0])), (q1, .inl (cy 2, 5, .inr (.inl (fun _ => 0)))), (q2, .inl (cy 2, 5, .inr (.inl (fun _ => 0)))), (q3, .inl (cy 1, 10, .inl (fun _ => 0))), (q4, .inl (cy 1, 12, .inl (fun _ => 0))), (q5, .inl (cy 1, 5, .inl (fun _ => 0))), (q6, .inl (cy 1, 5, .inl (fun _ => 0))), (q7, .inl (cy 1, 5, .inl (fun _ => 0))), (q8, .inl (cy 1, 5, .inl (fun _ => 0))), (q9, .inl (cy 1, 5, .inl (fun _ => 0))), (q10, .inl (cy 1, 5, .inl (fun _ => 0))), (q11, .inl (cy 1, 5, .inl (fun _ => 0)))] Af s.heap H locs := hW
  refine n_putF (v := .ref (q11)) (w' := [(a, .inr (6, [.ref (q1), .ref (q2), .ref (q3), .ref (q4), .int 0, .ref (q5), .ref (q6), .ref (q7), .ref (q8), .ref (q9), .ref (q10), .ref (q11), .null, .int 0, .int 0, .int 0, .int 0, .int 0])), (q1, .inl (cy 2, 5, .inr (.inl (fun _ => 0)))), (q2, .inl (cy 2, 5, .inr (.inl (fun _ => 0)))), (q3, .inl (cy 1, 10, .inl (fun _ => 0))), (q4, .inl (cy 1, 12, .inl (fun _ => 0))), (q5, .inl (cy 1, 5, .inl (fun _ => 0))), (q6, .inl (cy 1, 5, .inl (fun _ => 0))), (q7, .inl (cy 1, 5, .inl (fun _ => 0))), (q8, .inl (cy 1, 5, .inl (fun _ => 0))), (q9, .inl (cy 1, 5, .inl (fun _ => 0))), (q10, .inl (cy 1, 5, .inl (fun _ => 0))), (q11, .inl (cy 1, 5, .inl (fun _ => 0)))]) (ty := tyX6 11) C0 hin hK hW 0 11 aw_X6 tyX6_ok nmX6 rfl rfl (by decide) uw_283 rfl rfl (by decide +kernel) rfl rfl (Nat.le_of_ble_eq_true rfl) rfl dX6_init_80 (fun H locs hW => ?_)
  refine lv_aload_n C0.1 C0.2.1 dX6_init_83 rfl (lv_at hl 0 rfl) ?_
  refine n_obj (ci := 1) (ty := tyX1) (fs := [.null, .null, .int 0, .int 0, .int 0]) C0 hK hW hA aw_X1 tyX1_ok cw_227 cw_228 uw_11 rfl (by decide) (Nat.le_of_ble_eq_true rfl) (Nat.le_of_ble_eq_true rfl) dX6_init_84 (fun q12 H hW => ?_)
  refine lv_dup C0.1 C0.2.1 dX6_init_87 rfl ?_
  refine n_callN (w := [(a, .inr (6, [.ref (q1), .ref (q2), .ref (q3), .ref (q4), .int 0, .ref (q5), .ref (q6), .ref (q7), .ref (q8), .ref (q9), .ref (q10), .ref (q11), .null, .int 0, .int 0, .int 0, .int 0, .int 0])), (q1, .inl (cy 2, 5, .inr (.inl (fun _ => 0)))), (q2, .inl (cy 2, 5, .inr (.inl (fun _ => 0)))), (q3, .inl (cy 1, 10, .inl (fun _ => 0))), (q4, .inl (cy 1, 12, .inl (fun _ => 0))), (q5, .inl (cy 1, 5, .inl (fun _ => 0))), (q6, .inl (cy 1, 5, .inl (fun _ => 0))), (q7, .inl (cy 1, 5, .inl (fun _ => 0))), (q8, .inl (cy 1, 5, .inl (fun _ => 0))), (q9, .inl (cy 1, 5, .inl (fun _ => 0))), (q10, .inl (cy 1, 5, .inl (fun _ => 0))), (q11, .inl (cy 1, 5, .inl (fun _ => 0)))]) C0 hK hN hl.1 hW hA (KX1_init l D cy) ⟨un_229, uw_230, uw_11, uw_231⟩ rfl rfl rfl hd_X1_init.2 ⟨rfl, rfl⟩ rfl rfl dX6_init_88 ⟨Nat.le_of_ble_eq_true rfl, Nat.le_of_ble_eq_true rfl⟩ (fun H locs ad13 _ _ had13 _ hX => ?_)
  subst had13
  have hW : wd D [(a, .inr (6, [.ref (q1), .ref (q2), .ref (q3), .ref (q4), .int 0, .ref (q5), .ref (q6), .ref (q7), .ref (q8), .ref (q9), .ref (q10), .ref (q11), .null, .int 0, .int 0, .int 0, .int 0, .int 0])), (q1, .inl (cy 2, 5, .inr (.inl (fun _ => 0)))), (q2, .inl (cy 2, 5, .inr (.inl (fun _ => 0)))), (q3, .inl (cy 1, 10, .inl (fun _ => 0))), (q4, .inl (cy 1, 12, .inl (fun _ => 0))), (q5, .inl (cy 1, 5, .inl (fun _ => 0))), (q6, .inl (cy 1, 5, .inl (fun _ => 0))), (q7, .inl (cy 1, 5, .inl (fun _ => 0))), (q8, .inl (cy 1, 5, .inl (fun _ => 0))), (q9, .inl (cy 1, 5, .inl (fun _ => 0))), (q10, .inl (cy 1, 5, .inl (fun _ => 0))), (q11, .inl (cy 1, 5, .inl (fun _ => 0))), (ad13 0, .inr (1, [.ref (ad13 1), .ref (ad13 2), .int 0, .int 0, .int 0])), (ad13 1, .inl (cy 1, 1000, .inl (fun _ => 0))), (ad13 2, .inl (cy 1, 32, .inl (fun _ => 0)))] Af s.heap H locs := hX
  clear hX
  refine n_putF (v := .ref (ad13 0)) (w' := [(a, .inr (6, [.ref (q1), .ref (q2), .ref (q3), .ref (q4), .int 0, .ref (q5), .ref (q6), .ref (q7), .ref (q8), .ref (q9), .ref (q10), .ref (q11), .ref (ad13 0), .int 0, .int 0, .int 0, .int 0, .int 0])), (q1, .inl (cy 2, 5, .inr (.inl (fun _ => 0)))), (q2, .inl (cy 2, 5, .inr (.inl (fun _ => 0)))), (q3, .inl (cy 1, 10, .inl (fun _ => 0))), (q4, .inl (cy 1, 12, .inl (fun _ => 0))), (q5, .inl (cy 1, 5, .inl (fun _ => 0))), (q6, .inl (cy 1, 5, .inl (fun _ => 0))), (q7, .inl (cy 1, 5, .inl (fun _ => 0))), (q8, .inl (cy 1, 5, .inl (fun _ => 0))), (q9, .inl (cy 1, 5, .inl (fun _ => 0))), (q10, .inl (cy 1, 5, .inl (fun _ => 0))), (q11, .inl (cy 1, 5, .inl (fun _ => 0))), (ad13 0, .inr (1, [.ref (ad13 1), .ref (ad13 2), .int 0, .int 0, .int 0])), (ad13 1, .inl (cy 1, 1000, .inl (fun _ => 0))), (ad13 2, .inl (cy 1, 32, .inl (fun _ => 0)))]) (ty := tyX6 12) C0 hin hK hW 0 12 aw_X6 tyX6_ok nmX6 rfl rfl (by decide) uw_286 rfl rfl (by decide +kernel) rfl rfl (Nat.le_of_ble_eq_true rfl) rfl dX6_init_91 (fun H locs hW => ?_)
  refine lv_aload_n C0.1 C0.2.1 dX6_init_94 rfl (lv_at hl 0 rfl) ?_
  have hW : wd D (dn cy LY_X6 (fun q => ([a, q1, q2, q3, q4, q5, q6, q7, q8, q9, q10, q11, ad13 0, ad13 1, ad13 2] : List Nat).getD q 0) (fun _ _ => none) (fun _ _ => .null) (gp (fun _ _ => 0) [(0, 15, 0), (0, 16, 0), (0, 17, 0)]) (gp (fun _ _ => 0) []) (gm (fun _ _ => 0) [(11, fun _ => 0)]) (gm (fun _ _ => 0) [])) Af s.heap H locs := hW
  have hy : fX6_settle 0 (fun _ => 0) (fun _ => 0) (fun _ => 0) 0 0 0 (fun _ => 0) = some (5, 0, 0, fun _ => 0) := by rfl
  refine c_Vv C0 hK hN hl.1 hW hA (KX6_settle l D cy (fun q => ([a, q1, q2, q3, q4, q5, q6, q7, q8, q9, q10, q11, ad13 0, ad13 1, ad13 2] : List Nat).getD q 0) (fun _ _ => none) (fun _ _ => .null) (gp (fun _ _ => 0) [(0, 15, 0), (0, 16, 0), (0, 17, 0)]) (gp (fun _ _ => 0) []) (gm (fun _ _ => 0) [(11, fun _ => 0)]) (gm (fun _ _ => 0) [])  hy) (JN_id rfl rfl rfl rfl) (Uw_V uw_250 uw_252 us_0 uw_10 uw_253) rfl rfl hd_X6_settle ⟨rfl, rfl⟩ rfl (dn_some LY_X6_0) rfl rfl rfl dX6_init_95 ⟨Nat.le_of_ble_eq_true rfl, Nat.le_of_ble_eq_true rfl⟩ (fun H locs hW => ?_)
  have hW : wd D (dn cy LY_X6 (fun q => ([a, q1, q2, q3, q4, q5, q6, q7, q8, q9, q10, q11, ad13 0, ad13 1, ad13 2] : List Nat).getD q 0) (fun _ _ => none) (fun _ _ => .null) (gp (fun _ _ => 0) [(0, 15, 5), (0, 16, 0), (0, 17, 0)]) (gp (fun _ _ => 0) []) (gm (fun _ _ => 0) [(11, (fun _ => 0))]) (gm (fun _ _ => 0) [])) Af s.heap H locs := hW
  exact n_ret C0 hK (fun q => ([a, q1, q2, q3, q4, q5, q6, q7, q8, q9, q10, q11, ad13 0, ad13 1, ad13 2] : List Nat).getD q 0) (fun _ _ => none) (fun _ _ => .null) rfl trivial hW dX6_init_98
