theorem ha_0 (n : Nat) (cA : ClassId) : vp_cell cA (n, .inl (fun _ => 0)) = arrV cA n (fun _ => defaultValue .byte) := rfl
theorem ha_1 (n : Nat) (cA : ClassId) : vp_cell cA (n, .inl (fun _ => 0)) = arrV cA n (fun _ => defaultValue .int) := rfl
theorem ha_2 (n : Nat) (cA : ClassId) : vp_cell cA (n, .inr (.inl (fun _ => 0))) = arrV cA n (fun _ => defaultValue .long) := rfl
theorem ha_3 (n : Nat) (cA : ClassId) : vp_cell cA (n, .inl (fun _ => 0)) = arrV cA n (fun _ => defaultValue .boolean) := rfl
theorem cw_158 : (Jvm.Cond.arrayClass Jvm.ClassFile.FieldType.int) ∈ Uw := Uw_of 158 (by decide +kernel) (by decide +kernel)
theorem cw_184 : (Jvm.Cond.arrayClass Jvm.ClassFile.FieldType.boolean) ∈ Uw := Uw_of 184 (by decide +kernel) (by decide +kernel)
-- X4_init
def rmX4_init : Room := { frames := 1, cells := 2, slots := 10, locals := 21 }
set_option maxHeartbeats 4000000 in
set_option maxRecDepth 100000 in
theorem KX4_init (l : Launch) (D : va_G) (cy : Nat → ClassId) : CN l yX4_init cX4_init 1 rmX4_init D cy 4 [.null, .null, .int 0, .int 0, .int 0] LY_X4 (fun _ _ => 0) (fun _ _ => 0) (fun _ _ => 0) (fun _ _ => 0) (fun _ _ => True) 2 10 := by
  refine CN.of (own := RX4) (by decide) rfl rfl rfl ?_
  intro a p e s m below meth c ls Af C0 hin hK hN hA hW hl
  refine lv_aload_n C0.1 C0.2.1 dX4_init_0 rfl (lv_at hl 0 rfl) ?_
  refine n_init C0 hl.1 uw_132 uw_27 uw_28 rfl rfl rfl dX4_init_1 ?_
  refine lv_aload_n C0.1 C0.2.1 dX4_init_4 rfl (lv_at hl 0 rfl) ?_
  refine lv_iconst (v := 5) C0.1 C0.2.1 dX4_init_5 kI_5 ?_
  refine n_arr (at_ := .int) 1 (a0 := (5, .inl (fun _ => 0))) (N := 5) C0 hK hW hA cw_158 rfl (by intro C h; cases h) rfl (ha_1 5) (by decide +kernel) (by decide +kernel) rfl (Nat.le_of_ble_eq_true rfl) (Nat.le_of_ble_eq_true rfl) dX4_init_6 (fun q1 H hW => ?_)
  have hW : wd D [(a, .inr (4, [.null, .null, .int 0, .int 0, .int 0])), (q1, .inl (cy 1, 5, .inl (fun _ => 0)))] Af s.heap H [] := hW
  refine n_putF (v := .ref (q1)) (w' := [(a, .inr (4, [.ref (q1), .null, .int 0, .int 0, .int 0])), (q1, .inl (cy 1, 5, .inl (fun _ => 0)))]) (ty := tyX4 0) C0 hin hK hW 0 0 aw_X4 tyX4_ok nmX4 rfl rfl (by decide) uw_133 rfl rfl (by decide +kernel) rfl rfl (Nat.le_of_ble_eq_true rfl) rfl dX4_init_8 (fun H locs hW => ?_)
  refine lv_aload_n C0.1 C0.2.1 dX4_init_11 rfl (lv_at hl 0 rfl) ?_
  refine lv_iconst (v := 5) C0.1 C0.2.1 dX4_init_12 kI_5 ?_
  refine n_arr (at_ := .int) 1 (a0 := (5, .inl (fun _ => 0))) (N := 5) C0 hK hW hA cw_158 rfl (by intro C h; cases h) rfl (ha_1 5) (by decide +kernel) (by decide +kernel) rfl (Nat.le_of_ble_eq_true rfl) (Nat.le_of_ble_eq_true rfl) dX4_init_13 (fun q2 H hW => ?_)
  have hW : wd D [(a, .inr (4, [.ref (q1), .null, .int 0, .int 0, .int 0])), (q1, .inl (cy 1, 5, .inl (fun _ => 0))), (q2, .inl (cy 1, 5, .inl (fun _ => 0)))] Af s.heap H locs := hW
  refine n_putF (v := .ref (q2)) (w' := [(a, .inr (4, [.ref (q1), .ref (q2), .int 0, .int 0, .int 0])), (q1, .inl (cy 1, 5, .inl (fun _ => 0))), (q2, .inl (cy 1, 5, .inl (fun _ => 0)))]) (ty := tyX4 1) C0 hin hK hW 0 1 aw_X4 tyX4_ok nmX4 rfl rfl (by decide) uw_135 rfl rfl (by decide +kernel) rfl rfl (Nat.le_of_ble_eq_true rfl) rfl dX4_init_15 (fun H locs hW => ?_)
  exact n_ret C0 hK (fun q => ([a, q1, q2] : List Nat).getD q 0) (fun _ _ => none) (fun _ _ => .null) rfl trivial hW dX4_init_18
-- X0_init
def rmX0_init : Room := { frames := 1, cells := 2, slots := 16, locals := 21 }
set_option maxHeartbeats 4000000 in
set_option maxRecDepth 100000 in
theorem KX0_init (l : Launch) (D : va_G) (cy : Nat → ClassId) : CN l yX0_init cX0_init 1 rmX0_init D cy 0 [.null, .null, .int 0, .int 0, .int 0] LY_X0 (fun _ _ => 0) (fun _ _ => 0) (fun _ _ => 0) (fun _ _ => 0) (fun _ _ => True) 2 16 := by
  refine CN.of (own := RX0) (by decide) rfl rfl rfl ?_
  intro a p e s m below meth c ls Af C0 hin hK hN hA hW hl
  refine lv_aload_n C0.1 C0.2.1 dX0_init_0 rfl (lv_at hl 0 rfl) ?_
  refine n_init C0 hl.1 uw_164 uw_27 uw_28 rfl rfl rfl dX0_init_1 ?_
  refine lv_aload_n C0.1 C0.2.1 dX0_init_4 rfl (lv_at hl 0 rfl) ?_
  refine lv_bipush (v := 8) C0.1 C0.2.1 dX0_init_5 kB_8 ?_
  refine n_arr (at_ := .int) 1 (a0 := (8, .inl (fun _ => 0))) (N := 8) C0 hK hW hA cw_158 rfl (by intro C h; cases h) rfl (ha_1 8) (by decide +kernel) (by decide +kernel) rfl (Nat.le_of_ble_eq_true rfl) (Nat.le_of_ble_eq_true rfl) dX0_init_7 (fun q1 H hW => ?_)
  have hW : wd D [(a, .inr (0, [.null, .null, .int 0, .int 0, .int 0])), (q1, .inl (cy 1, 8, .inl (fun _ => 0)))] Af s.heap H [] := hW
  refine n_putF (v := .ref (q1)) (w' := [(a, .inr (0, [.ref (q1), .null, .int 0, .int 0, .int 0])), (q1, .inl (cy 1, 8, .inl (fun _ => 0)))]) (ty := tyX0 0) C0 hin hK hW 0 0 aw_X0 tyX0_ok nmX0 rfl rfl (by decide) uw_165 rfl rfl (by decide +kernel) rfl rfl (Nat.le_of_ble_eq_true rfl) rfl dX0_init_9 (fun H locs hW => ?_)
  refine lv_aload_n C0.1 C0.2.1 dX0_init_12 rfl (lv_at hl 0 rfl) ?_
  refine lv_bipush (v := 8) C0.1 C0.2.1 dX0_init_13 kB_8 ?_
  refine n_arr (at_ := .boolean) 3 (a0 := (8, .inl (fun _ => 0))) (N := 8) C0 hK hW hA cw_184 rfl (by intro C h; cases h) rfl (ha_3 8) (by decide +kernel) (by decide +kernel) rfl (Nat.le_of_ble_eq_true rfl) (Nat.le_of_ble_eq_true rfl) dX0_init_15 (fun q2 H hW => ?_)
  have hW : wd D [(a, .inr (0, [.ref (q1), .null, .int 0, .int 0, .int 0])), (q1, .inl (cy 1, 8, .inl (fun _ => 0))), (q2, .inl (cy 3, 8, .inl (fun _ => 0)))] Af s.heap H locs := hW
  refine n_putF (v := .ref (q2)) (w' := [(a, .inr (0, [.ref (q1), .ref (q2), .int 0, .int 0, .int 0])), (q1, .inl (cy 1, 8, .inl (fun _ => 0))), (q2, .inl (cy 3, 8, .inl (fun _ => 0)))]) (ty := tyX0 1) C0 hin hK hW 0 1 aw_X0 tyX0_ok nmX0 rfl rfl (by decide) uw_166 rfl rfl (by decide +kernel) rfl rfl (Nat.le_of_ble_eq_true rfl) rfl dX0_init_17 (fun H locs hW => ?_)
  exact n_ret C0 hK (fun q => ([a, q1, q2] : List Nat).getD q 0) (fun _ _ => none) (fun _ _ => .null) rfl trivial hW dX0_init_20
