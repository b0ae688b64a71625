def rmX8_undo : Room := { frames := 2, cells := 0, slots := 0, locals := 43 }
def undoAt (pn : Int32) : Int32 := pn + 16 - 1 - (pn + 16 - 1) / 16 * 16
def fX8_undo (o_seized o_date o_brought : Int32) (o_coal o_inside : Nat → Int32) (pn pk n_seized n_date n_brought : Int32) (n_coal n_inside : Nat → Int32) : Option (Int32 × Int32 × Int32 × Int32 × Int32 × Int32 × (Nat → Int32) × (Nat → Int32)) :=
  if pk = 0 then some (0, pn, pk, n_seized, n_date, n_brought, n_coal, n_inside) else bif inb (undoAt pn) 16 then Option.bind (fX4_copyFrom o_seized o_date o_brought o_coal o_inside n_seized n_date n_brought n_coal n_inside) fun y => some (1, undoAt pn, pk - 1, y.1, y.2.1, y.2.2.1, y.2.2.2.1, y.2.2.2.2) else none
set_option maxHeartbeats 4000000 in
set_option maxRecDepth 100000 in
theorem KX8_undo (l : Launch) (D : va_G) (cy : Nat → ClassId) (ad : Nat → Nat) (P : MP) (V : MV) (I : MI) (J : MJ) (A : MI) (B : MJ) {res : Int32 × Int32 × Int32 × Int32 × Int32 × Int32 × (Nat → Int32) × (Nat → Int32)} (hPP : PPast ad P)
    (hf : fX8_undo (I (64 + 3 * Int32.toNatClampNeg (undoAt (I 0 11))) 2) (I (64 + 3 * Int32.toNatClampNeg (undoAt (I 0 11))) 3) (I (64 + 3 * Int32.toNatClampNeg (undoAt (I 0 11))) 4) (A (65 + 3 * Int32.toNatClampNeg (undoAt (I 0 11)))) (A (66 + 3 * Int32.toNatClampNeg (undoAt (I 0 11)))) (I 0 11) (I 0 12) (I 4 2) (I 4 3) (I 4 4) (A 5) (A 6) = some res) :
    CG l yX8_undo cX8_undo 1 (some .boolean) rmX8_undo D cy (dn cy LY_X8 ad P V I J A B) [.ref (ad 0)] (some (.int res.1)) (dn cy LY_X8 ad P V (gp I [(0, 11, res.2.1), (0, 12, res.2.2.1), (4, 2, res.2.2.2.1), (4, 3, res.2.2.2.2.1), (4, 4, res.2.2.2.2.2.1)]) (gp J []) (gm A [(5, res.2.2.2.2.2.2.1), (6, res.2.2.2.2.2.2.2)]) (gm B [])) := by
  refine CG.of (own := RX8) (by decide) rfl rfl ?_
  intro p e s m below meth c ls Af C0 hK hN hA hW hl
  have hW : wd D (dn cy LY_X8 ad P V (gp I [(0, 11, I 0 11), (0, 12, I 0 12), (4, 2, I 4 2), (4, 3, I 4 3), (4, 4, I 4 4)]) (gp J []) (gm A [(5, A 5), (6, A 6)]) (gm B [])) Af s.heap s.heap [] := wd_sel [(0, 11), (0, 12), (4, 2), (4, 3), (4, 4)] [] [5, 6] [] hW
  have hl : lv_has ls 1 [(0, .ref (ad 0))] := hl
  unfold fX8_undo at hf
  refine lv_aload_n C0.1 C0.2.1 dX8_undo_0 rfl (lv_at hl 0 rfl) ?_
  refine s_get (v := .int (I 0 12)) C0 hK hW 0 12 LY_X8_0 rfl fg_X8_93 rfl dX8_undo_1 ?_
  refine lv_if_ne (tgt := 9) C0.1 C0.2.1 dX8_undo_4 (by decide) (fun hc => ?_) (fun hc => ?_)
  · have hf := ite_f hc hf
    obtain ⟨hb, hf⟩ := g_some hf
    obtain ⟨y, hy, hf⟩ := b_some hf
    obtain rfl := Option.some.inj hf
    have hn := inb_lt hb
    generalize hne : Int32.toNatClampNeg (undoAt (I 0 11)) = n at hy hn
    refine lv_aload_n C0.1 C0.2.1 dX8_undo_9 rfl (lv_at hl 0 rfl) ?_
    refine lv_dup C0.1 C0.2.1 dX8_undo_10 rfl ?_
    refine s_get (v := .int (I 0 12)) C0 hK hW 0 12 LY_X8_0 rfl fg_X8_93 rfl dX8_undo_11 ?_
    refine lv_iconst (v := 1) C0.1 C0.2.1 dX8_undo_14 kI_1 ?_
    refine lv_isub C0.1 C0.2.1 dX8_undo_15 ?_
    refine s_putI C0 hK hW 0 12 LY_X8_0 rfl fg_X8_93 fp_X8_12 rfl dX8_undo_16 (fun H locs hW => ?_)
    have hW : wd D (dn cy LY_X8 ad P V (gp I [(0, 11, I 0 11), (0, 12, I 0 12 - 1), (4, 2, I 4 2), (4, 3, I 4 3), (4, 4, I 4 4)]) (gp J []) (gm A [(5, A 5), (6, A 6)]) (gm B [])) Af s.heap H locs := hW
    refine lv_aload_n C0.1 C0.2.1 dX8_undo_19 rfl (lv_at hl 0 rfl) ?_
    refine lv_aload_n C0.1 C0.2.1 dX8_undo_20 rfl (lv_at hl 0 rfl) ?_
    refine s_get (v := .int (I 0 11)) C0 hK hW 0 11 LY_X8_0 rfl fg_X8_172 rfl dX8_undo_21 ?_
    refine lv_bipush (v := 16) C0.1 C0.2.1 dX8_undo_24 kB_16 ?_
    refine lv_iadd C0.1 C0.2.1 dX8_undo_26 ?_
    refine lv_iconst (v := 1) C0.1 C0.2.1 dX8_undo_27 kI_1 ?_
    refine lv_isub C0.1 C0.2.1 dX8_undo_28 ?_
    refine lv_bipush (v := 16) C0.1 C0.2.1 dX8_undo_29 kB_16 ?_
    refine lv_irem C0.1 C0.2.1 dX8_undo_31 (by decide) ?_
    refine s_putI (v := undoAt (I 0 11)) C0 hK hW 0 11 LY_X8_0 rfl fg_X8_172 fp_X8_11 rfl dX8_undo_32 (fun H locs hW => ?_)
    have hW : wd D (dn cy LY_X8 ad P V (gp I [(0, 11, undoAt (I 0 11)), (0, 12, I 0 12 - 1), (4, 2, I 4 2), (4, 3, I 4 3), (4, 4, I 4 4)]) (gp J []) (gm A [(5, A 5), (6, A 6)]) (gm B [])) Af s.heap H locs := hW
    refine lv_aload_n C0.1 C0.2.1 dX8_undo_35 rfl (lv_at hl 0 rfl) ?_
    refine s_get (v := .ref (ad 4)) C0 hK hW 0 1 LY_X8_0 rfl fg_X8_19 rfl dX8_undo_36 ?_
    refine lv_aload_n C0.1 C0.2.1 dX8_undo_39 rfl (lv_at hl 0 rfl) ?_
    refine s_get (v := .ref (ad 63)) C0 hK hW 0 6 LY_X8_0 rfl fg_X8_46 rfl dX8_undo_40 ?_
    refine lv_aload_n C0.1 C0.2.1 dX8_undo_43 rfl (lv_at hl 0 rfl) ?_
    refine s_get (v := .int (undoAt (I 0 11))) C0 hK hW 0 11 LY_X8_0 rfl fg_X8_172 rfl dX8_undo_44 ?_
    refine s_aald C0 hK hW 63 LY_X8_63 rfl rfl hb (by rw [hne]; exact hPP n hn) dX8_undo_47 ?_
    have e2 : gp I [(0, 11, undoAt (I 0 11)), (0, 12, I 0 12 - 1), (4, 2, I 4 2), (4, 3, I 4 3), (4, 4, I 4 4)] (64 + 3 * n) 2 = I (64 + 3 * n) 2 := gp_far (a := 64) (b := 112) rfl (by omega) (by omega) 2
    have e3 : gp I [(0, 11, undoAt (I 0 11)), (0, 12, I 0 12 - 1), (4, 2, I 4 2), (4, 3, I 4 3), (4, 4, I 4 4)] (64 + 3 * n) 3 = I (64 + 3 * n) 3 := gp_far (a := 64) (b := 112) rfl (by omega) (by omega) 3
    have e4 : gp I [(0, 11, undoAt (I 0 11)), (0, 12, I 0 12 - 1), (4, 2, I 4 2), (4, 3, I 4 3), (4, 4, I 4 4)] (64 + 3 * n) 4 = I (64 + 3 * n) 4 := gp_far (a := 64) (b := 112) rfl (by omega) (by omega) 4
    have e5 : gm A [(5, A 5), (6, A 6)] (65 + 3 * n) = A (65 + 3 * n) := gm_far (a := 64) (b := 112) rfl (by omega) (by omega)
    have e6 : gm A [(5, A 5), (6, A 6)] (66 + 3 * n) = A (66 + 3 * n) := gm_far (a := 64) (b := 112) rfl (by omega) (by omega)
    rw [← e2, ← e3, ← e4, ← e5, ← e6] at hy
    refine c_Vv C0 hK hN hl.1 hW hA (KX4_copyFrom l D cy (fun q => ad ((plU n).getD q 0)) (fun q => P ((plU n).getD q 0)) (fun q => Vx LY_X8 ad V ((plU n).getD q 0)) (fun q => gp I [(0, 11, undoAt (I 0 11)), (0, 12, I 0 12 - 1), (4, 2, I 4 2), (4, 3, I 4 3), (4, 4, I 4 4)] ((plU n).getD q 0)) (fun q => gp J [] ((plU n).getD q 0)) (fun q => gm A [(5, A 5), (6, A 6)] ((plU n).getD q 0)) (fun q => gm B [] ((plU n).getD q 0)) hy) (JN_subC (pl := plU n) (sbU n hn) (ndU n hn) rfl rfl rfl rfl rfl rfl rfl rfl) (Uw_V uw_695 uw_696 uw_697 uw_7 uw_698) rfl rfl hd_X4_copyFrom ⟨rfl, rfl⟩ rfl (dn_some LY_X8_4) rfl rfl rfl dX8_undo_48 ⟨Nat.zero_le _, Nat.zero_le _⟩ (fun H locs hW => ?_)
    have hW : wd D (dn cy LY_X8 ad P V (gp I [(0, 11, undoAt (I 0 11)), (0, 12, I 0 12 - 1), (4, 2, y.1), (4, 3, y.2.1), (4, 4, y.2.2.1)]) (gp J []) (gm A [(5, y.2.2.2.1), (6, y.2.2.2.2)]) (gm B [])) Af s.heap H locs := hW
    refine lv_iconst (v := 1) C0.1 C0.2.1 dX8_undo_51 kI_1 ?_
    exact r_bool C0 hK hW (v' := 1) rfl dX8_undo_52
  · have hf := ite_t hc hf
    obtain rfl := Option.some.inj hf
    refine lv_iconst (v := 0) C0.1 C0.2.1 dX8_undo_7 kI_0 ?_
    exact r_bool C0 hK hW (v' := 0) rfl dX8_undo_8
