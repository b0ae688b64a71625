-- X6_readHole
def rmX6_readHole : Room := { frames := 6, cells := 0, slots := 0, locals := 128 }
def fX6_readHole (t_guests : Int32) (p_length : Int32) (p_signs : (Nat → Int32)) (t_guestNames : (Nat → Int64)) (p_words : (Nat → Int64)) (t_holes : Int32) (p_behind : Int32) (p_place : Int32) (p_takenPlace : Int32) (p_token : Int32) (p_number : Int32) (p_fault : Int32) (p_name : Int64) (t_holeFlags : (Nat → Int32)) (t_coalTold : (Nat → Int32)) (t_burns : (Nat → Int32)) (t_holeNames : (Nat → Int64)) : Option (Int32 × Int32 × Int32 × Int32 × Int32 × Int32 × Int32 × Int64 × (Nat → Int32) × (Nat → Int32) × (Nat → Int32) × (Nat → Int64)) := if t_holes < 5 then (Option.bind (fX5_next p_length p_signs p_words p_behind p_place p_takenPlace p_token p_number p_name) fun y2 => (Option.bind (fX6_readNewName t_holes t_guests p_length p_signs t_holeNames t_guestNames p_words y2.1 y2.2.1 y2.2.2.1 y2.2.2.2.1 y2.2.2.2.2.1 p_fault y2.2.2.2.2.2) fun y3 => (bif inb t_holes 5 then (Option.bind (fX5_expect p_length p_signs p_words y3.2.1 y3.2.2.1 y3.2.2.2.1 y3.2.2.2.2.1 y3.2.2.2.2.2.1 y3.2.2.2.2.2.2.1 y3.2.2.2.2.2.2.2 129) fun y5 => (Option.bind (fX5_expectNumber p_length p_signs p_words y5.1 y5.2.1 y5.2.2.1 y5.2.2.2.1 y5.2.2.2.2.1 y5.2.2.2.2.2.1 y5.2.2.2.2.2.2 0 9) fun y6 => (bif inb t_holes 5 then (Option.bind (fX5_expect p_length p_signs p_words y6.2.1 y6.2.2.1 y6.2.2.2.1 y6.2.2.2.2.1 y6.2.2.2.2.2.1 y6.2.2.2.2.2.2.1 y6.2.2.2.2.2.2.2 130) fun y8 => (Option.bind (fX5_expectNumber p_length p_signs p_words y8.1 y8.2.1 y8.2.2.1 y8.2.2.2.1 y8.2.2.2.2.1 y8.2.2.2.2.2.1 y8.2.2.2.2.2.2 0 60) fun y9 => (bif inb t_holes 5 then (Option.bind (fX5_expect p_length p_signs p_words y9.2.1 y9.2.2.1 y9.2.2.2.1 y9.2.2.2.2.1 y9.2.2.2.2.2.1 y9.2.2.2.2.2.2.1 y9.2.2.2.2.2.2.2 131) fun y11 => (Option.bind (fX5_expectNumber p_length p_signs p_words y11.1 y11.2.1 y11.2.2.1 y11.2.2.2.1 y11.2.2.2.2.1 y11.2.2.2.2.2.1 y11.2.2.2.2.2.2 0 9) fun y12 => (bif inb t_holes 5 then (some ((t_holes + 1), y12.2.1, y12.2.2.1, y12.2.2.2.1, y12.2.2.2.2.1, y12.2.2.2.2.2.1, y12.2.2.2.2.2.2.1, y12.2.2.2.2.2.2.2, (upd t_holeFlags (Int32.toNatClampNeg t_holes) y6.1), (upd t_coalTold (Int32.toNatClampNeg t_holes) y9.1), (upd t_burns (Int32.toNatClampNeg t_holes) y12.1), (vp_updL t_holeNames (Int32.toNatClampNeg t_holes) y3.1))) else none))) else none))) else none))) else none))) else (Option.bind (fX5_refuse p_place p_fault 5) fun y14 => (some (t_holes, p_behind, p_place, p_takenPlace, p_token, p_number, y14, p_name, t_holeFlags, t_coalTold, t_burns, t_holeNames)))
set_option maxHeartbeats 4000000 in
set_option maxRecDepth 100000 in
theorem KX6_readHole (l : Launch) (D : va_G) (cy : Nat → ClassId) (ad : Nat → Nat) (P : MP) (V : MV) (I : MI) (J : MJ) (A : MI) (B : MJ) {res : Int32 × Int32 × Int32 × Int32 × Int32 × Int32 × Int32 × Int64 × (Nat → Int32) × (Nat → Int32) × (Nat → Int32) × (Nat → Int64)} (hf : fX6_readHole (I 0 14) (I 15 6) (A 16) (B 2) (B 17) (I 0 13) (I 15 2) (I 15 3) (I 15 4) (I 15 7) (I 15 8) (I 15 9) (J 15 5) (A 5) (A 6) (A 7) (B 1) = some res) : CG l yX6_readHole cX6_readHole 2 none rmX6_readHole D cy (dn cy LY_X6X5 ad P V I J A B) [.ref (ad 0), .ref (ad 15)] none (dn cy LY_X6X5 ad P V (gp I [(0, 13, res.1), (15, 2, res.2.1), (15, 3, res.2.2.1), (15, 4, res.2.2.2.1), (15, 7, res.2.2.2.2.1), (15, 8, res.2.2.2.2.2.1), (15, 9, res.2.2.2.2.2.2.1)]) (gp J [(15, 5, res.2.2.2.2.2.2.2.1)]) (gm A [(5, res.2.2.2.2.2.2.2.2.1), (6, res.2.2.2.2.2.2.2.2.2.1), (7, res.2.2.2.2.2.2.2.2.2.2.1)]) (gm B [(1, res.2.2.2.2.2.2.2.2.2.2.2)])) := by
  refine CG.of (own := RX6) (by decide) rfl rfl ?_
  intro p e s m below meth c ls Af C0 hK hN hA hW hl
  have hW : wd D (dn cy LY_X6X5 ad P V (gp I [(0, 13, (I 0 13)), (15, 2, (I 15 2)), (15, 3, (I 15 3)), (15, 4, (I 15 4)), (15, 7, (I 15 7)), (15, 8, (I 15 8)), (15, 9, (I 15 9))]) (gp J [(15, 5, (J 15 5))]) (gm A [(5, (A 5)), (6, (A 6)), (7, (A 7))]) (gm B [(1, (B 1))])) Af s.heap s.heap [] := wd_sel [(0, 13), (15, 2), (15, 3), (15, 4), (15, 7), (15, 8), (15, 9)] [(15, 5)] [5, 6, 7] [1] hW
  have hl : lv_has ls 2 [(0, .ref (ad 0)), (1, .ref (ad 15))] := hl
  unfold fX6_readHole at hf
  refine lv_aload_n C0.1 C0.2.1 dX6_readHole_0 rfl (lv_at hl 0 rfl) ?_
  refine s_get (v := .int (I 0 13)) C0 hK hW 0 13 LY_X6X5_0 rfl fg_X6_107 rfl dX6_readHole_1 ?_
  refine lv_iconst (v := 5) C0.1 C0.2.1 dX6_readHole_4 kI_5 ?_
  refine lv_icmp_lt (tgt := 14) C0.1 C0.2.1 dX6_readHole_5 (by decide) (fun hc1 => ?_) (fun hc1 => ?_)
  · have hf := ite_t hc1 hf
    refine lv_aload_n C0.1 C0.2.1 dX6_readHole_14 rfl (lv_at hl 1 rfl) ?_
    obtain ⟨y2, hy2, hf⟩ := b_some hf
    refine c_Vv C0 hK hN hl.1 hW hA (KX5_next l D cy  (fun q => ad (pl_LY_X6X5_LY_X5_15_16_17.getD q 0)) (fun q => P (pl_LY_X6X5_LY_X5_15_16_17.getD q 0)) (fun q => Vx LY_X6X5 ad V (pl_LY_X6X5_LY_X5_15_16_17.getD q 0)) (fun q => gp I [(0, 13, (I 0 13)), (15, 2, (I 15 2)), (15, 3, (I 15 3)), (15, 4, (I 15 4)), (15, 7, (I 15 7)), (15, 8, (I 15 8)), (15, 9, (I 15 9))] (pl_LY_X6X5_LY_X5_15_16_17.getD q 0)) (fun q => gp J [(15, 5, (J 15 5))] (pl_LY_X6X5_LY_X5_15_16_17.getD q 0)) (fun q => gm A [(5, (A 5)), (6, (A 6)), (7, (A 7))] (pl_LY_X6X5_LY_X5_15_16_17.getD q 0)) (fun q => gm B [(1, (B 1))] (pl_LY_X6X5_LY_X5_15_16_17.getD q 0))  hy2) (JN_subC (pl := pl_LY_X6X5_LY_X5_15_16_17) sb_LY_X6X5_LY_X5_15_16_17 rfl rfl rfl rfl rfl rfl rfl rfl rfl) (Uw_V uw_488 uw_455 uw_456 uw_2 uw_457) rfl rfl hd_X5_next ⟨rfl, rfl⟩ rfl (dn_some LY_X6X5_15) rfl rfl rfl dX6_readHole_15 ⟨Nat.zero_le _, Nat.zero_le _⟩ (fun H locs hW => ?_)
    have hW : wd D (dn cy LY_X6X5 ad P V (gp I [(0, 13, (I 0 13)), (15, 2, y2.1), (15, 3, y2.2.1), (15, 4, y2.2.2.1), (15, 7, y2.2.2.2.1), (15, 8, y2.2.2.2.2.1), (15, 9, (I 15 9))]) (gp J [(15, 5, y2.2.2.2.2.2)]) (gm A [(5, (A 5)), (6, (A 6)), (7, (A 7))]) (gm B [(1, (B 1))])) Af s.heap H locs := hW
    refine lv_aload_n C0.1 C0.2.1 dX6_readHole_18 rfl (lv_at hl 0 rfl) ?_
    refine s_get (v := .ref (ad 1)) C0 hK hW 0 0 LY_X6X5_0 rfl fg_X6_9 rfl dX6_readHole_19 ?_
    refine lv_aload_n C0.1 C0.2.1 dX6_readHole_22 rfl (lv_at hl 0 rfl) ?_
    refine s_get (v := .int (I 0 13)) C0 hK hW 0 13 LY_X6X5_0 rfl fg_X6_107 rfl dX6_readHole_23 ?_
    refine lv_aload_n C0.1 C0.2.1 dX6_readHole_26 rfl (lv_at hl 0 rfl) ?_
    refine lv_aload_n C0.1 C0.2.1 dX6_readHole_27 rfl (lv_at hl 1 rfl) ?_
    obtain ⟨y3, hy3, hf⟩ := b_some hf
    refine c_Vl C0 hK hN hl.1 hW hA (KX6_readNewName l D cy  ad P V (gp I [(0, 13, (I 0 13)), (15, 2, y2.1), (15, 3, y2.2.1), (15, 4, y2.2.2.1), (15, 7, y2.2.2.2.1), (15, 8, y2.2.2.2.2.1), (15, 9, (I 15 9))]) (gp J [(15, 5, y2.2.2.2.2.2)]) (gm A [(5, (A 5)), (6, (A 6)), (7, (A 7))]) (gm B [(1, (B 1))])  hy3) (JN_id rfl rfl rfl rfl) (Uw_V uw_489 uw_491 us_7 uw_10 uw_492) rfl rfl hd_X6_readNewName ⟨rfl, rfl⟩ rfl (dn_some LY_X6X5_0) rfl rfl rfl dX6_readHole_28 ⟨Nat.zero_le _, Nat.zero_le _⟩ (fun H locs hW => ?_)
    have hW : wd D (dn cy LY_X6X5 ad P V (gp I [(0, 13, (I 0 13)), (15, 2, y3.2.1), (15, 3, y3.2.2.1), (15, 4, y3.2.2.2.1), (15, 7, y3.2.2.2.2.1), (15, 8, y3.2.2.2.2.2.1), (15, 9, y3.2.2.2.2.2.2.1)]) (gp J [(15, 5, y3.2.2.2.2.2.2.2)]) (gm A [(5, (A 5)), (6, (A 6)), (7, (A 7))]) (gm B [(1, (B 1))])) Af s.heap H locs := hW
    obtain ⟨hb4, hf⟩ := g_some hf
    refine s_last (f := (vp_updL (B 1) (Int32.toNatClampNeg (I 0 13)) y3.1)) C0 hK hW 1 LY_X6X5_1 hb4 rfl rfl dX6_readHole_31 (fun H locs hW => ?_)
    have hW : wd D (dn cy LY_X6X5 ad P V (gp I [(0, 13, (I 0 13)), (15, 2, y3.2.1), (15, 3, y3.2.2.1), (15, 4, y3.2.2.2.1), (15, 7, y3.2.2.2.2.1), (15, 8, y3.2.2.2.2.2.1), (15, 9, y3.2.2.2.2.2.2.1)]) (gp J [(15, 5, y3.2.2.2.2.2.2.2)]) (gm A [(5, (A 5)), (6, (A 6)), (7, (A 7))]) (gm B [(1, (vp_updL (B 1) (Int32.toNatClampNeg (I 0 13)) y3.1))])) Af s.heap H locs := hW
    refine lv_aload_n C0.1 C0.2.1 dX6_readHole_32 rfl (lv_at hl 1 rfl) ?_
    refine lv_sipush (v := 129) C0.1 C0.2.1 dX6_readHole_33 kS_129 ?_
    obtain ⟨y5, hy5, hf⟩ := b_some hf
    refine c_Vv C0 hK hN hl.1 hW hA (KX5_expect l D cy  (fun q => ad (pl_LY_X6X5_LY_X5_15_16_17.getD q 0)) (fun q => P (pl_LY_X6X5_LY_X5_15_16_17.getD q 0)) (fun q => Vx LY_X6X5 ad V (pl_LY_X6X5_LY_X5_15_16_17.getD q 0)) (fun q => gp I [(0, 13, (I 0 13)), (15, 2, y3.2.1), (15, 3, y3.2.2.1), (15, 4, y3.2.2.2.1), (15, 7, y3.2.2.2.2.1), (15, 8, y3.2.2.2.2.2.1), (15, 9, y3.2.2.2.2.2.2.1)] (pl_LY_X6X5_LY_X5_15_16_17.getD q 0)) (fun q => gp J [(15, 5, y3.2.2.2.2.2.2.2)] (pl_LY_X6X5_LY_X5_15_16_17.getD q 0)) (fun q => gm A [(5, (A 5)), (6, (A 6)), (7, (A 7))] (pl_LY_X6X5_LY_X5_15_16_17.getD q 0)) (fun q => gm B [(1, (vp_updL (B 1) (Int32.toNatClampNeg (I 0 13)) y3.1))] (pl_LY_X6X5_LY_X5_15_16_17.getD q 0)) 129 hy5) (JN_subC (pl := pl_LY_X6X5_LY_X5_15_16_17) sb_LY_X6X5_LY_X5_15_16_17 rfl rfl rfl rfl rfl rfl rfl rfl rfl) (Uw_V uw_511 uw_512 uw_513 uw_2 uw_514) rfl rfl hd_X5_expect ⟨rfl, rfl⟩ rfl (dn_some LY_X6X5_15) rfl rfl rfl dX6_readHole_36 ⟨Nat.zero_le _, Nat.zero_le _⟩ (fun H locs hW => ?_)
    have hW : wd D (dn cy LY_X6X5 ad P V (gp I [(0, 13, (I 0 13)), (15, 2, y5.1), (15, 3, y5.2.1), (15, 4, y5.2.2.1), (15, 7, y5.2.2.2.1), (15, 8, y5.2.2.2.2.1), (15, 9, y5.2.2.2.2.2.1)]) (gp J [(15, 5, y5.2.2.2.2.2.2)]) (gm A [(5, (A 5)), (6, (A 6)), (7, (A 7))]) (gm B [(1, (vp_updL (B 1) (Int32.toNatClampNeg (I 0 13)) y3.1))])) Af s.heap H locs := hW
    refine lv_aload_n C0.1 C0.2.1 dX6_readHole_39 rfl (lv_at hl 0 rfl) ?_
    refine s_get (v := .ref (ad 5)) C0 hK hW 0 5 LY_X6X5_0 rfl fg_X6_25 rfl dX6_readHole_40 ?_
    refine lv_aload_n C0.1 C0.2.1 dX6_readHole_43 rfl (lv_at hl 0 rfl) ?_
    refine s_get (v := .int (I 0 13)) C0 hK hW 0 13 LY_X6X5_0 rfl fg_X6_107 rfl dX6_readHole_44 ?_
    refine lv_aload_n C0.1 C0.2.1 dX6_readHole_47 rfl (lv_at hl 1 rfl) ?_
    refine lv_iconst (v := 0) C0.1 C0.2.1 dX6_readHole_48 kI_0 ?_
    refine lv_bipush (v := 9) C0.1 C0.2.1 dX6_readHole_49 kB_9 ?_
    obtain ⟨y6, hy6, hf⟩ := b_some hf
    refine c_Vi C0 hK hN hl.1 hW hA (KX5_expectNumber l D cy  (fun q => ad (pl_LY_X6X5_LY_X5_15_16_17.getD q 0)) (fun q => P (pl_LY_X6X5_LY_X5_15_16_17.getD q 0)) (fun q => Vx LY_X6X5 ad V (pl_LY_X6X5_LY_X5_15_16_17.getD q 0)) (fun q => gp I [(0, 13, (I 0 13)), (15, 2, y5.1), (15, 3, y5.2.1), (15, 4, y5.2.2.1), (15, 7, y5.2.2.2.1), (15, 8, y5.2.2.2.2.1), (15, 9, y5.2.2.2.2.2.1)] (pl_LY_X6X5_LY_X5_15_16_17.getD q 0)) (fun q => gp J [(15, 5, y5.2.2.2.2.2.2)] (pl_LY_X6X5_LY_X5_15_16_17.getD q 0)) (fun q => gm A [(5, (A 5)), (6, (A 6)), (7, (A 7))] (pl_LY_X6X5_LY_X5_15_16_17.getD q 0)) (fun q => gm B [(1, (vp_updL (B 1) (Int32.toNatClampNeg (I 0 13)) y3.1))] (pl_LY_X6X5_LY_X5_15_16_17.getD q 0)) 0 9 hy6) (JN_subC (pl := pl_LY_X6X5_LY_X5_15_16_17) sb_LY_X6X5_LY_X5_15_16_17 rfl rfl rfl rfl rfl rfl rfl rfl rfl) (Uw_V uw_515 uw_516 uw_517 uw_2 uw_518) rfl rfl hd_X5_expectNumber ⟨rfl, rfl⟩ rfl (dn_some LY_X6X5_15) rfl rfl rfl dX6_readHole_51 ⟨Nat.zero_le _, Nat.zero_le _⟩ (fun H locs hW => ?_)
    have hW : wd D (dn cy LY_X6X5 ad P V (gp I [(0, 13, (I 0 13)), (15, 2, y6.2.1), (15, 3, y6.2.2.1), (15, 4, y6.2.2.2.1), (15, 7, y6.2.2.2.2.1), (15, 8, y6.2.2.2.2.2.1), (15, 9, y6.2.2.2.2.2.2.1)]) (gp J [(15, 5, y6.2.2.2.2.2.2.2)]) (gm A [(5, (A 5)), (6, (A 6)), (7, (A 7))]) (gm B [(1, (vp_updL (B 1) (Int32.toNatClampNeg (I 0 13)) y3.1))])) Af s.heap H locs := hW
    obtain ⟨hb7, hf⟩ := g_some hf
    refine s_iast (f := (upd (A 5) (Int32.toNatClampNeg (I 0 13)) y6.1)) C0 hK hW 5 LY_X6X5_5 hb7 rfl rfl dX6_readHole_54 (fun H locs hW => ?_)
    have hW : wd D (dn cy LY_X6X5 ad P V (gp I [(0, 13, (I 0 13)), (15, 2, y6.2.1), (15, 3, y6.2.2.1), (15, 4, y6.2.2.2.1), (15, 7, y6.2.2.2.2.1), (15, 8, y6.2.2.2.2.2.1), (15, 9, y6.2.2.2.2.2.2.1)]) (gp J [(15, 5, y6.2.2.2.2.2.2.2)]) (gm A [(5, (upd (A 5) (Int32.toNatClampNeg (I 0 13)) y6.1)), (6, (A 6)), (7, (A 7))]) (gm B [(1, (vp_updL (B 1) (Int32.toNatClampNeg (I 0 13)) y3.1))])) Af s.heap H locs := hW
    refine lv_aload_n C0.1 C0.2.1 dX6_readHole_55 rfl (lv_at hl 1 rfl) ?_
    refine lv_sipush (v := 130) C0.1 C0.2.1 dX6_readHole_56 kS_130 ?_
    obtain ⟨y8, hy8, hf⟩ := b_some hf
    refine c_Vv C0 hK hN hl.1 hW hA (KX5_expect l D cy  (fun q => ad (pl_LY_X6X5_LY_X5_15_16_17.getD q 0)) (fun q => P (pl_LY_X6X5_LY_X5_15_16_17.getD q 0)) (fun q => Vx LY_X6X5 ad V (pl_LY_X6X5_LY_X5_15_16_17.getD q 0)) (fun q => gp I [(0, 13, (I 0 13)), (15, 2, y6.2.1), (15, 3, y6.2.2.1), (15, 4, y6.2.2.2.1), (15, 7, y6.2.2.2.2.1), (15, 8, y6.2.2.2.2.2.1), (15, 9, y6.2.2.2.2.2.2.1)] (pl_LY_X6X5_LY_X5_15_16_17.getD q 0)) (fun q => gp J [(15, 5, y6.2.2.2.2.2.2.2)] (pl_LY_X6X5_LY_X5_15_16_17.getD q 0)) (fun q => gm A [(5, (upd (A 5) (Int32.toNatClampNeg (I 0 13)) y6.1)), (6, (A 6)), (7, (A 7))] (pl_LY_X6X5_LY_X5_15_16_17.getD q 0)) (fun q => gm B [(1, (vp_updL (B 1) (Int32.toNatClampNeg (I 0 13)) y3.1))] (pl_LY_X6X5_LY_X5_15_16_17.getD q 0)) 130 hy8) (JN_subC (pl := pl_LY_X6X5_LY_X5_15_16_17) sb_LY_X6X5_LY_X5_15_16_17 rfl rfl rfl rfl rfl rfl rfl rfl rfl) (Uw_V uw_511 uw_512 uw_513 uw_2 uw_514) rfl rfl hd_X5_expect ⟨rfl, rfl⟩ rfl (dn_some LY_X6X5_15) rfl rfl rfl dX6_readHole_59 ⟨Nat.zero_le _, Nat.zero_le _⟩ (fun H locs hW => ?_)
    have hW : wd D (dn cy LY_X6X5 ad P V (gp I [(0, 13, (I 0 13)), (15, 2, y8.1), (15, 3, y8.2.1), (15, 4, y8.2.2.1), (15, 7, y8.2.2.2.1), (15, 8, y8.2.2.2.2.1), (15, 9, y8.2.2.2.2.2.1)]) (gp J [(15, 5, y8.2.2.2.2.2.2)]) (gm A [(5, (upd (A 5) (Int32.toNatClampNeg (I 0 13)) y6.1)), (6, (A 6)), (7, (A 7))]) (gm B [(1, (vp_updL (B 1) (Int32.toNatClampNeg (I 0 13)) y3.1))])) Af s.heap H locs := hW
    refine lv_aload_n C0.1 C0.2.1 dX6_readHole_62 rfl (lv_at hl 0 rfl) ?_
    refine s_get (v := .ref (ad 6)) C0 hK hW 0 6 LY_X6X5_0 rfl fg_X6_28 rfl dX6_readHole_63 ?_
    refine lv_aload_n C0.1 C0.2.1 dX6_readHole_66 rfl (lv_at hl 0 rfl) ?_
    refine s_get (v := .int (I 0 13)) C0 hK hW 0 13 LY_X6X5_0 rfl fg_X6_107 rfl dX6_readHole_67 ?_
    refine lv_aload_n C0.1 C0.2.1 dX6_readHole_70 rfl (lv_at hl 1 rfl) ?_
    refine lv_iconst (v := 0) C0.1 C0.2.1 dX6_readHole_71 kI_0 ?_
    refine lv_bipush (v := 60) C0.1 C0.2.1 dX6_readHole_72 kB_60 ?_
    obtain ⟨y9, hy9, hf⟩ := b_some hf
    refine c_Vi C0 hK hN hl.1 hW hA (KX5_expectNumber l D cy  (fun q => ad (pl_LY_X6X5_LY_X5_15_16_17.getD q 0)) (fun q => P (pl_LY_X6X5_LY_X5_15_16_17.getD q 0)) (fun q => Vx LY_X6X5 ad V (pl_LY_X6X5_LY_X5_15_16_17.getD q 0)) (fun q => gp I [(0, 13, (I 0 13)), (15, 2, y8.1), (15, 3, y8.2.1), (15, 4, y8.2.2.1), (15, 7, y8.2.2.2.1), (15, 8, y8.2.2.2.2.1), (15, 9, y8.2.2.2.2.2.1)] (pl_LY_X6X5_LY_X5_15_16_17.getD q 0)) (fun q => gp J [(15, 5, y8.2.2.2.2.2.2)] (pl_LY_X6X5_LY_X5_15_16_17.getD q 0)) (fun q => gm A [(5, (upd (A 5) (Int32.toNatClampNeg (I 0 13)) y6.1)), (6, (A 6)), (7, (A 7))] (pl_LY_X6X5_LY_X5_15_16_17.getD q 0)) (fun q => gm B [(1, (vp_updL (B 1) (Int32.toNatClampNeg (I 0 13)) y3.1))] (pl_LY_X6X5_LY_X5_15_16_17.getD q 0)) 0 60 hy9) (JN_subC (pl := pl_LY_X6X5_LY_X5_15_16_17) sb_LY_X6X5_LY_X5_15_16_17 rfl rfl rfl rfl rfl rfl rfl rfl rfl) (Uw_V uw_515 uw_516 uw_517 uw_2 uw_518) rfl rfl hd_X5_expectNumber ⟨rfl, rfl⟩ rfl (dn_some LY_X6X5_15) rfl rfl rfl dX6_readHole_74 ⟨Nat.zero_le _, Nat.zero_le _⟩ (fun H locs hW => ?_)
    have hW : wd D (dn cy LY_X6X5 ad P V (gp I [(0, 13, (I 0 13)), (15, 2, y9.2.1), (15, 3, y9.2.2.1), (15, 4, y9.2.2.2.1), (15, 7, y9.2.2.2.2.1), (15, 8, y9.2.2.2.2.2.1), (15, 9, y9.2.2.2.2.2.2.1)]) (gp J [(15, 5, y9.2.2.2.2.2.2.2)]) (gm A [(5, (upd (A 5) (Int32.toNatClampNeg (I 0 13)) y6.1)), (6, (A 6)), (7, (A 7))]) (gm B [(1, (vp_updL (B 1) (Int32.toNatClampNeg (I 0 13)) y3.1))])) Af s.heap H locs := hW
    obtain ⟨hb10, hf⟩ := g_some hf
    refine s_iast (f := (upd (A 6) (Int32.toNatClampNeg (I 0 13)) y9.1)) C0 hK hW 6 LY_X6X5_6 hb10 rfl rfl dX6_readHole_77 (fun H locs hW => ?_)
    have hW : wd D (dn cy LY_X6X5 ad P V (gp I [(0, 13, (I 0 13)), (15, 2, y9.2.1), (15, 3, y9.2.2.1), (15, 4, y9.2.2.2.1), (15, 7, y9.2.2.2.2.1), (15, 8, y9.2.2.2.2.2.1), (15, 9, y9.2.2.2.2.2.2.1)]) (gp J [(15, 5, y9.2.2.2.2.2.2.2)]) (gm A [(5, (upd (A 5) (Int32.toNatClampNeg (I 0 13)) y6.1)), (6, (upd (A 6) (Int32.toNatClampNeg (I 0 13)) y9.1)), (7, (A 7))]) (gm B [(1, (vp_updL (B 1) (Int32.toNatClampNeg (I 0 13)) y3.1))])) Af s.heap H locs := hW
    refine lv_aload_n C0.1 C0.2.1 dX6_readHole_78 rfl (lv_at hl 1 rfl) ?_
    refine lv_sipush (v := 131) C0.1 C0.2.1 dX6_readHole_79 kS_131 ?_
    obtain ⟨y11, hy11, hf⟩ := b_some hf
    refine c_Vv C0 hK hN hl.1 hW hA (KX5_expect l D cy  (fun q => ad (pl_LY_X6X5_LY_X5_15_16_17.getD q 0)) (fun q => P (pl_LY_X6X5_LY_X5_15_16_17.getD q 0)) (fun q => Vx LY_X6X5 ad V (pl_LY_X6X5_LY_X5_15_16_17.getD q 0)) (fun q => gp I [(0, 13, (I 0 13)), (15, 2, y9.2.1), (15, 3, y9.2.2.1), (15, 4, y9.2.2.2.1), (15, 7, y9.2.2.2.2.1), (15, 8, y9.2.2.2.2.2.1), (15, 9, y9.2.2.2.2.2.2.1)] (pl_LY_X6X5_LY_X5_15_16_17.getD q 0)) (fun q => gp J [(15, 5, y9.2.2.2.2.2.2.2)] (pl_LY_X6X5_LY_X5_15_16_17.getD q 0)) (fun q => gm A [(5, (upd (A 5) (Int32.toNatClampNeg (I 0 13)) y6.1)), (6, (upd (A 6) (Int32.toNatClampNeg (I 0 13)) y9.1)), (7, (A 7))] (pl_LY_X6X5_LY_X5_15_16_17.getD q 0)) (fun q => gm B [(1, (vp_updL (B 1) (Int32.toNatClampNeg (I 0 13)) y3.1))] (pl_LY_X6X5_LY_X5_15_16_17.getD q 0)) 131 hy11) (JN_subC (pl := pl_LY_X6X5_LY_X5_15_16_17) sb_LY_X6X5_LY_X5_15_16_17 rfl rfl rfl rfl rfl rfl rfl rfl rfl) (Uw_V uw_511 uw_512 uw_513 uw_2 uw_514) rfl rfl hd_X5_expect ⟨rfl, rfl⟩ rfl (dn_some LY_X6X5_15) rfl rfl rfl dX6_readHole_82 ⟨Nat.zero_le _, Nat.zero_le _⟩ (fun H locs hW => ?_)
    have hW : wd D (dn cy LY_X6X5 ad P V (gp I [(0, 13, (I 0 13)), (15, 2, y11.1), (15, 3, y11.2.1), (15, 4, y11.2.2.1), (15, 7, y11.2.2.2.1), (15, 8, y11.2.2.2.2.1), (15, 9, y11.2.2.2.2.2.1)]) (gp J [(15, 5, y11.2.2.2.2.2.2)]) (gm A [(5, (upd (A 5) (Int32.toNatClampNeg (I 0 13)) y6.1)), (6, (upd (A 6) (Int32.toNatClampNeg (I 0 13)) y9.1)), (7, (A 7))]) (gm B [(1, (vp_updL (B 1) (Int32.toNatClampNeg (I 0 13)) y3.1))])) Af s.heap H locs := hW
    refine lv_aload_n C0.1 C0.2.1 dX6_readHole_85 rfl (lv_at hl 0 rfl) ?_
    refine s_get (v := .ref (ad 7)) C0 hK hW 0 7 LY_X6X5_0 rfl fg_X6_31 rfl dX6_readHole_86 ?_
    refine lv_aload_n C0.1 C0.2.1 dX6_readHole_89 rfl (lv_at hl 0 rfl) ?_
    refine s_get (v := .int (I 0 13)) C0 hK hW 0 13 LY_X6X5_0 rfl fg_X6_107 rfl dX6_readHole_90 ?_
    refine lv_aload_n C0.1 C0.2.1 dX6_readHole_93 rfl (lv_at hl 1 rfl) ?_
    refine lv_iconst (v := 0) C0.1 C0.2.1 dX6_readHole_94 kI_0 ?_
    refine lv_bipush (v := 9) C0.1 C0.2.1 dX6_readHole_95 kB_9 ?_
    obtain ⟨y12, hy12, hf⟩ := b_some hf
    refine c_Vi C0 hK hN hl.1 hW hA (KX5_expectNumber l D cy  (fun q => ad (pl_LY_X6X5_LY_X5_15_16_17.getD q 0)) (fun q => P (pl_LY_X6X5_LY_X5_15_16_17.getD q 0)) (fun q => Vx LY_X6X5 ad V (pl_LY_X6X5_LY_X5_15_16_17.getD q 0)) (fun q => gp I [(0, 13, (I 0 13)), (15, 2, y11.1), (15, 3, y11.2.1), (15, 4, y11.2.2.1), (15, 7, y11.2.2.2.1), (15, 8, y11.2.2.2.2.1), (15, 9, y11.2.2.2.2.2.1)] (pl_LY_X6X5_LY_X5_15_16_17.getD q 0)) (fun q => gp J [(15, 5, y11.2.2.2.2.2.2)] (pl_LY_X6X5_LY_X5_15_16_17.getD q 0)) (fun q => gm A [(5, (upd (A 5) (Int32.toNatClampNeg (I 0 13)) y6.1)), (6, (upd (A 6) (Int32.toNatClampNeg (I 0 13)) y9.1)), (7, (A 7))] (pl_LY_X6X5_LY_X5_15_16_17.getD q 0)) (fun q => gm B [(1, (vp_updL (B 1) (Int32.toNatClampNeg (I 0 13)) y3.1))] (pl_LY_X6X5_LY_X5_15_16_17.getD q 0)) 0 9 hy12) (JN_subC (pl := pl_LY_X6X5_LY_X5_15_16_17) sb_LY_X6X5_LY_X5_15_16_17 rfl rfl rfl rfl rfl rfl rfl rfl rfl) (Uw_V uw_515 uw_516 uw_517 uw_2 uw_518) rfl rfl hd_X5_expectNumber ⟨rfl, rfl⟩ rfl (dn_some LY_X6X5_15) rfl rfl rfl dX6_readHole_97 ⟨Nat.zero_le _, Nat.zero_le _⟩ (fun H locs hW => ?_)
    have hW : wd D (dn cy LY_X6X5 ad P V (gp I [(0, 13, (I 0 13)), (15, 2, y12.2.1), (15, 3, y12.2.2.1), (15, 4, y12.2.2.2.1), (15, 7, y12.2.2.2.2.1), (15, 8, y12.2.2.2.2.2.1), (15, 9, y12.2.2.2.2.2.2.1)]) (gp J [(15, 5, y12.2.2.2.2.2.2.2)]) (gm A [(5, (upd (A 5) (Int32.toNatClampNeg (I 0 13)) y6.1)), (6, (upd (A 6) (Int32.toNatClampNeg (I 0 13)) y9.1)), (7, (A 7))]) (gm B [(1, (vp_updL (B 1) (Int32.toNatClampNeg (I 0 13)) y3.1))])) Af s.heap H locs := hW
    obtain ⟨hb13, hf⟩ := g_some hf
    refine s_iast (f := (upd (A 7) (Int32.toNatClampNeg (I 0 13)) y12.1)) C0 hK hW 7 LY_X6X5_7 hb13 rfl rfl dX6_readHole_100 (fun H locs hW => ?_)
    have hW : wd D (dn cy LY_X6X5 ad P V (gp I [(0, 13, (I 0 13)), (15, 2, y12.2.1), (15, 3, y12.2.2.1), (15, 4, y12.2.2.2.1), (15, 7, y12.2.2.2.2.1), (15, 8, y12.2.2.2.2.2.1), (15, 9, y12.2.2.2.2.2.2.1)]) (gp J [(15, 5, y12.2.2.2.2.2.2.2)]) (gm A [(5, (upd (A 5) (Int32.toNatClampNeg (I 0 13)) y6.1)), (6, (upd (A 6) (Int32.toNatClampNeg (I 0 13)) y9.1)), (7, (upd (A 7) (Int32.toNatClampNeg (I 0 13)) y12.1))]) (gm B [(1, (vp_updL (B 1) (Int32.toNatClampNeg (I 0 13)) y3.1))])) Af s.heap H locs := hW
    refine lv_aload_n C0.1 C0.2.1 dX6_readHole_101 rfl (lv_at hl 0 rfl) ?_
    refine lv_dup C0.1 C0.2.1 dX6_readHole_102 rfl ?_
    refine s_get (v := .int (I 0 13)) C0 hK hW 0 13 LY_X6X5_0 rfl fg_X6_107 rfl dX6_readHole_103 ?_
    refine lv_iconst (v := 1) C0.1 C0.2.1 dX6_readHole_106 kI_1 ?_
    refine lv_iadd C0.1 C0.2.1 dX6_readHole_107 ?_
    refine s_putI C0 hK hW 0 13 LY_X6X5_0 rfl fg_X6_107 fp_X6_13 rfl dX6_readHole_108 (fun H locs hW => ?_)
    have hW : wd D (dn cy LY_X6X5 ad P V (gp I [(0, 13, ((I 0 13) + 1)), (15, 2, y12.2.1), (15, 3, y12.2.2.1), (15, 4, y12.2.2.2.1), (15, 7, y12.2.2.2.2.1), (15, 8, y12.2.2.2.2.2.1), (15, 9, y12.2.2.2.2.2.2.1)]) (gp J [(15, 5, y12.2.2.2.2.2.2.2)]) (gm A [(5, (upd (A 5) (Int32.toNatClampNeg (I 0 13)) y6.1)), (6, (upd (A 6) (Int32.toNatClampNeg (I 0 13)) y9.1)), (7, (upd (A 7) (Int32.toNatClampNeg (I 0 13)) y12.1))]) (gm B [(1, (vp_updL (B 1) (Int32.toNatClampNeg (I 0 13)) y3.1))])) Af s.heap H locs := hW
    obtain rfl := Option.some.inj hf
    exact r_void C0 hK hW dX6_readHole_111
  · have hf := ite_f hc1 hf
    refine lv_aload_n C0.1 C0.2.1 dX6_readHole_8 rfl (lv_at hl 1 rfl) ?_
    refine lv_iconst (v := 5) C0.1 C0.2.1 dX6_readHole_9 kI_5 ?_
    obtain ⟨y14, hy14, hf⟩ := b_some hf
    refine c_Vv C0 hK hN hl.1 hW hA (KX5_refuse l D cy  (fun q => ad (pl_LY_X6X5_LY_X5_15_16_17.getD q 0)) (fun q => P (pl_LY_X6X5_LY_X5_15_16_17.getD q 0)) (fun q => Vx LY_X6X5 ad V (pl_LY_X6X5_LY_X5_15_16_17.getD q 0)) (fun q => gp I [(0, 13, (I 0 13)), (15, 2, (I 15 2)), (15, 3, (I 15 3)), (15, 4, (I 15 4)), (15, 7, (I 15 7)), (15, 8, (I 15 8)), (15, 9, (I 15 9))] (pl_LY_X6X5_LY_X5_15_16_17.getD q 0)) (fun q => gp J [(15, 5, (J 15 5))] (pl_LY_X6X5_LY_X5_15_16_17.getD q 0)) (fun q => gm A [(5, (A 5)), (6, (A 6)), (7, (A 7))] (pl_LY_X6X5_LY_X5_15_16_17.getD q 0)) (fun q => gm B [(1, (B 1))] (pl_LY_X6X5_LY_X5_15_16_17.getD q 0)) 5 hy14) (JN_subC (pl := pl_LY_X6X5_LY_X5_15_16_17) sb_LY_X6X5_LY_X5_15_16_17 rfl rfl rfl rfl rfl rfl rfl rfl rfl) (Uw_V uw_484 uw_485 uw_486 uw_2 uw_487) rfl rfl hd_X5_refuse ⟨rfl, rfl⟩ rfl (dn_some LY_X6X5_15) rfl rfl rfl dX6_readHole_10 ⟨Nat.zero_le _, Nat.zero_le _⟩ (fun H locs hW => ?_)
    have hW : wd D (dn cy LY_X6X5 ad P V (gp I [(0, 13, (I 0 13)), (15, 2, (I 15 2)), (15, 3, (I 15 3)), (15, 4, (I 15 4)), (15, 7, (I 15 7)), (15, 8, (I 15 8)), (15, 9, y14)]) (gp J [(15, 5, (J 15 5))]) (gm A [(5, (A 5)), (6, (A 6)), (7, (A 7))]) (gm B [(1, (B 1))])) Af s.heap H locs := hW
    obtain rfl := Option.some.inj hf
    exact r_void C0 hK hW dX6_readHole_13
-- X6_known
def rmX6_known : Room := { frames := 2, cells := 0, slots := 0, locals := 42 }
def fX6_known (p_takenPlace : Int32) (p_fault : Int32) (v1 : Int32) : Option (Int32 × Int32) := if v1 = (-1) then (Option.bind (fX5_refuseTaken p_takenPlace p_fault 2) fun y2 => (some (v1, y2))) else (some (v1, p_fault))
set_option maxHeartbeats 4000000 in
set_option maxRecDepth 100000 in
theorem KX6_known (l : Launch) (D : va_G) (cy : Nat → ClassId) (ad : Nat → Nat) (P : MP) (V : MV) (I : MI) (J : MJ) (A : MI) (B : MJ) (v1 : Int32) {res : Int32 × Int32} (hf : fX6_known (I 0 4) (I 0 9) v1 = some res) : CG l yX6_known cX6_known 2 (some .int) rmX6_known D cy (dn cy LY_X5 ad P V I J A B) [.ref (ad 0), .int v1] (some (.int res.1)) (dn cy LY_X5 ad P V (gp I [(0, 9, res.2)]) (gp J []) (gm A []) (gm B [])) := by
  refine CG.of (own := RX6) (by decide) rfl rfl ?_
  intro p e s m below meth c ls Af C0 hK hN hA hW hl
  have hW : wd D (dn cy LY_X5 ad P V (gp I [(0, 9, (I 0 9))]) (gp J []) (gm A []) (gm B [])) Af s.heap s.heap [] := wd_sel [(0, 9)] [] [] [] hW
  have hl : lv_has ls 2 [(0, .ref (ad 0)), (1, .int v1)] := hl
  unfold fX6_known at hf
  refine lv_iload_n C0.1 C0.2.1 dX6_known_0 rfl (lv_at hl 1 rfl) ?_
  refine lv_iconst (v := (-1)) C0.1 C0.2.1 dX6_known_1 kI_m1 ?_
  refine lv_icmp_ne (tgt := 10) C0.1 C0.2.1 dX6_known_2 (by decide) (fun hc1 => ?_) (fun hc1 => ?_)
  · have hf := ite_f hc1 hf
    refine lv_iload_n C0.1 C0.2.1 dX6_known_10 rfl (lv_at hl 1 rfl) ?_
    obtain rfl := Option.some.inj hf
    exact r_int C0 hK hW dX6_known_11
  · have hf := ite_t hc1 hf
    refine lv_aload_n C0.1 C0.2.1 dX6_known_5 rfl (lv_at hl 0 rfl) ?_
    refine lv_iconst (v := 2) C0.1 C0.2.1 dX6_known_6 kI_2 ?_
    obtain ⟨y2, hy2, hf⟩ := b_some hf
    refine c_Vv C0 hK hN hl.1 hW hA (KX5_refuseTaken l D cy  ad P V (gp I [(0, 9, (I 0 9))]) (gp J []) (gm A []) (gm B []) 2 hy2) (JN_id rfl rfl rfl rfl) (Uw_V uw_507 uw_508 uw_509 uw_2 uw_510) rfl rfl hd_X5_refuseTaken ⟨rfl, rfl⟩ rfl (dn_some LY_X5_0) rfl rfl rfl dX6_known_7 ⟨Nat.zero_le _, Nat.zero_le _⟩ (fun H locs hW => ?_)
    have hW : wd D (dn cy LY_X5 ad P V (gp I [(0, 9, y2)]) (gp J []) (gm A []) (gm B [])) Af s.heap H locs := hW
    refine lv_iload_n C0.1 C0.2.1 dX6_known_10 rfl (lv_at hl 1 rfl) ?_
    obtain rfl := Option.some.inj hf
    exact r_int C0 hK hW dX6_known_11
-- X6_readHoleName
def rmX6_readHoleName : Room := { frames := 5, cells := 0, slots := 0, locals := 105 }
def fX6_readHoleName (t_holes : Int32) (p_length : Int32) (p_signs : (Nat → Int32)) (t_holeNames : (Nat → Int64)) (p_words : (Nat → Int64)) (p_behind : Int32) (p_place : Int32) (p_takenPlace : Int32) (p_token : Int32) (p_number : Int32) (p_fault : Int32) (p_name : Int64) : Option (Int32 × Int32 × Int32 × Int32 × Int32 × Int32 × Int32 × Int64) := Option.bind (fX5_expectName p_length p_signs p_words p_behind p_place p_takenPlace p_token p_number p_fault p_name) fun y1 => (Option.bind (fX6_indexOf 5 t_holeNames t_holes y1.1) fun y2 => (Option.bind (fX6_known y1.2.2.2.1 y1.2.2.2.2.2.2.1 y2) fun y3 => (some (y3.1, y1.2.1, y1.2.2.1, y1.2.2.2.1, y1.2.2.2.2.1, y1.2.2.2.2.2.1, y3.2, y1.2.2.2.2.2.2.2))))
set_option maxHeartbeats 4000000 in
set_option maxRecDepth 100000 in
theorem KX6_readHoleName (l : Launch) (D : va_G) (cy : Nat → ClassId) (ad : Nat → Nat) (P : MP) (V : MV) (I : MI) (J : MJ) (A : MI) (B : MJ) {res : Int32 × Int32 × Int32 × Int32 × Int32 × Int32 × Int32 × Int64} (hf : fX6_readHoleName (I 0 13) (I 15 6) (A 16) (B 1) (B 17) (I 15 2) (I 15 3) (I 15 4) (I 15 7) (I 15 8) (I 15 9) (J 15 5) = some res) : CG l yX6_readHoleName cX6_readHoleName 2 (some .int) rmX6_readHoleName D cy (dn cy LY_X6X5 ad P V I J A B) [.ref (ad 0), .ref (ad 15)] (some (.int res.1)) (dn cy LY_X6X5 ad P V (gp I [(15, 2, res.2.1), (15, 3, res.2.2.1), (15, 4, res.2.2.2.1), (15, 7, res.2.2.2.2.1), (15, 8, res.2.2.2.2.2.1), (15, 9, res.2.2.2.2.2.2.1)]) (gp J [(15, 5, res.2.2.2.2.2.2.2)]) (gm A []) (gm B [])) := by
  refine CG.of (own := RX6) (by decide) rfl rfl ?_
  intro p e s m below meth c ls Af C0 hK hN hA hW hl
  have hW : wd D (dn cy LY_X6X5 ad P V (gp I [(15, 2, (I 15 2)), (15, 3, (I 15 3)), (15, 4, (I 15 4)), (15, 7, (I 15 7)), (15, 8, (I 15 8)), (15, 9, (I 15 9))]) (gp J [(15, 5, (J 15 5))]) (gm A []) (gm B [])) Af s.heap s.heap [] := wd_sel [(15, 2), (15, 3), (15, 4), (15, 7), (15, 8), (15, 9)] [(15, 5)] [] [] hW
  have hl : lv_has ls 2 [(0, .ref (ad 0)), (1, .ref (ad 15))] := hl
  unfold fX6_readHoleName at hf
  refine lv_aload_n C0.1 C0.2.1 dX6_readHoleName_0 rfl (lv_at hl 1 rfl) ?_
  refine lv_aload_n C0.1 C0.2.1 dX6_readHoleName_1 rfl (lv_at hl 0 rfl) ?_
  refine s_get (v := .ref (ad 1)) C0 hK hW 0 0 LY_X6X5_0 rfl fg_X6_9 rfl dX6_readHoleName_2 ?_
  refine lv_aload_n C0.1 C0.2.1 dX6_readHoleName_5 rfl (lv_at hl 0 rfl) ?_
  refine s_get (v := .int (I 0 13)) C0 hK hW 0 13 LY_X6X5_0 rfl fg_X6_107 rfl dX6_readHoleName_6 ?_
  refine lv_aload_n C0.1 C0.2.1 dX6_readHoleName_9 rfl (lv_at hl 1 rfl) ?_
  obtain ⟨y1, hy1, hf⟩ := b_some hf
  refine c_Vl C0 hK hN hl.1 hW hA (KX5_expectName l D cy  (fun q => ad (pl_LY_X6X5_LY_X5_15_16_17.getD q 0)) (fun q => P (pl_LY_X6X5_LY_X5_15_16_17.getD q 0)) (fun q => Vx LY_X6X5 ad V (pl_LY_X6X5_LY_X5_15_16_17.getD q 0)) (fun q => gp I [(15, 2, (I 15 2)), (15, 3, (I 15 3)), (15, 4, (I 15 4)), (15, 7, (I 15 7)), (15, 8, (I 15 8)), (15, 9, (I 15 9))] (pl_LY_X6X5_LY_X5_15_16_17.getD q 0)) (fun q => gp J [(15, 5, (J 15 5))] (pl_LY_X6X5_LY_X5_15_16_17.getD q 0)) (fun q => gm A [] (pl_LY_X6X5_LY_X5_15_16_17.getD q 0)) (fun q => gm B [] (pl_LY_X6X5_LY_X5_15_16_17.getD q 0))  hy1) (JN_subC (pl := pl_LY_X6X5_LY_X5_15_16_17) sb_LY_X6X5_LY_X5_15_16_17 rfl rfl rfl rfl rfl rfl rfl rfl rfl) (Uw_V uw_493 uw_494 uw_495 uw_2 uw_496) rfl rfl hd_X5_expectName ⟨rfl, rfl⟩ rfl (dn_some LY_X6X5_15) rfl rfl rfl dX6_readHoleName_10 ⟨Nat.zero_le _, Nat.zero_le _⟩ (fun H locs hW => ?_)
  have hW : wd D (dn cy LY_X6X5 ad P V (gp I [(15, 2, y1.2.1), (15, 3, y1.2.2.1), (15, 4, y1.2.2.2.1), (15, 7, y1.2.2.2.2.1), (15, 8, y1.2.2.2.2.2.1), (15, 9, y1.2.2.2.2.2.2.1)]) (gp J [(15, 5, y1.2.2.2.2.2.2.2)]) (gm A []) (gm B [])) Af s.heap H locs := hW
  obtain ⟨y2, hy2, hf⟩ := b_some hf
  refine c_Si C0 hK hN hl.1 hW hA (KX6_indexOf l D cy 5 (fun q => ad (pl_LY_X6X5_LY_aJ_1.getD q 0)) (fun q => P (pl_LY_X6X5_LY_aJ_1.getD q 0)) (fun q => Vx LY_X6X5 ad V (pl_LY_X6X5_LY_aJ_1.getD q 0)) (fun q => gp I [(15, 2, y1.2.1), (15, 3, y1.2.2.1), (15, 4, y1.2.2.2.1), (15, 7, y1.2.2.2.2.1), (15, 8, y1.2.2.2.2.2.1), (15, 9, y1.2.2.2.2.2.2.1)] (pl_LY_X6X5_LY_aJ_1.getD q 0)) (fun q => gp J [(15, 5, y1.2.2.2.2.2.2.2)] (pl_LY_X6X5_LY_aJ_1.getD q 0)) (fun q => gm A [] (pl_LY_X6X5_LY_aJ_1.getD q 0)) (fun q => gm B [] (pl_LY_X6X5_LY_aJ_1.getD q 0)) (I 0 13) y1.1 hy2) (JN_subC (pl := pl_LY_X6X5_LY_aJ_1) sb_LY_X6X5_LY_aJ_1 rfl rfl rfl rfl rfl rfl rfl rfl rfl) ⟨uw_504, uw_505, uw_10, uw_506⟩ rfl rfl hd_X6_indexOf ⟨rfl, rfl⟩ rfl rfl rfl dX6_readHoleName_13 ⟨Nat.zero_le _, Nat.zero_le _⟩ (fun H locs hW => ?_)
  have hW : wd D (dn cy LY_X6X5 ad P V (gp I [(15, 2, y1.2.1), (15, 3, y1.2.2.1), (15, 4, y1.2.2.2.1), (15, 7, y1.2.2.2.2.1), (15, 8, y1.2.2.2.2.2.1), (15, 9, y1.2.2.2.2.2.2.1)]) (gp J [(15, 5, y1.2.2.2.2.2.2.2)]) (gm A []) (gm B [])) Af s.heap H locs := hW
  obtain ⟨y3, hy3, hf⟩ := b_some hf
  refine c_Si C0 hK hN hl.1 hW hA (KX6_known l D cy  (fun q => ad (pl_LY_X6X5_LY_X5_15_16_17.getD q 0)) (fun q => P (pl_LY_X6X5_LY_X5_15_16_17.getD q 0)) (fun q => Vx LY_X6X5 ad V (pl_LY_X6X5_LY_X5_15_16_17.getD q 0)) (fun q => gp I [(15, 2, y1.2.1), (15, 3, y1.2.2.1), (15, 4, y1.2.2.2.1), (15, 7, y1.2.2.2.2.1), (15, 8, y1.2.2.2.2.2.1), (15, 9, y1.2.2.2.2.2.2.1)] (pl_LY_X6X5_LY_X5_15_16_17.getD q 0)) (fun q => gp J [(15, 5, y1.2.2.2.2.2.2.2)] (pl_LY_X6X5_LY_X5_15_16_17.getD q 0)) (fun q => gm A [] (pl_LY_X6X5_LY_X5_15_16_17.getD q 0)) (fun q => gm B [] (pl_LY_X6X5_LY_X5_15_16_17.getD q 0)) y2 hy3) (JN_subC (pl := pl_LY_X6X5_LY_X5_15_16_17) sb_LY_X6X5_LY_X5_15_16_17 rfl rfl rfl rfl rfl rfl rfl rfl rfl) ⟨uw_530, uw_531, uw_10, uw_532⟩ rfl rfl hd_X6_known ⟨rfl, rfl⟩ rfl rfl rfl dX6_readHoleName_16 ⟨Nat.zero_le _, Nat.zero_le _⟩ (fun H locs hW => ?_)
  have hW : wd D (dn cy LY_X6X5 ad P V (gp I [(15, 2, y1.2.1), (15, 3, y1.2.2.1), (15, 4, y1.2.2.2.1), (15, 7, y1.2.2.2.2.1), (15, 8, y1.2.2.2.2.2.1), (15, 9, y3.2)]) (gp J [(15, 5, y1.2.2.2.2.2.2.2)]) (gm A []) (gm B [])) Af s.heap H locs := hW
  obtain rfl := Option.some.inj hf
  exact r_int C0 hK hW dX6_readHoleName_19
-- X6_readWall
def rmX6_readWall : Room := { frames := 6, cells := 0, slots := 0, locals := 126 }
def SX6_readWall_50 (p : Program) (l : Launch) (e : Env) (s : State) (m : MethodId) (args : Array Value) (below : List Frame) (meth : Method) (c : Code) (D : va_G) (cy : Nat → ClassId) (ad : Nat → Nat) (P : MP) (V : MV) (I : MI) (J : MJ) (A : MI) (B : MJ) (Af : Nat → Prop) (res : Int32 × Int32 × Int32 × Int32 × Int32 × Int32 × Int64 × (Nat → Int32)) (k : Int32 → Int32 → Int32 → Int32 → Int32 → Int32 → Int64 → (Nat → Int32) → Int32 → Int32 → Option (Int32 × Int32 × Int32 × Int32 × Int32 × Int32 × Int64 × (Nat → Int32))) : Prop := ∀ (p_behind : Int32) (p_place : Int32) (p_takenPlace : Int32) (p_token : Int32) (p_number : Int32) (p_fault : Int32) (p_name : Int64) (t_beside : (Nat → Int32)) (v2 : Int32) (v3 : Int32) (H : Heap) (locs : List Loc) (ls : Array Slot), wd D (dn cy LY_X6X5 ad P V (gp I [(15, 2, p_behind), (15, 3, p_place), (15, 4, p_takenPlace), (15, 7, p_token), (15, 8, p_number), (15, 9, p_fault)]) (gp J [(15, 5, p_name)]) (gm A [(8, t_beside)]) (gm B [])) Af s.heap H locs → lv_has ls 4 [(0, .ref (ad 0)), (2, .int v2), (3, .int v3)] → k p_behind p_place p_takenPlace p_token p_number p_fault p_name t_beside v2 v3 = some res → W p l e rmX6_readWall s m args below meth c H locs 0 0 (ZQ below D cy (dn cy LY_X6X5 ad P V (gp I [(15, 2, res.1), (15, 3, res.2.1), (15, 4, res.2.2.1), (15, 7, res.2.2.2.1), (15, 8, res.2.2.2.2.1), (15, 9, res.2.2.2.2.2.1)]) (gp J [(15, 5, res.2.2.2.2.2.2.1)]) (gm A [(8, res.2.2.2.2.2.2.2)]) (gm B [])) none Af args s) (F0 m 50 ls [])
def SX6_readWall_45 (p : Program) (l : Launch) (e : Env) (s : State) (m : MethodId) (args : Array Value) (below : List Frame) (meth : Method) (c : Code) (D : va_G) (cy : Nat → ClassId) (ad : Nat → Nat) (P : MP) (V : MV) (I : MI) (J : MJ) (A : MI) (B : MJ) (Af : Nat → Prop) (res : Int32 × Int32 × Int32 × Int32 × Int32 × Int32 × Int64 × (Nat → Int32)) (k : Int32 → Int32 → Int32 → Int32 → Int32 → Int32 → Int64 → (Nat → Int32) → Int32 → Int32 → Option (Int32 × Int32 × Int32 × Int32 × Int32 × Int32 × Int64 × (Nat → Int32))) : Prop := ∀ (p_behind : Int32) (p_place : Int32) (p_takenPlace : Int32) (p_token : Int32) (p_number : Int32) (p_fault : Int32) (p_name : Int64) (t_beside : (Nat → Int32)) (v2 : Int32) (v3 : Int32) (H : Heap) (locs : List Loc) (ls : Array Slot), wd D (dn cy LY_X6X5 ad P V (gp I [(15, 2, p_behind), (15, 3, p_place), (15, 4, p_takenPlace), (15, 7, p_token), (15, 8, p_number), (15, 9, p_fault)]) (gp J [(15, 5, p_name)]) (gm A [(8, t_beside)]) (gm B [])) Af s.heap H locs → lv_has ls 4 [(0, .ref (ad 0)), (1, .ref (ad 15)), (2, .int v2), (3, .int v3)] → k p_behind p_place p_takenPlace p_token p_number p_fault p_name t_beside v2 v3 = some res → W p l e rmX6_readWall s m args below meth c H locs 0 0 (ZQ below D cy (dn cy LY_X6X5 ad P V (gp I [(15, 2, res.1), (15, 3, res.2.1), (15, 4, res.2.2.1), (15, 7, res.2.2.2.1), (15, 8, res.2.2.2.2.1), (15, 9, res.2.2.2.2.2.1)]) (gp J [(15, 5, res.2.2.2.2.2.2.1)]) (gm A [(8, res.2.2.2.2.2.2.2)]) (gm B [])) none Af args s) (F0 m 45 ls [])
def fX6_readWall_50 (t_holes : Int32) (p_length : Int32) (p_signs : (Nat → Int32)) (t_holeNames : (Nat → Int64)) (p_words : (Nat → Int64)) (p_behind : Int32) (p_place : Int32) (p_takenPlace : Int32) (p_token : Int32) (p_number : Int32) (p_fault : Int32) (p_name : Int64) (t_beside : (Nat → Int32)) (v2 : Int32) (v3 : Int32) : Option (Int32 × Int32 × Int32 × Int32 × Int32 × Int32 × Int64 × (Nat → Int32)) := bif inb v2 5 then (bif inb v2 5 then (bif inb v3 5 then (bif inb v3 5 then (some (p_behind, p_place, p_takenPlace, p_token, p_number, p_fault, p_name, (upd (upd t_beside (Int32.toNatClampNeg v2) ((t_beside (Int32.toNatClampNeg v2)) ||| (1 <<< (v3 &&& 31)))) (Int32.toNatClampNeg v3) (((upd t_beside (Int32.toNatClampNeg v2) ((t_beside (Int32.toNatClampNeg v2)) ||| (1 <<< (v3 &&& 31)))) (Int32.toNatClampNeg v3)) ||| (1 <<< (v2 &&& 31)))))) else none) else none) else none) else none
set_option maxHeartbeats 4000000 in
set_option maxRecDepth 100000 in
theorem tX6_readWall_50 {p : Program} {l : Launch} {e : Env} {s : State} {m : MethodId} {args : Array Value} {below : List Frame} {meth : Method} {c : Code} {D : va_G} {cy : Nat → ClassId} {ad : Nat → Nat} {P : MP} {V : MV} {I : MI} {J : MJ} {A : MI} {B : MJ} {Af : Nat → Prop} {res : Int32 × Int32 × Int32 × Int32 × Int32 × Int32 × Int64 × (Nat → Int32)} (C0 : CX p s m args meth c cX6_readWall 4 none RX6) (hK : va_K D vwCl (tyG cy) s) (hN : NWs s) (hA : ∀ q, s.heap.size ≤ q → Af q) : SX6_readWall_50 p l e s m args below meth c D cy ad P V I J A B Af res (fX6_readWall_50 (I 0 13) (I 15 6) (A 16) (B 1) (B 17)) := by
  intro p_behind p_place p_takenPlace p_token p_number p_fault p_name t_beside v2 v3 H locs ls hW hl hf
  unfold fX6_readWall_50 at hf
  refine lv_aload_n C0.1 C0.2.1 dX6_readWall_50 rfl (lv_at hl 0 rfl) ?_
  refine s_get (v := .ref (ad 8)) C0 hK hW 0 8 LY_X6X5_0 rfl fg_X6_34 rfl dX6_readWall_51 ?_
  refine lv_iload_n C0.1 C0.2.1 dX6_readWall_54 rfl (lv_at hl 1 rfl) ?_
  refine lv_dup2_11 C0.1 C0.2.1 dX6_readWall_55 rfl rfl ?_
  obtain ⟨hb1, hf⟩ := g_some hf
  refine s_iald (v := (t_beside (Int32.toNatClampNeg v2))) C0 hK hW 8 LY_X6X5_8 hb1 rfl dX6_readWall_56 ?_
  refine lv_iconst (v := 1) C0.1 C0.2.1 dX6_readWall_57 kI_1 ?_
  refine lv_iload_n C0.1 C0.2.1 dX6_readWall_58 rfl (lv_at hl 2 rfl) ?_
  refine lv_ishl C0.1 C0.2.1 dX6_readWall_59 ?_
  refine lv_ior C0.1 C0.2.1 dX6_readWall_60 ?_
  obtain ⟨hb2, hf⟩ := g_some hf
  refine s_iast (f := (upd t_beside (Int32.toNatClampNeg v2) ((t_beside (Int32.toNatClampNeg v2)) ||| (1 <<< (v3 &&& 31))))) C0 hK hW 8 LY_X6X5_8 hb2 rfl rfl dX6_readWall_61 (fun H locs hW => ?_)
  have hW : wd D (dn cy LY_X6X5 ad P V (gp I [(15, 2, p_behind), (15, 3, p_place), (15, 4, p_takenPlace), (15, 7, p_token), (15, 8, p_number), (15, 9, p_fault)]) (gp J [(15, 5, p_name)]) (gm A [(8, (upd t_beside (Int32.toNatClampNeg v2) ((t_beside (Int32.toNatClampNeg v2)) ||| (1 <<< (v3 &&& 31)))))]) (gm B [])) Af s.heap H locs := hW
  refine lv_aload_n C0.1 C0.2.1 dX6_readWall_62 rfl (lv_at hl 0 rfl) ?_
  refine s_get (v := .ref (ad 8)) C0 hK hW 0 8 LY_X6X5_0 rfl fg_X6_34 rfl dX6_readWall_63 ?_
  refine lv_iload_n C0.1 C0.2.1 dX6_readWall_66 rfl (lv_at hl 2 rfl) ?_
  refine lv_dup2_11 C0.1 C0.2.1 dX6_readWall_67 rfl rfl ?_
  obtain ⟨hb3, hf⟩ := g_some hf
  refine s_iald (v := ((upd t_beside (Int32.toNatClampNeg v2) ((t_beside (Int32.toNatClampNeg v2)) ||| (1 <<< (v3 &&& 31)))) (Int32.toNatClampNeg v3))) C0 hK hW 8 LY_X6X5_8 hb3 rfl dX6_readWall_68 ?_
  refine lv_iconst (v := 1) C0.1 C0.2.1 dX6_readWall_69 kI_1 ?_
  refine lv_iload_n C0.1 C0.2.1 dX6_readWall_70 rfl (lv_at hl 1 rfl) ?_
  refine lv_ishl C0.1 C0.2.1 dX6_readWall_71 ?_
  refine lv_ior C0.1 C0.2.1 dX6_readWall_72 ?_
  obtain ⟨hb4, hf⟩ := g_some hf
  refine s_iast (f := (upd (upd t_beside (Int32.toNatClampNeg v2) ((t_beside (Int32.toNatClampNeg v2)) ||| (1 <<< (v3 &&& 31)))) (Int32.toNatClampNeg v3) (((upd t_beside (Int32.toNatClampNeg v2) ((t_beside (Int32.toNatClampNeg v2)) ||| (1 <<< (v3 &&& 31)))) (Int32.toNatClampNeg v3)) ||| (1 <<< (v2 &&& 31))))) C0 hK hW 8 LY_X6X5_8 hb4 rfl rfl dX6_readWall_73 (fun H locs hW => ?_)
  have hW : wd D (dn cy LY_X6X5 ad P V (gp I [(15, 2, p_behind), (15, 3, p_place), (15, 4, p_takenPlace), (15, 7, p_token), (15, 8, p_number), (15, 9, p_fault)]) (gp J [(15, 5, p_name)]) (gm A [(8, (upd (upd t_beside (Int32.toNatClampNeg v2) ((t_beside (Int32.toNatClampNeg v2)) ||| (1 <<< (v3 &&& 31)))) (Int32.toNatClampNeg v3) (((upd t_beside (Int32.toNatClampNeg v2) ((t_beside (Int32.toNatClampNeg v2)) ||| (1 <<< (v3 &&& 31)))) (Int32.toNatClampNeg v3)) ||| (1 <<< (v2 &&& 31)))))]) (gm B [])) Af s.heap H locs := hW
  obtain rfl := Option.some.inj hf
  exact r_void C0 hK hW dX6_readWall_74
def fX6_readWall_45 (t_holes : Int32) (p_length : Int32) (p_signs : (Nat → Int32)) (t_holeNames : (Nat → Int64)) (p_words : (Nat → Int64)) (p_behind : Int32) (p_place : Int32) (p_takenPlace : Int32) (p_token : Int32) (p_number : Int32) (p_fault : Int32) (p_name : Int64) (t_beside : (Nat → Int32)) (v2 : Int32) (v3 : Int32) : Option (Int32 × Int32 × Int32 × Int32 × Int32 × Int32 × Int64 × (Nat → Int32)) := Option.bind (fX5_refuseTaken p_takenPlace p_fault 3) fun y1 => (fX6_readWall_50 t_holes p_length p_signs t_holeNames p_words p_behind p_place p_takenPlace p_token p_number y1 p_name t_beside v2 v3)
set_option maxHeartbeats 4000000 in
set_option maxRecDepth 100000 in
theorem tX6_readWall_45 {p : Program} {l : Launch} {e : Env} {s : State} {m : MethodId} {args : Array Value} {below : List Frame} {meth : Method} {c : Code} {D : va_G} {cy : Nat → ClassId} {ad : Nat → Nat} {P : MP} {V : MV} {I : MI} {J : MJ} {A : MI} {B : MJ} {Af : Nat → Prop} {res : Int32 × Int32 × Int32 × Int32 × Int32 × Int32 × Int64 × (Nat → Int32)} (C0 : CX p s m args meth c cX6_readWall 4 none RX6) (hK : va_K D vwCl (tyG cy) s) (hN : NWs s) (hA : ∀ q, s.heap.size ≤ q → Af q) : SX6_readWall_45 p l e s m args below meth c D cy ad P V I J A B Af res (fX6_readWall_45 (I 0 13) (I 15 6) (A 16) (B 1) (B 17)) := by
  intro p_behind p_place p_takenPlace p_token p_number p_fault p_name t_beside v2 v3 H locs ls hW hl hf
  unfold fX6_readWall_45 at hf
  refine lv_aload_n C0.1 C0.2.1 dX6_readWall_45 rfl (lv_at hl 1 rfl) ?_
  refine lv_iconst (v := 3) C0.1 C0.2.1 dX6_readWall_46 kI_3 ?_
  obtain ⟨y1, hy1, hf⟩ := b_some hf
  refine c_Vv C0 hK hN hl.1 hW hA (KX5_refuseTaken l D cy  (fun q => ad (pl_LY_X6X5_LY_X5_15_16_17.getD q 0)) (fun q => P (pl_LY_X6X5_LY_X5_15_16_17.getD q 0)) (fun q => Vx LY_X6X5 ad V (pl_LY_X6X5_LY_X5_15_16_17.getD q 0)) (fun q => gp I [(15, 2, p_behind), (15, 3, p_place), (15, 4, p_takenPlace), (15, 7, p_token), (15, 8, p_number), (15, 9, p_fault)] (pl_LY_X6X5_LY_X5_15_16_17.getD q 0)) (fun q => gp J [(15, 5, p_name)] (pl_LY_X6X5_LY_X5_15_16_17.getD q 0)) (fun q => gm A [(8, t_beside)] (pl_LY_X6X5_LY_X5_15_16_17.getD q 0)) (fun q => gm B [] (pl_LY_X6X5_LY_X5_15_16_17.getD q 0)) 3 hy1) (JN_subC (pl := pl_LY_X6X5_LY_X5_15_16_17) sb_LY_X6X5_LY_X5_15_16_17 rfl rfl rfl rfl rfl rfl rfl rfl rfl) (Uw_V uw_507 uw_508 uw_509 uw_2 uw_510) rfl rfl hd_X5_refuseTaken ⟨rfl, rfl⟩ rfl (dn_some LY_X6X5_15) rfl rfl rfl dX6_readWall_47 ⟨Nat.zero_le _, Nat.zero_le _⟩ (fun H locs hW => ?_)
  have hW : wd D (dn cy LY_X6X5 ad P V (gp I [(15, 2, p_behind), (15, 3, p_place), (15, 4, p_takenPlace), (15, 7, p_token), (15, 8, p_number), (15, 9, y1)]) (gp J [(15, 5, p_name)]) (gm A [(8, t_beside)]) (gm B [])) Af s.heap H locs := hW
  exact tX6_readWall_50 C0 hK hN hA  p_behind p_place p_takenPlace p_token p_number y1 p_name t_beside v2 v3 H locs ls hW (lv_sub hl [0, 2, 3] rfl) hf
def fX6_readWall (t_holes : Int32) (p_length : Int32) (p_signs : (Nat → Int32)) (t_holeNames : (Nat → Int64)) (p_words : (Nat → Int64)) (p_behind : Int32) (p_place : Int32) (p_takenPlace : Int32) (p_token : Int32) (p_number : Int32) (p_fault : Int32) (p_name : Int64) (t_beside : (Nat → Int32)) : Option (Int32 × Int32 × Int32 × Int32 × Int32 × Int32 × Int64 × (Nat → Int32)) := Option.bind (fX5_next p_length p_signs p_words p_behind p_place p_takenPlace p_token p_number p_name) fun y1 => (Option.bind (fX6_readHoleName t_holes p_length p_signs t_holeNames p_words y1.1 y1.2.1 y1.2.2.1 y1.2.2.2.1 y1.2.2.2.2.1 p_fault y1.2.2.2.2.2) fun y2 => (Option.bind (fX6_readHoleName t_holes p_length p_signs t_holeNames p_words y2.2.1 y2.2.2.1 y2.2.2.2.1 y2.2.2.2.2.1 y2.2.2.2.2.2.1 y2.2.2.2.2.2.2.1 y2.2.2.2.2.2.2.2) fun y3 => (if y2.1 = (-1) then (some (y3.2.1, y3.2.2.1, y3.2.2.2.1, y3.2.2.2.2.1, y3.2.2.2.2.2.1, y3.2.2.2.2.2.2.1, y3.2.2.2.2.2.2.2, t_beside)) else (if y3.1 = (-1) then (some (y3.2.1, y3.2.2.1, y3.2.2.2.1, y3.2.2.2.2.1, y3.2.2.2.2.2.1, y3.2.2.2.2.2.2.1, y3.2.2.2.2.2.2.2, t_beside)) else (if y2.1 = y3.1 then (fX6_readWall_45 t_holes p_length p_signs t_holeNames p_words y3.2.1 y3.2.2.1 y3.2.2.2.1 y3.2.2.2.2.1 y3.2.2.2.2.2.1 y3.2.2.2.2.2.2.1 y3.2.2.2.2.2.2.2 t_beside y2.1 y3.1) else (bif inb y2.1 5 then (if (((t_beside (Int32.toNatClampNeg y2.1)) >>> (y3.1 &&& 31)) &&& 1) = 0 then (fX6_readWall_50 t_holes p_length p_signs t_holeNames p_words y3.2.1 y3.2.2.1 y3.2.2.2.1 y3.2.2.2.2.1 y3.2.2.2.2.2.1 y3.2.2.2.2.2.2.1 y3.2.2.2.2.2.2.2 t_beside y2.1 y3.1) else (fX6_readWall_45 t_holes p_length p_signs t_holeNames p_words y3.2.1 y3.2.2.1 y3.2.2.2.1 y3.2.2.2.2.1 y3.2.2.2.2.2.1 y3.2.2.2.2.2.2.1 y3.2.2.2.2.2.2.2 t_beside y2.1 y3.1)) else none))))))
set_option maxHeartbeats 4000000 in
set_option maxRecDepth 100000 in
theorem KX6_readWall (l : Launch) (D : va_G) (cy : Nat → ClassId) (ad : Nat → Nat) (P : MP) (V : MV) (I : MI) (J : MJ) (A : MI) (B : MJ) {res : Int32 × Int32 × Int32 × Int32 × Int32 × Int32 × Int64 × (Nat → Int32)} (hf : fX6_readWall (I 0 13) (I 15 6) (A 16) (B 1) (B 17) (I 15 2) (I 15 3) (I 15 4) (I 15 7) (I 15 8) (I 15 9) (J 15 5) (A 8) = some res) : CG l yX6_readWall cX6_readWall 4 none rmX6_readWall D cy (dn cy LY_X6X5 ad P V I J A B) [.ref (ad 0), .ref (ad 15)] none (dn cy LY_X6X5 ad P V (gp I [(15, 2, res.1), (15, 3, res.2.1), (15, 4, res.2.2.1), (15, 7, res.2.2.2.1), (15, 8, res.2.2.2.2.1), (15, 9, res.2.2.2.2.2.1)]) (gp J [(15, 5, res.2.2.2.2.2.2.1)]) (gm A [(8, res.2.2.2.2.2.2.2)]) (gm B [])) := by
  refine CG.of (own := RX6) (by decide) rfl rfl ?_
  intro p e s m below meth c ls Af C0 hK hN hA hW hl
  have hW : wd D (dn cy LY_X6X5 ad P V (gp I [(15, 2, (I 15 2)), (15, 3, (I 15 3)), (15, 4, (I 15 4)), (15, 7, (I 15 7)), (15, 8, (I 15 8)), (15, 9, (I 15 9))]) (gp J [(15, 5, (J 15 5))]) (gm A [(8, (A 8))]) (gm B [])) Af s.heap s.heap [] := wd_sel [(15, 2), (15, 3), (15, 4), (15, 7), (15, 8), (15, 9)] [(15, 5)] [8] [] hW
  have hl : lv_has ls 4 [(0, .ref (ad 0)), (1, .ref (ad 15))] := hl
  unfold fX6_readWall at hf
  refine lv_aload_n C0.1 C0.2.1 dX6_readWall_0 rfl (lv_at hl 1 rfl) ?_
  obtain ⟨y1, hy1, hf⟩ := b_some hf
  refine c_Vv C0 hK hN hl.1 hW hA (KX5_next l D cy  (fun q => ad (pl_LY_X6X5_LY_X5_15_16_17.getD q 0)) (fun q => P (pl_LY_X6X5_LY_X5_15_16_17.getD q 0)) (fun q => Vx LY_X6X5 ad V (pl_LY_X6X5_LY_X5_15_16_17.getD q 0)) (fun q => gp I [(15, 2, (I 15 2)), (15, 3, (I 15 3)), (15, 4, (I 15 4)), (15, 7, (I 15 7)), (15, 8, (I 15 8)), (15, 9, (I 15 9))] (pl_LY_X6X5_LY_X5_15_16_17.getD q 0)) (fun q => gp J [(15, 5, (J 15 5))] (pl_LY_X6X5_LY_X5_15_16_17.getD q 0)) (fun q => gm A [(8, (A 8))] (pl_LY_X6X5_LY_X5_15_16_17.getD q 0)) (fun q => gm B [] (pl_LY_X6X5_LY_X5_15_16_17.getD q 0))  hy1) (JN_subC (pl := pl_LY_X6X5_LY_X5_15_16_17) sb_LY_X6X5_LY_X5_15_16_17 rfl rfl rfl rfl rfl rfl rfl rfl rfl) (Uw_V uw_488 uw_455 uw_456 uw_2 uw_457) rfl rfl hd_X5_next ⟨rfl, rfl⟩ rfl (dn_some LY_X6X5_15) rfl rfl rfl dX6_readWall_1 ⟨Nat.zero_le _, Nat.zero_le _⟩ (fun H locs hW => ?_)
  have hW : wd D (dn cy LY_X6X5 ad P V (gp I [(15, 2, y1.1), (15, 3, y1.2.1), (15, 4, y1.2.2.1), (15, 7, y1.2.2.2.1), (15, 8, y1.2.2.2.2.1), (15, 9, (I 15 9))]) (gp J [(15, 5, y1.2.2.2.2.2)]) (gm A [(8, (A 8))]) (gm B [])) Af s.heap H locs := hW
  refine lv_aload_n C0.1 C0.2.1 dX6_readWall_4 rfl (lv_at hl 0 rfl) ?_
  refine lv_aload_n C0.1 C0.2.1 dX6_readWall_5 rfl (lv_at hl 1 rfl) ?_
  obtain ⟨y2, hy2, hf⟩ := b_some hf
  refine c_Vi C0 hK hN hl.1 hW hA (KX6_readHoleName l D cy  ad P V (gp I [(15, 2, y1.1), (15, 3, y1.2.1), (15, 4, y1.2.2.1), (15, 7, y1.2.2.2.1), (15, 8, y1.2.2.2.2.1), (15, 9, (I 15 9))]) (gp J [(15, 5, y1.2.2.2.2.2)]) (gm A [(8, (A 8))]) (gm B [])  hy2) (JN_id rfl rfl rfl rfl) (Uw_V uw_526 uw_527 uw_528 uw_10 uw_529) rfl rfl hd_X6_readHoleName ⟨rfl, rfl⟩ rfl (dn_some LY_X6X5_0) rfl rfl rfl dX6_readWall_6 ⟨Nat.zero_le _, Nat.zero_le _⟩ (fun H locs hW => ?_)
  have hW : wd D (dn cy LY_X6X5 ad P V (gp I [(15, 2, y2.2.1), (15, 3, y2.2.2.1), (15, 4, y2.2.2.2.1), (15, 7, y2.2.2.2.2.1), (15, 8, y2.2.2.2.2.2.1), (15, 9, y2.2.2.2.2.2.2.1)]) (gp J [(15, 5, y2.2.2.2.2.2.2.2)]) (gm A [(8, (A 8))]) (gm B [])) Af s.heap H locs := hW
  refine lv_istore_n (lv' := [(2, .int y2.1), (0, .ref (ad 0)), (1, .ref (ad 15))]) C0.1 C0.2.1 dX6_readWall_9 rfl hl (by decide) rfl (fun ls hl => ?_)
  refine lv_aload_n C0.1 C0.2.1 dX6_readWall_10 rfl (lv_at hl 1 rfl) ?_
  refine lv_aload_n C0.1 C0.2.1 dX6_readWall_11 rfl (lv_at hl 2 rfl) ?_
  obtain ⟨y3, hy3, hf⟩ := b_some hf
  refine c_Vi C0 hK hN hl.1 hW hA (KX6_readHoleName l D cy  ad P V (gp I [(15, 2, y2.2.1), (15, 3, y2.2.2.1), (15, 4, y2.2.2.2.1), (15, 7, y2.2.2.2.2.1), (15, 8, y2.2.2.2.2.2.1), (15, 9, y2.2.2.2.2.2.2.1)]) (gp J [(15, 5, y2.2.2.2.2.2.2.2)]) (gm A [(8, (A 8))]) (gm B [])  hy3) (JN_id rfl rfl rfl rfl) (Uw_V uw_526 uw_527 uw_528 uw_10 uw_529) rfl rfl hd_X6_readHoleName ⟨rfl, rfl⟩ rfl (dn_some LY_X6X5_0) rfl rfl rfl dX6_readWall_12 ⟨Nat.zero_le _, Nat.zero_le _⟩ (fun H locs hW => ?_)
  have hW : wd D (dn cy LY_X6X5 ad P V (gp I [(15, 2, y3.2.1), (15, 3, y3.2.2.1), (15, 4, y3.2.2.2.1), (15, 7, y3.2.2.2.2.1), (15, 8, y3.2.2.2.2.2.1), (15, 9, y3.2.2.2.2.2.2.1)]) (gp J [(15, 5, y3.2.2.2.2.2.2.2)]) (gm A [(8, (A 8))]) (gm B [])) Af s.heap H locs := hW
  refine lv_istore_n (lv' := [(3, .int y3.1), (2, .int y2.1), (0, .ref (ad 0)), (1, .ref (ad 15))]) C0.1 C0.2.1 dX6_readWall_15 rfl hl (by decide) rfl (fun ls hl => ?_)
  refine lv_iload_n C0.1 C0.2.1 dX6_readWall_16 rfl (lv_at hl 1 rfl) ?_
  refine lv_iconst (v := (-1)) C0.1 C0.2.1 dX6_readWall_17 kI_m1 ?_
  refine lv_icmp_eq (tgt := 26) C0.1 C0.2.1 dX6_readWall_18 (by decide) (fun hc4 => ?_) (fun hc4 => ?_)
  · have hf := ite_t hc4 hf
    obtain rfl := Option.some.inj hf
    exact r_void C0 hK hW dX6_readWall_26
  · have hf := ite_f hc4 hf
    refine lv_iload_n C0.1 C0.2.1 dX6_readWall_21 rfl (lv_at hl 0 rfl) ?_
    refine lv_iconst (v := (-1)) C0.1 C0.2.1 dX6_readWall_22 kI_m1 ?_
    refine lv_icmp_ne (tgt := 27) C0.1 C0.2.1 dX6_readWall_23 (by decide) (fun hc5 => ?_) (fun hc5 => ?_)
    · have hf := ite_f hc5 hf
      refine lv_iload_n C0.1 C0.2.1 dX6_readWall_27 rfl (lv_at hl 1 rfl) ?_
      refine lv_iload_n C0.1 C0.2.1 dX6_readWall_28 rfl (lv_at hl 0 rfl) ?_
      refine lv_icmp_eq (tgt := 45) C0.1 C0.2.1 dX6_readWall_29 (by decide) (fun hc6 => ?_) (fun hc6 => ?_)
      · have hf := ite_t hc6 hf
        exact tX6_readWall_45 C0 hK hN hA  y3.2.1 y3.2.2.1 y3.2.2.2.1 y3.2.2.2.2.1 y3.2.2.2.2.2.1 y3.2.2.2.2.2.2.1 y3.2.2.2.2.2.2.2 (A 8) y2.1 y3.1 _ _ ls hW (lv_sub hl [2, 3, 1, 0] rfl) hf
      · have hf := ite_f hc6 hf
        refine lv_aload_n C0.1 C0.2.1 dX6_readWall_32 rfl (lv_at hl 2 rfl) ?_
        refine s_get (v := .ref (ad 8)) C0 hK hW 0 8 LY_X6X5_0 rfl fg_X6_34 rfl dX6_readWall_33 ?_
        refine lv_iload_n C0.1 C0.2.1 dX6_readWall_36 rfl (lv_at hl 1 rfl) ?_
        obtain ⟨hb7, hf⟩ := g_some hf
        refine s_iald (v := ((A 8) (Int32.toNatClampNeg y2.1))) C0 hK hW 8 LY_X6X5_8 hb7 rfl dX6_readWall_37 ?_
        refine lv_iload_n C0.1 C0.2.1 dX6_readWall_38 rfl (lv_at hl 0 rfl) ?_
        refine lv_ishr C0.1 C0.2.1 dX6_readWall_39 ?_
        refine lv_iconst (v := 1) C0.1 C0.2.1 dX6_readWall_40 kI_1 ?_
        refine lv_iand C0.1 C0.2.1 dX6_readWall_41 ?_
        refine lv_if_eq (tgt := 50) C0.1 C0.2.1 dX6_readWall_42 (by decide) (fun hc8 => ?_) (fun hc8 => ?_)
        · have hf := ite_t hc8 hf
          exact tX6_readWall_50 C0 hK hN hA  y3.2.1 y3.2.2.1 y3.2.2.2.1 y3.2.2.2.2.1 y3.2.2.2.2.2.1 y3.2.2.2.2.2.2.1 y3.2.2.2.2.2.2.2 (A 8) y2.1 y3.1 _ _ ls hW (lv_sub hl [2, 1, 0] rfl) hf
        · have hf := ite_f hc8 hf
          exact tX6_readWall_45 C0 hK hN hA  y3.2.1 y3.2.2.1 y3.2.2.2.1 y3.2.2.2.2.1 y3.2.2.2.2.2.1 y3.2.2.2.2.2.2.1 y3.2.2.2.2.2.2.2 (A 8) y2.1 y3.1 _ _ ls hW (lv_sub hl [2, 3, 1, 0] rfl) hf
    · have hf := ite_t hc5 hf
      obtain rfl := Option.some.inj hf
      exact r_void C0 hK hW dX6_readWall_26
-- X6_readGuest
def rmX6_readGuest : Room := { frames := 6, cells := 0, slots := 0, locals := 128 }
def SX6_readGuest_72 (p : Program) (l : Launch) (e : Env) (s : State) (m : MethodId) (args : Array Value) (below : List Frame) (meth : Method) (c : Code) (D : va_G) (cy : Nat → ClassId) (ad : Nat → Nat) (P : MP) (V : MV) (I : MI) (J : MJ) (A : MI) (B : MJ) (Af : Nat → Prop) (res : Int32 × Int32 × Int32 × Int32 × Int32 × Int32 × Int32 × Int64 × (Nat → Int32) × (Nat → Int32) × (Nat → Int64)) (k : Int32 → Int32 → Int32 → Int32 → Int32 → Int32 → Int32 → Int64 → (Nat → Int32) → (Nat → Int32) → (Nat → Int64) → Int32 → Option (Int32 × Int32 × Int32 × Int32 × Int32 × Int32 × Int32 × Int64 × (Nat → Int32) × (Nat → Int32) × (Nat → Int64))) : Prop := ∀ (t_guests : Int32) (p_behind : Int32) (p_place : Int32) (p_takenPlace : Int32) (p_token : Int32) (p_number : Int32) (p_fault : Int32) (p_name : Int64) (t_kinds : (Nat → Int32)) (t_guestFlags : (Nat → Int32)) (t_guestNames : (Nat → Int64)) (x0 : Int32) (H : Heap) (locs : List Loc) (ls : Array Slot), wd D (dn cy LY_X6X5 ad P V (gp I [(0, 14, t_guests), (15, 2, p_behind), (15, 3, p_place), (15, 4, p_takenPlace), (15, 7, p_token), (15, 8, p_number), (15, 9, p_fault)]) (gp J [(15, 5, p_name)]) (gm A [(9, t_kinds), (10, t_guestFlags)]) (gm B [(2, t_guestNames)])) Af s.heap H locs → lv_has ls 2 [(0, .ref (ad 0)), (1, .ref (ad 15))] → k t_guests p_behind p_place p_takenPlace p_token p_number p_fault p_name t_kinds t_guestFlags t_guestNames x0 = some res → W p l e rmX6_readGuest s m args below meth c H locs 0 0 (ZQ below D cy (dn cy LY_X6X5 ad P V (gp I [(0, 14, res.1), (15, 2, res.2.1), (15, 3, res.2.2.1), (15, 4, res.2.2.2.1), (15, 7, res.2.2.2.2.1), (15, 8, res.2.2.2.2.2.1), (15, 9, res.2.2.2.2.2.2.1)]) (gp J [(15, 5, res.2.2.2.2.2.2.2.1)]) (gm A [(9, res.2.2.2.2.2.2.2.2.1), (10, res.2.2.2.2.2.2.2.2.2.1)]) (gm B [(2, res.2.2.2.2.2.2.2.2.2.2)])) none Af args s) (F0 m 72 ls [.int x0, .ref (ad 15)])
def fX6_readGuest_72 (t_holes : Int32) (p_length : Int32) (p_signs : (Nat → Int32)) (t_holeNames : (Nat → Int64)) (p_words : (Nat → Int64)) (t_guests : Int32) (p_behind : Int32) (p_place : Int32) (p_takenPlace : Int32) (p_token : Int32) (p_number : Int32) (p_fault : Int32) (p_name : Int64) (t_kinds : (Nat → Int32)) (t_guestFlags : (Nat → Int32)) (t_guestNames : (Nat → Int64)) (x0 : Int32) : Option (Int32 × Int32 × Int32 × Int32 × Int32 × Int32 × Int32 × Int64 × (Nat → Int32) × (Nat → Int32) × (Nat → Int64)) := Option.bind (fX5_expect p_length p_signs p_words p_behind p_place p_takenPlace p_token p_number p_fault p_name x0) fun y1 => (Option.bind (fX5_expect p_length p_signs p_words y1.1 y1.2.1 y1.2.2.1 y1.2.2.2.1 y1.2.2.2.2.1 y1.2.2.2.2.2.1 y1.2.2.2.2.2.2 129) fun y2 => (Option.bind (fX5_expectNumber p_length p_signs p_words y2.1 y2.2.1 y2.2.2.1 y2.2.2.2.1 y2.2.2.2.2.1 y2.2.2.2.2.2.1 y2.2.2.2.2.2.2 0 9) fun y3 => (bif inb t_guests 5 then (some ((t_guests + 1), y3.2.1, y3.2.2.1, y3.2.2.2.1, y3.2.2.2.2.1, y3.2.2.2.2.2.1, y3.2.2.2.2.2.2.1, y3.2.2.2.2.2.2.2, t_kinds, (upd t_guestFlags (Int32.toNatClampNeg t_guests) y3.1), t_guestNames)) else none)))
set_option maxHeartbeats 4000000 in
set_option maxRecDepth 100000 in
theorem tX6_readGuest_72 {p : Program} {l : Launch} {e : Env} {s : State} {m : MethodId} {args : Array Value} {below : List Frame} {meth : Method} {c : Code} {D : va_G} {cy : Nat → ClassId} {ad : Nat → Nat} {P : MP} {V : MV} {I : MI} {J : MJ} {A : MI} {B : MJ} {Af : Nat → Prop} {res : Int32 × Int32 × Int32 × Int32 × Int32 × Int32 × Int32 × Int64 × (Nat → Int32) × (Nat → Int32) × (Nat → Int64)} (C0 : CX p s m args meth c cX6_readGuest 2 none RX6) (hK : va_K D vwCl (tyG cy) s) (hN : NWs s) (hA : ∀ q, s.heap.size ≤ q → Af q) : SX6_readGuest_72 p l e s m args below meth c D cy ad P V I J A B Af res (fX6_readGuest_72 (I 0 13) (I 15 6) (A 16) (B 1) (B 17)) := by
  intro t_guests p_behind p_place p_takenPlace p_token p_number p_fault p_name t_kinds t_guestFlags t_guestNames x0 H locs ls hW hl hf
  unfold fX6_readGuest_72 at hf
  obtain ⟨y1, hy1, hf⟩ := b_some hf
  refine c_Vv C0 hK hN hl.1 hW hA (KX5_expect l D cy  (fun q => ad (pl_LY_X6X5_LY_X5_15_16_17.getD q 0)) (fun q => P (pl_LY_X6X5_LY_X5_15_16_17.getD q 0)) (fun q => Vx LY_X6X5 ad V (pl_LY_X6X5_LY_X5_15_16_17.getD q 0)) (fun q => gp I [(0, 14, t_guests), (15, 2, p_behind), (15, 3, p_place), (15, 4, p_takenPlace), (15, 7, p_token), (15, 8, p_number), (15, 9, p_fault)] (pl_LY_X6X5_LY_X5_15_16_17.getD q 0)) (fun q => gp J [(15, 5, p_name)] (pl_LY_X6X5_LY_X5_15_16_17.getD q 0)) (fun q => gm A [(9, t_kinds), (10, t_guestFlags)] (pl_LY_X6X5_LY_X5_15_16_17.getD q 0)) (fun q => gm B [(2, t_guestNames)] (pl_LY_X6X5_LY_X5_15_16_17.getD q 0)) x0 hy1) (JN_subC (pl := pl_LY_X6X5_LY_X5_15_16_17) sb_LY_X6X5_LY_X5_15_16_17 rfl rfl rfl rfl rfl rfl rfl rfl rfl) (Uw_V uw_511 uw_512 uw_513 uw_2 uw_514) rfl rfl hd_X5_expect ⟨rfl, rfl⟩ rfl (dn_some LY_X6X5_15) rfl rfl rfl dX6_readGuest_72 ⟨Nat.zero_le _, Nat.zero_le _⟩ (fun H locs hW => ?_)
  have hW : wd D (dn cy LY_X6X5 ad P V (gp I [(0, 14, t_guests), (15, 2, y1.1), (15, 3, y1.2.1), (15, 4, y1.2.2.1), (15, 7, y1.2.2.2.1), (15, 8, y1.2.2.2.2.1), (15, 9, y1.2.2.2.2.2.1)]) (gp J [(15, 5, y1.2.2.2.2.2.2)]) (gm A [(9, t_kinds), (10, t_guestFlags)]) (gm B [(2, t_guestNames)])) Af s.heap H locs := hW
  refine lv_aload_n C0.1 C0.2.1 dX6_readGuest_75 rfl (lv_at hl 1 rfl) ?_
  refine lv_sipush (v := 129) C0.1 C0.2.1 dX6_readGuest_76 kS_129 ?_
  obtain ⟨y2, hy2, hf⟩ := b_some hf
  refine c_Vv C0 hK hN hl.1 hW hA (KX5_expect l D cy  (fun q => ad (pl_LY_X6X5_LY_X5_15_16_17.getD q 0)) (fun q => P (pl_LY_X6X5_LY_X5_15_16_17.getD q 0)) (fun q => Vx LY_X6X5 ad V (pl_LY_X6X5_LY_X5_15_16_17.getD q 0)) (fun q => gp I [(0, 14, t_guests), (15, 2, y1.1), (15, 3, y1.2.1), (15, 4, y1.2.2.1), (15, 7, y1.2.2.2.1), (15, 8, y1.2.2.2.2.1), (15, 9, y1.2.2.2.2.2.1)] (pl_LY_X6X5_LY_X5_15_16_17.getD q 0)) (fun q => gp J [(15, 5, y1.2.2.2.2.2.2)] (pl_LY_X6X5_LY_X5_15_16_17.getD q 0)) (fun q => gm A [(9, t_kinds), (10, t_guestFlags)] (pl_LY_X6X5_LY_X5_15_16_17.getD q 0)) (fun q => gm B [(2, t_guestNames)] (pl_LY_X6X5_LY_X5_15_16_17.getD q 0)) 129 hy2) (JN_subC (pl := pl_LY_X6X5_LY_X5_15_16_17) sb_LY_X6X5_LY_X5_15_16_17 rfl rfl rfl rfl rfl rfl rfl rfl rfl) (Uw_V uw_511 uw_512 uw_513 uw_2 uw_514) rfl rfl hd_X5_expect ⟨rfl, rfl⟩ rfl (dn_some LY_X6X5_15) rfl rfl rfl dX6_readGuest_79 ⟨Nat.zero_le _, Nat.zero_le _⟩ (fun H locs hW => ?_)
  have hW : wd D (dn cy LY_X6X5 ad P V (gp I [(0, 14, t_guests), (15, 2, y2.1), (15, 3, y2.2.1), (15, 4, y2.2.2.1), (15, 7, y2.2.2.2.1), (15, 8, y2.2.2.2.2.1), (15, 9, y2.2.2.2.2.2.1)]) (gp J [(15, 5, y2.2.2.2.2.2.2)]) (gm A [(9, t_kinds), (10, t_guestFlags)]) (gm B [(2, t_guestNames)])) Af s.heap H locs := hW
  refine lv_aload_n C0.1 C0.2.1 dX6_readGuest_82 rfl (lv_at hl 0 rfl) ?_
  refine s_get (v := .ref (ad 10)) C0 hK hW 0 10 LY_X6X5_0 rfl fg_X6_40 rfl dX6_readGuest_83 ?_
  refine lv_aload_n C0.1 C0.2.1 dX6_readGuest_86 rfl (lv_at hl 0 rfl) ?_
  refine s_get (v := .int t_guests) C0 hK hW 0 14 LY_X6X5_0 rfl fg_X6_110 rfl dX6_readGuest_87 ?_
  refine lv_aload_n C0.1 C0.2.1 dX6_readGuest_90 rfl (lv_at hl 1 rfl) ?_
  refine lv_iconst (v := 0) C0.1 C0.2.1 dX6_readGuest_91 kI_0 ?_
  refine lv_bipush (v := 9) C0.1 C0.2.1 dX6_readGuest_92 kB_9 ?_
  obtain ⟨y3, hy3, hf⟩ := b_some hf
  refine c_Vi C0 hK hN hl.1 hW hA (KX5_expectNumber l D cy  (fun q => ad (pl_LY_X6X5_LY_X5_15_16_17.getD q 0)) (fun q => P (pl_LY_X6X5_LY_X5_15_16_17.getD q 0)) (fun q => Vx LY_X6X5 ad V (pl_LY_X6X5_LY_X5_15_16_17.getD q 0)) (fun q => gp I [(0, 14, t_guests), (15, 2, y2.1), (15, 3, y2.2.1), (15, 4, y2.2.2.1), (15, 7, y2.2.2.2.1), (15, 8, y2.2.2.2.2.1), (15, 9, y2.2.2.2.2.2.1)] (pl_LY_X6X5_LY_X5_15_16_17.getD q 0)) (fun q => gp J [(15, 5, y2.2.2.2.2.2.2)] (pl_LY_X6X5_LY_X5_15_16_17.getD q 0)) (fun q => gm A [(9, t_kinds), (10, t_guestFlags)] (pl_LY_X6X5_LY_X5_15_16_17.getD q 0)) (fun q => gm B [(2, t_guestNames)] (pl_LY_X6X5_LY_X5_15_16_17.getD q 0)) 0 9 hy3) (JN_subC (pl := pl_LY_X6X5_LY_X5_15_16_17) sb_LY_X6X5_LY_X5_15_16_17 rfl rfl rfl rfl rfl rfl rfl rfl rfl) (Uw_V uw_515 uw_516 uw_517 uw_2 uw_518) rfl rfl hd_X5_expectNumber ⟨rfl, rfl⟩ rfl (dn_some LY_X6X5_15) rfl rfl rfl dX6_readGuest_94 ⟨Nat.zero_le _, Nat.zero_le _⟩ (fun H locs hW => ?_)
  have hW : wd D (dn cy LY_X6X5 ad P V (gp I [(0, 14, t_guests), (15, 2, y3.2.1), (15, 3, y3.2.2.1), (15, 4, y3.2.2.2.1), (15, 7, y3.2.2.2.2.1), (15, 8, y3.2.2.2.2.2.1), (15, 9, y3.2.2.2.2.2.2.1)]) (gp J [(15, 5, y3.2.2.2.2.2.2.2)]) (gm A [(9, t_kinds), (10, t_guestFlags)]) (gm B [(2, t_guestNames)])) Af s.heap H locs := hW
  obtain ⟨hb4, hf⟩ := g_some hf
  refine s_iast (f := (upd t_guestFlags (Int32.toNatClampNeg t_guests) y3.1)) C0 hK hW 10 LY_X6X5_10 hb4 rfl rfl dX6_readGuest_97 (fun H locs hW => ?_)
  have hW : wd D (dn cy LY_X6X5 ad P V (gp I [(0, 14, t_guests), (15, 2, y3.2.1), (15, 3, y3.2.2.1), (15, 4, y3.2.2.2.1), (15, 7, y3.2.2.2.2.1), (15, 8, y3.2.2.2.2.2.1), (15, 9, y3.2.2.2.2.2.2.1)]) (gp J [(15, 5, y3.2.2.2.2.2.2.2)]) (gm A [(9, t_kinds), (10, (upd t_guestFlags (Int32.toNatClampNeg t_guests) y3.1))]) (gm B [(2, t_guestNames)])) Af s.heap H locs := hW
  refine lv_aload_n C0.1 C0.2.1 dX6_readGuest_98 rfl (lv_at hl 0 rfl) ?_
  refine lv_dup C0.1 C0.2.1 dX6_readGuest_99 rfl ?_
  refine s_get (v := .int t_guests) C0 hK hW 0 14 LY_X6X5_0 rfl fg_X6_110 rfl dX6_readGuest_100 ?_
  refine lv_iconst (v := 1) C0.1 C0.2.1 dX6_readGuest_103 kI_1 ?_
  refine lv_iadd C0.1 C0.2.1 dX6_readGuest_104 ?_
  refine s_putI C0 hK hW 0 14 LY_X6X5_0 rfl fg_X6_110 fp_X6_14 rfl dX6_readGuest_105 (fun H locs hW => ?_)
  have hW : wd D (dn cy LY_X6X5 ad P V (gp I [(0, 14, (t_guests + 1)), (15, 2, y3.2.1), (15, 3, y3.2.2.1), (15, 4, y3.2.2.2.1), (15, 7, y3.2.2.2.2.1), (15, 8, y3.2.2.2.2.2.1), (15, 9, y3.2.2.2.2.2.2.1)]) (gp J [(15, 5, y3.2.2.2.2.2.2.2)]) (gm A [(9, t_kinds), (10, (upd t_guestFlags (Int32.toNatClampNeg t_guests) y3.1))]) (gm B [(2, t_guestNames)])) Af s.heap H locs := hW
  obtain rfl := Option.some.inj hf
  exact r_void C0 hK hW dX6_readGuest_108
def fX6_readGuest (t_holes : Int32) (p_length : Int32) (p_signs : (Nat → Int32)) (t_holeNames : (Nat → Int64)) (p_words : (Nat → Int64)) (t_guests : Int32) (p_behind : Int32) (p_place : Int32) (p_takenPlace : Int32) (p_token : Int32) (p_number : Int32) (p_fault : Int32) (p_name : Int64) (t_kinds : (Nat → Int32)) (t_guestFlags : (Nat → Int32)) (t_guestNames : (Nat → Int64)) : Option (Int32 × Int32 × Int32 × Int32 × Int32 × Int32 × Int32 × Int64 × (Nat → Int32) × (Nat → Int32) × (Nat → Int64)) := if t_guests < 5 then (Option.bind (fX5_next p_length p_signs p_words p_behind p_place p_takenPlace p_token p_number p_name) fun y2 => (Option.bind (fX6_readNewName t_holes t_guests p_length p_signs t_holeNames t_guestNames p_words y2.1 y2.2.1 y2.2.2.1 y2.2.2.2.1 y2.2.2.2.2.1 p_fault y2.2.2.2.2.2) fun y3 => (bif inb t_guests 5 then (bif inb t_guests 5 then (Option.bind (fX8_isWithin y3.2.2.2.2.1 143 146) fun y6 => (if y6 = 0 then (fX6_readGuest_72 t_holes p_length p_signs t_holeNames p_words t_guests y3.2.1 y3.2.2.1 y3.2.2.2.1 y3.2.2.2.2.1 y3.2.2.2.2.2.1 y3.2.2.2.2.2.2.1 y3.2.2.2.2.2.2.2 (upd t_kinds (Int32.toNatClampNeg t_guests) y3.2.2.2.2.1) t_guestFlags (vp_updL t_guestNames (Int32.toNatClampNeg t_guests) y3.1) 143) else (fX6_readGuest_72 t_holes p_length p_signs t_holeNames p_words t_guests y3.2.1 y3.2.2.1 y3.2.2.2.1 y3.2.2.2.2.1 y3.2.2.2.2.2.1 y3.2.2.2.2.2.2.1 y3.2.2.2.2.2.2.2 (upd t_kinds (Int32.toNatClampNeg t_guests) y3.2.2.2.2.1) t_guestFlags (vp_updL t_guestNames (Int32.toNatClampNeg t_guests) y3.1) y3.2.2.2.2.1))) else none) else none))) else (Option.bind (fX5_refuse p_place p_fault 5) fun y8 => (some (t_guests, p_behind, p_place, p_takenPlace, p_token, p_number, y8, p_name, t_kinds, t_guestFlags, t_guestNames)))
set_option maxHeartbeats 4000000 in
set_option maxRecDepth 100000 in
theorem KX6_readGuest (l : Launch) (D : va_G) (cy : Nat → ClassId) (ad : Nat → Nat) (P : MP) (V : MV) (I : MI) (J : MJ) (A : MI) (B : MJ) {res : Int32 × Int32 × Int32 × Int32 × Int32 × Int32 × Int32 × Int64 × (Nat → Int32) × (Nat → Int32) × (Nat → Int64)} (hf : fX6_readGuest (I 0 13) (I 15 6) (A 16) (B 1) (B 17) (I 0 14) (I 15 2) (I 15 3) (I 15 4) (I 15 7) (I 15 8) (I 15 9) (J 15 5) (A 9) (A 10) (B 2) = some res) : CG l yX6_readGuest cX6_readGuest 2 none rmX6_readGuest D cy (dn cy LY_X6X5 ad P V I J A B) [.ref (ad 0), .ref (ad 15)] none (dn cy LY_X6X5 ad P V (gp I [(0, 14, res.1), (15, 2, res.2.1), (15, 3, res.2.2.1), (15, 4, res.2.2.2.1), (15, 7, res.2.2.2.2.1), (15, 8, res.2.2.2.2.2.1), (15, 9, res.2.2.2.2.2.2.1)]) (gp J [(15, 5, res.2.2.2.2.2.2.2.1)]) (gm A [(9, res.2.2.2.2.2.2.2.2.1), (10, res.2.2.2.2.2.2.2.2.2.1)]) (gm B [(2, res.2.2.2.2.2.2.2.2.2.2)])) := by
  refine CG.of (own := RX6) (by decide) rfl rfl ?_
  intro p e s m below meth c ls Af C0 hK hN hA hW hl
  have hW : wd D (dn cy LY_X6X5 ad P V (gp I [(0, 14, (I 0 14)), (15, 2, (I 15 2)), (15, 3, (I 15 3)), (15, 4, (I 15 4)), (15, 7, (I 15 7)), (15, 8, (I 15 8)), (15, 9, (I 15 9))]) (gp J [(15, 5, (J 15 5))]) (gm A [(9, (A 9)), (10, (A 10))]) (gm B [(2, (B 2))])) Af s.heap s.heap [] := wd_sel [(0, 14), (15, 2), (15, 3), (15, 4), (15, 7), (15, 8), (15, 9)] [(15, 5)] [9, 10] [2] hW
  have hl : lv_has ls 2 [(0, .ref (ad 0)), (1, .ref (ad 15))] := hl
  unfold fX6_readGuest at hf
  refine lv_aload_n C0.1 C0.2.1 dX6_readGuest_0 rfl (lv_at hl 0 rfl) ?_
  refine s_get (v := .int (I 0 14)) C0 hK hW 0 14 LY_X6X5_0 rfl fg_X6_110 rfl dX6_readGuest_1 ?_
  refine lv_iconst (v := 5) C0.1 C0.2.1 dX6_readGuest_4 kI_5 ?_
  refine lv_icmp_lt (tgt := 14) C0.1 C0.2.1 dX6_readGuest_5 (by decide) (fun hc1 => ?_) (fun hc1 => ?_)
  · have hf := ite_t hc1 hf
    refine lv_aload_n C0.1 C0.2.1 dX6_readGuest_14 rfl (lv_at hl 1 rfl) ?_
    obtain ⟨y2, hy2, hf⟩ := b_some hf
    refine c_Vv C0 hK hN hl.1 hW hA (KX5_next l D cy  (fun q => ad (pl_LY_X6X5_LY_X5_15_16_17.getD q 0)) (fun q => P (pl_LY_X6X5_LY_X5_15_16_17.getD q 0)) (fun q => Vx LY_X6X5 ad V (pl_LY_X6X5_LY_X5_15_16_17.getD q 0)) (fun q => gp I [(0, 14, (I 0 14)), (15, 2, (I 15 2)), (15, 3, (I 15 3)), (15, 4, (I 15 4)), (15, 7, (I 15 7)), (15, 8, (I 15 8)), (15, 9, (I 15 9))] (pl_LY_X6X5_LY_X5_15_16_17.getD q 0)) (fun q => gp J [(15, 5, (J 15 5))] (pl_LY_X6X5_LY_X5_15_16_17.getD q 0)) (fun q => gm A [(9, (A 9)), (10, (A 10))] (pl_LY_X6X5_LY_X5_15_16_17.getD q 0)) (fun q => gm B [(2, (B 2))] (pl_LY_X6X5_LY_X5_15_16_17.getD q 0))  hy2) (JN_subC (pl := pl_LY_X6X5_LY_X5_15_16_17) sb_LY_X6X5_LY_X5_15_16_17 rfl rfl rfl rfl rfl rfl rfl rfl rfl) (Uw_V uw_488 uw_455 uw_456 uw_2 uw_457) rfl rfl hd_X5_next ⟨rfl, rfl⟩ rfl (dn_some LY_X6X5_15) rfl rfl rfl dX6_readGuest_15 ⟨Nat.zero_le _, Nat.zero_le _⟩ (fun H locs hW => ?_)
    have hW : wd D (dn cy LY_X6X5 ad P V (gp I [(0, 14, (I 0 14)), (15, 2, y2.1), (15, 3, y2.2.1), (15, 4, y2.2.2.1), (15, 7, y2.2.2.2.1), (15, 8, y2.2.2.2.2.1), (15, 9, (I 15 9))]) (gp J [(15, 5, y2.2.2.2.2.2)]) (gm A [(9, (A 9)), (10, (A 10))]) (gm B [(2, (B 2))])) Af s.heap H locs := hW
    refine lv_aload_n C0.1 C0.2.1 dX6_readGuest_18 rfl (lv_at hl 0 rfl) ?_
    refine s_get (v := .ref (ad 2)) C0 hK hW 0 1 LY_X6X5_0 rfl fg_X6_15 rfl dX6_readGuest_19 ?_
    refine lv_aload_n C0.1 C0.2.1 dX6_readGuest_22 rfl (lv_at hl 0 rfl) ?_
    refine s_get (v := .int (I 0 14)) C0 hK hW 0 14 LY_X6X5_0 rfl fg_X6_110 rfl dX6_readGuest_23 ?_
    refine lv_aload_n C0.1 C0.2.1 dX6_readGuest_26 rfl (lv_at hl 0 rfl) ?_
    refine lv_aload_n C0.1 C0.2.1 dX6_readGuest_27 rfl (lv_at hl 1 rfl) ?_
    obtain ⟨y3, hy3, hf⟩ := b_some hf
    refine c_Vl C0 hK hN hl.1 hW hA (KX6_readNewName l D cy  ad P V (gp I [(0, 14, (I 0 14)), (15, 2, y2.1), (15, 3, y2.2.1), (15, 4, y2.2.2.1), (15, 7, y2.2.2.2.1), (15, 8, y2.2.2.2.2.1), (15, 9, (I 15 9))]) (gp J [(15, 5, y2.2.2.2.2.2)]) (gm A [(9, (A 9)), (10, (A 10))]) (gm B [(2, (B 2))])  hy3) (JN_id rfl rfl rfl rfl) (Uw_V uw_489 uw_491 us_7 uw_10 uw_492) rfl rfl hd_X6_readNewName ⟨rfl, rfl⟩ rfl (dn_some LY_X6X5_0) rfl rfl rfl dX6_readGuest_28 ⟨Nat.zero_le _, Nat.zero_le _⟩ (fun H locs hW => ?_)
    have hW : wd D (dn cy LY_X6X5 ad P V (gp I [(0, 14, (I 0 14)), (15, 2, y3.2.1), (15, 3, y3.2.2.1), (15, 4, y3.2.2.2.1), (15, 7, y3.2.2.2.2.1), (15, 8, y3.2.2.2.2.2.1), (15, 9, y3.2.2.2.2.2.2.1)]) (gp J [(15, 5, y3.2.2.2.2.2.2.2)]) (gm A [(9, (A 9)), (10, (A 10))]) (gm B [(2, (B 2))])) Af s.heap H locs := hW
    obtain ⟨hb4, hf⟩ := g_some hf
    refine s_last (f := (vp_updL (B 2) (Int32.toNatClampNeg (I 0 14)) y3.1)) C0 hK hW 2 LY_X6X5_2 hb4 rfl rfl dX6_readGuest_31 (fun H locs hW => ?_)
    have hW : wd D (dn cy LY_X6X5 ad P V (gp I [(0, 14, (I 0 14)), (15, 2, y3.2.1), (15, 3, y3.2.2.1), (15, 4, y3.2.2.2.1), (15, 7, y3.2.2.2.2.1), (15, 8, y3.2.2.2.2.2.1), (15, 9, y3.2.2.2.2.2.2.1)]) (gp J [(15, 5, y3.2.2.2.2.2.2.2)]) (gm A [(9, (A 9)), (10, (A 10))]) (gm B [(2, (vp_updL (B 2) (Int32.toNatClampNeg (I 0 14)) y3.1))])) Af s.heap H locs := hW
    refine lv_aload_n C0.1 C0.2.1 dX6_readGuest_32 rfl (lv_at hl 0 rfl) ?_
    refine s_get (v := .ref (ad 9)) C0 hK hW 0 9 LY_X6X5_0 rfl fg_X6_37 rfl dX6_readGuest_33 ?_
    refine lv_aload_n C0.1 C0.2.1 dX6_readGuest_36 rfl (lv_at hl 0 rfl) ?_
    refine s_get (v := .int (I 0 14)) C0 hK hW 0 14 LY_X6X5_0 rfl fg_X6_110 rfl dX6_readGuest_37 ?_
    refine lv_aload_n C0.1 C0.2.1 dX6_readGuest_40 rfl (lv_at hl 1 rfl) ?_
    refine s_get (v := .int y3.2.2.2.2.1) C0 hK hW 15 7 LY_X6X5_15 rfl fg_X6_68 rfl dX6_readGuest_41 ?_
    obtain ⟨hb5, hf⟩ := g_some hf
    refine s_iast (f := (upd (A 9) (Int32.toNatClampNeg (I 0 14)) y3.2.2.2.2.1)) C0 hK hW 9 LY_X6X5_9 hb5 rfl rfl dX6_readGuest_44 (fun H locs hW => ?_)
    have hW : wd D (dn cy LY_X6X5 ad P V (gp I [(0, 14, (I 0 14)), (15, 2, y3.2.1), (15, 3, y3.2.2.1), (15, 4, y3.2.2.2.1), (15, 7, y3.2.2.2.2.1), (15, 8, y3.2.2.2.2.2.1), (15, 9, y3.2.2.2.2.2.2.1)]) (gp J [(15, 5, y3.2.2.2.2.2.2.2)]) (gm A [(9, (upd (A 9) (Int32.toNatClampNeg (I 0 14)) y3.2.2.2.2.1)), (10, (A 10))]) (gm B [(2, (vp_updL (B 2) (Int32.toNatClampNeg (I 0 14)) y3.1))])) Af s.heap H locs := hW
    refine lv_aload_n C0.1 C0.2.1 dX6_readGuest_45 rfl (lv_at hl 1 rfl) ?_
    refine lv_aload_n C0.1 C0.2.1 dX6_readGuest_46 rfl (lv_at hl 1 rfl) ?_
    refine s_get (v := .int y3.2.2.2.2.1) C0 hK hW 15 7 LY_X6X5_15 rfl fg_X6_68 rfl dX6_readGuest_47 ?_
    refine lv_sipush (v := 143) C0.1 C0.2.1 dX6_readGuest_50 kS_143 ?_
    refine lv_sipush (v := 146) C0.1 C0.2.1 dX6_readGuest_53 kS_146 ?_
    obtain ⟨y6, hy6, hf⟩ := b_some hf
    refine c_SNi C0 hK hN hl.1 hW hA (KX8_isWithin l D cy  (fun q => ad (pl_LY_X6X5_LY_0_.getD q 0)) (fun q => P (pl_LY_X6X5_LY_0_.getD q 0)) (fun q => Vx LY_X6X5 ad V (pl_LY_X6X5_LY_0_.getD q 0)) (fun q => gp I [(0, 14, (I 0 14)), (15, 2, y3.2.1), (15, 3, y3.2.2.1), (15, 4, y3.2.2.2.1), (15, 7, y3.2.2.2.2.1), (15, 8, y3.2.2.2.2.2.1), (15, 9, y3.2.2.2.2.2.2.1)] (pl_LY_X6X5_LY_0_.getD q 0)) (fun q => gp J [(15, 5, y3.2.2.2.2.2.2.2)] (pl_LY_X6X5_LY_0_.getD q 0)) (fun q => gm A [(9, (upd (A 9) (Int32.toNatClampNeg (I 0 14)) y3.2.2.2.2.1)), (10, (A 10))] (pl_LY_X6X5_LY_0_.getD q 0)) (fun q => gm B [(2, (vp_updL (B 2) (Int32.toNatClampNeg (I 0 14)) y3.1))] (pl_LY_X6X5_LY_0_.getD q 0)) y3.2.2.2.2.1 143 146 hy6) (JN_subC (pl := pl_LY_X6X5_LY_0_) sb_LY_X6X5_LY_0_ rfl rfl rfl rfl rfl rfl rfl rfl rfl) ⟨un_537, uw_501, uw_1, uw_502⟩ rfl rfl hd_X8_isWithin ⟨rfl, rfl⟩ rfl rfl rfl dX6_readGuest_56 ⟨Nat.zero_le _, Nat.zero_le _⟩ (fun H locs hW => ?_)
    have hW : wd D (dn cy LY_X6X5 ad P V (gp I [(0, 14, (I 0 14)), (15, 2, y3.2.1), (15, 3, y3.2.2.1), (15, 4, y3.2.2.2.1), (15, 7, y3.2.2.2.2.1), (15, 8, y3.2.2.2.2.2.1), (15, 9, y3.2.2.2.2.2.2.1)]) (gp J [(15, 5, y3.2.2.2.2.2.2.2)]) (gm A [(9, (upd (A 9) (Int32.toNatClampNeg (I 0 14)) y3.2.2.2.2.1)), (10, (A 10))]) (gm B [(2, (vp_updL (B 2) (Int32.toNatClampNeg (I 0 14)) y3.1))])) Af s.heap H locs := hW
    refine lv_if_eq (tgt := 69) C0.1 C0.2.1 dX6_readGuest_59 (by decide) (fun hc7 => ?_) (fun hc7 => ?_)
    · have hf := ite_t hc7 hf
      refine lv_sipush (v := 143) C0.1 C0.2.1 dX6_readGuest_69 kS_143 ?_
      exact tX6_readGuest_72 C0 hK hN hA  (I 0 14) y3.2.1 y3.2.2.1 y3.2.2.2.1 y3.2.2.2.2.1 y3.2.2.2.2.2.1 y3.2.2.2.2.2.2.1 y3.2.2.2.2.2.2.2 (upd (A 9) (Int32.toNatClampNeg (I 0 14)) y3.2.2.2.2.1) (A 10) (vp_updL (B 2) (Int32.toNatClampNeg (I 0 14)) y3.1) 143 _ _ ls hW hl hf
    · have hf := ite_f hc7 hf
      refine lv_aload_n C0.1 C0.2.1 dX6_readGuest_62 rfl (lv_at hl 1 rfl) ?_
      refine s_get (v := .int y3.2.2.2.2.1) C0 hK hW 15 7 LY_X6X5_15 rfl fg_X6_68 rfl dX6_readGuest_63 ?_
      refine lv_goto (tgt := 72) C0.1 C0.2.1 dX6_readGuest_66 (by decide) ?_
      exact tX6_readGuest_72 C0 hK hN hA  (I 0 14) y3.2.1 y3.2.2.1 y3.2.2.2.1 y3.2.2.2.2.1 y3.2.2.2.2.2.1 y3.2.2.2.2.2.2.1 y3.2.2.2.2.2.2.2 (upd (A 9) (Int32.toNatClampNeg (I 0 14)) y3.2.2.2.2.1) (A 10) (vp_updL (B 2) (Int32.toNatClampNeg (I 0 14)) y3.1) y3.2.2.2.2.1 _ _ ls hW hl hf
  · have hf := ite_f hc1 hf
    refine lv_aload_n C0.1 C0.2.1 dX6_readGuest_8 rfl (lv_at hl 1 rfl) ?_
    refine lv_iconst (v := 5) C0.1 C0.2.1 dX6_readGuest_9 kI_5 ?_
    obtain ⟨y8, hy8, hf⟩ := b_some hf
    refine c_Vv C0 hK hN hl.1 hW hA (KX5_refuse l D cy  (fun q => ad (pl_LY_X6X5_LY_X5_15_16_17.getD q 0)) (fun q => P (pl_LY_X6X5_LY_X5_15_16_17.getD q 0)) (fun q => Vx LY_X6X5 ad V (pl_LY_X6X5_LY_X5_15_16_17.getD q 0)) (fun q => gp I [(0, 14, (I 0 14)), (15, 2, (I 15 2)), (15, 3, (I 15 3)), (15, 4, (I 15 4)), (15, 7, (I 15 7)), (15, 8, (I 15 8)), (15, 9, (I 15 9))] (pl_LY_X6X5_LY_X5_15_16_17.getD q 0)) (fun q => gp J [(15, 5, (J 15 5))] (pl_LY_X6X5_LY_X5_15_16_17.getD q 0)) (fun q => gm A [(9, (A 9)), (10, (A 10))] (pl_LY_X6X5_LY_X5_15_16_17.getD q 0)) (fun q => gm B [(2, (B 2))] (pl_LY_X6X5_LY_X5_15_16_17.getD q 0)) 5 hy8) (JN_subC (pl := pl_LY_X6X5_LY_X5_15_16_17) sb_LY_X6X5_LY_X5_15_16_17 rfl rfl rfl rfl rfl rfl rfl rfl rfl) (Uw_V uw_484 uw_485 uw_486 uw_2 uw_487) rfl rfl hd_X5_refuse ⟨rfl, rfl⟩ rfl (dn_some LY_X6X5_15) rfl rfl rfl dX6_readGuest_10 ⟨Nat.zero_le _, Nat.zero_le _⟩ (fun H locs hW => ?_)
    have hW : wd D (dn cy LY_X6X5 ad P V (gp I [(0, 14, (I 0 14)), (15, 2, (I 15 2)), (15, 3, (I 15 3)), (15, 4, (I 15 4)), (15, 7, (I 15 7)), (15, 8, (I 15 8)), (15, 9, y8)]) (gp J [(15, 5, (J 15 5))]) (gm A [(9, (A 9)), (10, (A 10))]) (gm B [(2, (B 2))])) Af s.heap H locs := hW
    obtain rfl := Option.some.inj hf
    exact r_void C0 hK hW dX6_readGuest_13
-- X6_readWar
def rmX6_readWar : Room := { frames := 6, cells := 0, slots := 0, locals := 127 }
def SX6_readWar_43 (p : Program) (l : Launch) (e : Env) (s : State) (m : MethodId) (args : Array Value) (below : List Frame) (meth : Method) (c : Code) (D : va_G) (cy : Nat → ClassId) (ad : Nat → Nat) (P : MP) (V : MV) (I : MI) (J : MJ) (A : MI) (B : MJ) (Af : Nat → Prop) (res : Int32 × Int32 × Int32 × Int32 × Int32 × Int32 × Int64 × (Nat → Int32)) (k : Int32 → Int32 → Int32 → Int32 → Int32 → Int32 → Int64 → (Nat → Int32) → Int32 → Int32 → Option (Int32 × Int32 × Int32 × Int32 × Int32 × Int32 × Int64 × (Nat → Int32))) : Prop := ∀ (p_behind : Int32) (p_place : Int32) (p_takenPlace : Int32) (p_token : Int32) (p_number : Int32) (p_fault : Int32) (p_name : Int64) (t_flagsAtWar : (Nat → Int32)) (v2 : Int32) (v3 : Int32) (H : Heap) (locs : List Loc) (ls : Array Slot), wd D (dn cy LY_X6X5 ad P V (gp I [(15, 2, p_behind), (15, 3, p_place), (15, 4, p_takenPlace), (15, 7, p_token), (15, 8, p_number), (15, 9, p_fault)]) (gp J [(15, 5, p_name)]) (gm A [(3, t_flagsAtWar)]) (gm B [])) Af s.heap H locs → lv_has ls 4 [(0, .ref (ad 0)), (2, .int v2), (3, .int v3)] → k p_behind p_place p_takenPlace p_token p_number p_fault p_name t_flagsAtWar v2 v3 = some res → W p l e rmX6_readWar s m args below meth c H locs 0 0 (ZQ below D cy (dn cy LY_X6X5 ad P V (gp I [(15, 2, res.1), (15, 3, res.2.1), (15, 4, res.2.2.1), (15, 7, res.2.2.2.1), (15, 8, res.2.2.2.2.1), (15, 9, res.2.2.2.2.2.1)]) (gp J [(15, 5, res.2.2.2.2.2.2.1)]) (gm A [(3, res.2.2.2.2.2.2.2)]) (gm B [])) none Af args s) (F0 m 43 ls [])
def SX6_readWar_38 (p : Program) (l : Launch) (e : Env) (s : State) (m : MethodId) (args : Array Value) (below : List Frame) (meth : Method) (c : Code) (D : va_G) (cy : Nat → ClassId) (ad : Nat → Nat) (P : MP) (V : MV) (I : MI) (J : MJ) (A : MI) (B : MJ) (Af : Nat → Prop) (res : Int32 × Int32 × Int32 × Int32 × Int32 × Int32 × Int64 × (Nat → Int32)) (k : Int32 → Int32 → Int32 → Int32 → Int32 → Int32 → Int64 → (Nat → Int32) → Int32 → Int32 → Option (Int32 × Int32 × Int32 × Int32 × Int32 × Int32 × Int64 × (Nat → Int32))) : Prop := ∀ (p_behind : Int32) (p_place : Int32) (p_takenPlace : Int32) (p_token : Int32) (p_number : Int32) (p_fault : Int32) (p_name : Int64) (t_flagsAtWar : (Nat → Int32)) (v2 : Int32) (v3 : Int32) (H : Heap) (locs : List Loc) (ls : Array Slot), wd D (dn cy LY_X6X5 ad P V (gp I [(15, 2, p_behind), (15, 3, p_place), (15, 4, p_takenPlace), (15, 7, p_token), (15, 8, p_number), (15, 9, p_fault)]) (gp J [(15, 5, p_name)]) (gm A [(3, t_flagsAtWar)]) (gm B [])) Af s.heap H locs → lv_has ls 4 [(0, .ref (ad 0)), (1, .ref (ad 15)), (2, .int v2), (3, .int v3)] → k p_behind p_place p_takenPlace p_token p_number p_fault p_name t_flagsAtWar v2 v3 = some res → W p l e rmX6_readWar s m args below meth c H locs 0 0 (ZQ below D cy (dn cy LY_X6X5 ad P V (gp I [(15, 2, res.1), (15, 3, res.2.1), (15, 4, res.2.2.1), (15, 7, res.2.2.2.1), (15, 8, res.2.2.2.2.1), (15, 9, res.2.2.2.2.2.1)]) (gp J [(15, 5, res.2.2.2.2.2.2.1)]) (gm A [(3, res.2.2.2.2.2.2.2)]) (gm B [])) none Af args s) (F0 m 38 ls [])
def fX6_readWar_43 (p_length : Int32) (p_signs : (Nat → Int32)) (p_words : (Nat → Int64)) (p_behind : Int32) (p_place : Int32) (p_takenPlace : Int32) (p_token : Int32) (p_number : Int32) (p_fault : Int32) (p_name : Int64) (t_flagsAtWar : (Nat → Int32)) (v2 : Int32) (v3 : Int32) : Option (Int32 × Int32 × Int32 × Int32 × Int32 × Int32 × Int64 × (Nat → Int32)) := bif inb v2 10 then (bif inb v2 10 then (bif inb v3 10 then (bif inb v3 10 then (some (p_behind, p_place, p_takenPlace, p_token, p_number, p_fault, p_name, (upd (upd t_flagsAtWar (Int32.toNatClampNeg v2) ((t_flagsAtWar (Int32.toNatClampNeg v2)) ||| (1 <<< (v3 &&& 31)))) (Int32.toNatClampNeg v3) (((upd t_flagsAtWar (Int32.toNatClampNeg v2) ((t_flagsAtWar (Int32.toNatClampNeg v2)) ||| (1 <<< (v3 &&& 31)))) (Int32.toNatClampNeg v3)) ||| (1 <<< (v2 &&& 31)))))) else none) else none) else none) else none
set_option maxHeartbeats 4000000 in
set_option maxRecDepth 100000 in
theorem tX6_readWar_43 {p : Program} {l : Launch} {e : Env} {s : State} {m : MethodId} {args : Array Value} {below : List Frame} {meth : Method} {c : Code} {D : va_G} {cy : Nat → ClassId} {ad : Nat → Nat} {P : MP} {V : MV} {I : MI} {J : MJ} {A : MI} {B : MJ} {Af : Nat → Prop} {res : Int32 × Int32 × Int32 × Int32 × Int32 × Int32 × Int64 × (Nat → Int32)} (C0 : CX p s m args meth c cX6_readWar 4 none RX6) (hK : va_K D vwCl (tyG cy) s) (hN : NWs s) (hA : ∀ q, s.heap.size ≤ q → Af q) : SX6_readWar_43 p l e s m args below meth c D cy ad P V I J A B Af res (fX6_readWar_43 (I 15 6) (A 16) (B 17)) := by
  intro p_behind p_place p_takenPlace p_token p_number p_fault p_name t_flagsAtWar v2 v3 H locs ls hW hl hf
  unfold fX6_readWar_43 at hf
  refine lv_aload_n C0.1 C0.2.1 dX6_readWar_43 rfl (lv_at hl 0 rfl) ?_
  refine s_get (v := .ref (ad 3)) C0 hK hW 0 2 LY_X6X5_0 rfl fg_X6_18 rfl dX6_readWar_44 ?_
  refine lv_iload_n C0.1 C0.2.1 dX6_readWar_47 rfl (lv_at hl 1 rfl) ?_
  refine lv_dup2_11 C0.1 C0.2.1 dX6_readWar_48 rfl rfl ?_
  obtain ⟨hb1, hf⟩ := g_some hf
  refine s_iald (v := (t_flagsAtWar (Int32.toNatClampNeg v2))) C0 hK hW 3 LY_X6X5_3 hb1 rfl dX6_readWar_49 ?_
  refine lv_iconst (v := 1) C0.1 C0.2.1 dX6_readWar_50 kI_1 ?_
  refine lv_iload_n C0.1 C0.2.1 dX6_readWar_51 rfl (lv_at hl 2 rfl) ?_
  refine lv_ishl C0.1 C0.2.1 dX6_readWar_52 ?_
  refine lv_ior C0.1 C0.2.1 dX6_readWar_53 ?_
  obtain ⟨hb2, hf⟩ := g_some hf
  refine s_iast (f := (upd t_flagsAtWar (Int32.toNatClampNeg v2) ((t_flagsAtWar (Int32.toNatClampNeg v2)) ||| (1 <<< (v3 &&& 31))))) C0 hK hW 3 LY_X6X5_3 hb2 rfl rfl dX6_readWar_54 (fun H locs hW => ?_)
  have hW : wd D (dn cy LY_X6X5 ad P V (gp I [(15, 2, p_behind), (15, 3, p_place), (15, 4, p_takenPlace), (15, 7, p_token), (15, 8, p_number), (15, 9, p_fault)]) (gp J [(15, 5, p_name)]) (gm A [(3, (upd t_flagsAtWar (Int32.toNatClampNeg v2) ((t_flagsAtWar (Int32.toNatClampNeg v2)) ||| (1 <<< (v3 &&& 31)))))]) (gm B [])) Af s.heap H locs := hW
  refine lv_aload_n C0.1 C0.2.1 dX6_readWar_55 rfl (lv_at hl 0 rfl) ?_
  refine s_get (v := .ref (ad 3)) C0 hK hW 0 2 LY_X6X5_0 rfl fg_X6_18 rfl dX6_readWar_56 ?_
  refine lv_iload_n C0.1 C0.2.1 dX6_readWar_59 rfl (lv_at hl 2 rfl) ?_
  refine lv_dup2_11 C0.1 C0.2.1 dX6_readWar_60 rfl rfl ?_
  obtain ⟨hb3, hf⟩ := g_some hf
  refine s_iald (v := ((upd t_flagsAtWar (Int32.toNatClampNeg v2) ((t_flagsAtWar (Int32.toNatClampNeg v2)) ||| (1 <<< (v3 &&& 31)))) (Int32.toNatClampNeg v3))) C0 hK hW 3 LY_X6X5_3 hb3 rfl dX6_readWar_61 ?_
  refine lv_iconst (v := 1) C0.1 C0.2.1 dX6_readWar_62 kI_1 ?_
  refine lv_iload_n C0.1 C0.2.1 dX6_readWar_63 rfl (lv_at hl 1 rfl) ?_
  refine lv_ishl C0.1 C0.2.1 dX6_readWar_64 ?_
  refine lv_ior C0.1 C0.2.1 dX6_readWar_65 ?_
  obtain ⟨hb4, hf⟩ := g_some hf
  refine s_iast (f := (upd (upd t_flagsAtWar (Int32.toNatClampNeg v2) ((t_flagsAtWar (Int32.toNatClampNeg v2)) ||| (1 <<< (v3 &&& 31)))) (Int32.toNatClampNeg v3) (((upd t_flagsAtWar (Int32.toNatClampNeg v2) ((t_flagsAtWar (Int32.toNatClampNeg v2)) ||| (1 <<< (v3 &&& 31)))) (Int32.toNatClampNeg v3)) ||| (1 <<< (v2 &&& 31))))) C0 hK hW 3 LY_X6X5_3 hb4 rfl rfl dX6_readWar_66 (fun H locs hW => ?_)
  have hW : wd D (dn cy LY_X6X5 ad P V (gp I [(15, 2, p_behind), (15, 3, p_place), (15, 4, p_takenPlace), (15, 7, p_token), (15, 8, p_number), (15, 9, p_fault)]) (gp J [(15, 5, p_name)]) (gm A [(3, (upd (upd t_flagsAtWar (Int32.toNatClampNeg v2) ((t_flagsAtWar (Int32.toNatClampNeg v2)) ||| (1 <<< (v3 &&& 31)))) (Int32.toNatClampNeg v3) (((upd t_flagsAtWar (Int32.toNatClampNeg v2) ((t_flagsAtWar (Int32.toNatClampNeg v2)) ||| (1 <<< (v3 &&& 31)))) (Int32.toNatClampNeg v3)) ||| (1 <<< (v2 &&& 31)))))]) (gm B [])) Af s.heap H locs := hW
  obtain rfl := Option.some.inj hf
  exact r_void C0 hK hW dX6_readWar_67
def fX6_readWar_38 (p_length : Int32) (p_signs : (Nat → Int32)) (p_words : (Nat → Int64)) (p_behind : Int32) (p_place : Int32) (p_takenPlace : Int32) (p_token : Int32) (p_number : Int32) (p_fault : Int32) (p_name : Int64) (t_flagsAtWar : (Nat → Int32)) (v2 : Int32) (v3 : Int32) : Option (Int32 × Int32 × Int32 × Int32 × Int32 × Int32 × Int64 × (Nat → Int32)) := Option.bind (fX5_refuseTaken p_takenPlace p_fault 3) fun y1 => (fX6_readWar_43 p_length p_signs p_words p_behind p_place p_takenPlace p_token p_number y1 p_name t_flagsAtWar v2 v3)
set_option maxHeartbeats 4000000 in
set_option maxRecDepth 100000 in
theorem tX6_readWar_38 {p : Program} {l : Launch} {e : Env} {s : State} {m : MethodId} {args : Array Value} {below : List Frame} {meth : Method} {c : Code} {D : va_G} {cy : Nat → ClassId} {ad : Nat → Nat} {P : MP} {V : MV} {I : MI} {J : MJ} {A : MI} {B : MJ} {Af : Nat → Prop} {res : Int32 × Int32 × Int32 × Int32 × Int32 × Int32 × Int64 × (Nat → Int32)} (C0 : CX p s m args meth c cX6_readWar 4 none RX6) (hK : va_K D vwCl (tyG cy) s) (hN : NWs s) (hA : ∀ q, s.heap.size ≤ q → Af q) : SX6_readWar_38 p l e s m args below meth c D cy ad P V I J A B Af res (fX6_readWar_38 (I 15 6) (A 16) (B 17)) := by
  intro p_behind p_place p_takenPlace p_token p_number p_fault p_name t_flagsAtWar v2 v3 H locs ls hW hl hf
  unfold fX6_readWar_38 at hf
  refine lv_aload_n C0.1 C0.2.1 dX6_readWar_38 rfl (lv_at hl 1 rfl) ?_
  refine lv_iconst (v := 3) C0.1 C0.2.1 dX6_readWar_39 kI_3 ?_
  obtain ⟨y1, hy1, hf⟩ := b_some hf
  refine c_Vv C0 hK hN hl.1 hW hA (KX5_refuseTaken l D cy  (fun q => ad (pl_LY_X6X5_LY_X5_15_16_17.getD q 0)) (fun q => P (pl_LY_X6X5_LY_X5_15_16_17.getD q 0)) (fun q => Vx LY_X6X5 ad V (pl_LY_X6X5_LY_X5_15_16_17.getD q 0)) (fun q => gp I [(15, 2, p_behind), (15, 3, p_place), (15, 4, p_takenPlace), (15, 7, p_token), (15, 8, p_number), (15, 9, p_fault)] (pl_LY_X6X5_LY_X5_15_16_17.getD q 0)) (fun q => gp J [(15, 5, p_name)] (pl_LY_X6X5_LY_X5_15_16_17.getD q 0)) (fun q => gm A [(3, t_flagsAtWar)] (pl_LY_X6X5_LY_X5_15_16_17.getD q 0)) (fun q => gm B [] (pl_LY_X6X5_LY_X5_15_16_17.getD q 0)) 3 hy1) (JN_subC (pl := pl_LY_X6X5_LY_X5_15_16_17) sb_LY_X6X5_LY_X5_15_16_17 rfl rfl rfl rfl rfl rfl rfl rfl rfl) (Uw_V uw_507 uw_508 uw_509 uw_2 uw_510) rfl rfl hd_X5_refuseTaken ⟨rfl, rfl⟩ rfl (dn_some LY_X6X5_15) rfl rfl rfl dX6_readWar_40 ⟨Nat.zero_le _, Nat.zero_le _⟩ (fun H locs hW => ?_)
  have hW : wd D (dn cy LY_X6X5 ad P V (gp I [(15, 2, p_behind), (15, 3, p_place), (15, 4, p_takenPlace), (15, 7, p_token), (15, 8, p_number), (15, 9, y1)]) (gp J [(15, 5, p_name)]) (gm A [(3, t_flagsAtWar)]) (gm B [])) Af s.heap H locs := hW
  exact tX6_readWar_43 C0 hK hN hA  p_behind p_place p_takenPlace p_token p_number y1 p_name t_flagsAtWar v2 v3 H locs ls hW (lv_sub hl [0, 2, 3] rfl) hf
def fX6_readWar (p_length : Int32) (p_signs : (Nat → Int32)) (p_words : (Nat → Int64)) (p_behind : Int32) (p_place : Int32) (p_takenPlace : Int32) (p_token : Int32) (p_number : Int32) (p_fault : Int32) (p_name : Int64) (t_flagsAtWar : (Nat → Int32)) : Option (Int32 × Int32 × Int32 × Int32 × Int32 × Int32 × Int64 × (Nat → Int32)) := Option.bind (fX5_next p_length p_signs p_words p_behind p_place p_takenPlace p_token p_number p_name) fun y1 => (Option.bind (fX5_expectNumber p_length p_signs p_words y1.1 y1.2.1 y1.2.2.1 y1.2.2.2.1 y1.2.2.2.2.1 p_fault y1.2.2.2.2.2 0 9) fun y2 => (Option.bind (fX5_expectNumber p_length p_signs p_words y2.2.1 y2.2.2.1 y2.2.2.2.1 y2.2.2.2.2.1 y2.2.2.2.2.2.1 y2.2.2.2.2.2.2.1 y2.2.2.2.2.2.2.2 0 9) fun y3 => (if y2.1 = y3.1 then (fX6_readWar_38 p_length p_signs p_words y3.2.1 y3.2.2.1 y3.2.2.2.1 y3.2.2.2.2.1 y3.2.2.2.2.2.1 y3.2.2.2.2.2.2.1 y3.2.2.2.2.2.2.2 t_flagsAtWar y2.1 y3.1) else (bif inb y2.1 10 then (if (((t_flagsAtWar (Int32.toNatClampNeg y2.1)) >>> (y3.1 &&& 31)) &&& 1) = 0 then (fX6_readWar_43 p_length p_signs p_words y3.2.1 y3.2.2.1 y3.2.2.2.1 y3.2.2.2.2.1 y3.2.2.2.2.2.1 y3.2.2.2.2.2.2.1 y3.2.2.2.2.2.2.2 t_flagsAtWar y2.1 y3.1) else (fX6_readWar_38 p_length p_signs p_words y3.2.1 y3.2.2.1 y3.2.2.2.1 y3.2.2.2.2.1 y3.2.2.2.2.2.1 y3.2.2.2.2.2.2.1 y3.2.2.2.2.2.2.2 t_flagsAtWar y2.1 y3.1)) else none))))
set_option maxHeartbeats 4000000 in
set_option maxRecDepth 100000 in
theorem KX6_readWar (l : Launch) (D : va_G) (cy : Nat → ClassId) (ad : Nat → Nat) (P : MP) (V : MV) (I : MI) (J : MJ) (A : MI) (B : MJ) {res : Int32 × Int32 × Int32 × Int32 × Int32 × Int32 × Int64 × (Nat → Int32)} (hf : fX6_readWar (I 15 6) (A 16) (B 17) (I 15 2) (I 15 3) (I 15 4) (I 15 7) (I 15 8) (I 15 9) (J 15 5) (A 3) = some res) : CG l yX6_readWar cX6_readWar 4 none rmX6_readWar D cy (dn cy LY_X6X5 ad P V I J A B) [.ref (ad 0), .ref (ad 15)] none (dn cy LY_X6X5 ad P V (gp I [(15, 2, res.1), (15, 3, res.2.1), (15, 4, res.2.2.1), (15, 7, res.2.2.2.1), (15, 8, res.2.2.2.2.1), (15, 9, res.2.2.2.2.2.1)]) (gp J [(15, 5, res.2.2.2.2.2.2.1)]) (gm A [(3, res.2.2.2.2.2.2.2)]) (gm B [])) := by
  refine CG.of (own := RX6) (by decide) rfl rfl ?_
  intro p e s m below meth c ls Af C0 hK hN hA hW hl
  have hW : wd D (dn cy LY_X6X5 ad P V (gp I [(15, 2, (I 15 2)), (15, 3, (I 15 3)), (15, 4, (I 15 4)), (15, 7, (I 15 7)), (15, 8, (I 15 8)), (15, 9, (I 15 9))]) (gp J [(15, 5, (J 15 5))]) (gm A [(3, (A 3))]) (gm B [])) Af s.heap s.heap [] := wd_sel [(15, 2), (15, 3), (15, 4), (15, 7), (15, 8), (15, 9)] [(15, 5)] [3] [] hW
  have hl : lv_has ls 4 [(0, .ref (ad 0)), (1, .ref (ad 15))] := hl
  unfold fX6_readWar at hf
  refine lv_aload_n C0.1 C0.2.1 dX6_readWar_0 rfl (lv_at hl 1 rfl) ?_
  obtain ⟨y1, hy1, hf⟩ := b_some hf
  refine c_Vv C0 hK hN hl.1 hW hA (KX5_next l D cy  (fun q => ad (pl_LY_X6X5_LY_X5_15_16_17.getD q 0)) (fun q => P (pl_LY_X6X5_LY_X5_15_16_17.getD q 0)) (fun q => Vx LY_X6X5 ad V (pl_LY_X6X5_LY_X5_15_16_17.getD q 0)) (fun q => gp I [(15, 2, (I 15 2)), (15, 3, (I 15 3)), (15, 4, (I 15 4)), (15, 7, (I 15 7)), (15, 8, (I 15 8)), (15, 9, (I 15 9))] (pl_LY_X6X5_LY_X5_15_16_17.getD q 0)) (fun q => gp J [(15, 5, (J 15 5))] (pl_LY_X6X5_LY_X5_15_16_17.getD q 0)) (fun q => gm A [(3, (A 3))] (pl_LY_X6X5_LY_X5_15_16_17.getD q 0)) (fun q => gm B [] (pl_LY_X6X5_LY_X5_15_16_17.getD q 0))  hy1) (JN_subC (pl := pl_LY_X6X5_LY_X5_15_16_17) sb_LY_X6X5_LY_X5_15_16_17 rfl rfl rfl rfl rfl rfl rfl rfl rfl) (Uw_V uw_488 uw_455 uw_456 uw_2 uw_457) rfl rfl hd_X5_next ⟨rfl, rfl⟩ rfl (dn_some LY_X6X5_15) rfl rfl rfl dX6_readWar_1 ⟨Nat.zero_le _, Nat.zero_le _⟩ (fun H locs hW => ?_)
  have hW : wd D (dn cy LY_X6X5 ad P V (gp I [(15, 2, y1.1), (15, 3, y1.2.1), (15, 4, y1.2.2.1), (15, 7, y1.2.2.2.1), (15, 8, y1.2.2.2.2.1), (15, 9, (I 15 9))]) (gp J [(15, 5, y1.2.2.2.2.2)]) (gm A [(3, (A 3))]) (gm B [])) Af s.heap H locs := hW
  refine lv_aload_n C0.1 C0.2.1 dX6_readWar_4 rfl (lv_at hl 1 rfl) ?_
  refine lv_iconst (v := 0) C0.1 C0.2.1 dX6_readWar_5 kI_0 ?_
  refine lv_bipush (v := 9) C0.1 C0.2.1 dX6_readWar_6 kB_9 ?_
  obtain ⟨y2, hy2, hf⟩ := b_some hf
  refine c_Vi C0 hK hN hl.1 hW hA (KX5_expectNumber l D cy  (fun q => ad (pl_LY_X6X5_LY_X5_15_16_17.getD q 0)) (fun q => P (pl_LY_X6X5_LY_X5_15_16_17.getD q 0)) (fun q => Vx LY_X6X5 ad V (pl_LY_X6X5_LY_X5_15_16_17.getD q 0)) (fun q => gp I [(15, 2, y1.1), (15, 3, y1.2.1), (15, 4, y1.2.2.1), (15, 7, y1.2.2.2.1), (15, 8, y1.2.2.2.2.1), (15, 9, (I 15 9))] (pl_LY_X6X5_LY_X5_15_16_17.getD q 0)) (fun q => gp J [(15, 5, y1.2.2.2.2.2)] (pl_LY_X6X5_LY_X5_15_16_17.getD q 0)) (fun q => gm A [(3, (A 3))] (pl_LY_X6X5_LY_X5_15_16_17.getD q 0)) (fun q => gm B [] (pl_LY_X6X5_LY_X5_15_16_17.getD q 0)) 0 9 hy2) (JN_subC (pl := pl_LY_X6X5_LY_X5_15_16_17) sb_LY_X6X5_LY_X5_15_16_17 rfl rfl rfl rfl rfl rfl rfl rfl rfl) (Uw_V uw_515 uw_516 uw_517 uw_2 uw_518) rfl rfl hd_X5_expectNumber ⟨rfl, rfl⟩ rfl (dn_some LY_X6X5_15) rfl rfl rfl dX6_readWar_8 ⟨Nat.zero_le _, Nat.zero_le _⟩ (fun H locs hW => ?_)
  have hW : wd D (dn cy LY_X6X5 ad P V (gp I [(15, 2, y2.2.1), (15, 3, y2.2.2.1), (15, 4, y2.2.2.2.1), (15, 7, y2.2.2.2.2.1), (15, 8, y2.2.2.2.2.2.1), (15, 9, y2.2.2.2.2.2.2.1)]) (gp J [(15, 5, y2.2.2.2.2.2.2.2)]) (gm A [(3, (A 3))]) (gm B [])) Af s.heap H locs := hW
  refine lv_istore_n (lv' := [(2, .int y2.1), (0, .ref (ad 0)), (1, .ref (ad 15))]) C0.1 C0.2.1 dX6_readWar_11 rfl hl (by decide) rfl (fun ls hl => ?_)
  refine lv_aload_n C0.1 C0.2.1 dX6_readWar_12 rfl (lv_at hl 2 rfl) ?_
  refine lv_iconst (v := 0) C0.1 C0.2.1 dX6_readWar_13 kI_0 ?_
  refine lv_bipush (v := 9) C0.1 C0.2.1 dX6_readWar_14 kB_9 ?_
  obtain ⟨y3, hy3, hf⟩ := b_some hf
  refine c_Vi C0 hK hN hl.1 hW hA (KX5_expectNumber l D cy  (fun q => ad (pl_LY_X6X5_LY_X5_15_16_17.getD q 0)) (fun q => P (pl_LY_X6X5_LY_X5_15_16_17.getD q 0)) (fun q => Vx LY_X6X5 ad V (pl_LY_X6X5_LY_X5_15_16_17.getD q 0)) (fun q => gp I [(15, 2, y2.2.1), (15, 3, y2.2.2.1), (15, 4, y2.2.2.2.1), (15, 7, y2.2.2.2.2.1), (15, 8, y2.2.2.2.2.2.1), (15, 9, y2.2.2.2.2.2.2.1)] (pl_LY_X6X5_LY_X5_15_16_17.getD q 0)) (fun q => gp J [(15, 5, y2.2.2.2.2.2.2.2)] (pl_LY_X6X5_LY_X5_15_16_17.getD q 0)) (fun q => gm A [(3, (A 3))] (pl_LY_X6X5_LY_X5_15_16_17.getD q 0)) (fun q => gm B [] (pl_LY_X6X5_LY_X5_15_16_17.getD q 0)) 0 9 hy3) (JN_subC (pl := pl_LY_X6X5_LY_X5_15_16_17) sb_LY_X6X5_LY_X5_15_16_17 rfl rfl rfl rfl rfl rfl rfl rfl rfl) (Uw_V uw_515 uw_516 uw_517 uw_2 uw_518) rfl rfl hd_X5_expectNumber ⟨rfl, rfl⟩ rfl (dn_some LY_X6X5_15) rfl rfl rfl dX6_readWar_16 ⟨Nat.zero_le _, Nat.zero_le _⟩ (fun H locs hW => ?_)
  have hW : wd D (dn cy LY_X6X5 ad P V (gp I [(15, 2, y3.2.1), (15, 3, y3.2.2.1), (15, 4, y3.2.2.2.1), (15, 7, y3.2.2.2.2.1), (15, 8, y3.2.2.2.2.2.1), (15, 9, y3.2.2.2.2.2.2.1)]) (gp J [(15, 5, y3.2.2.2.2.2.2.2)]) (gm A [(3, (A 3))]) (gm B [])) Af s.heap H locs := hW
  refine lv_istore_n (lv' := [(3, .int y3.1), (2, .int y2.1), (0, .ref (ad 0)), (1, .ref (ad 15))]) C0.1 C0.2.1 dX6_readWar_19 rfl hl (by decide) rfl (fun ls hl => ?_)
  refine lv_iload_n C0.1 C0.2.1 dX6_readWar_20 rfl (lv_at hl 1 rfl) ?_
  refine lv_iload_n C0.1 C0.2.1 dX6_readWar_21 rfl (lv_at hl 0 rfl) ?_
  refine lv_icmp_eq (tgt := 38) C0.1 C0.2.1 dX6_readWar_22 (by decide) (fun hc4 => ?_) (fun hc4 => ?_)
  · have hf := ite_t hc4 hf
    exact tX6_readWar_38 C0 hK hN hA  y3.2.1 y3.2.2.1 y3.2.2.2.1 y3.2.2.2.2.1 y3.2.2.2.2.2.1 y3.2.2.2.2.2.2.1 y3.2.2.2.2.2.2.2 (A 3) y2.1 y3.1 _ _ ls hW (lv_sub hl [2, 3, 1, 0] rfl) hf
  · have hf := ite_f hc4 hf
    refine lv_aload_n C0.1 C0.2.1 dX6_readWar_25 rfl (lv_at hl 2 rfl) ?_
    refine s_get (v := .ref (ad 3)) C0 hK hW 0 2 LY_X6X5_0 rfl fg_X6_18 rfl dX6_readWar_26 ?_
    refine lv_iload_n C0.1 C0.2.1 dX6_readWar_29 rfl (lv_at hl 1 rfl) ?_
    obtain ⟨hb5, hf⟩ := g_some hf
    refine s_iald (v := ((A 3) (Int32.toNatClampNeg y2.1))) C0 hK hW 3 LY_X6X5_3 hb5 rfl dX6_readWar_30 ?_
    refine lv_iload_n C0.1 C0.2.1 dX6_readWar_31 rfl (lv_at hl 0 rfl) ?_
    refine lv_ishr C0.1 C0.2.1 dX6_readWar_32 ?_
    refine lv_iconst (v := 1) C0.1 C0.2.1 dX6_readWar_33 kI_1 ?_
    refine lv_iand C0.1 C0.2.1 dX6_readWar_34 ?_
    refine lv_if_eq (tgt := 43) C0.1 C0.2.1 dX6_readWar_35 (by decide) (fun hc6 => ?_) (fun hc6 => ?_)
    · have hf := ite_t hc6 hf
      exact tX6_readWar_43 C0 hK hN hA  y3.2.1 y3.2.2.1 y3.2.2.2.1 y3.2.2.2.2.1 y3.2.2.2.2.2.1 y3.2.2.2.2.2.2.1 y3.2.2.2.2.2.2.2 (A 3) y2.1 y3.1 _ _ ls hW (lv_sub hl [2, 1, 0] rfl) hf
    · have hf := ite_f hc6 hf
      exact tX6_readWar_38 C0 hK hN hA  y3.2.1 y3.2.2.1 y3.2.2.2.1 y3.2.2.2.2.1 y3.2.2.2.2.2.1 y3.2.2.2.2.2.2.1 y3.2.2.2.2.2.2.2 (A 3) y2.1 y3.1 _ _ ls hW (lv_sub hl [2, 3, 1, 0] rfl) hf
-- X6_readCold
def rmX6_readCold : Room := { frames := 6, cells := 0, slots := 0, locals := 127 }
def SX6_readCold_37 (p : Program) (l : Launch) (e : Env) (s : State) (m : MethodId) (args : Array Value) (below : List Frame) (meth : Method) (c : Code) (D : va_G) (cy : Nat → ClassId) (ad : Nat → Nat) (P : MP) (V : MV) (I : MI) (J : MJ) (A : MI) (B : MJ) (Af : Nat → Prop) (res : Int32 × Int32 × Int32 × Int32 × Int32 × Int32 × Int32 × Int64 × (Nat → Int32)) (k : Int32 → Int32 → Int32 → Int32 → Int32 → Int32 → Int32 → Int64 → (Nat → Int32) → Int32 → Option (Int32 × Int32 × Int32 × Int32 × Int32 × Int32 × Int32 × Int64 × (Nat → Int32))) : Prop := ∀ (t_colds : Int32) (p_behind : Int32) (p_place : Int32) (p_takenPlace : Int32) (p_token : Int32) (p_number : Int32) (p_fault : Int32) (p_name : Int64) (t_cold : (Nat → Int32)) (v2 : Int32) (H : Heap) (locs : List Loc) (ls : Array Slot), wd D (dn cy LY_X6X5 ad P V (gp I [(0, 4, t_colds), (15, 2, p_behind), (15, 3, p_place), (15, 4, p_takenPlace), (15, 7, p_token), (15, 8, p_number), (15, 9, p_fault)]) (gp J [(15, 5, p_name)]) (gm A [(4, t_cold)]) (gm B [])) Af s.heap H locs → lv_has ls 4 [(0, .ref (ad 0)), (1, .ref (ad 15)), (2, .int v2)] → k t_colds p_behind p_place p_takenPlace p_token p_number p_fault p_name t_cold v2 = some res → W p l e rmX6_readCold s m args below meth c H locs 0 0 (ZQ below D cy (dn cy LY_X6X5 ad P V (gp I [(0, 4, res.1), (15, 2, res.2.1), (15, 3, res.2.2.1), (15, 4, res.2.2.2.1), (15, 7, res.2.2.2.2.1), (15, 8, res.2.2.2.2.2.1), (15, 9, res.2.2.2.2.2.2.1)]) (gp J [(15, 5, res.2.2.2.2.2.2.2.1)]) (gm A [(4, res.2.2.2.2.2.2.2.2)]) (gm B [])) none Af args s) (F0 m 37 ls [])
def SX6_readCold_19 (p : Program) (l : Launch) (e : Env) (s : State) (m : MethodId) (args : Array Value) (below : List Frame) (meth : Method) (c : Code) (D : va_G) (cy : Nat → ClassId) (ad : Nat → Nat) (P : MP) (V : MV) (I : MI) (J : MJ) (A : MI) (B : MJ) (Af : Nat → Prop) (res : Int32 × Int32 × Int32 × Int32 × Int32 × Int32 × Int32 × Int64 × (Nat → Int32)) (k : Int32 → Int32 → Int32 → Int32 → Int32 → Int32 → Int32 → Int64 → (Nat → Int32) → Int32 → Option (Int32 × Int32 × Int32 × Int32 × Int32 × Int32 × Int32 × Int64 × (Nat → Int32))) : Prop := ∀ (t_colds : Int32) (p_behind : Int32) (p_place : Int32) (p_takenPlace : Int32) (p_token : Int32) (p_number : Int32) (p_fault : Int32) (p_name : Int64) (t_cold : (Nat → Int32)) (v2 : Int32) (H : Heap) (locs : List Loc) (ls : Array Slot), wd D (dn cy LY_X6X5 ad P V (gp I [(0, 4, t_colds), (15, 2, p_behind), (15, 3, p_place), (15, 4, p_takenPlace), (15, 7, p_token), (15, 8, p_number), (15, 9, p_fault)]) (gp J [(15, 5, p_name)]) (gm A [(4, t_cold)]) (gm B [])) Af s.heap H locs → lv_has ls 4 [(0, .ref (ad 0)), (1, .ref (ad 15)), (2, .int v2)] → k t_colds p_behind p_place p_takenPlace p_token p_number p_fault p_name t_cold v2 = some res → W p l e rmX6_readCold s m args below meth c H locs 0 0 (ZQ below D cy (dn cy LY_X6X5 ad P V (gp I [(0, 4, res.1), (15, 2, res.2.1), (15, 3, res.2.2.1), (15, 4, res.2.2.2.1), (15, 7, res.2.2.2.2.1), (15, 8, res.2.2.2.2.2.1), (15, 9, res.2.2.2.2.2.2.1)]) (gp J [(15, 5, res.2.2.2.2.2.2.2.1)]) (gm A [(4, res.2.2.2.2.2.2.2.2)]) (gm B [])) none Af args s) (F0 m 19 ls [])
def fX6_readCold_37 (p_length : Int32) (p_signs : (Nat → Int32)) (p_words : (Nat → Int64)) (k19 : Int32 → Int32 → Int32 → Int32 → Int32 → Int32 → Int32 → Int64 → (Nat → Int32) → Int32 → Option (Int32 × Int32 × Int32 × Int32 × Int32 × Int32 × Int32 × Int64 × (Nat → Int32))) (t_colds : Int32) (p_behind : Int32) (p_place : Int32) (p_takenPlace : Int32) (p_token : Int32) (p_number : Int32) (p_fault : Int32) (p_name : Int64) (t_cold : (Nat → Int32)) (v2 : Int32) : Option (Int32 × Int32 × Int32 × Int32 × Int32 × Int32 × Int32 × Int64 × (Nat → Int32)) := Option.bind (fX5_expectNumber p_length p_signs p_words p_behind p_place p_takenPlace p_token p_number p_fault p_name 0 3) fun y1 => (if 12 ≤ v2 then (Option.bind (fX5_refuseTaken y1.2.2.2.1 y1.2.2.2.2.2.2.1 5) fun y3 => (k19 t_colds y1.2.1 y1.2.2.1 y1.2.2.2.1 y1.2.2.2.2.1 y1.2.2.2.2.2.1 y3 y1.2.2.2.2.2.2.2 t_cold (v2 + 1))) else (bif inb v2 12 then (k19 (v2 + 1) y1.2.1 y1.2.2.1 y1.2.2.2.1 y1.2.2.2.2.1 y1.2.2.2.2.2.1 y1.2.2.2.2.2.2.1 y1.2.2.2.2.2.2.2 (upd t_cold (Int32.toNatClampNeg v2) y1.1) (v2 + 1)) else none))
set_option maxHeartbeats 4000000 in
set_option maxRecDepth 100000 in
theorem tX6_readCold_37 {p : Program} {l : Launch} {e : Env} {s : State} {m : MethodId} {args : Array Value} {below : List Frame} {meth : Method} {c : Code} {D : va_G} {cy : Nat → ClassId} {ad : Nat → Nat} {P : MP} {V : MV} {I : MI} {J : MJ} {A : MI} {B : MJ} {Af : Nat → Prop} {res : Int32 × Int32 × Int32 × Int32 × Int32 × Int32 × Int32 × Int64 × (Nat → Int32)} (C0 : CX p s m args meth c cX6_readCold 4 none RX6) (hK : va_K D vwCl (tyG cy) s) (hN : NWs s) (hA : ∀ q, s.heap.size ≤ q → Af q) {k19 : Int32 → Int32 → Int32 → Int32 → Int32 → Int32 → Int32 → Int64 → (Nat → Int32) → Int32 → Option (Int32 × Int32 × Int32 × Int32 × Int32 × Int32 × Int32 × Int64 × (Nat → Int32))} (hk19 : SX6_readCold_19 p l e s m args below meth c D cy ad P V I J A B Af res k19) : SX6_readCold_37 p l e s m args below meth c D cy ad P V I J A B Af res (fX6_readCold_37 (I 15 6) (A 16) (B 17) k19) := by
  intro t_colds p_behind p_place p_takenPlace p_token p_number p_fault p_name t_cold v2 H locs ls hW hl hf
  unfold fX6_readCold_37 at hf
  refine lv_aload_n C0.1 C0.2.1 dX6_readCold_37 rfl (lv_at hl 1 rfl) ?_
  refine lv_iconst (v := 0) C0.1 C0.2.1 dX6_readCold_38 kI_0 ?_
  refine lv_iconst (v := 3) C0.1 C0.2.1 dX6_readCold_39 kI_3 ?_
  obtain ⟨y1, hy1, hf⟩ := b_some hf
  refine c_Vi C0 hK hN hl.1 hW hA (KX5_expectNumber l D cy  (fun q => ad (pl_LY_X6X5_LY_X5_15_16_17.getD q 0)) (fun q => P (pl_LY_X6X5_LY_X5_15_16_17.getD q 0)) (fun q => Vx LY_X6X5 ad V (pl_LY_X6X5_LY_X5_15_16_17.getD q 0)) (fun q => gp I [(0, 4, t_colds), (15, 2, p_behind), (15, 3, p_place), (15, 4, p_takenPlace), (15, 7, p_token), (15, 8, p_number), (15, 9, p_fault)] (pl_LY_X6X5_LY_X5_15_16_17.getD q 0)) (fun q => gp J [(15, 5, p_name)] (pl_LY_X6X5_LY_X5_15_16_17.getD q 0)) (fun q => gm A [(4, t_cold)] (pl_LY_X6X5_LY_X5_15_16_17.getD q 0)) (fun q => gm B [] (pl_LY_X6X5_LY_X5_15_16_17.getD q 0)) 0 3 hy1) (JN_subC (pl := pl_LY_X6X5_LY_X5_15_16_17) sb_LY_X6X5_LY_X5_15_16_17 rfl rfl rfl rfl rfl rfl rfl rfl rfl) (Uw_V uw_515 uw_516 uw_517 uw_2 uw_518) rfl rfl hd_X5_expectNumber ⟨rfl, rfl⟩ rfl (dn_some LY_X6X5_15) rfl rfl rfl dX6_readCold_40 ⟨Nat.zero_le _, Nat.zero_le _⟩ (fun H locs hW => ?_)
  have hW : wd D (dn cy LY_X6X5 ad P V (gp I [(0, 4, t_colds), (15, 2, y1.2.1), (15, 3, y1.2.2.1), (15, 4, y1.2.2.2.1), (15, 7, y1.2.2.2.2.1), (15, 8, y1.2.2.2.2.2.1), (15, 9, y1.2.2.2.2.2.2.1)]) (gp J [(15, 5, y1.2.2.2.2.2.2.2)]) (gm A [(4, t_cold)]) (gm B [])) Af s.heap H locs := hW
  refine lv_istore_n (lv' := [(3, .int y1.1), (0, .ref (ad 0)), (1, .ref (ad 15)), (2, .int v2)]) C0.1 C0.2.1 dX6_readCold_43 rfl hl (by decide) rfl (fun ls hl => ?_)
  refine lv_iload_n C0.1 C0.2.1 dX6_readCold_44 rfl (lv_at hl 3 rfl) ?_
  refine lv_bipush (v := 12) C0.1 C0.2.1 dX6_readCold_45 kB_12 ?_
  refine lv_icmp_ge (tgt := 67) C0.1 C0.2.1 dX6_readCold_47 (by decide) (fun hc2 => ?_) (fun hc2 => ?_)
  · have hf := ite_t hc2 hf
    refine lv_aload_n C0.1 C0.2.1 dX6_readCold_67 rfl (lv_at hl 2 rfl) ?_
    refine lv_iconst (v := 5) C0.1 C0.2.1 dX6_readCold_68 kI_5 ?_
    obtain ⟨y3, hy3, hf⟩ := b_some hf
    refine c_Vv C0 hK hN hl.1 hW hA (KX5_refuseTaken l D cy  (fun q => ad (pl_LY_X6X5_LY_X5_15_16_17.getD q 0)) (fun q => P (pl_LY_X6X5_LY_X5_15_16_17.getD q 0)) (fun q => Vx LY_X6X5 ad V (pl_LY_X6X5_LY_X5_15_16_17.getD q 0)) (fun q => gp I [(0, 4, t_colds), (15, 2, y1.2.1), (15, 3, y1.2.2.1), (15, 4, y1.2.2.2.1), (15, 7, y1.2.2.2.2.1), (15, 8, y1.2.2.2.2.2.1), (15, 9, y1.2.2.2.2.2.2.1)] (pl_LY_X6X5_LY_X5_15_16_17.getD q 0)) (fun q => gp J [(15, 5, y1.2.2.2.2.2.2.2)] (pl_LY_X6X5_LY_X5_15_16_17.getD q 0)) (fun q => gm A [(4, t_cold)] (pl_LY_X6X5_LY_X5_15_16_17.getD q 0)) (fun q => gm B [] (pl_LY_X6X5_LY_X5_15_16_17.getD q 0)) 5 hy3) (JN_subC (pl := pl_LY_X6X5_LY_X5_15_16_17) sb_LY_X6X5_LY_X5_15_16_17 rfl rfl rfl rfl rfl rfl rfl rfl rfl) (Uw_V uw_507 uw_508 uw_509 uw_2 uw_510) rfl rfl hd_X5_refuseTaken ⟨rfl, rfl⟩ rfl (dn_some LY_X6X5_15) rfl rfl rfl dX6_readCold_69 ⟨Nat.zero_le _, Nat.zero_le _⟩ (fun H locs hW => ?_)
    have hW : wd D (dn cy LY_X6X5 ad P V (gp I [(0, 4, t_colds), (15, 2, y1.2.1), (15, 3, y1.2.2.1), (15, 4, y1.2.2.2.1), (15, 7, y1.2.2.2.2.1), (15, 8, y1.2.2.2.2.2.1), (15, 9, y3)]) (gp J [(15, 5, y1.2.2.2.2.2.2.2)]) (gm A [(4, t_cold)]) (gm B [])) Af s.heap H locs := hW
    refine lv_iinc (v := (v2 + 1)) (lv' := [(2, .int (v2 + 1)), (3, .int y1.1), (0, .ref (ad 0)), (1, .ref (ad 15))]) C0.1 C0.2.1 dX6_readCold_72 hl (k := 3) rfl (congrArg (fun z => _ + z) kI_1) (by decide) rfl (fun ls hl => ?_)
    refine lv_goto (tgt := 19) C0.1 C0.2.1 dX6_readCold_75 (by decide) ?_
    exact hk19 t_colds y1.2.1 y1.2.2.1 y1.2.2.2.1 y1.2.2.2.2.1 y1.2.2.2.2.2.1 y3 y1.2.2.2.2.2.2.2 t_cold (v2 + 1) H locs ls hW (lv_sub hl [2, 3, 0] rfl) hf
  · have hf := ite_f hc2 hf
    refine lv_aload_n C0.1 C0.2.1 dX6_readCold_50 rfl (lv_at hl 1 rfl) ?_
    refine s_get (v := .ref (ad 4)) C0 hK hW 0 3 LY_X6X5_0 rfl fg_X6_22 rfl dX6_readCold_51 ?_
    refine lv_iload_n C0.1 C0.2.1 dX6_readCold_54 rfl (lv_at hl 3 rfl) ?_
    refine lv_iload_n C0.1 C0.2.1 dX6_readCold_55 rfl (lv_at hl 0 rfl) ?_
    obtain ⟨hb4, hf⟩ := g_some hf
    refine s_iast (f := (upd t_cold (Int32.toNatClampNeg v2) y1.1)) C0 hK hW 4 LY_X6X5_4 hb4 rfl rfl dX6_readCold_56 (fun H locs hW => ?_)
    have hW : wd D (dn cy LY_X6X5 ad P V (gp I [(0, 4, t_colds), (15, 2, y1.2.1), (15, 3, y1.2.2.1), (15, 4, y1.2.2.2.1), (15, 7, y1.2.2.2.2.1), (15, 8, y1.2.2.2.2.2.1), (15, 9, y1.2.2.2.2.2.2.1)]) (gp J [(15, 5, y1.2.2.2.2.2.2.2)]) (gm A [(4, (upd t_cold (Int32.toNatClampNeg v2) y1.1))]) (gm B [])) Af s.heap H locs := hW
    refine lv_aload_n C0.1 C0.2.1 dX6_readCold_57 rfl (lv_at hl 1 rfl) ?_
    refine lv_iload_n C0.1 C0.2.1 dX6_readCold_58 rfl (lv_at hl 3 rfl) ?_
    refine lv_iconst (v := 1) C0.1 C0.2.1 dX6_readCold_59 kI_1 ?_
    refine lv_iadd C0.1 C0.2.1 dX6_readCold_60 ?_
    refine s_putI C0 hK hW 0 4 LY_X6X5_0 rfl fg_X6_113 fp_X6_4 rfl dX6_readCold_61 (fun H locs hW => ?_)
    have hW : wd D (dn cy LY_X6X5 ad P V (gp I [(0, 4, (v2 + 1)), (15, 2, y1.2.1), (15, 3, y1.2.2.1), (15, 4, y1.2.2.2.1), (15, 7, y1.2.2.2.2.1), (15, 8, y1.2.2.2.2.2.1), (15, 9, y1.2.2.2.2.2.2.1)]) (gp J [(15, 5, y1.2.2.2.2.2.2.2)]) (gm A [(4, (upd t_cold (Int32.toNatClampNeg v2) y1.1))]) (gm B [])) Af s.heap H locs := hW
    refine lv_goto (tgt := 72) C0.1 C0.2.1 dX6_readCold_64 (by decide) ?_
    refine lv_iinc (v := (v2 + 1)) (lv' := [(2, .int (v2 + 1)), (3, .int y1.1), (0, .ref (ad 0)), (1, .ref (ad 15))]) C0.1 C0.2.1 dX6_readCold_72 hl (k := 3) rfl (congrArg (fun z => _ + z) kI_1) (by decide) rfl (fun ls hl => ?_)
    refine lv_goto (tgt := 19) C0.1 C0.2.1 dX6_readCold_75 (by decide) ?_
    exact hk19 (v2 + 1) y1.2.1 y1.2.2.1 y1.2.2.2.1 y1.2.2.2.2.1 y1.2.2.2.2.2.1 y1.2.2.2.2.2.2.1 y1.2.2.2.2.2.2.2 (upd t_cold (Int32.toNatClampNeg v2) y1.1) (v2 + 1) H locs ls hW (lv_sub hl [2, 3, 0] rfl) hf
def fX6_readCold_19 (p_length : Int32) (p_signs : (Nat → Int32)) (p_words : (Nat → Int64)) (k19 : Int32 → Int32 → Int32 → Int32 → Int32 → Int32 → Int32 → Int64 → (Nat → Int32) → Int32 → Option (Int32 × Int32 × Int32 × Int32 × Int32 × Int32 × Int32 × Int64 × (Nat → Int32))) (t_colds : Int32) (p_behind : Int32) (p_place : Int32) (p_takenPlace : Int32) (p_token : Int32) (p_number : Int32) (p_fault : Int32) (p_name : Int64) (t_cold : (Nat → Int32)) (v2 : Int32) : Option (Int32 × Int32 × Int32 × Int32 × Int32 × Int32 × Int32 × Int64 × (Nat → Int32)) := if 12 < v2 then (some (t_colds, p_behind, p_place, p_takenPlace, p_token, p_number, p_fault, p_name, t_cold)) else (if v2 = 0 then (fX6_readCold_37 p_length p_signs p_words k19 t_colds p_behind p_place p_takenPlace p_token p_number p_fault p_name t_cold v2) else (if p_token = 2 then (fX6_readCold_37 p_length p_signs p_words k19 t_colds p_behind p_place p_takenPlace p_token p_number p_fault p_name t_cold v2) else (some (t_colds, p_behind, p_place, p_takenPlace, p_token, p_number, p_fault, p_name, t_cold))))
set_option maxHeartbeats 4000000 in
set_option maxRecDepth 100000 in
theorem tX6_readCold_19 {p : Program} {l : Launch} {e : Env} {s : State} {m : MethodId} {args : Array Value} {below : List Frame} {meth : Method} {c : Code} {D : va_G} {cy : Nat → ClassId} {ad : Nat → Nat} {P : MP} {V : MV} {I : MI} {J : MJ} {A : MI} {B : MJ} {Af : Nat → Prop} {res : Int32 × Int32 × Int32 × Int32 × Int32 × Int32 × Int32 × Int64 × (Nat → Int32)} (C0 : CX p s m args meth c cX6_readCold 4 none RX6) (hK : va_K D vwCl (tyG cy) s) (hN : NWs s) (hA : ∀ q, s.heap.size ≤ q → Af q) {k19 : Int32 → Int32 → Int32 → Int32 → Int32 → Int32 → Int32 → Int64 → (Nat → Int32) → Int32 → Option (Int32 × Int32 × Int32 × Int32 × Int32 × Int32 × Int32 × Int64 × (Nat → Int32))} (hk19 : SX6_readCold_19 p l e s m args below meth c D cy ad P V I J A B Af res k19) : SX6_readCold_19 p l e s m args below meth c D cy ad P V I J A B Af res (fX6_readCold_19 (I 15 6) (A 16) (B 17) k19) := by
  intro t_colds p_behind p_place p_takenPlace p_token p_number p_fault p_name t_cold v2 H locs ls hW hl hf
  unfold fX6_readCold_19 at hf
  refine lv_iload_n C0.1 C0.2.1 dX6_readCold_19 rfl (lv_at hl 2 rfl) ?_
  refine lv_bipush (v := 12) C0.1 C0.2.1 dX6_readCold_20 kB_12 ?_
  refine lv_icmp_gt (tgt := 78) C0.1 C0.2.1 dX6_readCold_22 (by decide) (fun hc1 => ?_) (fun hc1 => ?_)
  · have hf := ite_t hc1 hf
    obtain rfl := Option.some.inj hf
    exact r_void C0 hK hW dX6_readCold_78
  · have hf := ite_f hc1 hf
    refine lv_iload_n C0.1 C0.2.1 dX6_readCold_25 rfl (lv_at hl 2 rfl) ?_
    refine lv_if_eq (tgt := 37) C0.1 C0.2.1 dX6_readCold_26 (by decide) (fun hc2 => ?_) (fun hc2 => ?_)
    · have hf := ite_t hc2 hf
      exact tX6_readCold_37 C0 hK hN hA hk19 t_colds p_behind p_place p_takenPlace p_token p_number p_fault p_name t_cold v2 H locs ls hW hl hf
    · have hf := ite_f hc2 hf
      refine lv_aload_n C0.1 C0.2.1 dX6_readCold_29 rfl (lv_at hl 1 rfl) ?_
      refine s_get (v := .int p_token) C0 hK hW 15 7 LY_X6X5_15 rfl fg_X6_68 rfl dX6_readCold_30 ?_
      refine lv_iconst (v := 2) C0.1 C0.2.1 dX6_readCold_33 kI_2 ?_
      refine lv_icmp_ne (tgt := 78) C0.1 C0.2.1 dX6_readCold_34 (by decide) (fun hc3 => ?_) (fun hc3 => ?_)
      · have hf := ite_f hc3 hf
        obtain rfl := Option.some.inj hf
        exact r_void C0 hK hW dX6_readCold_78
      · have hf := ite_t hc3 hf
        exact tX6_readCold_37 C0 hK hN hA hk19 t_colds p_behind p_place p_takenPlace p_token p_number p_fault p_name t_cold v2 H locs ls hW hl hf
theorem TX6_readCold_19 {p : Program} {l : Launch} {e : Env} {s : State} {m : MethodId} {args : Array Value} {below : List Frame} {meth : Method} {c : Code} {D : va_G} {cy : Nat → ClassId} {ad : Nat → Nat} {P : MP} {V : MV} {I : MI} {J : MJ} {A : MI} {B : MJ} {Af : Nat → Prop} {res : Int32 × Int32 × Int32 × Int32 × Int32 × Int32 × Int32 × Int64 × (Nat → Int32)} (C0 : CX p s m args meth c cX6_readCold 4 none RX6) (hK : va_K D vwCl (tyG cy) s) (hN : NWs s) (hA : ∀ q, s.heap.size ≤ q → Af q) : ∀ n, SX6_readCold_19 p l e s m args below meth c D cy ad P V I J A B Af res (itr (fun kk => fX6_readCold_19 (I 15 6) (A 16) (B 17) kk) (fun _ _ _ _ _ _ _ _ _ _ => none) n) := by
  intro n
  induction n with
  | zero => intro t_colds p_behind p_place p_takenPlace p_token p_number p_fault p_name t_cold v2 H locs ls hW hl hf; exact (nomatch (show (none : Option (Int32 × Int32 × Int32 × Int32 × Int32 × Int32 × Int32 × Int64 × (Nat → Int32))) = some res from hf))
  | succ n ih => exact tX6_readCold_19 C0 hK hN hA  ih
def fX6_readCold (p_length : Int32) (p_signs : (Nat → Int32)) (p_words : (Nat → Int64)) (t_colds : Int32) (p_behind : Int32) (p_place : Int32) (p_takenPlace : Int32) (p_token : Int32) (p_number : Int32) (p_fault : Int32) (p_name : Int64) (t_cold : (Nat → Int32)) : Option (Int32 × Int32 × Int32 × Int32 × Int32 × Int32 × Int32 × Int64 × (Nat → Int32)) := if t_colds ≤ 0 then (Option.bind (fX5_next p_length p_signs p_words p_behind p_place p_takenPlace p_token p_number p_name) fun y2 => (itr (fun kk => fX6_readCold_19 p_length p_signs p_words kk) (fun _ _ _ _ _ _ _ _ _ _ => none) FU t_colds y2.1 y2.2.1 y2.2.2.1 y2.2.2.2.1 y2.2.2.2.2.1 p_fault y2.2.2.2.2.2 t_cold 0)) else (Option.bind (fX5_refuse p_place p_fault 3) fun y3 => (some (t_colds, p_behind, p_place, p_takenPlace, p_token, p_number, y3, p_name, t_cold)))
set_option maxHeartbeats 4000000 in
set_option maxRecDepth 100000 in
theorem KX6_readCold (l : Launch) (D : va_G) (cy : Nat → ClassId) (ad : Nat → Nat) (P : MP) (V : MV) (I : MI) (J : MJ) (A : MI) (B : MJ) {res : Int32 × Int32 × Int32 × Int32 × Int32 × Int32 × Int32 × Int64 × (Nat → Int32)} (hf : fX6_readCold (I 15 6) (A 16) (B 17) (I 0 4) (I 15 2) (I 15 3) (I 15 4) (I 15 7) (I 15 8) (I 15 9) (J 15 5) (A 4) = some res) : CG l yX6_readCold cX6_readCold 4 none rmX6_readCold D cy (dn cy LY_X6X5 ad P V I J A B) [.ref (ad 0), .ref (ad 15)] none (dn cy LY_X6X5 ad P V (gp I [(0, 4, res.1), (15, 2, res.2.1), (15, 3, res.2.2.1), (15, 4, res.2.2.2.1), (15, 7, res.2.2.2.2.1), (15, 8, res.2.2.2.2.2.1), (15, 9, res.2.2.2.2.2.2.1)]) (gp J [(15, 5, res.2.2.2.2.2.2.2.1)]) (gm A [(4, res.2.2.2.2.2.2.2.2)]) (gm B [])) := by
  refine CG.of (own := RX6) (by decide) rfl rfl ?_
  intro p e s m below meth c ls Af C0 hK hN hA hW hl
  have hW : wd D (dn cy LY_X6X5 ad P V (gp I [(0, 4, (I 0 4)), (15, 2, (I 15 2)), (15, 3, (I 15 3)), (15, 4, (I 15 4)), (15, 7, (I 15 7)), (15, 8, (I 15 8)), (15, 9, (I 15 9))]) (gp J [(15, 5, (J 15 5))]) (gm A [(4, (A 4))]) (gm B [])) Af s.heap s.heap [] := wd_sel [(0, 4), (15, 2), (15, 3), (15, 4), (15, 7), (15, 8), (15, 9)] [(15, 5)] [4] [] hW
  have hl : lv_has ls 4 [(0, .ref (ad 0)), (1, .ref (ad 15))] := hl
  unfold fX6_readCold at hf
  refine lv_aload_n C0.1 C0.2.1 dX6_readCold_0 rfl (lv_at hl 0 rfl) ?_
  refine s_get (v := .int (I 0 4)) C0 hK hW 0 4 LY_X6X5_0 rfl fg_X6_113 rfl dX6_readCold_1 ?_
  refine lv_if_le (tgt := 13) C0.1 C0.2.1 dX6_readCold_4 (by decide) (fun hc1 => ?_) (fun hc1 => ?_)
  · have hf := ite_t hc1 hf
    refine lv_aload_n C0.1 C0.2.1 dX6_readCold_13 rfl (lv_at hl 1 rfl) ?_
    obtain ⟨y2, hy2, hf⟩ := b_some hf
    refine c_Vv C0 hK hN hl.1 hW hA (KX5_next l D cy  (fun q => ad (pl_LY_X6X5_LY_X5_15_16_17.getD q 0)) (fun q => P (pl_LY_X6X5_LY_X5_15_16_17.getD q 0)) (fun q => Vx LY_X6X5 ad V (pl_LY_X6X5_LY_X5_15_16_17.getD q 0)) (fun q => gp I [(0, 4, (I 0 4)), (15, 2, (I 15 2)), (15, 3, (I 15 3)), (15, 4, (I 15 4)), (15, 7, (I 15 7)), (15, 8, (I 15 8)), (15, 9, (I 15 9))] (pl_LY_X6X5_LY_X5_15_16_17.getD q 0)) (fun q => gp J [(15, 5, (J 15 5))] (pl_LY_X6X5_LY_X5_15_16_17.getD q 0)) (fun q => gm A [(4, (A 4))] (pl_LY_X6X5_LY_X5_15_16_17.getD q 0)) (fun q => gm B [] (pl_LY_X6X5_LY_X5_15_16_17.getD q 0))  hy2) (JN_subC (pl := pl_LY_X6X5_LY_X5_15_16_17) sb_LY_X6X5_LY_X5_15_16_17 rfl rfl rfl rfl rfl rfl rfl rfl rfl) (Uw_V uw_488 uw_455 uw_456 uw_2 uw_457) rfl rfl hd_X5_next ⟨rfl, rfl⟩ rfl (dn_some LY_X6X5_15) rfl rfl rfl dX6_readCold_14 ⟨Nat.zero_le _, Nat.zero_le _⟩ (fun H locs hW => ?_)
    have hW : wd D (dn cy LY_X6X5 ad P V (gp I [(0, 4, (I 0 4)), (15, 2, y2.1), (15, 3, y2.2.1), (15, 4, y2.2.2.1), (15, 7, y2.2.2.2.1), (15, 8, y2.2.2.2.2.1), (15, 9, (I 15 9))]) (gp J [(15, 5, y2.2.2.2.2.2)]) (gm A [(4, (A 4))]) (gm B [])) Af s.heap H locs := hW
    refine lv_iconst (v := 0) C0.1 C0.2.1 dX6_readCold_17 kI_0 ?_
    refine lv_istore_n (lv' := [(2, .int 0), (0, .ref (ad 0)), (1, .ref (ad 15))]) C0.1 C0.2.1 dX6_readCold_18 rfl hl (by decide) rfl (fun ls hl => ?_)
    exact TX6_readCold_19 C0 hK hN hA  FU (I 0 4) y2.1 y2.2.1 y2.2.2.1 y2.2.2.2.1 y2.2.2.2.2.1 (I 15 9) y2.2.2.2.2.2 (A 4) 0 _ _ ls hW (lv_sub hl [1, 2, 0] rfl) hf
  · have hf := ite_f hc1 hf
    refine lv_aload_n C0.1 C0.2.1 dX6_readCold_7 rfl (lv_at hl 1 rfl) ?_
    refine lv_iconst (v := 3) C0.1 C0.2.1 dX6_readCold_8 kI_3 ?_
    obtain ⟨y3, hy3, hf⟩ := b_some hf
    refine c_Vv C0 hK hN hl.1 hW hA (KX5_refuse l D cy  (fun q => ad (pl_LY_X6X5_LY_X5_15_16_17.getD q 0)) (fun q => P (pl_LY_X6X5_LY_X5_15_16_17.getD q 0)) (fun q => Vx LY_X6X5 ad V (pl_LY_X6X5_LY_X5_15_16_17.getD q 0)) (fun q => gp I [(0, 4, (I 0 4)), (15, 2, (I 15 2)), (15, 3, (I 15 3)), (15, 4, (I 15 4)), (15, 7, (I 15 7)), (15, 8, (I 15 8)), (15, 9, (I 15 9))] (pl_LY_X6X5_LY_X5_15_16_17.getD q 0)) (fun q => gp J [(15, 5, (J 15 5))] (pl_LY_X6X5_LY_X5_15_16_17.getD q 0)) (fun q => gm A [(4, (A 4))] (pl_LY_X6X5_LY_X5_15_16_17.getD q 0)) (fun q => gm B [] (pl_LY_X6X5_LY_X5_15_16_17.getD q 0)) 3 hy3) (JN_subC (pl := pl_LY_X6X5_LY_X5_15_16_17) sb_LY_X6X5_LY_X5_15_16_17 rfl rfl rfl rfl rfl rfl rfl rfl rfl) (Uw_V uw_484 uw_485 uw_486 uw_2 uw_487) rfl rfl hd_X5_refuse ⟨rfl, rfl⟩ rfl (dn_some LY_X6X5_15) rfl rfl rfl dX6_readCold_9 ⟨Nat.zero_le _, Nat.zero_le _⟩ (fun H locs hW => ?_)
    have hW : wd D (dn cy LY_X6X5 ad P V (gp I [(0, 4, (I 0 4)), (15, 2, (I 15 2)), (15, 3, (I 15 3)), (15, 4, (I 15 4)), (15, 7, (I 15 7)), (15, 8, (I 15 8)), (15, 9, y3)]) (gp J [(15, 5, (J 15 5))]) (gm A [(4, (A 4))]) (gm B [])) Af s.heap H locs := hW
    obtain rfl := Option.some.inj hf
    exact r_void C0 hK hW dX6_readCold_12
-- X6_readSack
def rmX6_readSack : Room := { frames := 6, cells := 0, slots := 0, locals := 127 }
def fX6_readSack (p_length : Int32) (p_signs : (Nat → Int32)) (p_words : (Nat → Int64)) (t_sack : Int32) (p_behind : Int32) (p_place : Int32) (p_takenPlace : Int32) (p_token : Int32) (p_number : Int32) (p_fault : Int32) (p_name : Int64) : Option (Int32 × Int32 × Int32 × Int32 × Int32 × Int32 × Int32 × Int64) := if t_sack ≤ 0 then (Option.bind (fX5_next p_length p_signs p_words p_behind p_place p_takenPlace p_token p_number p_name) fun y2 => (Option.bind (fX5_expectNumber p_length p_signs p_words y2.1 y2.2.1 y2.2.2.1 y2.2.2.2.1 y2.2.2.2.2.1 p_fault y2.2.2.2.2.2 1 20) fun y3 => (some (y3.1, y3.2.1, y3.2.2.1, y3.2.2.2.1, y3.2.2.2.2.1, y3.2.2.2.2.2.1, y3.2.2.2.2.2.2.1, y3.2.2.2.2.2.2.2)))) else (Option.bind (fX5_refuse p_place p_fault 3) fun y4 => (some (t_sack, p_behind, p_place, p_takenPlace, p_token, p_number, y4, p_name)))
set_option maxHeartbeats 4000000 in
set_option maxRecDepth 100000 in
theorem KX6_readSack (l : Launch) (D : va_G) (cy : Nat → ClassId) (ad : Nat → Nat) (P : MP) (V : MV) (I : MI) (J : MJ) (A : MI) (B : MJ) {res : Int32 × Int32 × Int32 × Int32 × Int32 × Int32 × Int32 × Int64} (hf : fX6_readSack (I 15 6) (A 16) (B 17) (I 0 15) (I 15 2) (I 15 3) (I 15 4) (I 15 7) (I 15 8) (I 15 9) (J 15 5) = some res) : CG l yX6_readSack cX6_readSack 2 none rmX6_readSack D cy (dn cy LY_X6X5 ad P V I J A B) [.ref (ad 0), .ref (ad 15)] none (dn cy LY_X6X5 ad P V (gp I [(0, 15, res.1), (15, 2, res.2.1), (15, 3, res.2.2.1), (15, 4, res.2.2.2.1), (15, 7, res.2.2.2.2.1), (15, 8, res.2.2.2.2.2.1), (15, 9, res.2.2.2.2.2.2.1)]) (gp J [(15, 5, res.2.2.2.2.2.2.2)]) (gm A []) (gm B [])) := by
  refine CG.of (own := RX6) (by decide) rfl rfl ?_
  intro p e s m below meth c ls Af C0 hK hN hA hW hl
  have hW : wd D (dn cy LY_X6X5 ad P V (gp I [(0, 15, (I 0 15)), (15, 2, (I 15 2)), (15, 3, (I 15 3)), (15, 4, (I 15 4)), (15, 7, (I 15 7)), (15, 8, (I 15 8)), (15, 9, (I 15 9))]) (gp J [(15, 5, (J 15 5))]) (gm A []) (gm B [])) Af s.heap s.heap [] := wd_sel [(0, 15), (15, 2), (15, 3), (15, 4), (15, 7), (15, 8), (15, 9)] [(15, 5)] [] [] hW
  have hl : lv_has ls 2 [(0, .ref (ad 0)), (1, .ref (ad 15))] := hl
  unfold fX6_readSack at hf
  refine lv_aload_n C0.1 C0.2.1 dX6_readSack_0 rfl (lv_at hl 0 rfl) ?_
  refine s_get (v := .int (I 0 15)) C0 hK hW 0 15 LY_X6X5_0 rfl fg_X6_116 rfl dX6_readSack_1 ?_
  refine lv_if_le (tgt := 13) C0.1 C0.2.1 dX6_readSack_4 (by decide) (fun hc1 => ?_) (fun hc1 => ?_)
  · have hf := ite_t hc1 hf
    refine lv_aload_n C0.1 C0.2.1 dX6_readSack_13 rfl (lv_at hl 1 rfl) ?_
    obtain ⟨y2, hy2, hf⟩ := b_some hf
    refine c_Vv C0 hK hN hl.1 hW hA (KX5_next l D cy  (fun q => ad (pl_LY_X6X5_LY_X5_15_16_17.getD q 0)) (fun q => P (pl_LY_X6X5_LY_X5_15_16_17.getD q 0)) (fun q => Vx LY_X6X5 ad V (pl_LY_X6X5_LY_X5_15_16_17.getD q 0)) (fun q => gp I [(0, 15, (I 0 15)), (15, 2, (I 15 2)), (15, 3, (I 15 3)), (15, 4, (I 15 4)), (15, 7, (I 15 7)), (15, 8, (I 15 8)), (15, 9, (I 15 9))] (pl_LY_X6X5_LY_X5_15_16_17.getD q 0)) (fun q => gp J [(15, 5, (J 15 5))] (pl_LY_X6X5_LY_X5_15_16_17.getD q 0)) (fun q => gm A [] (pl_LY_X6X5_LY_X5_15_16_17.getD q 0)) (fun q => gm B [] (pl_LY_X6X5_LY_X5_15_16_17.getD q 0))  hy2) (JN_subC (pl := pl_LY_X6X5_LY_X5_15_16_17) sb_LY_X6X5_LY_X5_15_16_17 rfl rfl rfl rfl rfl rfl rfl rfl rfl) (Uw_V uw_488 uw_455 uw_456 uw_2 uw_457) rfl rfl hd_X5_next ⟨rfl, rfl⟩ rfl (dn_some LY_X6X5_15) rfl rfl rfl dX6_readSack_14 ⟨Nat.zero_le _, Nat.zero_le _⟩ (fun H locs hW => ?_)
    have hW : wd D (dn cy LY_X6X5 ad P V (gp I [(0, 15, (I 0 15)), (15, 2, y2.1), (15, 3, y2.2.1), (15, 4, y2.2.2.1), (15, 7, y2.2.2.2.1), (15, 8, y2.2.2.2.2.1), (15, 9, (I 15 9))]) (gp J [(15, 5, y2.2.2.2.2.2)]) (gm A []) (gm B [])) Af s.heap H locs := hW
    refine lv_aload_n C0.1 C0.2.1 dX6_readSack_17 rfl (lv_at hl 0 rfl) ?_
    refine lv_aload_n C0.1 C0.2.1 dX6_readSack_18 rfl (lv_at hl 1 rfl) ?_
    refine lv_iconst (v := 1) C0.1 C0.2.1 dX6_readSack_19 kI_1 ?_
    refine lv_bipush (v := 20) C0.1 C0.2.1 dX6_readSack_20 kB_20 ?_
    obtain ⟨y3, hy3, hf⟩ := b_some hf
    refine c_Vi C0 hK hN hl.1 hW hA (KX5_expectNumber l D cy  (fun q => ad (pl_LY_X6X5_LY_X5_15_16_17.getD q 0)) (fun q => P (pl_LY_X6X5_LY_X5_15_16_17.getD q 0)) (fun q => Vx LY_X6X5 ad V (pl_LY_X6X5_LY_X5_15_16_17.getD q 0)) (fun q => gp I [(0, 15, (I 0 15)), (15, 2, y2.1), (15, 3, y2.2.1), (15, 4, y2.2.2.1), (15, 7, y2.2.2.2.1), (15, 8, y2.2.2.2.2.1), (15, 9, (I 15 9))] (pl_LY_X6X5_LY_X5_15_16_17.getD q 0)) (fun q => gp J [(15, 5, y2.2.2.2.2.2)] (pl_LY_X6X5_LY_X5_15_16_17.getD q 0)) (fun q => gm A [] (pl_LY_X6X5_LY_X5_15_16_17.getD q 0)) (fun q => gm B [] (pl_LY_X6X5_LY_X5_15_16_17.getD q 0)) 1 20 hy3) (JN_subC (pl := pl_LY_X6X5_LY_X5_15_16_17) sb_LY_X6X5_LY_X5_15_16_17 rfl rfl rfl rfl rfl rfl rfl rfl rfl) (Uw_V uw_515 uw_516 uw_517 uw_2 uw_518) rfl rfl hd_X5_expectNumber ⟨rfl, rfl⟩ rfl (dn_some LY_X6X5_15) rfl rfl rfl dX6_readSack_22 ⟨Nat.zero_le _, Nat.zero_le _⟩ (fun H locs hW => ?_)
    have hW : wd D (dn cy LY_X6X5 ad P V (gp I [(0, 15, (I 0 15)), (15, 2, y3.2.1), (15, 3, y3.2.2.1), (15, 4, y3.2.2.2.1), (15, 7, y3.2.2.2.2.1), (15, 8, y3.2.2.2.2.2.1), (15, 9, y3.2.2.2.2.2.2.1)]) (gp J [(15, 5, y3.2.2.2.2.2.2.2)]) (gm A []) (gm B [])) Af s.heap H locs := hW
    refine s_putI C0 hK hW 0 15 LY_X6X5_0 rfl fg_X6_116 fp_X6_15 rfl dX6_readSack_25 (fun H locs hW => ?_)
    have hW : wd D (dn cy LY_X6X5 ad P V (gp I [(0, 15, y3.1), (15, 2, y3.2.1), (15, 3, y3.2.2.1), (15, 4, y3.2.2.2.1), (15, 7, y3.2.2.2.2.1), (15, 8, y3.2.2.2.2.2.1), (15, 9, y3.2.2.2.2.2.2.1)]) (gp J [(15, 5, y3.2.2.2.2.2.2.2)]) (gm A []) (gm B [])) Af s.heap H locs := hW
    obtain rfl := Option.some.inj hf
    exact r_void C0 hK hW dX6_readSack_28
  · have hf := ite_f hc1 hf
    refine lv_aload_n C0.1 C0.2.1 dX6_readSack_7 rfl (lv_at hl 1 rfl) ?_
    refine lv_iconst (v := 3) C0.1 C0.2.1 dX6_readSack_8 kI_3 ?_
    obtain ⟨y4, hy4, hf⟩ := b_some hf
    refine c_Vv C0 hK hN hl.1 hW hA (KX5_refuse l D cy  (fun q => ad (pl_LY_X6X5_LY_X5_15_16_17.getD q 0)) (fun q => P (pl_LY_X6X5_LY_X5_15_16_17.getD q 0)) (fun q => Vx LY_X6X5 ad V (pl_LY_X6X5_LY_X5_15_16_17.getD q 0)) (fun q => gp I [(0, 15, (I 0 15)), (15, 2, (I 15 2)), (15, 3, (I 15 3)), (15, 4, (I 15 4)), (15, 7, (I 15 7)), (15, 8, (I 15 8)), (15, 9, (I 15 9))] (pl_LY_X6X5_LY_X5_15_16_17.getD q 0)) (fun q => gp J [(15, 5, (J 15 5))] (pl_LY_X6X5_LY_X5_15_16_17.getD q 0)) (fun q => gm A [] (pl_LY_X6X5_LY_X5_15_16_17.getD q 0)) (fun q => gm B [] (pl_LY_X6X5_LY_X5_15_16_17.getD q 0)) 3 hy4) (JN_subC (pl := pl_LY_X6X5_LY_X5_15_16_17) sb_LY_X6X5_LY_X5_15_16_17 rfl rfl rfl rfl rfl rfl rfl rfl rfl) (Uw_V uw_484 uw_485 uw_486 uw_2 uw_487) rfl rfl hd_X5_refuse ⟨rfl, rfl⟩ rfl (dn_some LY_X6X5_15) rfl rfl rfl dX6_readSack_9 ⟨Nat.zero_le _, Nat.zero_le _⟩ (fun H locs hW => ?_)
    have hW : wd D (dn cy LY_X6X5 ad P V (gp I [(0, 15, (I 0 15)), (15, 2, (I 15 2)), (15, 3, (I 15 3)), (15, 4, (I 15 4)), (15, 7, (I 15 7)), (15, 8, (I 15 8)), (15, 9, y4)]) (gp J [(15, 5, (J 15 5))]) (gm A []) (gm B [])) Af s.heap H locs := hW
    obtain rfl := Option.some.inj hf
    exact r_void C0 hK hW dX6_readSack_12
-- X6_readTakes
def rmX6_readTakes : Room := { frames := 6, cells := 0, slots := 0, locals := 129 }
def fX6_readTakes (p_length : Int32) (p_signs : (Nat → Int32)) (p_words : (Nat → Int64)) (t_law_waiting : Int32) (t_law_nested : Int32) (t_law_length : Int32) (p_behind : Int32) (p_place : Int32) (p_takenPlace : Int32) (p_token : Int32) (p_number : Int32) (p_fault : Int32) (p_name : Int64) (t_law_code : (Nat → Int32)) (t_law_stack : (Nat → Int32)) : Option (Int32 × Int32 × Int32 × Int32 × Int32 × Int32 × Int32 × Int32 × Int32 × Int64 × (Nat → Int32) × (Nat → Int32)) := if t_law_length ≤ 0 then (Option.bind (fX5_next p_length p_signs p_words p_behind p_place p_takenPlace p_token p_number p_name) fun y2 => (Option.bind (fX1_readFrom p_length p_signs p_words t_law_waiting t_law_nested t_law_length y2.1 y2.2.1 y2.2.2.1 y2.2.2.2.1 y2.2.2.2.2.1 p_fault y2.2.2.2.2.2 t_law_code t_law_stack) fun y3 => (some (y3.1, y3.2.1, y3.2.2.1, y3.2.2.2.1, y3.2.2.2.2.1, y3.2.2.2.2.2.1, y3.2.2.2.2.2.2.1, y3.2.2.2.2.2.2.2.1, y3.2.2.2.2.2.2.2.2.1, y3.2.2.2.2.2.2.2.2.2.1, y3.2.2.2.2.2.2.2.2.2.2.1, y3.2.2.2.2.2.2.2.2.2.2.2)))) else (Option.bind (fX5_refuse p_place p_fault 3) fun y4 => (some (t_law_waiting, t_law_nested, t_law_length, p_behind, p_place, p_takenPlace, p_token, p_number, y4, p_name, t_law_code, t_law_stack)))
set_option maxHeartbeats 4000000 in
set_option maxRecDepth 100000 in
theorem KX6_readTakes (l : Launch) (D : va_G) (cy : Nat → ClassId) (ad : Nat → Nat) (P : MP) (V : MV) (I : MI) (J : MJ) (A : MI) (B : MJ) {res : Int32 × Int32 × Int32 × Int32 × Int32 × Int32 × Int32 × Int32 × Int32 × Int64 × (Nat → Int32) × (Nat → Int32)} (hf : fX6_readTakes (I 15 6) (A 16) (B 17) (I 12 2) (I 12 3) (I 12 4) (I 15 2) (I 15 3) (I 15 4) (I 15 7) (I 15 8) (I 15 9) (J 15 5) (A 13) (A 14) = some res) : CG l yX6_readTakes cX6_readTakes 2 none rmX6_readTakes D cy (dn cy LY_X6X5 ad P V I J A B) [.ref (ad 0), .ref (ad 15)] none (dn cy LY_X6X5 ad P V (gp I [(12, 2, res.1), (12, 3, res.2.1), (12, 4, res.2.2.1), (15, 2, res.2.2.2.1), (15, 3, res.2.2.2.2.1), (15, 4, res.2.2.2.2.2.1), (15, 7, res.2.2.2.2.2.2.1), (15, 8, res.2.2.2.2.2.2.2.1), (15, 9, res.2.2.2.2.2.2.2.2.1)]) (gp J [(15, 5, res.2.2.2.2.2.2.2.2.2.1)]) (gm A [(13, res.2.2.2.2.2.2.2.2.2.2.1), (14, res.2.2.2.2.2.2.2.2.2.2.2)]) (gm B [])) := by
  refine CG.of (own := RX6) (by decide) rfl rfl ?_
  intro p e s m below meth c ls Af C0 hK hN hA hW hl
  have hW : wd D (dn cy LY_X6X5 ad P V (gp I [(12, 2, (I 12 2)), (12, 3, (I 12 3)), (12, 4, (I 12 4)), (15, 2, (I 15 2)), (15, 3, (I 15 3)), (15, 4, (I 15 4)), (15, 7, (I 15 7)), (15, 8, (I 15 8)), (15, 9, (I 15 9))]) (gp J [(15, 5, (J 15 5))]) (gm A [(13, (A 13)), (14, (A 14))]) (gm B [])) Af s.heap s.heap [] := wd_sel [(12, 2), (12, 3), (12, 4), (15, 2), (15, 3), (15, 4), (15, 7), (15, 8), (15, 9)] [(15, 5)] [13, 14] [] hW
  have hl : lv_has ls 2 [(0, .ref (ad 0)), (1, .ref (ad 15))] := hl
  unfold fX6_readTakes at hf
  refine lv_aload_n C0.1 C0.2.1 dX6_readTakes_0 rfl (lv_at hl 0 rfl) ?_
  refine s_get (v := .ref (ad 12)) C0 hK hW 0 12 LY_X6X5_0 rfl fg_X6_49 rfl dX6_readTakes_1 ?_
  refine s_get (v := .int (I 12 4)) C0 hK hW 12 4 LY_X6X5_12 rfl fg_X6_119 rfl dX6_readTakes_4 ?_
  refine lv_if_le (tgt := 16) C0.1 C0.2.1 dX6_readTakes_7 (by decide) (fun hc1 => ?_) (fun hc1 => ?_)
  · have hf := ite_t hc1 hf
    refine lv_aload_n C0.1 C0.2.1 dX6_readTakes_16 rfl (lv_at hl 1 rfl) ?_
    obtain ⟨y2, hy2, hf⟩ := b_some hf
    refine c_Vv C0 hK hN hl.1 hW hA (KX5_next l D cy  (fun q => ad (pl_LY_X6X5_LY_X5_15_16_17.getD q 0)) (fun q => P (pl_LY_X6X5_LY_X5_15_16_17.getD q 0)) (fun q => Vx LY_X6X5 ad V (pl_LY_X6X5_LY_X5_15_16_17.getD q 0)) (fun q => gp I [(12, 2, (I 12 2)), (12, 3, (I 12 3)), (12, 4, (I 12 4)), (15, 2, (I 15 2)), (15, 3, (I 15 3)), (15, 4, (I 15 4)), (15, 7, (I 15 7)), (15, 8, (I 15 8)), (15, 9, (I 15 9))] (pl_LY_X6X5_LY_X5_15_16_17.getD q 0)) (fun q => gp J [(15, 5, (J 15 5))] (pl_LY_X6X5_LY_X5_15_16_17.getD q 0)) (fun q => gm A [(13, (A 13)), (14, (A 14))] (pl_LY_X6X5_LY_X5_15_16_17.getD q 0)) (fun q => gm B [] (pl_LY_X6X5_LY_X5_15_16_17.getD q 0))  hy2) (JN_subC (pl := pl_LY_X6X5_LY_X5_15_16_17) sb_LY_X6X5_LY_X5_15_16_17 rfl rfl rfl rfl rfl rfl rfl rfl rfl) (Uw_V uw_488 uw_455 uw_456 uw_2 uw_457) rfl rfl hd_X5_next ⟨rfl, rfl⟩ rfl (dn_some LY_X6X5_15) rfl rfl rfl dX6_readTakes_17 ⟨Nat.zero_le _, Nat.zero_le _⟩ (fun H locs hW => ?_)
    have hW : wd D (dn cy LY_X6X5 ad P V (gp I [(12, 2, (I 12 2)), (12, 3, (I 12 3)), (12, 4, (I 12 4)), (15, 2, y2.1), (15, 3, y2.2.1), (15, 4, y2.2.2.1), (15, 7, y2.2.2.2.1), (15, 8, y2.2.2.2.2.1), (15, 9, (I 15 9))]) (gp J [(15, 5, y2.2.2.2.2.2)]) (gm A [(13, (A 13)), (14, (A 14))]) (gm B [])) Af s.heap H locs := hW
    refine lv_aload_n C0.1 C0.2.1 dX6_readTakes_20 rfl (lv_at hl 0 rfl) ?_
    refine s_get (v := .ref (ad 12)) C0 hK hW 0 12 LY_X6X5_0 rfl fg_X6_49 rfl dX6_readTakes_21 ?_
    refine lv_aload_n C0.1 C0.2.1 dX6_readTakes_24 rfl (lv_at hl 1 rfl) ?_
    obtain ⟨y3, hy3, hf⟩ := b_some hf
    refine c_Vv C0 hK hN hl.1 hW hA (KX1_readFrom l D cy  (fun q => ad (pl_LY_X6X5_LY_X1X5_12_13_14_15_16_17.getD q 0)) (fun q => P (pl_LY_X6X5_LY_X1X5_12_13_14_15_16_17.getD q 0)) (fun q => Vx LY_X6X5 ad V (pl_LY_X6X5_LY_X1X5_12_13_14_15_16_17.getD q 0)) (fun q => gp I [(12, 2, (I 12 2)), (12, 3, (I 12 3)), (12, 4, (I 12 4)), (15, 2, y2.1), (15, 3, y2.2.1), (15, 4, y2.2.2.1), (15, 7, y2.2.2.2.1), (15, 8, y2.2.2.2.2.1), (15, 9, (I 15 9))] (pl_LY_X6X5_LY_X1X5_12_13_14_15_16_17.getD q 0)) (fun q => gp J [(15, 5, y2.2.2.2.2.2)] (pl_LY_X6X5_LY_X1X5_12_13_14_15_16_17.getD q 0)) (fun q => gm A [(13, (A 13)), (14, (A 14))] (pl_LY_X6X5_LY_X1X5_12_13_14_15_16_17.getD q 0)) (fun q => gm B [] (pl_LY_X6X5_LY_X1X5_12_13_14_15_16_17.getD q 0))  hy3) (JN_subC (pl := pl_LY_X6X5_LY_X1X5_12_13_14_15_16_17) sb_LY_X6X5_LY_X1X5_12_13_14_15_16_17 rfl rfl rfl rfl rfl rfl rfl rfl rfl) (Uw_V uw_554 uw_555 uw_556 uw_11 uw_557) rfl rfl hd_X1_readFrom ⟨rfl, rfl⟩ rfl (dn_some LY_X6X5_12) rfl rfl rfl dX6_readTakes_25 ⟨Nat.zero_le _, Nat.zero_le _⟩ (fun H locs hW => ?_)
    have hW : wd D (dn cy LY_X6X5 ad P V (gp I [(12, 2, y3.1), (12, 3, y3.2.1), (12, 4, y3.2.2.1), (15, 2, y3.2.2.2.1), (15, 3, y3.2.2.2.2.1), (15, 4, y3.2.2.2.2.2.1), (15, 7, y3.2.2.2.2.2.2.1), (15, 8, y3.2.2.2.2.2.2.2.1), (15, 9, y3.2.2.2.2.2.2.2.2.1)]) (gp J [(15, 5, y3.2.2.2.2.2.2.2.2.2.1)]) (gm A [(13, y3.2.2.2.2.2.2.2.2.2.2.1), (14, y3.2.2.2.2.2.2.2.2.2.2.2)]) (gm B [])) Af s.heap H locs := hW
    obtain rfl := Option.some.inj hf
    exact r_void C0 hK hW dX6_readTakes_28
  · have hf := ite_f hc1 hf
    refine lv_aload_n C0.1 C0.2.1 dX6_readTakes_10 rfl (lv_at hl 1 rfl) ?_
    refine lv_iconst (v := 3) C0.1 C0.2.1 dX6_readTakes_11 kI_3 ?_
    obtain ⟨y4, hy4, hf⟩ := b_some hf
    refine c_Vv C0 hK hN hl.1 hW hA (KX5_refuse l D cy  (fun q => ad (pl_LY_X6X5_LY_X5_15_16_17.getD q 0)) (fun q => P (pl_LY_X6X5_LY_X5_15_16_17.getD q 0)) (fun q => Vx LY_X6X5 ad V (pl_LY_X6X5_LY_X5_15_16_17.getD q 0)) (fun q => gp I [(12, 2, (I 12 2)), (12, 3, (I 12 3)), (12, 4, (I 12 4)), (15, 2, (I 15 2)), (15, 3, (I 15 3)), (15, 4, (I 15 4)), (15, 7, (I 15 7)), (15, 8, (I 15 8)), (15, 9, (I 15 9))] (pl_LY_X6X5_LY_X5_15_16_17.getD q 0)) (fun q => gp J [(15, 5, (J 15 5))] (pl_LY_X6X5_LY_X5_15_16_17.getD q 0)) (fun q => gm A [(13, (A 13)), (14, (A 14))] (pl_LY_X6X5_LY_X5_15_16_17.getD q 0)) (fun q => gm B [] (pl_LY_X6X5_LY_X5_15_16_17.getD q 0)) 3 hy4) (JN_subC (pl := pl_LY_X6X5_LY_X5_15_16_17) sb_LY_X6X5_LY_X5_15_16_17 rfl rfl rfl rfl rfl rfl rfl rfl rfl) (Uw_V uw_484 uw_485 uw_486 uw_2 uw_487) rfl rfl hd_X5_refuse ⟨rfl, rfl⟩ rfl (dn_some LY_X6X5_15) rfl rfl rfl dX6_readTakes_12 ⟨Nat.zero_le _, Nat.zero_le _⟩ (fun H locs hW => ?_)
    have hW : wd D (dn cy LY_X6X5 ad P V (gp I [(12, 2, (I 12 2)), (12, 3, (I 12 3)), (12, 4, (I 12 4)), (15, 2, (I 15 2)), (15, 3, (I 15 3)), (15, 4, (I 15 4)), (15, 7, (I 15 7)), (15, 8, (I 15 8)), (15, 9, y4)]) (gp J [(15, 5, (J 15 5))]) (gm A [(13, (A 13)), (14, (A 14))]) (gm B [])) Af s.heap H locs := hW
    obtain rfl := Option.some.inj hf
    exact r_void C0 hK hW dX6_readTakes_15
