-- X8_feed
def rmX8_feed : Room := { frames := 2, cells := 0, slots := 0, locals := 45 }
def fX8_feed (c_tape_length : Int32) (c_tape_signs : (Nat → Int32)) (v1 : Int64) (v3 : Int64) (v5 : Int64) : Option (Int32 × Int32 × (Nat → Int32)) := Option.bind (fX5_addBytes c_tape_length c_tape_signs v1) fun y1 => (Option.bind (fX5_addBytes y1.1 y1.2 v3) fun y2 => (Option.bind (fX5_addBytes y2.1 y2.2 v5) fun y3 => (some (y3.1, y3.1, y3.2))))
set_option maxHeartbeats 4000000 in
set_option maxRecDepth 100000 in
theorem KX8_feed (l : Launch) (D : va_G) (cy : Nat → ClassId) (ad : Nat → Nat) (P : MP) (V : MV) (I : MI) (J : MJ) (A : MI) (B : MJ) (v1 : Int64) (v3 : Int64) (v5 : Int64) {res : Int32 × Int32 × (Nat → Int32)} (hf : fX8_feed (I 1 6) (A 2) v1 v3 v5 = some res) : CG l yX8_feed cX8_feed 7 (some .int) rmX8_feed D cy (dn cy LY_X8 ad P V I J A B) [.ref (ad 0), .long v1, .long v3, .long v5] (some (.int res.1)) (dn cy LY_X8 ad P V (gp I [(1, 6, res.2.1)]) (gp J []) (gm A [(2, res.2.2)]) (gm B [])) := by
  refine CG.of (own := RX8) (by decide) rfl rfl ?_
  intro p e s m below meth c ls Af C0 hK hN hA hW hl
  have hW : wd D (dn cy LY_X8 ad P V (gp I [(1, 6, (I 1 6))]) (gp J []) (gm A [(2, (A 2))]) (gm B [])) Af s.heap s.heap [] := wd_sel [(1, 6)] [] [2] [] hW
  have hl : lv_has ls 7 [(0, .ref (ad 0)), (1, .long v1), (3, .long v3), (5, .long v5)] := hl
  unfold fX8_feed at hf
  refine lv_aload_n C0.1 C0.2.1 dX8_feed_0 rfl (lv_at hl 0 rfl) ?_
  refine s_get (v := .ref (ad 1)) C0 hK hW 0 0 LY_X8_0 rfl fg_X8_10 rfl dX8_feed_1 ?_
  refine lv_lload_n C0.1 C0.2.1 dX8_feed_4 rfl (lv_at hl 1 rfl) ?_
  obtain ⟨y1, hy1, hf⟩ := b_some hf
  refine c_Vv C0 hK hN hl.1 hW hA (KX5_addBytes l D cy  (fun q => ad (pl_LY_X8_LY_X5_1_2_3.getD q 0)) (fun q => P (pl_LY_X8_LY_X5_1_2_3.getD q 0)) (fun q => Vx LY_X8 ad V (pl_LY_X8_LY_X5_1_2_3.getD q 0)) (fun q => gp I [(1, 6, (I 1 6))] (pl_LY_X8_LY_X5_1_2_3.getD q 0)) (fun q => gp J [] (pl_LY_X8_LY_X5_1_2_3.getD q 0)) (fun q => gm A [(2, (A 2))] (pl_LY_X8_LY_X5_1_2_3.getD q 0)) (fun q => gm B [] (pl_LY_X8_LY_X5_1_2_3.getD q 0)) v1 hy1) (JN_subC (pl := pl_LY_X8_LY_X5_1_2_3) sb_LY_X8_LY_X5_1_2_3 rfl rfl rfl rfl rfl rfl rfl rfl rfl) (Uw_V uw_433 uw_434 uw_435 uw_2 uw_436) rfl rfl hd_X5_addBytes ⟨rfl, rfl⟩ rfl (dn_some LY_X8_1) rfl rfl rfl dX8_feed_5 ⟨Nat.zero_le _, Nat.zero_le _⟩ (fun H locs hW => ?_)
  have hW : wd D (dn cy LY_X8 ad P V (gp I [(1, 6, y1.1)]) (gp J []) (gm A [(2, y1.2)]) (gm B [])) Af s.heap H locs := hW
  refine lv_aload_n C0.1 C0.2.1 dX8_feed_8 rfl (lv_at hl 0 rfl) ?_
  refine s_get (v := .ref (ad 1)) C0 hK hW 0 0 LY_X8_0 rfl fg_X8_10 rfl dX8_feed_9 ?_
  refine lv_lload_n C0.1 C0.2.1 dX8_feed_12 rfl (lv_at hl 2 rfl) ?_
  obtain ⟨y2, hy2, hf⟩ := b_some hf
  refine c_Vv C0 hK hN hl.1 hW hA (KX5_addBytes l D cy  (fun q => ad (pl_LY_X8_LY_X5_1_2_3.getD q 0)) (fun q => P (pl_LY_X8_LY_X5_1_2_3.getD q 0)) (fun q => Vx LY_X8 ad V (pl_LY_X8_LY_X5_1_2_3.getD q 0)) (fun q => gp I [(1, 6, y1.1)] (pl_LY_X8_LY_X5_1_2_3.getD q 0)) (fun q => gp J [] (pl_LY_X8_LY_X5_1_2_3.getD q 0)) (fun q => gm A [(2, y1.2)] (pl_LY_X8_LY_X5_1_2_3.getD q 0)) (fun q => gm B [] (pl_LY_X8_LY_X5_1_2_3.getD q 0)) v3 hy2) (JN_subC (pl := pl_LY_X8_LY_X5_1_2_3) sb_LY_X8_LY_X5_1_2_3 rfl rfl rfl rfl rfl rfl rfl rfl rfl) (Uw_V uw_433 uw_434 uw_435 uw_2 uw_436) rfl rfl hd_X5_addBytes ⟨rfl, rfl⟩ rfl (dn_some LY_X8_1) rfl rfl rfl dX8_feed_13 ⟨Nat.zero_le _, Nat.zero_le _⟩ (fun H locs hW => ?_)
  have hW : wd D (dn cy LY_X8 ad P V (gp I [(1, 6, y2.1)]) (gp J []) (gm A [(2, y2.2)]) (gm B [])) Af s.heap H locs := hW
  refine lv_aload_n C0.1 C0.2.1 dX8_feed_16 rfl (lv_at hl 0 rfl) ?_
  refine s_get (v := .ref (ad 1)) C0 hK hW 0 0 LY_X8_0 rfl fg_X8_10 rfl dX8_feed_17 ?_
  refine lv_lload C0.1 C0.2.1 dX8_feed_20 (lv_at hl 3 rfl) ?_
  obtain ⟨y3, hy3, hf⟩ := b_some hf
  refine c_Vv C0 hK hN hl.1 hW hA (KX5_addBytes l D cy  (fun q => ad (pl_LY_X8_LY_X5_1_2_3.getD q 0)) (fun q => P (pl_LY_X8_LY_X5_1_2_3.getD q 0)) (fun q => Vx LY_X8 ad V (pl_LY_X8_LY_X5_1_2_3.getD q 0)) (fun q => gp I [(1, 6, y2.1)] (pl_LY_X8_LY_X5_1_2_3.getD q 0)) (fun q => gp J [] (pl_LY_X8_LY_X5_1_2_3.getD q 0)) (fun q => gm A [(2, y2.2)] (pl_LY_X8_LY_X5_1_2_3.getD q 0)) (fun q => gm B [] (pl_LY_X8_LY_X5_1_2_3.getD q 0)) v5 hy3) (JN_subC (pl := pl_LY_X8_LY_X5_1_2_3) sb_LY_X8_LY_X5_1_2_3 rfl rfl rfl rfl rfl rfl rfl rfl rfl) (Uw_V uw_433 uw_434 uw_435 uw_2 uw_436) rfl rfl hd_X5_addBytes ⟨rfl, rfl⟩ rfl (dn_some LY_X8_1) rfl rfl rfl dX8_feed_22 ⟨Nat.zero_le _, Nat.zero_le _⟩ (fun H locs hW => ?_)
  have hW : wd D (dn cy LY_X8 ad P V (gp I [(1, 6, y3.1)]) (gp J []) (gm A [(2, y3.2)]) (gm B [])) Af s.heap H locs := hW
  refine lv_aload_n C0.1 C0.2.1 dX8_feed_25 rfl (lv_at hl 0 rfl) ?_
  refine s_get (v := .ref (ad 1)) C0 hK hW 0 0 LY_X8_0 rfl fg_X8_10 rfl dX8_feed_26 ?_
  refine s_get (v := .int y3.1) C0 hK hW 1 6 LY_X8_1 rfl fg_X8_75 rfl dX8_feed_29 ?_
  obtain rfl := Option.some.inj hf
  exact r_int C0 hK hW dX8_feed_32
-- X8_hole
def rmX8_hole : Room := { frames := 6, cells := 0, slots := 0, locals := 141 }
def fX8_hole (c_now_date : Int32) (c_told_holes : Int32) (c_told_guests : Int32) (c_told_law_length : Int32) (c_now_coal : (Nat → Int32)) (c_now_inside : (Nat → Int32)) (c_told_holeFlags : (Nat → Int32)) (c_told_burns : (Nat → Int32)) (c_told_beside : (Nat → Int32)) (c_told_kinds : (Nat → Int32)) (c_told_guestFlags : (Nat → Int32)) (c_told_foes : (Nat → Int32)) (c_told_law_code : (Nat → Int32)) (c_told_law_waiting : Int32) (c_told_law_stack : (Nat → Int32)) (v1 : Int32) (v2 : Int32) : Option (Int32 × Int32 × (Nat → Int32)) := Option.bind (fX6_hasHole c_told_holes v1) fun y1 => (if y1 = 0 then (some ((-1), c_told_law_waiting, c_told_law_stack)) else (if Int32.toInt v2 = 0 then (bif inb v1 5 then (some ((c_told_holeFlags (Int32.toNatClampNeg v1)), c_told_law_waiting, c_told_law_stack)) else none) else (if Int32.toInt v2 = 1 then (bif inb v1 5 then (some ((c_now_coal (Int32.toNatClampNeg v1)), c_told_law_waiting, c_told_law_stack)) else none) else (if Int32.toInt v2 = 2 then (bif inb v1 5 then (some ((c_told_burns (Int32.toNatClampNeg v1)), c_told_law_waiting, c_told_law_stack)) else none) else (if Int32.toInt v2 = 3 then (bif inb v1 5 then (some ((c_now_inside (Int32.toNatClampNeg v1)), c_told_law_waiting, c_told_law_stack)) else none) else (if Int32.toInt v2 = 4 then (bif inb v1 5 then (some ((c_told_beside (Int32.toNatClampNeg v1)), c_told_law_waiting, c_told_law_stack)) else none) else (if Int32.toInt v2 = 5 then (Option.bind (fX4_takenBits c_now_date c_told_guests c_told_law_length c_now_coal c_now_inside c_told_holeFlags c_told_kinds c_told_guestFlags c_told_foes c_told_law_code c_told_law_waiting c_told_law_stack v1) fun y14 => (some (y14.1, y14.2.1, y14.2.2))) else (some ((-1), c_told_law_waiting, c_told_law_stack)))))))))
set_option maxHeartbeats 4000000 in
set_option maxRecDepth 100000 in
theorem KX8_hole (l : Launch) (D : va_G) (cy : Nat → ClassId) (ad : Nat → Nat) (P : MP) (V : MV) (I : MI) (J : MJ) (A : MI) (B : MJ) (v1 : Int32) (v2 : Int32) {res : Int32 × Int32 × (Nat → Int32)} (hf : fX8_hole (I 4 3) (I 112 13) (I 112 14) (I 124 4) (A 5) (A 6) (A 117) (A 119) (A 120) (A 121) (A 122) (A 123) (A 125) (I 124 2) (A 126) v1 v2 = some res) : CG l yX8_hole cX8_hole 3 (some .int) rmX8_hole D cy (dn cy LY_X8 ad P V I J A B) [.ref (ad 0), .int v1, .int v2] (some (.int res.1)) (dn cy LY_X8 ad P V (gp I [(124, 2, res.2.1)]) (gp J []) (gm A [(126, res.2.2)]) (gm B [])) := by
  refine CG.of (own := RX8) (by decide) rfl rfl ?_
  intro p e s m below meth c ls Af C0 hK hN hA hW hl
  have hW : wd D (dn cy LY_X8 ad P V (gp I [(124, 2, (I 124 2))]) (gp J []) (gm A [(126, (A 126))]) (gm B [])) Af s.heap s.heap [] := wd_sel [(124, 2)] [] [126] [] hW
  have hl : lv_has ls 3 [(0, .ref (ad 0)), (1, .int v1), (2, .int v2)] := hl
  unfold fX8_hole at hf
  refine lv_aload_n C0.1 C0.2.1 dX8_hole_0 rfl (lv_at hl 0 rfl) ?_
  refine s_get (v := .ref (ad 112)) C0 hK hW 0 7 LY_X8_0 rfl fg_X8_53 rfl dX8_hole_1 ?_
  refine lv_iload_n C0.1 C0.2.1 dX8_hole_4 rfl (lv_at hl 1 rfl) ?_
  obtain ⟨y1, hy1, hf⟩ := b_some hf
  refine c_Vi C0 hK hN hl.1 hW hA (KX6_hasHole l D cy  (fun q => ad (pl_LY_X8_LY_X6_112_113_59166342.getD q 0)) (fun q => P (pl_LY_X8_LY_X6_112_113_59166342.getD q 0)) (fun q => Vx LY_X8 ad V (pl_LY_X8_LY_X6_112_113_59166342.getD q 0)) (fun q => gp I [(124, 2, (I 124 2))] (pl_LY_X8_LY_X6_112_113_59166342.getD q 0)) (fun q => gp J [] (pl_LY_X8_LY_X6_112_113_59166342.getD q 0)) (fun q => gm A [(126, (A 126))] (pl_LY_X8_LY_X6_112_113_59166342.getD q 0)) (fun q => gm B [] (pl_LY_X8_LY_X6_112_113_59166342.getD q 0)) v1 hy1) (JN_subC (pl := pl_LY_X8_LY_X6_112_113_59166342) sb_LY_X8_LY_X6_112_113_59166342 rfl rfl rfl rfl rfl rfl rfl rfl rfl) (Uw_V uw_627 uw_628 uw_629 uw_10 uw_630) rfl rfl hd_X6_hasHole ⟨rfl, rfl⟩ rfl (dn_some LY_X8_112) rfl rfl rfl dX8_hole_5 ⟨Nat.zero_le _, Nat.zero_le _⟩ (fun H locs hW => ?_)
  have hW : wd D (dn cy LY_X8 ad P V (gp I [(124, 2, (I 124 2))]) (gp J []) (gm A [(126, (A 126))]) (gm B [])) Af s.heap H locs := hW
  refine lv_if_ne (tgt := 13) C0.1 C0.2.1 dX8_hole_8 (by decide) (fun hc2 => ?_) (fun hc2 => ?_)
  · have hf := ite_f hc2 hf
    refine lv_iload_n C0.1 C0.2.1 dX8_hole_13 rfl (lv_at hl 2 rfl) ?_
    by_cases hc3 : Int32.toInt v2 = 0
    · have hf := ite_t hc3 hf
      refine lv_tableIn (tgt := 52) (off := 38) C0.1 C0.2.1 dX8_hole_14 (by omega) (by omega) (by rw [hc3]; rfl) (by decide) ?_
      refine lv_aload_n C0.1 C0.2.1 dX8_hole_52 rfl (lv_at hl 0 rfl) ?_
      refine s_get (v := .ref (ad 112)) C0 hK hW 0 7 LY_X8_0 rfl fg_X8_53 rfl dX8_hole_53 ?_
      refine s_get (v := .ref (ad 117)) C0 hK hW 112 5 LY_X8_112 rfl fg_X8_107 rfl dX8_hole_56 ?_
      refine lv_iload_n C0.1 C0.2.1 dX8_hole_59 rfl (lv_at hl 1 rfl) ?_
      obtain ⟨hb4, hf⟩ := g_some hf
      refine s_iald (v := ((A 117) (Int32.toNatClampNeg v1))) C0 hK hW 117 LY_X8_117 hb4 rfl dX8_hole_60 ?_
      obtain rfl := Option.some.inj hf
      exact r_int C0 hK hW dX8_hole_61
    · have hf := ite_f hc3 hf
      by_cases hc5 : Int32.toInt v2 = 1
      · have hf := ite_t hc5 hf
        refine lv_tableIn (tgt := 62) (off := 48) C0.1 C0.2.1 dX8_hole_14 (by omega) (by omega) (by rw [hc5]; rfl) (by decide) ?_
        refine lv_aload_n C0.1 C0.2.1 dX8_hole_62 rfl (lv_at hl 0 rfl) ?_
        refine s_get (v := .ref (ad 4)) C0 hK hW 0 1 LY_X8_0 rfl fg_X8_19 rfl dX8_hole_63 ?_
        refine s_get (v := .ref (ad 5)) C0 hK hW 4 0 LY_X8_4 rfl fg_X8_111 rfl dX8_hole_66 ?_
        refine lv_iload_n C0.1 C0.2.1 dX8_hole_69 rfl (lv_at hl 1 rfl) ?_
        obtain ⟨hb6, hf⟩ := g_some hf
        refine s_iald (v := ((A 5) (Int32.toNatClampNeg v1))) C0 hK hW 5 LY_X8_5 hb6 rfl dX8_hole_70 ?_
        obtain rfl := Option.some.inj hf
        exact r_int C0 hK hW dX8_hole_71
      · have hf := ite_f hc5 hf
        by_cases hc7 : Int32.toInt v2 = 2
        · have hf := ite_t hc7 hf
          refine lv_tableIn (tgt := 72) (off := 58) C0.1 C0.2.1 dX8_hole_14 (by omega) (by omega) (by rw [hc7]; rfl) (by decide) ?_
          refine lv_aload_n C0.1 C0.2.1 dX8_hole_72 rfl (lv_at hl 0 rfl) ?_
          refine s_get (v := .ref (ad 112)) C0 hK hW 0 7 LY_X8_0 rfl fg_X8_53 rfl dX8_hole_73 ?_
          refine s_get (v := .ref (ad 119)) C0 hK hW 112 7 LY_X8_112 rfl fg_X8_114 rfl dX8_hole_76 ?_
          refine lv_iload_n C0.1 C0.2.1 dX8_hole_79 rfl (lv_at hl 1 rfl) ?_
          obtain ⟨hb8, hf⟩ := g_some hf
          refine s_iald (v := ((A 119) (Int32.toNatClampNeg v1))) C0 hK hW 119 LY_X8_119 hb8 rfl dX8_hole_80 ?_
          obtain rfl := Option.some.inj hf
          exact r_int C0 hK hW dX8_hole_81
        · have hf := ite_f hc7 hf
          by_cases hc9 : Int32.toInt v2 = 3
          · have hf := ite_t hc9 hf
            refine lv_tableIn (tgt := 82) (off := 68) C0.1 C0.2.1 dX8_hole_14 (by omega) (by omega) (by rw [hc9]; rfl) (by decide) ?_
            refine lv_aload_n C0.1 C0.2.1 dX8_hole_82 rfl (lv_at hl 0 rfl) ?_
            refine s_get (v := .ref (ad 4)) C0 hK hW 0 1 LY_X8_0 rfl fg_X8_19 rfl dX8_hole_83 ?_
            refine s_get (v := .ref (ad 6)) C0 hK hW 4 1 LY_X8_4 rfl fg_X8_117 rfl dX8_hole_86 ?_
            refine lv_iload_n C0.1 C0.2.1 dX8_hole_89 rfl (lv_at hl 1 rfl) ?_
            obtain ⟨hb10, hf⟩ := g_some hf
            refine s_iald (v := ((A 6) (Int32.toNatClampNeg v1))) C0 hK hW 6 LY_X8_6 hb10 rfl dX8_hole_90 ?_
            obtain rfl := Option.some.inj hf
            exact r_int C0 hK hW dX8_hole_91
          · have hf := ite_f hc9 hf
            by_cases hc11 : Int32.toInt v2 = 4
            · have hf := ite_t hc11 hf
              refine lv_tableIn (tgt := 92) (off := 78) C0.1 C0.2.1 dX8_hole_14 (by omega) (by omega) (by rw [hc11]; rfl) (by decide) ?_
              refine lv_aload_n C0.1 C0.2.1 dX8_hole_92 rfl (lv_at hl 0 rfl) ?_
              refine s_get (v := .ref (ad 112)) C0 hK hW 0 7 LY_X8_0 rfl fg_X8_53 rfl dX8_hole_93 ?_
              refine s_get (v := .ref (ad 120)) C0 hK hW 112 8 LY_X8_112 rfl fg_X8_120 rfl dX8_hole_96 ?_
              refine lv_iload_n C0.1 C0.2.1 dX8_hole_99 rfl (lv_at hl 1 rfl) ?_
              obtain ⟨hb12, hf⟩ := g_some hf
              refine s_iald (v := ((A 120) (Int32.toNatClampNeg v1))) C0 hK hW 120 LY_X8_120 hb12 rfl dX8_hole_100 ?_
              obtain rfl := Option.some.inj hf
              exact r_int C0 hK hW dX8_hole_101
            · have hf := ite_f hc11 hf
              by_cases hc13 : Int32.toInt v2 = 5
              · have hf := ite_t hc13 hf
                refine lv_tableIn (tgt := 102) (off := 88) C0.1 C0.2.1 dX8_hole_14 (by omega) (by omega) (by rw [hc13]; rfl) (by decide) ?_
                refine lv_aload_n C0.1 C0.2.1 dX8_hole_102 rfl (lv_at hl 0 rfl) ?_
                refine s_get (v := .ref (ad 4)) C0 hK hW 0 1 LY_X8_0 rfl fg_X8_19 rfl dX8_hole_103 ?_
                refine lv_aload_n C0.1 C0.2.1 dX8_hole_106 rfl (lv_at hl 0 rfl) ?_
                refine s_get (v := .ref (ad 112)) C0 hK hW 0 7 LY_X8_0 rfl fg_X8_53 rfl dX8_hole_107 ?_
                refine lv_iload_n C0.1 C0.2.1 dX8_hole_110 rfl (lv_at hl 1 rfl) ?_
                obtain ⟨y14, hy14, hf⟩ := b_some hf
                refine c_Vi C0 hK hN hl.1 hW hA (KX4_takenBits l D cy  (fun q => ad (pl_LY_X8_LY_X4X6_4_5_5025986.getD q 0)) (fun q => P (pl_LY_X8_LY_X4X6_4_5_5025986.getD q 0)) (fun q => Vx LY_X8 ad V (pl_LY_X8_LY_X4X6_4_5_5025986.getD q 0)) (fun q => gp I [(124, 2, (I 124 2))] (pl_LY_X8_LY_X4X6_4_5_5025986.getD q 0)) (fun q => gp J [] (pl_LY_X8_LY_X4X6_4_5_5025986.getD q 0)) (fun q => gm A [(126, (A 126))] (pl_LY_X8_LY_X4X6_4_5_5025986.getD q 0)) (fun q => gm B [] (pl_LY_X8_LY_X4X6_4_5_5025986.getD q 0)) v1 hy14) (JN_subC (pl := pl_LY_X8_LY_X4X6_4_5_5025986) sb_LY_X8_LY_X4X6_4_5_5025986 rfl rfl rfl rfl rfl rfl rfl rfl rfl) (Uw_V uw_631 uw_632 uw_633 uw_7 uw_634) rfl rfl hd_X4_takenBits ⟨rfl, rfl⟩ rfl (dn_some LY_X8_4) rfl rfl rfl dX8_hole_111 ⟨Nat.zero_le _, Nat.zero_le _⟩ (fun H locs hW => ?_)
                have hW : wd D (dn cy LY_X8 ad P V (gp I [(124, 2, y14.2.1)]) (gp J []) (gm A [(126, y14.2.2)]) (gm B [])) Af s.heap H locs := hW
                obtain rfl := Option.some.inj hf
                exact r_int C0 hK hW dX8_hole_114
              · have hf := ite_f hc13 hf
                refine lv_tableOut (tgt := 115) C0.1 C0.2.1 dX8_hole_14 (by omega) (by decide) ?_
                refine lv_iconst (v := (-1)) C0.1 C0.2.1 dX8_hole_115 kI_m1 ?_
                obtain rfl := Option.some.inj hf
                exact r_int C0 hK hW dX8_hole_116
  · have hf := ite_t hc2 hf
    refine lv_iconst (v := (-1)) C0.1 C0.2.1 dX8_hole_11 kI_m1 ?_
    obtain rfl := Option.some.inj hf
    exact r_int C0 hK hW dX8_hole_12
-- X8_guest
def rmX8_guest : Room := { frames := 3, cells := 0, slots := 0, locals := 67 }
def fX8_guest (c_now_seized : Int32) (c_told_holes : Int32) (c_told_guests : Int32) (c_now_inside : (Nat → Int32)) (c_told_kinds : (Nat → Int32)) (c_told_guestFlags : (Nat → Int32)) (c_told_foes : (Nat → Int32)) (v1 : Int32) (v2 : Int32) : Option (Int32) := Option.bind (fX6_hasGuest c_told_guests v1) fun y1 => (if y1 = 0 then (some ((-2))) else (if Int32.toInt v2 = 0 then (bif inb v1 5 then (some (((c_told_kinds (Int32.toNatClampNeg v1)) - 143))) else none) else (if Int32.toInt v2 = 1 then (bif inb v1 5 then (some ((c_told_guestFlags (Int32.toNatClampNeg v1)))) else none) else (if Int32.toInt v2 = 2 then (Option.bind (fX4_placeOf c_now_inside v1) fun y8 => (some (y8))) else (if Int32.toInt v2 = 3 then (some (((c_now_seized >>> (v1 &&& 31)) &&& 1))) else (if Int32.toInt v2 = 4 then (Option.bind (fX4_foesBits c_now_seized c_told_holes c_told_guests c_now_inside c_told_foes v1) fun y11 => (some (y11))) else (some ((-2)))))))))
set_option maxHeartbeats 4000000 in
set_option maxRecDepth 100000 in
theorem KX8_guest (l : Launch) (D : va_G) (cy : Nat → ClassId) (ad : Nat → Nat) (P : MP) (V : MV) (I : MI) (J : MJ) (A : MI) (B : MJ) (v1 : Int32) (v2 : Int32) {res : Int32} (hf : fX8_guest (I 4 2) (I 112 13) (I 112 14) (A 6) (A 121) (A 122) (A 123) v1 v2 = some res) : CG l yX8_guest cX8_guest 3 (some .int) rmX8_guest D cy (dn cy LY_X8 ad P V I J A B) [.ref (ad 0), .int v1, .int v2] (some (.int res)) (dn cy LY_X8 ad P V (gp I []) (gp J []) (gm A []) (gm B [])) := by
  refine CG.of (own := RX8) (by decide) rfl rfl ?_
  intro p e s m below meth c ls Af C0 hK hN hA hW hl
  have hW : wd D (dn cy LY_X8 ad P V (gp I []) (gp J []) (gm A []) (gm B [])) Af s.heap s.heap [] := wd_sel [] [] [] [] hW
  have hl : lv_has ls 3 [(0, .ref (ad 0)), (1, .int v1), (2, .int v2)] := hl
  unfold fX8_guest at hf
  refine lv_aload_n C0.1 C0.2.1 dX8_guest_0 rfl (lv_at hl 0 rfl) ?_
  refine s_get (v := .ref (ad 112)) C0 hK hW 0 7 LY_X8_0 rfl fg_X8_53 rfl dX8_guest_1 ?_
  refine lv_iload_n C0.1 C0.2.1 dX8_guest_4 rfl (lv_at hl 1 rfl) ?_
  obtain ⟨y1, hy1, hf⟩ := b_some hf
  refine c_Vi C0 hK hN hl.1 hW hA (KX6_hasGuest l D cy  (fun q => ad (pl_LY_X8_LY_X6_112_113_59166342.getD q 0)) (fun q => P (pl_LY_X8_LY_X6_112_113_59166342.getD q 0)) (fun q => Vx LY_X8 ad V (pl_LY_X8_LY_X6_112_113_59166342.getD q 0)) (fun q => gp I [] (pl_LY_X8_LY_X6_112_113_59166342.getD q 0)) (fun q => gp J [] (pl_LY_X8_LY_X6_112_113_59166342.getD q 0)) (fun q => gm A [] (pl_LY_X8_LY_X6_112_113_59166342.getD q 0)) (fun q => gm B [] (pl_LY_X8_LY_X6_112_113_59166342.getD q 0)) v1 hy1) (JN_subC (pl := pl_LY_X8_LY_X6_112_113_59166342) sb_LY_X8_LY_X6_112_113_59166342 rfl rfl rfl rfl rfl rfl rfl rfl rfl) (Uw_V uw_664 uw_665 uw_666 uw_10 uw_667) rfl rfl hd_X6_hasGuest ⟨rfl, rfl⟩ rfl (dn_some LY_X8_112) rfl rfl rfl dX8_guest_5 ⟨Nat.zero_le _, Nat.zero_le _⟩ (fun H locs hW => ?_)
  have hW : wd D (dn cy LY_X8 ad P V (gp I []) (gp J []) (gm A []) (gm B [])) Af s.heap H locs := hW
  refine lv_if_ne (tgt := 14) C0.1 C0.2.1 dX8_guest_8 (by decide) (fun hc2 => ?_) (fun hc2 => ?_)
  · have hf := ite_f hc2 hf
    refine lv_iload_n C0.1 C0.2.1 dX8_guest_14 rfl (lv_at hl 2 rfl) ?_
    by_cases hc3 : Int32.toInt v2 = 0
    · have hf := ite_t hc3 hf
      refine lv_tableIn (tgt := 48) (off := 33) C0.1 C0.2.1 dX8_guest_15 (by omega) (by omega) (by rw [hc3]; rfl) (by decide) ?_
      refine lv_aload_n C0.1 C0.2.1 dX8_guest_48 rfl (lv_at hl 0 rfl) ?_
      refine s_get (v := .ref (ad 112)) C0 hK hW 0 7 LY_X8_0 rfl fg_X8_53 rfl dX8_guest_49 ?_
      refine s_get (v := .ref (ad 121)) C0 hK hW 112 9 LY_X8_112 rfl fg_X8_130 rfl dX8_guest_52 ?_
      refine lv_iload_n C0.1 C0.2.1 dX8_guest_55 rfl (lv_at hl 1 rfl) ?_
      obtain ⟨hb4, hf⟩ := g_some hf
      refine s_iald (v := ((A 121) (Int32.toNatClampNeg v1))) C0 hK hW 121 LY_X8_121 hb4 rfl dX8_guest_56 ?_
      refine lv_sipush (v := 143) C0.1 C0.2.1 dX8_guest_57 kS_143 ?_
      refine lv_isub C0.1 C0.2.1 dX8_guest_60 ?_
      obtain rfl := Option.some.inj hf
      exact r_int C0 hK hW dX8_guest_61
    · have hf := ite_f hc3 hf
      by_cases hc5 : Int32.toInt v2 = 1
      · have hf := ite_t hc5 hf
        refine lv_tableIn (tgt := 62) (off := 47) C0.1 C0.2.1 dX8_guest_15 (by omega) (by omega) (by rw [hc5]; rfl) (by decide) ?_
        refine lv_aload_n C0.1 C0.2.1 dX8_guest_62 rfl (lv_at hl 0 rfl) ?_
        refine s_get (v := .ref (ad 112)) C0 hK hW 0 7 LY_X8_0 rfl fg_X8_53 rfl dX8_guest_63 ?_
        refine s_get (v := .ref (ad 122)) C0 hK hW 112 10 LY_X8_112 rfl fg_X8_133 rfl dX8_guest_66 ?_
        refine lv_iload_n C0.1 C0.2.1 dX8_guest_69 rfl (lv_at hl 1 rfl) ?_
        obtain ⟨hb6, hf⟩ := g_some hf
        refine s_iald (v := ((A 122) (Int32.toNatClampNeg v1))) C0 hK hW 122 LY_X8_122 hb6 rfl dX8_guest_70 ?_
        obtain rfl := Option.some.inj hf
        exact r_int C0 hK hW dX8_guest_71
      · have hf := ite_f hc5 hf
        by_cases hc7 : Int32.toInt v2 = 2
        · have hf := ite_t hc7 hf
          refine lv_tableIn (tgt := 72) (off := 57) C0.1 C0.2.1 dX8_guest_15 (by omega) (by omega) (by rw [hc7]; rfl) (by decide) ?_
          refine lv_aload_n C0.1 C0.2.1 dX8_guest_72 rfl (lv_at hl 0 rfl) ?_
          refine s_get (v := .ref (ad 4)) C0 hK hW 0 1 LY_X8_0 rfl fg_X8_19 rfl dX8_guest_73 ?_
          refine lv_iload_n C0.1 C0.2.1 dX8_guest_76 rfl (lv_at hl 1 rfl) ?_
          obtain ⟨y8, hy8, hf⟩ := b_some hf
          refine c_Vi C0 hK hN hl.1 hW hA (KX4_placeOf l D cy  (fun q => ad (pl_LY_X8_LY_X4_4_5_6.getD q 0)) (fun q => P (pl_LY_X8_LY_X4_4_5_6.getD q 0)) (fun q => Vx LY_X8 ad V (pl_LY_X8_LY_X4_4_5_6.getD q 0)) (fun q => gp I [] (pl_LY_X8_LY_X4_4_5_6.getD q 0)) (fun q => gp J [] (pl_LY_X8_LY_X4_4_5_6.getD q 0)) (fun q => gm A [] (pl_LY_X8_LY_X4_4_5_6.getD q 0)) (fun q => gm B [] (pl_LY_X8_LY_X4_4_5_6.getD q 0)) v1 hy8) (JN_subC (pl := pl_LY_X8_LY_X4_4_5_6) sb_LY_X8_LY_X4_4_5_6 rfl rfl rfl rfl rfl rfl rfl rfl rfl) (Uw_V uw_668 uw_669 uw_670 uw_7 uw_671) rfl rfl hd_X4_placeOf ⟨rfl, rfl⟩ rfl (dn_some LY_X8_4) rfl rfl rfl dX8_guest_77 ⟨Nat.zero_le _, Nat.zero_le _⟩ (fun H locs hW => ?_)
          have hW : wd D (dn cy LY_X8 ad P V (gp I []) (gp J []) (gm A []) (gm B [])) Af s.heap H locs := hW
          obtain rfl := Option.some.inj hf
          exact r_int C0 hK hW dX8_guest_80
        · have hf := ite_f hc7 hf
          by_cases hc9 : Int32.toInt v2 = 3
          · have hf := ite_t hc9 hf
            refine lv_tableIn (tgt := 81) (off := 66) C0.1 C0.2.1 dX8_guest_15 (by omega) (by omega) (by rw [hc9]; rfl) (by decide) ?_
            refine lv_aload_n C0.1 C0.2.1 dX8_guest_81 rfl (lv_at hl 0 rfl) ?_
            refine s_get (v := .ref (ad 4)) C0 hK hW 0 1 LY_X8_0 rfl fg_X8_19 rfl dX8_guest_82 ?_
            refine s_get (v := .int (I 4 2)) C0 hK hW 4 2 LY_X8_4 rfl fg_X8_140 rfl dX8_guest_85 ?_
            refine lv_iload_n C0.1 C0.2.1 dX8_guest_88 rfl (lv_at hl 1 rfl) ?_
            refine lv_ishr C0.1 C0.2.1 dX8_guest_89 ?_
            refine lv_iconst (v := 1) C0.1 C0.2.1 dX8_guest_90 kI_1 ?_
            refine lv_iand C0.1 C0.2.1 dX8_guest_91 ?_
            obtain rfl := Option.some.inj hf
            exact r_int C0 hK hW dX8_guest_92
          · have hf := ite_f hc9 hf
            by_cases hc10 : Int32.toInt v2 = 4
            · have hf := ite_t hc10 hf
              refine lv_tableIn (tgt := 93) (off := 78) C0.1 C0.2.1 dX8_guest_15 (by omega) (by omega) (by rw [hc10]; rfl) (by decide) ?_
              refine lv_aload_n C0.1 C0.2.1 dX8_guest_93 rfl (lv_at hl 0 rfl) ?_
              refine s_get (v := .ref (ad 4)) C0 hK hW 0 1 LY_X8_0 rfl fg_X8_19 rfl dX8_guest_94 ?_
              refine lv_aload_n C0.1 C0.2.1 dX8_guest_97 rfl (lv_at hl 0 rfl) ?_
              refine s_get (v := .ref (ad 112)) C0 hK hW 0 7 LY_X8_0 rfl fg_X8_53 rfl dX8_guest_98 ?_
              refine lv_iload_n C0.1 C0.2.1 dX8_guest_101 rfl (lv_at hl 1 rfl) ?_
              obtain ⟨y11, hy11, hf⟩ := b_some hf
              refine c_Vi C0 hK hN hl.1 hW hA (KX4_foesBits l D cy  (fun q => ad (pl_LY_X8_LY_X4X6_4_5_5025986.getD q 0)) (fun q => P (pl_LY_X8_LY_X4X6_4_5_5025986.getD q 0)) (fun q => Vx LY_X8 ad V (pl_LY_X8_LY_X4X6_4_5_5025986.getD q 0)) (fun q => gp I [] (pl_LY_X8_LY_X4X6_4_5_5025986.getD q 0)) (fun q => gp J [] (pl_LY_X8_LY_X4X6_4_5_5025986.getD q 0)) (fun q => gm A [] (pl_LY_X8_LY_X4X6_4_5_5025986.getD q 0)) (fun q => gm B [] (pl_LY_X8_LY_X4X6_4_5_5025986.getD q 0)) v1 hy11) (JN_subC (pl := pl_LY_X8_LY_X4X6_4_5_5025986) sb_LY_X8_LY_X4X6_4_5_5025986 rfl rfl rfl rfl rfl rfl rfl rfl rfl) (Uw_V uw_672 uw_673 uw_674 uw_7 uw_675) rfl rfl hd_X4_foesBits ⟨rfl, rfl⟩ rfl (dn_some LY_X8_4) rfl rfl rfl dX8_guest_102 ⟨Nat.zero_le _, Nat.zero_le _⟩ (fun H locs hW => ?_)
              have hW : wd D (dn cy LY_X8 ad P V (gp I []) (gp J []) (gm A []) (gm B [])) Af s.heap H locs := hW
              obtain rfl := Option.some.inj hf
              exact r_int C0 hK hW dX8_guest_105
            · have hf := ite_f hc10 hf
              refine lv_tableOut (tgt := 106) C0.1 C0.2.1 dX8_guest_15 (by omega) (by decide) ?_
              refine lv_bipush (v := (-2)) C0.1 C0.2.1 dX8_guest_106 kB_m2 ?_
              obtain rfl := Option.some.inj hf
              exact r_int C0 hK hW dX8_guest_108
  · have hf := ite_t hc2 hf
    refine lv_bipush (v := (-2)) C0.1 C0.2.1 dX8_guest_11 kB_m2 ?_
    obtain rfl := Option.some.inj hf
    exact r_int C0 hK hW dX8_guest_13
-- X8_judged
def rmX8_judged : Room := { frames := 8, cells := 0, slots := 0, locals := 193 }
def fX8_judged (c_told_colds : Int32) (c_told_holes : Int32) (c_told_guests : Int32) (c_told_sack : Int32) (c_told_catBits : Int32) (c_told_wantedBits : Int32) (c_told_law_length : Int32) (c_plan_lines : Int32) (c_told_cold : (Nat → Int32)) (c_told_holeFlags : (Nat → Int32)) (c_told_coalTold : (Nat → Int32)) (c_told_burns : (Nat → Int32)) (c_told_beside : (Nat → Int32)) (c_told_kinds : (Nat → Int32)) (c_told_guestFlags : (Nat → Int32)) (c_told_foes : (Nat → Int32)) (c_told_law_code : (Nat → Int32)) (c_plan_guests : (Nat → Int32)) (c_plan_holes : (Nat → Int32)) (c_plan_verbs : (Nat → Int32)) (c_trial_seized : Int32) (c_trial_date : Int32) (c_trial_brought : Int32) (c_told_law_waiting : Int32) (c_trial_coal : (Nat → Int32)) (c_trial_inside : (Nat → Int32)) (c_told_law_stack : (Nat → Int32)) (v1 : Int32) : Option (Int32 × Int32 × Int32 × Int32 × Int32 × (Nat → Int32) × (Nat → Int32) × (Nat → Int32)) := if v1 < 0 then (some ((-2), c_trial_seized, c_trial_date, c_trial_brought, c_told_law_waiting, c_trial_coal, c_trial_inside, c_told_law_stack)) else (if v1 ≤ 2 then (Option.bind (fX7_judge c_plan_lines c_told_colds c_told_holes c_told_guests c_told_sack c_told_catBits c_told_wantedBits c_told_law_length c_plan_guests c_plan_holes c_plan_verbs c_told_cold c_told_holeFlags c_told_coalTold c_told_burns c_told_beside c_told_kinds c_told_guestFlags c_told_foes c_told_law_code c_told_law_waiting c_trial_seized c_trial_date c_trial_brought c_told_law_stack c_trial_coal c_trial_inside v1) fun y3 => (some (y3.1, y3.2.2.1, y3.2.2.2.1, y3.2.2.2.2.1, y3.2.1, y3.2.2.2.2.2.2.1, y3.2.2.2.2.2.2.2, y3.2.2.2.2.2.1))) else (some ((-2), c_trial_seized, c_trial_date, c_trial_brought, c_told_law_waiting, c_trial_coal, c_trial_inside, c_told_law_stack)))
set_option maxHeartbeats 4000000 in
set_option maxRecDepth 100000 in
theorem KX8_judged (l : Launch) (D : va_G) (cy : Nat → ClassId) (ad : Nat → Nat) (P : MP) (V : MV) (I : MI) (J : MJ) (A : MI) (B : MJ) (v1 : Int32) {res : Int32 × Int32 × Int32 × Int32 × Int32 × (Nat → Int32) × (Nat → Int32) × (Nat → Int32)} (hf : fX8_judged (I 112 4) (I 112 13) (I 112 14) (I 112 15) (I 112 16) (I 112 17) (I 124 4) (I 142 3) (A 116) (A 117) (A 118) (A 119) (A 120) (A 121) (A 122) (A 123) (A 125) (A 143) (A 144) (A 145) (I 7 2) (I 7 3) (I 7 4) (I 124 2) (A 8) (A 9) (A 126) v1 = some res) : CG l yX8_judged cX8_judged 2 (some .int) rmX8_judged D cy (dn cy LY_X8 ad P V I J A B) [.ref (ad 0), .int v1] (some (.int res.1)) (dn cy LY_X8 ad P V (gp I [(7, 2, res.2.1), (7, 3, res.2.2.1), (7, 4, res.2.2.2.1), (124, 2, res.2.2.2.2.1)]) (gp J []) (gm A [(8, res.2.2.2.2.2.1), (9, res.2.2.2.2.2.2.1), (126, res.2.2.2.2.2.2.2)]) (gm B [])) := by
  refine CG.of (own := RX8) (by decide) rfl rfl ?_
  intro p e s m below meth c ls Af C0 hK hN hA hW hl
  have hW : wd D (dn cy LY_X8 ad P V (gp I [(7, 2, (I 7 2)), (7, 3, (I 7 3)), (7, 4, (I 7 4)), (124, 2, (I 124 2))]) (gp J []) (gm A [(8, (A 8)), (9, (A 9)), (126, (A 126))]) (gm B [])) Af s.heap s.heap [] := wd_sel [(7, 2), (7, 3), (7, 4), (124, 2)] [] [8, 9, 126] [] hW
  have hl : lv_has ls 2 [(0, .ref (ad 0)), (1, .int v1)] := hl
  unfold fX8_judged at hf
  refine lv_iload_n C0.1 C0.2.1 dX8_judged_0 rfl (lv_at hl 1 rfl) ?_
  refine lv_if_lt (tgt := 9) C0.1 C0.2.1 dX8_judged_1 (by decide) (fun hc1 => ?_) (fun hc1 => ?_)
  · have hf := ite_t hc1 hf
    refine lv_bipush (v := (-2)) C0.1 C0.2.1 dX8_judged_9 kB_m2 ?_
    obtain rfl := Option.some.inj hf
    exact r_int C0 hK hW dX8_judged_11
  · have hf := ite_f hc1 hf
    refine lv_iload_n C0.1 C0.2.1 dX8_judged_4 rfl (lv_at hl 1 rfl) ?_
    refine lv_iconst (v := 2) C0.1 C0.2.1 dX8_judged_5 kI_2 ?_
    refine lv_icmp_le (tgt := 12) C0.1 C0.2.1 dX8_judged_6 (by decide) (fun hc2 => ?_) (fun hc2 => ?_)
    · have hf := ite_t hc2 hf
      refine lv_aload_n C0.1 C0.2.1 dX8_judged_12 rfl (lv_at hl 0 rfl) ?_
      refine s_get (v := .ref (ad 142)) C0 hK hW 0 9 LY_X8_0 rfl fg_X8_63 rfl dX8_judged_13 ?_
      refine lv_aload_n C0.1 C0.2.1 dX8_judged_16 rfl (lv_at hl 0 rfl) ?_
      refine s_get (v := .ref (ad 112)) C0 hK hW 0 7 LY_X8_0 rfl fg_X8_53 rfl dX8_judged_17 ?_
      refine lv_aload_n C0.1 C0.2.1 dX8_judged_20 rfl (lv_at hl 0 rfl) ?_
      refine s_get (v := .ref (ad 7)) C0 hK hW 0 2 LY_X8_0 rfl fg_X8_23 rfl dX8_judged_21 ?_
      refine lv_iload_n C0.1 C0.2.1 dX8_judged_24 rfl (lv_at hl 1 rfl) ?_
      obtain ⟨y3, hy3, hf⟩ := b_some hf
      refine c_Vi C0 hK hN hl.1 hW hA (KX7_judge l D cy  (fun q => ad (pl_LY_X8_LY_X7X6X4_142_143_14484231.getD q 0)) (fun q => P (pl_LY_X8_LY_X7X6X4_142_143_14484231.getD q 0)) (fun q => Vx LY_X8 ad V (pl_LY_X8_LY_X7X6X4_142_143_14484231.getD q 0)) (fun q => gp I [(7, 2, (I 7 2)), (7, 3, (I 7 3)), (7, 4, (I 7 4)), (124, 2, (I 124 2))] (pl_LY_X8_LY_X7X6X4_142_143_14484231.getD q 0)) (fun q => gp J [] (pl_LY_X8_LY_X7X6X4_142_143_14484231.getD q 0)) (fun q => gm A [(8, (A 8)), (9, (A 9)), (126, (A 126))] (pl_LY_X8_LY_X7X6X4_142_143_14484231.getD q 0)) (fun q => gm B [] (pl_LY_X8_LY_X7X6X4_142_143_14484231.getD q 0)) v1 hy3) (JN_subC (pl := pl_LY_X8_LY_X7X6X4_142_143_14484231) sb_LY_X8_LY_X7X6X4_142_143_14484231 rfl rfl rfl rfl rfl rfl rfl rfl rfl) (Uw_V uw_755 uw_756 uw_757 uw_12 uw_758) rfl rfl hd_X7_judge ⟨rfl, rfl⟩ rfl (dn_some LY_X8_142) rfl rfl rfl dX8_judged_25 ⟨Nat.zero_le _, Nat.zero_le _⟩ (fun H locs hW => ?_)
      have hW : wd D (dn cy LY_X8 ad P V (gp I [(7, 2, y3.2.2.1), (7, 3, y3.2.2.2.1), (7, 4, y3.2.2.2.2.1), (124, 2, y3.2.1)]) (gp J []) (gm A [(8, y3.2.2.2.2.2.2.1), (9, y3.2.2.2.2.2.2.2), (126, y3.2.2.2.2.2.1)]) (gm B [])) Af s.heap H locs := hW
      obtain rfl := Option.some.inj hf
      exact r_int C0 hK hW dX8_judged_28
    · have hf := ite_f hc2 hf
      refine lv_bipush (v := (-2)) C0.1 C0.2.1 dX8_judged_9 kB_m2 ?_
      obtain rfl := Option.some.inj hf
      exact r_int C0 hK hW dX8_judged_11
-- X8_lasts
def rmX8_lasts : Room := { frames := 3, cells := 0, slots := 0, locals := 67 }
def fX8_lasts (c_now_date : Int32) (c_told_colds : Int32) (c_told_holes : Int32) (c_now_coal : (Nat → Int32)) (c_told_cold : (Nat → Int32)) (c_told_burns : (Nat → Int32)) (v1 : Int32) : Option (Int32) := Option.bind (fX6_hasHole c_told_holes v1) fun y1 => (if y1 = 0 then (some ((-1))) else (Option.bind (fX4_daysUntilBelow c_now_date c_told_colds c_now_coal c_told_cold c_told_burns v1 1) fun y3 => (some (y3))))
set_option maxHeartbeats 4000000 in
set_option maxRecDepth 100000 in
theorem KX8_lasts (l : Launch) (D : va_G) (cy : Nat → ClassId) (ad : Nat → Nat) (P : MP) (V : MV) (I : MI) (J : MJ) (A : MI) (B : MJ) (v1 : Int32) {res : Int32} (hf : fX8_lasts (I 4 3) (I 112 4) (I 112 13) (A 5) (A 116) (A 119) v1 = some res) : CG l yX8_lasts cX8_lasts 2 (some .int) rmX8_lasts D cy (dn cy LY_X8 ad P V I J A B) [.ref (ad 0), .int v1] (some (.int res)) (dn cy LY_X8 ad P V (gp I []) (gp J []) (gm A []) (gm B [])) := by
  refine CG.of (own := RX8) (by decide) rfl rfl ?_
  intro p e s m below meth c ls Af C0 hK hN hA hW hl
  have hW : wd D (dn cy LY_X8 ad P V (gp I []) (gp J []) (gm A []) (gm B [])) Af s.heap s.heap [] := wd_sel [] [] [] [] hW
  have hl : lv_has ls 2 [(0, .ref (ad 0)), (1, .int v1)] := hl
  unfold fX8_lasts at hf
  refine lv_aload_n C0.1 C0.2.1 dX8_lasts_0 rfl (lv_at hl 0 rfl) ?_
  refine s_get (v := .ref (ad 112)) C0 hK hW 0 7 LY_X8_0 rfl fg_X8_53 rfl dX8_lasts_1 ?_
  refine lv_iload_n C0.1 C0.2.1 dX8_lasts_4 rfl (lv_at hl 1 rfl) ?_
  obtain ⟨y1, hy1, hf⟩ := b_some hf
  refine c_Vi C0 hK hN hl.1 hW hA (KX6_hasHole l D cy  (fun q => ad (pl_LY_X8_LY_X6_112_113_59166342.getD q 0)) (fun q => P (pl_LY_X8_LY_X6_112_113_59166342.getD q 0)) (fun q => Vx LY_X8 ad V (pl_LY_X8_LY_X6_112_113_59166342.getD q 0)) (fun q => gp I [] (pl_LY_X8_LY_X6_112_113_59166342.getD q 0)) (fun q => gp J [] (pl_LY_X8_LY_X6_112_113_59166342.getD q 0)) (fun q => gm A [] (pl_LY_X8_LY_X6_112_113_59166342.getD q 0)) (fun q => gm B [] (pl_LY_X8_LY_X6_112_113_59166342.getD q 0)) v1 hy1) (JN_subC (pl := pl_LY_X8_LY_X6_112_113_59166342) sb_LY_X8_LY_X6_112_113_59166342 rfl rfl rfl rfl rfl rfl rfl rfl rfl) (Uw_V uw_627 uw_628 uw_629 uw_10 uw_630) rfl rfl hd_X6_hasHole ⟨rfl, rfl⟩ rfl (dn_some LY_X8_112) rfl rfl rfl dX8_lasts_5 ⟨Nat.zero_le _, Nat.zero_le _⟩ (fun H locs hW => ?_)
  have hW : wd D (dn cy LY_X8 ad P V (gp I []) (gp J []) (gm A []) (gm B [])) Af s.heap H locs := hW
  refine lv_if_eq (tgt := 27) C0.1 C0.2.1 dX8_lasts_8 (by decide) (fun hc2 => ?_) (fun hc2 => ?_)
  · have hf := ite_t hc2 hf
    refine lv_iconst (v := (-1)) C0.1 C0.2.1 dX8_lasts_27 kI_m1 ?_
    obtain rfl := Option.some.inj hf
    exact r_int C0 hK hW dX8_lasts_28
  · have hf := ite_f hc2 hf
    refine lv_aload_n C0.1 C0.2.1 dX8_lasts_11 rfl (lv_at hl 0 rfl) ?_
    refine s_get (v := .ref (ad 4)) C0 hK hW 0 1 LY_X8_0 rfl fg_X8_19 rfl dX8_lasts_12 ?_
    refine lv_aload_n C0.1 C0.2.1 dX8_lasts_15 rfl (lv_at hl 0 rfl) ?_
    refine s_get (v := .ref (ad 112)) C0 hK hW 0 7 LY_X8_0 rfl fg_X8_53 rfl dX8_lasts_16 ?_
    refine lv_iload_n C0.1 C0.2.1 dX8_lasts_19 rfl (lv_at hl 1 rfl) ?_
    refine lv_iconst (v := 1) C0.1 C0.2.1 dX8_lasts_20 kI_1 ?_
    obtain ⟨y3, hy3, hf⟩ := b_some hf
    refine c_Vi C0 hK hN hl.1 hW hA (KX4_daysUntilBelow l D cy  (fun q => ad (pl_LY_X8_LY_X4X6_4_5_5025986.getD q 0)) (fun q => P (pl_LY_X8_LY_X4X6_4_5_5025986.getD q 0)) (fun q => Vx LY_X8 ad V (pl_LY_X8_LY_X4X6_4_5_5025986.getD q 0)) (fun q => gp I [] (pl_LY_X8_LY_X4X6_4_5_5025986.getD q 0)) (fun q => gp J [] (pl_LY_X8_LY_X4X6_4_5_5025986.getD q 0)) (fun q => gm A [] (pl_LY_X8_LY_X4X6_4_5_5025986.getD q 0)) (fun q => gm B [] (pl_LY_X8_LY_X4X6_4_5_5025986.getD q 0)) v1 1 hy3) (JN_subC (pl := pl_LY_X8_LY_X4X6_4_5_5025986) sb_LY_X8_LY_X4X6_4_5_5025986 rfl rfl rfl rfl rfl rfl rfl rfl rfl) (Uw_V uw_775 uw_776 uw_777 uw_7 uw_778) rfl rfl hd_X4_daysUntilBelow ⟨rfl, rfl⟩ rfl (dn_some LY_X8_4) rfl rfl rfl dX8_lasts_21 ⟨Nat.zero_le _, Nat.zero_le _⟩ (fun H locs hW => ?_)
    have hW : wd D (dn cy LY_X8 ad P V (gp I []) (gp J []) (gm A []) (gm B [])) Af s.heap H locs := hW
    refine lv_goto (tgt := 28) C0.1 C0.2.1 dX8_lasts_24 (by decide) ?_
    obtain rfl := Option.some.inj hf
    exact r_int C0 hK hW dX8_lasts_28
-- X8_safe
def rmX8_safe : Room := { frames := 4, cells := 0, slots := 0, locals := 90 }
def SX8_safe_23 (p : Program) (l : Launch) (e : Env) (s : State) (m : MethodId) (args : Array Value) (below : List Frame) (meth : Method) (c : Code) (D : va_G) (cy : Nat → ClassId) (ad : Nat → Nat) (P : MP) (V : MV) (I : MI) (J : MJ) (A : MI) (B : MJ) (Af : Nat → Prop) (res : Int32) (k : Int32 → Int32 → Option (Int32)) : Prop := ∀ (v1 : Int32) (x0 : Int32) (H : Heap) (locs : List Loc) (ls : Array Slot), wd D (dn cy LY_X8 ad P V (gp I []) (gp J []) (gm A []) (gm B [])) Af s.heap H locs → lv_has ls 3 [(0, .ref (ad 0)), (1, .int v1)] → k v1 x0 = some res → W p l e rmX8_safe s m args below meth c H locs 0 0 (ZQ below D cy (dn cy LY_X8 ad P V (gp I []) (gp J []) (gm A []) (gm B [])) (some (.int res)) Af args s) (F0 m 23 ls [.int x0])
def fX8_safe_23 (c_now_date : Int32) (c_told_colds : Int32) (c_told_guests : Int32) (c_now_coal : (Nat → Int32)) (c_now_inside : (Nat → Int32)) (c_told_cold : (Nat → Int32)) (c_told_burns : (Nat → Int32)) (c_told_kinds : (Nat → Int32)) (v1 : Int32) (x0 : Int32) : Option (Int32) := if x0 = (-1) then (some ((-1))) else (Option.bind (fX4_safeDays c_now_date c_told_colds c_now_coal c_told_cold c_told_burns c_told_kinds v1 x0) fun y2 => (some (y2)))
set_option maxHeartbeats 4000000 in
set_option maxRecDepth 100000 in
theorem tX8_safe_23 {p : Program} {l : Launch} {e : Env} {s : State} {m : MethodId} {args : Array Value} {below : List Frame} {meth : Method} {c : Code} {D : va_G} {cy : Nat → ClassId} {ad : Nat → Nat} {P : MP} {V : MV} {I : MI} {J : MJ} {A : MI} {B : MJ} {Af : Nat → Prop} {res : Int32} (C0 : CX p s m args meth c cX8_safe 3 (some .int) RX8) (hK : va_K D vwCl (tyG cy) s) (hN : NWs s) (hA : ∀ q, s.heap.size ≤ q → Af q) : SX8_safe_23 p l e s m args below meth c D cy ad P V I J A B Af res (fX8_safe_23 (I 4 3) (I 112 4) (I 112 14) (A 5) (A 6) (A 116) (A 119) (A 121)) := by
  intro v1 x0 H locs ls hW hl hf
  unfold fX8_safe_23 at hf
  refine lv_istore_n (lv' := [(2, .int x0), (0, .ref (ad 0)), (1, .int v1)]) C0.1 C0.2.1 dX8_safe_23 rfl hl (by decide) rfl (fun ls hl => ?_)
  refine lv_iload_n C0.1 C0.2.1 dX8_safe_24 rfl (lv_at hl 0 rfl) ?_
  refine lv_iconst (v := (-1)) C0.1 C0.2.1 dX8_safe_25 kI_m1 ?_
  refine lv_icmp_ne (tgt := 33) C0.1 C0.2.1 dX8_safe_26 (by decide) (fun hc1 => ?_) (fun hc1 => ?_)
  · have hf := ite_f hc1 hf
    refine lv_aload_n C0.1 C0.2.1 dX8_safe_33 rfl (lv_at hl 1 rfl) ?_
    refine s_get (v := .ref (ad 4)) C0 hK hW 0 1 LY_X8_0 rfl fg_X8_19 rfl dX8_safe_34 ?_
    refine lv_aload_n C0.1 C0.2.1 dX8_safe_37 rfl (lv_at hl 1 rfl) ?_
    refine s_get (v := .ref (ad 112)) C0 hK hW 0 7 LY_X8_0 rfl fg_X8_53 rfl dX8_safe_38 ?_
    refine lv_iload_n C0.1 C0.2.1 dX8_safe_41 rfl (lv_at hl 2 rfl) ?_
    refine lv_iload_n C0.1 C0.2.1 dX8_safe_42 rfl (lv_at hl 0 rfl) ?_
    obtain ⟨y2, hy2, hf⟩ := b_some hf
    refine c_Vi C0 hK hN hl.1 hW hA (KX4_safeDays l D cy  (fun q => ad (pl_LY_X8_LY_X4X6_4_5_5025986.getD q 0)) (fun q => P (pl_LY_X8_LY_X4X6_4_5_5025986.getD q 0)) (fun q => Vx LY_X8 ad V (pl_LY_X8_LY_X4X6_4_5_5025986.getD q 0)) (fun q => gp I [] (pl_LY_X8_LY_X4X6_4_5_5025986.getD q 0)) (fun q => gp J [] (pl_LY_X8_LY_X4X6_4_5_5025986.getD q 0)) (fun q => gm A [] (pl_LY_X8_LY_X4X6_4_5_5025986.getD q 0)) (fun q => gm B [] (pl_LY_X8_LY_X4X6_4_5_5025986.getD q 0)) v1 x0 hy2) (JN_subC (pl := pl_LY_X8_LY_X4X6_4_5_5025986) sb_LY_X8_LY_X4X6_4_5_5025986 rfl rfl rfl rfl rfl rfl rfl rfl rfl) (Uw_V uw_783 uw_784 uw_785 uw_7 uw_786) rfl rfl hd_X4_safeDays ⟨rfl, rfl⟩ rfl (dn_some LY_X8_4) rfl rfl rfl dX8_safe_43 ⟨Nat.zero_le _, Nat.zero_le _⟩ (fun H locs hW => ?_)
    have hW : wd D (dn cy LY_X8 ad P V (gp I []) (gp J []) (gm A []) (gm B [])) Af s.heap H locs := hW
    obtain rfl := Option.some.inj hf
    exact r_int C0 hK hW dX8_safe_46
  · have hf := ite_t hc1 hf
    refine lv_iconst (v := (-1)) C0.1 C0.2.1 dX8_safe_29 kI_m1 ?_
    refine lv_goto (tgt := 46) C0.1 C0.2.1 dX8_safe_30 (by decide) ?_
    obtain rfl := Option.some.inj hf
    exact r_int C0 hK hW dX8_safe_46
def fX8_safe (c_now_date : Int32) (c_told_colds : Int32) (c_told_guests : Int32) (c_now_coal : (Nat → Int32)) (c_now_inside : (Nat → Int32)) (c_told_cold : (Nat → Int32)) (c_told_burns : (Nat → Int32)) (c_told_kinds : (Nat → Int32)) (v1 : Int32) : Option (Int32) := Option.bind (fX6_hasGuest c_told_guests v1) fun y1 => (if y1 = 0 then (fX8_safe_23 c_now_date c_told_colds c_told_guests c_now_coal c_now_inside c_told_cold c_told_burns c_told_kinds v1 (-1)) else (Option.bind (fX4_placeOf c_now_inside v1) fun y3 => (fX8_safe_23 c_now_date c_told_colds c_told_guests c_now_coal c_now_inside c_told_cold c_told_burns c_told_kinds v1 y3)))
set_option maxHeartbeats 4000000 in
set_option maxRecDepth 100000 in
theorem KX8_safe (l : Launch) (D : va_G) (cy : Nat → ClassId) (ad : Nat → Nat) (P : MP) (V : MV) (I : MI) (J : MJ) (A : MI) (B : MJ) (v1 : Int32) {res : Int32} (hf : fX8_safe (I 4 3) (I 112 4) (I 112 14) (A 5) (A 6) (A 116) (A 119) (A 121) v1 = some res) : CG l yX8_safe cX8_safe 3 (some .int) rmX8_safe D cy (dn cy LY_X8 ad P V I J A B) [.ref (ad 0), .int v1] (some (.int res)) (dn cy LY_X8 ad P V (gp I []) (gp J []) (gm A []) (gm B [])) := by
  refine CG.of (own := RX8) (by decide) rfl rfl ?_
  intro p e s m below meth c ls Af C0 hK hN hA hW hl
  have hW : wd D (dn cy LY_X8 ad P V (gp I []) (gp J []) (gm A []) (gm B [])) Af s.heap s.heap [] := wd_sel [] [] [] [] hW
  have hl : lv_has ls 3 [(0, .ref (ad 0)), (1, .int v1)] := hl
  unfold fX8_safe at hf
  refine lv_aload_n C0.1 C0.2.1 dX8_safe_0 rfl (lv_at hl 0 rfl) ?_
  refine s_get (v := .ref (ad 112)) C0 hK hW 0 7 LY_X8_0 rfl fg_X8_53 rfl dX8_safe_1 ?_
  refine lv_iload_n C0.1 C0.2.1 dX8_safe_4 rfl (lv_at hl 1 rfl) ?_
  obtain ⟨y1, hy1, hf⟩ := b_some hf
  refine c_Vi C0 hK hN hl.1 hW hA (KX6_hasGuest l D cy  (fun q => ad (pl_LY_X8_LY_X6_112_113_59166342.getD q 0)) (fun q => P (pl_LY_X8_LY_X6_112_113_59166342.getD q 0)) (fun q => Vx LY_X8 ad V (pl_LY_X8_LY_X6_112_113_59166342.getD q 0)) (fun q => gp I [] (pl_LY_X8_LY_X6_112_113_59166342.getD q 0)) (fun q => gp J [] (pl_LY_X8_LY_X6_112_113_59166342.getD q 0)) (fun q => gm A [] (pl_LY_X8_LY_X6_112_113_59166342.getD q 0)) (fun q => gm B [] (pl_LY_X8_LY_X6_112_113_59166342.getD q 0)) v1 hy1) (JN_subC (pl := pl_LY_X8_LY_X6_112_113_59166342) sb_LY_X8_LY_X6_112_113_59166342 rfl rfl rfl rfl rfl rfl rfl rfl rfl) (Uw_V uw_664 uw_665 uw_666 uw_10 uw_667) rfl rfl hd_X6_hasGuest ⟨rfl, rfl⟩ rfl (dn_some LY_X8_112) rfl rfl rfl dX8_safe_5 ⟨Nat.zero_le _, Nat.zero_le _⟩ (fun H locs hW => ?_)
  have hW : wd D (dn cy LY_X8 ad P V (gp I []) (gp J []) (gm A []) (gm B [])) Af s.heap H locs := hW
  refine lv_if_eq (tgt := 22) C0.1 C0.2.1 dX8_safe_8 (by decide) (fun hc2 => ?_) (fun hc2 => ?_)
  · have hf := ite_t hc2 hf
    refine lv_iconst (v := (-1)) C0.1 C0.2.1 dX8_safe_22 kI_m1 ?_
    exact tX8_safe_23 C0 hK hN hA  v1 (-1) _ _ ls hW hl hf
  · have hf := ite_f hc2 hf
    refine lv_aload_n C0.1 C0.2.1 dX8_safe_11 rfl (lv_at hl 0 rfl) ?_
    refine s_get (v := .ref (ad 4)) C0 hK hW 0 1 LY_X8_0 rfl fg_X8_19 rfl dX8_safe_12 ?_
    refine lv_iload_n C0.1 C0.2.1 dX8_safe_15 rfl (lv_at hl 1 rfl) ?_
    obtain ⟨y3, hy3, hf⟩ := b_some hf
    refine c_Vi C0 hK hN hl.1 hW hA (KX4_placeOf l D cy  (fun q => ad (pl_LY_X8_LY_X4_4_5_6.getD q 0)) (fun q => P (pl_LY_X8_LY_X4_4_5_6.getD q 0)) (fun q => Vx LY_X8 ad V (pl_LY_X8_LY_X4_4_5_6.getD q 0)) (fun q => gp I [] (pl_LY_X8_LY_X4_4_5_6.getD q 0)) (fun q => gp J [] (pl_LY_X8_LY_X4_4_5_6.getD q 0)) (fun q => gm A [] (pl_LY_X8_LY_X4_4_5_6.getD q 0)) (fun q => gm B [] (pl_LY_X8_LY_X4_4_5_6.getD q 0)) v1 hy3) (JN_subC (pl := pl_LY_X8_LY_X4_4_5_6) sb_LY_X8_LY_X4_4_5_6 rfl rfl rfl rfl rfl rfl rfl rfl rfl) (Uw_V uw_668 uw_669 uw_670 uw_7 uw_671) rfl rfl hd_X4_placeOf ⟨rfl, rfl⟩ rfl (dn_some LY_X8_4) rfl rfl rfl dX8_safe_16 ⟨Nat.zero_le _, Nat.zero_le _⟩ (fun H locs hW => ?_)
    have hW : wd D (dn cy LY_X8 ad P V (gp I []) (gp J []) (gm A []) (gm B [])) Af s.heap H locs := hW
    refine lv_goto (tgt := 23) C0.1 C0.2.1 dX8_safe_19 (by decide) ?_
    exact tX8_safe_23 C0 hK hN hA  v1 y3 _ _ ls hW hl hf
-- X8_refuge
def rmX8_refuge : Room := { frames := 5, cells := 0, slots := 0, locals := 117 }
def SX8_refuge_96 (p : Program) (l : Launch) (e : Env) (s : State) (m : MethodId) (args : Array Value) (below : List Frame) (meth : Method) (c : Code) (D : va_G) (cy : Nat → ClassId) (ad : Nat → Nat) (P : MP) (V : MV) (I : MI) (J : MJ) (A : MI) (B : MJ) (Af : Nat → Prop) (res : Int32 × Int32 × (Nat → Int32)) (k : Int32 → (Nat → Int32) → Int32 → Int32 → Int32 → Int32 → Int32 → Option (Int32 × Int32 × (Nat → Int32))) : Prop := ∀ (c_told_law_waiting : Int32) (c_told_law_stack : (Nat → Int32)) (v1 : Int32) (v2 : Int32) (v3 : Int32) (v4 : Int32) (x0 : Int32) (H : Heap) (locs : List Loc) (ls : Array Slot), wd D (dn cy LY_X8 ad P V (gp I [(124, 2, c_told_law_waiting)]) (gp J []) (gm A [(126, c_told_law_stack)]) (gm B [])) Af s.heap H locs → lv_has ls 6 [(0, .ref (ad 0)), (1, .int v1), (2, .int v2), (3, .int v3), (4, .int v4)] → k c_told_law_waiting c_told_law_stack v1 v2 v3 v4 x0 = some res → W p l e rmX8_refuge s m args below meth c H locs 0 0 (ZQ below D cy (dn cy LY_X8 ad P V (gp I [(124, 2, res.2.1)]) (gp J []) (gm A [(126, res.2.2)]) (gm B [])) (some (.int res.1)) Af args s) (F0 m 96 ls [.int x0])
def SX8_refuge_38 (p : Program) (l : Launch) (e : Env) (s : State) (m : MethodId) (args : Array Value) (below : List Frame) (meth : Method) (c : Code) (D : va_G) (cy : Nat → ClassId) (ad : Nat → Nat) (P : MP) (V : MV) (I : MI) (J : MJ) (A : MI) (B : MJ) (Af : Nat → Prop) (res : Int32 × Int32 × (Nat → Int32)) (k : Int32 → (Nat → Int32) → Int32 → Int32 → Int32 → Int32 → Option (Int32 × Int32 × (Nat → Int32))) : Prop := ∀ (c_told_law_waiting : Int32) (c_told_law_stack : (Nat → Int32)) (v1 : Int32) (v2 : Int32) (v3 : Int32) (v4 : Int32) (H : Heap) (locs : List Loc) (ls : Array Slot), wd D (dn cy LY_X8 ad P V (gp I [(124, 2, c_told_law_waiting)]) (gp J []) (gm A [(126, c_told_law_stack)]) (gm B [])) Af s.heap H locs → lv_has ls 6 [(0, .ref (ad 0)), (1, .int v1), (2, .int v2), (3, .int v3), (4, .int v4)] → k c_told_law_waiting c_told_law_stack v1 v2 v3 v4 = some res → W p l e rmX8_refuge s m args below meth c H locs 0 0 (ZQ below D cy (dn cy LY_X8 ad P V (gp I [(124, 2, res.2.1)]) (gp J []) (gm A [(126, res.2.2)]) (gm B [])) (some (.int res.1)) Af args s) (F0 m 38 ls [])
def fX8_refuge_96 (c_now_seized : Int32) (c_now_date : Int32) (c_told_colds : Int32) (c_told_holes : Int32) (c_told_guests : Int32) (c_told_law_length : Int32) (c_now_coal : (Nat → Int32)) (c_now_inside : (Nat → Int32)) (c_told_cold : (Nat → Int32)) (c_told_holeFlags : (Nat → Int32)) (c_told_burns : (Nat → Int32)) (c_told_kinds : (Nat → Int32)) (c_told_guestFlags : (Nat → Int32)) (c_told_foes : (Nat → Int32)) (c_told_law_code : (Nat → Int32)) (k38 : Int32 → (Nat → Int32) → Int32 → Int32 → Int32 → Int32 → Option (Int32 × Int32 × (Nat → Int32))) (c_told_law_waiting : Int32) (c_told_law_stack : (Nat → Int32)) (v1 : Int32) (v2 : Int32) (v3 : Int32) (v4 : Int32) (x0 : Int32) : Option (Int32 × Int32 × (Nat → Int32)) := if x0 ≤ v3 then (k38 c_told_law_waiting c_told_law_stack v1 v2 v3 (v4 + 1)) else (k38 c_told_law_waiting c_told_law_stack v1 v4 x0 (v4 + 1))
set_option maxHeartbeats 4000000 in
set_option maxRecDepth 100000 in
theorem tX8_refuge_96 {p : Program} {l : Launch} {e : Env} {s : State} {m : MethodId} {args : Array Value} {below : List Frame} {meth : Method} {c : Code} {D : va_G} {cy : Nat → ClassId} {ad : Nat → Nat} {P : MP} {V : MV} {I : MI} {J : MJ} {A : MI} {B : MJ} {Af : Nat → Prop} {res : Int32 × Int32 × (Nat → Int32)} (C0 : CX p s m args meth c cX8_refuge 6 (some .int) RX8) (hK : va_K D vwCl (tyG cy) s) (hN : NWs s) (hA : ∀ q, s.heap.size ≤ q → Af q) {k38 : Int32 → (Nat → Int32) → Int32 → Int32 → Int32 → Int32 → Option (Int32 × Int32 × (Nat → Int32))} (hk38 : SX8_refuge_38 p l e s m args below meth c D cy ad P V I J A B Af res k38) : SX8_refuge_96 p l e s m args below meth c D cy ad P V I J A B Af res (fX8_refuge_96 (I 4 2) (I 4 3) (I 112 4) (I 112 13) (I 112 14) (I 124 4) (A 5) (A 6) (A 116) (A 117) (A 119) (A 121) (A 122) (A 123) (A 125) k38) := by
  intro c_told_law_waiting c_told_law_stack v1 v2 v3 v4 x0 H locs ls hW hl hf
  unfold fX8_refuge_96 at hf
  refine lv_istore (lv' := [(5, .int x0), (0, .ref (ad 0)), (1, .int v1), (2, .int v2), (3, .int v3), (4, .int v4)]) C0.1 C0.2.1 dX8_refuge_96 hl (by decide) rfl (fun ls hl => ?_)
  refine lv_iload C0.1 C0.2.1 dX8_refuge_98 (lv_at hl 0 rfl) ?_
  refine lv_iload_n C0.1 C0.2.1 dX8_refuge_100 rfl (lv_at hl 4 rfl) ?_
  refine lv_icmp_le (tgt := 110) C0.1 C0.2.1 dX8_refuge_101 (by decide) (fun hc1 => ?_) (fun hc1 => ?_)
  · have hf := ite_t hc1 hf
    refine lv_iinc (v := (v4 + 1)) (lv' := [(4, .int (v4 + 1)), (5, .int x0), (0, .ref (ad 0)), (1, .int v1), (2, .int v2), (3, .int v3)]) C0.1 C0.2.1 dX8_refuge_110 hl (k := 5) rfl (congrArg (fun z => _ + z) kI_1) (by decide) rfl (fun ls hl => ?_)
    refine lv_goto (tgt := 38) C0.1 C0.2.1 dX8_refuge_113 (by decide) ?_
    exact hk38 c_told_law_waiting c_told_law_stack v1 v2 v3 (v4 + 1) H locs ls hW (lv_sub hl [2, 3, 4, 5, 0] rfl) hf
  · have hf := ite_f hc1 hf
    refine lv_iload C0.1 C0.2.1 dX8_refuge_104 (lv_at hl 0 rfl) ?_
    refine lv_istore_n (lv' := [(3, .int x0), (5, .int x0), (0, .ref (ad 0)), (1, .int v1), (2, .int v2), (4, .int v4)]) C0.1 C0.2.1 dX8_refuge_106 rfl hl (by decide) rfl (fun ls hl => ?_)
    refine lv_iload C0.1 C0.2.1 dX8_refuge_107 (lv_at hl 5 rfl) ?_
    refine lv_istore_n (lv' := [(2, .int v4), (3, .int x0), (5, .int x0), (0, .ref (ad 0)), (1, .int v1), (4, .int v4)]) C0.1 C0.2.1 dX8_refuge_109 rfl hl (by decide) rfl (fun ls hl => ?_)
    refine lv_iinc (v := (v4 + 1)) (lv' := [(4, .int (v4 + 1)), (2, .int v4), (3, .int x0), (5, .int x0), (0, .ref (ad 0)), (1, .int v1)]) C0.1 C0.2.1 dX8_refuge_110 hl (k := 5) rfl (congrArg (fun z => _ + z) kI_1) (by decide) rfl (fun ls hl => ?_)
    refine lv_goto (tgt := 38) C0.1 C0.2.1 dX8_refuge_113 (by decide) ?_
    exact hk38 c_told_law_waiting c_told_law_stack v1 v4 x0 (v4 + 1) H locs ls hW (lv_sub hl [4, 5, 1, 2, 0] rfl) hf
def fX8_refuge_38 (c_now_seized : Int32) (c_now_date : Int32) (c_told_colds : Int32) (c_told_holes : Int32) (c_told_guests : Int32) (c_told_law_length : Int32) (c_now_coal : (Nat → Int32)) (c_now_inside : (Nat → Int32)) (c_told_cold : (Nat → Int32)) (c_told_holeFlags : (Nat → Int32)) (c_told_burns : (Nat → Int32)) (c_told_kinds : (Nat → Int32)) (c_told_guestFlags : (Nat → Int32)) (c_told_foes : (Nat → Int32)) (c_told_law_code : (Nat → Int32)) (k38 : Int32 → (Nat → Int32) → Int32 → Int32 → Int32 → Int32 → Option (Int32 × Int32 × (Nat → Int32))) (c_told_law_waiting : Int32) (c_told_law_stack : (Nat → Int32)) (v1 : Int32) (v2 : Int32) (v3 : Int32) (v4 : Int32) : Option (Int32 × Int32 × (Nat → Int32)) := if c_told_holes ≤ v4 then (some (v2, c_told_law_waiting, c_told_law_stack)) else (Option.bind (fX4_takes c_now_date c_told_law_length c_now_coal c_now_inside c_told_holeFlags c_told_kinds c_told_guestFlags c_told_foes c_told_law_code c_told_law_waiting c_told_law_stack v4 v1) fun y2 => (if y2.1 = 0 then (k38 y2.2.1 y2.2.2 v1 v2 v3 (v4 + 1)) else (Option.bind (fX4_safeDays c_now_date c_told_colds c_now_coal c_told_cold c_told_burns c_told_kinds v1 v4) fun y4 => (if y4 = (-1) then (fX8_refuge_96 c_now_seized c_now_date c_told_colds c_told_holes c_told_guests c_told_law_length c_now_coal c_now_inside c_told_cold c_told_holeFlags c_told_burns c_told_kinds c_told_guestFlags c_told_foes c_told_law_code k38 y2.2.1 y2.2.2 v1 v2 v3 v4 100) else (fX8_refuge_96 c_now_seized c_now_date c_told_colds c_told_holes c_told_guests c_told_law_length c_now_coal c_now_inside c_told_cold c_told_holeFlags c_told_burns c_told_kinds c_told_guestFlags c_told_foes c_told_law_code k38 y2.2.1 y2.2.2 v1 v2 v3 v4 y4)))))
set_option maxHeartbeats 4000000 in
set_option maxRecDepth 100000 in
theorem tX8_refuge_38 {p : Program} {l : Launch} {e : Env} {s : State} {m : MethodId} {args : Array Value} {below : List Frame} {meth : Method} {c : Code} {D : va_G} {cy : Nat → ClassId} {ad : Nat → Nat} {P : MP} {V : MV} {I : MI} {J : MJ} {A : MI} {B : MJ} {Af : Nat → Prop} {res : Int32 × Int32 × (Nat → Int32)} (C0 : CX p s m args meth c cX8_refuge 6 (some .int) RX8) (hK : va_K D vwCl (tyG cy) s) (hN : NWs s) (hA : ∀ q, s.heap.size ≤ q → Af q) {k38 : Int32 → (Nat → Int32) → Int32 → Int32 → Int32 → Int32 → Option (Int32 × Int32 × (Nat → Int32))} (hk38 : SX8_refuge_38 p l e s m args below meth c D cy ad P V I J A B Af res k38) : SX8_refuge_38 p l e s m args below meth c D cy ad P V I J A B Af res (fX8_refuge_38 (I 4 2) (I 4 3) (I 112 4) (I 112 13) (I 112 14) (I 124 4) (A 5) (A 6) (A 116) (A 117) (A 119) (A 121) (A 122) (A 123) (A 125) k38) := by
  intro c_told_law_waiting c_told_law_stack v1 v2 v3 v4 H locs ls hW hl hf
  unfold fX8_refuge_38 at hf
  refine lv_iload C0.1 C0.2.1 dX8_refuge_38 (lv_at hl 4 rfl) ?_
  refine lv_aload_n C0.1 C0.2.1 dX8_refuge_40 rfl (lv_at hl 0 rfl) ?_
  refine s_get (v := .ref (ad 112)) C0 hK hW 0 7 LY_X8_0 rfl fg_X8_53 rfl dX8_refuge_41 ?_
  refine s_get (v := .int (I 112 13)) C0 hK hW 112 13 LY_X8_112 rfl fg_X8_193 rfl dX8_refuge_44 ?_
  refine lv_icmp_ge (tgt := 116) C0.1 C0.2.1 dX8_refuge_47 (by decide) (fun hc1 => ?_) (fun hc1 => ?_)
  · have hf := ite_t hc1 hf
    refine lv_iload_n C0.1 C0.2.1 dX8_refuge_116 rfl (lv_at hl 2 rfl) ?_
    obtain rfl := Option.some.inj hf
    exact r_int C0 hK hW dX8_refuge_117
  · have hf := ite_f hc1 hf
    refine lv_aload_n C0.1 C0.2.1 dX8_refuge_50 rfl (lv_at hl 0 rfl) ?_
    refine s_get (v := .ref (ad 4)) C0 hK hW 0 1 LY_X8_0 rfl fg_X8_19 rfl dX8_refuge_51 ?_
    refine lv_aload_n C0.1 C0.2.1 dX8_refuge_54 rfl (lv_at hl 0 rfl) ?_
    refine s_get (v := .ref (ad 112)) C0 hK hW 0 7 LY_X8_0 rfl fg_X8_53 rfl dX8_refuge_55 ?_
    refine lv_iload C0.1 C0.2.1 dX8_refuge_58 (lv_at hl 4 rfl) ?_
    refine lv_iload_n C0.1 C0.2.1 dX8_refuge_60 rfl (lv_at hl 1 rfl) ?_
    obtain ⟨y2, hy2, hf⟩ := b_some hf
    refine c_Vi C0 hK hN hl.1 hW hA (KX4_takes l D cy  (fun q => ad (pl_LY_X8_LY_X4X6_4_5_5025986.getD q 0)) (fun q => P (pl_LY_X8_LY_X4X6_4_5_5025986.getD q 0)) (fun q => Vx LY_X8 ad V (pl_LY_X8_LY_X4X6_4_5_5025986.getD q 0)) (fun q => gp I [(124, 2, c_told_law_waiting)] (pl_LY_X8_LY_X4X6_4_5_5025986.getD q 0)) (fun q => gp J [] (pl_LY_X8_LY_X4X6_4_5_5025986.getD q 0)) (fun q => gm A [(126, c_told_law_stack)] (pl_LY_X8_LY_X4X6_4_5_5025986.getD q 0)) (fun q => gm B [] (pl_LY_X8_LY_X4X6_4_5_5025986.getD q 0)) v4 v1 hy2) (JN_subC (pl := pl_LY_X8_LY_X4X6_4_5_5025986) sb_LY_X8_LY_X4X6_4_5_5025986 rfl rfl rfl rfl rfl rfl rfl rfl rfl) (Uw_V uw_793 uw_636 uw_637 uw_7 uw_638) rfl rfl hd_X4_takes ⟨rfl, rfl⟩ rfl (dn_some LY_X8_4) rfl rfl rfl dX8_refuge_61 ⟨Nat.zero_le _, Nat.zero_le _⟩ (fun H locs hW => ?_)
    have hW : wd D (dn cy LY_X8 ad P V (gp I [(124, 2, y2.2.1)]) (gp J []) (gm A [(126, y2.2.2)]) (gm B [])) Af s.heap H locs := hW
    refine lv_if_eq (tgt := 110) C0.1 C0.2.1 dX8_refuge_64 (by decide) (fun hc3 => ?_) (fun hc3 => ?_)
    · have hf := ite_t hc3 hf
      refine lv_iinc (v := (v4 + 1)) (lv' := [(4, .int (v4 + 1)), (0, .ref (ad 0)), (1, .int v1), (2, .int v2), (3, .int v3)]) C0.1 C0.2.1 dX8_refuge_110 hl (k := 4) rfl (congrArg (fun z => _ + z) kI_1) (by decide) rfl (fun ls hl => ?_)
      refine lv_goto (tgt := 38) C0.1 C0.2.1 dX8_refuge_113 (by decide) ?_
      exact hk38 y2.2.1 y2.2.2 v1 v2 v3 (v4 + 1) H locs ls hW (lv_sub hl [1, 2, 3, 4, 0] rfl) hf
    · have hf := ite_f hc3 hf
      refine lv_aload_n C0.1 C0.2.1 dX8_refuge_67 rfl (lv_at hl 0 rfl) ?_
      refine s_get (v := .ref (ad 4)) C0 hK hW 0 1 LY_X8_0 rfl fg_X8_19 rfl dX8_refuge_68 ?_
      refine lv_aload_n C0.1 C0.2.1 dX8_refuge_71 rfl (lv_at hl 0 rfl) ?_
      refine s_get (v := .ref (ad 112)) C0 hK hW 0 7 LY_X8_0 rfl fg_X8_53 rfl dX8_refuge_72 ?_
      refine lv_iload_n C0.1 C0.2.1 dX8_refuge_75 rfl (lv_at hl 1 rfl) ?_
      refine lv_iload C0.1 C0.2.1 dX8_refuge_76 (lv_at hl 4 rfl) ?_
      obtain ⟨y4, hy4, hf⟩ := b_some hf
      refine c_Vi C0 hK hN hl.1 hW hA (KX4_safeDays l D cy  (fun q => ad (pl_LY_X8_LY_X4X6_4_5_5025986.getD q 0)) (fun q => P (pl_LY_X8_LY_X4X6_4_5_5025986.getD q 0)) (fun q => Vx LY_X8 ad V (pl_LY_X8_LY_X4X6_4_5_5025986.getD q 0)) (fun q => gp I [(124, 2, y2.2.1)] (pl_LY_X8_LY_X4X6_4_5_5025986.getD q 0)) (fun q => gp J [] (pl_LY_X8_LY_X4X6_4_5_5025986.getD q 0)) (fun q => gm A [(126, y2.2.2)] (pl_LY_X8_LY_X4X6_4_5_5025986.getD q 0)) (fun q => gm B [] (pl_LY_X8_LY_X4X6_4_5_5025986.getD q 0)) v1 v4 hy4) (JN_subC (pl := pl_LY_X8_LY_X4X6_4_5_5025986) sb_LY_X8_LY_X4X6_4_5_5025986 rfl rfl rfl rfl rfl rfl rfl rfl rfl) (Uw_V uw_783 uw_784 uw_785 uw_7 uw_786) rfl rfl hd_X4_safeDays ⟨rfl, rfl⟩ rfl (dn_some LY_X8_4) rfl rfl rfl dX8_refuge_78 ⟨Nat.zero_le _, Nat.zero_le _⟩ (fun H locs hW => ?_)
      have hW : wd D (dn cy LY_X8 ad P V (gp I [(124, 2, y2.2.1)]) (gp J []) (gm A [(126, y2.2.2)]) (gm B [])) Af s.heap H locs := hW
      refine lv_istore (lv' := [(5, .int y4), (0, .ref (ad 0)), (1, .int v1), (2, .int v2), (3, .int v3), (4, .int v4)]) C0.1 C0.2.1 dX8_refuge_81 hl (by decide) rfl (fun ls hl => ?_)
      refine lv_iload C0.1 C0.2.1 dX8_refuge_83 (lv_at hl 0 rfl) ?_
      refine lv_iconst (v := (-1)) C0.1 C0.2.1 dX8_refuge_85 kI_m1 ?_
      refine lv_icmp_ne (tgt := 94) C0.1 C0.2.1 dX8_refuge_86 (by decide) (fun hc5 => ?_) (fun hc5 => ?_)
      · have hf := ite_f hc5 hf
        refine lv_iload C0.1 C0.2.1 dX8_refuge_94 (lv_at hl 0 rfl) ?_
        exact tX8_refuge_96 C0 hK hN hA hk38 y2.2.1 y2.2.2 v1 v2 v3 v4 y4 H locs ls hW (lv_sub hl [1, 2, 3, 4, 5] rfl) hf
      · have hf := ite_t hc5 hf
        refine lv_bipush (v := 100) C0.1 C0.2.1 dX8_refuge_89 kB_100 ?_
        refine lv_goto (tgt := 96) C0.1 C0.2.1 dX8_refuge_91 (by decide) ?_
        exact tX8_refuge_96 C0 hK hN hA hk38 y2.2.1 y2.2.2 v1 v2 v3 v4 100 H locs ls hW (lv_sub hl [1, 2, 3, 4, 5] rfl) hf
theorem TX8_refuge_38 {p : Program} {l : Launch} {e : Env} {s : State} {m : MethodId} {args : Array Value} {below : List Frame} {meth : Method} {c : Code} {D : va_G} {cy : Nat → ClassId} {ad : Nat → Nat} {P : MP} {V : MV} {I : MI} {J : MJ} {A : MI} {B : MJ} {Af : Nat → Prop} {res : Int32 × Int32 × (Nat → Int32)} (C0 : CX p s m args meth c cX8_refuge 6 (some .int) RX8) (hK : va_K D vwCl (tyG cy) s) (hN : NWs s) (hA : ∀ q, s.heap.size ≤ q → Af q) : ∀ n, SX8_refuge_38 p l e s m args below meth c D cy ad P V I J A B Af res (itr (fun kk => fX8_refuge_38 (I 4 2) (I 4 3) (I 112 4) (I 112 13) (I 112 14) (I 124 4) (A 5) (A 6) (A 116) (A 117) (A 119) (A 121) (A 122) (A 123) (A 125) kk) (fun _ _ _ _ _ _ => none) n) := by
  intro n
  induction n with
  | zero => intro c_told_law_waiting c_told_law_stack v1 v2 v3 v4 H locs ls hW hl hf; exact (nomatch (show (none : Option (Int32 × Int32 × (Nat → Int32))) = some res from hf))
  | succ n ih => exact tX8_refuge_38 C0 hK hN hA  ih
def fX8_refuge (c_now_seized : Int32) (c_now_date : Int32) (c_told_colds : Int32) (c_told_holes : Int32) (c_told_guests : Int32) (c_told_law_length : Int32) (c_now_coal : (Nat → Int32)) (c_now_inside : (Nat → Int32)) (c_told_cold : (Nat → Int32)) (c_told_holeFlags : (Nat → Int32)) (c_told_burns : (Nat → Int32)) (c_told_kinds : (Nat → Int32)) (c_told_guestFlags : (Nat → Int32)) (c_told_foes : (Nat → Int32)) (c_told_law_code : (Nat → Int32)) (c_told_law_waiting : Int32) (c_told_law_stack : (Nat → Int32)) (v1 : Int32) : Option (Int32 × Int32 × (Nat → Int32)) := Option.bind (fX6_hasGuest c_told_guests v1) fun y1 => (if y1 = 0 then (some ((-1), c_told_law_waiting, c_told_law_stack)) else (Option.bind (fX4_streetBits c_now_seized c_told_holes c_told_guests c_now_inside) fun y3 => (if ((y3 >>> (v1 &&& 31)) &&& 1) = 0 then (some ((-1), c_told_law_waiting, c_told_law_stack)) else (itr (fun kk => fX8_refuge_38 c_now_seized c_now_date c_told_colds c_told_holes c_told_guests c_told_law_length c_now_coal c_now_inside c_told_cold c_told_holeFlags c_told_burns c_told_kinds c_told_guestFlags c_told_foes c_told_law_code kk) (fun _ _ _ _ _ _ => none) FU c_told_law_waiting c_told_law_stack v1 (-1) 0 0))))
set_option maxHeartbeats 4000000 in
set_option maxRecDepth 100000 in
theorem KX8_refuge (l : Launch) (D : va_G) (cy : Nat → ClassId) (ad : Nat → Nat) (P : MP) (V : MV) (I : MI) (J : MJ) (A : MI) (B : MJ) (v1 : Int32) {res : Int32 × Int32 × (Nat → Int32)} (hf : fX8_refuge (I 4 2) (I 4 3) (I 112 4) (I 112 13) (I 112 14) (I 124 4) (A 5) (A 6) (A 116) (A 117) (A 119) (A 121) (A 122) (A 123) (A 125) (I 124 2) (A 126) v1 = some res) : CG l yX8_refuge cX8_refuge 6 (some .int) rmX8_refuge D cy (dn cy LY_X8 ad P V I J A B) [.ref (ad 0), .int v1] (some (.int res.1)) (dn cy LY_X8 ad P V (gp I [(124, 2, res.2.1)]) (gp J []) (gm A [(126, res.2.2)]) (gm B [])) := by
  refine CG.of (own := RX8) (by decide) rfl rfl ?_
  intro p e s m below meth c ls Af C0 hK hN hA hW hl
  have hW : wd D (dn cy LY_X8 ad P V (gp I [(124, 2, (I 124 2))]) (gp J []) (gm A [(126, (A 126))]) (gm B [])) Af s.heap s.heap [] := wd_sel [(124, 2)] [] [126] [] hW
  have hl : lv_has ls 6 [(0, .ref (ad 0)), (1, .int v1)] := hl
  unfold fX8_refuge at hf
  refine lv_aload_n C0.1 C0.2.1 dX8_refuge_0 rfl (lv_at hl 0 rfl) ?_
  refine s_get (v := .ref (ad 112)) C0 hK hW 0 7 LY_X8_0 rfl fg_X8_53 rfl dX8_refuge_1 ?_
  refine lv_iload_n C0.1 C0.2.1 dX8_refuge_4 rfl (lv_at hl 1 rfl) ?_
  obtain ⟨y1, hy1, hf⟩ := b_some hf
  refine c_Vi C0 hK hN hl.1 hW hA (KX6_hasGuest l D cy  (fun q => ad (pl_LY_X8_LY_X6_112_113_59166342.getD q 0)) (fun q => P (pl_LY_X8_LY_X6_112_113_59166342.getD q 0)) (fun q => Vx LY_X8 ad V (pl_LY_X8_LY_X6_112_113_59166342.getD q 0)) (fun q => gp I [(124, 2, (I 124 2))] (pl_LY_X8_LY_X6_112_113_59166342.getD q 0)) (fun q => gp J [] (pl_LY_X8_LY_X6_112_113_59166342.getD q 0)) (fun q => gm A [(126, (A 126))] (pl_LY_X8_LY_X6_112_113_59166342.getD q 0)) (fun q => gm B [] (pl_LY_X8_LY_X6_112_113_59166342.getD q 0)) v1 hy1) (JN_subC (pl := pl_LY_X8_LY_X6_112_113_59166342) sb_LY_X8_LY_X6_112_113_59166342 rfl rfl rfl rfl rfl rfl rfl rfl rfl) (Uw_V uw_664 uw_665 uw_666 uw_10 uw_667) rfl rfl hd_X6_hasGuest ⟨rfl, rfl⟩ rfl (dn_some LY_X8_112) rfl rfl rfl dX8_refuge_5 ⟨Nat.zero_le _, Nat.zero_le _⟩ (fun H locs hW => ?_)
  have hW : wd D (dn cy LY_X8 ad P V (gp I [(124, 2, (I 124 2))]) (gp J []) (gm A [(126, (A 126))]) (gm B [])) Af s.heap H locs := hW
  refine lv_if_eq (tgt := 29) C0.1 C0.2.1 dX8_refuge_8 (by decide) (fun hc2 => ?_) (fun hc2 => ?_)
  · have hf := ite_t hc2 hf
    refine lv_iconst (v := (-1)) C0.1 C0.2.1 dX8_refuge_29 kI_m1 ?_
    obtain rfl := Option.some.inj hf
    exact r_int C0 hK hW dX8_refuge_30
  · have hf := ite_f hc2 hf
    refine lv_aload_n C0.1 C0.2.1 dX8_refuge_11 rfl (lv_at hl 0 rfl) ?_
    refine s_get (v := .ref (ad 4)) C0 hK hW 0 1 LY_X8_0 rfl fg_X8_19 rfl dX8_refuge_12 ?_
    refine lv_aload_n C0.1 C0.2.1 dX8_refuge_15 rfl (lv_at hl 0 rfl) ?_
    refine s_get (v := .ref (ad 112)) C0 hK hW 0 7 LY_X8_0 rfl fg_X8_53 rfl dX8_refuge_16 ?_
    obtain ⟨y3, hy3, hf⟩ := b_some hf
    refine c_Vi C0 hK hN hl.1 hW hA (KX4_streetBits l D cy  (fun q => ad (pl_LY_X8_LY_X4X6_4_5_5025986.getD q 0)) (fun q => P (pl_LY_X8_LY_X4X6_4_5_5025986.getD q 0)) (fun q => Vx LY_X8 ad V (pl_LY_X8_LY_X4X6_4_5_5025986.getD q 0)) (fun q => gp I [(124, 2, (I 124 2))] (pl_LY_X8_LY_X4X6_4_5_5025986.getD q 0)) (fun q => gp J [] (pl_LY_X8_LY_X4X6_4_5_5025986.getD q 0)) (fun q => gm A [(126, (A 126))] (pl_LY_X8_LY_X4X6_4_5_5025986.getD q 0)) (fun q => gm B [] (pl_LY_X8_LY_X4X6_4_5_5025986.getD q 0))  hy3) (JN_subC (pl := pl_LY_X8_LY_X4X6_4_5_5025986) sb_LY_X8_LY_X4X6_4_5_5025986 rfl rfl rfl rfl rfl rfl rfl rfl rfl) (Uw_V uw_792 uw_678 uw_679 uw_7 uw_680) rfl rfl hd_X4_streetBits ⟨rfl, rfl⟩ rfl (dn_some LY_X8_4) rfl rfl rfl dX8_refuge_19 ⟨Nat.zero_le _, Nat.zero_le _⟩ (fun H locs hW => ?_)
    have hW : wd D (dn cy LY_X8 ad P V (gp I [(124, 2, (I 124 2))]) (gp J []) (gm A [(126, (A 126))]) (gm B [])) Af s.heap H locs := hW
    refine lv_iload_n C0.1 C0.2.1 dX8_refuge_22 rfl (lv_at hl 1 rfl) ?_
    refine lv_ishr C0.1 C0.2.1 dX8_refuge_23 ?_
    refine lv_iconst (v := 1) C0.1 C0.2.1 dX8_refuge_24 kI_1 ?_
    refine lv_iand C0.1 C0.2.1 dX8_refuge_25 ?_
    refine lv_if_ne (tgt := 31) C0.1 C0.2.1 dX8_refuge_26 (by decide) (fun hc4 => ?_) (fun hc4 => ?_)
    · have hf := ite_f hc4 hf
      refine lv_iconst (v := (-1)) C0.1 C0.2.1 dX8_refuge_31 kI_m1 ?_
      refine lv_istore_n (lv' := [(2, .int (-1)), (0, .ref (ad 0)), (1, .int v1)]) C0.1 C0.2.1 dX8_refuge_32 rfl hl (by decide) rfl (fun ls hl => ?_)
      refine lv_iconst (v := 0) C0.1 C0.2.1 dX8_refuge_33 kI_0 ?_
      refine lv_istore_n (lv' := [(3, .int 0), (2, .int (-1)), (0, .ref (ad 0)), (1, .int v1)]) C0.1 C0.2.1 dX8_refuge_34 rfl hl (by decide) rfl (fun ls hl => ?_)
      refine lv_iconst (v := 0) C0.1 C0.2.1 dX8_refuge_35 kI_0 ?_
      refine lv_istore (lv' := [(4, .int 0), (3, .int 0), (2, .int (-1)), (0, .ref (ad 0)), (1, .int v1)]) C0.1 C0.2.1 dX8_refuge_36 hl (by decide) rfl (fun ls hl => ?_)
      exact TX8_refuge_38 C0 hK hN hA  FU (I 124 2) (A 126) v1 (-1) 0 0 _ _ ls hW (lv_sub hl [3, 4, 2, 1, 0] rfl) hf
    · have hf := ite_t hc4 hf
      refine lv_iconst (v := (-1)) C0.1 C0.2.1 dX8_refuge_29 kI_m1 ?_
      obtain rfl := Option.some.inj hf
      exact r_int C0 hK hW dX8_refuge_30
-- X8_sacks
def rmX8_sacks : Room := { frames := 4, cells := 0, slots := 0, locals := 91 }
def SX8_sacks_63 (p : Program) (l : Launch) (e : Env) (s : State) (m : MethodId) (args : Array Value) (below : List Frame) (meth : Method) (c : Code) (D : va_G) (cy : Nat → ClassId) (ad : Nat → Nat) (P : MP) (V : MV) (I : MI) (J : MJ) (A : MI) (B : MJ) (Af : Nat → Prop) (res : Int32) (k : Int32 → Int32 → Int32 → Int32 → Int32 → Option (Int32)) : Prop := ∀ (v1 : Int32) (v2 : Int32) (v3 : Int32) (v4 : Int32) (v5 : Int32) (H : Heap) (locs : List Loc) (ls : Array Slot), wd D (dn cy LY_X8 ad P V (gp I []) (gp J []) (gm A []) (gm B [])) Af s.heap H locs → lv_has ls 7 [(0, .ref (ad 0)), (1, .int v1), (2, .int v2), (3, .int v3), (4, .int v4), (5, .int v5)] → k v1 v2 v3 v4 v5 = some res → W p l e rmX8_sacks s m args below meth c H locs 0 0 (ZQ below D cy (dn cy LY_X8 ad P V (gp I []) (gp J []) (gm A []) (gm B [])) (some (.int res)) Af args s) (F0 m 63 ls [])
def fX8_sacks_63 (c_now_seized : Int32) (c_now_date : Int32) (c_told_colds : Int32) (c_told_holes : Int32) (c_told_guests : Int32) (c_told_sack : Int32) (c_told_wantedBits : Int32) (c_now_coal : (Nat → Int32)) (c_now_inside : (Nat → Int32)) (c_told_cold : (Nat → Int32)) (c_told_burns : (Nat → Int32)) (k63 : Int32 → Int32 → Int32 → Int32 → Int32 → Option (Int32)) (v1 : Int32) (v2 : Int32) (v3 : Int32) (v4 : Int32) (v5 : Int32) : Option (Int32) := if c_told_holes ≤ v5 then (if v2 = (-1) then (some (v3)) else (some (v4))) else (Option.bind (fX4_sacksDue c_now_date c_told_colds c_told_sack c_told_wantedBits c_now_coal c_now_inside c_told_cold c_told_burns v5 v1) fun y3 => (if y3 ≤ 3 then (if v5 = v2 then (k63 v1 v2 (v3 + y3) y3 (v5 + 1)) else (k63 v1 v2 (v3 + y3) v4 (v5 + 1))) else (some ((-2)))))
set_option maxHeartbeats 4000000 in
set_option maxRecDepth 100000 in
theorem tX8_sacks_63 {p : Program} {l : Launch} {e : Env} {s : State} {m : MethodId} {args : Array Value} {below : List Frame} {meth : Method} {c : Code} {D : va_G} {cy : Nat → ClassId} {ad : Nat → Nat} {P : MP} {V : MV} {I : MI} {J : MJ} {A : MI} {B : MJ} {Af : Nat → Prop} {res : Int32} (C0 : CX p s m args meth c cX8_sacks 7 (some .int) RX8) (hK : va_K D vwCl (tyG cy) s) (hN : NWs s) (hA : ∀ q, s.heap.size ≤ q → Af q) {k63 : Int32 → Int32 → Int32 → Int32 → Int32 → Option (Int32)} (hk63 : SX8_sacks_63 p l e s m args below meth c D cy ad P V I J A B Af res k63) : SX8_sacks_63 p l e s m args below meth c D cy ad P V I J A B Af res (fX8_sacks_63 (I 4 2) (I 4 3) (I 112 4) (I 112 13) (I 112 14) (I 112 15) (I 112 17) (A 5) (A 6) (A 116) (A 119) k63) := by
  intro v1 v2 v3 v4 v5 H locs ls hW hl hf
  unfold fX8_sacks_63 at hf
  refine lv_iload C0.1 C0.2.1 dX8_sacks_63 (lv_at hl 5 rfl) ?_
  refine lv_aload_n C0.1 C0.2.1 dX8_sacks_65 rfl (lv_at hl 0 rfl) ?_
  refine s_get (v := .ref (ad 112)) C0 hK hW 0 7 LY_X8_0 rfl fg_X8_53 rfl dX8_sacks_66 ?_
  refine s_get (v := .int (I 112 13)) C0 hK hW 112 13 LY_X8_112 rfl fg_X8_193 rfl dX8_sacks_69 ?_
  refine lv_icmp_ge (tgt := 126) C0.1 C0.2.1 dX8_sacks_72 (by decide) (fun hc1 => ?_) (fun hc1 => ?_)
  · have hf := ite_t hc1 hf
    refine lv_iload_n C0.1 C0.2.1 dX8_sacks_126 rfl (lv_at hl 2 rfl) ?_
    refine lv_iconst (v := (-1)) C0.1 C0.2.1 dX8_sacks_127 kI_m1 ?_
    refine lv_icmp_ne (tgt := 135) C0.1 C0.2.1 dX8_sacks_128 (by decide) (fun hc2 => ?_) (fun hc2 => ?_)
    · have hf := ite_f hc2 hf
      refine lv_iload C0.1 C0.2.1 dX8_sacks_135 (lv_at hl 4 rfl) ?_
      obtain rfl := Option.some.inj hf
      exact r_int C0 hK hW dX8_sacks_137
    · have hf := ite_t hc2 hf
      refine lv_iload_n C0.1 C0.2.1 dX8_sacks_131 rfl (lv_at hl 3 rfl) ?_
      refine lv_goto (tgt := 137) C0.1 C0.2.1 dX8_sacks_132 (by decide) ?_
      obtain rfl := Option.some.inj hf
      exact r_int C0 hK hW dX8_sacks_137
  · have hf := ite_f hc1 hf
    refine lv_aload_n C0.1 C0.2.1 dX8_sacks_75 rfl (lv_at hl 0 rfl) ?_
    refine s_get (v := .ref (ad 4)) C0 hK hW 0 1 LY_X8_0 rfl fg_X8_19 rfl dX8_sacks_76 ?_
    refine lv_aload_n C0.1 C0.2.1 dX8_sacks_79 rfl (lv_at hl 0 rfl) ?_
    refine s_get (v := .ref (ad 112)) C0 hK hW 0 7 LY_X8_0 rfl fg_X8_53 rfl dX8_sacks_80 ?_
    refine lv_iload C0.1 C0.2.1 dX8_sacks_83 (lv_at hl 5 rfl) ?_
    refine lv_iload_n C0.1 C0.2.1 dX8_sacks_85 rfl (lv_at hl 1 rfl) ?_
    obtain ⟨y3, hy3, hf⟩ := b_some hf
    refine c_Vi C0 hK hN hl.1 hW hA (KX4_sacksDue l D cy  (fun q => ad (pl_LY_X8_LY_X4X6_4_5_5025986.getD q 0)) (fun q => P (pl_LY_X8_LY_X4X6_4_5_5025986.getD q 0)) (fun q => Vx LY_X8 ad V (pl_LY_X8_LY_X4X6_4_5_5025986.getD q 0)) (fun q => gp I [] (pl_LY_X8_LY_X4X6_4_5_5025986.getD q 0)) (fun q => gp J [] (pl_LY_X8_LY_X4X6_4_5_5025986.getD q 0)) (fun q => gm A [] (pl_LY_X8_LY_X4X6_4_5_5025986.getD q 0)) (fun q => gm B [] (pl_LY_X8_LY_X4X6_4_5_5025986.getD q 0)) v5 v1 hy3) (JN_subC (pl := pl_LY_X8_LY_X4X6_4_5_5025986) sb_LY_X8_LY_X4X6_4_5_5025986 rfl rfl rfl rfl rfl rfl rfl rfl rfl) (Uw_V uw_798 uw_799 uw_800 uw_7 uw_801) rfl rfl hd_X4_sacksDue ⟨rfl, rfl⟩ rfl (dn_some LY_X8_4) rfl rfl rfl dX8_sacks_86 ⟨Nat.zero_le _, Nat.zero_le _⟩ (fun H locs hW => ?_)
    have hW : wd D (dn cy LY_X8 ad P V (gp I []) (gp J []) (gm A []) (gm B [])) Af s.heap H locs := hW
    refine lv_istore (lv' := [(6, .int y3), (0, .ref (ad 0)), (1, .int v1), (2, .int v2), (3, .int v3), (4, .int v4), (5, .int v5)]) C0.1 C0.2.1 dX8_sacks_89 hl (by decide) rfl (fun ls hl => ?_)
    refine lv_iload C0.1 C0.2.1 dX8_sacks_91 (lv_at hl 0 rfl) ?_
    refine lv_iconst (v := 3) C0.1 C0.2.1 dX8_sacks_93 kI_3 ?_
    refine lv_icmp_le (tgt := 100) C0.1 C0.2.1 dX8_sacks_94 (by decide) (fun hc4 => ?_) (fun hc4 => ?_)
    · have hf := ite_t hc4 hf
      refine lv_iload_n C0.1 C0.2.1 dX8_sacks_100 rfl (lv_at hl 4 rfl) ?_
      refine lv_iload C0.1 C0.2.1 dX8_sacks_101 (lv_at hl 0 rfl) ?_
      refine lv_iadd C0.1 C0.2.1 dX8_sacks_103 ?_
      refine lv_istore_n (lv' := [(3, .int (v3 + y3)), (6, .int y3), (0, .ref (ad 0)), (1, .int v1), (2, .int v2), (4, .int v4), (5, .int v5)]) C0.1 C0.2.1 dX8_sacks_104 rfl hl (by decide) rfl (fun ls hl => ?_)
      refine lv_iload C0.1 C0.2.1 dX8_sacks_105 (lv_at hl 6 rfl) ?_
      refine lv_iload_n C0.1 C0.2.1 dX8_sacks_107 rfl (lv_at hl 4 rfl) ?_
      refine lv_icmp_ne (tgt := 116) C0.1 C0.2.1 dX8_sacks_108 (by decide) (fun hc5 => ?_) (fun hc5 => ?_)
      · have hf := ite_f hc5 hf
        refine lv_iload C0.1 C0.2.1 dX8_sacks_116 (lv_at hl 5 rfl) ?_
        refine lv_istore (lv' := [(4, .int v4), (3, .int (v3 + y3)), (6, .int y3), (0, .ref (ad 0)), (1, .int v1), (2, .int v2), (5, .int v5)]) C0.1 C0.2.1 dX8_sacks_118 hl (by decide) rfl (fun ls hl => ?_)
        refine lv_iinc (v := (v5 + 1)) (lv' := [(5, .int (v5 + 1)), (4, .int v4), (3, .int (v3 + y3)), (6, .int y3), (0, .ref (ad 0)), (1, .int v1), (2, .int v2)]) C0.1 C0.2.1 dX8_sacks_120 hl (k := 6) rfl (congrArg (fun z => _ + z) kI_1) (by decide) rfl (fun ls hl => ?_)
        refine lv_goto (tgt := 63) C0.1 C0.2.1 dX8_sacks_123 (by decide) ?_
        exact hk63 v1 v2 (v3 + y3) v4 (v5 + 1) H locs ls hW (lv_sub hl [4, 5, 6, 2, 1, 0] rfl) hf
      · have hf := ite_t hc5 hf
        refine lv_iload C0.1 C0.2.1 dX8_sacks_111 (lv_at hl 1 rfl) ?_
        refine lv_goto (tgt := 118) C0.1 C0.2.1 dX8_sacks_113 (by decide) ?_
        refine lv_istore (lv' := [(4, .int y3), (3, .int (v3 + y3)), (6, .int y3), (0, .ref (ad 0)), (1, .int v1), (2, .int v2), (5, .int v5)]) C0.1 C0.2.1 dX8_sacks_118 hl (by decide) rfl (fun ls hl => ?_)
        refine lv_iinc (v := (v5 + 1)) (lv' := [(5, .int (v5 + 1)), (4, .int y3), (3, .int (v3 + y3)), (6, .int y3), (0, .ref (ad 0)), (1, .int v1), (2, .int v2)]) C0.1 C0.2.1 dX8_sacks_120 hl (k := 6) rfl (congrArg (fun z => _ + z) kI_1) (by decide) rfl (fun ls hl => ?_)
        refine lv_goto (tgt := 63) C0.1 C0.2.1 dX8_sacks_123 (by decide) ?_
        exact hk63 v1 v2 (v3 + y3) y3 (v5 + 1) H locs ls hW (lv_sub hl [4, 5, 6, 2, 1, 0] rfl) hf
    · have hf := ite_f hc4 hf
      refine lv_bipush (v := (-2)) C0.1 C0.2.1 dX8_sacks_97 kB_m2 ?_
      obtain rfl := Option.some.inj hf
      exact r_int C0 hK hW dX8_sacks_99
theorem TX8_sacks_63 {p : Program} {l : Launch} {e : Env} {s : State} {m : MethodId} {args : Array Value} {below : List Frame} {meth : Method} {c : Code} {D : va_G} {cy : Nat → ClassId} {ad : Nat → Nat} {P : MP} {V : MV} {I : MI} {J : MJ} {A : MI} {B : MJ} {Af : Nat → Prop} {res : Int32} (C0 : CX p s m args meth c cX8_sacks 7 (some .int) RX8) (hK : va_K D vwCl (tyG cy) s) (hN : NWs s) (hA : ∀ q, s.heap.size ≤ q → Af q) : ∀ n, SX8_sacks_63 p l e s m args below meth c D cy ad P V I J A B Af res (itr (fun kk => fX8_sacks_63 (I 4 2) (I 4 3) (I 112 4) (I 112 13) (I 112 14) (I 112 15) (I 112 17) (A 5) (A 6) (A 116) (A 119) kk) (fun _ _ _ _ _ => none) n) := by
  intro n
  induction n with
  | zero => intro v1 v2 v3 v4 v5 H locs ls hW hl hf; exact (nomatch (show (none : Option (Int32)) = some res from hf))
  | succ n ih => exact tX8_sacks_63 C0 hK hN hA  ih
def fX8_sacks (c_now_seized : Int32) (c_now_date : Int32) (c_told_colds : Int32) (c_told_holes : Int32) (c_told_guests : Int32) (c_told_sack : Int32) (c_told_wantedBits : Int32) (c_now_coal : (Nat → Int32)) (c_now_inside : (Nat → Int32)) (c_told_cold : (Nat → Int32)) (c_told_burns : (Nat → Int32)) (v1 : Int32) (v2 : Int32) : Option (Int32) := Option.bind (fX8_isWithin v1 1 30) fun y1 => (if y1 = 0 then (some ((-2))) else (Option.bind (fX8_isWithin v2 (-1) (c_told_holes - 1)) fun y3 => (if y3 = 0 then (some ((-2))) else (Option.bind (fX4_streetBits c_now_seized c_told_holes c_told_guests c_now_inside) fun y5 => (if (y5 &&& c_told_wantedBits) = 0 then (itr (fun kk => fX8_sacks_63 c_now_seized c_now_date c_told_colds c_told_holes c_told_guests c_told_sack c_told_wantedBits c_now_coal c_now_inside c_told_cold c_told_burns kk) (fun _ _ _ _ _ => none) FU v1 v2 0 0 0) else (some ((-2))))))))
set_option maxHeartbeats 4000000 in
set_option maxRecDepth 100000 in
theorem KX8_sacks (l : Launch) (D : va_G) (cy : Nat → ClassId) (ad : Nat → Nat) (P : MP) (V : MV) (I : MI) (J : MJ) (A : MI) (B : MJ) (v1 : Int32) (v2 : Int32) {res : Int32} (hf : fX8_sacks (I 4 2) (I 4 3) (I 112 4) (I 112 13) (I 112 14) (I 112 15) (I 112 17) (A 5) (A 6) (A 116) (A 119) v1 v2 = some res) : CG l yX8_sacks cX8_sacks 7 (some .int) rmX8_sacks D cy (dn cy LY_X8 ad P V I J A B) [.ref (ad 0), .int v1, .int v2] (some (.int res)) (dn cy LY_X8 ad P V (gp I []) (gp J []) (gm A []) (gm B [])) := by
  refine CG.of (own := RX8) (by decide) rfl rfl ?_
  intro p e s m below meth c ls Af C0 hK hN hA hW hl
  have hW : wd D (dn cy LY_X8 ad P V (gp I []) (gp J []) (gm A []) (gm B [])) Af s.heap s.heap [] := wd_sel [] [] [] [] hW
  have hl : lv_has ls 7 [(0, .ref (ad 0)), (1, .int v1), (2, .int v2)] := hl
  unfold fX8_sacks at hf
  refine lv_iload_n C0.1 C0.2.1 dX8_sacks_0 rfl (lv_at hl 1 rfl) ?_
  refine lv_iconst (v := 1) C0.1 C0.2.1 dX8_sacks_1 kI_1 ?_
  refine lv_bipush (v := 30) C0.1 C0.2.1 dX8_sacks_2 kB_30 ?_
  obtain ⟨y1, hy1, hf⟩ := b_some hf
  refine c_Si C0 hK hN hl.1 hW hA (KX8_isWithin l D cy  (fun q => ad (pl_LY_X8_LY_0_.getD q 0)) (fun q => P (pl_LY_X8_LY_0_.getD q 0)) (fun q => Vx LY_X8 ad V (pl_LY_X8_LY_0_.getD q 0)) (fun q => gp I [] (pl_LY_X8_LY_0_.getD q 0)) (fun q => gp J [] (pl_LY_X8_LY_0_.getD q 0)) (fun q => gm A [] (pl_LY_X8_LY_0_.getD q 0)) (fun q => gm B [] (pl_LY_X8_LY_0_.getD q 0)) v1 1 30 hy1) (JN_subC (pl := pl_LY_X8_LY_0_) sb_LY_X8_LY_0_ rfl rfl rfl rfl rfl rfl rfl rfl rfl) ⟨uw_500, uw_501, uw_1, uw_502⟩ rfl rfl hd_X8_isWithin ⟨rfl, rfl⟩ rfl rfl rfl dX8_sacks_4 ⟨Nat.zero_le _, Nat.zero_le _⟩ (fun H locs hW => ?_)
  have hW : wd D (dn cy LY_X8 ad P V (gp I []) (gp J []) (gm A []) (gm B [])) Af s.heap H locs := hW
  refine lv_if_eq (tgt := 27) C0.1 C0.2.1 dX8_sacks_7 (by decide) (fun hc2 => ?_) (fun hc2 => ?_)
  · have hf := ite_t hc2 hf
    refine lv_bipush (v := (-2)) C0.1 C0.2.1 dX8_sacks_27 kB_m2 ?_
    obtain rfl := Option.some.inj hf
    exact r_int C0 hK hW dX8_sacks_29
  · have hf := ite_f hc2 hf
    refine lv_iload_n C0.1 C0.2.1 dX8_sacks_10 rfl (lv_at hl 2 rfl) ?_
    refine lv_iconst (v := (-1)) C0.1 C0.2.1 dX8_sacks_11 kI_m1 ?_
    refine lv_aload_n C0.1 C0.2.1 dX8_sacks_12 rfl (lv_at hl 0 rfl) ?_
    refine s_get (v := .ref (ad 112)) C0 hK hW 0 7 LY_X8_0 rfl fg_X8_53 rfl dX8_sacks_13 ?_
    refine s_get (v := .int (I 112 13)) C0 hK hW 112 13 LY_X8_112 rfl fg_X8_193 rfl dX8_sacks_16 ?_
    refine lv_iconst (v := 1) C0.1 C0.2.1 dX8_sacks_19 kI_1 ?_
    refine lv_isub C0.1 C0.2.1 dX8_sacks_20 ?_
    obtain ⟨y3, hy3, hf⟩ := b_some hf
    refine c_Si C0 hK hN hl.1 hW hA (KX8_isWithin l D cy  (fun q => ad (pl_LY_X8_LY_0_.getD q 0)) (fun q => P (pl_LY_X8_LY_0_.getD q 0)) (fun q => Vx LY_X8 ad V (pl_LY_X8_LY_0_.getD q 0)) (fun q => gp I [] (pl_LY_X8_LY_0_.getD q 0)) (fun q => gp J [] (pl_LY_X8_LY_0_.getD q 0)) (fun q => gm A [] (pl_LY_X8_LY_0_.getD q 0)) (fun q => gm B [] (pl_LY_X8_LY_0_.getD q 0)) v2 (-1) ((I 112 13) - 1) hy3) (JN_subC (pl := pl_LY_X8_LY_0_) sb_LY_X8_LY_0_ rfl rfl rfl rfl rfl rfl rfl rfl rfl) ⟨uw_500, uw_501, uw_1, uw_502⟩ rfl rfl hd_X8_isWithin ⟨rfl, rfl⟩ rfl rfl rfl dX8_sacks_21 ⟨Nat.zero_le _, Nat.zero_le _⟩ (fun H locs hW => ?_)
    have hW : wd D (dn cy LY_X8 ad P V (gp I []) (gp J []) (gm A []) (gm B [])) Af s.heap H locs := hW
    refine lv_if_ne (tgt := 30) C0.1 C0.2.1 dX8_sacks_24 (by decide) (fun hc4 => ?_) (fun hc4 => ?_)
    · have hf := ite_f hc4 hf
      refine lv_aload_n C0.1 C0.2.1 dX8_sacks_30 rfl (lv_at hl 0 rfl) ?_
      refine s_get (v := .ref (ad 4)) C0 hK hW 0 1 LY_X8_0 rfl fg_X8_19 rfl dX8_sacks_31 ?_
      refine lv_aload_n C0.1 C0.2.1 dX8_sacks_34 rfl (lv_at hl 0 rfl) ?_
      refine s_get (v := .ref (ad 112)) C0 hK hW 0 7 LY_X8_0 rfl fg_X8_53 rfl dX8_sacks_35 ?_
      obtain ⟨y5, hy5, hf⟩ := b_some hf
      refine c_Vi C0 hK hN hl.1 hW hA (KX4_streetBits l D cy  (fun q => ad (pl_LY_X8_LY_X4X6_4_5_5025986.getD q 0)) (fun q => P (pl_LY_X8_LY_X4X6_4_5_5025986.getD q 0)) (fun q => Vx LY_X8 ad V (pl_LY_X8_LY_X4X6_4_5_5025986.getD q 0)) (fun q => gp I [] (pl_LY_X8_LY_X4X6_4_5_5025986.getD q 0)) (fun q => gp J [] (pl_LY_X8_LY_X4X6_4_5_5025986.getD q 0)) (fun q => gm A [] (pl_LY_X8_LY_X4X6_4_5_5025986.getD q 0)) (fun q => gm B [] (pl_LY_X8_LY_X4X6_4_5_5025986.getD q 0))  hy5) (JN_subC (pl := pl_LY_X8_LY_X4X6_4_5_5025986) sb_LY_X8_LY_X4X6_4_5_5025986 rfl rfl rfl rfl rfl rfl rfl rfl rfl) (Uw_V uw_792 uw_678 uw_679 uw_7 uw_680) rfl rfl hd_X4_streetBits ⟨rfl, rfl⟩ rfl (dn_some LY_X8_4) rfl rfl rfl dX8_sacks_38 ⟨Nat.zero_le _, Nat.zero_le _⟩ (fun H locs hW => ?_)
      have hW : wd D (dn cy LY_X8 ad P V (gp I []) (gp J []) (gm A []) (gm B [])) Af s.heap H locs := hW
      refine lv_aload_n C0.1 C0.2.1 dX8_sacks_41 rfl (lv_at hl 0 rfl) ?_
      refine s_get (v := .ref (ad 112)) C0 hK hW 0 7 LY_X8_0 rfl fg_X8_53 rfl dX8_sacks_42 ?_
      refine s_get (v := .int (I 112 17)) C0 hK hW 112 17 LY_X8_112 rfl fg_X8_203 rfl dX8_sacks_45 ?_
      refine lv_iand C0.1 C0.2.1 dX8_sacks_48 ?_
      refine lv_if_eq (tgt := 55) C0.1 C0.2.1 dX8_sacks_49 (by decide) (fun hc6 => ?_) (fun hc6 => ?_)
      · have hf := ite_t hc6 hf
        refine lv_iconst (v := 0) C0.1 C0.2.1 dX8_sacks_55 kI_0 ?_
        refine lv_istore_n (lv' := [(3, .int 0), (0, .ref (ad 0)), (1, .int v1), (2, .int v2)]) C0.1 C0.2.1 dX8_sacks_56 rfl hl (by decide) rfl (fun ls hl => ?_)
        refine lv_iconst (v := 0) C0.1 C0.2.1 dX8_sacks_57 kI_0 ?_
        refine lv_istore (lv' := [(4, .int 0), (3, .int 0), (0, .ref (ad 0)), (1, .int v1), (2, .int v2)]) C0.1 C0.2.1 dX8_sacks_58 hl (by decide) rfl (fun ls hl => ?_)
        refine lv_iconst (v := 0) C0.1 C0.2.1 dX8_sacks_60 kI_0 ?_
        refine lv_istore (lv' := [(5, .int 0), (4, .int 0), (3, .int 0), (0, .ref (ad 0)), (1, .int v1), (2, .int v2)]) C0.1 C0.2.1 dX8_sacks_61 hl (by decide) rfl (fun ls hl => ?_)
        exact TX8_sacks_63 C0 hK hN hA  FU v1 v2 0 0 0 _ _ ls hW (lv_sub hl [3, 4, 5, 2, 1, 0] rfl) hf
      · have hf := ite_f hc6 hf
        refine lv_bipush (v := (-2)) C0.1 C0.2.1 dX8_sacks_52 kB_m2 ?_
        obtain rfl := Option.some.inj hf
        exact r_int C0 hK hW dX8_sacks_54
    · have hf := ite_t hc4 hf
      refine lv_bipush (v := (-2)) C0.1 C0.2.1 dX8_sacks_27 kB_m2 ?_
      obtain rfl := Option.some.inj hf
      exact r_int C0 hK hW dX8_sacks_29
-- X8_lodging
def rmX8_lodging : Room := { frames := 14, cells := 0, slots := 0, locals := 340 }
def fX8_lodging (c_now_seized : Int32) (c_now_date : Int32) (c_now_brought : Int32) (c_told_colds : Int32) (c_told_holes : Int32) (c_told_guests : Int32) (c_told_wantedBits : Int32) (c_told_law_length : Int32) (c_now_coal : (Nat → Int32)) (c_now_inside : (Nat → Int32)) (c_told_cold : (Nat → Int32)) (c_told_holeFlags : (Nat → Int32)) (c_told_burns : (Nat → Int32)) (c_told_kinds : (Nat → Int32)) (c_told_guestFlags : (Nat → Int32)) (c_told_foes : (Nat → Int32)) (c_told_law_code : (Nat → Int32)) (c_trial_seized : Int32) (c_trial_date : Int32) (c_trial_brought : Int32) (c_lodgings_street : Int32) (c_lodgings_lasting : Int32) (c_lodgings_bestCost : Int32) (c_lodgings_seized : Int32) (c_told_law_waiting : Int32) (c_trial_coal : (Nat → Int32)) (c_trial_inside : (Nat → Int32)) (c_lodgings_row : (Nat → Int32)) (c_lodgings_leastFrom : (Nat → Int32)) (c_lodgings_lawful : (Nat → Int32)) (c_lodgings_best : (Nat → Int32)) (c_told_law_stack : (Nat → Int32)) (v1 : Int32) (v2 : Int32) : Option (Int32 × Int32 × Int32 × Int32 × Int32 × Int32 × Int32 × Int32 × Int32 × (Nat → Int32) × (Nat → Int32) × (Nat → Int32) × (Nat → Int32) × (Nat → Int32) × (Nat → Int32) × (Nat → Int32)) := Option.bind (fX8_isWithin v1 1 30) fun y1 => (if y1 = 0 then (some ((-2), c_trial_seized, c_trial_date, c_trial_brought, c_lodgings_street, c_lodgings_lasting, c_lodgings_bestCost, c_lodgings_seized, c_told_law_waiting, c_trial_coal, c_trial_inside, c_lodgings_row, c_lodgings_leastFrom, c_lodgings_lawful, c_lodgings_best, c_told_law_stack)) else (Option.bind (fX8_isWithin v2 (-1) (c_told_guests - 1)) fun y3 => (if y3 = 0 then (some ((-2), c_trial_seized, c_trial_date, c_trial_brought, c_lodgings_street, c_lodgings_lasting, c_lodgings_bestCost, c_lodgings_seized, c_told_law_waiting, c_trial_coal, c_trial_inside, c_lodgings_row, c_lodgings_leastFrom, c_lodgings_lawful, c_lodgings_best, c_told_law_stack)) else (Option.bind (fX4_copyFrom c_now_seized c_now_date c_now_brought c_now_coal c_now_inside c_trial_seized c_trial_date c_trial_brought c_trial_coal c_trial_inside) fun y5 => (Option.bind (fX2_search c_told_colds c_told_holes c_told_guests c_told_wantedBits c_told_law_length y5.1 y5.2.1 c_told_cold c_told_holeFlags c_told_burns c_told_kinds c_told_guestFlags c_told_foes c_told_law_code y5.2.2.2.1 c_lodgings_street c_lodgings_lasting c_lodgings_bestCost c_lodgings_seized c_told_law_waiting c_lodgings_row c_lodgings_leastFrom c_lodgings_lawful c_lodgings_best c_told_law_stack y5.2.2.2.2 v1) fun y6 => (if v2 = (-1) then (some (y6.2.2.2.1, y5.1, y5.2.1, y5.2.2.1, y6.1, y6.2.1, y6.2.2.1, y6.2.2.2.1, y6.2.2.2.2.1, y5.2.2.2.1, y6.2.2.2.2.2.2.2.2.2.2, y6.2.2.2.2.2.1, y6.2.2.2.2.2.2.1, y6.2.2.2.2.2.2.2.1, y6.2.2.2.2.2.2.2.2.1, y6.2.2.2.2.2.2.2.2.2.1)) else (bif inb v2 5 then (some ((y6.2.2.2.2.2.2.2.2.1 (Int32.toNatClampNeg v2)), y5.1, y5.2.1, y5.2.2.1, y6.1, y6.2.1, y6.2.2.1, y6.2.2.2.1, y6.2.2.2.2.1, y5.2.2.2.1, y6.2.2.2.2.2.2.2.2.2.2, y6.2.2.2.2.2.1, y6.2.2.2.2.2.2.1, y6.2.2.2.2.2.2.2.1, y6.2.2.2.2.2.2.2.2.1, y6.2.2.2.2.2.2.2.2.2.1)) else none)))))))
set_option maxHeartbeats 4000000 in
set_option maxRecDepth 100000 in
theorem KX8_lodging (l : Launch) (D : va_G) (cy : Nat → ClassId) (ad : Nat → Nat) (P : MP) (V : MV) (I : MI) (J : MJ) (A : MI) (B : MJ) (v1 : Int32) (v2 : Int32) {res : Int32 × Int32 × Int32 × Int32 × Int32 × Int32 × Int32 × Int32 × Int32 × (Nat → Int32) × (Nat → Int32) × (Nat → Int32) × (Nat → Int32) × (Nat → Int32) × (Nat → Int32) × (Nat → Int32)} (hf : fX8_lodging (I 4 2) (I 4 3) (I 4 4) (I 112 4) (I 112 13) (I 112 14) (I 112 17) (I 124 4) (A 5) (A 6) (A 116) (A 117) (A 119) (A 121) (A 122) (A 123) (A 125) (I 7 2) (I 7 3) (I 7 4) (I 13 3) (I 13 4) (I 13 5) (I 13 7) (I 124 2) (A 8) (A 9) (A 14) (A 15) (A 16) (A 17) (A 126) v1 v2 = some res) : CG l yX8_lodging cX8_lodging 3 (some .int) rmX8_lodging D cy (dn cy LY_X8 ad P V I J A B) [.ref (ad 0), .int v1, .int v2] (some (.int res.1)) (dn cy LY_X8 ad P V (gp I [(7, 2, res.2.1), (7, 3, res.2.2.1), (7, 4, res.2.2.2.1), (13, 3, res.2.2.2.2.1), (13, 4, res.2.2.2.2.2.1), (13, 5, res.2.2.2.2.2.2.1), (13, 7, res.2.2.2.2.2.2.2.1), (124, 2, res.2.2.2.2.2.2.2.2.1)]) (gp J []) (gm A [(8, res.2.2.2.2.2.2.2.2.2.1), (9, res.2.2.2.2.2.2.2.2.2.2.1), (14, res.2.2.2.2.2.2.2.2.2.2.2.1), (15, res.2.2.2.2.2.2.2.2.2.2.2.2.1), (16, res.2.2.2.2.2.2.2.2.2.2.2.2.2.1), (17, res.2.2.2.2.2.2.2.2.2.2.2.2.2.2.1), (126, res.2.2.2.2.2.2.2.2.2.2.2.2.2.2.2)]) (gm B [])) := by
  refine CG.of (own := RX8) (by decide) rfl rfl ?_
  intro p e s m below meth c ls Af C0 hK hN hA hW hl
  have hW : wd D (dn cy LY_X8 ad P V (gp I [(7, 2, (I 7 2)), (7, 3, (I 7 3)), (7, 4, (I 7 4)), (13, 3, (I 13 3)), (13, 4, (I 13 4)), (13, 5, (I 13 5)), (13, 7, (I 13 7)), (124, 2, (I 124 2))]) (gp J []) (gm A [(8, (A 8)), (9, (A 9)), (14, (A 14)), (15, (A 15)), (16, (A 16)), (17, (A 17)), (126, (A 126))]) (gm B [])) Af s.heap s.heap [] := wd_sel [(7, 2), (7, 3), (7, 4), (13, 3), (13, 4), (13, 5), (13, 7), (124, 2)] [] [8, 9, 14, 15, 16, 17, 126] [] hW
  have hl : lv_has ls 3 [(0, .ref (ad 0)), (1, .int v1), (2, .int v2)] := hl
  unfold fX8_lodging at hf
  refine lv_iload_n C0.1 C0.2.1 dX8_lodging_0 rfl (lv_at hl 1 rfl) ?_
  refine lv_iconst (v := 1) C0.1 C0.2.1 dX8_lodging_1 kI_1 ?_
  refine lv_bipush (v := 30) C0.1 C0.2.1 dX8_lodging_2 kB_30 ?_
  obtain ⟨y1, hy1, hf⟩ := b_some hf
  refine c_Si C0 hK hN hl.1 hW hA (KX8_isWithin l D cy  (fun q => ad (pl_LY_X8_LY_0_.getD q 0)) (fun q => P (pl_LY_X8_LY_0_.getD q 0)) (fun q => Vx LY_X8 ad V (pl_LY_X8_LY_0_.getD q 0)) (fun q => gp I [(7, 2, (I 7 2)), (7, 3, (I 7 3)), (7, 4, (I 7 4)), (13, 3, (I 13 3)), (13, 4, (I 13 4)), (13, 5, (I 13 5)), (13, 7, (I 13 7)), (124, 2, (I 124 2))] (pl_LY_X8_LY_0_.getD q 0)) (fun q => gp J [] (pl_LY_X8_LY_0_.getD q 0)) (fun q => gm A [(8, (A 8)), (9, (A 9)), (14, (A 14)), (15, (A 15)), (16, (A 16)), (17, (A 17)), (126, (A 126))] (pl_LY_X8_LY_0_.getD q 0)) (fun q => gm B [] (pl_LY_X8_LY_0_.getD q 0)) v1 1 30 hy1) (JN_subC (pl := pl_LY_X8_LY_0_) sb_LY_X8_LY_0_ rfl rfl rfl rfl rfl rfl rfl rfl rfl) ⟨uw_500, uw_501, uw_1, uw_502⟩ rfl rfl hd_X8_isWithin ⟨rfl, rfl⟩ rfl rfl rfl dX8_lodging_4 ⟨Nat.zero_le _, Nat.zero_le _⟩ (fun H locs hW => ?_)
  have hW : wd D (dn cy LY_X8 ad P V (gp I [(7, 2, (I 7 2)), (7, 3, (I 7 3)), (7, 4, (I 7 4)), (13, 3, (I 13 3)), (13, 4, (I 13 4)), (13, 5, (I 13 5)), (13, 7, (I 13 7)), (124, 2, (I 124 2))]) (gp J []) (gm A [(8, (A 8)), (9, (A 9)), (14, (A 14)), (15, (A 15)), (16, (A 16)), (17, (A 17)), (126, (A 126))]) (gm B [])) Af s.heap H locs := hW
  refine lv_if_eq (tgt := 27) C0.1 C0.2.1 dX8_lodging_7 (by decide) (fun hc2 => ?_) (fun hc2 => ?_)
  · have hf := ite_t hc2 hf
    refine lv_bipush (v := (-2)) C0.1 C0.2.1 dX8_lodging_27 kB_m2 ?_
    obtain rfl := Option.some.inj hf
    exact r_int C0 hK hW dX8_lodging_29
  · have hf := ite_f hc2 hf
    refine lv_iload_n C0.1 C0.2.1 dX8_lodging_10 rfl (lv_at hl 2 rfl) ?_
    refine lv_iconst (v := (-1)) C0.1 C0.2.1 dX8_lodging_11 kI_m1 ?_
    refine lv_aload_n C0.1 C0.2.1 dX8_lodging_12 rfl (lv_at hl 0 rfl) ?_
    refine s_get (v := .ref (ad 112)) C0 hK hW 0 7 LY_X8_0 rfl fg_X8_53 rfl dX8_lodging_13 ?_
    refine s_get (v := .int (I 112 14)) C0 hK hW 112 14 LY_X8_112 rfl fg_X8_209 rfl dX8_lodging_16 ?_
    refine lv_iconst (v := 1) C0.1 C0.2.1 dX8_lodging_19 kI_1 ?_
    refine lv_isub C0.1 C0.2.1 dX8_lodging_20 ?_
    obtain ⟨y3, hy3, hf⟩ := b_some hf
    refine c_Si C0 hK hN hl.1 hW hA (KX8_isWithin l D cy  (fun q => ad (pl_LY_X8_LY_0_.getD q 0)) (fun q => P (pl_LY_X8_LY_0_.getD q 0)) (fun q => Vx LY_X8 ad V (pl_LY_X8_LY_0_.getD q 0)) (fun q => gp I [(7, 2, (I 7 2)), (7, 3, (I 7 3)), (7, 4, (I 7 4)), (13, 3, (I 13 3)), (13, 4, (I 13 4)), (13, 5, (I 13 5)), (13, 7, (I 13 7)), (124, 2, (I 124 2))] (pl_LY_X8_LY_0_.getD q 0)) (fun q => gp J [] (pl_LY_X8_LY_0_.getD q 0)) (fun q => gm A [(8, (A 8)), (9, (A 9)), (14, (A 14)), (15, (A 15)), (16, (A 16)), (17, (A 17)), (126, (A 126))] (pl_LY_X8_LY_0_.getD q 0)) (fun q => gm B [] (pl_LY_X8_LY_0_.getD q 0)) v2 (-1) ((I 112 14) - 1) hy3) (JN_subC (pl := pl_LY_X8_LY_0_) sb_LY_X8_LY_0_ rfl rfl rfl rfl rfl rfl rfl rfl rfl) ⟨uw_500, uw_501, uw_1, uw_502⟩ rfl rfl hd_X8_isWithin ⟨rfl, rfl⟩ rfl rfl rfl dX8_lodging_21 ⟨Nat.zero_le _, Nat.zero_le _⟩ (fun H locs hW => ?_)
    have hW : wd D (dn cy LY_X8 ad P V (gp I [(7, 2, (I 7 2)), (7, 3, (I 7 3)), (7, 4, (I 7 4)), (13, 3, (I 13 3)), (13, 4, (I 13 4)), (13, 5, (I 13 5)), (13, 7, (I 13 7)), (124, 2, (I 124 2))]) (gp J []) (gm A [(8, (A 8)), (9, (A 9)), (14, (A 14)), (15, (A 15)), (16, (A 16)), (17, (A 17)), (126, (A 126))]) (gm B [])) Af s.heap H locs := hW
    refine lv_if_ne (tgt := 30) C0.1 C0.2.1 dX8_lodging_24 (by decide) (fun hc4 => ?_) (fun hc4 => ?_)
    · have hf := ite_f hc4 hf
      refine lv_aload_n C0.1 C0.2.1 dX8_lodging_30 rfl (lv_at hl 0 rfl) ?_
      refine s_get (v := .ref (ad 7)) C0 hK hW 0 2 LY_X8_0 rfl fg_X8_23 rfl dX8_lodging_31 ?_
      refine lv_aload_n C0.1 C0.2.1 dX8_lodging_34 rfl (lv_at hl 0 rfl) ?_
      refine s_get (v := .ref (ad 4)) C0 hK hW 0 1 LY_X8_0 rfl fg_X8_19 rfl dX8_lodging_35 ?_
      obtain ⟨y5, hy5, hf⟩ := b_some hf
      refine c_Vv C0 hK hN hl.1 hW hA (KX4_copyFrom l D cy  (fun q => ad (pl_LY_X8_LY_X4X4_7_8_9_4_5_6.getD q 0)) (fun q => P (pl_LY_X8_LY_X4X4_7_8_9_4_5_6.getD q 0)) (fun q => Vx LY_X8 ad V (pl_LY_X8_LY_X4X4_7_8_9_4_5_6.getD q 0)) (fun q => gp I [(7, 2, (I 7 2)), (7, 3, (I 7 3)), (7, 4, (I 7 4)), (13, 3, (I 13 3)), (13, 4, (I 13 4)), (13, 5, (I 13 5)), (13, 7, (I 13 7)), (124, 2, (I 124 2))] (pl_LY_X8_LY_X4X4_7_8_9_4_5_6.getD q 0)) (fun q => gp J [] (pl_LY_X8_LY_X4X4_7_8_9_4_5_6.getD q 0)) (fun q => gm A [(8, (A 8)), (9, (A 9)), (14, (A 14)), (15, (A 15)), (16, (A 16)), (17, (A 17)), (126, (A 126))] (pl_LY_X8_LY_X4X4_7_8_9_4_5_6.getD q 0)) (fun q => gm B [] (pl_LY_X8_LY_X4X4_7_8_9_4_5_6.getD q 0))  hy5) (JN_subC (pl := pl_LY_X8_LY_X4X4_7_8_9_4_5_6) sb_LY_X8_LY_X4X4_7_8_9_4_5_6 rfl rfl rfl rfl rfl rfl rfl rfl rfl) (Uw_V uw_695 uw_696 uw_697 uw_7 uw_698) rfl rfl hd_X4_copyFrom ⟨rfl, rfl⟩ rfl (dn_some LY_X8_7) rfl rfl rfl dX8_lodging_38 ⟨Nat.zero_le _, Nat.zero_le _⟩ (fun H locs hW => ?_)
      have hW : wd D (dn cy LY_X8 ad P V (gp I [(7, 2, y5.1), (7, 3, y5.2.1), (7, 4, y5.2.2.1), (13, 3, (I 13 3)), (13, 4, (I 13 4)), (13, 5, (I 13 5)), (13, 7, (I 13 7)), (124, 2, (I 124 2))]) (gp J []) (gm A [(8, y5.2.2.2.1), (9, y5.2.2.2.2), (14, (A 14)), (15, (A 15)), (16, (A 16)), (17, (A 17)), (126, (A 126))]) (gm B [])) Af s.heap H locs := hW
      refine lv_aload_n C0.1 C0.2.1 dX8_lodging_41 rfl (lv_at hl 0 rfl) ?_
      refine s_get (v := .ref (ad 13)) C0 hK hW 0 4 LY_X8_0 rfl fg_X8_36 rfl dX8_lodging_42 ?_
      refine lv_aload_n C0.1 C0.2.1 dX8_lodging_45 rfl (lv_at hl 0 rfl) ?_
      refine s_get (v := .ref (ad 112)) C0 hK hW 0 7 LY_X8_0 rfl fg_X8_53 rfl dX8_lodging_46 ?_
      refine lv_aload_n C0.1 C0.2.1 dX8_lodging_49 rfl (lv_at hl 0 rfl) ?_
      refine s_get (v := .ref (ad 7)) C0 hK hW 0 2 LY_X8_0 rfl fg_X8_23 rfl dX8_lodging_50 ?_
      refine lv_iload_n C0.1 C0.2.1 dX8_lodging_53 rfl (lv_at hl 1 rfl) ?_
      obtain ⟨y6, hy6, hf⟩ := b_some hf
      refine c_Vv C0 hK hN hl.1 hW hA (KX2_search l D cy  (fun q => ad (pl_LY_X8_LY_X2X6X4_13_14_56151515.getD q 0)) (fun q => P (pl_LY_X8_LY_X2X6X4_13_14_56151515.getD q 0)) (fun q => Vx LY_X8 ad V (pl_LY_X8_LY_X2X6X4_13_14_56151515.getD q 0)) (fun q => gp I [(7, 2, y5.1), (7, 3, y5.2.1), (7, 4, y5.2.2.1), (13, 3, (I 13 3)), (13, 4, (I 13 4)), (13, 5, (I 13 5)), (13, 7, (I 13 7)), (124, 2, (I 124 2))] (pl_LY_X8_LY_X2X6X4_13_14_56151515.getD q 0)) (fun q => gp J [] (pl_LY_X8_LY_X2X6X4_13_14_56151515.getD q 0)) (fun q => gm A [(8, y5.2.2.2.1), (9, y5.2.2.2.2), (14, (A 14)), (15, (A 15)), (16, (A 16)), (17, (A 17)), (126, (A 126))] (pl_LY_X8_LY_X2X6X4_13_14_56151515.getD q 0)) (fun q => gm B [] (pl_LY_X8_LY_X2X6X4_13_14_56151515.getD q 0)) v1 hy6) (JN_subC (pl := pl_LY_X8_LY_X2X6X4_13_14_56151515) sb_LY_X8_LY_X2X6X4_13_14_56151515 rfl rfl rfl rfl rfl rfl rfl rfl rfl) (Uw_V uw_811 uw_812 uw_813 uw_9 uw_814) rfl rfl hd_X2_search ⟨rfl, rfl⟩ rfl (dn_some LY_X8_13) rfl rfl rfl dX8_lodging_54 ⟨Nat.zero_le _, Nat.zero_le _⟩ (fun H locs hW => ?_)
      have hW : wd D (dn cy LY_X8 ad P V (gp I [(7, 2, y5.1), (7, 3, y5.2.1), (7, 4, y5.2.2.1), (13, 3, y6.1), (13, 4, y6.2.1), (13, 5, y6.2.2.1), (13, 7, y6.2.2.2.1), (124, 2, y6.2.2.2.2.1)]) (gp J []) (gm A [(8, y5.2.2.2.1), (9, y6.2.2.2.2.2.2.2.2.2.2), (14, y6.2.2.2.2.2.1), (15, y6.2.2.2.2.2.2.1), (16, y6.2.2.2.2.2.2.2.1), (17, y6.2.2.2.2.2.2.2.2.1), (126, y6.2.2.2.2.2.2.2.2.2.1)]) (gm B [])) Af s.heap H locs := hW
      refine lv_iload_n C0.1 C0.2.1 dX8_lodging_57 rfl (lv_at hl 2 rfl) ?_
      refine lv_iconst (v := (-1)) C0.1 C0.2.1 dX8_lodging_58 kI_m1 ?_
      refine lv_icmp_ne (tgt := 72) C0.1 C0.2.1 dX8_lodging_59 (by decide) (fun hc7 => ?_) (fun hc7 => ?_)
      · have hf := ite_f hc7 hf
        refine lv_aload_n C0.1 C0.2.1 dX8_lodging_72 rfl (lv_at hl 0 rfl) ?_
        refine s_get (v := .ref (ad 13)) C0 hK hW 0 4 LY_X8_0 rfl fg_X8_36 rfl dX8_lodging_73 ?_
        refine s_get (v := .ref (ad 17)) C0 hK hW 13 6 LY_X8_13 rfl fg_X8_217 rfl dX8_lodging_76 ?_
        refine lv_iload_n C0.1 C0.2.1 dX8_lodging_79 rfl (lv_at hl 2 rfl) ?_
        obtain ⟨hb8, hf⟩ := g_some hf
        refine s_iald (v := (y6.2.2.2.2.2.2.2.2.1 (Int32.toNatClampNeg v2))) C0 hK hW 17 LY_X8_17 hb8 rfl dX8_lodging_80 ?_
        obtain rfl := Option.some.inj hf
        exact r_int C0 hK hW dX8_lodging_81
      · have hf := ite_t hc7 hf
        refine lv_aload_n C0.1 C0.2.1 dX8_lodging_62 rfl (lv_at hl 0 rfl) ?_
        refine s_get (v := .ref (ad 13)) C0 hK hW 0 4 LY_X8_0 rfl fg_X8_36 rfl dX8_lodging_63 ?_
        refine s_get (v := .int y6.2.2.2.1) C0 hK hW 13 7 LY_X8_13 rfl fg_X8_216 rfl dX8_lodging_66 ?_
        refine lv_goto (tgt := 81) C0.1 C0.2.1 dX8_lodging_69 (by decide) ?_
        obtain rfl := Option.some.inj hf
        exact r_int C0 hK hW dX8_lodging_81
    · have hf := ite_t hc4 hf
      refine lv_bipush (v := (-2)) C0.1 C0.2.1 dX8_lodging_27 kB_m2 ?_
      obtain rfl := Option.some.inj hf
      exact r_int C0 hK hW dX8_lodging_29
