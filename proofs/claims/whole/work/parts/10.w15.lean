-- X9_readsHole
def rmX9_readsHole : Room := { frames := 5, cells := 0, slots := 0, locals := 109 }
def fX9_readsHole (m_size : Int32) (m_tape : (Nat → Int32)) (m_guestName : (Nat → Int64)) (m_place : Int32) (m_begin : Int32) (m_token : Int32) (m_told : Int32) (m_wrong : Int32) (m_given : Int32) (m_word : Int64) (m_fresh : Int64) (m_terrace : (Nat → Int32)) (m_holeFlag : (Nat → Int32)) (m_coalTold : (Nat → Int32)) (m_burns : (Nat → Int32)) (m_walls : (Nat → Int32)) (m_holeName : (Nat → Int64)) : Option (Int32 × Int32 × Int32 × Int32 × Int32 × Int32 × Int32 × Int64 × Int64 × (Nat → Int32) × (Nat → Int32) × (Nat → Int32) × (Nat → Int32) × (Nat → Int32) × (Nat → Int64)) := if (5 + (m_terrace 4)) = 10 then (Option.bind (fX9_fails m_begin m_wrong 5) fun y17 => (some ((vp_nar .boolean y17.1), m_place, m_begin, m_token, m_told, y17.2, m_given, m_word, m_fresh, m_terrace, m_holeFlag, m_coalTold, m_burns, m_walls, m_holeName))) else (Option.bind (fX9_nextToken m_size m_tape m_place m_begin m_token m_told m_word) fun y2 => (Option.bind (fX9_needsNew m_size m_tape m_terrace m_holeName m_guestName y2.1 y2.2.1 y2.2.2.1 y2.2.2.2.1 m_wrong y2.2.2.2.2 m_fresh) fun y3 => (if y3.1 = 0 then (some (0, y3.2.1, y3.2.2.1, y3.2.2.2.1, y3.2.2.2.2.1, y3.2.2.2.2.2.1, m_given, y3.2.2.2.2.2.2.1, y3.2.2.2.2.2.2.2, m_terrace, m_holeFlag, m_coalTold, m_burns, m_walls, m_holeName)) else (Option.bind (fX9_needsBoth m_size m_tape y3.2.1 y3.2.2.1 y3.2.2.2.1 y3.2.2.2.2.1 y3.2.2.2.2.2.1 m_given y3.2.2.2.2.2.2.1 126880 0 9) fun y5 => (if y5.1 = 0 then (some (0, y5.2.1, y5.2.2.1, y5.2.2.2.1, y5.2.2.2.2.1, y5.2.2.2.2.2.1, y5.2.2.2.2.2.2.1, y5.2.2.2.2.2.2.2, y3.2.2.2.2.2.2.2, m_terrace, m_holeFlag, m_coalTold, m_burns, m_walls, m_holeName)) else (bif inb (5 + (m_terrace 4)) 10 then (Option.bind (fX9_needsBoth m_size m_tape y5.2.1 y5.2.2.1 y5.2.2.2.1 y5.2.2.2.2.1 y5.2.2.2.2.2.1 y5.2.2.2.2.2.2.1 y5.2.2.2.2.2.2.2 70023 0 60) fun y8 => (if y8.1 = 0 then (some (0, y8.2.1, y8.2.2.1, y8.2.2.2.1, y8.2.2.2.2.1, y8.2.2.2.2.2.1, y8.2.2.2.2.2.2.1, y8.2.2.2.2.2.2.2, y3.2.2.2.2.2.2.2, m_terrace, (upd m_holeFlag (Int32.toNatClampNeg (5 + (m_terrace 4))) y5.2.2.2.2.2.2.1), m_coalTold, m_burns, m_walls, m_holeName)) else (bif inb (5 + (m_terrace 4)) 10 then (Option.bind (fX9_needsBoth m_size m_tape y8.2.1 y8.2.2.1 y8.2.2.2.1 y8.2.2.2.2.1 y8.2.2.2.2.2.1 y8.2.2.2.2.2.2.1 y8.2.2.2.2.2.2.2 1489744 0 9) fun y11 => (if y11.1 = 0 then (some (0, y11.2.1, y11.2.2.1, y11.2.2.2.1, y11.2.2.2.2.1, y11.2.2.2.2.2.1, y11.2.2.2.2.2.2.1, y11.2.2.2.2.2.2.2, y3.2.2.2.2.2.2.2, m_terrace, (upd m_holeFlag (Int32.toNatClampNeg (5 + (m_terrace 4))) y5.2.2.2.2.2.2.1), (upd m_coalTold (Int32.toNatClampNeg (5 + (m_terrace 4))) y8.2.2.2.2.2.2.1), m_burns, m_walls, m_holeName)) else (bif inb (5 + (m_terrace 4)) 10 then (bif inb (5 + (m_terrace 4)) 10 then (bif inb (5 + (m_terrace 4)) 10 then (Option.bind (fX9_closes m_size m_tape y11.2.1 y11.2.2.1 y11.2.2.2.1 y11.2.2.2.2.1 y11.2.2.2.2.2.1 y11.2.2.2.2.2.2.2) fun y16 => (some ((vp_nar .boolean y16.1), y16.2.1, y16.2.2.1, y16.2.2.2.1, y16.2.2.2.2.1, y16.2.2.2.2.2.1, y11.2.2.2.2.2.2.1, y16.2.2.2.2.2.2, y3.2.2.2.2.2.2.2, (upd m_terrace 4 ((m_terrace 4) + 1)), (upd m_holeFlag (Int32.toNatClampNeg (5 + (m_terrace 4))) y5.2.2.2.2.2.2.1), (upd m_coalTold (Int32.toNatClampNeg (5 + (m_terrace 4))) y8.2.2.2.2.2.2.1), (upd m_burns (Int32.toNatClampNeg (5 + (m_terrace 4))) y11.2.2.2.2.2.2.1), (upd m_walls (Int32.toNatClampNeg (5 + (m_terrace 4))) 0), (vp_updL m_holeName (Int32.toNatClampNeg (5 + (m_terrace 4))) y3.2.2.2.2.2.2.2)))) else none) else none) else none))) else none))) else none))))))
set_option maxHeartbeats 4000000 in
set_option maxRecDepth 100000 in
theorem KX9_readsHole (l : Launch) (D : va_G) (cy : Nat → ClassId) (ad : Nat → Nat) (P : MP) (V : MV) (I : MI) (J : MJ) (A : MI) (B : MJ) {res : Int32 × Int32 × Int32 × Int32 × Int32 × Int32 × Int32 × Int64 × Int64 × (Nat → Int32) × (Nat → Int32) × (Nat → Int32) × (Nat → Int32) × (Nat → Int32) × (Nat → Int64)} (hf : fX9_readsHole (I 0 3) (A 1) (B 4) (I 0 4) (I 0 5) (I 0 6) (I 0 8) (I 0 9) (I 0 38) (J 0 7) (J 0 39) (A 2) (A 5) (A 6) (A 7) (A 8) (B 3) = some res) : CG l yX9_readsHole cX9_readsHole 2 (some .boolean) rmX9_readsHole D cy (dn cy LY_X9 ad P V I J A B) [.ref (ad 0)] (some (.int res.1)) (dn cy LY_X9 ad P V (gp I [(0, 4, res.2.1), (0, 5, res.2.2.1), (0, 6, res.2.2.2.1), (0, 8, res.2.2.2.2.1), (0, 9, res.2.2.2.2.2.1), (0, 38, res.2.2.2.2.2.2.1)]) (gp J [(0, 7, res.2.2.2.2.2.2.2.1), (0, 39, res.2.2.2.2.2.2.2.2.1)]) (gm A [(2, res.2.2.2.2.2.2.2.2.2.1), (5, res.2.2.2.2.2.2.2.2.2.2.1), (6, res.2.2.2.2.2.2.2.2.2.2.2.1), (7, res.2.2.2.2.2.2.2.2.2.2.2.2.1), (8, res.2.2.2.2.2.2.2.2.2.2.2.2.2.1)]) (gm B [(3, res.2.2.2.2.2.2.2.2.2.2.2.2.2.2)])) := by
  refine CG.of (own := RX9) (by decide) rfl rfl ?_
  intro p e s m below meth c ls Af C0 hK hN hA hW hl
  have hW : wd D (dn cy LY_X9 ad P V (gp I [(0, 4, (I 0 4)), (0, 5, (I 0 5)), (0, 6, (I 0 6)), (0, 8, (I 0 8)), (0, 9, (I 0 9)), (0, 38, (I 0 38))]) (gp J [(0, 7, (J 0 7)), (0, 39, (J 0 39))]) (gm A [(2, (A 2)), (5, (A 5)), (6, (A 6)), (7, (A 7)), (8, (A 8))]) (gm B [(3, (B 3))])) Af s.heap s.heap [] := wd_sel [(0, 4), (0, 5), (0, 6), (0, 8), (0, 9), (0, 38)] [(0, 7), (0, 39)] [2, 5, 6, 7, 8] [3] hW
  have hl : lv_has ls 2 [(0, .ref (ad 0))] := hl
  unfold fX9_readsHole at hf
  refine lv_iconst (v := 5) C0.1 C0.2.1 dX9_readsHole_0 kI_5 ?_
  refine lv_aload_n C0.1 C0.2.1 dX9_readsHole_1 rfl (lv_at hl 0 rfl) ?_
  refine s_get (v := .ref (ad 2)) C0 hK hW 0 10 LY_X9_0 rfl fg_X9_13 rfl dX9_readsHole_2 ?_
  refine lv_iconst (v := 4) C0.1 C0.2.1 dX9_readsHole_5 kI_4 ?_
  refine s_iald (v := ((A 2) 4)) C0 hK hW 2 LY_X9_2 rfl (congrArg _ tc_4) dX9_readsHole_6 ?_
  refine lv_iadd C0.1 C0.2.1 dX9_readsHole_7 ?_
  refine lv_istore_n (lv' := [(1, .int (5 + ((A 2) 4))), (0, .ref (ad 0))]) C0.1 C0.2.1 dX9_readsHole_8 rfl hl (by decide) rfl (fun ls hl => ?_)
  refine lv_iload_n C0.1 C0.2.1 dX9_readsHole_9 rfl (lv_at hl 0 rfl) ?_
  refine lv_bipush (v := 10) C0.1 C0.2.1 dX9_readsHole_10 kB_10 ?_
  refine lv_icmp_ne (tgt := 21) C0.1 C0.2.1 dX9_readsHole_12 (by decide) (fun hc1 => ?_) (fun hc1 => ?_)
  · have hf := ite_f hc1 hf
    refine lv_aload_n C0.1 C0.2.1 dX9_readsHole_21 rfl (lv_at hl 1 rfl) ?_
    obtain ⟨y2, hy2, hf⟩ := b_some hf
    refine c_Vv C0 hK hN hl.1 hW hA (KX9_nextToken l D cy  ad P V (gp I [(0, 4, (I 0 4)), (0, 5, (I 0 5)), (0, 6, (I 0 6)), (0, 8, (I 0 8)), (0, 9, (I 0 9)), (0, 38, (I 0 38))]) (gp J [(0, 7, (J 0 7)), (0, 39, (J 0 39))]) (gm A [(2, (A 2)), (5, (A 5)), (6, (A 6)), (7, (A 7)), (8, (A 8))]) (gm B [(3, (B 3))])  hy2) (JN_id rfl rfl rfl rfl) (Uw_V uw_1263 uw_1265 us_38 uw_14 uw_1266) rfl rfl hd_X9_nextToken ⟨rfl, rfl⟩ rfl (dn_some LY_X9_0) rfl rfl rfl dX9_readsHole_22 ⟨Nat.zero_le _, Nat.zero_le _⟩ (fun H locs hW => ?_)
    have hW : wd D (dn cy LY_X9 ad P V (gp I [(0, 4, y2.1), (0, 5, y2.2.1), (0, 6, y2.2.2.1), (0, 8, y2.2.2.2.1), (0, 9, (I 0 9)), (0, 38, (I 0 38))]) (gp J [(0, 7, y2.2.2.2.2), (0, 39, (J 0 39))]) (gm A [(2, (A 2)), (5, (A 5)), (6, (A 6)), (7, (A 7)), (8, (A 8))]) (gm B [(3, (B 3))])) Af s.heap H locs := hW
    refine lv_aload_n C0.1 C0.2.1 dX9_readsHole_25 rfl (lv_at hl 1 rfl) ?_
    obtain ⟨y3, hy3, hf⟩ := b_some hf
    refine c_Vi C0 hK hN hl.1 hW hA (KX9_needsNew l D cy  ad P V (gp I [(0, 4, y2.1), (0, 5, y2.2.1), (0, 6, y2.2.2.1), (0, 8, y2.2.2.2.1), (0, 9, (I 0 9)), (0, 38, (I 0 38))]) (gp J [(0, 7, y2.2.2.2.2), (0, 39, (J 0 39))]) (gm A [(2, (A 2)), (5, (A 5)), (6, (A 6)), (7, (A 7)), (8, (A 8))]) (gm B [(3, (B 3))])  hy3) (JN_id rfl rfl rfl rfl) (Uw_V uw_1286 uw_1288 us_43 uw_14 uw_1289) rfl rfl hd_X9_needsNew ⟨rfl, rfl⟩ rfl (dn_some LY_X9_0) rfl rfl rfl dX9_readsHole_26 ⟨Nat.zero_le _, Nat.zero_le _⟩ (fun H locs hW => ?_)
    have hW : wd D (dn cy LY_X9 ad P V (gp I [(0, 4, y3.2.1), (0, 5, y3.2.2.1), (0, 6, y3.2.2.2.1), (0, 8, y3.2.2.2.2.1), (0, 9, y3.2.2.2.2.2.1), (0, 38, (I 0 38))]) (gp J [(0, 7, y3.2.2.2.2.2.2.1), (0, 39, y3.2.2.2.2.2.2.2)]) (gm A [(2, (A 2)), (5, (A 5)), (6, (A 6)), (7, (A 7)), (8, (A 8))]) (gm B [(3, (B 3))])) Af s.heap H locs := hW
    refine lv_if_eq (tgt := 45) C0.1 C0.2.1 dX9_readsHole_29 (by decide) (fun hc4 => ?_) (fun hc4 => ?_)
    · have hf := ite_t hc4 hf
      refine lv_iconst (v := 0) C0.1 C0.2.1 dX9_readsHole_45 kI_0 ?_
      obtain rfl := Option.some.inj hf
      exact r_bool C0 hK hW (v' := 0) rfl dX9_readsHole_46
    · have hf := ite_f hc4 hf
      refine lv_aload_n C0.1 C0.2.1 dX9_readsHole_32 rfl (lv_at hl 1 rfl) ?_
      refine lv_ldc2 (v := 126880) C0.1 C0.2.1 C0.2.2.2.2.1 (C0.2.2.2.2.2.1 _ uw_1294) dX9_readsHole_33 ?_
      refine lv_iconst (v := 0) C0.1 C0.2.1 dX9_readsHole_36 kI_0 ?_
      refine lv_bipush (v := 9) C0.1 C0.2.1 dX9_readsHole_37 kB_9 ?_
      obtain ⟨y5, hy5, hf⟩ := b_some hf
      refine c_Vi C0 hK hN hl.1 hW hA (KX9_needsBoth l D cy  ad P V (gp I [(0, 4, y3.2.1), (0, 5, y3.2.2.1), (0, 6, y3.2.2.2.1), (0, 8, y3.2.2.2.2.1), (0, 9, y3.2.2.2.2.2.1), (0, 38, (I 0 38))]) (gp J [(0, 7, y3.2.2.2.2.2.2.1), (0, 39, y3.2.2.2.2.2.2.2)]) (gm A [(2, (A 2)), (5, (A 5)), (6, (A 6)), (7, (A 7)), (8, (A 8))]) (gm B [(3, (B 3))]) 126880 0 9 hy5) (JN_id rfl rfl rfl rfl) (Uw_V uw_1323 uw_1325 us_47 uw_14 uw_1326) rfl rfl hd_X9_needsBoth ⟨rfl, rfl⟩ rfl (dn_some LY_X9_0) rfl rfl rfl dX9_readsHole_39 ⟨Nat.zero_le _, Nat.zero_le _⟩ (fun H locs hW => ?_)
      have hW : wd D (dn cy LY_X9 ad P V (gp I [(0, 4, y5.2.1), (0, 5, y5.2.2.1), (0, 6, y5.2.2.2.1), (0, 8, y5.2.2.2.2.1), (0, 9, y5.2.2.2.2.2.1), (0, 38, y5.2.2.2.2.2.2.1)]) (gp J [(0, 7, y5.2.2.2.2.2.2.2), (0, 39, y3.2.2.2.2.2.2.2)]) (gm A [(2, (A 2)), (5, (A 5)), (6, (A 6)), (7, (A 7)), (8, (A 8))]) (gm B [(3, (B 3))])) Af s.heap H locs := hW
      refine lv_if_ne (tgt := 47) C0.1 C0.2.1 dX9_readsHole_42 (by decide) (fun hc6 => ?_) (fun hc6 => ?_)
      · have hf := ite_f hc6 hf
        refine lv_aload_n C0.1 C0.2.1 dX9_readsHole_47 rfl (lv_at hl 1 rfl) ?_
        refine s_get (v := .ref (ad 5)) C0 hK hW 0 13 LY_X9_0 rfl fg_X9_23 rfl dX9_readsHole_48 ?_
        refine lv_iload_n C0.1 C0.2.1 dX9_readsHole_51 rfl (lv_at hl 0 rfl) ?_
        refine lv_aload_n C0.1 C0.2.1 dX9_readsHole_52 rfl (lv_at hl 1 rfl) ?_
        refine s_get (v := .int y5.2.2.2.2.2.2.1) C0 hK hW 0 38 LY_X9_0 rfl fg_X9_270 rfl dX9_readsHole_53 ?_
        obtain ⟨hb7, hf⟩ := g_some hf
        refine s_iast (f := (upd (A 5) (Int32.toNatClampNeg (5 + ((A 2) 4))) y5.2.2.2.2.2.2.1)) C0 hK hW 5 LY_X9_5 hb7 rfl rfl dX9_readsHole_56 (fun H locs hW => ?_)
        have hW : wd D (dn cy LY_X9 ad P V (gp I [(0, 4, y5.2.1), (0, 5, y5.2.2.1), (0, 6, y5.2.2.2.1), (0, 8, y5.2.2.2.2.1), (0, 9, y5.2.2.2.2.2.1), (0, 38, y5.2.2.2.2.2.2.1)]) (gp J [(0, 7, y5.2.2.2.2.2.2.2), (0, 39, y3.2.2.2.2.2.2.2)]) (gm A [(2, (A 2)), (5, (upd (A 5) (Int32.toNatClampNeg (5 + ((A 2) 4))) y5.2.2.2.2.2.2.1)), (6, (A 6)), (7, (A 7)), (8, (A 8))]) (gm B [(3, (B 3))])) Af s.heap H locs := hW
        refine lv_aload_n C0.1 C0.2.1 dX9_readsHole_57 rfl (lv_at hl 1 rfl) ?_
        refine lv_ldc2 (v := 70023) C0.1 C0.2.1 C0.2.2.2.2.1 (C0.2.2.2.2.2.1 _ uw_1295) dX9_readsHole_58 ?_
        refine lv_iconst (v := 0) C0.1 C0.2.1 dX9_readsHole_61 kI_0 ?_
        refine lv_bipush (v := 60) C0.1 C0.2.1 dX9_readsHole_62 kB_60 ?_
        obtain ⟨y8, hy8, hf⟩ := b_some hf
        refine c_Vi C0 hK hN hl.1 hW hA (KX9_needsBoth l D cy  ad P V (gp I [(0, 4, y5.2.1), (0, 5, y5.2.2.1), (0, 6, y5.2.2.2.1), (0, 8, y5.2.2.2.2.1), (0, 9, y5.2.2.2.2.2.1), (0, 38, y5.2.2.2.2.2.2.1)]) (gp J [(0, 7, y5.2.2.2.2.2.2.2), (0, 39, y3.2.2.2.2.2.2.2)]) (gm A [(2, (A 2)), (5, (upd (A 5) (Int32.toNatClampNeg (5 + ((A 2) 4))) y5.2.2.2.2.2.2.1)), (6, (A 6)), (7, (A 7)), (8, (A 8))]) (gm B [(3, (B 3))]) 70023 0 60 hy8) (JN_id rfl rfl rfl rfl) (Uw_V uw_1323 uw_1325 us_47 uw_14 uw_1326) rfl rfl hd_X9_needsBoth ⟨rfl, rfl⟩ rfl (dn_some LY_X9_0) rfl rfl rfl dX9_readsHole_64 ⟨Nat.zero_le _, Nat.zero_le _⟩ (fun H locs hW => ?_)
        have hW : wd D (dn cy LY_X9 ad P V (gp I [(0, 4, y8.2.1), (0, 5, y8.2.2.1), (0, 6, y8.2.2.2.1), (0, 8, y8.2.2.2.2.1), (0, 9, y8.2.2.2.2.2.1), (0, 38, y8.2.2.2.2.2.2.1)]) (gp J [(0, 7, y8.2.2.2.2.2.2.2), (0, 39, y3.2.2.2.2.2.2.2)]) (gm A [(2, (A 2)), (5, (upd (A 5) (Int32.toNatClampNeg (5 + ((A 2) 4))) y5.2.2.2.2.2.2.1)), (6, (A 6)), (7, (A 7)), (8, (A 8))]) (gm B [(3, (B 3))])) Af s.heap H locs := hW
        refine lv_if_ne (tgt := 72) C0.1 C0.2.1 dX9_readsHole_67 (by decide) (fun hc9 => ?_) (fun hc9 => ?_)
        · have hf := ite_f hc9 hf
          refine lv_aload_n C0.1 C0.2.1 dX9_readsHole_72 rfl (lv_at hl 1 rfl) ?_
          refine s_get (v := .ref (ad 6)) C0 hK hW 0 14 LY_X9_0 rfl fg_X9_26 rfl dX9_readsHole_73 ?_
          refine lv_iload_n C0.1 C0.2.1 dX9_readsHole_76 rfl (lv_at hl 0 rfl) ?_
          refine lv_aload_n C0.1 C0.2.1 dX9_readsHole_77 rfl (lv_at hl 1 rfl) ?_
          refine s_get (v := .int y8.2.2.2.2.2.2.1) C0 hK hW 0 38 LY_X9_0 rfl fg_X9_270 rfl dX9_readsHole_78 ?_
          obtain ⟨hb10, hf⟩ := g_some hf
          refine s_iast (f := (upd (A 6) (Int32.toNatClampNeg (5 + ((A 2) 4))) y8.2.2.2.2.2.2.1)) C0 hK hW 6 LY_X9_6 hb10 rfl rfl dX9_readsHole_81 (fun H locs hW => ?_)
          have hW : wd D (dn cy LY_X9 ad P V (gp I [(0, 4, y8.2.1), (0, 5, y8.2.2.1), (0, 6, y8.2.2.2.1), (0, 8, y8.2.2.2.2.1), (0, 9, y8.2.2.2.2.2.1), (0, 38, y8.2.2.2.2.2.2.1)]) (gp J [(0, 7, y8.2.2.2.2.2.2.2), (0, 39, y3.2.2.2.2.2.2.2)]) (gm A [(2, (A 2)), (5, (upd (A 5) (Int32.toNatClampNeg (5 + ((A 2) 4))) y5.2.2.2.2.2.2.1)), (6, (upd (A 6) (Int32.toNatClampNeg (5 + ((A 2) 4))) y8.2.2.2.2.2.2.1)), (7, (A 7)), (8, (A 8))]) (gm B [(3, (B 3))])) Af s.heap H locs := hW
          refine lv_aload_n C0.1 C0.2.1 dX9_readsHole_82 rfl (lv_at hl 1 rfl) ?_
          refine lv_ldc2 (v := 1489744) C0.1 C0.2.1 C0.2.2.2.2.1 (C0.2.2.2.2.2.1 _ uw_1296) dX9_readsHole_83 ?_
          refine lv_iconst (v := 0) C0.1 C0.2.1 dX9_readsHole_86 kI_0 ?_
          refine lv_bipush (v := 9) C0.1 C0.2.1 dX9_readsHole_87 kB_9 ?_
          obtain ⟨y11, hy11, hf⟩ := b_some hf
          refine c_Vi C0 hK hN hl.1 hW hA (KX9_needsBoth l D cy  ad P V (gp I [(0, 4, y8.2.1), (0, 5, y8.2.2.1), (0, 6, y8.2.2.2.1), (0, 8, y8.2.2.2.2.1), (0, 9, y8.2.2.2.2.2.1), (0, 38, y8.2.2.2.2.2.2.1)]) (gp J [(0, 7, y8.2.2.2.2.2.2.2), (0, 39, y3.2.2.2.2.2.2.2)]) (gm A [(2, (A 2)), (5, (upd (A 5) (Int32.toNatClampNeg (5 + ((A 2) 4))) y5.2.2.2.2.2.2.1)), (6, (upd (A 6) (Int32.toNatClampNeg (5 + ((A 2) 4))) y8.2.2.2.2.2.2.1)), (7, (A 7)), (8, (A 8))]) (gm B [(3, (B 3))]) 1489744 0 9 hy11) (JN_id rfl rfl rfl rfl) (Uw_V uw_1323 uw_1325 us_47 uw_14 uw_1326) rfl rfl hd_X9_needsBoth ⟨rfl, rfl⟩ rfl (dn_some LY_X9_0) rfl rfl rfl dX9_readsHole_89 ⟨Nat.zero_le _, Nat.zero_le _⟩ (fun H locs hW => ?_)
          have hW : wd D (dn cy LY_X9 ad P V (gp I [(0, 4, y11.2.1), (0, 5, y11.2.2.1), (0, 6, y11.2.2.2.1), (0, 8, y11.2.2.2.2.1), (0, 9, y11.2.2.2.2.2.1), (0, 38, y11.2.2.2.2.2.2.1)]) (gp J [(0, 7, y11.2.2.2.2.2.2.2), (0, 39, y3.2.2.2.2.2.2.2)]) (gm A [(2, (A 2)), (5, (upd (A 5) (Int32.toNatClampNeg (5 + ((A 2) 4))) y5.2.2.2.2.2.2.1)), (6, (upd (A 6) (Int32.toNatClampNeg (5 + ((A 2) 4))) y8.2.2.2.2.2.2.1)), (7, (A 7)), (8, (A 8))]) (gm B [(3, (B 3))])) Af s.heap H locs := hW
          refine lv_if_ne (tgt := 97) C0.1 C0.2.1 dX9_readsHole_92 (by decide) (fun hc12 => ?_) (fun hc12 => ?_)
          · have hf := ite_f hc12 hf
            refine lv_aload_n C0.1 C0.2.1 dX9_readsHole_97 rfl (lv_at hl 1 rfl) ?_
            refine s_get (v := .ref (ad 7)) C0 hK hW 0 15 LY_X9_0 rfl fg_X9_29 rfl dX9_readsHole_98 ?_
            refine lv_iload_n C0.1 C0.2.1 dX9_readsHole_101 rfl (lv_at hl 0 rfl) ?_
            refine lv_aload_n C0.1 C0.2.1 dX9_readsHole_102 rfl (lv_at hl 1 rfl) ?_
            refine s_get (v := .int y11.2.2.2.2.2.2.1) C0 hK hW 0 38 LY_X9_0 rfl fg_X9_270 rfl dX9_readsHole_103 ?_
            obtain ⟨hb13, hf⟩ := g_some hf
            refine s_iast (f := (upd (A 7) (Int32.toNatClampNeg (5 + ((A 2) 4))) y11.2.2.2.2.2.2.1)) C0 hK hW 7 LY_X9_7 hb13 rfl rfl dX9_readsHole_106 (fun H locs hW => ?_)
            have hW : wd D (dn cy LY_X9 ad P V (gp I [(0, 4, y11.2.1), (0, 5, y11.2.2.1), (0, 6, y11.2.2.2.1), (0, 8, y11.2.2.2.2.1), (0, 9, y11.2.2.2.2.2.1), (0, 38, y11.2.2.2.2.2.2.1)]) (gp J [(0, 7, y11.2.2.2.2.2.2.2), (0, 39, y3.2.2.2.2.2.2.2)]) (gm A [(2, (A 2)), (5, (upd (A 5) (Int32.toNatClampNeg (5 + ((A 2) 4))) y5.2.2.2.2.2.2.1)), (6, (upd (A 6) (Int32.toNatClampNeg (5 + ((A 2) 4))) y8.2.2.2.2.2.2.1)), (7, (upd (A 7) (Int32.toNatClampNeg (5 + ((A 2) 4))) y11.2.2.2.2.2.2.1)), (8, (A 8))]) (gm B [(3, (B 3))])) Af s.heap H locs := hW
            refine lv_aload_n C0.1 C0.2.1 dX9_readsHole_107 rfl (lv_at hl 1 rfl) ?_
            refine s_get (v := .ref (ad 8)) C0 hK hW 0 16 LY_X9_0 rfl fg_X9_32 rfl dX9_readsHole_108 ?_
            refine lv_iload_n C0.1 C0.2.1 dX9_readsHole_111 rfl (lv_at hl 0 rfl) ?_
            refine lv_iconst (v := 0) C0.1 C0.2.1 dX9_readsHole_112 kI_0 ?_
            obtain ⟨hb14, hf⟩ := g_some hf
            refine s_iast (f := (upd (A 8) (Int32.toNatClampNeg (5 + ((A 2) 4))) 0)) C0 hK hW 8 LY_X9_8 hb14 rfl rfl dX9_readsHole_113 (fun H locs hW => ?_)
            have hW : wd D (dn cy LY_X9 ad P V (gp I [(0, 4, y11.2.1), (0, 5, y11.2.2.1), (0, 6, y11.2.2.2.1), (0, 8, y11.2.2.2.2.1), (0, 9, y11.2.2.2.2.2.1), (0, 38, y11.2.2.2.2.2.2.1)]) (gp J [(0, 7, y11.2.2.2.2.2.2.2), (0, 39, y3.2.2.2.2.2.2.2)]) (gm A [(2, (A 2)), (5, (upd (A 5) (Int32.toNatClampNeg (5 + ((A 2) 4))) y5.2.2.2.2.2.2.1)), (6, (upd (A 6) (Int32.toNatClampNeg (5 + ((A 2) 4))) y8.2.2.2.2.2.2.1)), (7, (upd (A 7) (Int32.toNatClampNeg (5 + ((A 2) 4))) y11.2.2.2.2.2.2.1)), (8, (upd (A 8) (Int32.toNatClampNeg (5 + ((A 2) 4))) 0))]) (gm B [(3, (B 3))])) Af s.heap H locs := hW
            refine lv_aload_n C0.1 C0.2.1 dX9_readsHole_114 rfl (lv_at hl 1 rfl) ?_
            refine s_get (v := .ref (ad 3)) C0 hK hW 0 11 LY_X9_0 rfl fg_X9_16 rfl dX9_readsHole_115 ?_
            refine lv_iload_n C0.1 C0.2.1 dX9_readsHole_118 rfl (lv_at hl 0 rfl) ?_
            refine lv_aload_n C0.1 C0.2.1 dX9_readsHole_119 rfl (lv_at hl 1 rfl) ?_
            refine s_get (v := .long y3.2.2.2.2.2.2.2) C0 hK hW 0 39 LY_X9_0 rfl fg_X9_287 rfl dX9_readsHole_120 ?_
            obtain ⟨hb15, hf⟩ := g_some hf
            refine s_last (f := (vp_updL (B 3) (Int32.toNatClampNeg (5 + ((A 2) 4))) y3.2.2.2.2.2.2.2)) C0 hK hW 3 LY_X9_3 hb15 rfl rfl dX9_readsHole_123 (fun H locs hW => ?_)
            have hW : wd D (dn cy LY_X9 ad P V (gp I [(0, 4, y11.2.1), (0, 5, y11.2.2.1), (0, 6, y11.2.2.2.1), (0, 8, y11.2.2.2.2.1), (0, 9, y11.2.2.2.2.2.1), (0, 38, y11.2.2.2.2.2.2.1)]) (gp J [(0, 7, y11.2.2.2.2.2.2.2), (0, 39, y3.2.2.2.2.2.2.2)]) (gm A [(2, (A 2)), (5, (upd (A 5) (Int32.toNatClampNeg (5 + ((A 2) 4))) y5.2.2.2.2.2.2.1)), (6, (upd (A 6) (Int32.toNatClampNeg (5 + ((A 2) 4))) y8.2.2.2.2.2.2.1)), (7, (upd (A 7) (Int32.toNatClampNeg (5 + ((A 2) 4))) y11.2.2.2.2.2.2.1)), (8, (upd (A 8) (Int32.toNatClampNeg (5 + ((A 2) 4))) 0))]) (gm B [(3, (vp_updL (B 3) (Int32.toNatClampNeg (5 + ((A 2) 4))) y3.2.2.2.2.2.2.2))])) Af s.heap H locs := hW
            refine lv_aload_n C0.1 C0.2.1 dX9_readsHole_124 rfl (lv_at hl 1 rfl) ?_
            refine s_get (v := .ref (ad 2)) C0 hK hW 0 10 LY_X9_0 rfl fg_X9_13 rfl dX9_readsHole_125 ?_
            refine lv_iconst (v := 4) C0.1 C0.2.1 dX9_readsHole_128 kI_4 ?_
            refine lv_dup2_11 C0.1 C0.2.1 dX9_readsHole_129 rfl rfl ?_
            refine s_iald (v := ((A 2) 4)) C0 hK hW 2 LY_X9_2 rfl (congrArg _ tc_4) dX9_readsHole_130 ?_
            refine lv_iconst (v := 1) C0.1 C0.2.1 dX9_readsHole_131 kI_1 ?_
            refine lv_iadd C0.1 C0.2.1 dX9_readsHole_132 ?_
            refine s_iast (f := (upd (A 2) 4 (((A 2) 4) + 1))) C0 hK hW 2 LY_X9_2 rfl rfl (congrArg (fun z => upd _ z _) tc_4) dX9_readsHole_133 (fun H locs hW => ?_)
            have hW : wd D (dn cy LY_X9 ad P V (gp I [(0, 4, y11.2.1), (0, 5, y11.2.2.1), (0, 6, y11.2.2.2.1), (0, 8, y11.2.2.2.2.1), (0, 9, y11.2.2.2.2.2.1), (0, 38, y11.2.2.2.2.2.2.1)]) (gp J [(0, 7, y11.2.2.2.2.2.2.2), (0, 39, y3.2.2.2.2.2.2.2)]) (gm A [(2, (upd (A 2) 4 (((A 2) 4) + 1))), (5, (upd (A 5) (Int32.toNatClampNeg (5 + ((A 2) 4))) y5.2.2.2.2.2.2.1)), (6, (upd (A 6) (Int32.toNatClampNeg (5 + ((A 2) 4))) y8.2.2.2.2.2.2.1)), (7, (upd (A 7) (Int32.toNatClampNeg (5 + ((A 2) 4))) y11.2.2.2.2.2.2.1)), (8, (upd (A 8) (Int32.toNatClampNeg (5 + ((A 2) 4))) 0))]) (gm B [(3, (vp_updL (B 3) (Int32.toNatClampNeg (5 + ((A 2) 4))) y3.2.2.2.2.2.2.2))])) Af s.heap H locs := hW
            refine lv_aload_n C0.1 C0.2.1 dX9_readsHole_134 rfl (lv_at hl 1 rfl) ?_
            obtain ⟨y16, hy16, hf⟩ := b_some hf
            refine c_Vi C0 hK hN hl.1 hW hA (KX9_closes l D cy  ad P V (gp I [(0, 4, y11.2.1), (0, 5, y11.2.2.1), (0, 6, y11.2.2.2.1), (0, 8, y11.2.2.2.2.1), (0, 9, y11.2.2.2.2.2.1), (0, 38, y11.2.2.2.2.2.2.1)]) (gp J [(0, 7, y11.2.2.2.2.2.2.2), (0, 39, y3.2.2.2.2.2.2.2)]) (gm A [(2, (upd (A 2) 4 (((A 2) 4) + 1))), (5, (upd (A 5) (Int32.toNatClampNeg (5 + ((A 2) 4))) y5.2.2.2.2.2.2.1)), (6, (upd (A 6) (Int32.toNatClampNeg (5 + ((A 2) 4))) y8.2.2.2.2.2.2.1)), (7, (upd (A 7) (Int32.toNatClampNeg (5 + ((A 2) 4))) y11.2.2.2.2.2.2.1)), (8, (upd (A 8) (Int32.toNatClampNeg (5 + ((A 2) 4))) 0))]) (gm B [(3, (vp_updL (B 3) (Int32.toNatClampNeg (5 + ((A 2) 4))) y3.2.2.2.2.2.2.2))])  hy16) (JN_id rfl rfl rfl rfl) (Uw_V uw_1334 uw_1336 us_49 uw_14 uw_1337) rfl rfl hd_X9_closes ⟨rfl, rfl⟩ rfl (dn_some LY_X9_0) rfl rfl rfl dX9_readsHole_135 ⟨Nat.zero_le _, Nat.zero_le _⟩ (fun H locs hW => ?_)
            have hW : wd D (dn cy LY_X9 ad P V (gp I [(0, 4, y16.2.1), (0, 5, y16.2.2.1), (0, 6, y16.2.2.2.1), (0, 8, y16.2.2.2.2.1), (0, 9, y16.2.2.2.2.2.1), (0, 38, y11.2.2.2.2.2.2.1)]) (gp J [(0, 7, y16.2.2.2.2.2.2), (0, 39, y3.2.2.2.2.2.2.2)]) (gm A [(2, (upd (A 2) 4 (((A 2) 4) + 1))), (5, (upd (A 5) (Int32.toNatClampNeg (5 + ((A 2) 4))) y5.2.2.2.2.2.2.1)), (6, (upd (A 6) (Int32.toNatClampNeg (5 + ((A 2) 4))) y8.2.2.2.2.2.2.1)), (7, (upd (A 7) (Int32.toNatClampNeg (5 + ((A 2) 4))) y11.2.2.2.2.2.2.1)), (8, (upd (A 8) (Int32.toNatClampNeg (5 + ((A 2) 4))) 0))]) (gm B [(3, (vp_updL (B 3) (Int32.toNatClampNeg (5 + ((A 2) 4))) y3.2.2.2.2.2.2.2))])) Af s.heap H locs := hW
            obtain rfl := Option.some.inj hf
            exact r_bool C0 hK hW (v' := (vp_nar .boolean y16.1)) rfl dX9_readsHole_138
          · have hf := ite_t hc12 hf
            refine lv_iconst (v := 0) C0.1 C0.2.1 dX9_readsHole_95 kI_0 ?_
            obtain rfl := Option.some.inj hf
            exact r_bool C0 hK hW (v' := 0) rfl dX9_readsHole_96
        · have hf := ite_t hc9 hf
          refine lv_iconst (v := 0) C0.1 C0.2.1 dX9_readsHole_70 kI_0 ?_
          obtain rfl := Option.some.inj hf
          exact r_bool C0 hK hW (v' := 0) rfl dX9_readsHole_71
      · have hf := ite_t hc6 hf
        refine lv_iconst (v := 0) C0.1 C0.2.1 dX9_readsHole_45 kI_0 ?_
        obtain rfl := Option.some.inj hf
        exact r_bool C0 hK hW (v' := 0) rfl dX9_readsHole_46
  · have hf := ite_t hc1 hf
    refine lv_aload_n C0.1 C0.2.1 dX9_readsHole_15 rfl (lv_at hl 1 rfl) ?_
    refine lv_iconst (v := 5) C0.1 C0.2.1 dX9_readsHole_16 kI_5 ?_
    obtain ⟨y17, hy17, hf⟩ := b_some hf
    refine c_Vi C0 hK hN hl.1 hW hA (KX9_fails l D cy  ad P V (gp I [(0, 4, (I 0 4)), (0, 5, (I 0 5)), (0, 6, (I 0 6)), (0, 8, (I 0 8)), (0, 9, (I 0 9)), (0, 38, (I 0 38))]) (gp J [(0, 7, (J 0 7)), (0, 39, (J 0 39))]) (gm A [(2, (A 2)), (5, (A 5)), (6, (A 6)), (7, (A 7)), (8, (A 8))]) (gm B [(3, (B 3))]) 5 hy17) (JN_id rfl rfl rfl rfl) (Uw_V uw_1282 uw_1284 us_42 uw_14 uw_1285) rfl rfl hd_X9_fails ⟨rfl, rfl⟩ rfl (dn_some LY_X9_0) rfl rfl rfl dX9_readsHole_17 ⟨Nat.zero_le _, Nat.zero_le _⟩ (fun H locs hW => ?_)
    have hW : wd D (dn cy LY_X9 ad P V (gp I [(0, 4, (I 0 4)), (0, 5, (I 0 5)), (0, 6, (I 0 6)), (0, 8, (I 0 8)), (0, 9, y17.2), (0, 38, (I 0 38))]) (gp J [(0, 7, (J 0 7)), (0, 39, (J 0 39))]) (gm A [(2, (A 2)), (5, (A 5)), (6, (A 6)), (7, (A 7)), (8, (A 8))]) (gm B [(3, (B 3))])) Af s.heap H locs := hW
    obtain rfl := Option.some.inj hf
    exact r_bool C0 hK hW (v' := (vp_nar .boolean y17.1)) rfl dX9_readsHole_20
-- X9_readsWall
def rmX9_readsWall : Room := { frames := 4, cells := 0, slots := 0, locals := 83 }
def SX9_readsWall_60 (p : Program) (l : Launch) (e : Env) (s : State) (m : MethodId) (args : Array Value) (below : List Frame) (meth : Method) (c : Code) (D : va_G) (cy : Nat → ClassId) (ad : Nat → Nat) (P : MP) (V : MV) (I : MI) (J : MJ) (A : MI) (B : MJ) (Af : Nat → Prop) (res : Int32 × Int32 × Int32 × Int32 × Int32 × Int32 × Int32 × Int64 × (Nat → Int32)) (k : Int32 → Int32 → Int32 → Int32 → Int32 → Int32 → Int64 → (Nat → Int32) → Option (Int32 × Int32 × Int32 × Int32 × Int32 × Int32 × Int32 × Int64 × (Nat → Int32))) : Prop := ∀ (m_place : Int32) (m_begin : Int32) (m_token : Int32) (m_told : Int32) (m_wrong : Int32) (m_given : Int32) (m_word : Int64) (m_walls : (Nat → Int32)) (H : Heap) (locs : List Loc) (ls : Array Slot), wd D (dn cy LY_X9 ad P V (gp I [(0, 4, m_place), (0, 5, m_begin), (0, 6, m_token), (0, 8, m_told), (0, 9, m_wrong), (0, 38, m_given)]) (gp J [(0, 7, m_word)]) (gm A [(8, m_walls)]) (gm B [])) Af s.heap H locs → lv_has ls 2 [(0, .ref (ad 0))] → k m_place m_begin m_token m_told m_wrong m_given m_word m_walls = some res → W p l e rmX9_readsWall s m args below meth c H locs 0 0 (ZQ below D cy (dn cy LY_X9 ad P V (gp I [(0, 4, res.2.1), (0, 5, res.2.2.1), (0, 6, res.2.2.2.1), (0, 8, res.2.2.2.2.1), (0, 9, res.2.2.2.2.2.1), (0, 38, res.2.2.2.2.2.2.1)]) (gp J [(0, 7, res.2.2.2.2.2.2.2.1)]) (gm A [(8, res.2.2.2.2.2.2.2.2)]) (gm B [])) (some (.int res.1)) Af args s) (F0 m 60 ls [])
def fX9_readsWall_60 (m_size : Int32) (m_tape : (Nat → Int32)) (m_terrace : (Nat → Int32)) (m_holeName : (Nat → Int64)) (m_place : Int32) (m_begin : Int32) (m_token : Int32) (m_told : Int32) (m_wrong : Int32) (m_given : Int32) (m_word : Int64) (m_walls : (Nat → Int32)) : Option (Int32 × Int32 × Int32 × Int32 × Int32 × Int32 × Int32 × Int64 × (Nat → Int32)) := Option.bind (fX9_fails m_begin m_wrong 3) fun y1 => (some ((vp_nar .boolean y1.1), m_place, m_begin, m_token, m_told, y1.2, m_given, m_word, m_walls))
set_option maxHeartbeats 4000000 in
set_option maxRecDepth 100000 in
theorem tX9_readsWall_60 {p : Program} {l : Launch} {e : Env} {s : State} {m : MethodId} {args : Array Value} {below : List Frame} {meth : Method} {c : Code} {D : va_G} {cy : Nat → ClassId} {ad : Nat → Nat} {P : MP} {V : MV} {I : MI} {J : MJ} {A : MI} {B : MJ} {Af : Nat → Prop} {res : Int32 × Int32 × Int32 × Int32 × Int32 × Int32 × Int32 × Int64 × (Nat → Int32)} (C0 : CX p s m args meth c cX9_readsWall 2 (some .boolean) RX9) (hK : va_K D vwCl (tyG cy) s) (hN : NWs s) (hA : ∀ q, s.heap.size ≤ q → Af q) : SX9_readsWall_60 p l e s m args below meth c D cy ad P V I J A B Af res (fX9_readsWall_60 (I 0 3) (A 1) (A 2) (B 3)) := by
  intro m_place m_begin m_token m_told m_wrong m_given m_word m_walls H locs ls hW hl hf
  unfold fX9_readsWall_60 at hf
  refine lv_aload_n C0.1 C0.2.1 dX9_readsWall_60 rfl (lv_at hl 0 rfl) ?_
  refine lv_iconst (v := 3) C0.1 C0.2.1 dX9_readsWall_61 kI_3 ?_
  obtain ⟨y1, hy1, hf⟩ := b_some hf
  refine c_Vi C0 hK hN hl.1 hW hA (KX9_fails l D cy  ad P V (gp I [(0, 4, m_place), (0, 5, m_begin), (0, 6, m_token), (0, 8, m_told), (0, 9, m_wrong), (0, 38, m_given)]) (gp J [(0, 7, m_word)]) (gm A [(8, m_walls)]) (gm B []) 3 hy1) (JN_id rfl rfl rfl rfl) (Uw_V uw_1282 uw_1284 us_42 uw_14 uw_1285) rfl rfl hd_X9_fails ⟨rfl, rfl⟩ rfl (dn_some LY_X9_0) rfl rfl rfl dX9_readsWall_62 ⟨Nat.zero_le _, Nat.zero_le _⟩ (fun H locs hW => ?_)
  have hW : wd D (dn cy LY_X9 ad P V (gp I [(0, 4, m_place), (0, 5, m_begin), (0, 6, m_token), (0, 8, m_told), (0, 9, y1.2), (0, 38, m_given)]) (gp J [(0, 7, m_word)]) (gm A [(8, m_walls)]) (gm B [])) Af s.heap H locs := hW
  obtain rfl := Option.some.inj hf
  exact r_bool C0 hK hW (v' := (vp_nar .boolean y1.1)) rfl dX9_readsWall_65
def fX9_readsWall (m_size : Int32) (m_tape : (Nat → Int32)) (m_terrace : (Nat → Int32)) (m_holeName : (Nat → Int64)) (m_place : Int32) (m_begin : Int32) (m_token : Int32) (m_told : Int32) (m_wrong : Int32) (m_given : Int32) (m_word : Int64) (m_walls : (Nat → Int32)) : Option (Int32 × Int32 × Int32 × Int32 × Int32 × Int32 × Int32 × Int64 × (Nat → Int32)) := Option.bind (fX9_nextToken m_size m_tape m_place m_begin m_token m_told m_word) fun y1 => (Option.bind (fX9_needsHole y1.2.1 y1.2.2.1 y1.2.2.2.2 m_terrace m_holeName m_wrong m_given 1) fun y2 => (if y2.1 = 0 then (some (0, y1.1, y1.2.1, y1.2.2.1, y1.2.2.2.1, y2.2.1, y2.2.2, y1.2.2.2.2, m_walls)) else (Option.bind (fX9_nextToken m_size m_tape y1.1 y1.2.1 y1.2.2.1 y1.2.2.2.1 y1.2.2.2.2) fun y4 => (Option.bind (fX9_needsHole y4.2.1 y4.2.2.1 y4.2.2.2.2 m_terrace m_holeName y2.2.1 y2.2.2 1) fun y5 => (if y5.1 = 0 then (some (0, y4.1, y4.2.1, y4.2.2.1, y4.2.2.2.1, y5.2.1, y5.2.2, y4.2.2.2.2, m_walls)) else (if y5.2.2 = y2.2.2 then (fX9_readsWall_60 m_size m_tape m_terrace m_holeName y4.1 y4.2.1 y4.2.2.1 y4.2.2.2.1 y5.2.1 y5.2.2 y4.2.2.2.2 m_walls) else (bif inb (5 + y2.2.2) 10 then (if (((m_walls (Int32.toNatClampNeg (5 + y2.2.2))) >>> (y5.2.2 &&& 31)) &&& 1) = 1 then (fX9_readsWall_60 m_size m_tape m_terrace m_holeName y4.1 y4.2.1 y4.2.2.1 y4.2.2.2.1 y5.2.1 y5.2.2 y4.2.2.2.2 m_walls) else (bif inb (5 + y2.2.2) 10 then (bif inb (5 + y2.2.2) 10 then (bif inb (5 + y5.2.2) 10 then (bif inb (5 + y5.2.2) 10 then (Option.bind (fX9_nextToken m_size m_tape y4.1 y4.2.1 y4.2.2.1 y4.2.2.2.1 y4.2.2.2.2) fun y14 => (Option.bind (fX9_closes m_size m_tape y14.1 y14.2.1 y14.2.2.1 y14.2.2.2.1 y5.2.1 y14.2.2.2.2) fun y15 => (some ((vp_nar .boolean y15.1), y15.2.1, y15.2.2.1, y15.2.2.2.1, y15.2.2.2.2.1, y15.2.2.2.2.2.1, y5.2.2, y15.2.2.2.2.2.2, (upd (upd m_walls (Int32.toNatClampNeg (5 + y2.2.2)) ((m_walls (Int32.toNatClampNeg (5 + y2.2.2))) ||| (1 <<< (y5.2.2 &&& 31)))) (Int32.toNatClampNeg (5 + y5.2.2)) (((upd m_walls (Int32.toNatClampNeg (5 + y2.2.2)) ((m_walls (Int32.toNatClampNeg (5 + y2.2.2))) ||| (1 <<< (y5.2.2 &&& 31)))) (Int32.toNatClampNeg (5 + y5.2.2))) ||| (1 <<< (y2.2.2 &&& 31)))))))) else none) else none) else none) else none)) else none)))))))
set_option maxHeartbeats 4000000 in
set_option maxRecDepth 100000 in
theorem KX9_readsWall (l : Launch) (D : va_G) (cy : Nat → ClassId) (ad : Nat → Nat) (P : MP) (V : MV) (I : MI) (J : MJ) (A : MI) (B : MJ) {res : Int32 × Int32 × Int32 × Int32 × Int32 × Int32 × Int32 × Int64 × (Nat → Int32)} (hf : fX9_readsWall (I 0 3) (A 1) (A 2) (B 3) (I 0 4) (I 0 5) (I 0 6) (I 0 8) (I 0 9) (I 0 38) (J 0 7) (A 8) = some res) : CG l yX9_readsWall cX9_readsWall 2 (some .boolean) rmX9_readsWall D cy (dn cy LY_X9 ad P V I J A B) [.ref (ad 0)] (some (.int res.1)) (dn cy LY_X9 ad P V (gp I [(0, 4, res.2.1), (0, 5, res.2.2.1), (0, 6, res.2.2.2.1), (0, 8, res.2.2.2.2.1), (0, 9, res.2.2.2.2.2.1), (0, 38, res.2.2.2.2.2.2.1)]) (gp J [(0, 7, res.2.2.2.2.2.2.2.1)]) (gm A [(8, res.2.2.2.2.2.2.2.2)]) (gm B [])) := by
  refine CG.of (own := RX9) (by decide) rfl rfl ?_
  intro p e s m below meth c ls Af C0 hK hN hA hW hl
  have hW : wd D (dn cy LY_X9 ad P V (gp I [(0, 4, (I 0 4)), (0, 5, (I 0 5)), (0, 6, (I 0 6)), (0, 8, (I 0 8)), (0, 9, (I 0 9)), (0, 38, (I 0 38))]) (gp J [(0, 7, (J 0 7))]) (gm A [(8, (A 8))]) (gm B [])) Af s.heap s.heap [] := wd_sel [(0, 4), (0, 5), (0, 6), (0, 8), (0, 9), (0, 38)] [(0, 7)] [8] [] hW
  have hl : lv_has ls 2 [(0, .ref (ad 0))] := hl
  unfold fX9_readsWall at hf
  refine lv_aload_n C0.1 C0.2.1 dX9_readsWall_0 rfl (lv_at hl 0 rfl) ?_
  obtain ⟨y1, hy1, hf⟩ := b_some hf
  refine c_Vv C0 hK hN hl.1 hW hA (KX9_nextToken l D cy  ad P V (gp I [(0, 4, (I 0 4)), (0, 5, (I 0 5)), (0, 6, (I 0 6)), (0, 8, (I 0 8)), (0, 9, (I 0 9)), (0, 38, (I 0 38))]) (gp J [(0, 7, (J 0 7))]) (gm A [(8, (A 8))]) (gm B [])  hy1) (JN_id rfl rfl rfl rfl) (Uw_V uw_1263 uw_1265 us_38 uw_14 uw_1266) rfl rfl hd_X9_nextToken ⟨rfl, rfl⟩ rfl (dn_some LY_X9_0) rfl rfl rfl dX9_readsWall_1 ⟨Nat.zero_le _, Nat.zero_le _⟩ (fun H locs hW => ?_)
  have hW : wd D (dn cy LY_X9 ad P V (gp I [(0, 4, y1.1), (0, 5, y1.2.1), (0, 6, y1.2.2.1), (0, 8, y1.2.2.2.1), (0, 9, (I 0 9)), (0, 38, (I 0 38))]) (gp J [(0, 7, y1.2.2.2.2)]) (gm A [(8, (A 8))]) (gm B [])) Af s.heap H locs := hW
  refine lv_aload_n C0.1 C0.2.1 dX9_readsWall_4 rfl (lv_at hl 0 rfl) ?_
  refine lv_iconst (v := 1) C0.1 C0.2.1 dX9_readsWall_5 kI_1 ?_
  obtain ⟨y2, hy2, hf⟩ := b_some hf
  refine c_Vi C0 hK hN hl.1 hW hA (KX9_needsHole l D cy  ad P V (gp I [(0, 4, y1.1), (0, 5, y1.2.1), (0, 6, y1.2.2.1), (0, 8, y1.2.2.2.1), (0, 9, (I 0 9)), (0, 38, (I 0 38))]) (gp J [(0, 7, y1.2.2.2.2)]) (gm A [(8, (A 8))]) (gm B []) 1 hy2) (JN_id rfl rfl rfl rfl) (Uw_V uw_1346 uw_1348 us_52 uw_14 uw_1349) rfl rfl hd_X9_needsHole ⟨rfl, rfl⟩ rfl (dn_some LY_X9_0) rfl rfl rfl dX9_readsWall_6 ⟨Nat.zero_le _, Nat.zero_le _⟩ (fun H locs hW => ?_)
  have hW : wd D (dn cy LY_X9 ad P V (gp I [(0, 4, y1.1), (0, 5, y1.2.1), (0, 6, y1.2.2.1), (0, 8, y1.2.2.2.1), (0, 9, y2.2.1), (0, 38, y2.2.2)]) (gp J [(0, 7, y1.2.2.2.2)]) (gm A [(8, (A 8))]) (gm B [])) Af s.heap H locs := hW
  refine lv_if_ne (tgt := 14) C0.1 C0.2.1 dX9_readsWall_9 (by decide) (fun hc3 => ?_) (fun hc3 => ?_)
  · have hf := ite_f hc3 hf
    refine lv_aload_n C0.1 C0.2.1 dX9_readsWall_14 rfl (lv_at hl 0 rfl) ?_
    refine s_get (v := .int y2.2.2) C0 hK hW 0 38 LY_X9_0 rfl fg_X9_270 rfl dX9_readsWall_15 ?_
    refine lv_istore_n (lv' := [(1, .int y2.2.2), (0, .ref (ad 0))]) C0.1 C0.2.1 dX9_readsWall_18 rfl hl (by decide) rfl (fun ls hl => ?_)
    refine lv_aload_n C0.1 C0.2.1 dX9_readsWall_19 rfl (lv_at hl 1 rfl) ?_
    obtain ⟨y4, hy4, hf⟩ := b_some hf
    refine c_Vv C0 hK hN hl.1 hW hA (KX9_nextToken l D cy  ad P V (gp I [(0, 4, y1.1), (0, 5, y1.2.1), (0, 6, y1.2.2.1), (0, 8, y1.2.2.2.1), (0, 9, y2.2.1), (0, 38, y2.2.2)]) (gp J [(0, 7, y1.2.2.2.2)]) (gm A [(8, (A 8))]) (gm B [])  hy4) (JN_id rfl rfl rfl rfl) (Uw_V uw_1263 uw_1265 us_38 uw_14 uw_1266) rfl rfl hd_X9_nextToken ⟨rfl, rfl⟩ rfl (dn_some LY_X9_0) rfl rfl rfl dX9_readsWall_20 ⟨Nat.zero_le _, Nat.zero_le _⟩ (fun H locs hW => ?_)
    have hW : wd D (dn cy LY_X9 ad P V (gp I [(0, 4, y4.1), (0, 5, y4.2.1), (0, 6, y4.2.2.1), (0, 8, y4.2.2.2.1), (0, 9, y2.2.1), (0, 38, y2.2.2)]) (gp J [(0, 7, y4.2.2.2.2)]) (gm A [(8, (A 8))]) (gm B [])) Af s.heap H locs := hW
    refine lv_aload_n C0.1 C0.2.1 dX9_readsWall_23 rfl (lv_at hl 1 rfl) ?_
    refine lv_iconst (v := 1) C0.1 C0.2.1 dX9_readsWall_24 kI_1 ?_
    obtain ⟨y5, hy5, hf⟩ := b_some hf
    refine c_Vi C0 hK hN hl.1 hW hA (KX9_needsHole l D cy  ad P V (gp I [(0, 4, y4.1), (0, 5, y4.2.1), (0, 6, y4.2.2.1), (0, 8, y4.2.2.2.1), (0, 9, y2.2.1), (0, 38, y2.2.2)]) (gp J [(0, 7, y4.2.2.2.2)]) (gm A [(8, (A 8))]) (gm B []) 1 hy5) (JN_id rfl rfl rfl rfl) (Uw_V uw_1346 uw_1348 us_52 uw_14 uw_1349) rfl rfl hd_X9_needsHole ⟨rfl, rfl⟩ rfl (dn_some LY_X9_0) rfl rfl rfl dX9_readsWall_25 ⟨Nat.zero_le _, Nat.zero_le _⟩ (fun H locs hW => ?_)
    have hW : wd D (dn cy LY_X9 ad P V (gp I [(0, 4, y4.1), (0, 5, y4.2.1), (0, 6, y4.2.2.1), (0, 8, y4.2.2.2.1), (0, 9, y5.2.1), (0, 38, y5.2.2)]) (gp J [(0, 7, y4.2.2.2.2)]) (gm A [(8, (A 8))]) (gm B [])) Af s.heap H locs := hW
    refine lv_if_ne (tgt := 33) C0.1 C0.2.1 dX9_readsWall_28 (by decide) (fun hc6 => ?_) (fun hc6 => ?_)
    · have hf := ite_f hc6 hf
      refine lv_aload_n C0.1 C0.2.1 dX9_readsWall_33 rfl (lv_at hl 1 rfl) ?_
      refine s_get (v := .int y5.2.2) C0 hK hW 0 38 LY_X9_0 rfl fg_X9_270 rfl dX9_readsWall_34 ?_
      refine lv_iload_n C0.1 C0.2.1 dX9_readsWall_37 rfl (lv_at hl 0 rfl) ?_
      refine lv_icmp_eq (tgt := 60) C0.1 C0.2.1 dX9_readsWall_38 (by decide) (fun hc7 => ?_) (fun hc7 => ?_)
      · have hf := ite_t hc7 hf
        exact tX9_readsWall_60 C0 hK hN hA  y4.1 y4.2.1 y4.2.2.1 y4.2.2.2.1 y5.2.1 y5.2.2 y4.2.2.2.2 (A 8) _ _ ls hW (lv_sub hl [1] rfl) hf
      · have hf := ite_f hc7 hf
        refine lv_aload_n C0.1 C0.2.1 dX9_readsWall_41 rfl (lv_at hl 1 rfl) ?_
        refine s_get (v := .ref (ad 8)) C0 hK hW 0 16 LY_X9_0 rfl fg_X9_32 rfl dX9_readsWall_42 ?_
        refine lv_iconst (v := 5) C0.1 C0.2.1 dX9_readsWall_45 kI_5 ?_
        refine lv_iload_n C0.1 C0.2.1 dX9_readsWall_46 rfl (lv_at hl 0 rfl) ?_
        refine lv_iadd C0.1 C0.2.1 dX9_readsWall_47 ?_
        obtain ⟨hb8, hf⟩ := g_some hf
        refine s_iald (v := ((A 8) (Int32.toNatClampNeg (5 + y2.2.2)))) C0 hK hW 8 LY_X9_8 hb8 rfl dX9_readsWall_48 ?_
        refine lv_aload_n C0.1 C0.2.1 dX9_readsWall_49 rfl (lv_at hl 1 rfl) ?_
        refine s_get (v := .int y5.2.2) C0 hK hW 0 38 LY_X9_0 rfl fg_X9_270 rfl dX9_readsWall_50 ?_
        refine lv_ishr C0.1 C0.2.1 dX9_readsWall_53 ?_
        refine lv_iconst (v := 1) C0.1 C0.2.1 dX9_readsWall_54 kI_1 ?_
        refine lv_iand C0.1 C0.2.1 dX9_readsWall_55 ?_
        refine lv_iconst (v := 1) C0.1 C0.2.1 dX9_readsWall_56 kI_1 ?_
        refine lv_icmp_ne (tgt := 66) C0.1 C0.2.1 dX9_readsWall_57 (by decide) (fun hc9 => ?_) (fun hc9 => ?_)
        · have hf := ite_f hc9 hf
          refine lv_aload_n C0.1 C0.2.1 dX9_readsWall_66 rfl (lv_at hl 1 rfl) ?_
          refine s_get (v := .ref (ad 8)) C0 hK hW 0 16 LY_X9_0 rfl fg_X9_32 rfl dX9_readsWall_67 ?_
          refine lv_iconst (v := 5) C0.1 C0.2.1 dX9_readsWall_70 kI_5 ?_
          refine lv_iload_n C0.1 C0.2.1 dX9_readsWall_71 rfl (lv_at hl 0 rfl) ?_
          refine lv_iadd C0.1 C0.2.1 dX9_readsWall_72 ?_
          refine lv_dup2_11 C0.1 C0.2.1 dX9_readsWall_73 rfl rfl ?_
          obtain ⟨hb10, hf⟩ := g_some hf
          refine s_iald (v := ((A 8) (Int32.toNatClampNeg (5 + y2.2.2)))) C0 hK hW 8 LY_X9_8 hb10 rfl dX9_readsWall_74 ?_
          refine lv_iconst (v := 1) C0.1 C0.2.1 dX9_readsWall_75 kI_1 ?_
          refine lv_aload_n C0.1 C0.2.1 dX9_readsWall_76 rfl (lv_at hl 1 rfl) ?_
          refine s_get (v := .int y5.2.2) C0 hK hW 0 38 LY_X9_0 rfl fg_X9_270 rfl dX9_readsWall_77 ?_
          refine lv_ishl C0.1 C0.2.1 dX9_readsWall_80 ?_
          refine lv_ior C0.1 C0.2.1 dX9_readsWall_81 ?_
          obtain ⟨hb11, hf⟩ := g_some hf
          refine s_iast (f := (upd (A 8) (Int32.toNatClampNeg (5 + y2.2.2)) (((A 8) (Int32.toNatClampNeg (5 + y2.2.2))) ||| (1 <<< (y5.2.2 &&& 31))))) C0 hK hW 8 LY_X9_8 hb11 rfl rfl dX9_readsWall_82 (fun H locs hW => ?_)
          have hW : wd D (dn cy LY_X9 ad P V (gp I [(0, 4, y4.1), (0, 5, y4.2.1), (0, 6, y4.2.2.1), (0, 8, y4.2.2.2.1), (0, 9, y5.2.1), (0, 38, y5.2.2)]) (gp J [(0, 7, y4.2.2.2.2)]) (gm A [(8, (upd (A 8) (Int32.toNatClampNeg (5 + y2.2.2)) (((A 8) (Int32.toNatClampNeg (5 + y2.2.2))) ||| (1 <<< (y5.2.2 &&& 31)))))]) (gm B [])) Af s.heap H locs := hW
          refine lv_aload_n C0.1 C0.2.1 dX9_readsWall_83 rfl (lv_at hl 1 rfl) ?_
          refine s_get (v := .ref (ad 8)) C0 hK hW 0 16 LY_X9_0 rfl fg_X9_32 rfl dX9_readsWall_84 ?_
          refine lv_iconst (v := 5) C0.1 C0.2.1 dX9_readsWall_87 kI_5 ?_
          refine lv_aload_n C0.1 C0.2.1 dX9_readsWall_88 rfl (lv_at hl 1 rfl) ?_
          refine s_get (v := .int y5.2.2) C0 hK hW 0 38 LY_X9_0 rfl fg_X9_270 rfl dX9_readsWall_89 ?_
          refine lv_iadd C0.1 C0.2.1 dX9_readsWall_92 ?_
          refine lv_dup2_11 C0.1 C0.2.1 dX9_readsWall_93 rfl rfl ?_
          obtain ⟨hb12, hf⟩ := g_some hf
          refine s_iald (v := ((upd (A 8) (Int32.toNatClampNeg (5 + y2.2.2)) (((A 8) (Int32.toNatClampNeg (5 + y2.2.2))) ||| (1 <<< (y5.2.2 &&& 31)))) (Int32.toNatClampNeg (5 + y5.2.2)))) C0 hK hW 8 LY_X9_8 hb12 rfl dX9_readsWall_94 ?_
          refine lv_iconst (v := 1) C0.1 C0.2.1 dX9_readsWall_95 kI_1 ?_
          refine lv_iload_n C0.1 C0.2.1 dX9_readsWall_96 rfl (lv_at hl 0 rfl) ?_
          refine lv_ishl C0.1 C0.2.1 dX9_readsWall_97 ?_
          refine lv_ior C0.1 C0.2.1 dX9_readsWall_98 ?_
          obtain ⟨hb13, hf⟩ := g_some hf
          refine s_iast (f := (upd (upd (A 8) (Int32.toNatClampNeg (5 + y2.2.2)) (((A 8) (Int32.toNatClampNeg (5 + y2.2.2))) ||| (1 <<< (y5.2.2 &&& 31)))) (Int32.toNatClampNeg (5 + y5.2.2)) (((upd (A 8) (Int32.toNatClampNeg (5 + y2.2.2)) (((A 8) (Int32.toNatClampNeg (5 + y2.2.2))) ||| (1 <<< (y5.2.2 &&& 31)))) (Int32.toNatClampNeg (5 + y5.2.2))) ||| (1 <<< (y2.2.2 &&& 31))))) C0 hK hW 8 LY_X9_8 hb13 rfl rfl dX9_readsWall_99 (fun H locs hW => ?_)
          have hW : wd D (dn cy LY_X9 ad P V (gp I [(0, 4, y4.1), (0, 5, y4.2.1), (0, 6, y4.2.2.1), (0, 8, y4.2.2.2.1), (0, 9, y5.2.1), (0, 38, y5.2.2)]) (gp J [(0, 7, y4.2.2.2.2)]) (gm A [(8, (upd (upd (A 8) (Int32.toNatClampNeg (5 + y2.2.2)) (((A 8) (Int32.toNatClampNeg (5 + y2.2.2))) ||| (1 <<< (y5.2.2 &&& 31)))) (Int32.toNatClampNeg (5 + y5.2.2)) (((upd (A 8) (Int32.toNatClampNeg (5 + y2.2.2)) (((A 8) (Int32.toNatClampNeg (5 + y2.2.2))) ||| (1 <<< (y5.2.2 &&& 31)))) (Int32.toNatClampNeg (5 + y5.2.2))) ||| (1 <<< (y2.2.2 &&& 31)))))]) (gm B [])) Af s.heap H locs := hW
          refine lv_aload_n C0.1 C0.2.1 dX9_readsWall_100 rfl (lv_at hl 1 rfl) ?_
          obtain ⟨y14, hy14, hf⟩ := b_some hf
          refine c_Vv C0 hK hN hl.1 hW hA (KX9_nextToken l D cy  ad P V (gp I [(0, 4, y4.1), (0, 5, y4.2.1), (0, 6, y4.2.2.1), (0, 8, y4.2.2.2.1), (0, 9, y5.2.1), (0, 38, y5.2.2)]) (gp J [(0, 7, y4.2.2.2.2)]) (gm A [(8, (upd (upd (A 8) (Int32.toNatClampNeg (5 + y2.2.2)) (((A 8) (Int32.toNatClampNeg (5 + y2.2.2))) ||| (1 <<< (y5.2.2 &&& 31)))) (Int32.toNatClampNeg (5 + y5.2.2)) (((upd (A 8) (Int32.toNatClampNeg (5 + y2.2.2)) (((A 8) (Int32.toNatClampNeg (5 + y2.2.2))) ||| (1 <<< (y5.2.2 &&& 31)))) (Int32.toNatClampNeg (5 + y5.2.2))) ||| (1 <<< (y2.2.2 &&& 31)))))]) (gm B [])  hy14) (JN_id rfl rfl rfl rfl) (Uw_V uw_1263 uw_1265 us_38 uw_14 uw_1266) rfl rfl hd_X9_nextToken ⟨rfl, rfl⟩ rfl (dn_some LY_X9_0) rfl rfl rfl dX9_readsWall_101 ⟨Nat.zero_le _, Nat.zero_le _⟩ (fun H locs hW => ?_)
          have hW : wd D (dn cy LY_X9 ad P V (gp I [(0, 4, y14.1), (0, 5, y14.2.1), (0, 6, y14.2.2.1), (0, 8, y14.2.2.2.1), (0, 9, y5.2.1), (0, 38, y5.2.2)]) (gp J [(0, 7, y14.2.2.2.2)]) (gm A [(8, (upd (upd (A 8) (Int32.toNatClampNeg (5 + y2.2.2)) (((A 8) (Int32.toNatClampNeg (5 + y2.2.2))) ||| (1 <<< (y5.2.2 &&& 31)))) (Int32.toNatClampNeg (5 + y5.2.2)) (((upd (A 8) (Int32.toNatClampNeg (5 + y2.2.2)) (((A 8) (Int32.toNatClampNeg (5 + y2.2.2))) ||| (1 <<< (y5.2.2 &&& 31)))) (Int32.toNatClampNeg (5 + y5.2.2))) ||| (1 <<< (y2.2.2 &&& 31)))))]) (gm B [])) Af s.heap H locs := hW
          refine lv_aload_n C0.1 C0.2.1 dX9_readsWall_104 rfl (lv_at hl 1 rfl) ?_
          obtain ⟨y15, hy15, hf⟩ := b_some hf
          refine c_Vi C0 hK hN hl.1 hW hA (KX9_closes l D cy  ad P V (gp I [(0, 4, y14.1), (0, 5, y14.2.1), (0, 6, y14.2.2.1), (0, 8, y14.2.2.2.1), (0, 9, y5.2.1), (0, 38, y5.2.2)]) (gp J [(0, 7, y14.2.2.2.2)]) (gm A [(8, (upd (upd (A 8) (Int32.toNatClampNeg (5 + y2.2.2)) (((A 8) (Int32.toNatClampNeg (5 + y2.2.2))) ||| (1 <<< (y5.2.2 &&& 31)))) (Int32.toNatClampNeg (5 + y5.2.2)) (((upd (A 8) (Int32.toNatClampNeg (5 + y2.2.2)) (((A 8) (Int32.toNatClampNeg (5 + y2.2.2))) ||| (1 <<< (y5.2.2 &&& 31)))) (Int32.toNatClampNeg (5 + y5.2.2))) ||| (1 <<< (y2.2.2 &&& 31)))))]) (gm B [])  hy15) (JN_id rfl rfl rfl rfl) (Uw_V uw_1334 uw_1336 us_49 uw_14 uw_1337) rfl rfl hd_X9_closes ⟨rfl, rfl⟩ rfl (dn_some LY_X9_0) rfl rfl rfl dX9_readsWall_105 ⟨Nat.zero_le _, Nat.zero_le _⟩ (fun H locs hW => ?_)
          have hW : wd D (dn cy LY_X9 ad P V (gp I [(0, 4, y15.2.1), (0, 5, y15.2.2.1), (0, 6, y15.2.2.2.1), (0, 8, y15.2.2.2.2.1), (0, 9, y15.2.2.2.2.2.1), (0, 38, y5.2.2)]) (gp J [(0, 7, y15.2.2.2.2.2.2)]) (gm A [(8, (upd (upd (A 8) (Int32.toNatClampNeg (5 + y2.2.2)) (((A 8) (Int32.toNatClampNeg (5 + y2.2.2))) ||| (1 <<< (y5.2.2 &&& 31)))) (Int32.toNatClampNeg (5 + y5.2.2)) (((upd (A 8) (Int32.toNatClampNeg (5 + y2.2.2)) (((A 8) (Int32.toNatClampNeg (5 + y2.2.2))) ||| (1 <<< (y5.2.2 &&& 31)))) (Int32.toNatClampNeg (5 + y5.2.2))) ||| (1 <<< (y2.2.2 &&& 31)))))]) (gm B [])) Af s.heap H locs := hW
          obtain rfl := Option.some.inj hf
          exact r_bool C0 hK hW (v' := (vp_nar .boolean y15.1)) rfl dX9_readsWall_108
        · have hf := ite_t hc9 hf
          exact tX9_readsWall_60 C0 hK hN hA  y4.1 y4.2.1 y4.2.2.1 y4.2.2.2.1 y5.2.1 y5.2.2 y4.2.2.2.2 (A 8) _ _ ls hW (lv_sub hl [1] rfl) hf
    · have hf := ite_t hc6 hf
      refine lv_iconst (v := 0) C0.1 C0.2.1 dX9_readsWall_31 kI_0 ?_
      obtain rfl := Option.some.inj hf
      exact r_bool C0 hK hW (v' := 0) rfl dX9_readsWall_32
  · have hf := ite_t hc3 hf
    refine lv_iconst (v := 0) C0.1 C0.2.1 dX9_readsWall_12 kI_0 ?_
    obtain rfl := Option.some.inj hf
    exact r_bool C0 hK hW (v' := 0) rfl dX9_readsWall_13
-- X9_readsGuest
def rmX9_readsGuest : Room := { frames := 5, cells := 0, slots := 0, locals := 109 }
def SX9_readsGuest_96 (p : Program) (l : Launch) (e : Env) (s : State) (m : MethodId) (args : Array Value) (below : List Frame) (meth : Method) (c : Code) (D : va_G) (cy : Nat → ClassId) (ad : Nat → Nat) (P : MP) (V : MV) (I : MI) (J : MJ) (A : MI) (B : MJ) (Af : Nat → Prop) (res : Int32 × Int32 × Int32 × Int32 × Int32 × Int32 × Int32 × Int64 × Int64 × (Nat → Int32) × (Nat → Int32) × (Nat → Int32) × (Nat → Int64)) (k : Int32 → Int32 → Int32 → Int32 → Int32 → Int32 → Int64 → Int64 → (Nat → Int32) → (Nat → Int32) → (Nat → Int32) → (Nat → Int64) → Int32 → Int32 → Int32 → Option (Int32 × Int32 × Int32 × Int32 × Int32 × Int32 × Int32 × Int64 × Int64 × (Nat → Int32) × (Nat → Int32) × (Nat → Int32) × (Nat → Int64))) : Prop := ∀ (m_place : Int32) (m_begin : Int32) (m_token : Int32) (m_told : Int32) (m_wrong : Int32) (m_given : Int32) (m_word : Int64) (m_fresh : Int64) (m_terrace : (Nat → Int32)) (m_kind : (Nat → Int32)) (m_guestFlag : (Nat → Int32)) (m_guestName : (Nat → Int64)) (v1 : Int32) (x0 : Int32) (x1 : Int32) (H : Heap) (locs : List Loc) (ls : Array Slot), wd D (dn cy LY_X9 ad P V (gp I [(0, 4, m_place), (0, 5, m_begin), (0, 6, m_token), (0, 8, m_told), (0, 9, m_wrong), (0, 38, m_given)]) (gp J [(0, 7, m_word), (0, 39, m_fresh)]) (gm A [(2, m_terrace), (9, m_kind), (10, m_guestFlag)]) (gm B [(4, m_guestName)])) Af s.heap H locs → lv_has ls 2 [(0, .ref (ad 0)), (1, .int v1)] → k m_place m_begin m_token m_told m_wrong m_given m_word m_fresh m_terrace m_kind m_guestFlag m_guestName v1 x0 x1 = some res → W p l e rmX9_readsGuest s m args below meth c H locs 0 0 (ZQ below D cy (dn cy LY_X9 ad P V (gp I [(0, 4, res.2.1), (0, 5, res.2.2.1), (0, 6, res.2.2.2.1), (0, 8, res.2.2.2.2.1), (0, 9, res.2.2.2.2.2.1), (0, 38, res.2.2.2.2.2.2.1)]) (gp J [(0, 7, res.2.2.2.2.2.2.2.1), (0, 39, res.2.2.2.2.2.2.2.2.1)]) (gm A [(2, res.2.2.2.2.2.2.2.2.2.1), (9, res.2.2.2.2.2.2.2.2.2.2.1), (10, res.2.2.2.2.2.2.2.2.2.2.2.1)]) (gm B [(4, res.2.2.2.2.2.2.2.2.2.2.2.2)])) (some (.int res.1)) Af args s) (F0 m 96 ls [.int x0, .int x1, .ref (ad 9)])
def fX9_readsGuest_96 (m_size : Int32) (m_tape : (Nat → Int32)) (m_holeName : (Nat → Int64)) (m_place : Int32) (m_begin : Int32) (m_token : Int32) (m_told : Int32) (m_wrong : Int32) (m_given : Int32) (m_word : Int64) (m_fresh : Int64) (m_terrace : (Nat → Int32)) (m_kind : (Nat → Int32)) (m_guestFlag : (Nat → Int32)) (m_guestName : (Nat → Int64)) (v1 : Int32) (x0 : Int32) (x1 : Int32) : Option (Int32 × Int32 × Int32 × Int32 × Int32 × Int32 × Int32 × Int64 × Int64 × (Nat → Int32) × (Nat → Int32) × (Nat → Int32) × (Nat → Int64)) := bif inb x1 10 then (bif inb v1 10 then (if 0 ≤ ((upd m_kind (Int32.toNatClampNeg x1) x0) (Int32.toNatClampNeg v1)) then (Option.bind (fX9_nextToken m_size m_tape m_place m_begin m_token m_told m_word) fun y4 => (Option.bind (fX9_needsBoth m_size m_tape y4.1 y4.2.1 y4.2.2.1 y4.2.2.2.1 m_wrong m_given y4.2.2.2.2 126880 0 9) fun y5 => (if y5.1 = 0 then (some (0, y5.2.1, y5.2.2.1, y5.2.2.2.1, y5.2.2.2.2.1, y5.2.2.2.2.2.1, y5.2.2.2.2.2.2.1, y5.2.2.2.2.2.2.2, m_fresh, m_terrace, (upd m_kind (Int32.toNatClampNeg x1) x0), m_guestFlag, m_guestName)) else (bif inb v1 10 then (bif inb v1 10 then (Option.bind (fX9_closes m_size m_tape y5.2.1 y5.2.2.1 y5.2.2.2.1 y5.2.2.2.2.1 y5.2.2.2.2.2.1 y5.2.2.2.2.2.2.2) fun y9 => (some ((vp_nar .boolean y9.1), y9.2.1, y9.2.2.1, y9.2.2.2.1, y9.2.2.2.2.1, y9.2.2.2.2.2.1, y5.2.2.2.2.2.2.1, y9.2.2.2.2.2.2, m_fresh, (upd m_terrace 5 ((m_terrace 5) + 1)), (upd m_kind (Int32.toNatClampNeg x1) x0), (upd m_guestFlag (Int32.toNatClampNeg v1) y5.2.2.2.2.2.2.1), (vp_updL m_guestName (Int32.toNatClampNeg v1) m_fresh)))) else none) else none)))) else (Option.bind (fX9_fails m_begin m_wrong 1) fun y10 => (some ((vp_nar .boolean y10.1), m_place, m_begin, m_token, m_told, y10.2, m_given, m_word, m_fresh, m_terrace, (upd m_kind (Int32.toNatClampNeg x1) x0), m_guestFlag, m_guestName)))) else none) else none
set_option maxHeartbeats 4000000 in
set_option maxRecDepth 100000 in
theorem tX9_readsGuest_96 {p : Program} {l : Launch} {e : Env} {s : State} {m : MethodId} {args : Array Value} {below : List Frame} {meth : Method} {c : Code} {D : va_G} {cy : Nat → ClassId} {ad : Nat → Nat} {P : MP} {V : MV} {I : MI} {J : MJ} {A : MI} {B : MJ} {Af : Nat → Prop} {res : Int32 × Int32 × Int32 × Int32 × Int32 × Int32 × Int32 × Int64 × Int64 × (Nat → Int32) × (Nat → Int32) × (Nat → Int32) × (Nat → Int64)} (C0 : CX p s m args meth c cX9_readsGuest 2 (some .boolean) RX9) (hK : va_K D vwCl (tyG cy) s) (hN : NWs s) (hA : ∀ q, s.heap.size ≤ q → Af q) : SX9_readsGuest_96 p l e s m args below meth c D cy ad P V I J A B Af res (fX9_readsGuest_96 (I 0 3) (A 1) (B 3)) := by
  intro m_place m_begin m_token m_told m_wrong m_given m_word m_fresh m_terrace m_kind m_guestFlag m_guestName v1 x0 x1 H locs ls hW hl hf
  unfold fX9_readsGuest_96 at hf
  obtain ⟨hb1, hf⟩ := g_some hf
  refine s_iast (f := (upd m_kind (Int32.toNatClampNeg x1) x0)) C0 hK hW 9 LY_X9_9 hb1 rfl rfl dX9_readsGuest_96 (fun H locs hW => ?_)
  have hW : wd D (dn cy LY_X9 ad P V (gp I [(0, 4, m_place), (0, 5, m_begin), (0, 6, m_token), (0, 8, m_told), (0, 9, m_wrong), (0, 38, m_given)]) (gp J [(0, 7, m_word), (0, 39, m_fresh)]) (gm A [(2, m_terrace), (9, (upd m_kind (Int32.toNatClampNeg x1) x0)), (10, m_guestFlag)]) (gm B [(4, m_guestName)])) Af s.heap H locs := hW
  refine lv_aload_n C0.1 C0.2.1 dX9_readsGuest_97 rfl (lv_at hl 0 rfl) ?_
  refine s_get (v := .ref (ad 9)) C0 hK hW 0 17 LY_X9_0 rfl fg_X9_35 rfl dX9_readsGuest_98 ?_
  refine lv_iload_n C0.1 C0.2.1 dX9_readsGuest_101 rfl (lv_at hl 1 rfl) ?_
  obtain ⟨hb2, hf⟩ := g_some hf
  refine s_iald (v := ((upd m_kind (Int32.toNatClampNeg x1) x0) (Int32.toNatClampNeg v1))) C0 hK hW 9 LY_X9_9 hb2 rfl dX9_readsGuest_102 ?_
  refine lv_if_ge (tgt := 112) C0.1 C0.2.1 dX9_readsGuest_103 (by decide) (fun hc3 => ?_) (fun hc3 => ?_)
  · have hf := ite_t hc3 hf
    refine lv_aload_n C0.1 C0.2.1 dX9_readsGuest_112 rfl (lv_at hl 0 rfl) ?_
    obtain ⟨y4, hy4, hf⟩ := b_some hf
    refine c_Vv C0 hK hN hl.1 hW hA (KX9_nextToken l D cy  ad P V (gp I [(0, 4, m_place), (0, 5, m_begin), (0, 6, m_token), (0, 8, m_told), (0, 9, m_wrong), (0, 38, m_given)]) (gp J [(0, 7, m_word), (0, 39, m_fresh)]) (gm A [(2, m_terrace), (9, (upd m_kind (Int32.toNatClampNeg x1) x0)), (10, m_guestFlag)]) (gm B [(4, m_guestName)])  hy4) (JN_id rfl rfl rfl rfl) (Uw_V uw_1263 uw_1265 us_38 uw_14 uw_1266) rfl rfl hd_X9_nextToken ⟨rfl, rfl⟩ rfl (dn_some LY_X9_0) rfl rfl rfl dX9_readsGuest_113 ⟨Nat.zero_le _, Nat.zero_le _⟩ (fun H locs hW => ?_)
    have hW : wd D (dn cy LY_X9 ad P V (gp I [(0, 4, y4.1), (0, 5, y4.2.1), (0, 6, y4.2.2.1), (0, 8, y4.2.2.2.1), (0, 9, m_wrong), (0, 38, m_given)]) (gp J [(0, 7, y4.2.2.2.2), (0, 39, m_fresh)]) (gm A [(2, m_terrace), (9, (upd m_kind (Int32.toNatClampNeg x1) x0)), (10, m_guestFlag)]) (gm B [(4, m_guestName)])) Af s.heap H locs := hW
    refine lv_aload_n C0.1 C0.2.1 dX9_readsGuest_116 rfl (lv_at hl 0 rfl) ?_
    refine lv_ldc2 (v := 126880) C0.1 C0.2.1 C0.2.2.2.2.1 (C0.2.2.2.2.2.1 _ uw_1294) dX9_readsGuest_117 ?_
    refine lv_iconst (v := 0) C0.1 C0.2.1 dX9_readsGuest_120 kI_0 ?_
    refine lv_bipush (v := 9) C0.1 C0.2.1 dX9_readsGuest_121 kB_9 ?_
    obtain ⟨y5, hy5, hf⟩ := b_some hf
    refine c_Vi C0 hK hN hl.1 hW hA (KX9_needsBoth l D cy  ad P V (gp I [(0, 4, y4.1), (0, 5, y4.2.1), (0, 6, y4.2.2.1), (0, 8, y4.2.2.2.1), (0, 9, m_wrong), (0, 38, m_given)]) (gp J [(0, 7, y4.2.2.2.2), (0, 39, m_fresh)]) (gm A [(2, m_terrace), (9, (upd m_kind (Int32.toNatClampNeg x1) x0)), (10, m_guestFlag)]) (gm B [(4, m_guestName)]) 126880 0 9 hy5) (JN_id rfl rfl rfl rfl) (Uw_V uw_1323 uw_1325 us_47 uw_14 uw_1326) rfl rfl hd_X9_needsBoth ⟨rfl, rfl⟩ rfl (dn_some LY_X9_0) rfl rfl rfl dX9_readsGuest_123 ⟨Nat.zero_le _, Nat.zero_le _⟩ (fun H locs hW => ?_)
    have hW : wd D (dn cy LY_X9 ad P V (gp I [(0, 4, y5.2.1), (0, 5, y5.2.2.1), (0, 6, y5.2.2.2.1), (0, 8, y5.2.2.2.2.1), (0, 9, y5.2.2.2.2.2.1), (0, 38, y5.2.2.2.2.2.2.1)]) (gp J [(0, 7, y5.2.2.2.2.2.2.2), (0, 39, m_fresh)]) (gm A [(2, m_terrace), (9, (upd m_kind (Int32.toNatClampNeg x1) x0)), (10, m_guestFlag)]) (gm B [(4, m_guestName)])) Af s.heap H locs := hW
    refine lv_if_ne (tgt := 131) C0.1 C0.2.1 dX9_readsGuest_126 (by decide) (fun hc6 => ?_) (fun hc6 => ?_)
    · have hf := ite_f hc6 hf
      refine lv_aload_n C0.1 C0.2.1 dX9_readsGuest_131 rfl (lv_at hl 0 rfl) ?_
      refine s_get (v := .ref (ad 10)) C0 hK hW 0 18 LY_X9_0 rfl fg_X9_38 rfl dX9_readsGuest_132 ?_
      refine lv_iload_n C0.1 C0.2.1 dX9_readsGuest_135 rfl (lv_at hl 1 rfl) ?_
      refine lv_aload_n C0.1 C0.2.1 dX9_readsGuest_136 rfl (lv_at hl 0 rfl) ?_
      refine s_get (v := .int y5.2.2.2.2.2.2.1) C0 hK hW 0 38 LY_X9_0 rfl fg_X9_270 rfl dX9_readsGuest_137 ?_
      obtain ⟨hb7, hf⟩ := g_some hf
      refine s_iast (f := (upd m_guestFlag (Int32.toNatClampNeg v1) y5.2.2.2.2.2.2.1)) C0 hK hW 10 LY_X9_10 hb7 rfl rfl dX9_readsGuest_140 (fun H locs hW => ?_)
      have hW : wd D (dn cy LY_X9 ad P V (gp I [(0, 4, y5.2.1), (0, 5, y5.2.2.1), (0, 6, y5.2.2.2.1), (0, 8, y5.2.2.2.2.1), (0, 9, y5.2.2.2.2.2.1), (0, 38, y5.2.2.2.2.2.2.1)]) (gp J [(0, 7, y5.2.2.2.2.2.2.2), (0, 39, m_fresh)]) (gm A [(2, m_terrace), (9, (upd m_kind (Int32.toNatClampNeg x1) x0)), (10, (upd m_guestFlag (Int32.toNatClampNeg v1) y5.2.2.2.2.2.2.1))]) (gm B [(4, m_guestName)])) Af s.heap H locs := hW
      refine lv_aload_n C0.1 C0.2.1 dX9_readsGuest_141 rfl (lv_at hl 0 rfl) ?_
      refine s_get (v := .ref (ad 4)) C0 hK hW 0 12 LY_X9_0 rfl fg_X9_20 rfl dX9_readsGuest_142 ?_
      refine lv_iload_n C0.1 C0.2.1 dX9_readsGuest_145 rfl (lv_at hl 1 rfl) ?_
      refine lv_aload_n C0.1 C0.2.1 dX9_readsGuest_146 rfl (lv_at hl 0 rfl) ?_
      refine s_get (v := .long m_fresh) C0 hK hW 0 39 LY_X9_0 rfl fg_X9_287 rfl dX9_readsGuest_147 ?_
      obtain ⟨hb8, hf⟩ := g_some hf
      refine s_last (f := (vp_updL m_guestName (Int32.toNatClampNeg v1) m_fresh)) C0 hK hW 4 LY_X9_4 hb8 rfl rfl dX9_readsGuest_150 (fun H locs hW => ?_)
      have hW : wd D (dn cy LY_X9 ad P V (gp I [(0, 4, y5.2.1), (0, 5, y5.2.2.1), (0, 6, y5.2.2.2.1), (0, 8, y5.2.2.2.2.1), (0, 9, y5.2.2.2.2.2.1), (0, 38, y5.2.2.2.2.2.2.1)]) (gp J [(0, 7, y5.2.2.2.2.2.2.2), (0, 39, m_fresh)]) (gm A [(2, m_terrace), (9, (upd m_kind (Int32.toNatClampNeg x1) x0)), (10, (upd m_guestFlag (Int32.toNatClampNeg v1) y5.2.2.2.2.2.2.1))]) (gm B [(4, (vp_updL m_guestName (Int32.toNatClampNeg v1) m_fresh))])) Af s.heap H locs := hW
      refine lv_aload_n C0.1 C0.2.1 dX9_readsGuest_151 rfl (lv_at hl 0 rfl) ?_
      refine s_get (v := .ref (ad 2)) C0 hK hW 0 10 LY_X9_0 rfl fg_X9_13 rfl dX9_readsGuest_152 ?_
      refine lv_iconst (v := 5) C0.1 C0.2.1 dX9_readsGuest_155 kI_5 ?_
      refine lv_dup2_11 C0.1 C0.2.1 dX9_readsGuest_156 rfl rfl ?_
      refine s_iald (v := (m_terrace 5)) C0 hK hW 2 LY_X9_2 rfl (congrArg _ tc_5) dX9_readsGuest_157 ?_
      refine lv_iconst (v := 1) C0.1 C0.2.1 dX9_readsGuest_158 kI_1 ?_
      refine lv_iadd C0.1 C0.2.1 dX9_readsGuest_159 ?_
      refine s_iast (f := (upd m_terrace 5 ((m_terrace 5) + 1))) C0 hK hW 2 LY_X9_2 rfl rfl (congrArg (fun z => upd _ z _) tc_5) dX9_readsGuest_160 (fun H locs hW => ?_)
      have hW : wd D (dn cy LY_X9 ad P V (gp I [(0, 4, y5.2.1), (0, 5, y5.2.2.1), (0, 6, y5.2.2.2.1), (0, 8, y5.2.2.2.2.1), (0, 9, y5.2.2.2.2.2.1), (0, 38, y5.2.2.2.2.2.2.1)]) (gp J [(0, 7, y5.2.2.2.2.2.2.2), (0, 39, m_fresh)]) (gm A [(2, (upd m_terrace 5 ((m_terrace 5) + 1))), (9, (upd m_kind (Int32.toNatClampNeg x1) x0)), (10, (upd m_guestFlag (Int32.toNatClampNeg v1) y5.2.2.2.2.2.2.1))]) (gm B [(4, (vp_updL m_guestName (Int32.toNatClampNeg v1) m_fresh))])) Af s.heap H locs := hW
      refine lv_aload_n C0.1 C0.2.1 dX9_readsGuest_161 rfl (lv_at hl 0 rfl) ?_
      obtain ⟨y9, hy9, hf⟩ := b_some hf
      refine c_Vi C0 hK hN hl.1 hW hA (KX9_closes l D cy  ad P V (gp I [(0, 4, y5.2.1), (0, 5, y5.2.2.1), (0, 6, y5.2.2.2.1), (0, 8, y5.2.2.2.2.1), (0, 9, y5.2.2.2.2.2.1), (0, 38, y5.2.2.2.2.2.2.1)]) (gp J [(0, 7, y5.2.2.2.2.2.2.2), (0, 39, m_fresh)]) (gm A [(2, (upd m_terrace 5 ((m_terrace 5) + 1))), (9, (upd m_kind (Int32.toNatClampNeg x1) x0)), (10, (upd m_guestFlag (Int32.toNatClampNeg v1) y5.2.2.2.2.2.2.1))]) (gm B [(4, (vp_updL m_guestName (Int32.toNatClampNeg v1) m_fresh))])  hy9) (JN_id rfl rfl rfl rfl) (Uw_V uw_1334 uw_1336 us_49 uw_14 uw_1337) rfl rfl hd_X9_closes ⟨rfl, rfl⟩ rfl (dn_some LY_X9_0) rfl rfl rfl dX9_readsGuest_162 ⟨Nat.zero_le _, Nat.zero_le _⟩ (fun H locs hW => ?_)
      have hW : wd D (dn cy LY_X9 ad P V (gp I [(0, 4, y9.2.1), (0, 5, y9.2.2.1), (0, 6, y9.2.2.2.1), (0, 8, y9.2.2.2.2.1), (0, 9, y9.2.2.2.2.2.1), (0, 38, y5.2.2.2.2.2.2.1)]) (gp J [(0, 7, y9.2.2.2.2.2.2), (0, 39, m_fresh)]) (gm A [(2, (upd m_terrace 5 ((m_terrace 5) + 1))), (9, (upd m_kind (Int32.toNatClampNeg x1) x0)), (10, (upd m_guestFlag (Int32.toNatClampNeg v1) y5.2.2.2.2.2.2.1))]) (gm B [(4, (vp_updL m_guestName (Int32.toNatClampNeg v1) m_fresh))])) Af s.heap H locs := hW
      obtain rfl := Option.some.inj hf
      exact r_bool C0 hK hW (v' := (vp_nar .boolean y9.1)) rfl dX9_readsGuest_165
    · have hf := ite_t hc6 hf
      refine lv_iconst (v := 0) C0.1 C0.2.1 dX9_readsGuest_129 kI_0 ?_
      obtain rfl := Option.some.inj hf
      exact r_bool C0 hK hW (v' := 0) rfl dX9_readsGuest_130
  · have hf := ite_f hc3 hf
    refine lv_aload_n C0.1 C0.2.1 dX9_readsGuest_106 rfl (lv_at hl 0 rfl) ?_
    refine lv_iconst (v := 1) C0.1 C0.2.1 dX9_readsGuest_107 kI_1 ?_
    obtain ⟨y10, hy10, hf⟩ := b_some hf
    refine c_Vi C0 hK hN hl.1 hW hA (KX9_fails l D cy  ad P V (gp I [(0, 4, m_place), (0, 5, m_begin), (0, 6, m_token), (0, 8, m_told), (0, 9, m_wrong), (0, 38, m_given)]) (gp J [(0, 7, m_word), (0, 39, m_fresh)]) (gm A [(2, m_terrace), (9, (upd m_kind (Int32.toNatClampNeg x1) x0)), (10, m_guestFlag)]) (gm B [(4, m_guestName)]) 1 hy10) (JN_id rfl rfl rfl rfl) (Uw_V uw_1282 uw_1284 us_42 uw_14 uw_1285) rfl rfl hd_X9_fails ⟨rfl, rfl⟩ rfl (dn_some LY_X9_0) rfl rfl rfl dX9_readsGuest_108 ⟨Nat.zero_le _, Nat.zero_le _⟩ (fun H locs hW => ?_)
    have hW : wd D (dn cy LY_X9 ad P V (gp I [(0, 4, m_place), (0, 5, m_begin), (0, 6, m_token), (0, 8, m_told), (0, 9, y10.2), (0, 38, m_given)]) (gp J [(0, 7, m_word), (0, 39, m_fresh)]) (gm A [(2, m_terrace), (9, (upd m_kind (Int32.toNatClampNeg x1) x0)), (10, m_guestFlag)]) (gm B [(4, m_guestName)])) Af s.heap H locs := hW
    obtain rfl := Option.some.inj hf
    exact r_bool C0 hK hW (v' := (vp_nar .boolean y10.1)) rfl dX9_readsGuest_111
def fX9_readsGuest (m_size : Int32) (m_tape : (Nat → Int32)) (m_holeName : (Nat → Int64)) (m_place : Int32) (m_begin : Int32) (m_token : Int32) (m_told : Int32) (m_wrong : Int32) (m_given : Int32) (m_word : Int64) (m_fresh : Int64) (m_terrace : (Nat → Int32)) (m_kind : (Nat → Int32)) (m_guestFlag : (Nat → Int32)) (m_guestName : (Nat → Int64)) : Option (Int32 × Int32 × Int32 × Int32 × Int32 × Int32 × Int32 × Int64 × Int64 × (Nat → Int32) × (Nat → Int32) × (Nat → Int32) × (Nat → Int64)) := if (5 + (m_terrace 5)) = 10 then (Option.bind (fX9_fails m_begin m_wrong 5) fun y13 => (some ((vp_nar .boolean y13.1), m_place, m_begin, m_token, m_told, y13.2, m_given, m_word, m_fresh, m_terrace, m_kind, m_guestFlag, m_guestName))) else (Option.bind (fX9_nextToken m_size m_tape m_place m_begin m_token m_told m_word) fun y2 => (Option.bind (fX9_needsNew m_size m_tape m_terrace m_holeName m_guestName y2.1 y2.2.1 y2.2.2.1 y2.2.2.2.1 m_wrong y2.2.2.2.2 m_fresh) fun y3 => (if y3.1 = 0 then (some (0, y3.2.1, y3.2.2.1, y3.2.2.2.1, y3.2.2.2.2.1, y3.2.2.2.2.2.1, m_given, y3.2.2.2.2.2.2.1, y3.2.2.2.2.2.2.2, m_terrace, m_kind, m_guestFlag, m_guestName)) else (Option.bind (fX9_isWord y3.2.2.2.1 y3.2.2.2.2.2.2.1 8740238) fun y5 => (if y5 = 0 then (Option.bind (fX9_isWord y3.2.2.2.1 y3.2.2.2.2.2.2.1 330846583) fun y7 => (if y7 = 0 then (Option.bind (fX9_isWord y3.2.2.2.1 y3.2.2.2.2.2.2.1 2949235) fun y9 => (if y9 = 0 then (Option.bind (fX9_isWord y3.2.2.2.1 y3.2.2.2.2.2.2.1 2234) fun y11 => (if y11 = 0 then (fX9_readsGuest_96 m_size m_tape m_holeName y3.2.1 y3.2.2.1 y3.2.2.2.1 y3.2.2.2.2.1 y3.2.2.2.2.2.1 m_given y3.2.2.2.2.2.2.1 y3.2.2.2.2.2.2.2 m_terrace m_kind m_guestFlag m_guestName (5 + (m_terrace 5)) (-1) (5 + (m_terrace 5))) else (fX9_readsGuest_96 m_size m_tape m_holeName y3.2.1 y3.2.2.1 y3.2.2.2.1 y3.2.2.2.2.1 y3.2.2.2.2.2.1 m_given y3.2.2.2.2.2.2.1 y3.2.2.2.2.2.2.2 m_terrace m_kind m_guestFlag m_guestName (5 + (m_terrace 5)) 3 (5 + (m_terrace 5))))) else (fX9_readsGuest_96 m_size m_tape m_holeName y3.2.1 y3.2.2.1 y3.2.2.2.1 y3.2.2.2.2.1 y3.2.2.2.2.2.1 m_given y3.2.2.2.2.2.2.1 y3.2.2.2.2.2.2.2 m_terrace m_kind m_guestFlag m_guestName (5 + (m_terrace 5)) 2 (5 + (m_terrace 5))))) else (fX9_readsGuest_96 m_size m_tape m_holeName y3.2.1 y3.2.2.1 y3.2.2.2.1 y3.2.2.2.2.1 y3.2.2.2.2.2.1 m_given y3.2.2.2.2.2.2.1 y3.2.2.2.2.2.2.2 m_terrace m_kind m_guestFlag m_guestName (5 + (m_terrace 5)) 1 (5 + (m_terrace 5))))) else (fX9_readsGuest_96 m_size m_tape m_holeName y3.2.1 y3.2.2.1 y3.2.2.2.1 y3.2.2.2.2.1 y3.2.2.2.2.2.1 m_given y3.2.2.2.2.2.2.1 y3.2.2.2.2.2.2.2 m_terrace m_kind m_guestFlag m_guestName (5 + (m_terrace 5)) 0 (5 + (m_terrace 5))))))))
set_option maxHeartbeats 4000000 in
set_option maxRecDepth 100000 in
theorem KX9_readsGuest (l : Launch) (D : va_G) (cy : Nat → ClassId) (ad : Nat → Nat) (P : MP) (V : MV) (I : MI) (J : MJ) (A : MI) (B : MJ) {res : Int32 × Int32 × Int32 × Int32 × Int32 × Int32 × Int32 × Int64 × Int64 × (Nat → Int32) × (Nat → Int32) × (Nat → Int32) × (Nat → Int64)} (hf : fX9_readsGuest (I 0 3) (A 1) (B 3) (I 0 4) (I 0 5) (I 0 6) (I 0 8) (I 0 9) (I 0 38) (J 0 7) (J 0 39) (A 2) (A 9) (A 10) (B 4) = some res) : CG l yX9_readsGuest cX9_readsGuest 2 (some .boolean) rmX9_readsGuest D cy (dn cy LY_X9 ad P V I J A B) [.ref (ad 0)] (some (.int res.1)) (dn cy LY_X9 ad P V (gp I [(0, 4, res.2.1), (0, 5, res.2.2.1), (0, 6, res.2.2.2.1), (0, 8, res.2.2.2.2.1), (0, 9, res.2.2.2.2.2.1), (0, 38, res.2.2.2.2.2.2.1)]) (gp J [(0, 7, res.2.2.2.2.2.2.2.1), (0, 39, res.2.2.2.2.2.2.2.2.1)]) (gm A [(2, res.2.2.2.2.2.2.2.2.2.1), (9, res.2.2.2.2.2.2.2.2.2.2.1), (10, res.2.2.2.2.2.2.2.2.2.2.2.1)]) (gm B [(4, res.2.2.2.2.2.2.2.2.2.2.2.2)])) := by
  refine CG.of (own := RX9) (by decide) rfl rfl ?_
  intro p e s m below meth c ls Af C0 hK hN hA hW hl
  have hW : wd D (dn cy LY_X9 ad P V (gp I [(0, 4, (I 0 4)), (0, 5, (I 0 5)), (0, 6, (I 0 6)), (0, 8, (I 0 8)), (0, 9, (I 0 9)), (0, 38, (I 0 38))]) (gp J [(0, 7, (J 0 7)), (0, 39, (J 0 39))]) (gm A [(2, (A 2)), (9, (A 9)), (10, (A 10))]) (gm B [(4, (B 4))])) Af s.heap s.heap [] := wd_sel [(0, 4), (0, 5), (0, 6), (0, 8), (0, 9), (0, 38)] [(0, 7), (0, 39)] [2, 9, 10] [4] hW
  have hl : lv_has ls 2 [(0, .ref (ad 0))] := hl
  unfold fX9_readsGuest at hf
  refine lv_iconst (v := 5) C0.1 C0.2.1 dX9_readsGuest_0 kI_5 ?_
  refine lv_aload_n C0.1 C0.2.1 dX9_readsGuest_1 rfl (lv_at hl 0 rfl) ?_
  refine s_get (v := .ref (ad 2)) C0 hK hW 0 10 LY_X9_0 rfl fg_X9_13 rfl dX9_readsGuest_2 ?_
  refine lv_iconst (v := 5) C0.1 C0.2.1 dX9_readsGuest_5 kI_5 ?_
  refine s_iald (v := ((A 2) 5)) C0 hK hW 2 LY_X9_2 rfl (congrArg _ tc_5) dX9_readsGuest_6 ?_
  refine lv_iadd C0.1 C0.2.1 dX9_readsGuest_7 ?_
  refine lv_istore_n (lv' := [(1, .int (5 + ((A 2) 5))), (0, .ref (ad 0))]) C0.1 C0.2.1 dX9_readsGuest_8 rfl hl (by decide) rfl (fun ls hl => ?_)
  refine lv_iload_n C0.1 C0.2.1 dX9_readsGuest_9 rfl (lv_at hl 0 rfl) ?_
  refine lv_bipush (v := 10) C0.1 C0.2.1 dX9_readsGuest_10 kB_10 ?_
  refine lv_icmp_ne (tgt := 21) C0.1 C0.2.1 dX9_readsGuest_12 (by decide) (fun hc1 => ?_) (fun hc1 => ?_)
  · have hf := ite_f hc1 hf
    refine lv_aload_n C0.1 C0.2.1 dX9_readsGuest_21 rfl (lv_at hl 1 rfl) ?_
    obtain ⟨y2, hy2, hf⟩ := b_some hf
    refine c_Vv C0 hK hN hl.1 hW hA (KX9_nextToken l D cy  ad P V (gp I [(0, 4, (I 0 4)), (0, 5, (I 0 5)), (0, 6, (I 0 6)), (0, 8, (I 0 8)), (0, 9, (I 0 9)), (0, 38, (I 0 38))]) (gp J [(0, 7, (J 0 7)), (0, 39, (J 0 39))]) (gm A [(2, (A 2)), (9, (A 9)), (10, (A 10))]) (gm B [(4, (B 4))])  hy2) (JN_id rfl rfl rfl rfl) (Uw_V uw_1263 uw_1265 us_38 uw_14 uw_1266) rfl rfl hd_X9_nextToken ⟨rfl, rfl⟩ rfl (dn_some LY_X9_0) rfl rfl rfl dX9_readsGuest_22 ⟨Nat.zero_le _, Nat.zero_le _⟩ (fun H locs hW => ?_)
    have hW : wd D (dn cy LY_X9 ad P V (gp I [(0, 4, y2.1), (0, 5, y2.2.1), (0, 6, y2.2.2.1), (0, 8, y2.2.2.2.1), (0, 9, (I 0 9)), (0, 38, (I 0 38))]) (gp J [(0, 7, y2.2.2.2.2), (0, 39, (J 0 39))]) (gm A [(2, (A 2)), (9, (A 9)), (10, (A 10))]) (gm B [(4, (B 4))])) Af s.heap H locs := hW
    refine lv_aload_n C0.1 C0.2.1 dX9_readsGuest_25 rfl (lv_at hl 1 rfl) ?_
    obtain ⟨y3, hy3, hf⟩ := b_some hf
    refine c_Vi C0 hK hN hl.1 hW hA (KX9_needsNew l D cy  ad P V (gp I [(0, 4, y2.1), (0, 5, y2.2.1), (0, 6, y2.2.2.1), (0, 8, y2.2.2.2.1), (0, 9, (I 0 9)), (0, 38, (I 0 38))]) (gp J [(0, 7, y2.2.2.2.2), (0, 39, (J 0 39))]) (gm A [(2, (A 2)), (9, (A 9)), (10, (A 10))]) (gm B [(4, (B 4))])  hy3) (JN_id rfl rfl rfl rfl) (Uw_V uw_1286 uw_1288 us_43 uw_14 uw_1289) rfl rfl hd_X9_needsNew ⟨rfl, rfl⟩ rfl (dn_some LY_X9_0) rfl rfl rfl dX9_readsGuest_26 ⟨Nat.zero_le _, Nat.zero_le _⟩ (fun H locs hW => ?_)
    have hW : wd D (dn cy LY_X9 ad P V (gp I [(0, 4, y3.2.1), (0, 5, y3.2.2.1), (0, 6, y3.2.2.2.1), (0, 8, y3.2.2.2.2.1), (0, 9, y3.2.2.2.2.2.1), (0, 38, (I 0 38))]) (gp J [(0, 7, y3.2.2.2.2.2.2.1), (0, 39, y3.2.2.2.2.2.2.2)]) (gm A [(2, (A 2)), (9, (A 9)), (10, (A 10))]) (gm B [(4, (B 4))])) Af s.heap H locs := hW
    refine lv_if_ne (tgt := 34) C0.1 C0.2.1 dX9_readsGuest_29 (by decide) (fun hc4 => ?_) (fun hc4 => ?_)
    · have hf := ite_f hc4 hf
      refine lv_aload_n C0.1 C0.2.1 dX9_readsGuest_34 rfl (lv_at hl 1 rfl) ?_
      refine s_get (v := .ref (ad 9)) C0 hK hW 0 17 LY_X9_0 rfl fg_X9_35 rfl dX9_readsGuest_35 ?_
      refine lv_iload_n C0.1 C0.2.1 dX9_readsGuest_38 rfl (lv_at hl 0 rfl) ?_
      refine lv_aload_n C0.1 C0.2.1 dX9_readsGuest_39 rfl (lv_at hl 1 rfl) ?_
      refine lv_ldc2 (v := 8740238) C0.1 C0.2.1 C0.2.2.2.2.1 (C0.2.2.2.2.2.1 _ uw_1308) dX9_readsGuest_40 ?_
      obtain ⟨y5, hy5, hf⟩ := b_some hf
      refine c_Vi C0 hK hN hl.1 hW hA (KX9_isWord l D cy  ad P V (gp I [(0, 4, y3.2.1), (0, 5, y3.2.2.1), (0, 6, y3.2.2.2.1), (0, 8, y3.2.2.2.2.1), (0, 9, y3.2.2.2.2.2.1), (0, 38, (I 0 38))]) (gp J [(0, 7, y3.2.2.2.2.2.2.1), (0, 39, y3.2.2.2.2.2.2.2)]) (gm A [(2, (A 2)), (9, (A 9)), (10, (A 10))]) (gm B [(4, (B 4))]) 8740238 hy5) (JN_id rfl rfl rfl rfl) (Uw_V uw_1274 uw_1276 us_40 uw_14 uw_1277) rfl rfl hd_X9_isWord ⟨rfl, rfl⟩ rfl (dn_some LY_X9_0) rfl rfl rfl dX9_readsGuest_43 ⟨Nat.zero_le _, Nat.zero_le _⟩ (fun H locs hW => ?_)
      have hW : wd D (dn cy LY_X9 ad P V (gp I [(0, 4, y3.2.1), (0, 5, y3.2.2.1), (0, 6, y3.2.2.2.1), (0, 8, y3.2.2.2.2.1), (0, 9, y3.2.2.2.2.2.1), (0, 38, (I 0 38))]) (gp J [(0, 7, y3.2.2.2.2.2.2.1), (0, 39, y3.2.2.2.2.2.2.2)]) (gm A [(2, (A 2)), (9, (A 9)), (10, (A 10))]) (gm B [(4, (B 4))])) Af s.heap H locs := hW
      refine lv_if_eq (tgt := 53) C0.1 C0.2.1 dX9_readsGuest_46 (by decide) (fun hc6 => ?_) (fun hc6 => ?_)
      · have hf := ite_t hc6 hf
        refine lv_aload_n C0.1 C0.2.1 dX9_readsGuest_53 rfl (lv_at hl 1 rfl) ?_
        refine lv_ldc2 (v := 330846583) C0.1 C0.2.1 C0.2.2.2.2.1 (C0.2.2.2.2.2.1 _ uw_1309) dX9_readsGuest_54 ?_
        obtain ⟨y7, hy7, hf⟩ := b_some hf
        refine c_Vi C0 hK hN hl.1 hW hA (KX9_isWord l D cy  ad P V (gp I [(0, 4, y3.2.1), (0, 5, y3.2.2.1), (0, 6, y3.2.2.2.1), (0, 8, y3.2.2.2.2.1), (0, 9, y3.2.2.2.2.2.1), (0, 38, (I 0 38))]) (gp J [(0, 7, y3.2.2.2.2.2.2.1), (0, 39, y3.2.2.2.2.2.2.2)]) (gm A [(2, (A 2)), (9, (A 9)), (10, (A 10))]) (gm B [(4, (B 4))]) 330846583 hy7) (JN_id rfl rfl rfl rfl) (Uw_V uw_1274 uw_1276 us_40 uw_14 uw_1277) rfl rfl hd_X9_isWord ⟨rfl, rfl⟩ rfl (dn_some LY_X9_0) rfl rfl rfl dX9_readsGuest_57 ⟨Nat.zero_le _, Nat.zero_le _⟩ (fun H locs hW => ?_)
        have hW : wd D (dn cy LY_X9 ad P V (gp I [(0, 4, y3.2.1), (0, 5, y3.2.2.1), (0, 6, y3.2.2.2.1), (0, 8, y3.2.2.2.2.1), (0, 9, y3.2.2.2.2.2.1), (0, 38, (I 0 38))]) (gp J [(0, 7, y3.2.2.2.2.2.2.1), (0, 39, y3.2.2.2.2.2.2.2)]) (gm A [(2, (A 2)), (9, (A 9)), (10, (A 10))]) (gm B [(4, (B 4))])) Af s.heap H locs := hW
        refine lv_if_eq (tgt := 67) C0.1 C0.2.1 dX9_readsGuest_60 (by decide) (fun hc8 => ?_) (fun hc8 => ?_)
        · have hf := ite_t hc8 hf
          refine lv_aload_n C0.1 C0.2.1 dX9_readsGuest_67 rfl (lv_at hl 1 rfl) ?_
          refine lv_ldc2 (v := 2949235) C0.1 C0.2.1 C0.2.2.2.2.1 (C0.2.2.2.2.2.1 _ uw_1310) dX9_readsGuest_68 ?_
          obtain ⟨y9, hy9, hf⟩ := b_some hf
          refine c_Vi C0 hK hN hl.1 hW hA (KX9_isWord l D cy  ad P V (gp I [(0, 4, y3.2.1), (0, 5, y3.2.2.1), (0, 6, y3.2.2.2.1), (0, 8, y3.2.2.2.2.1), (0, 9, y3.2.2.2.2.2.1), (0, 38, (I 0 38))]) (gp J [(0, 7, y3.2.2.2.2.2.2.1), (0, 39, y3.2.2.2.2.2.2.2)]) (gm A [(2, (A 2)), (9, (A 9)), (10, (A 10))]) (gm B [(4, (B 4))]) 2949235 hy9) (JN_id rfl rfl rfl rfl) (Uw_V uw_1274 uw_1276 us_40 uw_14 uw_1277) rfl rfl hd_X9_isWord ⟨rfl, rfl⟩ rfl (dn_some LY_X9_0) rfl rfl rfl dX9_readsGuest_71 ⟨Nat.zero_le _, Nat.zero_le _⟩ (fun H locs hW => ?_)
          have hW : wd D (dn cy LY_X9 ad P V (gp I [(0, 4, y3.2.1), (0, 5, y3.2.2.1), (0, 6, y3.2.2.2.1), (0, 8, y3.2.2.2.2.1), (0, 9, y3.2.2.2.2.2.1), (0, 38, (I 0 38))]) (gp J [(0, 7, y3.2.2.2.2.2.2.1), (0, 39, y3.2.2.2.2.2.2.2)]) (gm A [(2, (A 2)), (9, (A 9)), (10, (A 10))]) (gm B [(4, (B 4))])) Af s.heap H locs := hW
          refine lv_if_eq (tgt := 81) C0.1 C0.2.1 dX9_readsGuest_74 (by decide) (fun hc10 => ?_) (fun hc10 => ?_)
          · have hf := ite_t hc10 hf
            refine lv_aload_n C0.1 C0.2.1 dX9_readsGuest_81 rfl (lv_at hl 1 rfl) ?_
            refine lv_ldc2 (v := 2234) C0.1 C0.2.1 C0.2.2.2.2.1 (C0.2.2.2.2.2.1 _ uw_1311) dX9_readsGuest_82 ?_
            obtain ⟨y11, hy11, hf⟩ := b_some hf
            refine c_Vi C0 hK hN hl.1 hW hA (KX9_isWord l D cy  ad P V (gp I [(0, 4, y3.2.1), (0, 5, y3.2.2.1), (0, 6, y3.2.2.2.1), (0, 8, y3.2.2.2.2.1), (0, 9, y3.2.2.2.2.2.1), (0, 38, (I 0 38))]) (gp J [(0, 7, y3.2.2.2.2.2.2.1), (0, 39, y3.2.2.2.2.2.2.2)]) (gm A [(2, (A 2)), (9, (A 9)), (10, (A 10))]) (gm B [(4, (B 4))]) 2234 hy11) (JN_id rfl rfl rfl rfl) (Uw_V uw_1274 uw_1276 us_40 uw_14 uw_1277) rfl rfl hd_X9_isWord ⟨rfl, rfl⟩ rfl (dn_some LY_X9_0) rfl rfl rfl dX9_readsGuest_85 ⟨Nat.zero_le _, Nat.zero_le _⟩ (fun H locs hW => ?_)
            have hW : wd D (dn cy LY_X9 ad P V (gp I [(0, 4, y3.2.1), (0, 5, y3.2.2.1), (0, 6, y3.2.2.2.1), (0, 8, y3.2.2.2.2.1), (0, 9, y3.2.2.2.2.2.1), (0, 38, (I 0 38))]) (gp J [(0, 7, y3.2.2.2.2.2.2.1), (0, 39, y3.2.2.2.2.2.2.2)]) (gm A [(2, (A 2)), (9, (A 9)), (10, (A 10))]) (gm B [(4, (B 4))])) Af s.heap H locs := hW
            refine lv_if_eq (tgt := 95) C0.1 C0.2.1 dX9_readsGuest_88 (by decide) (fun hc12 => ?_) (fun hc12 => ?_)
            · have hf := ite_t hc12 hf
              refine lv_iconst (v := (-1)) C0.1 C0.2.1 dX9_readsGuest_95 kI_m1 ?_
              exact tX9_readsGuest_96 C0 hK hN hA  y3.2.1 y3.2.2.1 y3.2.2.2.1 y3.2.2.2.2.1 y3.2.2.2.2.2.1 (I 0 38) y3.2.2.2.2.2.2.1 y3.2.2.2.2.2.2.2 (A 2) (A 9) (A 10) (B 4) (5 + ((A 2) 5)) (-1) (5 + ((A 2) 5)) _ _ ls hW (lv_sub hl [1, 0] rfl) hf
            · have hf := ite_f hc12 hf
              refine lv_iconst (v := 3) C0.1 C0.2.1 dX9_readsGuest_91 kI_3 ?_
              refine lv_goto (tgt := 96) C0.1 C0.2.1 dX9_readsGuest_92 (by decide) ?_
              exact tX9_readsGuest_96 C0 hK hN hA  y3.2.1 y3.2.2.1 y3.2.2.2.1 y3.2.2.2.2.1 y3.2.2.2.2.2.1 (I 0 38) y3.2.2.2.2.2.2.1 y3.2.2.2.2.2.2.2 (A 2) (A 9) (A 10) (B 4) (5 + ((A 2) 5)) 3 (5 + ((A 2) 5)) _ _ ls hW (lv_sub hl [1, 0] rfl) hf
          · have hf := ite_f hc10 hf
            refine lv_iconst (v := 2) C0.1 C0.2.1 dX9_readsGuest_77 kI_2 ?_
            refine lv_goto (tgt := 96) C0.1 C0.2.1 dX9_readsGuest_78 (by decide) ?_
            exact tX9_readsGuest_96 C0 hK hN hA  y3.2.1 y3.2.2.1 y3.2.2.2.1 y3.2.2.2.2.1 y3.2.2.2.2.2.1 (I 0 38) y3.2.2.2.2.2.2.1 y3.2.2.2.2.2.2.2 (A 2) (A 9) (A 10) (B 4) (5 + ((A 2) 5)) 2 (5 + ((A 2) 5)) _ _ ls hW (lv_sub hl [1, 0] rfl) hf
        · have hf := ite_f hc8 hf
          refine lv_iconst (v := 1) C0.1 C0.2.1 dX9_readsGuest_63 kI_1 ?_
          refine lv_goto (tgt := 96) C0.1 C0.2.1 dX9_readsGuest_64 (by decide) ?_
          exact tX9_readsGuest_96 C0 hK hN hA  y3.2.1 y3.2.2.1 y3.2.2.2.1 y3.2.2.2.2.1 y3.2.2.2.2.2.1 (I 0 38) y3.2.2.2.2.2.2.1 y3.2.2.2.2.2.2.2 (A 2) (A 9) (A 10) (B 4) (5 + ((A 2) 5)) 1 (5 + ((A 2) 5)) _ _ ls hW (lv_sub hl [1, 0] rfl) hf
      · have hf := ite_f hc6 hf
        refine lv_iconst (v := 0) C0.1 C0.2.1 dX9_readsGuest_49 kI_0 ?_
        refine lv_goto (tgt := 96) C0.1 C0.2.1 dX9_readsGuest_50 (by decide) ?_
        exact tX9_readsGuest_96 C0 hK hN hA  y3.2.1 y3.2.2.1 y3.2.2.2.1 y3.2.2.2.2.1 y3.2.2.2.2.2.1 (I 0 38) y3.2.2.2.2.2.2.1 y3.2.2.2.2.2.2.2 (A 2) (A 9) (A 10) (B 4) (5 + ((A 2) 5)) 0 (5 + ((A 2) 5)) _ _ ls hW (lv_sub hl [1, 0] rfl) hf
    · have hf := ite_t hc4 hf
      refine lv_iconst (v := 0) C0.1 C0.2.1 dX9_readsGuest_32 kI_0 ?_
      obtain rfl := Option.some.inj hf
      exact r_bool C0 hK hW (v' := 0) rfl dX9_readsGuest_33
  · have hf := ite_t hc1 hf
    refine lv_aload_n C0.1 C0.2.1 dX9_readsGuest_15 rfl (lv_at hl 1 rfl) ?_
    refine lv_iconst (v := 5) C0.1 C0.2.1 dX9_readsGuest_16 kI_5 ?_
    obtain ⟨y13, hy13, hf⟩ := b_some hf
    refine c_Vi C0 hK hN hl.1 hW hA (KX9_fails l D cy  ad P V (gp I [(0, 4, (I 0 4)), (0, 5, (I 0 5)), (0, 6, (I 0 6)), (0, 8, (I 0 8)), (0, 9, (I 0 9)), (0, 38, (I 0 38))]) (gp J [(0, 7, (J 0 7)), (0, 39, (J 0 39))]) (gm A [(2, (A 2)), (9, (A 9)), (10, (A 10))]) (gm B [(4, (B 4))]) 5 hy13) (JN_id rfl rfl rfl rfl) (Uw_V uw_1282 uw_1284 us_42 uw_14 uw_1285) rfl rfl hd_X9_fails ⟨rfl, rfl⟩ rfl (dn_some LY_X9_0) rfl rfl rfl dX9_readsGuest_17 ⟨Nat.zero_le _, Nat.zero_le _⟩ (fun H locs hW => ?_)
    have hW : wd D (dn cy LY_X9 ad P V (gp I [(0, 4, (I 0 4)), (0, 5, (I 0 5)), (0, 6, (I 0 6)), (0, 8, (I 0 8)), (0, 9, y13.2), (0, 38, (I 0 38))]) (gp J [(0, 7, (J 0 7)), (0, 39, (J 0 39))]) (gm A [(2, (A 2)), (9, (A 9)), (10, (A 10))]) (gm B [(4, (B 4))])) Af s.heap H locs := hW
    obtain rfl := Option.some.inj hf
    exact r_bool C0 hK hW (v' := (vp_nar .boolean y13.1)) rfl dX9_readsGuest_20
-- X9_readsWar
def rmX9_readsWar : Room := { frames := 4, cells := 0, slots := 0, locals := 85 }
def SX9_readsWar_78 (p : Program) (l : Launch) (e : Env) (s : State) (m : MethodId) (args : Array Value) (below : List Frame) (meth : Method) (c : Code) (D : va_G) (cy : Nat → ClassId) (ad : Nat → Nat) (P : MP) (V : MV) (I : MI) (J : MJ) (A : MI) (B : MJ) (Af : Nat → Prop) (res : Int32 × Int32 × Int32 × Int32 × Int32 × Int32 × Int32 × Int64 × (Nat → Int32)) (k : Int32 → Int32 → Int32 → Int32 → Int32 → Int32 → Int64 → (Nat → Int32) → Option (Int32 × Int32 × Int32 × Int32 × Int32 × Int32 × Int32 × Int64 × (Nat → Int32))) : Prop := ∀ (m_place : Int32) (m_begin : Int32) (m_token : Int32) (m_told : Int32) (m_wrong : Int32) (m_given : Int32) (m_word : Int64) (m_wars : (Nat → Int32)) (H : Heap) (locs : List Loc) (ls : Array Slot), wd D (dn cy LY_X9 ad P V (gp I [(0, 4, m_place), (0, 5, m_begin), (0, 6, m_token), (0, 8, m_told), (0, 9, m_wrong), (0, 38, m_given)]) (gp J [(0, 7, m_word)]) (gm A [(11, m_wars)]) (gm B [])) Af s.heap H locs → lv_has ls 2 [(0, .ref (ad 0))] → k m_place m_begin m_token m_told m_wrong m_given m_word m_wars = some res → W p l e rmX9_readsWar s m args below meth c H locs 0 0 (ZQ below D cy (dn cy LY_X9 ad P V (gp I [(0, 4, res.2.1), (0, 5, res.2.2.1), (0, 6, res.2.2.2.1), (0, 8, res.2.2.2.2.1), (0, 9, res.2.2.2.2.2.1), (0, 38, res.2.2.2.2.2.2.1)]) (gp J [(0, 7, res.2.2.2.2.2.2.2.1)]) (gm A [(11, res.2.2.2.2.2.2.2.2)]) (gm B [])) (some (.int res.1)) Af args s) (F0 m 78 ls [])
def fX9_readsWar_78 (m_size : Int32) (m_tape : (Nat → Int32)) (m_place : Int32) (m_begin : Int32) (m_token : Int32) (m_told : Int32) (m_wrong : Int32) (m_given : Int32) (m_word : Int64) (m_wars : (Nat → Int32)) : Option (Int32 × Int32 × Int32 × Int32 × Int32 × Int32 × Int32 × Int64 × (Nat → Int32)) := Option.bind (fX9_fails m_begin m_wrong 3) fun y1 => (some ((vp_nar .boolean y1.1), m_place, m_begin, m_token, m_told, y1.2, m_given, m_word, m_wars))
set_option maxHeartbeats 4000000 in
set_option maxRecDepth 100000 in
theorem tX9_readsWar_78 {p : Program} {l : Launch} {e : Env} {s : State} {m : MethodId} {args : Array Value} {below : List Frame} {meth : Method} {c : Code} {D : va_G} {cy : Nat → ClassId} {ad : Nat → Nat} {P : MP} {V : MV} {I : MI} {J : MJ} {A : MI} {B : MJ} {Af : Nat → Prop} {res : Int32 × Int32 × Int32 × Int32 × Int32 × Int32 × Int32 × Int64 × (Nat → Int32)} (C0 : CX p s m args meth c cX9_readsWar 2 (some .boolean) RX9) (hK : va_K D vwCl (tyG cy) s) (hN : NWs s) (hA : ∀ q, s.heap.size ≤ q → Af q) : SX9_readsWar_78 p l e s m args below meth c D cy ad P V I J A B Af res (fX9_readsWar_78 (I 0 3) (A 1)) := by
  intro m_place m_begin m_token m_told m_wrong m_given m_word m_wars H locs ls hW hl hf
  unfold fX9_readsWar_78 at hf
  refine lv_aload_n C0.1 C0.2.1 dX9_readsWar_78 rfl (lv_at hl 0 rfl) ?_
  refine lv_iconst (v := 3) C0.1 C0.2.1 dX9_readsWar_79 kI_3 ?_
  obtain ⟨y1, hy1, hf⟩ := b_some hf
  refine c_Vi C0 hK hN hl.1 hW hA (KX9_fails l D cy  ad P V (gp I [(0, 4, m_place), (0, 5, m_begin), (0, 6, m_token), (0, 8, m_told), (0, 9, m_wrong), (0, 38, m_given)]) (gp J [(0, 7, m_word)]) (gm A [(11, m_wars)]) (gm B []) 3 hy1) (JN_id rfl rfl rfl rfl) (Uw_V uw_1282 uw_1284 us_42 uw_14 uw_1285) rfl rfl hd_X9_fails ⟨rfl, rfl⟩ rfl (dn_some LY_X9_0) rfl rfl rfl dX9_readsWar_80 ⟨Nat.zero_le _, Nat.zero_le _⟩ (fun H locs hW => ?_)
  have hW : wd D (dn cy LY_X9 ad P V (gp I [(0, 4, m_place), (0, 5, m_begin), (0, 6, m_token), (0, 8, m_told), (0, 9, y1.2), (0, 38, m_given)]) (gp J [(0, 7, m_word)]) (gm A [(11, m_wars)]) (gm B [])) Af s.heap H locs := hW
  obtain rfl := Option.some.inj hf
  exact r_bool C0 hK hW (v' := (vp_nar .boolean y1.1)) rfl dX9_readsWar_83
def fX9_readsWar (m_size : Int32) (m_tape : (Nat → Int32)) (m_place : Int32) (m_begin : Int32) (m_token : Int32) (m_told : Int32) (m_wrong : Int32) (m_given : Int32) (m_word : Int64) (m_wars : (Nat → Int32)) : Option (Int32 × Int32 × Int32 × Int32 × Int32 × Int32 × Int32 × Int64 × (Nat → Int32)) := Option.bind (fX9_nextToken m_size m_tape m_place m_begin m_token m_told m_word) fun y1 => (Option.bind (fX9_needsNumber m_size m_tape y1.1 y1.2.1 y1.2.2.1 y1.2.2.2.1 m_wrong m_given y1.2.2.2.2 0 9) fun y2 => (if y2.1 = 0 then (some (0, y2.2.1, y2.2.2.1, y2.2.2.2.1, y2.2.2.2.2.1, y2.2.2.2.2.2.1, y2.2.2.2.2.2.2.1, y2.2.2.2.2.2.2.2, m_wars)) else (if y2.2.2.2.1 = 2 then (if y2.2.2.2.2.1 ≤ 9 then (if y2.2.2.2.2.1 = y2.2.2.2.2.2.2.1 then (fX9_readsWar_78 m_size m_tape y2.2.1 y2.2.2.1 y2.2.2.2.1 y2.2.2.2.2.1 y2.2.2.2.2.2.1 y2.2.2.2.2.2.2.1 y2.2.2.2.2.2.2.2 m_wars) else (bif inb (10 + y2.2.2.2.2.2.2.1) 20 then (if (((m_wars (Int32.toNatClampNeg (10 + y2.2.2.2.2.2.2.1))) >>> (y2.2.2.2.2.1 &&& 31)) &&& 1) = 1 then (fX9_readsWar_78 m_size m_tape y2.2.1 y2.2.2.1 y2.2.2.2.1 y2.2.2.2.2.1 y2.2.2.2.2.2.1 y2.2.2.2.2.2.2.1 y2.2.2.2.2.2.2.2 m_wars) else (bif inb (10 + y2.2.2.2.2.2.2.1) 20 then (bif inb (10 + y2.2.2.2.2.2.2.1) 20 then (bif inb (10 + y2.2.2.2.2.1) 20 then (bif inb (10 + y2.2.2.2.2.1) 20 then (Option.bind (fX9_nextToken m_size m_tape y2.2.1 y2.2.2.1 y2.2.2.2.1 y2.2.2.2.2.1 y2.2.2.2.2.2.2.2) fun y13 => (Option.bind (fX9_closes m_size m_tape y13.1 y13.2.1 y13.2.2.1 y13.2.2.2.1 y2.2.2.2.2.2.1 y13.2.2.2.2) fun y14 => (some ((vp_nar .boolean y14.1), y14.2.1, y14.2.2.1, y14.2.2.2.1, y14.2.2.2.2.1, y14.2.2.2.2.2.1, y2.2.2.2.2.2.2.1, y14.2.2.2.2.2.2, (upd (upd m_wars (Int32.toNatClampNeg (10 + y2.2.2.2.2.2.2.1)) ((m_wars (Int32.toNatClampNeg (10 + y2.2.2.2.2.2.2.1))) ||| (1 <<< (y2.2.2.2.2.1 &&& 31)))) (Int32.toNatClampNeg (10 + y2.2.2.2.2.1)) (((upd m_wars (Int32.toNatClampNeg (10 + y2.2.2.2.2.2.2.1)) ((m_wars (Int32.toNatClampNeg (10 + y2.2.2.2.2.2.2.1))) ||| (1 <<< (y2.2.2.2.2.1 &&& 31)))) (Int32.toNatClampNeg (10 + y2.2.2.2.2.1))) ||| (1 <<< (y2.2.2.2.2.2.2.1 &&& 31)))))))) else none) else none) else none) else none)) else none)) else (Option.bind (fX9_fails y2.2.2.1 y2.2.2.2.2.2.1 4) fun y15 => (some ((vp_nar .boolean y15.1), y2.2.1, y2.2.2.1, y2.2.2.2.1, y2.2.2.2.2.1, y15.2, y2.2.2.2.2.2.2.1, y2.2.2.2.2.2.2.2, m_wars)))) else (Option.bind (fX9_fails y2.2.2.1 y2.2.2.2.2.2.1 1) fun y16 => (some ((vp_nar .boolean y16.1), y2.2.1, y2.2.2.1, y2.2.2.2.1, y2.2.2.2.2.1, y16.2, y2.2.2.2.2.2.2.1, y2.2.2.2.2.2.2.2, m_wars))))))
set_option maxHeartbeats 4000000 in
set_option maxRecDepth 100000 in
theorem KX9_readsWar (l : Launch) (D : va_G) (cy : Nat → ClassId) (ad : Nat → Nat) (P : MP) (V : MV) (I : MI) (J : MJ) (A : MI) (B : MJ) {res : Int32 × Int32 × Int32 × Int32 × Int32 × Int32 × Int32 × Int64 × (Nat → Int32)} (hf : fX9_readsWar (I 0 3) (A 1) (I 0 4) (I 0 5) (I 0 6) (I 0 8) (I 0 9) (I 0 38) (J 0 7) (A 11) = some res) : CG l yX9_readsWar cX9_readsWar 2 (some .boolean) rmX9_readsWar D cy (dn cy LY_X9 ad P V I J A B) [.ref (ad 0)] (some (.int res.1)) (dn cy LY_X9 ad P V (gp I [(0, 4, res.2.1), (0, 5, res.2.2.1), (0, 6, res.2.2.2.1), (0, 8, res.2.2.2.2.1), (0, 9, res.2.2.2.2.2.1), (0, 38, res.2.2.2.2.2.2.1)]) (gp J [(0, 7, res.2.2.2.2.2.2.2.1)]) (gm A [(11, res.2.2.2.2.2.2.2.2)]) (gm B [])) := by
  refine CG.of (own := RX9) (by decide) rfl rfl ?_
  intro p e s m below meth c ls Af C0 hK hN hA hW hl
  have hW : wd D (dn cy LY_X9 ad P V (gp I [(0, 4, (I 0 4)), (0, 5, (I 0 5)), (0, 6, (I 0 6)), (0, 8, (I 0 8)), (0, 9, (I 0 9)), (0, 38, (I 0 38))]) (gp J [(0, 7, (J 0 7))]) (gm A [(11, (A 11))]) (gm B [])) Af s.heap s.heap [] := wd_sel [(0, 4), (0, 5), (0, 6), (0, 8), (0, 9), (0, 38)] [(0, 7)] [11] [] hW
  have hl : lv_has ls 2 [(0, .ref (ad 0))] := hl
  unfold fX9_readsWar at hf
  refine lv_aload_n C0.1 C0.2.1 dX9_readsWar_0 rfl (lv_at hl 0 rfl) ?_
  obtain ⟨y1, hy1, hf⟩ := b_some hf
  refine c_Vv C0 hK hN hl.1 hW hA (KX9_nextToken l D cy  ad P V (gp I [(0, 4, (I 0 4)), (0, 5, (I 0 5)), (0, 6, (I 0 6)), (0, 8, (I 0 8)), (0, 9, (I 0 9)), (0, 38, (I 0 38))]) (gp J [(0, 7, (J 0 7))]) (gm A [(11, (A 11))]) (gm B [])  hy1) (JN_id rfl rfl rfl rfl) (Uw_V uw_1263 uw_1265 us_38 uw_14 uw_1266) rfl rfl hd_X9_nextToken ⟨rfl, rfl⟩ rfl (dn_some LY_X9_0) rfl rfl rfl dX9_readsWar_1 ⟨Nat.zero_le _, Nat.zero_le _⟩ (fun H locs hW => ?_)
  have hW : wd D (dn cy LY_X9 ad P V (gp I [(0, 4, y1.1), (0, 5, y1.2.1), (0, 6, y1.2.2.1), (0, 8, y1.2.2.2.1), (0, 9, (I 0 9)), (0, 38, (I 0 38))]) (gp J [(0, 7, y1.2.2.2.2)]) (gm A [(11, (A 11))]) (gm B [])) Af s.heap H locs := hW
  refine lv_aload_n C0.1 C0.2.1 dX9_readsWar_4 rfl (lv_at hl 0 rfl) ?_
  refine lv_iconst (v := 0) C0.1 C0.2.1 dX9_readsWar_5 kI_0 ?_
  refine lv_bipush (v := 9) C0.1 C0.2.1 dX9_readsWar_6 kB_9 ?_
  obtain ⟨y2, hy2, hf⟩ := b_some hf
  refine c_Vi C0 hK hN hl.1 hW hA (KX9_needsNumber l D cy  ad P V (gp I [(0, 4, y1.1), (0, 5, y1.2.1), (0, 6, y1.2.2.1), (0, 8, y1.2.2.2.1), (0, 9, (I 0 9)), (0, 38, (I 0 38))]) (gp J [(0, 7, y1.2.2.2.2)]) (gm A [(11, (A 11))]) (gm B []) 0 9 hy2) (JN_id rfl rfl rfl rfl) (Uw_V uw_1327 uw_1329 us_48 uw_14 uw_1330) rfl rfl hd_X9_needsNumber ⟨rfl, rfl⟩ rfl (dn_some LY_X9_0) rfl rfl rfl dX9_readsWar_8 ⟨Nat.zero_le _, Nat.zero_le _⟩ (fun H locs hW => ?_)
  have hW : wd D (dn cy LY_X9 ad P V (gp I [(0, 4, y2.2.1), (0, 5, y2.2.2.1), (0, 6, y2.2.2.2.1), (0, 8, y2.2.2.2.2.1), (0, 9, y2.2.2.2.2.2.1), (0, 38, y2.2.2.2.2.2.2.1)]) (gp J [(0, 7, y2.2.2.2.2.2.2.2)]) (gm A [(11, (A 11))]) (gm B [])) Af s.heap H locs := hW
  refine lv_if_ne (tgt := 16) C0.1 C0.2.1 dX9_readsWar_11 (by decide) (fun hc3 => ?_) (fun hc3 => ?_)
  · have hf := ite_f hc3 hf
    refine lv_aload_n C0.1 C0.2.1 dX9_readsWar_16 rfl (lv_at hl 0 rfl) ?_
    refine s_get (v := .int y2.2.2.2.2.2.2.1) C0 hK hW 0 38 LY_X9_0 rfl fg_X9_270 rfl dX9_readsWar_17 ?_
    refine lv_istore_n (lv' := [(1, .int y2.2.2.2.2.2.2.1), (0, .ref (ad 0))]) C0.1 C0.2.1 dX9_readsWar_20 rfl hl (by decide) rfl (fun ls hl => ?_)
    refine lv_aload_n C0.1 C0.2.1 dX9_readsWar_21 rfl (lv_at hl 1 rfl) ?_
    refine s_get (v := .int y2.2.2.2.1) C0 hK hW 0 6 LY_X9_0 rfl fg_X9_167 rfl dX9_readsWar_22 ?_
    refine lv_iconst (v := 2) C0.1 C0.2.1 dX9_readsWar_25 kI_2 ?_
    refine lv_icmp_eq (tgt := 35) C0.1 C0.2.1 dX9_readsWar_26 (by decide) (fun hc4 => ?_) (fun hc4 => ?_)
    · have hf := ite_t hc4 hf
      refine lv_aload_n C0.1 C0.2.1 dX9_readsWar_35 rfl (lv_at hl 1 rfl) ?_
      refine s_get (v := .int y2.2.2.2.2.1) C0 hK hW 0 8 LY_X9_0 rfl fg_X9_164 rfl dX9_readsWar_36 ?_
      refine lv_bipush (v := 9) C0.1 C0.2.1 dX9_readsWar_39 kB_9 ?_
      refine lv_icmp_le (tgt := 50) C0.1 C0.2.1 dX9_readsWar_41 (by decide) (fun hc5 => ?_) (fun hc5 => ?_)
      · have hf := ite_t hc5 hf
        refine lv_aload_n C0.1 C0.2.1 dX9_readsWar_50 rfl (lv_at hl 1 rfl) ?_
        refine s_get (v := .int y2.2.2.2.2.1) C0 hK hW 0 8 LY_X9_0 rfl fg_X9_164 rfl dX9_readsWar_51 ?_
        refine lv_iload_n C0.1 C0.2.1 dX9_readsWar_54 rfl (lv_at hl 0 rfl) ?_
        refine lv_icmp_eq (tgt := 78) C0.1 C0.2.1 dX9_readsWar_55 (by decide) (fun hc6 => ?_) (fun hc6 => ?_)
        · have hf := ite_t hc6 hf
          exact tX9_readsWar_78 C0 hK hN hA  y2.2.1 y2.2.2.1 y2.2.2.2.1 y2.2.2.2.2.1 y2.2.2.2.2.2.1 y2.2.2.2.2.2.2.1 y2.2.2.2.2.2.2.2 (A 11) _ _ ls hW (lv_sub hl [1] rfl) hf
        · have hf := ite_f hc6 hf
          refine lv_aload_n C0.1 C0.2.1 dX9_readsWar_58 rfl (lv_at hl 1 rfl) ?_
          refine s_get (v := .ref (ad 11)) C0 hK hW 0 19 LY_X9_0 rfl fg_X9_41 rfl dX9_readsWar_59 ?_
          refine lv_bipush (v := 10) C0.1 C0.2.1 dX9_readsWar_62 kB_10 ?_
          refine lv_iload_n C0.1 C0.2.1 dX9_readsWar_64 rfl (lv_at hl 0 rfl) ?_
          refine lv_iadd C0.1 C0.2.1 dX9_readsWar_65 ?_
          obtain ⟨hb7, hf⟩ := g_some hf
          refine s_iald (v := ((A 11) (Int32.toNatClampNeg (10 + y2.2.2.2.2.2.2.1)))) C0 hK hW 11 LY_X9_11 hb7 rfl dX9_readsWar_66 ?_
          refine lv_aload_n C0.1 C0.2.1 dX9_readsWar_67 rfl (lv_at hl 1 rfl) ?_
          refine s_get (v := .int y2.2.2.2.2.1) C0 hK hW 0 8 LY_X9_0 rfl fg_X9_164 rfl dX9_readsWar_68 ?_
          refine lv_ishr C0.1 C0.2.1 dX9_readsWar_71 ?_
          refine lv_iconst (v := 1) C0.1 C0.2.1 dX9_readsWar_72 kI_1 ?_
          refine lv_iand C0.1 C0.2.1 dX9_readsWar_73 ?_
          refine lv_iconst (v := 1) C0.1 C0.2.1 dX9_readsWar_74 kI_1 ?_
          refine lv_icmp_ne (tgt := 84) C0.1 C0.2.1 dX9_readsWar_75 (by decide) (fun hc8 => ?_) (fun hc8 => ?_)
          · have hf := ite_f hc8 hf
            refine lv_aload_n C0.1 C0.2.1 dX9_readsWar_84 rfl (lv_at hl 1 rfl) ?_
            refine s_get (v := .ref (ad 11)) C0 hK hW 0 19 LY_X9_0 rfl fg_X9_41 rfl dX9_readsWar_85 ?_
            refine lv_bipush (v := 10) C0.1 C0.2.1 dX9_readsWar_88 kB_10 ?_
            refine lv_iload_n C0.1 C0.2.1 dX9_readsWar_90 rfl (lv_at hl 0 rfl) ?_
            refine lv_iadd C0.1 C0.2.1 dX9_readsWar_91 ?_
            refine lv_dup2_11 C0.1 C0.2.1 dX9_readsWar_92 rfl rfl ?_
            obtain ⟨hb9, hf⟩ := g_some hf
            refine s_iald (v := ((A 11) (Int32.toNatClampNeg (10 + y2.2.2.2.2.2.2.1)))) C0 hK hW 11 LY_X9_11 hb9 rfl dX9_readsWar_93 ?_
            refine lv_iconst (v := 1) C0.1 C0.2.1 dX9_readsWar_94 kI_1 ?_
            refine lv_aload_n C0.1 C0.2.1 dX9_readsWar_95 rfl (lv_at hl 1 rfl) ?_
            refine s_get (v := .int y2.2.2.2.2.1) C0 hK hW 0 8 LY_X9_0 rfl fg_X9_164 rfl dX9_readsWar_96 ?_
            refine lv_ishl C0.1 C0.2.1 dX9_readsWar_99 ?_
            refine lv_ior C0.1 C0.2.1 dX9_readsWar_100 ?_
            obtain ⟨hb10, hf⟩ := g_some hf
            refine s_iast (f := (upd (A 11) (Int32.toNatClampNeg (10 + y2.2.2.2.2.2.2.1)) (((A 11) (Int32.toNatClampNeg (10 + y2.2.2.2.2.2.2.1))) ||| (1 <<< (y2.2.2.2.2.1 &&& 31))))) C0 hK hW 11 LY_X9_11 hb10 rfl rfl dX9_readsWar_101 (fun H locs hW => ?_)
            have hW : wd D (dn cy LY_X9 ad P V (gp I [(0, 4, y2.2.1), (0, 5, y2.2.2.1), (0, 6, y2.2.2.2.1), (0, 8, y2.2.2.2.2.1), (0, 9, y2.2.2.2.2.2.1), (0, 38, y2.2.2.2.2.2.2.1)]) (gp J [(0, 7, y2.2.2.2.2.2.2.2)]) (gm A [(11, (upd (A 11) (Int32.toNatClampNeg (10 + y2.2.2.2.2.2.2.1)) (((A 11) (Int32.toNatClampNeg (10 + y2.2.2.2.2.2.2.1))) ||| (1 <<< (y2.2.2.2.2.1 &&& 31)))))]) (gm B [])) Af s.heap H locs := hW
            refine lv_aload_n C0.1 C0.2.1 dX9_readsWar_102 rfl (lv_at hl 1 rfl) ?_
            refine s_get (v := .ref (ad 11)) C0 hK hW 0 19 LY_X9_0 rfl fg_X9_41 rfl dX9_readsWar_103 ?_
            refine lv_bipush (v := 10) C0.1 C0.2.1 dX9_readsWar_106 kB_10 ?_
            refine lv_aload_n C0.1 C0.2.1 dX9_readsWar_108 rfl (lv_at hl 1 rfl) ?_
            refine s_get (v := .int y2.2.2.2.2.1) C0 hK hW 0 8 LY_X9_0 rfl fg_X9_164 rfl dX9_readsWar_109 ?_
            refine lv_iadd C0.1 C0.2.1 dX9_readsWar_112 ?_
            refine lv_dup2_11 C0.1 C0.2.1 dX9_readsWar_113 rfl rfl ?_
            obtain ⟨hb11, hf⟩ := g_some hf
            refine s_iald (v := ((upd (A 11) (Int32.toNatClampNeg (10 + y2.2.2.2.2.2.2.1)) (((A 11) (Int32.toNatClampNeg (10 + y2.2.2.2.2.2.2.1))) ||| (1 <<< (y2.2.2.2.2.1 &&& 31)))) (Int32.toNatClampNeg (10 + y2.2.2.2.2.1)))) C0 hK hW 11 LY_X9_11 hb11 rfl dX9_readsWar_114 ?_
            refine lv_iconst (v := 1) C0.1 C0.2.1 dX9_readsWar_115 kI_1 ?_
            refine lv_iload_n C0.1 C0.2.1 dX9_readsWar_116 rfl (lv_at hl 0 rfl) ?_
            refine lv_ishl C0.1 C0.2.1 dX9_readsWar_117 ?_
            refine lv_ior C0.1 C0.2.1 dX9_readsWar_118 ?_
            obtain ⟨hb12, hf⟩ := g_some hf
            refine s_iast (f := (upd (upd (A 11) (Int32.toNatClampNeg (10 + y2.2.2.2.2.2.2.1)) (((A 11) (Int32.toNatClampNeg (10 + y2.2.2.2.2.2.2.1))) ||| (1 <<< (y2.2.2.2.2.1 &&& 31)))) (Int32.toNatClampNeg (10 + y2.2.2.2.2.1)) (((upd (A 11) (Int32.toNatClampNeg (10 + y2.2.2.2.2.2.2.1)) (((A 11) (Int32.toNatClampNeg (10 + y2.2.2.2.2.2.2.1))) ||| (1 <<< (y2.2.2.2.2.1 &&& 31)))) (Int32.toNatClampNeg (10 + y2.2.2.2.2.1))) ||| (1 <<< (y2.2.2.2.2.2.2.1 &&& 31))))) C0 hK hW 11 LY_X9_11 hb12 rfl rfl dX9_readsWar_119 (fun H locs hW => ?_)
            have hW : wd D (dn cy LY_X9 ad P V (gp I [(0, 4, y2.2.1), (0, 5, y2.2.2.1), (0, 6, y2.2.2.2.1), (0, 8, y2.2.2.2.2.1), (0, 9, y2.2.2.2.2.2.1), (0, 38, y2.2.2.2.2.2.2.1)]) (gp J [(0, 7, y2.2.2.2.2.2.2.2)]) (gm A [(11, (upd (upd (A 11) (Int32.toNatClampNeg (10 + y2.2.2.2.2.2.2.1)) (((A 11) (Int32.toNatClampNeg (10 + y2.2.2.2.2.2.2.1))) ||| (1 <<< (y2.2.2.2.2.1 &&& 31)))) (Int32.toNatClampNeg (10 + y2.2.2.2.2.1)) (((upd (A 11) (Int32.toNatClampNeg (10 + y2.2.2.2.2.2.2.1)) (((A 11) (Int32.toNatClampNeg (10 + y2.2.2.2.2.2.2.1))) ||| (1 <<< (y2.2.2.2.2.1 &&& 31)))) (Int32.toNatClampNeg (10 + y2.2.2.2.2.1))) ||| (1 <<< (y2.2.2.2.2.2.2.1 &&& 31)))))]) (gm B [])) Af s.heap H locs := hW
            refine lv_aload_n C0.1 C0.2.1 dX9_readsWar_120 rfl (lv_at hl 1 rfl) ?_
            obtain ⟨y13, hy13, hf⟩ := b_some hf
            refine c_Vv C0 hK hN hl.1 hW hA (KX9_nextToken l D cy  ad P V (gp I [(0, 4, y2.2.1), (0, 5, y2.2.2.1), (0, 6, y2.2.2.2.1), (0, 8, y2.2.2.2.2.1), (0, 9, y2.2.2.2.2.2.1), (0, 38, y2.2.2.2.2.2.2.1)]) (gp J [(0, 7, y2.2.2.2.2.2.2.2)]) (gm A [(11, (upd (upd (A 11) (Int32.toNatClampNeg (10 + y2.2.2.2.2.2.2.1)) (((A 11) (Int32.toNatClampNeg (10 + y2.2.2.2.2.2.2.1))) ||| (1 <<< (y2.2.2.2.2.1 &&& 31)))) (Int32.toNatClampNeg (10 + y2.2.2.2.2.1)) (((upd (A 11) (Int32.toNatClampNeg (10 + y2.2.2.2.2.2.2.1)) (((A 11) (Int32.toNatClampNeg (10 + y2.2.2.2.2.2.2.1))) ||| (1 <<< (y2.2.2.2.2.1 &&& 31)))) (Int32.toNatClampNeg (10 + y2.2.2.2.2.1))) ||| (1 <<< (y2.2.2.2.2.2.2.1 &&& 31)))))]) (gm B [])  hy13) (JN_id rfl rfl rfl rfl) (Uw_V uw_1263 uw_1265 us_38 uw_14 uw_1266) rfl rfl hd_X9_nextToken ⟨rfl, rfl⟩ rfl (dn_some LY_X9_0) rfl rfl rfl dX9_readsWar_121 ⟨Nat.zero_le _, Nat.zero_le _⟩ (fun H locs hW => ?_)
            have hW : wd D (dn cy LY_X9 ad P V (gp I [(0, 4, y13.1), (0, 5, y13.2.1), (0, 6, y13.2.2.1), (0, 8, y13.2.2.2.1), (0, 9, y2.2.2.2.2.2.1), (0, 38, y2.2.2.2.2.2.2.1)]) (gp J [(0, 7, y13.2.2.2.2)]) (gm A [(11, (upd (upd (A 11) (Int32.toNatClampNeg (10 + y2.2.2.2.2.2.2.1)) (((A 11) (Int32.toNatClampNeg (10 + y2.2.2.2.2.2.2.1))) ||| (1 <<< (y2.2.2.2.2.1 &&& 31)))) (Int32.toNatClampNeg (10 + y2.2.2.2.2.1)) (((upd (A 11) (Int32.toNatClampNeg (10 + y2.2.2.2.2.2.2.1)) (((A 11) (Int32.toNatClampNeg (10 + y2.2.2.2.2.2.2.1))) ||| (1 <<< (y2.2.2.2.2.1 &&& 31)))) (Int32.toNatClampNeg (10 + y2.2.2.2.2.1))) ||| (1 <<< (y2.2.2.2.2.2.2.1 &&& 31)))))]) (gm B [])) Af s.heap H locs := hW
            refine lv_aload_n C0.1 C0.2.1 dX9_readsWar_124 rfl (lv_at hl 1 rfl) ?_
            obtain ⟨y14, hy14, hf⟩ := b_some hf
            refine c_Vi C0 hK hN hl.1 hW hA (KX9_closes l D cy  ad P V (gp I [(0, 4, y13.1), (0, 5, y13.2.1), (0, 6, y13.2.2.1), (0, 8, y13.2.2.2.1), (0, 9, y2.2.2.2.2.2.1), (0, 38, y2.2.2.2.2.2.2.1)]) (gp J [(0, 7, y13.2.2.2.2)]) (gm A [(11, (upd (upd (A 11) (Int32.toNatClampNeg (10 + y2.2.2.2.2.2.2.1)) (((A 11) (Int32.toNatClampNeg (10 + y2.2.2.2.2.2.2.1))) ||| (1 <<< (y2.2.2.2.2.1 &&& 31)))) (Int32.toNatClampNeg (10 + y2.2.2.2.2.1)) (((upd (A 11) (Int32.toNatClampNeg (10 + y2.2.2.2.2.2.2.1)) (((A 11) (Int32.toNatClampNeg (10 + y2.2.2.2.2.2.2.1))) ||| (1 <<< (y2.2.2.2.2.1 &&& 31)))) (Int32.toNatClampNeg (10 + y2.2.2.2.2.1))) ||| (1 <<< (y2.2.2.2.2.2.2.1 &&& 31)))))]) (gm B [])  hy14) (JN_id rfl rfl rfl rfl) (Uw_V uw_1334 uw_1336 us_49 uw_14 uw_1337) rfl rfl hd_X9_closes ⟨rfl, rfl⟩ rfl (dn_some LY_X9_0) rfl rfl rfl dX9_readsWar_125 ⟨Nat.zero_le _, Nat.zero_le _⟩ (fun H locs hW => ?_)
            have hW : wd D (dn cy LY_X9 ad P V (gp I [(0, 4, y14.2.1), (0, 5, y14.2.2.1), (0, 6, y14.2.2.2.1), (0, 8, y14.2.2.2.2.1), (0, 9, y14.2.2.2.2.2.1), (0, 38, y2.2.2.2.2.2.2.1)]) (gp J [(0, 7, y14.2.2.2.2.2.2)]) (gm A [(11, (upd (upd (A 11) (Int32.toNatClampNeg (10 + y2.2.2.2.2.2.2.1)) (((A 11) (Int32.toNatClampNeg (10 + y2.2.2.2.2.2.2.1))) ||| (1 <<< (y2.2.2.2.2.1 &&& 31)))) (Int32.toNatClampNeg (10 + y2.2.2.2.2.1)) (((upd (A 11) (Int32.toNatClampNeg (10 + y2.2.2.2.2.2.2.1)) (((A 11) (Int32.toNatClampNeg (10 + y2.2.2.2.2.2.2.1))) ||| (1 <<< (y2.2.2.2.2.1 &&& 31)))) (Int32.toNatClampNeg (10 + y2.2.2.2.2.1))) ||| (1 <<< (y2.2.2.2.2.2.2.1 &&& 31)))))]) (gm B [])) Af s.heap H locs := hW
            obtain rfl := Option.some.inj hf
            exact r_bool C0 hK hW (v' := (vp_nar .boolean y14.1)) rfl dX9_readsWar_128
          · have hf := ite_t hc8 hf
            exact tX9_readsWar_78 C0 hK hN hA  y2.2.1 y2.2.2.1 y2.2.2.2.1 y2.2.2.2.2.1 y2.2.2.2.2.2.1 y2.2.2.2.2.2.2.1 y2.2.2.2.2.2.2.2 (A 11) _ _ ls hW (lv_sub hl [1] rfl) hf
      · have hf := ite_f hc5 hf
        refine lv_aload_n C0.1 C0.2.1 dX9_readsWar_44 rfl (lv_at hl 1 rfl) ?_
        refine lv_iconst (v := 4) C0.1 C0.2.1 dX9_readsWar_45 kI_4 ?_
        obtain ⟨y15, hy15, hf⟩ := b_some hf
        refine c_Vi C0 hK hN hl.1 hW hA (KX9_fails l D cy  ad P V (gp I [(0, 4, y2.2.1), (0, 5, y2.2.2.1), (0, 6, y2.2.2.2.1), (0, 8, y2.2.2.2.2.1), (0, 9, y2.2.2.2.2.2.1), (0, 38, y2.2.2.2.2.2.2.1)]) (gp J [(0, 7, y2.2.2.2.2.2.2.2)]) (gm A [(11, (A 11))]) (gm B []) 4 hy15) (JN_id rfl rfl rfl rfl) (Uw_V uw_1282 uw_1284 us_42 uw_14 uw_1285) rfl rfl hd_X9_fails ⟨rfl, rfl⟩ rfl (dn_some LY_X9_0) rfl rfl rfl dX9_readsWar_46 ⟨Nat.zero_le _, Nat.zero_le _⟩ (fun H locs hW => ?_)
        have hW : wd D (dn cy LY_X9 ad P V (gp I [(0, 4, y2.2.1), (0, 5, y2.2.2.1), (0, 6, y2.2.2.2.1), (0, 8, y2.2.2.2.2.1), (0, 9, y15.2), (0, 38, y2.2.2.2.2.2.2.1)]) (gp J [(0, 7, y2.2.2.2.2.2.2.2)]) (gm A [(11, (A 11))]) (gm B [])) Af s.heap H locs := hW
        obtain rfl := Option.some.inj hf
        exact r_bool C0 hK hW (v' := (vp_nar .boolean y15.1)) rfl dX9_readsWar_49
    · have hf := ite_f hc4 hf
      refine lv_aload_n C0.1 C0.2.1 dX9_readsWar_29 rfl (lv_at hl 1 rfl) ?_
      refine lv_iconst (v := 1) C0.1 C0.2.1 dX9_readsWar_30 kI_1 ?_
      obtain ⟨y16, hy16, hf⟩ := b_some hf
      refine c_Vi C0 hK hN hl.1 hW hA (KX9_fails l D cy  ad P V (gp I [(0, 4, y2.2.1), (0, 5, y2.2.2.1), (0, 6, y2.2.2.2.1), (0, 8, y2.2.2.2.2.1), (0, 9, y2.2.2.2.2.2.1), (0, 38, y2.2.2.2.2.2.2.1)]) (gp J [(0, 7, y2.2.2.2.2.2.2.2)]) (gm A [(11, (A 11))]) (gm B []) 1 hy16) (JN_id rfl rfl rfl rfl) (Uw_V uw_1282 uw_1284 us_42 uw_14 uw_1285) rfl rfl hd_X9_fails ⟨rfl, rfl⟩ rfl (dn_some LY_X9_0) rfl rfl rfl dX9_readsWar_31 ⟨Nat.zero_le _, Nat.zero_le _⟩ (fun H locs hW => ?_)
      have hW : wd D (dn cy LY_X9 ad P V (gp I [(0, 4, y2.2.1), (0, 5, y2.2.2.1), (0, 6, y2.2.2.2.1), (0, 8, y2.2.2.2.2.1), (0, 9, y16.2), (0, 38, y2.2.2.2.2.2.2.1)]) (gp J [(0, 7, y2.2.2.2.2.2.2.2)]) (gm A [(11, (A 11))]) (gm B [])) Af s.heap H locs := hW
      obtain rfl := Option.some.inj hf
      exact r_bool C0 hK hW (v' := (vp_nar .boolean y16.1)) rfl dX9_readsWar_34
  · have hf := ite_t hc3 hf
    refine lv_iconst (v := 0) C0.1 C0.2.1 dX9_readsWar_14 kI_0 ?_
    obtain rfl := Option.some.inj hf
    exact r_bool C0 hK hW (v' := 0) rfl dX9_readsWar_15
