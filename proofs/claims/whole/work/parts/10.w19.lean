-- X9_canCross
def rmX9_canCross : Room := { frames := 5, cells := 0, slots := 0, locals := 113 }
def fX9_canCross (m_terrace : (Nat → Int32)) (m_holeFlag : (Nat → Int32)) (m_walls : (Nat → Int32)) (m_kind : (Nat → Int32)) (m_guestFlag : (Nat → Int32)) (m_wars : (Nat → Int32)) (m_lineFrom : (Nat → Int32)) (m_lineTo : (Nat → Int32)) (m_codes : (Nat → Int32)) (m_s : (Nat → Int32)) (m_kept : (Nat → Int32)) (m_keptBy : (Nat → Int32)) (m_ahead : (Nat → Int32)) (m_against : (Nat → Int32)) (m_sum : (Nat → Int32)) (m_sumBy : (Nat → Int32)) (m_term : (Nat → Int32)) (m_termBy : (Nat → Int32)) (m_byNot : (Nat → Int32)) (m_valueOf : (Nat → Int32)) (v1 : Int32) (v2 : Int32) : Option (Int32 × (Nat → Int32) × (Nat → Int32) × (Nat → Int32) × (Nat → Int32) × (Nat → Int32) × (Nat → Int32) × (Nat → Int32) × (Nat → Int32) × (Nat → Int32) × (Nat → Int32)) := bif inb (8 + v1) 13 then (if (m_s (Int32.toNatClampNeg (8 + v1))) ≤ 0 then (some (0, m_kept, m_keptBy, m_ahead, m_against, m_sum, m_sumBy, m_term, m_termBy, m_byNot, m_valueOf)) else (bif inb (8 + v1) 13 then (bif inb ((m_s (Int32.toNatClampNeg (8 + v1))) - 1) 10 then (if (((m_walls (Int32.toNatClampNeg ((m_s (Int32.toNatClampNeg (8 + v1))) - 1))) >>> (v2 &&& 31)) &&& 1) = 1 then (Option.bind (fX9_isTakenBy m_terrace m_holeFlag m_kind m_guestFlag m_wars m_lineFrom m_lineTo m_codes m_s m_kept m_keptBy m_ahead m_against m_sum m_sumBy m_term m_termBy m_byNot m_valueOf v2 v1) fun y6 => (if y6.1 = 0 then (some (0, y6.2.1, y6.2.2.1, y6.2.2.2.1, y6.2.2.2.2.1, y6.2.2.2.2.2.1, y6.2.2.2.2.2.2.1, y6.2.2.2.2.2.2.2.1, y6.2.2.2.2.2.2.2.2.1, y6.2.2.2.2.2.2.2.2.2.1, y6.2.2.2.2.2.2.2.2.2.2)) else (some (1, y6.2.1, y6.2.2.1, y6.2.2.2.1, y6.2.2.2.2.1, y6.2.2.2.2.2.1, y6.2.2.2.2.2.2.1, y6.2.2.2.2.2.2.2.1, y6.2.2.2.2.2.2.2.2.1, y6.2.2.2.2.2.2.2.2.2.1, y6.2.2.2.2.2.2.2.2.2.2)))) else (some (0, m_kept, m_keptBy, m_ahead, m_against, m_sum, m_sumBy, m_term, m_termBy, m_byNot, m_valueOf))) else none) else none)) else none
set_option maxHeartbeats 4000000 in
set_option maxRecDepth 100000 in
theorem KX9_canCross (l : Launch) (D : va_G) (cy : Nat → ClassId) (ad : Nat → Nat) (P : MP) (V : MV) (I : MI) (J : MJ) (A : MI) (B : MJ) (v1 : Int32) (v2 : Int32) {res : Int32 × (Nat → Int32) × (Nat → Int32) × (Nat → Int32) × (Nat → Int32) × (Nat → Int32) × (Nat → Int32) × (Nat → Int32) × (Nat → Int32) × (Nat → Int32) × (Nat → Int32)} (hf : fX9_canCross (A 2) (A 5) (A 8) (A 9) (A 10) (A 11) (A 13) (A 14) (A 15) (A 35) (A 18) (A 19) (A 20) (A 21) (A 22) (A 23) (A 24) (A 25) (A 26) (A 27) v1 v2 = some res) : CG l yX9_canCross cX9_canCross 3 (some .boolean) rmX9_canCross D cy (dn cy LY_X9 ad P V I J A B) [.ref (ad 0), .int v1, .int v2] (some (.int res.1)) (dn cy LY_X9 ad P V (gp I []) (gp J []) (gm A [(18, res.2.1), (19, res.2.2.1), (20, res.2.2.2.1), (21, res.2.2.2.2.1), (22, res.2.2.2.2.2.1), (23, res.2.2.2.2.2.2.1), (24, res.2.2.2.2.2.2.2.1), (25, res.2.2.2.2.2.2.2.2.1), (26, res.2.2.2.2.2.2.2.2.2.1), (27, res.2.2.2.2.2.2.2.2.2.2)]) (gm B [])) := by
  refine CG.of (own := RX9) (by decide) rfl rfl ?_
  intro p e s m below meth c ls Af C0 hK hN hA hW hl
  have hW : wd D (dn cy LY_X9 ad P V (gp I []) (gp J []) (gm A [(18, (A 18)), (19, (A 19)), (20, (A 20)), (21, (A 21)), (22, (A 22)), (23, (A 23)), (24, (A 24)), (25, (A 25)), (26, (A 26)), (27, (A 27))]) (gm B [])) Af s.heap s.heap [] := wd_sel [] [] [18, 19, 20, 21, 22, 23, 24, 25, 26, 27] [] hW
  have hl : lv_has ls 3 [(0, .ref (ad 0)), (1, .int v1), (2, .int v2)] := hl
  unfold fX9_canCross at hf
  refine lv_aload_n C0.1 C0.2.1 dX9_canCross_0 rfl (lv_at hl 0 rfl) ?_
  refine s_get (v := .ref (ad 35)) C0 hK hW 0 47 LY_X9_0 rfl fg_X9_114 rfl dX9_canCross_1 ?_
  refine lv_bipush (v := 8) C0.1 C0.2.1 dX9_canCross_4 kB_8 ?_
  refine lv_iload_n C0.1 C0.2.1 dX9_canCross_6 rfl (lv_at hl 1 rfl) ?_
  refine lv_iadd C0.1 C0.2.1 dX9_canCross_7 ?_
  obtain ⟨hb1, hf⟩ := g_some hf
  refine s_iald (v := ((A 35) (Int32.toNatClampNeg (8 + v1)))) C0 hK hW 35 LY_X9_35 hb1 rfl dX9_canCross_8 ?_
  refine lv_if_le (tgt := 49) C0.1 C0.2.1 dX9_canCross_9 (by decide) (fun hc2 => ?_) (fun hc2 => ?_)
  · have hf := ite_t hc2 hf
    refine lv_iconst (v := 0) C0.1 C0.2.1 dX9_canCross_49 kI_0 ?_
    obtain rfl := Option.some.inj hf
    exact r_bool C0 hK hW (v' := 0) rfl dX9_canCross_50
  · have hf := ite_f hc2 hf
    refine lv_aload_n C0.1 C0.2.1 dX9_canCross_12 rfl (lv_at hl 0 rfl) ?_
    refine s_get (v := .ref (ad 8)) C0 hK hW 0 16 LY_X9_0 rfl fg_X9_32 rfl dX9_canCross_13 ?_
    refine lv_aload_n C0.1 C0.2.1 dX9_canCross_16 rfl (lv_at hl 0 rfl) ?_
    refine s_get (v := .ref (ad 35)) C0 hK hW 0 47 LY_X9_0 rfl fg_X9_114 rfl dX9_canCross_17 ?_
    refine lv_bipush (v := 8) C0.1 C0.2.1 dX9_canCross_20 kB_8 ?_
    refine lv_iload_n C0.1 C0.2.1 dX9_canCross_22 rfl (lv_at hl 1 rfl) ?_
    refine lv_iadd C0.1 C0.2.1 dX9_canCross_23 ?_
    obtain ⟨hb3, hf⟩ := g_some hf
    refine s_iald (v := ((A 35) (Int32.toNatClampNeg (8 + v1)))) C0 hK hW 35 LY_X9_35 hb3 rfl dX9_canCross_24 ?_
    refine lv_iconst (v := 1) C0.1 C0.2.1 dX9_canCross_25 kI_1 ?_
    refine lv_isub C0.1 C0.2.1 dX9_canCross_26 ?_
    obtain ⟨hb4, hf⟩ := g_some hf
    refine s_iald (v := ((A 8) (Int32.toNatClampNeg (((A 35) (Int32.toNatClampNeg (8 + v1))) - 1)))) C0 hK hW 8 LY_X9_8 hb4 rfl dX9_canCross_27 ?_
    refine lv_iload_n C0.1 C0.2.1 dX9_canCross_28 rfl (lv_at hl 2 rfl) ?_
    refine lv_ishr C0.1 C0.2.1 dX9_canCross_29 ?_
    refine lv_iconst (v := 1) C0.1 C0.2.1 dX9_canCross_30 kI_1 ?_
    refine lv_iand C0.1 C0.2.1 dX9_canCross_31 ?_
    refine lv_iconst (v := 1) C0.1 C0.2.1 dX9_canCross_32 kI_1 ?_
    refine lv_icmp_ne (tgt := 49) C0.1 C0.2.1 dX9_canCross_33 (by decide) (fun hc5 => ?_) (fun hc5 => ?_)
    · have hf := ite_f hc5 hf
      refine lv_iconst (v := 0) C0.1 C0.2.1 dX9_canCross_49 kI_0 ?_
      obtain rfl := Option.some.inj hf
      exact r_bool C0 hK hW (v' := 0) rfl dX9_canCross_50
    · have hf := ite_t hc5 hf
      refine lv_aload_n C0.1 C0.2.1 dX9_canCross_36 rfl (lv_at hl 0 rfl) ?_
      refine lv_iload_n C0.1 C0.2.1 dX9_canCross_37 rfl (lv_at hl 2 rfl) ?_
      refine lv_iload_n C0.1 C0.2.1 dX9_canCross_38 rfl (lv_at hl 1 rfl) ?_
      obtain ⟨y6, hy6, hf⟩ := b_some hf
      refine c_Vi C0 hK hN hl.1 hW hA (KX9_isTakenBy l D cy  ad P V (gp I []) (gp J []) (gm A [(18, (A 18)), (19, (A 19)), (20, (A 20)), (21, (A 21)), (22, (A 22)), (23, (A 23)), (24, (A 24)), (25, (A 25)), (26, (A 26)), (27, (A 27))]) (gm B []) v2 v1 hy6) (JN_id rfl rfl rfl rfl) (Uw_V uw_1428 uw_1430 us_68 uw_14 uw_1431) rfl rfl hd_X9_isTakenBy ⟨rfl, rfl⟩ rfl (dn_some LY_X9_0) rfl rfl rfl dX9_canCross_39 ⟨Nat.zero_le _, Nat.zero_le _⟩ (fun H locs hW => ?_)
      have hW : wd D (dn cy LY_X9 ad P V (gp I []) (gp J []) (gm A [(18, y6.2.1), (19, y6.2.2.1), (20, y6.2.2.2.1), (21, y6.2.2.2.2.1), (22, y6.2.2.2.2.2.1), (23, y6.2.2.2.2.2.2.1), (24, y6.2.2.2.2.2.2.2.1), (25, y6.2.2.2.2.2.2.2.2.1), (26, y6.2.2.2.2.2.2.2.2.2.1), (27, y6.2.2.2.2.2.2.2.2.2.2)]) (gm B [])) Af s.heap H locs := hW
      refine lv_if_eq (tgt := 49) C0.1 C0.2.1 dX9_canCross_42 (by decide) (fun hc7 => ?_) (fun hc7 => ?_)
      · have hf := ite_t hc7 hf
        refine lv_iconst (v := 0) C0.1 C0.2.1 dX9_canCross_49 kI_0 ?_
        obtain rfl := Option.some.inj hf
        exact r_bool C0 hK hW (v' := 0) rfl dX9_canCross_50
      · have hf := ite_f hc7 hf
        refine lv_iconst (v := 1) C0.1 C0.2.1 dX9_canCross_45 kI_1 ?_
        refine lv_goto (tgt := 50) C0.1 C0.2.1 dX9_canCross_46 (by decide) ?_
        obtain rfl := Option.some.inj hf
        exact r_bool C0 hK hW (v' := 1) rfl dX9_canCross_50
-- X9_brings
def rmX9_brings : Room := { frames := 1, cells := 0, slots := 0, locals := 21 }
def fX9_brings (m_terrace : (Nat → Int32)) (m_s : (Nat → Int32)) (v1 : Int32) : Option ((Nat → Int32)) := bif inb (3 + v1) 13 then (bif inb (3 + v1) 13 then (some ((upd (upd m_s (Int32.toNatClampNeg (3 + v1)) (imin 99 ((m_s (Int32.toNatClampNeg (3 + v1))) + (m_terrace 2)))) 2 (((upd m_s (Int32.toNatClampNeg (3 + v1)) (imin 99 ((m_s (Int32.toNatClampNeg (3 + v1))) + (m_terrace 2)))) 2) + 1)))) else none) else none
set_option maxHeartbeats 4000000 in
set_option maxRecDepth 100000 in
theorem KX9_brings (l : Launch) (D : va_G) (cy : Nat → ClassId) (ad : Nat → Nat) (P : MP) (V : MV) (I : MI) (J : MJ) (A : MI) (B : MJ) (v1 : Int32) {res : (Nat → Int32)} (hf : fX9_brings (A 2) (A 35) v1 = some res) : CG l yX9_brings cX9_brings 2 none rmX9_brings D cy (dn cy LY_X9 ad P V I J A B) [.ref (ad 0), .int v1] none (dn cy LY_X9 ad P V (gp I []) (gp J []) (gm A [(35, res)]) (gm B [])) := by
  refine CG.of (own := RX9) (by decide) rfl rfl ?_
  intro p e s m below meth c ls Af C0 hK hN hA hW hl
  have hW : wd D (dn cy LY_X9 ad P V (gp I []) (gp J []) (gm A [(35, (A 35))]) (gm B [])) Af s.heap s.heap [] := wd_sel [] [] [35] [] hW
  have hl : lv_has ls 2 [(0, .ref (ad 0)), (1, .int v1)] := hl
  unfold fX9_brings at hf
  refine lv_aload_n C0.1 C0.2.1 dX9_brings_0 rfl (lv_at hl 0 rfl) ?_
  refine s_get (v := .ref (ad 35)) C0 hK hW 0 47 LY_X9_0 rfl fg_X9_114 rfl dX9_brings_1 ?_
  refine lv_iconst (v := 3) C0.1 C0.2.1 dX9_brings_4 kI_3 ?_
  refine lv_iload_n C0.1 C0.2.1 dX9_brings_5 rfl (lv_at hl 1 rfl) ?_
  refine lv_iadd C0.1 C0.2.1 dX9_brings_6 ?_
  refine lv_bipush (v := 99) C0.1 C0.2.1 dX9_brings_7 kB_99 ?_
  refine lv_aload_n C0.1 C0.2.1 dX9_brings_9 rfl (lv_at hl 0 rfl) ?_
  refine s_get (v := .ref (ad 35)) C0 hK hW 0 47 LY_X9_0 rfl fg_X9_114 rfl dX9_brings_10 ?_
  refine lv_iconst (v := 3) C0.1 C0.2.1 dX9_brings_13 kI_3 ?_
  refine lv_iload_n C0.1 C0.2.1 dX9_brings_14 rfl (lv_at hl 1 rfl) ?_
  refine lv_iadd C0.1 C0.2.1 dX9_brings_15 ?_
  obtain ⟨hb1, hf⟩ := g_some hf
  refine s_iald (v := ((A 35) (Int32.toNatClampNeg (3 + v1)))) C0 hK hW 35 LY_X9_35 hb1 rfl dX9_brings_16 ?_
  refine lv_aload_n C0.1 C0.2.1 dX9_brings_17 rfl (lv_at hl 0 rfl) ?_
  refine s_get (v := .ref (ad 2)) C0 hK hW 0 10 LY_X9_0 rfl fg_X9_13 rfl dX9_brings_18 ?_
  refine lv_iconst (v := 2) C0.1 C0.2.1 dX9_brings_21 kI_2 ?_
  refine s_iald (v := ((A 2) 2)) C0 hK hW 2 LY_X9_2 rfl (congrArg _ tc_2) dX9_brings_22 ?_
  refine lv_iadd C0.1 C0.2.1 dX9_brings_23 ?_
  refine s_min C0 hl.1 uw_1518 uw_700 uw_16 uw_701 (Nat.le_of_ble_eq_true rfl) (Nat.le_of_ble_eq_true rfl) (Nat.zero_le _) (Nat.zero_le _) dX9_brings_24 ?_
  obtain ⟨hb2, hf⟩ := g_some hf
  refine s_iast (f := (upd (A 35) (Int32.toNatClampNeg (3 + v1)) (imin 99 (((A 35) (Int32.toNatClampNeg (3 + v1))) + ((A 2) 2))))) C0 hK hW 35 LY_X9_35 hb2 rfl rfl dX9_brings_27 (fun H locs hW => ?_)
  have hW : wd D (dn cy LY_X9 ad P V (gp I []) (gp J []) (gm A [(35, (upd (A 35) (Int32.toNatClampNeg (3 + v1)) (imin 99 (((A 35) (Int32.toNatClampNeg (3 + v1))) + ((A 2) 2)))))]) (gm B [])) Af s.heap H locs := hW
  refine lv_aload_n C0.1 C0.2.1 dX9_brings_28 rfl (lv_at hl 0 rfl) ?_
  refine s_get (v := .ref (ad 35)) C0 hK hW 0 47 LY_X9_0 rfl fg_X9_114 rfl dX9_brings_29 ?_
  refine lv_iconst (v := 2) C0.1 C0.2.1 dX9_brings_32 kI_2 ?_
  refine lv_dup2_11 C0.1 C0.2.1 dX9_brings_33 rfl rfl ?_
  refine s_iald (v := ((upd (A 35) (Int32.toNatClampNeg (3 + v1)) (imin 99 (((A 35) (Int32.toNatClampNeg (3 + v1))) + ((A 2) 2)))) 2)) C0 hK hW 35 LY_X9_35 rfl (congrArg _ tc_2) dX9_brings_34 ?_
  refine lv_iconst (v := 1) C0.1 C0.2.1 dX9_brings_35 kI_1 ?_
  refine lv_iadd C0.1 C0.2.1 dX9_brings_36 ?_
  refine s_iast (f := (upd (upd (A 35) (Int32.toNatClampNeg (3 + v1)) (imin 99 (((A 35) (Int32.toNatClampNeg (3 + v1))) + ((A 2) 2)))) 2 (((upd (A 35) (Int32.toNatClampNeg (3 + v1)) (imin 99 (((A 35) (Int32.toNatClampNeg (3 + v1))) + ((A 2) 2)))) 2) + 1))) C0 hK hW 35 LY_X9_35 rfl rfl (congrArg (fun z => upd _ z _) tc_2) dX9_brings_37 (fun H locs hW => ?_)
  have hW : wd D (dn cy LY_X9 ad P V (gp I []) (gp J []) (gm A [(35, (upd (upd (A 35) (Int32.toNatClampNeg (3 + v1)) (imin 99 (((A 35) (Int32.toNatClampNeg (3 + v1))) + ((A 2) 2)))) 2 (((upd (A 35) (Int32.toNatClampNeg (3 + v1)) (imin 99 (((A 35) (Int32.toNatClampNeg (3 + v1))) + ((A 2) 2)))) 2) + 1)))]) (gm B [])) Af s.heap H locs := hW
  obtain rfl := Option.some.inj hf
  exact r_void C0 hK hW dX9_brings_38
-- X9_coldOf
def rmX9_coldOf : Room := { frames := 1, cells := 0, slots := 0, locals := 21 }
def fX9_coldOf (m_terrace : (Nat → Int32)) (m_cold : (Nat → Int32)) (v1 : Int32) : Option (Int32) := if (m_terrace 3) = 0 then (some (1)) else (if (m_terrace 3) = 0 then none else (bif inb (v1 - v1 / (m_terrace 3) * (m_terrace 3)) 24 then (some ((m_cold (Int32.toNatClampNeg (v1 - v1 / (m_terrace 3) * (m_terrace 3)))))) else none))
set_option maxHeartbeats 4000000 in
set_option maxRecDepth 100000 in
theorem KX9_coldOf (l : Launch) (D : va_G) (cy : Nat → ClassId) (ad : Nat → Nat) (P : MP) (V : MV) (I : MI) (J : MJ) (A : MI) (B : MJ) (v1 : Int32) {res : Int32} (hf : fX9_coldOf (A 2) (A 12) v1 = some res) : CG l yX9_coldOf cX9_coldOf 2 (some .int) rmX9_coldOf D cy (dn cy LY_X9 ad P V I J A B) [.ref (ad 0), .int v1] (some (.int res)) (dn cy LY_X9 ad P V (gp I []) (gp J []) (gm A []) (gm B [])) := by
  refine CG.of (own := RX9) (by decide) rfl rfl ?_
  intro p e s m below meth c ls Af C0 hK hN hA hW hl
  have hW : wd D (dn cy LY_X9 ad P V (gp I []) (gp J []) (gm A []) (gm B [])) Af s.heap s.heap [] := wd_sel [] [] [] [] hW
  have hl : lv_has ls 2 [(0, .ref (ad 0)), (1, .int v1)] := hl
  unfold fX9_coldOf at hf
  refine lv_aload_n C0.1 C0.2.1 dX9_coldOf_0 rfl (lv_at hl 0 rfl) ?_
  refine s_get (v := .ref (ad 2)) C0 hK hW 0 10 LY_X9_0 rfl fg_X9_13 rfl dX9_coldOf_1 ?_
  refine lv_iconst (v := 3) C0.1 C0.2.1 dX9_coldOf_4 kI_3 ?_
  refine s_iald (v := ((A 2) 3)) C0 hK hW 2 LY_X9_2 rfl (congrArg _ tc_3) dX9_coldOf_5 ?_
  refine lv_if_ne (tgt := 13) C0.1 C0.2.1 dX9_coldOf_6 (by decide) (fun hc1 => ?_) (fun hc1 => ?_)
  · have hf := ite_f hc1 hf
    refine lv_aload_n C0.1 C0.2.1 dX9_coldOf_13 rfl (lv_at hl 0 rfl) ?_
    refine s_get (v := .ref (ad 12)) C0 hK hW 0 20 LY_X9_0 rfl fg_X9_44 rfl dX9_coldOf_14 ?_
    refine lv_iload_n C0.1 C0.2.1 dX9_coldOf_17 rfl (lv_at hl 1 rfl) ?_
    refine lv_aload_n C0.1 C0.2.1 dX9_coldOf_18 rfl (lv_at hl 0 rfl) ?_
    refine s_get (v := .ref (ad 2)) C0 hK hW 0 10 LY_X9_0 rfl fg_X9_13 rfl dX9_coldOf_19 ?_
    refine lv_iconst (v := 3) C0.1 C0.2.1 dX9_coldOf_22 kI_3 ?_
    refine s_iald (v := ((A 2) 3)) C0 hK hW 2 LY_X9_2 rfl (congrArg _ tc_3) dX9_coldOf_23 ?_
    obtain ⟨hz2, hf⟩ := z_some hf
    refine lv_irem C0.1 C0.2.1 dX9_coldOf_24 hz2 ?_
    obtain ⟨hb3, hf⟩ := g_some hf
    refine s_iald (v := ((A 12) (Int32.toNatClampNeg (v1 - v1 / ((A 2) 3) * ((A 2) 3))))) C0 hK hW 12 LY_X9_12 hb3 rfl dX9_coldOf_25 ?_
    obtain rfl := Option.some.inj hf
    exact r_int C0 hK hW dX9_coldOf_26
  · have hf := ite_t hc1 hf
    refine lv_iconst (v := 1) C0.1 C0.2.1 dX9_coldOf_9 kI_1 ?_
    refine lv_goto (tgt := 26) C0.1 C0.2.1 dX9_coldOf_10 (by decide) ?_
    obtain rfl := Option.some.inj hf
    exact r_int C0 hK hW dX9_coldOf_26
-- X9_passes
def rmX9_passes : Room := { frames := 2, cells := 0, slots := 0, locals := 42 }
def SX9_passes_133 (p : Program) (l : Launch) (e : Env) (s : State) (m : MethodId) (args : Array Value) (below : List Frame) (meth : Method) (c : Code) (D : va_G) (cy : Nat → ClassId) (ad : Nat → Nat) (P : MP) (V : MV) (I : MI) (J : MJ) (A : MI) (B : MJ) (Af : Nat → Prop) (res : Int32 × (Nat → Int32)) (k : (Nat → Int32) → Int32 → Int32 → Option (Int32 × (Nat → Int32))) : Prop := ∀ (m_s : (Nat → Int32)) (v1 : Int32) (v2 : Int32) (H : Heap) (locs : List Loc) (ls : Array Slot), wd D (dn cy LY_X9 ad P V (gp I []) (gp J []) (gm A [(35, m_s)]) (gm B [])) Af s.heap H locs → lv_has ls 3 [(0, .ref (ad 0)), (1, .int v1), (2, .int v2)] → k m_s v1 v2 = some res → W p l e rmX9_passes s m args below meth c H locs 0 0 (ZQ below D cy (dn cy LY_X9 ad P V (gp I []) (gp J []) (gm A [(35, res.2)]) (gm B [])) (some (.int res.1)) Af args s) (F0 m 133 ls [])
def SX9_passes_70 (p : Program) (l : Launch) (e : Env) (s : State) (m : MethodId) (args : Array Value) (below : List Frame) (meth : Method) (c : Code) (D : va_G) (cy : Nat → ClassId) (ad : Nat → Nat) (P : MP) (V : MV) (I : MI) (J : MJ) (A : MI) (B : MJ) (Af : Nat → Prop) (res : Int32 × (Nat → Int32)) (k : (Nat → Int32) → Int32 → Int32 → Option (Int32 × (Nat → Int32))) : Prop := ∀ (m_s : (Nat → Int32)) (v1 : Int32) (v2 : Int32) (H : Heap) (locs : List Loc) (ls : Array Slot), wd D (dn cy LY_X9 ad P V (gp I []) (gp J []) (gm A [(35, m_s)]) (gm B [])) Af s.heap H locs → lv_has ls 3 [(0, .ref (ad 0)), (1, .int v1), (2, .int v2)] → k m_s v1 v2 = some res → W p l e rmX9_passes s m args below meth c H locs 0 0 (ZQ below D cy (dn cy LY_X9 ad P V (gp I []) (gp J []) (gm A [(35, res.2)]) (gm B [])) (some (.int res.1)) Af args s) (F0 m 70 ls [])
def SX9_passes_9 (p : Program) (l : Launch) (e : Env) (s : State) (m : MethodId) (args : Array Value) (below : List Frame) (meth : Method) (c : Code) (D : va_G) (cy : Nat → ClassId) (ad : Nat → Nat) (P : MP) (V : MV) (I : MI) (J : MJ) (A : MI) (B : MJ) (Af : Nat → Prop) (res : Int32 × (Nat → Int32)) (k : (Nat → Int32) → Int32 → Int32 → Option (Int32 × (Nat → Int32))) : Prop := ∀ (m_s : (Nat → Int32)) (v1 : Int32) (v2 : Int32) (H : Heap) (locs : List Loc) (ls : Array Slot), wd D (dn cy LY_X9 ad P V (gp I []) (gp J []) (gm A [(35, m_s)]) (gm B [])) Af s.heap H locs → lv_has ls 3 [(0, .ref (ad 0)), (1, .int v1), (2, .int v2)] → k m_s v1 v2 = some res → W p l e rmX9_passes s m args below meth c H locs 0 0 (ZQ below D cy (dn cy LY_X9 ad P V (gp I []) (gp J []) (gm A [(35, res.2)]) (gm B [])) (some (.int res.1)) Af args s) (F0 m 9 ls [])
def fX9_passes_133 (m_colder : Int32) (m_terrace : (Nat → Int32)) (m_burns : (Nat → Int32)) (m_kind : (Nat → Int32)) (m_cold : (Nat → Int32)) (k70 : (Nat → Int32) → Int32 → Int32 → Option (Int32 × (Nat → Int32))) (m_s : (Nat → Int32)) (v1 : Int32) (v2 : Int32) : Option (Int32 × (Nat → Int32)) := bif inb (8 + v2) 13 then (if (m_s (Int32.toNatClampNeg (8 + v2))) = 0 then (bif inb v2 10 then (if (m_kind (Int32.toNatClampNeg v2)) = 1 then (k70 (upd m_s 1 ((m_s 1) ||| (1 <<< (v2 &&& 31)))) v1 (v2 + 1)) else (k70 m_s v1 (v2 + 1))) else none) else (k70 m_s v1 (v2 + 1))) else none
set_option maxHeartbeats 4000000 in
set_option maxRecDepth 100000 in
theorem tX9_passes_133 {p : Program} {l : Launch} {e : Env} {s : State} {m : MethodId} {args : Array Value} {below : List Frame} {meth : Method} {c : Code} {D : va_G} {cy : Nat → ClassId} {ad : Nat → Nat} {P : MP} {V : MV} {I : MI} {J : MJ} {A : MI} {B : MJ} {Af : Nat → Prop} {res : Int32 × (Nat → Int32)} (C0 : CX p s m args meth c cX9_passes 3 (some .int) RX9) (hK : va_K D vwCl (tyG cy) s) (hN : NWs s) (hA : ∀ q, s.heap.size ≤ q → Af q) {k70 : (Nat → Int32) → Int32 → Int32 → Option (Int32 × (Nat → Int32))} (hk70 : SX9_passes_70 p l e s m args below meth c D cy ad P V I J A B Af res k70) : SX9_passes_133 p l e s m args below meth c D cy ad P V I J A B Af res (fX9_passes_133 (I 0 54) (A 2) (A 7) (A 9) (A 12) k70) := by
  intro m_s v1 v2 H locs ls hW hl hf
  unfold fX9_passes_133 at hf
  refine lv_aload_n C0.1 C0.2.1 dX9_passes_133 rfl (lv_at hl 0 rfl) ?_
  refine s_get (v := .ref (ad 35)) C0 hK hW 0 47 LY_X9_0 rfl fg_X9_114 rfl dX9_passes_134 ?_
  refine lv_bipush (v := 8) C0.1 C0.2.1 dX9_passes_137 kB_8 ?_
  refine lv_iload_n C0.1 C0.2.1 dX9_passes_139 rfl (lv_at hl 2 rfl) ?_
  refine lv_iadd C0.1 C0.2.1 dX9_passes_140 ?_
  obtain ⟨hb1, hf⟩ := g_some hf
  refine s_iald (v := (m_s (Int32.toNatClampNeg (8 + v2)))) C0 hK hW 35 LY_X9_35 hb1 rfl dX9_passes_141 ?_
  refine lv_if_ne (tgt := 167) C0.1 C0.2.1 dX9_passes_142 (by decide) (fun hc2 => ?_) (fun hc2 => ?_)
  · have hf := ite_f hc2 hf
    refine lv_iinc (v := (v2 + 1)) (lv' := [(2, .int (v2 + 1)), (0, .ref (ad 0)), (1, .int v1)]) C0.1 C0.2.1 dX9_passes_167 hl (k := 2) rfl (congrArg (fun z => _ + z) kI_1) (by decide) rfl (fun ls hl => ?_)
    refine lv_goto (tgt := 70) C0.1 C0.2.1 dX9_passes_170 (by decide) ?_
    exact hk70 m_s v1 (v2 + 1) H locs ls hW (lv_sub hl [1, 2, 0] rfl) hf
  · have hf := ite_t hc2 hf
    refine lv_aload_n C0.1 C0.2.1 dX9_passes_145 rfl (lv_at hl 0 rfl) ?_
    refine s_get (v := .ref (ad 9)) C0 hK hW 0 17 LY_X9_0 rfl fg_X9_35 rfl dX9_passes_146 ?_
    refine lv_iload_n C0.1 C0.2.1 dX9_passes_149 rfl (lv_at hl 2 rfl) ?_
    obtain ⟨hb3, hf⟩ := g_some hf
    refine s_iald (v := ((A 9) (Int32.toNatClampNeg v2))) C0 hK hW 9 LY_X9_9 hb3 rfl dX9_passes_150 ?_
    refine lv_iconst (v := 1) C0.1 C0.2.1 dX9_passes_151 kI_1 ?_
    refine lv_icmp_ne (tgt := 167) C0.1 C0.2.1 dX9_passes_152 (by decide) (fun hc4 => ?_) (fun hc4 => ?_)
    · have hf := ite_f hc4 hf
      refine lv_iinc (v := (v2 + 1)) (lv' := [(2, .int (v2 + 1)), (0, .ref (ad 0)), (1, .int v1)]) C0.1 C0.2.1 dX9_passes_167 hl (k := 2) rfl (congrArg (fun z => _ + z) kI_1) (by decide) rfl (fun ls hl => ?_)
      refine lv_goto (tgt := 70) C0.1 C0.2.1 dX9_passes_170 (by decide) ?_
      exact hk70 m_s v1 (v2 + 1) H locs ls hW (lv_sub hl [1, 2, 0] rfl) hf
    · have hf := ite_t hc4 hf
      refine lv_aload_n C0.1 C0.2.1 dX9_passes_155 rfl (lv_at hl 0 rfl) ?_
      refine s_get (v := .ref (ad 35)) C0 hK hW 0 47 LY_X9_0 rfl fg_X9_114 rfl dX9_passes_156 ?_
      refine lv_iconst (v := 1) C0.1 C0.2.1 dX9_passes_159 kI_1 ?_
      refine lv_dup2_11 C0.1 C0.2.1 dX9_passes_160 rfl rfl ?_
      refine s_iald (v := (m_s 1)) C0 hK hW 35 LY_X9_35 rfl (congrArg _ tc_1) dX9_passes_161 ?_
      refine lv_iconst (v := 1) C0.1 C0.2.1 dX9_passes_162 kI_1 ?_
      refine lv_iload_n C0.1 C0.2.1 dX9_passes_163 rfl (lv_at hl 2 rfl) ?_
      refine lv_ishl C0.1 C0.2.1 dX9_passes_164 ?_
      refine lv_ior C0.1 C0.2.1 dX9_passes_165 ?_
      refine s_iast (f := (upd m_s 1 ((m_s 1) ||| (1 <<< (v2 &&& 31))))) C0 hK hW 35 LY_X9_35 rfl rfl (congrArg (fun z => upd _ z _) tc_1) dX9_passes_166 (fun H locs hW => ?_)
      have hW : wd D (dn cy LY_X9 ad P V (gp I []) (gp J []) (gm A [(35, (upd m_s 1 ((m_s 1) ||| (1 <<< (v2 &&& 31)))))]) (gm B [])) Af s.heap H locs := hW
      refine lv_iinc (v := (v2 + 1)) (lv' := [(2, .int (v2 + 1)), (0, .ref (ad 0)), (1, .int v1)]) C0.1 C0.2.1 dX9_passes_167 hl (k := 2) rfl (congrArg (fun z => _ + z) kI_1) (by decide) rfl (fun ls hl => ?_)
      refine lv_goto (tgt := 70) C0.1 C0.2.1 dX9_passes_170 (by decide) ?_
      exact hk70 (upd m_s 1 ((m_s 1) ||| (1 <<< (v2 &&& 31)))) v1 (v2 + 1) H locs ls hW (lv_sub hl [1, 2, 0] rfl) hf
def fX9_passes_70 (m_colder : Int32) (m_terrace : (Nat → Int32)) (m_burns : (Nat → Int32)) (m_kind : (Nat → Int32)) (m_cold : (Nat → Int32)) (k70 : (Nat → Int32) → Int32 → Int32 → Option (Int32 × (Nat → Int32))) (m_s : (Nat → Int32)) (v1 : Int32) (v2 : Int32) : Option (Int32 × (Nat → Int32)) := if (m_terrace 1) ≤ v2 then (some ((((upd m_s 0 ((m_s 0) + 1)) 1) &&& (v1 ^^^ (-1))), (upd m_s 0 ((m_s 0) + 1)))) else (bif inb (8 + v2) 13 then (if (m_s (Int32.toNatClampNeg (8 + v2))) ≤ 0 then (fX9_passes_133 m_colder m_terrace m_burns m_kind m_cold k70 m_s v1 v2) else (bif inb v2 10 then (if (m_kind (Int32.toNatClampNeg v2)) = 3 then (fX9_passes_133 m_colder m_terrace m_burns m_kind m_cold k70 m_s v1 v2) else (bif inb (8 + v2) 13 then (bif inb ((3 + (m_s (Int32.toNatClampNeg (8 + v2)))) - 1) 13 then (if (m_s (Int32.toNatClampNeg ((3 + (m_s (Int32.toNatClampNeg (8 + v2)))) - 1))) = 0 then (bif inb (8 + v2) 13 then (fX9_passes_133 m_colder m_terrace m_burns m_kind m_cold k70 (upd m_s (Int32.toNatClampNeg (8 + v2)) 0) v1 v2) else none) else (fX9_passes_133 m_colder m_terrace m_burns m_kind m_cold k70 m_s v1 v2)) else none) else none)) else none)) else none)
set_option maxHeartbeats 4000000 in
set_option maxRecDepth 100000 in
theorem tX9_passes_70 {p : Program} {l : Launch} {e : Env} {s : State} {m : MethodId} {args : Array Value} {below : List Frame} {meth : Method} {c : Code} {D : va_G} {cy : Nat → ClassId} {ad : Nat → Nat} {P : MP} {V : MV} {I : MI} {J : MJ} {A : MI} {B : MJ} {Af : Nat → Prop} {res : Int32 × (Nat → Int32)} (C0 : CX p s m args meth c cX9_passes 3 (some .int) RX9) (hK : va_K D vwCl (tyG cy) s) (hN : NWs s) (hA : ∀ q, s.heap.size ≤ q → Af q) {k70 : (Nat → Int32) → Int32 → Int32 → Option (Int32 × (Nat → Int32))} (hk70 : SX9_passes_70 p l e s m args below meth c D cy ad P V I J A B Af res k70) : SX9_passes_70 p l e s m args below meth c D cy ad P V I J A B Af res (fX9_passes_70 (I 0 54) (A 2) (A 7) (A 9) (A 12) k70) := by
  intro m_s v1 v2 H locs ls hW hl hf
  unfold fX9_passes_70 at hf
  refine lv_iload_n C0.1 C0.2.1 dX9_passes_70 rfl (lv_at hl 2 rfl) ?_
  refine lv_aload_n C0.1 C0.2.1 dX9_passes_71 rfl (lv_at hl 0 rfl) ?_
  refine s_get (v := .ref (ad 2)) C0 hK hW 0 10 LY_X9_0 rfl fg_X9_13 rfl dX9_passes_72 ?_
  refine lv_iconst (v := 1) C0.1 C0.2.1 dX9_passes_75 kI_1 ?_
  refine s_iald (v := ((A 2) 1)) C0 hK hW 2 LY_X9_2 rfl (congrArg _ tc_1) dX9_passes_76 ?_
  refine lv_icmp_ge (tgt := 173) C0.1 C0.2.1 dX9_passes_77 (by decide) (fun hc1 => ?_) (fun hc1 => ?_)
  · have hf := ite_t hc1 hf
    refine lv_aload_n C0.1 C0.2.1 dX9_passes_173 rfl (lv_at hl 0 rfl) ?_
    refine s_get (v := .ref (ad 35)) C0 hK hW 0 47 LY_X9_0 rfl fg_X9_114 rfl dX9_passes_174 ?_
    refine lv_iconst (v := 0) C0.1 C0.2.1 dX9_passes_177 kI_0 ?_
    refine lv_dup2_11 C0.1 C0.2.1 dX9_passes_178 rfl rfl ?_
    refine s_iald (v := (m_s 0)) C0 hK hW 35 LY_X9_35 rfl (congrArg _ tc_0) dX9_passes_179 ?_
    refine lv_iconst (v := 1) C0.1 C0.2.1 dX9_passes_180 kI_1 ?_
    refine lv_iadd C0.1 C0.2.1 dX9_passes_181 ?_
    refine s_iast (f := (upd m_s 0 ((m_s 0) + 1))) C0 hK hW 35 LY_X9_35 rfl rfl (congrArg (fun z => upd _ z _) tc_0) dX9_passes_182 (fun H locs hW => ?_)
    have hW : wd D (dn cy LY_X9 ad P V (gp I []) (gp J []) (gm A [(35, (upd m_s 0 ((m_s 0) + 1)))]) (gm B [])) Af s.heap H locs := hW
    refine lv_aload_n C0.1 C0.2.1 dX9_passes_183 rfl (lv_at hl 0 rfl) ?_
    refine s_get (v := .ref (ad 35)) C0 hK hW 0 47 LY_X9_0 rfl fg_X9_114 rfl dX9_passes_184 ?_
    refine lv_iconst (v := 1) C0.1 C0.2.1 dX9_passes_187 kI_1 ?_
    refine s_iald (v := ((upd m_s 0 ((m_s 0) + 1)) 1)) C0 hK hW 35 LY_X9_35 rfl (congrArg _ tc_1) dX9_passes_188 ?_
    refine lv_iload_n C0.1 C0.2.1 dX9_passes_189 rfl (lv_at hl 1 rfl) ?_
    refine lv_iconst (v := (-1)) C0.1 C0.2.1 dX9_passes_190 kI_m1 ?_
    refine lv_ixor C0.1 C0.2.1 dX9_passes_191 ?_
    refine lv_iand C0.1 C0.2.1 dX9_passes_192 ?_
    obtain rfl := Option.some.inj hf
    exact r_int C0 hK hW dX9_passes_193
  · have hf := ite_f hc1 hf
    refine lv_aload_n C0.1 C0.2.1 dX9_passes_80 rfl (lv_at hl 0 rfl) ?_
    refine s_get (v := .ref (ad 35)) C0 hK hW 0 47 LY_X9_0 rfl fg_X9_114 rfl dX9_passes_81 ?_
    refine lv_bipush (v := 8) C0.1 C0.2.1 dX9_passes_84 kB_8 ?_
    refine lv_iload_n C0.1 C0.2.1 dX9_passes_86 rfl (lv_at hl 2 rfl) ?_
    refine lv_iadd C0.1 C0.2.1 dX9_passes_87 ?_
    obtain ⟨hb2, hf⟩ := g_some hf
    refine s_iald (v := (m_s (Int32.toNatClampNeg (8 + v2)))) C0 hK hW 35 LY_X9_35 hb2 rfl dX9_passes_88 ?_
    refine lv_if_le (tgt := 133) C0.1 C0.2.1 dX9_passes_89 (by decide) (fun hc3 => ?_) (fun hc3 => ?_)
    · have hf := ite_t hc3 hf
      exact tX9_passes_133 C0 hK hN hA hk70 m_s v1 v2 H locs ls hW hl hf
    · have hf := ite_f hc3 hf
      refine lv_aload_n C0.1 C0.2.1 dX9_passes_92 rfl (lv_at hl 0 rfl) ?_
      refine s_get (v := .ref (ad 9)) C0 hK hW 0 17 LY_X9_0 rfl fg_X9_35 rfl dX9_passes_93 ?_
      refine lv_iload_n C0.1 C0.2.1 dX9_passes_96 rfl (lv_at hl 2 rfl) ?_
      obtain ⟨hb4, hf⟩ := g_some hf
      refine s_iald (v := ((A 9) (Int32.toNatClampNeg v2))) C0 hK hW 9 LY_X9_9 hb4 rfl dX9_passes_97 ?_
      refine lv_iconst (v := 3) C0.1 C0.2.1 dX9_passes_98 kI_3 ?_
      refine lv_icmp_eq (tgt := 133) C0.1 C0.2.1 dX9_passes_99 (by decide) (fun hc5 => ?_) (fun hc5 => ?_)
      · have hf := ite_t hc5 hf
        exact tX9_passes_133 C0 hK hN hA hk70 m_s v1 v2 H locs ls hW hl hf
      · have hf := ite_f hc5 hf
        refine lv_aload_n C0.1 C0.2.1 dX9_passes_102 rfl (lv_at hl 0 rfl) ?_
        refine s_get (v := .ref (ad 35)) C0 hK hW 0 47 LY_X9_0 rfl fg_X9_114 rfl dX9_passes_103 ?_
        refine lv_iconst (v := 3) C0.1 C0.2.1 dX9_passes_106 kI_3 ?_
        refine lv_aload_n C0.1 C0.2.1 dX9_passes_107 rfl (lv_at hl 0 rfl) ?_
        refine s_get (v := .ref (ad 35)) C0 hK hW 0 47 LY_X9_0 rfl fg_X9_114 rfl dX9_passes_108 ?_
        refine lv_bipush (v := 8) C0.1 C0.2.1 dX9_passes_111 kB_8 ?_
        refine lv_iload_n C0.1 C0.2.1 dX9_passes_113 rfl (lv_at hl 2 rfl) ?_
        refine lv_iadd C0.1 C0.2.1 dX9_passes_114 ?_
        obtain ⟨hb6, hf⟩ := g_some hf
        refine s_iald (v := (m_s (Int32.toNatClampNeg (8 + v2)))) C0 hK hW 35 LY_X9_35 hb6 rfl dX9_passes_115 ?_
        refine lv_iadd C0.1 C0.2.1 dX9_passes_116 ?_
        refine lv_iconst (v := 1) C0.1 C0.2.1 dX9_passes_117 kI_1 ?_
        refine lv_isub C0.1 C0.2.1 dX9_passes_118 ?_
        obtain ⟨hb7, hf⟩ := g_some hf
        refine s_iald (v := (m_s (Int32.toNatClampNeg ((3 + (m_s (Int32.toNatClampNeg (8 + v2)))) - 1)))) C0 hK hW 35 LY_X9_35 hb7 rfl dX9_passes_119 ?_
        refine lv_if_ne (tgt := 133) C0.1 C0.2.1 dX9_passes_120 (by decide) (fun hc8 => ?_) (fun hc8 => ?_)
        · have hf := ite_f hc8 hf
          exact tX9_passes_133 C0 hK hN hA hk70 m_s v1 v2 H locs ls hW hl hf
        · have hf := ite_t hc8 hf
          refine lv_aload_n C0.1 C0.2.1 dX9_passes_123 rfl (lv_at hl 0 rfl) ?_
          refine s_get (v := .ref (ad 35)) C0 hK hW 0 47 LY_X9_0 rfl fg_X9_114 rfl dX9_passes_124 ?_
          refine lv_bipush (v := 8) C0.1 C0.2.1 dX9_passes_127 kB_8 ?_
          refine lv_iload_n C0.1 C0.2.1 dX9_passes_129 rfl (lv_at hl 2 rfl) ?_
          refine lv_iadd C0.1 C0.2.1 dX9_passes_130 ?_
          refine lv_iconst (v := 0) C0.1 C0.2.1 dX9_passes_131 kI_0 ?_
          obtain ⟨hb9, hf⟩ := g_some hf
          refine s_iast (f := (upd m_s (Int32.toNatClampNeg (8 + v2)) 0)) C0 hK hW 35 LY_X9_35 hb9 rfl rfl dX9_passes_132 (fun H locs hW => ?_)
          have hW : wd D (dn cy LY_X9 ad P V (gp I []) (gp J []) (gm A [(35, (upd m_s (Int32.toNatClampNeg (8 + v2)) 0))]) (gm B [])) Af s.heap H locs := hW
          exact tX9_passes_133 C0 hK hN hA hk70 (upd m_s (Int32.toNatClampNeg (8 + v2)) 0) v1 v2 H locs ls hW hl hf
theorem TX9_passes_70 {p : Program} {l : Launch} {e : Env} {s : State} {m : MethodId} {args : Array Value} {below : List Frame} {meth : Method} {c : Code} {D : va_G} {cy : Nat → ClassId} {ad : Nat → Nat} {P : MP} {V : MV} {I : MI} {J : MJ} {A : MI} {B : MJ} {Af : Nat → Prop} {res : Int32 × (Nat → Int32)} (C0 : CX p s m args meth c cX9_passes 3 (some .int) RX9) (hK : va_K D vwCl (tyG cy) s) (hN : NWs s) (hA : ∀ q, s.heap.size ≤ q → Af q) : ∀ n, SX9_passes_70 p l e s m args below meth c D cy ad P V I J A B Af res (itr (fun kk => fX9_passes_70 (I 0 54) (A 2) (A 7) (A 9) (A 12) kk) (fun _ _ _ => none) n) := by
  intro n
  induction n with
  | zero => intro m_s v1 v2 H locs ls hW hl hf; exact (nomatch (show (none : Option (Int32 × (Nat → Int32))) = some res from hf))
  | succ n ih => exact tX9_passes_70 C0 hK hN hA  ih
def fX9_passes_9 (m_colder : Int32) (m_terrace : (Nat → Int32)) (m_burns : (Nat → Int32)) (m_kind : (Nat → Int32)) (m_cold : (Nat → Int32)) (k9 : (Nat → Int32) → Int32 → Int32 → Option (Int32 × (Nat → Int32))) (m_s : (Nat → Int32)) (v1 : Int32) (v2 : Int32) : Option (Int32 × (Nat → Int32)) := if (m_terrace 0) ≤ v2 then (itr (fun kk => fX9_passes_70 m_colder m_terrace m_burns m_kind m_cold kk) (fun _ _ _ => none) FU m_s v1 0) else (bif inb (3 + v2) 13 then (bif inb v2 10 then (Option.bind (fX9_coldOf m_terrace m_cold (m_s 0)) fun y4 => (bif inb (3 + v2) 13 then (k9 (upd m_s (Int32.toNatClampNeg (3 + v2)) (imax 0 ((m_s (Int32.toNatClampNeg (3 + v2))) - ((m_burns (Int32.toNatClampNeg v2)) * (y4 + m_colder))))) v1 (v2 + 1)) else none)) else none) else none)
set_option maxHeartbeats 4000000 in
set_option maxRecDepth 100000 in
theorem tX9_passes_9 {p : Program} {l : Launch} {e : Env} {s : State} {m : MethodId} {args : Array Value} {below : List Frame} {meth : Method} {c : Code} {D : va_G} {cy : Nat → ClassId} {ad : Nat → Nat} {P : MP} {V : MV} {I : MI} {J : MJ} {A : MI} {B : MJ} {Af : Nat → Prop} {res : Int32 × (Nat → Int32)} (C0 : CX p s m args meth c cX9_passes 3 (some .int) RX9) (hK : va_K D vwCl (tyG cy) s) (hN : NWs s) (hA : ∀ q, s.heap.size ≤ q → Af q) {k9 : (Nat → Int32) → Int32 → Int32 → Option (Int32 × (Nat → Int32))} (hk9 : SX9_passes_9 p l e s m args below meth c D cy ad P V I J A B Af res k9) : SX9_passes_9 p l e s m args below meth c D cy ad P V I J A B Af res (fX9_passes_9 (I 0 54) (A 2) (A 7) (A 9) (A 12) k9) := by
  intro m_s v1 v2 H locs ls hW hl hf
  unfold fX9_passes_9 at hf
  refine lv_iload_n C0.1 C0.2.1 dX9_passes_9 rfl (lv_at hl 2 rfl) ?_
  refine lv_aload_n C0.1 C0.2.1 dX9_passes_10 rfl (lv_at hl 0 rfl) ?_
  refine s_get (v := .ref (ad 2)) C0 hK hW 0 10 LY_X9_0 rfl fg_X9_13 rfl dX9_passes_11 ?_
  refine lv_iconst (v := 0) C0.1 C0.2.1 dX9_passes_14 kI_0 ?_
  refine s_iald (v := ((A 2) 0)) C0 hK hW 2 LY_X9_2 rfl (congrArg _ tc_0) dX9_passes_15 ?_
  refine lv_icmp_ge (tgt := 68) C0.1 C0.2.1 dX9_passes_16 (by decide) (fun hc1 => ?_) (fun hc1 => ?_)
  · have hf := ite_t hc1 hf
    refine lv_iconst (v := 0) C0.1 C0.2.1 dX9_passes_68 kI_0 ?_
    refine lv_istore_n (lv' := [(2, .int 0), (0, .ref (ad 0)), (1, .int v1)]) C0.1 C0.2.1 dX9_passes_69 rfl hl (by decide) rfl (fun ls hl => ?_)
    exact TX9_passes_70 C0 hK hN hA  FU m_s v1 0 H locs ls hW (lv_sub hl [1, 2, 0] rfl) hf
  · have hf := ite_f hc1 hf
    refine lv_aload_n C0.1 C0.2.1 dX9_passes_19 rfl (lv_at hl 0 rfl) ?_
    refine s_get (v := .ref (ad 35)) C0 hK hW 0 47 LY_X9_0 rfl fg_X9_114 rfl dX9_passes_20 ?_
    refine lv_iconst (v := 3) C0.1 C0.2.1 dX9_passes_23 kI_3 ?_
    refine lv_iload_n C0.1 C0.2.1 dX9_passes_24 rfl (lv_at hl 2 rfl) ?_
    refine lv_iadd C0.1 C0.2.1 dX9_passes_25 ?_
    refine lv_iconst (v := 0) C0.1 C0.2.1 dX9_passes_26 kI_0 ?_
    refine lv_aload_n C0.1 C0.2.1 dX9_passes_27 rfl (lv_at hl 0 rfl) ?_
    refine s_get (v := .ref (ad 35)) C0 hK hW 0 47 LY_X9_0 rfl fg_X9_114 rfl dX9_passes_28 ?_
    refine lv_iconst (v := 3) C0.1 C0.2.1 dX9_passes_31 kI_3 ?_
    refine lv_iload_n C0.1 C0.2.1 dX9_passes_32 rfl (lv_at hl 2 rfl) ?_
    refine lv_iadd C0.1 C0.2.1 dX9_passes_33 ?_
    obtain ⟨hb2, hf⟩ := g_some hf
    refine s_iald (v := (m_s (Int32.toNatClampNeg (3 + v2)))) C0 hK hW 35 LY_X9_35 hb2 rfl dX9_passes_34 ?_
    refine lv_aload_n C0.1 C0.2.1 dX9_passes_35 rfl (lv_at hl 0 rfl) ?_
    refine s_get (v := .ref (ad 7)) C0 hK hW 0 15 LY_X9_0 rfl fg_X9_29 rfl dX9_passes_36 ?_
    refine lv_iload_n C0.1 C0.2.1 dX9_passes_39 rfl (lv_at hl 2 rfl) ?_
    obtain ⟨hb3, hf⟩ := g_some hf
    refine s_iald (v := ((A 7) (Int32.toNatClampNeg v2))) C0 hK hW 7 LY_X9_7 hb3 rfl dX9_passes_40 ?_
    refine lv_aload_n C0.1 C0.2.1 dX9_passes_41 rfl (lv_at hl 0 rfl) ?_
    refine lv_aload_n C0.1 C0.2.1 dX9_passes_42 rfl (lv_at hl 0 rfl) ?_
    refine s_get (v := .ref (ad 35)) C0 hK hW 0 47 LY_X9_0 rfl fg_X9_114 rfl dX9_passes_43 ?_
    refine lv_iconst (v := 0) C0.1 C0.2.1 dX9_passes_46 kI_0 ?_
    refine s_iald (v := (m_s 0)) C0 hK hW 35 LY_X9_35 rfl (congrArg _ tc_0) dX9_passes_47 ?_
    obtain ⟨y4, hy4, hf⟩ := b_some hf
    refine c_Vi C0 hK hN hl.1 hW hA (KX9_coldOf l D cy  ad P V (gp I []) (gp J []) (gm A [(35, m_s)]) (gm B []) (m_s 0) hy4) (JN_id rfl rfl rfl rfl) (Uw_V uw_1527 uw_1529 us_85 uw_14 uw_1530) rfl rfl hd_X9_coldOf ⟨rfl, rfl⟩ rfl (dn_some LY_X9_0) rfl rfl rfl dX9_passes_48 ⟨Nat.zero_le _, Nat.zero_le _⟩ (fun H locs hW => ?_)
    have hW : wd D (dn cy LY_X9 ad P V (gp I []) (gp J []) (gm A [(35, m_s)]) (gm B [])) Af s.heap H locs := hW
    refine lv_aload_n C0.1 C0.2.1 dX9_passes_51 rfl (lv_at hl 0 rfl) ?_
    refine s_get (v := .int (I 0 54)) C0 hK hW 0 54 LY_X9_0 rfl fg_X9_397 rfl dX9_passes_52 ?_
    refine lv_iadd C0.1 C0.2.1 dX9_passes_55 ?_
    refine lv_imul C0.1 C0.2.1 dX9_passes_56 ?_
    refine lv_isub C0.1 C0.2.1 dX9_passes_57 ?_
    refine s_max C0 hl.1 uw_1531 uw_745 uw_16 uw_746 (Nat.le_of_ble_eq_true rfl) (Nat.le_of_ble_eq_true rfl) (Nat.zero_le _) (Nat.zero_le _) dX9_passes_58 ?_
    obtain ⟨hb5, hf⟩ := g_some hf
    refine s_iast (f := (upd m_s (Int32.toNatClampNeg (3 + v2)) (imax 0 ((m_s (Int32.toNatClampNeg (3 + v2))) - (((A 7) (Int32.toNatClampNeg v2)) * (y4 + (I 0 54))))))) C0 hK hW 35 LY_X9_35 hb5 rfl rfl dX9_passes_61 (fun H locs hW => ?_)
    have hW : wd D (dn cy LY_X9 ad P V (gp I []) (gp J []) (gm A [(35, (upd m_s (Int32.toNatClampNeg (3 + v2)) (imax 0 ((m_s (Int32.toNatClampNeg (3 + v2))) - (((A 7) (Int32.toNatClampNeg v2)) * (y4 + (I 0 54)))))))]) (gm B [])) Af s.heap H locs := hW
    refine lv_iinc (v := (v2 + 1)) (lv' := [(2, .int (v2 + 1)), (0, .ref (ad 0)), (1, .int v1)]) C0.1 C0.2.1 dX9_passes_62 hl (k := 2) rfl (congrArg (fun z => _ + z) kI_1) (by decide) rfl (fun ls hl => ?_)
    refine lv_goto (tgt := 9) C0.1 C0.2.1 dX9_passes_65 (by decide) ?_
    exact hk9 (upd m_s (Int32.toNatClampNeg (3 + v2)) (imax 0 ((m_s (Int32.toNatClampNeg (3 + v2))) - (((A 7) (Int32.toNatClampNeg v2)) * (y4 + (I 0 54)))))) v1 (v2 + 1) H locs ls hW (lv_sub hl [1, 2, 0] rfl) hf
theorem TX9_passes_9 {p : Program} {l : Launch} {e : Env} {s : State} {m : MethodId} {args : Array Value} {below : List Frame} {meth : Method} {c : Code} {D : va_G} {cy : Nat → ClassId} {ad : Nat → Nat} {P : MP} {V : MV} {I : MI} {J : MJ} {A : MI} {B : MJ} {Af : Nat → Prop} {res : Int32 × (Nat → Int32)} (C0 : CX p s m args meth c cX9_passes 3 (some .int) RX9) (hK : va_K D vwCl (tyG cy) s) (hN : NWs s) (hA : ∀ q, s.heap.size ≤ q → Af q) : ∀ n, SX9_passes_9 p l e s m args below meth c D cy ad P V I J A B Af res (itr (fun kk => fX9_passes_9 (I 0 54) (A 2) (A 7) (A 9) (A 12) kk) (fun _ _ _ => none) n) := by
  intro n
  induction n with
  | zero => intro m_s v1 v2 H locs ls hW hl hf; exact (nomatch (show (none : Option (Int32 × (Nat → Int32))) = some res from hf))
  | succ n ih => exact tX9_passes_9 C0 hK hN hA  ih
def fX9_passes (m_colder : Int32) (m_terrace : (Nat → Int32)) (m_burns : (Nat → Int32)) (m_kind : (Nat → Int32)) (m_cold : (Nat → Int32)) (m_s : (Nat → Int32)) : Option (Int32 × (Nat → Int32)) := itr (fun kk => fX9_passes_9 m_colder m_terrace m_burns m_kind m_cold kk) (fun _ _ _ => none) FU m_s (m_s 1) 0
set_option maxHeartbeats 4000000 in
set_option maxRecDepth 100000 in
theorem KX9_passes (l : Launch) (D : va_G) (cy : Nat → ClassId) (ad : Nat → Nat) (P : MP) (V : MV) (I : MI) (J : MJ) (A : MI) (B : MJ) {res : Int32 × (Nat → Int32)} (hf : fX9_passes (I 0 54) (A 2) (A 7) (A 9) (A 12) (A 35) = some res) : CG l yX9_passes cX9_passes 3 (some .int) rmX9_passes D cy (dn cy LY_X9 ad P V I J A B) [.ref (ad 0)] (some (.int res.1)) (dn cy LY_X9 ad P V (gp I []) (gp J []) (gm A [(35, res.2)]) (gm B [])) := by
  refine CG.of (own := RX9) (by decide) rfl rfl ?_
  intro p e s m below meth c ls Af C0 hK hN hA hW hl
  have hW : wd D (dn cy LY_X9 ad P V (gp I []) (gp J []) (gm A [(35, (A 35))]) (gm B [])) Af s.heap s.heap [] := wd_sel [] [] [35] [] hW
  have hl : lv_has ls 3 [(0, .ref (ad 0))] := hl
  unfold fX9_passes at hf
  refine lv_aload_n C0.1 C0.2.1 dX9_passes_0 rfl (lv_at hl 0 rfl) ?_
  refine s_get (v := .ref (ad 35)) C0 hK hW 0 47 LY_X9_0 rfl fg_X9_114 rfl dX9_passes_1 ?_
  refine lv_iconst (v := 1) C0.1 C0.2.1 dX9_passes_4 kI_1 ?_
  refine s_iald (v := ((A 35) 1)) C0 hK hW 35 LY_X9_35 rfl (congrArg _ tc_1) dX9_passes_5 ?_
  refine lv_istore_n (lv' := [(1, .int ((A 35) 1)), (0, .ref (ad 0))]) C0.1 C0.2.1 dX9_passes_6 rfl hl (by decide) rfl (fun ls hl => ?_)
  refine lv_iconst (v := 0) C0.1 C0.2.1 dX9_passes_7 kI_0 ?_
  refine lv_istore_n (lv' := [(2, .int 0), (1, .int ((A 35) 1)), (0, .ref (ad 0))]) C0.1 C0.2.1 dX9_passes_8 rfl hl (by decide) rfl (fun ls hl => ?_)
  exact TX9_passes_9 C0 hK hN hA  FU (A 35) ((A 35) 1) 0 _ _ ls hW (lv_sub hl [2, 1, 0] rfl) hf
-- X9_hole
def rmX9_hole : Room := { frames := 5, cells := 0, slots := 0, locals := 113 }
def SX9_hole_98 (p : Program) (l : Launch) (e : Env) (s : State) (m : MethodId) (args : Array Value) (below : List Frame) (meth : Method) (c : Code) (D : va_G) (cy : Nat → ClassId) (ad : Nat → Nat) (P : MP) (V : MV) (I : MI) (J : MJ) (A : MI) (B : MJ) (Af : Nat → Prop) (res : Int32 × Int32 × (Nat → Int32) × (Nat → Int32) × (Nat → Int32) × (Nat → Int32) × (Nat → Int32) × (Nat → Int32) × (Nat → Int32) × (Nat → Int32) × (Nat → Int32) × (Nat → Int32)) (k : Int32 → (Nat → Int32) → (Nat → Int32) → (Nat → Int32) → (Nat → Int32) → (Nat → Int32) → (Nat → Int32) → (Nat → Int32) → (Nat → Int32) → (Nat → Int32) → (Nat → Int32) → Int32 → Int32 → Int32 → Int32 → Option (Int32 × Int32 × (Nat → Int32) × (Nat → Int32) × (Nat → Int32) × (Nat → Int32) × (Nat → Int32) × (Nat → Int32) × (Nat → Int32) × (Nat → Int32) × (Nat → Int32) × (Nat → Int32))) : Prop := ∀ (m_thrown : Int32) (m_kept : (Nat → Int32)) (m_keptBy : (Nat → Int32)) (m_ahead : (Nat → Int32)) (m_against : (Nat → Int32)) (m_sum : (Nat → Int32)) (m_sumBy : (Nat → Int32)) (m_term : (Nat → Int32)) (m_termBy : (Nat → Int32)) (m_byNot : (Nat → Int32)) (m_valueOf : (Nat → Int32)) (v1 : Int32) (v3 : Int32) (v4 : Int32) (v5 : Int32) (H : Heap) (locs : List Loc) (ls : Array Slot), wd D (dn cy LY_X9 ad P V (gp I [(0, 0, m_thrown)]) (gp J []) (gm A [(18, m_kept), (19, m_keptBy), (20, m_ahead), (21, m_against), (22, m_sum), (23, m_sumBy), (24, m_term), (25, m_termBy), (26, m_byNot), (27, m_valueOf)]) (gm B [])) Af s.heap H locs → lv_has ls 6 [(0, .ref (ad 0)), (1, .int v1), (3, .int v3), (4, .int v4), (5, .int v5)] → k m_thrown m_kept m_keptBy m_ahead m_against m_sum m_sumBy m_term m_termBy m_byNot m_valueOf v1 v3 v4 v5 = some res → W p l e rmX9_hole s m args below meth c H locs 0 0 (ZQ below D cy (dn cy LY_X9 ad P V (gp I [(0, 0, res.2.1)]) (gp J []) (gm A [(18, res.2.2.1), (19, res.2.2.2.1), (20, res.2.2.2.2.1), (21, res.2.2.2.2.2.1), (22, res.2.2.2.2.2.2.1), (23, res.2.2.2.2.2.2.2.1), (24, res.2.2.2.2.2.2.2.2.1), (25, res.2.2.2.2.2.2.2.2.2.1), (26, res.2.2.2.2.2.2.2.2.2.2.1), (27, res.2.2.2.2.2.2.2.2.2.2.2)]) (gm B [])) (some (.int res.1)) Af args s) (F0 m 98 ls [])
def fX9_hole_98 (m_terrace : (Nat → Int32)) (m_holeFlag : (Nat → Int32)) (m_burns : (Nat → Int32)) (m_walls : (Nat → Int32)) (m_kind : (Nat → Int32)) (m_guestFlag : (Nat → Int32)) (m_wars : (Nat → Int32)) (m_lineFrom : (Nat → Int32)) (m_lineTo : (Nat → Int32)) (m_codes : (Nat → Int32)) (m_s : (Nat → Int32)) (k98 : Int32 → (Nat → Int32) → (Nat → Int32) → (Nat → Int32) → (Nat → Int32) → (Nat → Int32) → (Nat → Int32) → (Nat → Int32) → (Nat → Int32) → (Nat → Int32) → (Nat → Int32) → Int32 → Int32 → Int32 → Int32 → Option (Int32 × Int32 × (Nat → Int32) × (Nat → Int32) × (Nat → Int32) × (Nat → Int32) × (Nat → Int32) × (Nat → Int32) × (Nat → Int32) × (Nat → Int32) × (Nat → Int32) × (Nat → Int32))) (m_thrown : Int32) (m_kept : (Nat → Int32)) (m_keptBy : (Nat → Int32)) (m_ahead : (Nat → Int32)) (m_against : (Nat → Int32)) (m_sum : (Nat → Int32)) (m_sumBy : (Nat → Int32)) (m_term : (Nat → Int32)) (m_termBy : (Nat → Int32)) (m_byNot : (Nat → Int32)) (m_valueOf : (Nat → Int32)) (v1 : Int32) (v3 : Int32) (v4 : Int32) (v5 : Int32) : Option (Int32 × Int32 × (Nat → Int32) × (Nat → Int32) × (Nat → Int32) × (Nat → Int32) × (Nat → Int32) × (Nat → Int32) × (Nat → Int32) × (Nat → Int32) × (Nat → Int32) × (Nat → Int32)) := if (m_terrace 1) ≤ v5 then (some (v4, m_thrown, m_kept, m_keptBy, m_ahead, m_against, m_sum, m_sumBy, m_term, m_termBy, m_byNot, m_valueOf)) else (if ((v3 >>> (v5 &&& 31)) &&& 1) = 0 then (Option.bind (fX9_isTakenBy m_terrace m_holeFlag m_kind m_guestFlag m_wars m_lineFrom m_lineTo m_codes m_s m_kept m_keptBy m_ahead m_against m_sum m_sumBy m_term m_termBy m_byNot m_valueOf v1 v5) fun y3 => (if y3.1 = 0 then (k98 m_thrown y3.2.1 y3.2.2.1 y3.2.2.2.1 y3.2.2.2.2.1 y3.2.2.2.2.2.1 y3.2.2.2.2.2.2.1 y3.2.2.2.2.2.2.2.1 y3.2.2.2.2.2.2.2.2.1 y3.2.2.2.2.2.2.2.2.2.1 y3.2.2.2.2.2.2.2.2.2.2 v1 v3 (v4 ||| 0) (v5 + 1)) else (k98 m_thrown y3.2.1 y3.2.2.1 y3.2.2.2.1 y3.2.2.2.2.1 y3.2.2.2.2.2.1 y3.2.2.2.2.2.2.1 y3.2.2.2.2.2.2.2.1 y3.2.2.2.2.2.2.2.2.1 y3.2.2.2.2.2.2.2.2.2.1 y3.2.2.2.2.2.2.2.2.2.2 v1 v3 (v4 ||| (1 <<< (v5 &&& 31))) (v5 + 1)))) else (k98 m_thrown m_kept m_keptBy m_ahead m_against m_sum m_sumBy m_term m_termBy m_byNot m_valueOf v1 v3 (v4 ||| 0) (v5 + 1)))
set_option maxHeartbeats 4000000 in
set_option maxRecDepth 100000 in
theorem tX9_hole_98 {p : Program} {l : Launch} {e : Env} {s : State} {m : MethodId} {args : Array Value} {below : List Frame} {meth : Method} {c : Code} {D : va_G} {cy : Nat → ClassId} {ad : Nat → Nat} {P : MP} {V : MV} {I : MI} {J : MJ} {A : MI} {B : MJ} {Af : Nat → Prop} {res : Int32 × Int32 × (Nat → Int32) × (Nat → Int32) × (Nat → Int32) × (Nat → Int32) × (Nat → Int32) × (Nat → Int32) × (Nat → Int32) × (Nat → Int32) × (Nat → Int32) × (Nat → Int32)} (C0 : CX p s m args meth c cX9_hole 6 (some .int) RX9) (hK : va_K D vwCl (tyG cy) s) (hN : NWs s) (hA : ∀ q, s.heap.size ≤ q → Af q) {k98 : Int32 → (Nat → Int32) → (Nat → Int32) → (Nat → Int32) → (Nat → Int32) → (Nat → Int32) → (Nat → Int32) → (Nat → Int32) → (Nat → Int32) → (Nat → Int32) → (Nat → Int32) → Int32 → Int32 → Int32 → Int32 → Option (Int32 × Int32 × (Nat → Int32) × (Nat → Int32) × (Nat → Int32) × (Nat → Int32) × (Nat → Int32) × (Nat → Int32) × (Nat → Int32) × (Nat → Int32) × (Nat → Int32) × (Nat → Int32))} (hk98 : SX9_hole_98 p l e s m args below meth c D cy ad P V I J A B Af res k98) : SX9_hole_98 p l e s m args below meth c D cy ad P V I J A B Af res (fX9_hole_98 (A 2) (A 5) (A 7) (A 8) (A 9) (A 10) (A 11) (A 13) (A 14) (A 15) (A 35) k98) := by
  intro m_thrown m_kept m_keptBy m_ahead m_against m_sum m_sumBy m_term m_termBy m_byNot m_valueOf v1 v3 v4 v5 H locs ls hW hl hf
  unfold fX9_hole_98 at hf
  refine lv_iload C0.1 C0.2.1 dX9_hole_98 (lv_at hl 4 rfl) ?_
  refine lv_aload_n C0.1 C0.2.1 dX9_hole_100 rfl (lv_at hl 0 rfl) ?_
  refine s_get (v := .ref (ad 2)) C0 hK hW 0 10 LY_X9_0 rfl fg_X9_13 rfl dX9_hole_101 ?_
  refine lv_iconst (v := 1) C0.1 C0.2.1 dX9_hole_104 kI_1 ?_
  refine s_iald (v := ((A 2) 1)) C0 hK hW 2 LY_X9_2 rfl (congrArg _ tc_1) dX9_hole_105 ?_
  refine lv_icmp_ge (tgt := 147) C0.1 C0.2.1 dX9_hole_106 (by decide) (fun hc1 => ?_) (fun hc1 => ?_)
  · have hf := ite_t hc1 hf
    refine lv_iload C0.1 C0.2.1 dX9_hole_147 (lv_at hl 3 rfl) ?_
    obtain rfl := Option.some.inj hf
    exact r_int C0 hK hW dX9_hole_149
  · have hf := ite_f hc1 hf
    refine lv_iload C0.1 C0.2.1 dX9_hole_109 (lv_at hl 3 rfl) ?_
    refine lv_iload_n C0.1 C0.2.1 dX9_hole_111 rfl (lv_at hl 2 rfl) ?_
    refine lv_iload C0.1 C0.2.1 dX9_hole_112 (lv_at hl 4 rfl) ?_
    refine lv_ishr C0.1 C0.2.1 dX9_hole_114 ?_
    refine lv_iconst (v := 1) C0.1 C0.2.1 dX9_hole_115 kI_1 ?_
    refine lv_iand C0.1 C0.2.1 dX9_hole_116 ?_
    refine lv_if_ne (tgt := 137) C0.1 C0.2.1 dX9_hole_117 (by decide) (fun hc2 => ?_) (fun hc2 => ?_)
    · have hf := ite_f hc2 hf
      refine lv_iconst (v := 0) C0.1 C0.2.1 dX9_hole_137 kI_0 ?_
      refine lv_ior C0.1 C0.2.1 dX9_hole_138 ?_
      refine lv_istore (lv' := [(4, .int (v4 ||| 0)), (0, .ref (ad 0)), (1, .int v1), (3, .int v3), (5, .int v5)]) C0.1 C0.2.1 dX9_hole_139 hl (by decide) rfl (fun ls hl => ?_)
      refine lv_iinc (v := (v5 + 1)) (lv' := [(5, .int (v5 + 1)), (4, .int (v4 ||| 0)), (0, .ref (ad 0)), (1, .int v1), (3, .int v3)]) C0.1 C0.2.1 dX9_hole_141 hl (k := 4) rfl (congrArg (fun z => _ + z) kI_1) (by decide) rfl (fun ls hl => ?_)
      refine lv_goto (tgt := 98) C0.1 C0.2.1 dX9_hole_144 (by decide) ?_
      exact hk98 m_thrown m_kept m_keptBy m_ahead m_against m_sum m_sumBy m_term m_termBy m_byNot m_valueOf v1 v3 (v4 ||| 0) (v5 + 1) H locs ls hW (lv_sub hl [2, 3, 4, 1, 0] rfl) hf
    · have hf := ite_t hc2 hf
      refine lv_aload_n C0.1 C0.2.1 dX9_hole_120 rfl (lv_at hl 0 rfl) ?_
      refine lv_iload_n C0.1 C0.2.1 dX9_hole_121 rfl (lv_at hl 1 rfl) ?_
      refine lv_iload C0.1 C0.2.1 dX9_hole_122 (lv_at hl 4 rfl) ?_
      obtain ⟨y3, hy3, hf⟩ := b_some hf
      refine c_Vi C0 hK hN hl.1 hW hA (KX9_isTakenBy l D cy  ad P V (gp I [(0, 0, m_thrown)]) (gp J []) (gm A [(18, m_kept), (19, m_keptBy), (20, m_ahead), (21, m_against), (22, m_sum), (23, m_sumBy), (24, m_term), (25, m_termBy), (26, m_byNot), (27, m_valueOf)]) (gm B []) v1 v5 hy3) (JN_id rfl rfl rfl rfl) (Uw_V uw_1428 uw_1430 us_68 uw_14 uw_1431) rfl rfl hd_X9_isTakenBy ⟨rfl, rfl⟩ rfl (dn_some LY_X9_0) rfl rfl rfl dX9_hole_124 ⟨Nat.zero_le _, Nat.zero_le _⟩ (fun H locs hW => ?_)
      have hW : wd D (dn cy LY_X9 ad P V (gp I [(0, 0, m_thrown)]) (gp J []) (gm A [(18, y3.2.1), (19, y3.2.2.1), (20, y3.2.2.2.1), (21, y3.2.2.2.2.1), (22, y3.2.2.2.2.2.1), (23, y3.2.2.2.2.2.2.1), (24, y3.2.2.2.2.2.2.2.1), (25, y3.2.2.2.2.2.2.2.2.1), (26, y3.2.2.2.2.2.2.2.2.2.1), (27, y3.2.2.2.2.2.2.2.2.2.2)]) (gm B [])) Af s.heap H locs := hW
      refine lv_if_eq (tgt := 137) C0.1 C0.2.1 dX9_hole_127 (by decide) (fun hc4 => ?_) (fun hc4 => ?_)
      · have hf := ite_t hc4 hf
        refine lv_iconst (v := 0) C0.1 C0.2.1 dX9_hole_137 kI_0 ?_
        refine lv_ior C0.1 C0.2.1 dX9_hole_138 ?_
        refine lv_istore (lv' := [(4, .int (v4 ||| 0)), (0, .ref (ad 0)), (1, .int v1), (3, .int v3), (5, .int v5)]) C0.1 C0.2.1 dX9_hole_139 hl (by decide) rfl (fun ls hl => ?_)
        refine lv_iinc (v := (v5 + 1)) (lv' := [(5, .int (v5 + 1)), (4, .int (v4 ||| 0)), (0, .ref (ad 0)), (1, .int v1), (3, .int v3)]) C0.1 C0.2.1 dX9_hole_141 hl (k := 4) rfl (congrArg (fun z => _ + z) kI_1) (by decide) rfl (fun ls hl => ?_)
        refine lv_goto (tgt := 98) C0.1 C0.2.1 dX9_hole_144 (by decide) ?_
        exact hk98 m_thrown y3.2.1 y3.2.2.1 y3.2.2.2.1 y3.2.2.2.2.1 y3.2.2.2.2.2.1 y3.2.2.2.2.2.2.1 y3.2.2.2.2.2.2.2.1 y3.2.2.2.2.2.2.2.2.1 y3.2.2.2.2.2.2.2.2.2.1 y3.2.2.2.2.2.2.2.2.2.2 v1 v3 (v4 ||| 0) (v5 + 1) H locs ls hW (lv_sub hl [2, 3, 4, 1, 0] rfl) hf
      · have hf := ite_f hc4 hf
        refine lv_iconst (v := 1) C0.1 C0.2.1 dX9_hole_130 kI_1 ?_
        refine lv_iload C0.1 C0.2.1 dX9_hole_131 (lv_at hl 4 rfl) ?_
        refine lv_ishl C0.1 C0.2.1 dX9_hole_133 ?_
        refine lv_goto (tgt := 138) C0.1 C0.2.1 dX9_hole_134 (by decide) ?_
        refine lv_ior C0.1 C0.2.1 dX9_hole_138 ?_
        refine lv_istore (lv' := [(4, .int (v4 ||| (1 <<< (v5 &&& 31)))), (0, .ref (ad 0)), (1, .int v1), (3, .int v3), (5, .int v5)]) C0.1 C0.2.1 dX9_hole_139 hl (by decide) rfl (fun ls hl => ?_)
        refine lv_iinc (v := (v5 + 1)) (lv' := [(5, .int (v5 + 1)), (4, .int (v4 ||| (1 <<< (v5 &&& 31)))), (0, .ref (ad 0)), (1, .int v1), (3, .int v3)]) C0.1 C0.2.1 dX9_hole_141 hl (k := 4) rfl (congrArg (fun z => _ + z) kI_1) (by decide) rfl (fun ls hl => ?_)
        refine lv_goto (tgt := 98) C0.1 C0.2.1 dX9_hole_144 (by decide) ?_
        exact hk98 m_thrown y3.2.1 y3.2.2.1 y3.2.2.2.1 y3.2.2.2.2.1 y3.2.2.2.2.2.1 y3.2.2.2.2.2.2.1 y3.2.2.2.2.2.2.2.1 y3.2.2.2.2.2.2.2.2.1 y3.2.2.2.2.2.2.2.2.2.1 y3.2.2.2.2.2.2.2.2.2.2 v1 v3 (v4 ||| (1 <<< (v5 &&& 31))) (v5 + 1) H locs ls hW (lv_sub hl [2, 3, 4, 1, 0] rfl) hf
theorem TX9_hole_98 {p : Program} {l : Launch} {e : Env} {s : State} {m : MethodId} {args : Array Value} {below : List Frame} {meth : Method} {c : Code} {D : va_G} {cy : Nat → ClassId} {ad : Nat → Nat} {P : MP} {V : MV} {I : MI} {J : MJ} {A : MI} {B : MJ} {Af : Nat → Prop} {res : Int32 × Int32 × (Nat → Int32) × (Nat → Int32) × (Nat → Int32) × (Nat → Int32) × (Nat → Int32) × (Nat → Int32) × (Nat → Int32) × (Nat → Int32) × (Nat → Int32) × (Nat → Int32)} (C0 : CX p s m args meth c cX9_hole 6 (some .int) RX9) (hK : va_K D vwCl (tyG cy) s) (hN : NWs s) (hA : ∀ q, s.heap.size ≤ q → Af q) : ∀ n, SX9_hole_98 p l e s m args below meth c D cy ad P V I J A B Af res (itr (fun kk => fX9_hole_98 (A 2) (A 5) (A 7) (A 8) (A 9) (A 10) (A 11) (A 13) (A 14) (A 15) (A 35) kk) (fun _ _ _ _ _ _ _ _ _ _ _ _ _ _ _ => none) n) := by
  intro n
  induction n with
  | zero => intro m_thrown m_kept m_keptBy m_ahead m_against m_sum m_sumBy m_term m_termBy m_byNot m_valueOf v1 v3 v4 v5 H locs ls hW hl hf; exact (nomatch (show (none : Option (Int32 × Int32 × (Nat → Int32) × (Nat → Int32) × (Nat → Int32) × (Nat → Int32) × (Nat → Int32) × (Nat → Int32) × (Nat → Int32) × (Nat → Int32) × (Nat → Int32) × (Nat → Int32))) = some res from hf))
  | succ n ih => exact tX9_hole_98 C0 hK hN hA  ih
def fX9_hole (m_terrace : (Nat → Int32)) (m_holeFlag : (Nat → Int32)) (m_burns : (Nat → Int32)) (m_walls : (Nat → Int32)) (m_kind : (Nat → Int32)) (m_guestFlag : (Nat → Int32)) (m_wars : (Nat → Int32)) (m_lineFrom : (Nat → Int32)) (m_lineTo : (Nat → Int32)) (m_codes : (Nat → Int32)) (m_s : (Nat → Int32)) (m_thrown : Int32) (m_kept : (Nat → Int32)) (m_keptBy : (Nat → Int32)) (m_ahead : (Nat → Int32)) (m_against : (Nat → Int32)) (m_sum : (Nat → Int32)) (m_sumBy : (Nat → Int32)) (m_term : (Nat → Int32)) (m_termBy : (Nat → Int32)) (m_byNot : (Nat → Int32)) (m_valueOf : (Nat → Int32)) (v1 : Int32) (v2 : Int32) : Option (Int32 × Int32 × (Nat → Int32) × (Nat → Int32) × (Nat → Int32) × (Nat → Int32) × (Nat → Int32) × (Nat → Int32) × (Nat → Int32) × (Nat → Int32) × (Nat → Int32) × (Nat → Int32)) := Option.bind (fX9_isHole m_terrace v1) fun y1 => (if y1 = 0 then (some ((-1), 0, m_kept, m_keptBy, m_ahead, m_against, m_sum, m_sumBy, m_term, m_termBy, m_byNot, m_valueOf)) else (Option.bind (fX9_within v2 0 5) fun y3 => (if y3 = 0 then (some ((-1), 0, m_kept, m_keptBy, m_ahead, m_against, m_sum, m_sumBy, m_term, m_termBy, m_byNot, m_valueOf)) else (if 3 ≤ v2 then (Option.bind (fX9_insideOf m_terrace m_s v1) fun y6 => (if 5 ≤ v2 then (itr (fun kk => fX9_hole_98 m_terrace m_holeFlag m_burns m_walls m_kind m_guestFlag m_wars m_lineFrom m_lineTo m_codes m_s kk) (fun _ _ _ _ _ _ _ _ _ _ _ _ _ _ _ => none) FU 0 m_kept m_keptBy m_ahead m_against m_sum m_sumBy m_term m_termBy m_byNot m_valueOf v1 y6 0 0) else (if v2 = 3 then (some (y6, 0, m_kept, m_keptBy, m_ahead, m_against, m_sum, m_sumBy, m_term, m_termBy, m_byNot, m_valueOf)) else (bif inb v1 10 then (some ((m_walls (Int32.toNatClampNeg v1)), 0, m_kept, m_keptBy, m_ahead, m_against, m_sum, m_sumBy, m_term, m_termBy, m_byNot, m_valueOf)) else none)))) else (if v2 = 0 then (bif inb v1 10 then (some ((m_holeFlag (Int32.toNatClampNeg v1)), 0, m_kept, m_keptBy, m_ahead, m_against, m_sum, m_sumBy, m_term, m_termBy, m_byNot, m_valueOf)) else none) else (if v2 = 1 then (bif inb (3 + v1) 13 then (some ((m_s (Int32.toNatClampNeg (3 + v1))), 0, m_kept, m_keptBy, m_ahead, m_against, m_sum, m_sumBy, m_term, m_termBy, m_byNot, m_valueOf)) else none) else (bif inb v1 10 then (some ((m_burns (Int32.toNatClampNeg v1)), 0, m_kept, m_keptBy, m_ahead, m_against, m_sum, m_sumBy, m_term, m_termBy, m_byNot, m_valueOf)) else none)))))))
set_option maxHeartbeats 4000000 in
set_option maxRecDepth 100000 in
theorem KX9_hole (l : Launch) (D : va_G) (cy : Nat → ClassId) (ad : Nat → Nat) (P : MP) (V : MV) (I : MI) (J : MJ) (A : MI) (B : MJ) (v1 : Int32) (v2 : Int32) {res : Int32 × Int32 × (Nat → Int32) × (Nat → Int32) × (Nat → Int32) × (Nat → Int32) × (Nat → Int32) × (Nat → Int32) × (Nat → Int32) × (Nat → Int32) × (Nat → Int32) × (Nat → Int32)} (hf : fX9_hole (A 2) (A 5) (A 7) (A 8) (A 9) (A 10) (A 11) (A 13) (A 14) (A 15) (A 35) (I 0 0) (A 18) (A 19) (A 20) (A 21) (A 22) (A 23) (A 24) (A 25) (A 26) (A 27) v1 v2 = some res) : CG l yX9_hole cX9_hole 6 (some .int) rmX9_hole D cy (dn cy LY_X9 ad P V I J A B) [.ref (ad 0), .int v1, .int v2] (some (.int res.1)) (dn cy LY_X9 ad P V (gp I [(0, 0, res.2.1)]) (gp J []) (gm A [(18, res.2.2.1), (19, res.2.2.2.1), (20, res.2.2.2.2.1), (21, res.2.2.2.2.2.1), (22, res.2.2.2.2.2.2.1), (23, res.2.2.2.2.2.2.2.1), (24, res.2.2.2.2.2.2.2.2.1), (25, res.2.2.2.2.2.2.2.2.2.1), (26, res.2.2.2.2.2.2.2.2.2.2.1), (27, res.2.2.2.2.2.2.2.2.2.2.2)]) (gm B [])) := by
  refine CG.of (own := RX9) (by decide) rfl rfl ?_
  intro p e s m below meth c ls Af C0 hK hN hA hW hl
  have hW : wd D (dn cy LY_X9 ad P V (gp I [(0, 0, (I 0 0))]) (gp J []) (gm A [(18, (A 18)), (19, (A 19)), (20, (A 20)), (21, (A 21)), (22, (A 22)), (23, (A 23)), (24, (A 24)), (25, (A 25)), (26, (A 26)), (27, (A 27))]) (gm B [])) Af s.heap s.heap [] := wd_sel [(0, 0)] [] [18, 19, 20, 21, 22, 23, 24, 25, 26, 27] [] hW
  have hl : lv_has ls 6 [(0, .ref (ad 0)), (1, .int v1), (2, .int v2)] := hl
  unfold fX9_hole at hf
  refine lv_aload_n C0.1 C0.2.1 dX9_hole_0 rfl (lv_at hl 0 rfl) ?_
  refine lv_iconst (v := 0) C0.1 C0.2.1 dX9_hole_1 kI_0 ?_
  refine s_putI C0 hK hW 0 0 LY_X9_0 rfl fg_X9_142 fp_X9_0 rfl dX9_hole_2 (fun H locs hW => ?_)
  have hW : wd D (dn cy LY_X9 ad P V (gp I [(0, 0, 0)]) (gp J []) (gm A [(18, (A 18)), (19, (A 19)), (20, (A 20)), (21, (A 21)), (22, (A 22)), (23, (A 23)), (24, (A 24)), (25, (A 25)), (26, (A 26)), (27, (A 27))]) (gm B [])) Af s.heap H locs := hW
  refine lv_aload_n C0.1 C0.2.1 dX9_hole_5 rfl (lv_at hl 0 rfl) ?_
  refine lv_iload_n C0.1 C0.2.1 dX9_hole_6 rfl (lv_at hl 1 rfl) ?_
  obtain ⟨y1, hy1, hf⟩ := b_some hf
  refine c_Vi C0 hK hN hl.1 hW hA (KX9_isHole l D cy  ad P V (gp I [(0, 0, 0)]) (gp J []) (gm A [(18, (A 18)), (19, (A 19)), (20, (A 20)), (21, (A 21)), (22, (A 22)), (23, (A 23)), (24, (A 24)), (25, (A 25)), (26, (A 26)), (27, (A 27))]) (gm B []) v1 hy1) (JN_id rfl rfl rfl rfl) (Uw_V uw_1420 uw_1422 us_66 uw_14 uw_1423) rfl rfl hd_X9_isHole ⟨rfl, rfl⟩ rfl (dn_some LY_X9_0) rfl rfl rfl dX9_hole_7 ⟨Nat.zero_le _, Nat.zero_le _⟩ (fun H locs hW => ?_)
  have hW : wd D (dn cy LY_X9 ad P V (gp I [(0, 0, 0)]) (gp J []) (gm A [(18, (A 18)), (19, (A 19)), (20, (A 20)), (21, (A 21)), (22, (A 22)), (23, (A 23)), (24, (A 24)), (25, (A 25)), (26, (A 26)), (27, (A 27))]) (gm B [])) Af s.heap H locs := hW
  refine lv_if_eq (tgt := 22) C0.1 C0.2.1 dX9_hole_10 (by decide) (fun hc2 => ?_) (fun hc2 => ?_)
  · have hf := ite_t hc2 hf
    refine lv_iconst (v := (-1)) C0.1 C0.2.1 dX9_hole_22 kI_m1 ?_
    obtain rfl := Option.some.inj hf
    exact r_int C0 hK hW dX9_hole_23
  · have hf := ite_f hc2 hf
    refine lv_iload_n C0.1 C0.2.1 dX9_hole_13 rfl (lv_at hl 2 rfl) ?_
    refine lv_iconst (v := 0) C0.1 C0.2.1 dX9_hole_14 kI_0 ?_
    refine lv_iconst (v := 5) C0.1 C0.2.1 dX9_hole_15 kI_5 ?_
    obtain ⟨y3, hy3, hf⟩ := b_some hf
    refine c_Si C0 hK hN hl.1 hW hA (KX9_within l D cy  (fun q => ad (pl_LY_X9_LY_0_.getD q 0)) (fun q => P (pl_LY_X9_LY_0_.getD q 0)) (fun q => Vx LY_X9 ad V (pl_LY_X9_LY_0_.getD q 0)) (fun q => gp I [(0, 0, 0)] (pl_LY_X9_LY_0_.getD q 0)) (fun q => gp J [] (pl_LY_X9_LY_0_.getD q 0)) (fun q => gm A [(18, (A 18)), (19, (A 19)), (20, (A 20)), (21, (A 21)), (22, (A 22)), (23, (A 23)), (24, (A 24)), (25, (A 25)), (26, (A 26)), (27, (A 27))] (pl_LY_X9_LY_0_.getD q 0)) (fun q => gm B [] (pl_LY_X9_LY_0_.getD q 0)) v2 0 5 hy3) (JN_subC (pl := pl_LY_X9_LY_0_) sb_LY_X9_LY_0_ rfl rfl rfl rfl rfl rfl rfl rfl rfl) ⟨uw_1331, uw_1332, uw_14, uw_1333⟩ rfl rfl hd_X9_within ⟨rfl, rfl⟩ rfl rfl rfl dX9_hole_16 ⟨Nat.zero_le _, Nat.zero_le _⟩ (fun H locs hW => ?_)
    have hW : wd D (dn cy LY_X9 ad P V (gp I [(0, 0, 0)]) (gp J []) (gm A [(18, (A 18)), (19, (A 19)), (20, (A 20)), (21, (A 21)), (22, (A 22)), (23, (A 23)), (24, (A 24)), (25, (A 25)), (26, (A 26)), (27, (A 27))]) (gm B [])) Af s.heap H locs := hW
    refine lv_if_ne (tgt := 24) C0.1 C0.2.1 dX9_hole_19 (by decide) (fun hc4 => ?_) (fun hc4 => ?_)
    · have hf := ite_f hc4 hf
      refine lv_iload_n C0.1 C0.2.1 dX9_hole_24 rfl (lv_at hl 2 rfl) ?_
      refine lv_iconst (v := 3) C0.1 C0.2.1 dX9_hole_25 kI_3 ?_
      refine lv_icmp_ge (tgt := 65) C0.1 C0.2.1 dX9_hole_26 (by decide) (fun hc5 => ?_) (fun hc5 => ?_)
      · have hf := ite_t hc5 hf
        refine lv_aload_n C0.1 C0.2.1 dX9_hole_65 rfl (lv_at hl 0 rfl) ?_
        refine lv_iload_n C0.1 C0.2.1 dX9_hole_66 rfl (lv_at hl 1 rfl) ?_
        obtain ⟨y6, hy6, hf⟩ := b_some hf
        refine c_Vi C0 hK hN hl.1 hW hA (KX9_insideOf l D cy  ad P V (gp I [(0, 0, 0)]) (gp J []) (gm A [(18, (A 18)), (19, (A 19)), (20, (A 20)), (21, (A 21)), (22, (A 22)), (23, (A 23)), (24, (A 24)), (25, (A 25)), (26, (A 26)), (27, (A 27))]) (gm B []) v1 hy6) (JN_id rfl rfl rfl rfl) (Uw_V uw_1424 uw_1426 us_67 uw_14 uw_1427) rfl rfl hd_X9_insideOf ⟨rfl, rfl⟩ rfl (dn_some LY_X9_0) rfl rfl rfl dX9_hole_67 ⟨Nat.zero_le _, Nat.zero_le _⟩ (fun H locs hW => ?_)
        have hW : wd D (dn cy LY_X9 ad P V (gp I [(0, 0, 0)]) (gp J []) (gm A [(18, (A 18)), (19, (A 19)), (20, (A 20)), (21, (A 21)), (22, (A 22)), (23, (A 23)), (24, (A 24)), (25, (A 25)), (26, (A 26)), (27, (A 27))]) (gm B [])) Af s.heap H locs := hW
        refine lv_istore_n (lv' := [(3, .int y6), (0, .ref (ad 0)), (1, .int v1), (2, .int v2)]) C0.1 C0.2.1 dX9_hole_70 rfl hl (by decide) rfl (fun ls hl => ?_)
        refine lv_iload_n C0.1 C0.2.1 dX9_hole_71 rfl (lv_at hl 3 rfl) ?_
        refine lv_iconst (v := 5) C0.1 C0.2.1 dX9_hole_72 kI_5 ?_
        refine lv_icmp_ge (tgt := 92) C0.1 C0.2.1 dX9_hole_73 (by decide) (fun hc7 => ?_) (fun hc7 => ?_)
        · have hf := ite_t hc7 hf
          refine lv_iconst (v := 0) C0.1 C0.2.1 dX9_hole_92 kI_0 ?_
          refine lv_istore (lv' := [(4, .int 0), (3, .int y6), (0, .ref (ad 0)), (1, .int v1), (2, .int v2)]) C0.1 C0.2.1 dX9_hole_93 hl (by decide) rfl (fun ls hl => ?_)
          refine lv_iconst (v := 0) C0.1 C0.2.1 dX9_hole_95 kI_0 ?_
          refine lv_istore (lv' := [(5, .int 0), (4, .int 0), (3, .int y6), (0, .ref (ad 0)), (1, .int v1), (2, .int v2)]) C0.1 C0.2.1 dX9_hole_96 hl (by decide) rfl (fun ls hl => ?_)
          exact TX9_hole_98 C0 hK hN hA  FU 0 (A 18) (A 19) (A 20) (A 21) (A 22) (A 23) (A 24) (A 25) (A 26) (A 27) v1 y6 0 0 _ _ ls hW (lv_sub hl [3, 4, 2, 1, 0] rfl) hf
        · have hf := ite_f hc7 hf
          refine lv_iload_n C0.1 C0.2.1 dX9_hole_76 rfl (lv_at hl 3 rfl) ?_
          refine lv_iconst (v := 3) C0.1 C0.2.1 dX9_hole_77 kI_3 ?_
          refine lv_icmp_ne (tgt := 85) C0.1 C0.2.1 dX9_hole_78 (by decide) (fun hc8 => ?_) (fun hc8 => ?_)
          · have hf := ite_f hc8 hf
            refine lv_aload_n C0.1 C0.2.1 dX9_hole_85 rfl (lv_at hl 1 rfl) ?_
            refine s_get (v := .ref (ad 8)) C0 hK hW 0 16 LY_X9_0 rfl fg_X9_32 rfl dX9_hole_86 ?_
            refine lv_iload_n C0.1 C0.2.1 dX9_hole_89 rfl (lv_at hl 2 rfl) ?_
            obtain ⟨hb9, hf⟩ := g_some hf
            refine s_iald (v := ((A 8) (Int32.toNatClampNeg v1))) C0 hK hW 8 LY_X9_8 hb9 rfl dX9_hole_90 ?_
            obtain rfl := Option.some.inj hf
            exact r_int C0 hK hW dX9_hole_91
          · have hf := ite_t hc8 hf
            refine lv_iload_n C0.1 C0.2.1 dX9_hole_81 rfl (lv_at hl 0 rfl) ?_
            refine lv_goto (tgt := 91) C0.1 C0.2.1 dX9_hole_82 (by decide) ?_
            obtain rfl := Option.some.inj hf
            exact r_int C0 hK hW dX9_hole_91
      · have hf := ite_f hc5 hf
        refine lv_iload_n C0.1 C0.2.1 dX9_hole_29 rfl (lv_at hl 2 rfl) ?_
        refine lv_if_ne (tgt := 42) C0.1 C0.2.1 dX9_hole_30 (by decide) (fun hc10 => ?_) (fun hc10 => ?_)
        · have hf := ite_f hc10 hf
          refine lv_iload_n C0.1 C0.2.1 dX9_hole_42 rfl (lv_at hl 2 rfl) ?_
          refine lv_iconst (v := 1) C0.1 C0.2.1 dX9_hole_43 kI_1 ?_
          refine lv_icmp_ne (tgt := 58) C0.1 C0.2.1 dX9_hole_44 (by decide) (fun hc11 => ?_) (fun hc11 => ?_)
          · have hf := ite_f hc11 hf
            refine lv_aload_n C0.1 C0.2.1 dX9_hole_58 rfl (lv_at hl 0 rfl) ?_
            refine s_get (v := .ref (ad 7)) C0 hK hW 0 15 LY_X9_0 rfl fg_X9_29 rfl dX9_hole_59 ?_
            refine lv_iload_n C0.1 C0.2.1 dX9_hole_62 rfl (lv_at hl 1 rfl) ?_
            obtain ⟨hb12, hf⟩ := g_some hf
            refine s_iald (v := ((A 7) (Int32.toNatClampNeg v1))) C0 hK hW 7 LY_X9_7 hb12 rfl dX9_hole_63 ?_
            obtain rfl := Option.some.inj hf
            exact r_int C0 hK hW dX9_hole_64
          · have hf := ite_t hc11 hf
            refine lv_aload_n C0.1 C0.2.1 dX9_hole_47 rfl (lv_at hl 0 rfl) ?_
            refine s_get (v := .ref (ad 35)) C0 hK hW 0 47 LY_X9_0 rfl fg_X9_114 rfl dX9_hole_48 ?_
            refine lv_iconst (v := 3) C0.1 C0.2.1 dX9_hole_51 kI_3 ?_
            refine lv_iload_n C0.1 C0.2.1 dX9_hole_52 rfl (lv_at hl 1 rfl) ?_
            refine lv_iadd C0.1 C0.2.1 dX9_hole_53 ?_
            obtain ⟨hb13, hf⟩ := g_some hf
            refine s_iald (v := ((A 35) (Int32.toNatClampNeg (3 + v1)))) C0 hK hW 35 LY_X9_35 hb13 rfl dX9_hole_54 ?_
            refine lv_goto (tgt := 64) C0.1 C0.2.1 dX9_hole_55 (by decide) ?_
            obtain rfl := Option.some.inj hf
            exact r_int C0 hK hW dX9_hole_64
        · have hf := ite_t hc10 hf
          refine lv_aload_n C0.1 C0.2.1 dX9_hole_33 rfl (lv_at hl 0 rfl) ?_
          refine s_get (v := .ref (ad 5)) C0 hK hW 0 13 LY_X9_0 rfl fg_X9_23 rfl dX9_hole_34 ?_
          refine lv_iload_n C0.1 C0.2.1 dX9_hole_37 rfl (lv_at hl 1 rfl) ?_
          obtain ⟨hb14, hf⟩ := g_some hf
          refine s_iald (v := ((A 5) (Int32.toNatClampNeg v1))) C0 hK hW 5 LY_X9_5 hb14 rfl dX9_hole_38 ?_
          refine lv_goto (tgt := 64) C0.1 C0.2.1 dX9_hole_39 (by decide) ?_
          obtain rfl := Option.some.inj hf
          exact r_int C0 hK hW dX9_hole_64
    · have hf := ite_t hc4 hf
      refine lv_iconst (v := (-1)) C0.1 C0.2.1 dX9_hole_22 kI_m1 ?_
      obtain rfl := Option.some.inj hf
      exact r_int C0 hK hW dX9_hole_23
-- X9_foesOf
def rmX9_foesOf : Room := { frames := 4, cells := 0, slots := 0, locals := 85 }
def SX9_foesOf_46 (p : Program) (l : Launch) (e : Env) (s : State) (m : MethodId) (args : Array Value) (below : List Frame) (meth : Method) (c : Code) (D : va_G) (cy : Nat → ClassId) (ad : Nat → Nat) (P : MP) (V : MV) (I : MI) (J : MJ) (A : MI) (B : MJ) (Af : Nat → Prop) (res : Int32) (k : Int32 → Int32 → Int32 → Option (Int32)) : Prop := ∀ (v1 : Int32) (x0 : Int32) (x1 : Int32) (H : Heap) (locs : List Loc) (ls : Array Slot), wd D (dn cy LY_X9 ad P V (gp I []) (gp J []) (gm A []) (gm B [])) Af s.heap H locs → lv_has ls 2 [(1, .int v1)] → k v1 x0 x1 = some res → W p l e rmX9_foesOf s m args below meth c H locs 0 0 (ZQ below D cy (dn cy LY_X9 ad P V (gp I []) (gp J []) (gm A []) (gm B [])) (some (.int res)) Af args s) (F0 m 46 ls [.int x0, .int x1, .ref (ad 0)])
def fX9_foesOf_46 (m_terrace : (Nat → Int32)) (m_guestFlag : (Nat → Int32)) (m_wars : (Nat → Int32)) (m_s : (Nat → Int32)) (v1 : Int32) (x0 : Int32) (x1 : Int32) : Option (Int32) := Option.bind (fX9_foesIn m_terrace m_guestFlag m_wars x1 (x0 &&& ((1 <<< (v1 &&& 31)) ^^^ (-1)))) fun y1 => (some (y1))
set_option maxHeartbeats 4000000 in
set_option maxRecDepth 100000 in
theorem tX9_foesOf_46 {p : Program} {l : Launch} {e : Env} {s : State} {m : MethodId} {args : Array Value} {below : List Frame} {meth : Method} {c : Code} {D : va_G} {cy : Nat → ClassId} {ad : Nat → Nat} {P : MP} {V : MV} {I : MI} {J : MJ} {A : MI} {B : MJ} {Af : Nat → Prop} {res : Int32} (C0 : CX p s m args meth c cX9_foesOf 2 (some .int) RX9) (hK : va_K D vwCl (tyG cy) s) (hN : NWs s) (hA : ∀ q, s.heap.size ≤ q → Af q) : SX9_foesOf_46 p l e s m args below meth c D cy ad P V I J A B Af res (fX9_foesOf_46 (A 2) (A 10) (A 11) (A 35)) := by
  intro v1 x0 x1 H locs ls hW hl hf
  unfold fX9_foesOf_46 at hf
  refine lv_iconst (v := 1) C0.1 C0.2.1 dX9_foesOf_46 kI_1 ?_
  refine lv_iload_n C0.1 C0.2.1 dX9_foesOf_47 rfl (lv_at hl 0 rfl) ?_
  refine lv_ishl C0.1 C0.2.1 dX9_foesOf_48 ?_
  refine lv_iconst (v := (-1)) C0.1 C0.2.1 dX9_foesOf_49 kI_m1 ?_
  refine lv_ixor C0.1 C0.2.1 dX9_foesOf_50 ?_
  refine lv_iand C0.1 C0.2.1 dX9_foesOf_51 ?_
  obtain ⟨y1, hy1, hf⟩ := b_some hf
  refine c_Vi C0 hK hN hl.1 hW hA (KX9_foesIn l D cy  ad P V (gp I []) (gp J []) (gm A []) (gm B []) x1 (x0 &&& ((1 <<< (v1 &&& 31)) ^^^ (-1))) hy1) (JN_id rfl rfl rfl rfl) (Uw_V uw_1432 uw_1434 us_69 uw_14 uw_1435) rfl rfl hd_X9_foesIn ⟨rfl, rfl⟩ rfl (dn_some LY_X9_0) rfl rfl rfl dX9_foesOf_52 ⟨Nat.zero_le _, Nat.zero_le _⟩ (fun H locs hW => ?_)
  have hW : wd D (dn cy LY_X9 ad P V (gp I []) (gp J []) (gm A []) (gm B [])) Af s.heap H locs := hW
  obtain rfl := Option.some.inj hf
  exact r_int C0 hK hW dX9_foesOf_55
def fX9_foesOf (m_terrace : (Nat → Int32)) (m_guestFlag : (Nat → Int32)) (m_wars : (Nat → Int32)) (m_s : (Nat → Int32)) (v1 : Int32) : Option (Int32) := Option.bind (fX9_isSeized m_s v1) fun y1 => (if y1 = 0 then (bif inb (8 + v1) 13 then (if (m_s (Int32.toNatClampNeg (8 + v1))) = 0 then (Option.bind (fX9_outsiders m_terrace m_s) fun y7 => (fX9_foesOf_46 m_terrace m_guestFlag m_wars m_s v1 y7 v1)) else (bif inb (8 + v1) 13 then (Option.bind (fX9_insideOf m_terrace m_s ((m_s (Int32.toNatClampNeg (8 + v1))) - 1)) fun y6 => (fX9_foesOf_46 m_terrace m_guestFlag m_wars m_s v1 y6 v1)) else none)) else none) else (some (0)))
set_option maxHeartbeats 4000000 in
set_option maxRecDepth 100000 in
theorem KX9_foesOf (l : Launch) (D : va_G) (cy : Nat → ClassId) (ad : Nat → Nat) (P : MP) (V : MV) (I : MI) (J : MJ) (A : MI) (B : MJ) (v1 : Int32) {res : Int32} (hf : fX9_foesOf (A 2) (A 10) (A 11) (A 35) v1 = some res) : CG l yX9_foesOf cX9_foesOf 2 (some .int) rmX9_foesOf D cy (dn cy LY_X9 ad P V I J A B) [.ref (ad 0), .int v1] (some (.int res)) (dn cy LY_X9 ad P V (gp I []) (gp J []) (gm A []) (gm B [])) := by
  refine CG.of (own := RX9) (by decide) rfl rfl ?_
  intro p e s m below meth c ls Af C0 hK hN hA hW hl
  have hW : wd D (dn cy LY_X9 ad P V (gp I []) (gp J []) (gm A []) (gm B [])) Af s.heap s.heap [] := wd_sel [] [] [] [] hW
  have hl : lv_has ls 2 [(0, .ref (ad 0)), (1, .int v1)] := hl
  unfold fX9_foesOf at hf
  refine lv_aload_n C0.1 C0.2.1 dX9_foesOf_0 rfl (lv_at hl 0 rfl) ?_
  refine lv_iload_n C0.1 C0.2.1 dX9_foesOf_1 rfl (lv_at hl 1 rfl) ?_
  obtain ⟨y1, hy1, hf⟩ := b_some hf
  refine c_Vi C0 hK hN hl.1 hW hA (KX9_isSeized l D cy  ad P V (gp I []) (gp J []) (gm A []) (gm B []) v1 hy1) (JN_id rfl rfl rfl rfl) (Uw_V uw_1467 uw_1469 us_76 uw_14 uw_1470) rfl rfl hd_X9_isSeized ⟨rfl, rfl⟩ rfl (dn_some LY_X9_0) rfl rfl rfl dX9_foesOf_2 ⟨Nat.zero_le _, Nat.zero_le _⟩ (fun H locs hW => ?_)
  have hW : wd D (dn cy LY_X9 ad P V (gp I []) (gp J []) (gm A []) (gm B [])) Af s.heap H locs := hW
  refine lv_if_eq (tgt := 10) C0.1 C0.2.1 dX9_foesOf_5 (by decide) (fun hc2 => ?_) (fun hc2 => ?_)
  · have hf := ite_t hc2 hf
    refine lv_aload_n C0.1 C0.2.1 dX9_foesOf_10 rfl (lv_at hl 0 rfl) ?_
    refine lv_iload_n C0.1 C0.2.1 dX9_foesOf_11 rfl (lv_at hl 1 rfl) ?_
    refine lv_aload_n C0.1 C0.2.1 dX9_foesOf_12 rfl (lv_at hl 0 rfl) ?_
    refine s_get (v := .ref (ad 35)) C0 hK hW 0 47 LY_X9_0 rfl fg_X9_114 rfl dX9_foesOf_13 ?_
    refine lv_bipush (v := 8) C0.1 C0.2.1 dX9_foesOf_16 kB_8 ?_
    refine lv_iload_n C0.1 C0.2.1 dX9_foesOf_18 rfl (lv_at hl 1 rfl) ?_
    refine lv_iadd C0.1 C0.2.1 dX9_foesOf_19 ?_
    obtain ⟨hb3, hf⟩ := g_some hf
    refine s_iald (v := ((A 35) (Int32.toNatClampNeg (8 + v1)))) C0 hK hW 35 LY_X9_35 hb3 rfl dX9_foesOf_20 ?_
    refine lv_if_ne (tgt := 31) C0.1 C0.2.1 dX9_foesOf_21 (by decide) (fun hc4 => ?_) (fun hc4 => ?_)
    · have hf := ite_f hc4 hf
      refine lv_aload_n C0.1 C0.2.1 dX9_foesOf_31 rfl (lv_at hl 0 rfl) ?_
      refine lv_aload_n C0.1 C0.2.1 dX9_foesOf_32 rfl (lv_at hl 0 rfl) ?_
      refine s_get (v := .ref (ad 35)) C0 hK hW 0 47 LY_X9_0 rfl fg_X9_114 rfl dX9_foesOf_33 ?_
      refine lv_bipush (v := 8) C0.1 C0.2.1 dX9_foesOf_36 kB_8 ?_
      refine lv_iload_n C0.1 C0.2.1 dX9_foesOf_38 rfl (lv_at hl 1 rfl) ?_
      refine lv_iadd C0.1 C0.2.1 dX9_foesOf_39 ?_
      obtain ⟨hb5, hf⟩ := g_some hf
      refine s_iald (v := ((A 35) (Int32.toNatClampNeg (8 + v1)))) C0 hK hW 35 LY_X9_35 hb5 rfl dX9_foesOf_40 ?_
      refine lv_iconst (v := 1) C0.1 C0.2.1 dX9_foesOf_41 kI_1 ?_
      refine lv_isub C0.1 C0.2.1 dX9_foesOf_42 ?_
      obtain ⟨y6, hy6, hf⟩ := b_some hf
      refine c_Vi C0 hK hN hl.1 hW hA (KX9_insideOf l D cy  ad P V (gp I []) (gp J []) (gm A []) (gm B []) (((A 35) (Int32.toNatClampNeg (8 + v1))) - 1) hy6) (JN_id rfl rfl rfl rfl) (Uw_V uw_1424 uw_1426 us_67 uw_14 uw_1427) rfl rfl hd_X9_insideOf ⟨rfl, rfl⟩ rfl (dn_some LY_X9_0) rfl rfl rfl dX9_foesOf_43 ⟨Nat.zero_le _, Nat.zero_le _⟩ (fun H locs hW => ?_)
      have hW : wd D (dn cy LY_X9 ad P V (gp I []) (gp J []) (gm A []) (gm B [])) Af s.heap H locs := hW
      exact tX9_foesOf_46 C0 hK hN hA  v1 y6 v1 _ _ ls hW (lv_sub hl [1] rfl) hf
    · have hf := ite_t hc4 hf
      refine lv_aload_n C0.1 C0.2.1 dX9_foesOf_24 rfl (lv_at hl 0 rfl) ?_
      obtain ⟨y7, hy7, hf⟩ := b_some hf
      refine c_Vi C0 hK hN hl.1 hW hA (KX9_outsiders l D cy  ad P V (gp I []) (gp J []) (gm A []) (gm B [])  hy7) (JN_id rfl rfl rfl rfl) (Uw_V uw_1475 uw_1477 us_78 uw_14 uw_1478) rfl rfl hd_X9_outsiders ⟨rfl, rfl⟩ rfl (dn_some LY_X9_0) rfl rfl rfl dX9_foesOf_25 ⟨Nat.zero_le _, Nat.zero_le _⟩ (fun H locs hW => ?_)
      have hW : wd D (dn cy LY_X9 ad P V (gp I []) (gp J []) (gm A []) (gm B [])) Af s.heap H locs := hW
      refine lv_goto (tgt := 46) C0.1 C0.2.1 dX9_foesOf_28 (by decide) ?_
      exact tX9_foesOf_46 C0 hK hN hA  v1 y7 v1 _ _ ls hW (lv_sub hl [1] rfl) hf
  · have hf := ite_f hc2 hf
    refine lv_iconst (v := 0) C0.1 C0.2.1 dX9_foesOf_8 kI_0 ?_
    obtain rfl := Option.some.inj hf
    exact r_int C0 hK hW dX9_foesOf_9
