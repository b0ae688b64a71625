-- X9_colder
def rmX9_colder : Room := { frames := 4, cells := 0, slots := 0, locals := 86 }
def fX9_colder (m_terrace : (Nat → Int32)) (m_burns : (Nat → Int32)) (m_kind : (Nat → Int32)) (m_cold : (Nat → Int32)) (m_thrown : Int32) (m_colder : Int32) (m_s : (Nat → Int32)) (m_before : (Nat → Int32)) (v1 : Int32) (v2 : Int32) : Option (Int32 × Int32 × Int32 × (Nat → Int32) × (Nat → Int32)) := Option.bind (fX9_within v1 1 30) fun y1 => (if y1 = 0 then (some ((-1), 0, m_colder, m_s, m_before)) else (Option.bind (fX9_within v2 0 3) fun y3 => (if y3 = 0 then (some ((-1), 0, m_colder, m_s, m_before)) else (Option.bind (fX9_copies 13 13 m_s m_before 0 0) fun y5 => (Option.bind (fX9_goesOn v2 m_terrace m_burns m_kind m_cold m_s v1) fun y6 => (Option.bind (fX9_copies 13 13 y5 y6 0 0) fun y7 => (some ((y6 1), 0, 0, y7, y5))))))))
set_option maxHeartbeats 4000000 in
set_option maxRecDepth 100000 in
theorem KX9_colder (l : Launch) (D : va_G) (cy : Nat → ClassId) (ad : Nat → Nat) (P : MP) (V : MV) (I : MI) (J : MJ) (A : MI) (B : MJ) (v1 : Int32) (v2 : Int32) {res : Int32 × Int32 × Int32 × (Nat → Int32) × (Nat → Int32)} (hf : fX9_colder (A 2) (A 7) (A 9) (A 12) (I 0 0) (I 0 54) (A 35) (A 37) v1 v2 = some res) : CG l yX9_colder cX9_colder 4 (some .int) rmX9_colder D cy (dn cy LY_X9 ad P V I J A B) [.ref (ad 0), .int v1, .int v2] (some (.int res.1)) (dn cy LY_X9 ad P V (gp I [(0, 0, res.2.1), (0, 54, res.2.2.1)]) (gp J []) (gm A [(35, res.2.2.2.1), (37, res.2.2.2.2)]) (gm B [])) := by
  refine CG.of (own := RX9) (by decide) rfl rfl ?_
  intro p e s m below meth c ls Af C0 hK hN hA hW hl
  have hW : wd D (dn cy LY_X9 ad P V (gp I [(0, 0, (I 0 0)), (0, 54, (I 0 54))]) (gp J []) (gm A [(35, (A 35)), (37, (A 37))]) (gm B [])) Af s.heap s.heap [] := wd_sel [(0, 0), (0, 54)] [] [35, 37] [] hW
  have hl : lv_has ls 4 [(0, .ref (ad 0)), (1, .int v1), (2, .int v2)] := hl
  unfold fX9_colder at hf
  refine lv_aload_n C0.1 C0.2.1 dX9_colder_0 rfl (lv_at hl 0 rfl) ?_
  refine lv_iconst (v := 0) C0.1 C0.2.1 dX9_colder_1 kI_0 ?_
  refine s_putI C0 hK hW 0 0 LY_X9_0 rfl fg_X9_142 fp_X9_0 rfl dX9_colder_2 (fun H locs hW => ?_)
  have hW : wd D (dn cy LY_X9 ad P V (gp I [(0, 0, 0), (0, 54, (I 0 54))]) (gp J []) (gm A [(35, (A 35)), (37, (A 37))]) (gm B [])) Af s.heap H locs := hW
  refine lv_iload_n C0.1 C0.2.1 dX9_colder_5 rfl (lv_at hl 1 rfl) ?_
  refine lv_iconst (v := 1) C0.1 C0.2.1 dX9_colder_6 kI_1 ?_
  refine lv_bipush (v := 30) C0.1 C0.2.1 dX9_colder_7 kB_30 ?_
  obtain ⟨y1, hy1, hf⟩ := b_some hf
  refine c_Si C0 hK hN hl.1 hW hA (KX9_within l D cy  (fun q => ad (pl_LY_X9_LY_0_.getD q 0)) (fun q => P (pl_LY_X9_LY_0_.getD q 0)) (fun q => Vx LY_X9 ad V (pl_LY_X9_LY_0_.getD q 0)) (fun q => gp I [(0, 0, 0), (0, 54, (I 0 54))] (pl_LY_X9_LY_0_.getD q 0)) (fun q => gp J [] (pl_LY_X9_LY_0_.getD q 0)) (fun q => gm A [(35, (A 35)), (37, (A 37))] (pl_LY_X9_LY_0_.getD q 0)) (fun q => gm B [] (pl_LY_X9_LY_0_.getD q 0)) v1 1 30 hy1) (JN_subC (pl := pl_LY_X9_LY_0_) sb_LY_X9_LY_0_ rfl rfl rfl rfl rfl rfl rfl rfl rfl) ⟨uw_1331, uw_1332, uw_14, uw_1333⟩ rfl rfl hd_X9_within ⟨rfl, rfl⟩ rfl rfl rfl dX9_colder_9 ⟨Nat.zero_le _, Nat.zero_le _⟩ (fun H locs hW => ?_)
  have hW : wd D (dn cy LY_X9 ad P V (gp I [(0, 0, 0), (0, 54, (I 0 54))]) (gp J []) (gm A [(35, (A 35)), (37, (A 37))]) (gm B [])) Af s.heap H locs := hW
  refine lv_if_eq (tgt := 24) C0.1 C0.2.1 dX9_colder_12 (by decide) (fun hc2 => ?_) (fun hc2 => ?_)
  · have hf := ite_t hc2 hf
    refine lv_iconst (v := (-1)) C0.1 C0.2.1 dX9_colder_24 kI_m1 ?_
    obtain rfl := Option.some.inj hf
    exact r_int C0 hK hW dX9_colder_25
  · have hf := ite_f hc2 hf
    refine lv_iload_n C0.1 C0.2.1 dX9_colder_15 rfl (lv_at hl 2 rfl) ?_
    refine lv_iconst (v := 0) C0.1 C0.2.1 dX9_colder_16 kI_0 ?_
    refine lv_iconst (v := 3) C0.1 C0.2.1 dX9_colder_17 kI_3 ?_
    obtain ⟨y3, hy3, hf⟩ := b_some hf
    refine c_Si C0 hK hN hl.1 hW hA (KX9_within l D cy  (fun q => ad (pl_LY_X9_LY_0_.getD q 0)) (fun q => P (pl_LY_X9_LY_0_.getD q 0)) (fun q => Vx LY_X9 ad V (pl_LY_X9_LY_0_.getD q 0)) (fun q => gp I [(0, 0, 0), (0, 54, (I 0 54))] (pl_LY_X9_LY_0_.getD q 0)) (fun q => gp J [] (pl_LY_X9_LY_0_.getD q 0)) (fun q => gm A [(35, (A 35)), (37, (A 37))] (pl_LY_X9_LY_0_.getD q 0)) (fun q => gm B [] (pl_LY_X9_LY_0_.getD q 0)) v2 0 3 hy3) (JN_subC (pl := pl_LY_X9_LY_0_) sb_LY_X9_LY_0_ rfl rfl rfl rfl rfl rfl rfl rfl rfl) ⟨uw_1331, uw_1332, uw_14, uw_1333⟩ rfl rfl hd_X9_within ⟨rfl, rfl⟩ rfl rfl rfl dX9_colder_18 ⟨Nat.zero_le _, Nat.zero_le _⟩ (fun H locs hW => ?_)
    have hW : wd D (dn cy LY_X9 ad P V (gp I [(0, 0, 0), (0, 54, (I 0 54))]) (gp J []) (gm A [(35, (A 35)), (37, (A 37))]) (gm B [])) Af s.heap H locs := hW
    refine lv_if_ne (tgt := 26) C0.1 C0.2.1 dX9_colder_21 (by decide) (fun hc4 => ?_) (fun hc4 => ?_)
    · have hf := ite_f hc4 hf
      refine lv_aload_n C0.1 C0.2.1 dX9_colder_26 rfl (lv_at hl 0 rfl) ?_
      refine s_get (v := .ref (ad 35)) C0 hK hW 0 47 LY_X9_0 rfl fg_X9_114 rfl dX9_colder_27 ?_
      refine lv_iconst (v := 0) C0.1 C0.2.1 dX9_colder_30 kI_0 ?_
      refine lv_aload_n C0.1 C0.2.1 dX9_colder_31 rfl (lv_at hl 0 rfl) ?_
      refine s_get (v := .ref (ad 37)) C0 hK hW 0 49 LY_X9_0 rfl fg_X9_120 rfl dX9_colder_32 ?_
      refine lv_iconst (v := 0) C0.1 C0.2.1 dX9_colder_35 kI_0 ?_
      obtain ⟨y5, hy5, hf⟩ := b_some hf
      refine c_Sv C0 hK hN hl.1 hW hA (KX9_copies l D cy 13 13 (fun q => ad (pl_LY_X9_LY_aIaI_35_37.getD q 0)) (fun q => P (pl_LY_X9_LY_aIaI_35_37.getD q 0)) (fun q => Vx LY_X9 ad V (pl_LY_X9_LY_aIaI_35_37.getD q 0)) (fun q => gp I [(0, 0, 0), (0, 54, (I 0 54))] (pl_LY_X9_LY_aIaI_35_37.getD q 0)) (fun q => gp J [] (pl_LY_X9_LY_aIaI_35_37.getD q 0)) (fun q => gm A [(35, (A 35)), (37, (A 37))] (pl_LY_X9_LY_aIaI_35_37.getD q 0)) (fun q => gm B [] (pl_LY_X9_LY_aIaI_35_37.getD q 0)) 0 0 hy5) (JN_subC (pl := pl_LY_X9_LY_aIaI_35_37) sb_LY_X9_LY_aIaI_35_37 rfl rfl rfl rfl rfl rfl rfl rfl rfl) ⟨uw_1495, uw_1496, uw_14, uw_1497⟩ rfl rfl hd_X9_copies ⟨rfl, rfl⟩ rfl rfl rfl dX9_colder_36 ⟨Nat.zero_le _, Nat.zero_le _⟩ (fun H locs hW => ?_)
      have hW : wd D (dn cy LY_X9 ad P V (gp I [(0, 0, 0), (0, 54, (I 0 54))]) (gp J []) (gm A [(35, (A 35)), (37, y5)]) (gm B [])) Af s.heap H locs := hW
      refine lv_aload_n C0.1 C0.2.1 dX9_colder_39 rfl (lv_at hl 0 rfl) ?_
      refine lv_iload_n C0.1 C0.2.1 dX9_colder_40 rfl (lv_at hl 2 rfl) ?_
      refine s_putI C0 hK hW 0 54 LY_X9_0 rfl fg_X9_397 fp_X9_54 rfl dX9_colder_41 (fun H locs hW => ?_)
      have hW : wd D (dn cy LY_X9 ad P V (gp I [(0, 0, 0), (0, 54, v2)]) (gp J []) (gm A [(35, (A 35)), (37, y5)]) (gm B [])) Af s.heap H locs := hW
      refine lv_aload_n C0.1 C0.2.1 dX9_colder_44 rfl (lv_at hl 0 rfl) ?_
      refine lv_iload_n C0.1 C0.2.1 dX9_colder_45 rfl (lv_at hl 1 rfl) ?_
      obtain ⟨y6, hy6, hf⟩ := b_some hf
      refine c_Vv C0 hK hN hl.1 hW hA (KX9_goesOn l D cy  ad P V (gp I [(0, 0, 0), (0, 54, v2)]) (gp J []) (gm A [(35, (A 35)), (37, y5)]) (gm B []) v1 hy6) (JN_id rfl rfl rfl rfl) (Uw_V uw_1572 uw_1574 us_90 uw_14 uw_1575) rfl rfl hd_X9_goesOn ⟨rfl, rfl⟩ rfl (dn_some LY_X9_0) rfl rfl rfl dX9_colder_46 ⟨Nat.zero_le _, Nat.zero_le _⟩ (fun H locs hW => ?_)
      have hW : wd D (dn cy LY_X9 ad P V (gp I [(0, 0, 0), (0, 54, v2)]) (gp J []) (gm A [(35, y6), (37, y5)]) (gm B [])) Af s.heap H locs := hW
      refine lv_aload_n C0.1 C0.2.1 dX9_colder_49 rfl (lv_at hl 0 rfl) ?_
      refine lv_iconst (v := 0) C0.1 C0.2.1 dX9_colder_50 kI_0 ?_
      refine s_putI C0 hK hW 0 54 LY_X9_0 rfl fg_X9_397 fp_X9_54 rfl dX9_colder_51 (fun H locs hW => ?_)
      have hW : wd D (dn cy LY_X9 ad P V (gp I [(0, 0, 0), (0, 54, 0)]) (gp J []) (gm A [(35, y6), (37, y5)]) (gm B [])) Af s.heap H locs := hW
      refine lv_aload_n C0.1 C0.2.1 dX9_colder_54 rfl (lv_at hl 0 rfl) ?_
      refine s_get (v := .ref (ad 35)) C0 hK hW 0 47 LY_X9_0 rfl fg_X9_114 rfl dX9_colder_55 ?_
      refine lv_iconst (v := 1) C0.1 C0.2.1 dX9_colder_58 kI_1 ?_
      refine s_iald (v := (y6 1)) C0 hK hW 35 LY_X9_35 rfl (congrArg _ tc_1) dX9_colder_59 ?_
      refine lv_istore_n (lv' := [(3, .int (y6 1)), (0, .ref (ad 0)), (1, .int v1), (2, .int v2)]) C0.1 C0.2.1 dX9_colder_60 rfl hl (by decide) rfl (fun ls hl => ?_)
      refine lv_aload_n C0.1 C0.2.1 dX9_colder_61 rfl (lv_at hl 1 rfl) ?_
      refine s_get (v := .ref (ad 37)) C0 hK hW 0 49 LY_X9_0 rfl fg_X9_120 rfl dX9_colder_62 ?_
      refine lv_iconst (v := 0) C0.1 C0.2.1 dX9_colder_65 kI_0 ?_
      refine lv_aload_n C0.1 C0.2.1 dX9_colder_66 rfl (lv_at hl 1 rfl) ?_
      refine s_get (v := .ref (ad 35)) C0 hK hW 0 47 LY_X9_0 rfl fg_X9_114 rfl dX9_colder_67 ?_
      refine lv_iconst (v := 0) C0.1 C0.2.1 dX9_colder_70 kI_0 ?_
      obtain ⟨y7, hy7, hf⟩ := b_some hf
      refine c_Sv C0 hK hN hl.1 hW hA (KX9_copies l D cy 13 13 (fun q => ad (pl_LY_X9_LY_aIaI_37_35.getD q 0)) (fun q => P (pl_LY_X9_LY_aIaI_37_35.getD q 0)) (fun q => Vx LY_X9 ad V (pl_LY_X9_LY_aIaI_37_35.getD q 0)) (fun q => gp I [(0, 0, 0), (0, 54, 0)] (pl_LY_X9_LY_aIaI_37_35.getD q 0)) (fun q => gp J [] (pl_LY_X9_LY_aIaI_37_35.getD q 0)) (fun q => gm A [(35, y6), (37, y5)] (pl_LY_X9_LY_aIaI_37_35.getD q 0)) (fun q => gm B [] (pl_LY_X9_LY_aIaI_37_35.getD q 0)) 0 0 hy7) (JN_subC (pl := pl_LY_X9_LY_aIaI_37_35) sb_LY_X9_LY_aIaI_37_35 rfl rfl rfl rfl rfl rfl rfl rfl rfl) ⟨uw_1495, uw_1496, uw_14, uw_1497⟩ rfl rfl hd_X9_copies ⟨rfl, rfl⟩ rfl rfl rfl dX9_colder_71 ⟨Nat.zero_le _, Nat.zero_le _⟩ (fun H locs hW => ?_)
      have hW : wd D (dn cy LY_X9 ad P V (gp I [(0, 0, 0), (0, 54, 0)]) (gp J []) (gm A [(35, y7), (37, y5)]) (gm B [])) Af s.heap H locs := hW
      refine lv_iload_n C0.1 C0.2.1 dX9_colder_74 rfl (lv_at hl 0 rfl) ?_
      obtain rfl := Option.some.inj hf
      exact r_int C0 hK hW dX9_colder_75
    · have hf := ite_t hc4 hf
      refine lv_iconst (v := (-1)) C0.1 C0.2.1 dX9_colder_24 kI_m1 ?_
      obtain rfl := Option.some.inj hf
      exact r_int C0 hK hW dX9_colder_25
-- X9_getsBy
def rmX9_getsBy : Room := { frames := 1, cells := 0, slots := 0, locals := 21 }
def fX9_getsBy (v0 : Int32) (v1 : Int32) (v2 : Int32) (v3 : Int32) (v4 : Int32) : Option (Int32) := if v3 = 1 then (if v4 = 1 then (some (v0)) else (some ((-v1)))) else (if v4 = 1 then (some (v2)) else (some (0)))
set_option maxHeartbeats 4000000 in
set_option maxRecDepth 100000 in
theorem KX9_getsBy (l : Launch) (D : va_G) (cy : Nat → ClassId) (ad : Nat → Nat) (P : MP) (V : MV) (I : MI) (J : MJ) (A : MI) (B : MJ) (v0 : Int32) (v1 : Int32) (v2 : Int32) (v3 : Int32) (v4 : Int32) {res : Int32} (hf : fX9_getsBy v0 v1 v2 v3 v4 = some res) : CG l yX9_getsBy cX9_getsBy 5 (some .int) rmX9_getsBy D cy (dn cy LY_0 ad P V I J A B) [.int v0, .int v1, .int v2, .int v3, .int v4] (some (.int res)) (dn cy LY_0 ad P V (gp I []) (gp J []) (gm A []) (gm B [])) := by
  refine CG.of (own := RX9) (by decide) rfl rfl ?_
  intro p e s m below meth c ls Af C0 hK hN hA hW hl
  have hW : wd D (dn cy LY_0 ad P V (gp I []) (gp J []) (gm A []) (gm B [])) Af s.heap s.heap [] := wd_sel [] [] [] [] hW
  have hl : lv_has ls 5 [(0, .int v0), (1, .int v1), (2, .int v2), (3, .int v3), (4, .int v4)] := hl
  unfold fX9_getsBy at hf
  refine lv_iload_n C0.1 C0.2.1 dX9_getsBy_0 rfl (lv_at hl 3 rfl) ?_
  refine lv_iconst (v := 1) C0.1 C0.2.1 dX9_getsBy_1 kI_1 ?_
  refine lv_icmp_ne (tgt := 20) C0.1 C0.2.1 dX9_getsBy_2 (by decide) (fun hc1 => ?_) (fun hc1 => ?_)
  · have hf := ite_f hc1 hf
    refine lv_iload C0.1 C0.2.1 dX9_getsBy_20 (lv_at hl 4 rfl) ?_
    refine lv_iconst (v := 1) C0.1 C0.2.1 dX9_getsBy_22 kI_1 ?_
    refine lv_icmp_ne (tgt := 30) C0.1 C0.2.1 dX9_getsBy_23 (by decide) (fun hc2 => ?_) (fun hc2 => ?_)
    · have hf := ite_f hc2 hf
      refine lv_iconst (v := 0) C0.1 C0.2.1 dX9_getsBy_30 kI_0 ?_
      obtain rfl := Option.some.inj hf
      exact r_int C0 hK hW dX9_getsBy_31
    · have hf := ite_t hc2 hf
      refine lv_iload_n C0.1 C0.2.1 dX9_getsBy_26 rfl (lv_at hl 2 rfl) ?_
      refine lv_goto (tgt := 31) C0.1 C0.2.1 dX9_getsBy_27 (by decide) ?_
      obtain rfl := Option.some.inj hf
      exact r_int C0 hK hW dX9_getsBy_31
  · have hf := ite_t hc1 hf
    refine lv_iload C0.1 C0.2.1 dX9_getsBy_5 (lv_at hl 4 rfl) ?_
    refine lv_iconst (v := 1) C0.1 C0.2.1 dX9_getsBy_7 kI_1 ?_
    refine lv_icmp_ne (tgt := 15) C0.1 C0.2.1 dX9_getsBy_8 (by decide) (fun hc3 => ?_) (fun hc3 => ?_)
    · have hf := ite_f hc3 hf
      refine lv_iload_n C0.1 C0.2.1 dX9_getsBy_15 rfl (lv_at hl 1 rfl) ?_
      refine lv_ineg C0.1 C0.2.1 dX9_getsBy_16 ?_
      refine lv_goto (tgt := 31) C0.1 C0.2.1 dX9_getsBy_17 (by decide) ?_
      obtain rfl := Option.some.inj hf
      exact r_int C0 hK hW dX9_getsBy_31
    · have hf := ite_t hc3 hf
      refine lv_iload_n C0.1 C0.2.1 dX9_getsBy_11 rfl (lv_at hl 0 rfl) ?_
      refine lv_goto (tgt := 31) C0.1 C0.2.1 dX9_getsBy_12 (by decide) ?_
      obtain rfl := Option.some.inj hf
      exact r_int C0 hK hW dX9_getsBy_31
-- X9_rests
def rmX9_rests : Room := { frames := 2, cells := 0, slots := 0, locals := 45 }
def SX9_rests_163 (p : Program) (l : Launch) (e : Env) (s : State) (m : MethodId) (args : Array Value) (below : List Frame) (meth : Method) (c : Code) (D : va_G) (cy : Nat → ClassId) (ad : Nat → Nat) (P : MP) (V : MV) (I : MI) (J : MJ) (A : MI) (B : MJ) (Af : Nat → Prop) (res : Int32 × Int32) (k : Int32 → Int32 → Int32 → Int32 → Option (Int32 × Int32)) : Prop := ∀ (m_thrown : Int32) (v4 : Int32) (v5 : Int32) (x0 : Int32) (H : Heap) (locs : List Loc) (ls : Array Slot), wd D (dn cy LY_X9 ad P V (gp I [(0, 0, m_thrown)]) (gp J []) (gm A []) (gm B [])) Af s.heap H locs → lv_has ls 9 [(4, .int v4), (5, .int v5)] → k m_thrown v4 v5 x0 = some res → W p l e rmX9_rests s m args below meth c H locs 0 0 (ZQ below D cy (dn cy LY_X9 ad P V (gp I [(0, 0, res.2)]) (gp J []) (gm A []) (gm B [])) (some (.int res.1)) Af args s) (F0 m 163 ls [.int x0, .ref (ad 0)])
def SX9_rests_61 (p : Program) (l : Launch) (e : Env) (s : State) (m : MethodId) (args : Array Value) (below : List Frame) (meth : Method) (c : Code) (D : va_G) (cy : Nat → ClassId) (ad : Nat → Nat) (P : MP) (V : MV) (I : MI) (J : MJ) (A : MI) (B : MJ) (Af : Nat → Prop) (res : Int32 × Int32) (k : Int32 → Int32 → Int32 → Int32 → Int32 → Int32 → Int32 → Option (Int32 × Int32)) : Prop := ∀ (m_thrown : Int32) (v1 : Int32) (v2 : Int32) (v3 : Int32) (v4 : Int32) (v5 : Int32) (v6 : Int32) (H : Heap) (locs : List Loc) (ls : Array Slot), wd D (dn cy LY_X9 ad P V (gp I [(0, 0, m_thrown)]) (gp J []) (gm A []) (gm B [])) Af s.heap H locs → lv_has ls 9 [(0, .ref (ad 0)), (1, .int v1), (2, .int v2), (3, .int v3), (4, .int v4), (5, .int v5), (6, .int v6)] → k m_thrown v1 v2 v3 v4 v5 v6 = some res → W p l e rmX9_rests s m args below meth c H locs 0 0 (ZQ below D cy (dn cy LY_X9 ad P V (gp I [(0, 0, res.2)]) (gp J []) (gm A []) (gm B [])) (some (.int res.1)) Af args s) (F0 m 61 ls [])
def SX9_rests_42 (p : Program) (l : Launch) (e : Env) (s : State) (m : MethodId) (args : Array Value) (below : List Frame) (meth : Method) (c : Code) (D : va_G) (cy : Nat → ClassId) (ad : Nat → Nat) (P : MP) (V : MV) (I : MI) (J : MJ) (A : MI) (B : MJ) (Af : Nat → Prop) (res : Int32 × Int32) (k : Int32 → Int32 → Int32 → Int32 → Int32 → Int32 → Option (Int32 × Int32)) : Prop := ∀ (m_thrown : Int32) (v1 : Int32) (v2 : Int32) (v3 : Int32) (v4 : Int32) (x0 : Int32) (H : Heap) (locs : List Loc) (ls : Array Slot), wd D (dn cy LY_X9 ad P V (gp I [(0, 0, m_thrown)]) (gp J []) (gm A []) (gm B [])) Af s.heap H locs → lv_has ls 9 [(0, .ref (ad 0)), (1, .int v1), (2, .int v2), (3, .int v3), (4, .int v4)] → k m_thrown v1 v2 v3 v4 x0 = some res → W p l e rmX9_rests s m args below meth c H locs 0 0 (ZQ below D cy (dn cy LY_X9 ad P V (gp I [(0, 0, res.2)]) (gp J []) (gm A []) (gm B [])) (some (.int res.1)) Af args s) (F0 m 42 ls [.int x0, .ref (ad 0)])
def fX9_rests_163 (m_thrown : Int32) (v4 : Int32) (v5 : Int32) (x0 : Int32) : Option (Int32 × Int32) := if v4 = (-1) then (some (v5, x0)) else (some (0, x0))
set_option maxHeartbeats 4000000 in
set_option maxRecDepth 100000 in
theorem tX9_rests_163 {p : Program} {l : Launch} {e : Env} {s : State} {m : MethodId} {args : Array Value} {below : List Frame} {meth : Method} {c : Code} {D : va_G} {cy : Nat → ClassId} {ad : Nat → Nat} {P : MP} {V : MV} {I : MI} {J : MJ} {A : MI} {B : MJ} {Af : Nat → Prop} {res : Int32 × Int32} (C0 : CX p s m args meth c cX9_rests 9 (some .int) RX9) (hK : va_K D vwCl (tyG cy) s) (hN : NWs s) (hA : ∀ q, s.heap.size ≤ q → Af q) : SX9_rests_163 p l e s m args below meth c D cy ad P V I J A B Af res (fX9_rests_163 ) := by
  intro m_thrown v4 v5 x0 H locs ls hW hl hf
  unfold fX9_rests_163 at hf
  refine s_putI C0 hK hW 0 0 LY_X9_0 rfl fg_X9_142 fp_X9_0 rfl dX9_rests_163 (fun H locs hW => ?_)
  have hW : wd D (dn cy LY_X9 ad P V (gp I [(0, 0, x0)]) (gp J []) (gm A []) (gm B [])) Af s.heap H locs := hW
  refine lv_iload C0.1 C0.2.1 dX9_rests_166 (lv_at hl 0 rfl) ?_
  refine lv_iconst (v := (-1)) C0.1 C0.2.1 dX9_rests_168 kI_m1 ?_
  refine lv_icmp_ne (tgt := 177) C0.1 C0.2.1 dX9_rests_169 (by decide) (fun hc1 => ?_) (fun hc1 => ?_)
  · have hf := ite_f hc1 hf
    refine lv_iconst (v := 0) C0.1 C0.2.1 dX9_rests_177 kI_0 ?_
    obtain rfl := Option.some.inj hf
    exact r_int C0 hK hW dX9_rests_178
  · have hf := ite_t hc1 hf
    refine lv_iload C0.1 C0.2.1 dX9_rests_172 (lv_at hl 1 rfl) ?_
    refine lv_goto (tgt := 178) C0.1 C0.2.1 dX9_rests_174 (by decide) ?_
    obtain rfl := Option.some.inj hf
    exact r_int C0 hK hW dX9_rests_178
def fX9_rests_61 (k61 : Int32 → Int32 → Int32 → Int32 → Int32 → Int32 → Int32 → Option (Int32 × Int32)) (m_thrown : Int32) (v1 : Int32) (v2 : Int32) (v3 : Int32) (v4 : Int32) (v5 : Int32) (v6 : Int32) : Option (Int32 × Int32) := if 4 ≤ v6 then (if v4 = (-1) then (fX9_rests_163 m_thrown v4 v5 0) else (fX9_rests_163 m_thrown v4 v5 1)) else (Option.bind (fX9_getsBy v1 v2 v3 (1 - (v6 / 2)) (v6 - v6 / 2 * 2)) fun y3 => (Option.bind (fX9_getsBy v1 v2 v3 (v6 / 2) (v6 - v6 / 2 * 2)) fun y4 => (if y4 < y3 then (k61 m_thrown v1 v2 v3 v4 v5 (v6 + 1)) else (Option.bind (fX9_getsBy v1 v2 v3 (1 - (v6 - v6 / 2 * 2)) (v6 / 2)) fun y6 => (Option.bind (fX9_getsBy v1 v2 v3 (v6 - v6 / 2 * 2) (v6 / 2)) fun y7 => (if y6 ≤ y7 then (if v5 = v4 then (some (v6, m_thrown)) else (k61 m_thrown v1 v2 v3 v4 (v5 + 1) (v6 + 1))) else (k61 m_thrown v1 v2 v3 v4 v5 (v6 + 1))))))))
set_option maxHeartbeats 4000000 in
set_option maxRecDepth 100000 in
theorem tX9_rests_61 {p : Program} {l : Launch} {e : Env} {s : State} {m : MethodId} {args : Array Value} {below : List Frame} {meth : Method} {c : Code} {D : va_G} {cy : Nat → ClassId} {ad : Nat → Nat} {P : MP} {V : MV} {I : MI} {J : MJ} {A : MI} {B : MJ} {Af : Nat → Prop} {res : Int32 × Int32} (C0 : CX p s m args meth c cX9_rests 9 (some .int) RX9) (hK : va_K D vwCl (tyG cy) s) (hN : NWs s) (hA : ∀ q, s.heap.size ≤ q → Af q) {k61 : Int32 → Int32 → Int32 → Int32 → Int32 → Int32 → Int32 → Option (Int32 × Int32)} (hk61 : SX9_rests_61 p l e s m args below meth c D cy ad P V I J A B Af res k61) : SX9_rests_61 p l e s m args below meth c D cy ad P V I J A B Af res (fX9_rests_61 k61) := by
  intro m_thrown v1 v2 v3 v4 v5 v6 H locs ls hW hl hf
  unfold fX9_rests_61 at hf
  refine lv_iload C0.1 C0.2.1 dX9_rests_61 (lv_at hl 6 rfl) ?_
  refine lv_iconst (v := 4) C0.1 C0.2.1 dX9_rests_63 kI_4 ?_
  refine lv_icmp_ge (tgt := 151) C0.1 C0.2.1 dX9_rests_64 (by decide) (fun hc1 => ?_) (fun hc1 => ?_)
  · have hf := ite_t hc1 hf
    refine lv_aload_n C0.1 C0.2.1 dX9_rests_151 rfl (lv_at hl 0 rfl) ?_
    refine lv_iload C0.1 C0.2.1 dX9_rests_152 (lv_at hl 4 rfl) ?_
    refine lv_iconst (v := (-1)) C0.1 C0.2.1 dX9_rests_154 kI_m1 ?_
    refine lv_icmp_ne (tgt := 162) C0.1 C0.2.1 dX9_rests_155 (by decide) (fun hc2 => ?_) (fun hc2 => ?_)
    · have hf := ite_f hc2 hf
      refine lv_iconst (v := 1) C0.1 C0.2.1 dX9_rests_162 kI_1 ?_
      exact tX9_rests_163 C0 hK hN hA  m_thrown v4 v5 1 H locs ls hW (lv_sub hl [4, 5] rfl) hf
    · have hf := ite_t hc2 hf
      refine lv_iconst (v := 0) C0.1 C0.2.1 dX9_rests_158 kI_0 ?_
      refine lv_goto (tgt := 163) C0.1 C0.2.1 dX9_rests_159 (by decide) ?_
      exact tX9_rests_163 C0 hK hN hA  m_thrown v4 v5 0 H locs ls hW (lv_sub hl [4, 5] rfl) hf
  · have hf := ite_f hc1 hf
    refine lv_iload C0.1 C0.2.1 dX9_rests_67 (lv_at hl 6 rfl) ?_
    refine lv_iconst (v := 2) C0.1 C0.2.1 dX9_rests_69 kI_2 ?_
    refine lv_idiv C0.1 C0.2.1 dX9_rests_70 (by decide) ?_
    refine lv_istore (lv' := [(7, .int (v6 / 2)), (0, .ref (ad 0)), (1, .int v1), (2, .int v2), (3, .int v3), (4, .int v4), (5, .int v5), (6, .int v6)]) C0.1 C0.2.1 dX9_rests_71 hl (by decide) rfl (fun ls hl => ?_)
    refine lv_iload C0.1 C0.2.1 dX9_rests_73 (lv_at hl 7 rfl) ?_
    refine lv_iconst (v := 2) C0.1 C0.2.1 dX9_rests_75 kI_2 ?_
    refine lv_irem C0.1 C0.2.1 dX9_rests_76 (by decide) ?_
    refine lv_istore (lv' := [(8, .int (v6 - v6 / 2 * 2)), (7, .int (v6 / 2)), (0, .ref (ad 0)), (1, .int v1), (2, .int v2), (3, .int v3), (4, .int v4), (5, .int v5), (6, .int v6)]) C0.1 C0.2.1 dX9_rests_77 hl (by decide) rfl (fun ls hl => ?_)
    refine lv_iload_n C0.1 C0.2.1 dX9_rests_79 rfl (lv_at hl 3 rfl) ?_
    refine lv_iload_n C0.1 C0.2.1 dX9_rests_80 rfl (lv_at hl 4 rfl) ?_
    refine lv_iload_n C0.1 C0.2.1 dX9_rests_81 rfl (lv_at hl 5 rfl) ?_
    refine lv_iconst (v := 1) C0.1 C0.2.1 dX9_rests_82 kI_1 ?_
    refine lv_iload C0.1 C0.2.1 dX9_rests_83 (lv_at hl 1 rfl) ?_
    refine lv_isub C0.1 C0.2.1 dX9_rests_85 ?_
    refine lv_iload C0.1 C0.2.1 dX9_rests_86 (lv_at hl 0 rfl) ?_
    obtain ⟨y3, hy3, hf⟩ := b_some hf
    refine c_Si C0 hK hN hl.1 hW hA (KX9_getsBy l D cy  (fun q => ad (pl_LY_X9_LY_0_.getD q 0)) (fun q => P (pl_LY_X9_LY_0_.getD q 0)) (fun q => Vx LY_X9 ad V (pl_LY_X9_LY_0_.getD q 0)) (fun q => gp I [(0, 0, m_thrown)] (pl_LY_X9_LY_0_.getD q 0)) (fun q => gp J [] (pl_LY_X9_LY_0_.getD q 0)) (fun q => gm A [] (pl_LY_X9_LY_0_.getD q 0)) (fun q => gm B [] (pl_LY_X9_LY_0_.getD q 0)) v1 v2 v3 (1 - (v6 / 2)) (v6 - v6 / 2 * 2) hy3) (JN_subC (pl := pl_LY_X9_LY_0_) sb_LY_X9_LY_0_ rfl rfl rfl rfl rfl rfl rfl rfl rfl) ⟨uw_1629, uw_1630, uw_14, uw_1631⟩ rfl rfl hd_X9_getsBy ⟨rfl, rfl⟩ rfl rfl rfl dX9_rests_88 ⟨Nat.zero_le _, Nat.zero_le _⟩ (fun H locs hW => ?_)
    have hW : wd D (dn cy LY_X9 ad P V (gp I [(0, 0, m_thrown)]) (gp J []) (gm A []) (gm B [])) Af s.heap H locs := hW
    refine lv_iload_n C0.1 C0.2.1 dX9_rests_91 rfl (lv_at hl 3 rfl) ?_
    refine lv_iload_n C0.1 C0.2.1 dX9_rests_92 rfl (lv_at hl 4 rfl) ?_
    refine lv_iload_n C0.1 C0.2.1 dX9_rests_93 rfl (lv_at hl 5 rfl) ?_
    refine lv_iload C0.1 C0.2.1 dX9_rests_94 (lv_at hl 1 rfl) ?_
    refine lv_iload C0.1 C0.2.1 dX9_rests_96 (lv_at hl 0 rfl) ?_
    obtain ⟨y4, hy4, hf⟩ := b_some hf
    refine c_Si C0 hK hN hl.1 hW hA (KX9_getsBy l D cy  (fun q => ad (pl_LY_X9_LY_0_.getD q 0)) (fun q => P (pl_LY_X9_LY_0_.getD q 0)) (fun q => Vx LY_X9 ad V (pl_LY_X9_LY_0_.getD q 0)) (fun q => gp I [(0, 0, m_thrown)] (pl_LY_X9_LY_0_.getD q 0)) (fun q => gp J [] (pl_LY_X9_LY_0_.getD q 0)) (fun q => gm A [] (pl_LY_X9_LY_0_.getD q 0)) (fun q => gm B [] (pl_LY_X9_LY_0_.getD q 0)) v1 v2 v3 (v6 / 2) (v6 - v6 / 2 * 2) hy4) (JN_subC (pl := pl_LY_X9_LY_0_) sb_LY_X9_LY_0_ rfl rfl rfl rfl rfl rfl rfl rfl rfl) ⟨uw_1629, uw_1630, uw_14, uw_1631⟩ rfl rfl hd_X9_getsBy ⟨rfl, rfl⟩ rfl rfl rfl dX9_rests_98 ⟨Nat.zero_le _, Nat.zero_le _⟩ (fun H locs hW => ?_)
    have hW : wd D (dn cy LY_X9 ad P V (gp I [(0, 0, m_thrown)]) (gp J []) (gm A []) (gm B [])) Af s.heap H locs := hW
    refine lv_icmp_gt (tgt := 145) C0.1 C0.2.1 dX9_rests_101 (by decide) (fun hc5 => ?_) (fun hc5 => ?_)
    · have hf := ite_t hc5 hf
      refine lv_iinc (v := (v6 + 1)) (lv' := [(6, .int (v6 + 1)), (8, .int (v6 - v6 / 2 * 2)), (7, .int (v6 / 2)), (0, .ref (ad 0)), (1, .int v1), (2, .int v2), (3, .int v3), (4, .int v4), (5, .int v5)]) C0.1 C0.2.1 dX9_rests_145 hl (k := 8) rfl (congrArg (fun z => _ + z) kI_1) (by decide) rfl (fun ls hl => ?_)
      refine lv_goto (tgt := 61) C0.1 C0.2.1 dX9_rests_148 (by decide) ?_
      exact hk61 m_thrown v1 v2 v3 v4 v5 (v6 + 1) H locs ls hW (lv_sub hl [3, 4, 5, 6, 7, 8, 0] rfl) hf
    · have hf := ite_f hc5 hf
      refine lv_iload_n C0.1 C0.2.1 dX9_rests_104 rfl (lv_at hl 3 rfl) ?_
      refine lv_iload_n C0.1 C0.2.1 dX9_rests_105 rfl (lv_at hl 4 rfl) ?_
      refine lv_iload_n C0.1 C0.2.1 dX9_rests_106 rfl (lv_at hl 5 rfl) ?_
      refine lv_iconst (v := 1) C0.1 C0.2.1 dX9_rests_107 kI_1 ?_
      refine lv_iload C0.1 C0.2.1 dX9_rests_108 (lv_at hl 0 rfl) ?_
      refine lv_isub C0.1 C0.2.1 dX9_rests_110 ?_
      refine lv_iload C0.1 C0.2.1 dX9_rests_111 (lv_at hl 1 rfl) ?_
      obtain ⟨y6, hy6, hf⟩ := b_some hf
      refine c_Si C0 hK hN hl.1 hW hA (KX9_getsBy l D cy  (fun q => ad (pl_LY_X9_LY_0_.getD q 0)) (fun q => P (pl_LY_X9_LY_0_.getD q 0)) (fun q => Vx LY_X9 ad V (pl_LY_X9_LY_0_.getD q 0)) (fun q => gp I [(0, 0, m_thrown)] (pl_LY_X9_LY_0_.getD q 0)) (fun q => gp J [] (pl_LY_X9_LY_0_.getD q 0)) (fun q => gm A [] (pl_LY_X9_LY_0_.getD q 0)) (fun q => gm B [] (pl_LY_X9_LY_0_.getD q 0)) v1 v2 v3 (1 - (v6 - v6 / 2 * 2)) (v6 / 2) hy6) (JN_subC (pl := pl_LY_X9_LY_0_) sb_LY_X9_LY_0_ rfl rfl rfl rfl rfl rfl rfl rfl rfl) ⟨uw_1629, uw_1630, uw_14, uw_1631⟩ rfl rfl hd_X9_getsBy ⟨rfl, rfl⟩ rfl rfl rfl dX9_rests_113 ⟨Nat.zero_le _, Nat.zero_le _⟩ (fun H locs hW => ?_)
      have hW : wd D (dn cy LY_X9 ad P V (gp I [(0, 0, m_thrown)]) (gp J []) (gm A []) (gm B [])) Af s.heap H locs := hW
      refine lv_iload_n C0.1 C0.2.1 dX9_rests_116 rfl (lv_at hl 3 rfl) ?_
      refine lv_iload_n C0.1 C0.2.1 dX9_rests_117 rfl (lv_at hl 4 rfl) ?_
      refine lv_iload_n C0.1 C0.2.1 dX9_rests_118 rfl (lv_at hl 5 rfl) ?_
      refine lv_iload C0.1 C0.2.1 dX9_rests_119 (lv_at hl 0 rfl) ?_
      refine lv_iload C0.1 C0.2.1 dX9_rests_121 (lv_at hl 1 rfl) ?_
      obtain ⟨y7, hy7, hf⟩ := b_some hf
      refine c_Si C0 hK hN hl.1 hW hA (KX9_getsBy l D cy  (fun q => ad (pl_LY_X9_LY_0_.getD q 0)) (fun q => P (pl_LY_X9_LY_0_.getD q 0)) (fun q => Vx LY_X9 ad V (pl_LY_X9_LY_0_.getD q 0)) (fun q => gp I [(0, 0, m_thrown)] (pl_LY_X9_LY_0_.getD q 0)) (fun q => gp J [] (pl_LY_X9_LY_0_.getD q 0)) (fun q => gm A [] (pl_LY_X9_LY_0_.getD q 0)) (fun q => gm B [] (pl_LY_X9_LY_0_.getD q 0)) v1 v2 v3 (v6 - v6 / 2 * 2) (v6 / 2) hy7) (JN_subC (pl := pl_LY_X9_LY_0_) sb_LY_X9_LY_0_ rfl rfl rfl rfl rfl rfl rfl rfl rfl) ⟨uw_1629, uw_1630, uw_14, uw_1631⟩ rfl rfl hd_X9_getsBy ⟨rfl, rfl⟩ rfl rfl rfl dX9_rests_123 ⟨Nat.zero_le _, Nat.zero_le _⟩ (fun H locs hW => ?_)
      have hW : wd D (dn cy LY_X9 ad P V (gp I [(0, 0, m_thrown)]) (gp J []) (gm A []) (gm B [])) Af s.heap H locs := hW
      refine lv_icmp_le (tgt := 132) C0.1 C0.2.1 dX9_rests_126 (by decide) (fun hc8 => ?_) (fun hc8 => ?_)
      · have hf := ite_t hc8 hf
        refine lv_iload C0.1 C0.2.1 dX9_rests_132 (lv_at hl 7 rfl) ?_
        refine lv_iload C0.1 C0.2.1 dX9_rests_134 (lv_at hl 6 rfl) ?_
        refine lv_icmp_ne (tgt := 142) C0.1 C0.2.1 dX9_rests_136 (by decide) (fun hc9 => ?_) (fun hc9 => ?_)
        · have hf := ite_f hc9 hf
          refine lv_iinc (v := (v5 + 1)) (lv' := [(5, .int (v5 + 1)), (8, .int (v6 - v6 / 2 * 2)), (7, .int (v6 / 2)), (0, .ref (ad 0)), (1, .int v1), (2, .int v2), (3, .int v3), (4, .int v4), (6, .int v6)]) C0.1 C0.2.1 dX9_rests_142 hl (k := 7) rfl (congrArg (fun z => _ + z) kI_1) (by decide) rfl (fun ls hl => ?_)
          refine lv_iinc (v := (v6 + 1)) (lv' := [(6, .int (v6 + 1)), (5, .int (v5 + 1)), (8, .int (v6 - v6 / 2 * 2)), (7, .int (v6 / 2)), (0, .ref (ad 0)), (1, .int v1), (2, .int v2), (3, .int v3), (4, .int v4)]) C0.1 C0.2.1 dX9_rests_145 hl (k := 8) rfl (congrArg (fun z => _ + z) kI_1) (by decide) rfl (fun ls hl => ?_)
          refine lv_goto (tgt := 61) C0.1 C0.2.1 dX9_rests_148 (by decide) ?_
          exact hk61 m_thrown v1 v2 v3 v4 (v5 + 1) (v6 + 1) H locs ls hW (lv_sub hl [4, 5, 6, 7, 8, 1, 0] rfl) hf
        · have hf := ite_t hc9 hf
          refine lv_iload C0.1 C0.2.1 dX9_rests_139 (lv_at hl 8 rfl) ?_
          obtain rfl := Option.some.inj hf
          exact r_int C0 hK hW dX9_rests_141
      · have hf := ite_f hc8 hf
        refine lv_goto (tgt := 145) C0.1 C0.2.1 dX9_rests_129 (by decide) ?_
        refine lv_iinc (v := (v6 + 1)) (lv' := [(6, .int (v6 + 1)), (8, .int (v6 - v6 / 2 * 2)), (7, .int (v6 / 2)), (0, .ref (ad 0)), (1, .int v1), (2, .int v2), (3, .int v3), (4, .int v4), (5, .int v5)]) C0.1 C0.2.1 dX9_rests_145 hl (k := 8) rfl (congrArg (fun z => _ + z) kI_1) (by decide) rfl (fun ls hl => ?_)
        refine lv_goto (tgt := 61) C0.1 C0.2.1 dX9_rests_148 (by decide) ?_
        exact hk61 m_thrown v1 v2 v3 v4 v5 (v6 + 1) H locs ls hW (lv_sub hl [3, 4, 5, 6, 7, 8, 0] rfl) hf
theorem TX9_rests_61 {p : Program} {l : Launch} {e : Env} {s : State} {m : MethodId} {args : Array Value} {below : List Frame} {meth : Method} {c : Code} {D : va_G} {cy : Nat → ClassId} {ad : Nat → Nat} {P : MP} {V : MV} {I : MI} {J : MJ} {A : MI} {B : MJ} {Af : Nat → Prop} {res : Int32 × Int32} (C0 : CX p s m args meth c cX9_rests 9 (some .int) RX9) (hK : va_K D vwCl (tyG cy) s) (hN : NWs s) (hA : ∀ q, s.heap.size ≤ q → Af q) : ∀ n, SX9_rests_61 p l e s m args below meth c D cy ad P V I J A B Af res (itr (fun kk => fX9_rests_61  kk) (fun _ _ _ _ _ _ _ => none) n) := by
  intro n
  induction n with
  | zero => intro m_thrown v1 v2 v3 v4 v5 v6 H locs ls hW hl hf; exact (nomatch (show (none : Option (Int32 × Int32)) = some res from hf))
  | succ n ih => exact tX9_rests_61 C0 hK hN hA  ih
def fX9_rests_42 (m_thrown : Int32) (v1 : Int32) (v2 : Int32) (v3 : Int32) (v4 : Int32) (x0 : Int32) : Option (Int32 × Int32) := if x0 = 1 then (some (0, x0)) else (itr (fun kk => fX9_rests_61 kk) (fun _ _ _ _ _ _ _ => none) FU x0 v1 v2 v3 v4 0 0)
set_option maxHeartbeats 4000000 in
set_option maxRecDepth 100000 in
theorem tX9_rests_42 {p : Program} {l : Launch} {e : Env} {s : State} {m : MethodId} {args : Array Value} {below : List Frame} {meth : Method} {c : Code} {D : va_G} {cy : Nat → ClassId} {ad : Nat → Nat} {P : MP} {V : MV} {I : MI} {J : MJ} {A : MI} {B : MJ} {Af : Nat → Prop} {res : Int32 × Int32} (C0 : CX p s m args meth c cX9_rests 9 (some .int) RX9) (hK : va_K D vwCl (tyG cy) s) (hN : NWs s) (hA : ∀ q, s.heap.size ≤ q → Af q) : SX9_rests_42 p l e s m args below meth c D cy ad P V I J A B Af res (fX9_rests_42 ) := by
  intro m_thrown v1 v2 v3 v4 x0 H locs ls hW hl hf
  unfold fX9_rests_42 at hf
  refine s_putI C0 hK hW 0 0 LY_X9_0 rfl fg_X9_142 fp_X9_0 rfl dX9_rests_42 (fun H locs hW => ?_)
  have hW : wd D (dn cy LY_X9 ad P V (gp I [(0, 0, x0)]) (gp J []) (gm A []) (gm B [])) Af s.heap H locs := hW
  refine lv_aload_n C0.1 C0.2.1 dX9_rests_45 rfl (lv_at hl 0 rfl) ?_
  refine s_get (v := .int x0) C0 hK hW 0 0 LY_X9_0 rfl fg_X9_142 rfl dX9_rests_46 ?_
  refine lv_iconst (v := 1) C0.1 C0.2.1 dX9_rests_49 kI_1 ?_
  refine lv_icmp_ne (tgt := 55) C0.1 C0.2.1 dX9_rests_50 (by decide) (fun hc1 => ?_) (fun hc1 => ?_)
  · have hf := ite_f hc1 hf
    refine lv_iconst (v := 0) C0.1 C0.2.1 dX9_rests_55 kI_0 ?_
    refine lv_istore (lv' := [(5, .int 0), (0, .ref (ad 0)), (1, .int v1), (2, .int v2), (3, .int v3), (4, .int v4)]) C0.1 C0.2.1 dX9_rests_56 hl (by decide) rfl (fun ls hl => ?_)
    refine lv_iconst (v := 0) C0.1 C0.2.1 dX9_rests_58 kI_0 ?_
    refine lv_istore (lv' := [(6, .int 0), (5, .int 0), (0, .ref (ad 0)), (1, .int v1), (2, .int v2), (3, .int v3), (4, .int v4)]) C0.1 C0.2.1 dX9_rests_59 hl (by decide) rfl (fun ls hl => ?_)
    exact TX9_rests_61 C0 hK hN hA  FU x0 v1 v2 v3 v4 0 0 H locs ls hW (lv_sub hl [2, 3, 4, 5, 6, 1, 0] rfl) hf
  · have hf := ite_t hc1 hf
    refine lv_iconst (v := 0) C0.1 C0.2.1 dX9_rests_53 kI_0 ?_
    obtain rfl := Option.some.inj hf
    exact r_int C0 hK hW dX9_rests_54
def fX9_rests (m_thrown : Int32) (v1 : Int32) (v2 : Int32) (v3 : Int32) (v4 : Int32) : Option (Int32 × Int32) := Option.bind (fX9_within v1 0 9) fun y1 => (if y1 = 0 then (fX9_rests_42 m_thrown v1 v2 v3 v4 1) else (Option.bind (fX9_within v2 0 9) fun y3 => (if y3 = 0 then (fX9_rests_42 m_thrown v1 v2 v3 v4 1) else (Option.bind (fX9_within v3 0 9) fun y5 => (if y5 = 0 then (fX9_rests_42 m_thrown v1 v2 v3 v4 1) else (if v4 < (-1) then (fX9_rests_42 m_thrown v1 v2 v3 v4 1) else (fX9_rests_42 m_thrown v1 v2 v3 v4 0)))))))
set_option maxHeartbeats 4000000 in
set_option maxRecDepth 100000 in
theorem KX9_rests (l : Launch) (D : va_G) (cy : Nat → ClassId) (ad : Nat → Nat) (P : MP) (V : MV) (I : MI) (J : MJ) (A : MI) (B : MJ) (v1 : Int32) (v2 : Int32) (v3 : Int32) (v4 : Int32) {res : Int32 × Int32} (hf : fX9_rests (I 0 0) v1 v2 v3 v4 = some res) : CG l yX9_rests cX9_rests 9 (some .int) rmX9_rests D cy (dn cy LY_X9 ad P V I J A B) [.ref (ad 0), .int v1, .int v2, .int v3, .int v4] (some (.int res.1)) (dn cy LY_X9 ad P V (gp I [(0, 0, res.2)]) (gp J []) (gm A []) (gm B [])) := by
  refine CG.of (own := RX9) (by decide) rfl rfl ?_
  intro p e s m below meth c ls Af C0 hK hN hA hW hl
  have hW : wd D (dn cy LY_X9 ad P V (gp I [(0, 0, (I 0 0))]) (gp J []) (gm A []) (gm B [])) Af s.heap s.heap [] := wd_sel [(0, 0)] [] [] [] hW
  have hl : lv_has ls 9 [(0, .ref (ad 0)), (1, .int v1), (2, .int v2), (3, .int v3), (4, .int v4)] := hl
  unfold fX9_rests at hf
  refine lv_aload_n C0.1 C0.2.1 dX9_rests_0 rfl (lv_at hl 0 rfl) ?_
  refine lv_iload_n C0.1 C0.2.1 dX9_rests_1 rfl (lv_at hl 1 rfl) ?_
  refine lv_iconst (v := 0) C0.1 C0.2.1 dX9_rests_2 kI_0 ?_
  refine lv_bipush (v := 9) C0.1 C0.2.1 dX9_rests_3 kB_9 ?_
  obtain ⟨y1, hy1, hf⟩ := b_some hf
  refine c_Si C0 hK hN hl.1 hW hA (KX9_within l D cy  (fun q => ad (pl_LY_X9_LY_0_.getD q 0)) (fun q => P (pl_LY_X9_LY_0_.getD q 0)) (fun q => Vx LY_X9 ad V (pl_LY_X9_LY_0_.getD q 0)) (fun q => gp I [(0, 0, (I 0 0))] (pl_LY_X9_LY_0_.getD q 0)) (fun q => gp J [] (pl_LY_X9_LY_0_.getD q 0)) (fun q => gm A [] (pl_LY_X9_LY_0_.getD q 0)) (fun q => gm B [] (pl_LY_X9_LY_0_.getD q 0)) v1 0 9 hy1) (JN_subC (pl := pl_LY_X9_LY_0_) sb_LY_X9_LY_0_ rfl rfl rfl rfl rfl rfl rfl rfl rfl) ⟨uw_1331, uw_1332, uw_14, uw_1333⟩ rfl rfl hd_X9_within ⟨rfl, rfl⟩ rfl rfl rfl dX9_rests_5 ⟨Nat.zero_le _, Nat.zero_le _⟩ (fun H locs hW => ?_)
  have hW : wd D (dn cy LY_X9 ad P V (gp I [(0, 0, (I 0 0))]) (gp J []) (gm A []) (gm B [])) Af s.heap H locs := hW
  refine lv_if_eq (tgt := 41) C0.1 C0.2.1 dX9_rests_8 (by decide) (fun hc2 => ?_) (fun hc2 => ?_)
  · have hf := ite_t hc2 hf
    refine lv_iconst (v := 1) C0.1 C0.2.1 dX9_rests_41 kI_1 ?_
    exact tX9_rests_42 C0 hK hN hA  (I 0 0) v1 v2 v3 v4 1 _ _ ls hW hl hf
  · have hf := ite_f hc2 hf
    refine lv_iload_n C0.1 C0.2.1 dX9_rests_11 rfl (lv_at hl 2 rfl) ?_
    refine lv_iconst (v := 0) C0.1 C0.2.1 dX9_rests_12 kI_0 ?_
    refine lv_bipush (v := 9) C0.1 C0.2.1 dX9_rests_13 kB_9 ?_
    obtain ⟨y3, hy3, hf⟩ := b_some hf
    refine c_Si C0 hK hN hl.1 hW hA (KX9_within l D cy  (fun q => ad (pl_LY_X9_LY_0_.getD q 0)) (fun q => P (pl_LY_X9_LY_0_.getD q 0)) (fun q => Vx LY_X9 ad V (pl_LY_X9_LY_0_.getD q 0)) (fun q => gp I [(0, 0, (I 0 0))] (pl_LY_X9_LY_0_.getD q 0)) (fun q => gp J [] (pl_LY_X9_LY_0_.getD q 0)) (fun q => gm A [] (pl_LY_X9_LY_0_.getD q 0)) (fun q => gm B [] (pl_LY_X9_LY_0_.getD q 0)) v2 0 9 hy3) (JN_subC (pl := pl_LY_X9_LY_0_) sb_LY_X9_LY_0_ rfl rfl rfl rfl rfl rfl rfl rfl rfl) ⟨uw_1331, uw_1332, uw_14, uw_1333⟩ rfl rfl hd_X9_within ⟨rfl, rfl⟩ rfl rfl rfl dX9_rests_15 ⟨Nat.zero_le _, Nat.zero_le _⟩ (fun H locs hW => ?_)
    have hW : wd D (dn cy LY_X9 ad P V (gp I [(0, 0, (I 0 0))]) (gp J []) (gm A []) (gm B [])) Af s.heap H locs := hW
    refine lv_if_eq (tgt := 41) C0.1 C0.2.1 dX9_rests_18 (by decide) (fun hc4 => ?_) (fun hc4 => ?_)
    · have hf := ite_t hc4 hf
      refine lv_iconst (v := 1) C0.1 C0.2.1 dX9_rests_41 kI_1 ?_
      exact tX9_rests_42 C0 hK hN hA  (I 0 0) v1 v2 v3 v4 1 _ _ ls hW hl hf
    · have hf := ite_f hc4 hf
      refine lv_iload_n C0.1 C0.2.1 dX9_rests_21 rfl (lv_at hl 3 rfl) ?_
      refine lv_iconst (v := 0) C0.1 C0.2.1 dX9_rests_22 kI_0 ?_
      refine lv_bipush (v := 9) C0.1 C0.2.1 dX9_rests_23 kB_9 ?_
      obtain ⟨y5, hy5, hf⟩ := b_some hf
      refine c_Si C0 hK hN hl.1 hW hA (KX9_within l D cy  (fun q => ad (pl_LY_X9_LY_0_.getD q 0)) (fun q => P (pl_LY_X9_LY_0_.getD q 0)) (fun q => Vx LY_X9 ad V (pl_LY_X9_LY_0_.getD q 0)) (fun q => gp I [(0, 0, (I 0 0))] (pl_LY_X9_LY_0_.getD q 0)) (fun q => gp J [] (pl_LY_X9_LY_0_.getD q 0)) (fun q => gm A [] (pl_LY_X9_LY_0_.getD q 0)) (fun q => gm B [] (pl_LY_X9_LY_0_.getD q 0)) v3 0 9 hy5) (JN_subC (pl := pl_LY_X9_LY_0_) sb_LY_X9_LY_0_ rfl rfl rfl rfl rfl rfl rfl rfl rfl) ⟨uw_1331, uw_1332, uw_14, uw_1333⟩ rfl rfl hd_X9_within ⟨rfl, rfl⟩ rfl rfl rfl dX9_rests_25 ⟨Nat.zero_le _, Nat.zero_le _⟩ (fun H locs hW => ?_)
      have hW : wd D (dn cy LY_X9 ad P V (gp I [(0, 0, (I 0 0))]) (gp J []) (gm A []) (gm B [])) Af s.heap H locs := hW
      refine lv_if_eq (tgt := 41) C0.1 C0.2.1 dX9_rests_28 (by decide) (fun hc6 => ?_) (fun hc6 => ?_)
      · have hf := ite_t hc6 hf
        refine lv_iconst (v := 1) C0.1 C0.2.1 dX9_rests_41 kI_1 ?_
        exact tX9_rests_42 C0 hK hN hA  (I 0 0) v1 v2 v3 v4 1 _ _ ls hW hl hf
      · have hf := ite_f hc6 hf
        refine lv_iload C0.1 C0.2.1 dX9_rests_31 (lv_at hl 4 rfl) ?_
        refine lv_iconst (v := (-1)) C0.1 C0.2.1 dX9_rests_33 kI_m1 ?_
        refine lv_icmp_lt (tgt := 41) C0.1 C0.2.1 dX9_rests_34 (by decide) (fun hc7 => ?_) (fun hc7 => ?_)
        · have hf := ite_t hc7 hf
          refine lv_iconst (v := 1) C0.1 C0.2.1 dX9_rests_41 kI_1 ?_
          exact tX9_rests_42 C0 hK hN hA  (I 0 0) v1 v2 v3 v4 1 _ _ ls hW hl hf
        · have hf := ite_f hc7 hf
          refine lv_iconst (v := 0) C0.1 C0.2.1 dX9_rests_37 kI_0 ?_
          refine lv_goto (tgt := 42) C0.1 C0.2.1 dX9_rests_38 (by decide) ?_
          exact tX9_rests_42 C0 hK hN hA  (I 0 0) v1 v2 v3 v4 0 _ _ ls hW hl hf
-- X9_draws
def rmX9_draws : Room := { frames := 1, cells := 0, slots := 0, locals := 21 }
def fX9_draws (m_g : Int64) (v1 : Int32) : Option (Int32 × Int64) := if (Int32.toInt64 v1) = 0 then none else (some ((Int64.toInt32 (((((m_g * 1103515245) + 12345) - ((m_g * 1103515245) + 12345) / 2147483648 * 2147483648) / 65536) - ((((m_g * 1103515245) + 12345) - ((m_g * 1103515245) + 12345) / 2147483648 * 2147483648) / 65536) / (Int32.toInt64 v1) * (Int32.toInt64 v1))), (((m_g * 1103515245) + 12345) - ((m_g * 1103515245) + 12345) / 2147483648 * 2147483648)))
set_option maxHeartbeats 4000000 in
set_option maxRecDepth 100000 in
theorem KX9_draws (l : Launch) (D : va_G) (cy : Nat → ClassId) (ad : Nat → Nat) (P : MP) (V : MV) (I : MI) (J : MJ) (A : MI) (B : MJ) (v1 : Int32) {res : Int32 × Int64} (hf : fX9_draws (J 0 61) v1 = some res) : CG l yX9_draws cX9_draws 2 (some .int) rmX9_draws D cy (dn cy LY_X9 ad P V I J A B) [.ref (ad 0), .int v1] (some (.int res.1)) (dn cy LY_X9 ad P V (gp I []) (gp J [(0, 61, res.2)]) (gm A []) (gm B [])) := by
  refine CG.of (own := RX9) (by decide) rfl rfl ?_
  intro p e s m below meth c ls Af C0 hK hN hA hW hl
  have hW : wd D (dn cy LY_X9 ad P V (gp I []) (gp J [(0, 61, (J 0 61))]) (gm A []) (gm B [])) Af s.heap s.heap [] := wd_sel [] [(0, 61)] [] [] hW
  have hl : lv_has ls 2 [(0, .ref (ad 0)), (1, .int v1)] := hl
  unfold fX9_draws at hf
  refine lv_aload_n C0.1 C0.2.1 dX9_draws_0 rfl (lv_at hl 0 rfl) ?_
  refine lv_aload_n C0.1 C0.2.1 dX9_draws_1 rfl (lv_at hl 0 rfl) ?_
  refine s_get (v := .long (J 0 61)) C0 hK hW 0 61 LY_X9_0 rfl fg_X9_478 rfl dX9_draws_2 ?_
  refine lv_ldc2 (v := 1103515245) C0.1 C0.2.1 C0.2.2.2.2.1 (C0.2.2.2.2.2.1 _ uw_1644) dX9_draws_5 ?_
  refine lv_lmul C0.1 C0.2.1 dX9_draws_8 ?_
  refine lv_ldc2 (v := 12345) C0.1 C0.2.1 C0.2.2.2.2.1 (C0.2.2.2.2.2.1 _ uw_1645) dX9_draws_9 ?_
  refine lv_ladd C0.1 C0.2.1 dX9_draws_12 ?_
  refine lv_ldc2 (v := 2147483648) C0.1 C0.2.1 C0.2.2.2.2.1 (C0.2.2.2.2.2.1 _ uw_1646) dX9_draws_13 ?_
  refine lv_lrem C0.1 C0.2.1 dX9_draws_16 (by decide) ?_
  refine s_putJ C0 hK hW 0 61 LY_X9_0 rfl fg_X9_478 fp_X9_61 rfl dX9_draws_17 (fun H locs hW => ?_)
  have hW : wd D (dn cy LY_X9 ad P V (gp I []) (gp J [(0, 61, ((((J 0 61) * 1103515245) + 12345) - (((J 0 61) * 1103515245) + 12345) / 2147483648 * 2147483648))]) (gm A []) (gm B [])) Af s.heap H locs := hW
  refine lv_aload_n C0.1 C0.2.1 dX9_draws_20 rfl (lv_at hl 0 rfl) ?_
  refine s_get (v := .long ((((J 0 61) * 1103515245) + 12345) - (((J 0 61) * 1103515245) + 12345) / 2147483648 * 2147483648)) C0 hK hW 0 61 LY_X9_0 rfl fg_X9_478 rfl dX9_draws_21 ?_
  refine lv_ldc2 (v := 65536) C0.1 C0.2.1 C0.2.2.2.2.1 (C0.2.2.2.2.2.1 _ uw_1647) dX9_draws_24 ?_
  refine lv_ldiv C0.1 C0.2.1 dX9_draws_27 (by decide) ?_
  refine lv_iload_n C0.1 C0.2.1 dX9_draws_28 rfl (lv_at hl 1 rfl) ?_
  refine lv_i2l (v := (Int32.toInt64 v1)) C0.1 C0.2.1 dX9_draws_29 rfl ?_
  obtain ⟨hz1, hf⟩ := z_some hf
  refine lv_lrem C0.1 C0.2.1 dX9_draws_30 hz1 ?_
  refine lv_l2i (v := (Int64.toInt32 ((((((J 0 61) * 1103515245) + 12345) - (((J 0 61) * 1103515245) + 12345) / 2147483648 * 2147483648) / 65536) - (((((J 0 61) * 1103515245) + 12345) - (((J 0 61) * 1103515245) + 12345) / 2147483648 * 2147483648) / 65536) / (Int32.toInt64 v1) * (Int32.toInt64 v1)))) C0.1 C0.2.1 dX9_draws_31 rfl ?_
  obtain rfl := Option.some.inj hf
  exact r_int C0 hK hW dX9_draws_32
-- X9_livesDay
def rmX9_livesDay : Room := { frames := 6, cells := 0, slots := 0, locals := 135 }
def SX9_livesDay_55 (p : Program) (l : Launch) (e : Env) (s : State) (m : MethodId) (args : Array Value) (below : List Frame) (meth : Method) (c : Code) (D : va_G) (cy : Nat → ClassId) (ad : Nat → Nat) (P : MP) (V : MV) (I : MI) (J : MJ) (A : MI) (B : MJ) (Af : Nat → Prop) (res : Int32 × Int64 × (Nat → Int32) × (Nat → Int32) × (Nat → Int32) × (Nat → Int32) × (Nat → Int32) × (Nat → Int32) × (Nat → Int32) × (Nat → Int32) × (Nat → Int32) × (Nat → Int32) × (Nat → Int32)) (k : Int64 → (Nat → Int32) → (Nat → Int32) → (Nat → Int32) → (Nat → Int32) → (Nat → Int32) → (Nat → Int32) → (Nat → Int32) → (Nat → Int32) → (Nat → Int32) → (Nat → Int32) → (Nat → Int32) → Int32 → Int32 → Int32 → Option (Int32 × Int64 × (Nat → Int32) × (Nat → Int32) × (Nat → Int32) × (Nat → Int32) × (Nat → Int32) × (Nat → Int32) × (Nat → Int32) × (Nat → Int32) × (Nat → Int32) × (Nat → Int32) × (Nat → Int32))) : Prop := ∀ (m_g : Int64) (m_kept : (Nat → Int32)) (m_keptBy : (Nat → Int32)) (m_ahead : (Nat → Int32)) (m_against : (Nat → Int32)) (m_sum : (Nat → Int32)) (m_sumBy : (Nat → Int32)) (m_term : (Nat → Int32)) (m_termBy : (Nat → Int32)) (m_byNot : (Nat → Int32)) (m_valueOf : (Nat → Int32)) (m_s : (Nat → Int32)) (v1 : Int32) (v2 : Int32) (v3 : Int32) (H : Heap) (locs : List Loc) (ls : Array Slot), wd D (dn cy LY_X9 ad P V (gp I []) (gp J [(0, 61, m_g)]) (gm A [(18, m_kept), (19, m_keptBy), (20, m_ahead), (21, m_against), (22, m_sum), (23, m_sumBy), (24, m_term), (25, m_termBy), (26, m_byNot), (27, m_valueOf), (35, m_s)]) (gm B [])) Af s.heap H locs → lv_has ls 4 [(0, .ref (ad 0)), (1, .int v1), (2, .int v2), (3, .int v3)] → k m_g m_kept m_keptBy m_ahead m_against m_sum m_sumBy m_term m_termBy m_byNot m_valueOf m_s v1 v2 v3 = some res → W p l e rmX9_livesDay s m args below meth c H locs 0 0 (ZQ below D cy (dn cy LY_X9 ad P V (gp I []) (gp J [(0, 61, res.2.1)]) (gm A [(18, res.2.2.1), (19, res.2.2.2.1), (20, res.2.2.2.2.1), (21, res.2.2.2.2.2.1), (22, res.2.2.2.2.2.2.1), (23, res.2.2.2.2.2.2.2.1), (24, res.2.2.2.2.2.2.2.2.1), (25, res.2.2.2.2.2.2.2.2.2.1), (26, res.2.2.2.2.2.2.2.2.2.2.1), (27, res.2.2.2.2.2.2.2.2.2.2.2.1), (35, res.2.2.2.2.2.2.2.2.2.2.2.2)]) (gm B [])) (some (.int res.1)) Af args s) (F0 m 55 ls [])
def SX9_livesDay_90 (p : Program) (l : Launch) (e : Env) (s : State) (m : MethodId) (args : Array Value) (below : List Frame) (meth : Method) (c : Code) (D : va_G) (cy : Nat → ClassId) (ad : Nat → Nat) (P : MP) (V : MV) (I : MI) (J : MJ) (A : MI) (B : MJ) (Af : Nat → Prop) (res : Int32 × Int64 × (Nat → Int32) × (Nat → Int32) × (Nat → Int32) × (Nat → Int32) × (Nat → Int32) × (Nat → Int32) × (Nat → Int32) × (Nat → Int32) × (Nat → Int32) × (Nat → Int32) × (Nat → Int32)) (k : Int64 → (Nat → Int32) → (Nat → Int32) → (Nat → Int32) → (Nat → Int32) → (Nat → Int32) → (Nat → Int32) → (Nat → Int32) → (Nat → Int32) → (Nat → Int32) → (Nat → Int32) → (Nat → Int32) → Int32 → Option (Int32 × Int64 × (Nat → Int32) × (Nat → Int32) × (Nat → Int32) × (Nat → Int32) × (Nat → Int32) × (Nat → Int32) × (Nat → Int32) × (Nat → Int32) × (Nat → Int32) × (Nat → Int32) × (Nat → Int32))) : Prop := ∀ (m_g : Int64) (m_kept : (Nat → Int32)) (m_keptBy : (Nat → Int32)) (m_ahead : (Nat → Int32)) (m_against : (Nat → Int32)) (m_sum : (Nat → Int32)) (m_sumBy : (Nat → Int32)) (m_term : (Nat → Int32)) (m_termBy : (Nat → Int32)) (m_byNot : (Nat → Int32)) (m_valueOf : (Nat → Int32)) (m_s : (Nat → Int32)) (v1 : Int32) (H : Heap) (locs : List Loc) (ls : Array Slot), wd D (dn cy LY_X9 ad P V (gp I []) (gp J [(0, 61, m_g)]) (gm A [(18, m_kept), (19, m_keptBy), (20, m_ahead), (21, m_against), (22, m_sum), (23, m_sumBy), (24, m_term), (25, m_termBy), (26, m_byNot), (27, m_valueOf), (35, m_s)]) (gm B [])) Af s.heap H locs → lv_has ls 4 [(0, .ref (ad 0)), (1, .int v1)] → k m_g m_kept m_keptBy m_ahead m_against m_sum m_sumBy m_term m_termBy m_byNot m_valueOf m_s v1 = some res → W p l e rmX9_livesDay s m args below meth c H locs 0 0 (ZQ below D cy (dn cy LY_X9 ad P V (gp I []) (gp J [(0, 61, res.2.1)]) (gm A [(18, res.2.2.1), (19, res.2.2.2.1), (20, res.2.2.2.2.1), (21, res.2.2.2.2.2.1), (22, res.2.2.2.2.2.2.1), (23, res.2.2.2.2.2.2.2.1), (24, res.2.2.2.2.2.2.2.2.1), (25, res.2.2.2.2.2.2.2.2.2.1), (26, res.2.2.2.2.2.2.2.2.2.2.1), (27, res.2.2.2.2.2.2.2.2.2.2.2.1), (35, res.2.2.2.2.2.2.2.2.2.2.2.2)]) (gm B [])) (some (.int res.1)) Af args s) (F0 m 90 ls [])
def SX9_livesDay_13 (p : Program) (l : Launch) (e : Env) (s : State) (m : MethodId) (args : Array Value) (below : List Frame) (meth : Method) (c : Code) (D : va_G) (cy : Nat → ClassId) (ad : Nat → Nat) (P : MP) (V : MV) (I : MI) (J : MJ) (A : MI) (B : MJ) (Af : Nat → Prop) (res : Int32 × Int64 × (Nat → Int32) × (Nat → Int32) × (Nat → Int32) × (Nat → Int32) × (Nat → Int32) × (Nat → Int32) × (Nat → Int32) × (Nat → Int32) × (Nat → Int32) × (Nat → Int32) × (Nat → Int32)) (k : Int64 → (Nat → Int32) → (Nat → Int32) → (Nat → Int32) → (Nat → Int32) → (Nat → Int32) → (Nat → Int32) → (Nat → Int32) → (Nat → Int32) → (Nat → Int32) → (Nat → Int32) → (Nat → Int32) → Int32 → Int32 → Option (Int32 × Int64 × (Nat → Int32) × (Nat → Int32) × (Nat → Int32) × (Nat → Int32) × (Nat → Int32) × (Nat → Int32) × (Nat → Int32) × (Nat → Int32) × (Nat → Int32) × (Nat → Int32) × (Nat → Int32))) : Prop := ∀ (m_g : Int64) (m_kept : (Nat → Int32)) (m_keptBy : (Nat → Int32)) (m_ahead : (Nat → Int32)) (m_against : (Nat → Int32)) (m_sum : (Nat → Int32)) (m_sumBy : (Nat → Int32)) (m_term : (Nat → Int32)) (m_termBy : (Nat → Int32)) (m_byNot : (Nat → Int32)) (m_valueOf : (Nat → Int32)) (m_s : (Nat → Int32)) (v1 : Int32) (v2 : Int32) (H : Heap) (locs : List Loc) (ls : Array Slot), wd D (dn cy LY_X9 ad P V (gp I []) (gp J [(0, 61, m_g)]) (gm A [(18, m_kept), (19, m_keptBy), (20, m_ahead), (21, m_against), (22, m_sum), (23, m_sumBy), (24, m_term), (25, m_termBy), (26, m_byNot), (27, m_valueOf), (35, m_s)]) (gm B [])) Af s.heap H locs → lv_has ls 4 [(0, .ref (ad 0)), (1, .int v1), (2, .int v2)] → k m_g m_kept m_keptBy m_ahead m_against m_sum m_sumBy m_term m_termBy m_byNot m_valueOf m_s v1 v2 = some res → W p l e rmX9_livesDay s m args below meth c H locs 0 0 (ZQ below D cy (dn cy LY_X9 ad P V (gp I []) (gp J [(0, 61, res.2.1)]) (gm A [(18, res.2.2.1), (19, res.2.2.2.1), (20, res.2.2.2.2.1), (21, res.2.2.2.2.2.1), (22, res.2.2.2.2.2.2.1), (23, res.2.2.2.2.2.2.2.1), (24, res.2.2.2.2.2.2.2.2.1), (25, res.2.2.2.2.2.2.2.2.2.1), (26, res.2.2.2.2.2.2.2.2.2.2.1), (27, res.2.2.2.2.2.2.2.2.2.2.2.1), (35, res.2.2.2.2.2.2.2.2.2.2.2.2)]) (gm B [])) (some (.int res.1)) Af args s) (F0 m 13 ls [])
def fX9_livesDay_55 (m_colder : Int32) (m_terrace : (Nat → Int32)) (m_holeFlag : (Nat → Int32)) (m_burns : (Nat → Int32)) (m_walls : (Nat → Int32)) (m_kind : (Nat → Int32)) (m_guestFlag : (Nat → Int32)) (m_wars : (Nat → Int32)) (m_cold : (Nat → Int32)) (m_lineFrom : (Nat → Int32)) (m_lineTo : (Nat → Int32)) (m_codes : (Nat → Int32)) (k13 : Int64 → (Nat → Int32) → (Nat → Int32) → (Nat → Int32) → (Nat → Int32) → (Nat → Int32) → (Nat → Int32) → (Nat → Int32) → (Nat → Int32) → (Nat → Int32) → (Nat → Int32) → (Nat → Int32) → Int32 → Int32 → Option (Int32 × Int64 × (Nat → Int32) × (Nat → Int32) × (Nat → Int32) × (Nat → Int32) × (Nat → Int32) × (Nat → Int32) × (Nat → Int32) × (Nat → Int32) × (Nat → Int32) × (Nat → Int32) × (Nat → Int32))) (m_g : Int64) (m_kept : (Nat → Int32)) (m_keptBy : (Nat → Int32)) (m_ahead : (Nat → Int32)) (m_against : (Nat → Int32)) (m_sum : (Nat → Int32)) (m_sumBy : (Nat → Int32)) (m_term : (Nat → Int32)) (m_termBy : (Nat → Int32)) (m_byNot : (Nat → Int32)) (m_valueOf : (Nat → Int32)) (m_s : (Nat → Int32)) (v1 : Int32) (v2 : Int32) (v3 : Int32) : Option (Int32 × Int64 × (Nat → Int32) × (Nat → Int32) × (Nat → Int32) × (Nat → Int32) × (Nat → Int32) × (Nat → Int32) × (Nat → Int32) × (Nat → Int32) × (Nat → Int32) × (Nat → Int32) × (Nat → Int32)) := bif inb (8 + v2) 13 then (k13 m_g m_kept m_keptBy m_ahead m_against m_sum m_sumBy m_term m_termBy m_byNot m_valueOf (upd m_s (Int32.toNatClampNeg (8 + v2)) (v3 + 1)) (v1 + 1) (v2 + 1)) else none
set_option maxHeartbeats 4000000 in
set_option maxRecDepth 100000 in
theorem tX9_livesDay_55 {p : Program} {l : Launch} {e : Env} {s : State} {m : MethodId} {args : Array Value} {below : List Frame} {meth : Method} {c : Code} {D : va_G} {cy : Nat → ClassId} {ad : Nat → Nat} {P : MP} {V : MV} {I : MI} {J : MJ} {A : MI} {B : MJ} {Af : Nat → Prop} {res : Int32 × Int64 × (Nat → Int32) × (Nat → Int32) × (Nat → Int32) × (Nat → Int32) × (Nat → Int32) × (Nat → Int32) × (Nat → Int32) × (Nat → Int32) × (Nat → Int32) × (Nat → Int32) × (Nat → Int32)} (C0 : CX p s m args meth c cX9_livesDay 4 (some .int) RX9) (hK : va_K D vwCl (tyG cy) s) (hN : NWs s) (hA : ∀ q, s.heap.size ≤ q → Af q) {k13 : Int64 → (Nat → Int32) → (Nat → Int32) → (Nat → Int32) → (Nat → Int32) → (Nat → Int32) → (Nat → Int32) → (Nat → Int32) → (Nat → Int32) → (Nat → Int32) → (Nat → Int32) → (Nat → Int32) → Int32 → Int32 → Option (Int32 × Int64 × (Nat → Int32) × (Nat → Int32) × (Nat → Int32) × (Nat → Int32) × (Nat → Int32) × (Nat → Int32) × (Nat → Int32) × (Nat → Int32) × (Nat → Int32) × (Nat → Int32) × (Nat → Int32))} (hk13 : SX9_livesDay_13 p l e s m args below meth c D cy ad P V I J A B Af res k13) : SX9_livesDay_55 p l e s m args below meth c D cy ad P V I J A B Af res (fX9_livesDay_55 (I 0 54) (A 2) (A 5) (A 7) (A 8) (A 9) (A 10) (A 11) (A 12) (A 13) (A 14) (A 15) k13) := by
  intro m_g m_kept m_keptBy m_ahead m_against m_sum m_sumBy m_term m_termBy m_byNot m_valueOf m_s v1 v2 v3 H locs ls hW hl hf
  unfold fX9_livesDay_55 at hf
  refine lv_aload_n C0.1 C0.2.1 dX9_livesDay_55 rfl (lv_at hl 0 rfl) ?_
  refine s_get (v := .ref (ad 35)) C0 hK hW 0 47 LY_X9_0 rfl fg_X9_114 rfl dX9_livesDay_56 ?_
  refine lv_bipush (v := 8) C0.1 C0.2.1 dX9_livesDay_59 kB_8 ?_
  refine lv_iload_n C0.1 C0.2.1 dX9_livesDay_61 rfl (lv_at hl 2 rfl) ?_
  refine lv_iadd C0.1 C0.2.1 dX9_livesDay_62 ?_
  refine lv_iload_n C0.1 C0.2.1 dX9_livesDay_63 rfl (lv_at hl 3 rfl) ?_
  refine lv_iconst (v := 1) C0.1 C0.2.1 dX9_livesDay_64 kI_1 ?_
  refine lv_iadd C0.1 C0.2.1 dX9_livesDay_65 ?_
  obtain ⟨hb1, hf⟩ := g_some hf
  refine s_iast (f := (upd m_s (Int32.toNatClampNeg (8 + v2)) (v3 + 1))) C0 hK hW 35 LY_X9_35 hb1 rfl rfl dX9_livesDay_66 (fun H locs hW => ?_)
  have hW : wd D (dn cy LY_X9 ad P V (gp I []) (gp J [(0, 61, m_g)]) (gm A [(18, m_kept), (19, m_keptBy), (20, m_ahead), (21, m_against), (22, m_sum), (23, m_sumBy), (24, m_term), (25, m_termBy), (26, m_byNot), (27, m_valueOf), (35, (upd m_s (Int32.toNatClampNeg (8 + v2)) (v3 + 1)))]) (gm B [])) Af s.heap H locs := hW
  refine lv_iinc (v := (v1 + 1)) (lv' := [(1, .int (v1 + 1)), (0, .ref (ad 0)), (2, .int v2), (3, .int v3)]) C0.1 C0.2.1 dX9_livesDay_67 hl (k := 1) rfl (congrArg (fun z => _ + z) kI_1) (by decide) rfl (fun ls hl => ?_)
  refine lv_iinc (v := (v2 + 1)) (lv' := [(2, .int (v2 + 1)), (1, .int (v1 + 1)), (0, .ref (ad 0)), (3, .int v3)]) C0.1 C0.2.1 dX9_livesDay_70 hl (k := 2) rfl (congrArg (fun z => _ + z) kI_1) (by decide) rfl (fun ls hl => ?_)
  refine lv_goto (tgt := 13) C0.1 C0.2.1 dX9_livesDay_73 (by decide) ?_
  exact hk13 m_g m_kept m_keptBy m_ahead m_against m_sum m_sumBy m_term m_termBy m_byNot m_valueOf (upd m_s (Int32.toNatClampNeg (8 + v2)) (v3 + 1)) (v1 + 1) (v2 + 1) H locs ls hW (lv_sub hl [2, 1, 0] rfl) hf
def fX9_livesDay_90 (m_colder : Int32) (m_terrace : (Nat → Int32)) (m_holeFlag : (Nat → Int32)) (m_burns : (Nat → Int32)) (m_walls : (Nat → Int32)) (m_kind : (Nat → Int32)) (m_guestFlag : (Nat → Int32)) (m_wars : (Nat → Int32)) (m_cold : (Nat → Int32)) (m_lineFrom : (Nat → Int32)) (m_lineTo : (Nat → Int32)) (m_codes : (Nat → Int32)) (m_g : Int64) (m_kept : (Nat → Int32)) (m_keptBy : (Nat → Int32)) (m_ahead : (Nat → Int32)) (m_against : (Nat → Int32)) (m_sum : (Nat → Int32)) (m_sumBy : (Nat → Int32)) (m_term : (Nat → Int32)) (m_termBy : (Nat → Int32)) (m_byNot : (Nat → Int32)) (m_valueOf : (Nat → Int32)) (m_s : (Nat → Int32)) (v1 : Int32) : Option (Int32 × Int64 × (Nat → Int32) × (Nat → Int32) × (Nat → Int32) × (Nat → Int32) × (Nat → Int32) × (Nat → Int32) × (Nat → Int32) × (Nat → Int32) × (Nat → Int32) × (Nat → Int32) × (Nat → Int32)) := Option.bind (fX9_passes m_colder m_terrace m_burns m_kind m_cold m_s) fun y1 => (some (v1, m_g, m_kept, m_keptBy, m_ahead, m_against, m_sum, m_sumBy, m_term, m_termBy, m_byNot, m_valueOf, y1.2))
set_option maxHeartbeats 4000000 in
set_option maxRecDepth 100000 in
theorem tX9_livesDay_90 {p : Program} {l : Launch} {e : Env} {s : State} {m : MethodId} {args : Array Value} {below : List Frame} {meth : Method} {c : Code} {D : va_G} {cy : Nat → ClassId} {ad : Nat → Nat} {P : MP} {V : MV} {I : MI} {J : MJ} {A : MI} {B : MJ} {Af : Nat → Prop} {res : Int32 × Int64 × (Nat → Int32) × (Nat → Int32) × (Nat → Int32) × (Nat → Int32) × (Nat → Int32) × (Nat → Int32) × (Nat → Int32) × (Nat → Int32) × (Nat → Int32) × (Nat → Int32) × (Nat → Int32)} (C0 : CX p s m args meth c cX9_livesDay 4 (some .int) RX9) (hK : va_K D vwCl (tyG cy) s) (hN : NWs s) (hA : ∀ q, s.heap.size ≤ q → Af q) : SX9_livesDay_90 p l e s m args below meth c D cy ad P V I J A B Af res (fX9_livesDay_90 (I 0 54) (A 2) (A 5) (A 7) (A 8) (A 9) (A 10) (A 11) (A 12) (A 13) (A 14) (A 15)) := by
  intro m_g m_kept m_keptBy m_ahead m_against m_sum m_sumBy m_term m_termBy m_byNot m_valueOf m_s v1 H locs ls hW hl hf
  unfold fX9_livesDay_90 at hf
  refine lv_aload_n C0.1 C0.2.1 dX9_livesDay_90 rfl (lv_at hl 0 rfl) ?_
  obtain ⟨y1, hy1, hf⟩ := b_some hf
  refine c_Vi C0 hK hN hl.1 hW hA (KX9_passes l D cy  ad P V (gp I []) (gp J [(0, 61, m_g)]) (gm A [(18, m_kept), (19, m_keptBy), (20, m_ahead), (21, m_against), (22, m_sum), (23, m_sumBy), (24, m_term), (25, m_termBy), (26, m_byNot), (27, m_valueOf), (35, m_s)]) (gm B [])  hy1) (JN_id rfl rfl rfl rfl) (Uw_V uw_1523 uw_1525 us_84 uw_14 uw_1526) rfl rfl hd_X9_passes ⟨rfl, rfl⟩ rfl (dn_some LY_X9_0) rfl rfl rfl dX9_livesDay_91 ⟨Nat.zero_le _, Nat.zero_le _⟩ (fun H locs hW => ?_)
  have hW : wd D (dn cy LY_X9 ad P V (gp I []) (gp J [(0, 61, m_g)]) (gm A [(18, m_kept), (19, m_keptBy), (20, m_ahead), (21, m_against), (22, m_sum), (23, m_sumBy), (24, m_term), (25, m_termBy), (26, m_byNot), (27, m_valueOf), (35, y1.2)]) (gm B [])) Af s.heap H locs := hW
  refine lv_pop C0.1 C0.2.1 dX9_livesDay_94 rfl ?_
  refine lv_iload_n C0.1 C0.2.1 dX9_livesDay_95 rfl (lv_at hl 1 rfl) ?_
  obtain rfl := Option.some.inj hf
  exact r_int C0 hK hW dX9_livesDay_96
def fX9_livesDay_13 (m_colder : Int32) (m_terrace : (Nat → Int32)) (m_holeFlag : (Nat → Int32)) (m_burns : (Nat → Int32)) (m_walls : (Nat → Int32)) (m_kind : (Nat → Int32)) (m_guestFlag : (Nat → Int32)) (m_wars : (Nat → Int32)) (m_cold : (Nat → Int32)) (m_lineFrom : (Nat → Int32)) (m_lineTo : (Nat → Int32)) (m_codes : (Nat → Int32)) (k13 : Int64 → (Nat → Int32) → (Nat → Int32) → (Nat → Int32) → (Nat → Int32) → (Nat → Int32) → (Nat → Int32) → (Nat → Int32) → (Nat → Int32) → (Nat → Int32) → (Nat → Int32) → (Nat → Int32) → Int32 → Int32 → Option (Int32 × Int64 × (Nat → Int32) × (Nat → Int32) × (Nat → Int32) × (Nat → Int32) × (Nat → Int32) × (Nat → Int32) × (Nat → Int32) × (Nat → Int32) × (Nat → Int32) × (Nat → Int32) × (Nat → Int32))) (m_g : Int64) (m_kept : (Nat → Int32)) (m_keptBy : (Nat → Int32)) (m_ahead : (Nat → Int32)) (m_against : (Nat → Int32)) (m_sum : (Nat → Int32)) (m_sumBy : (Nat → Int32)) (m_term : (Nat → Int32)) (m_termBy : (Nat → Int32)) (m_byNot : (Nat → Int32)) (m_valueOf : (Nat → Int32)) (m_s : (Nat → Int32)) (v1 : Int32) (v2 : Int32) : Option (Int32 × Int64 × (Nat → Int32) × (Nat → Int32) × (Nat → Int32) × (Nat → Int32) × (Nat → Int32) × (Nat → Int32) × (Nat → Int32) × (Nat → Int32) × (Nat → Int32) × (Nat → Int32) × (Nat → Int32)) := if (m_terrace 1) ≤ v2 then (Option.bind (fX9_draws m_g (m_terrace 0)) fun y2 => (Option.bind (fX9_brings m_terrace m_s y2.1) fun y3 => (fX9_livesDay_90 m_colder m_terrace m_holeFlag m_burns m_walls m_kind m_guestFlag m_wars m_cold m_lineFrom m_lineTo m_codes y2.2 m_kept m_keptBy m_ahead m_against m_sum m_sumBy m_term m_termBy m_byNot m_valueOf y3 v1))) else (Option.bind (fX9_draws m_g (m_terrace 0)) fun y4 => (Option.bind (fX9_canDown m_terrace m_holeFlag m_kind m_guestFlag m_wars m_lineFrom m_lineTo m_codes m_s m_kept m_keptBy m_ahead m_against m_sum m_sumBy m_term m_termBy m_byNot m_valueOf v2 y4.1) fun y5 => (if y5.1 = 0 then (Option.bind (fX9_canCross m_terrace m_holeFlag m_walls m_kind m_guestFlag m_wars m_lineFrom m_lineTo m_codes m_s y5.2.1 y5.2.2.1 y5.2.2.2.1 y5.2.2.2.2.1 y5.2.2.2.2.2.1 y5.2.2.2.2.2.2.1 y5.2.2.2.2.2.2.2.1 y5.2.2.2.2.2.2.2.2.1 y5.2.2.2.2.2.2.2.2.2.1 y5.2.2.2.2.2.2.2.2.2.2 v2 y4.1) fun y7 => (if y7.1 = 0 then (k13 y4.2 y7.2.1 y7.2.2.1 y7.2.2.2.1 y7.2.2.2.2.1 y7.2.2.2.2.2.1 y7.2.2.2.2.2.2.1 y7.2.2.2.2.2.2.2.1 y7.2.2.2.2.2.2.2.2.1 y7.2.2.2.2.2.2.2.2.2.1 y7.2.2.2.2.2.2.2.2.2.2 m_s v1 (v2 + 1)) else (fX9_livesDay_55 m_colder m_terrace m_holeFlag m_burns m_walls m_kind m_guestFlag m_wars m_cold m_lineFrom m_lineTo m_codes k13 y4.2 y7.2.1 y7.2.2.1 y7.2.2.2.1 y7.2.2.2.2.1 y7.2.2.2.2.2.1 y7.2.2.2.2.2.2.1 y7.2.2.2.2.2.2.2.1 y7.2.2.2.2.2.2.2.2.1 y7.2.2.2.2.2.2.2.2.2.1 y7.2.2.2.2.2.2.2.2.2.2 m_s v1 v2 y4.1))) else (fX9_livesDay_55 m_colder m_terrace m_holeFlag m_burns m_walls m_kind m_guestFlag m_wars m_cold m_lineFrom m_lineTo m_codes k13 y4.2 y5.2.1 y5.2.2.1 y5.2.2.2.1 y5.2.2.2.2.1 y5.2.2.2.2.2.1 y5.2.2.2.2.2.2.1 y5.2.2.2.2.2.2.2.1 y5.2.2.2.2.2.2.2.2.1 y5.2.2.2.2.2.2.2.2.2.1 y5.2.2.2.2.2.2.2.2.2.2 m_s v1 v2 y4.1))))
set_option maxHeartbeats 4000000 in
set_option maxRecDepth 100000 in
theorem tX9_livesDay_13 {p : Program} {l : Launch} {e : Env} {s : State} {m : MethodId} {args : Array Value} {below : List Frame} {meth : Method} {c : Code} {D : va_G} {cy : Nat → ClassId} {ad : Nat → Nat} {P : MP} {V : MV} {I : MI} {J : MJ} {A : MI} {B : MJ} {Af : Nat → Prop} {res : Int32 × Int64 × (Nat → Int32) × (Nat → Int32) × (Nat → Int32) × (Nat → Int32) × (Nat → Int32) × (Nat → Int32) × (Nat → Int32) × (Nat → Int32) × (Nat → Int32) × (Nat → Int32) × (Nat → Int32)} (C0 : CX p s m args meth c cX9_livesDay 4 (some .int) RX9) (hK : va_K D vwCl (tyG cy) s) (hN : NWs s) (hA : ∀ q, s.heap.size ≤ q → Af q) {k13 : Int64 → (Nat → Int32) → (Nat → Int32) → (Nat → Int32) → (Nat → Int32) → (Nat → Int32) → (Nat → Int32) → (Nat → Int32) → (Nat → Int32) → (Nat → Int32) → (Nat → Int32) → (Nat → Int32) → Int32 → Int32 → Option (Int32 × Int64 × (Nat → Int32) × (Nat → Int32) × (Nat → Int32) × (Nat → Int32) × (Nat → Int32) × (Nat → Int32) × (Nat → Int32) × (Nat → Int32) × (Nat → Int32) × (Nat → Int32) × (Nat → Int32))} (hk13 : SX9_livesDay_13 p l e s m args below meth c D cy ad P V I J A B Af res k13) : SX9_livesDay_13 p l e s m args below meth c D cy ad P V I J A B Af res (fX9_livesDay_13 (I 0 54) (A 2) (A 5) (A 7) (A 8) (A 9) (A 10) (A 11) (A 12) (A 13) (A 14) (A 15) k13) := by
  intro m_g m_kept m_keptBy m_ahead m_against m_sum m_sumBy m_term m_termBy m_byNot m_valueOf m_s v1 v2 H locs ls hW hl hf
  unfold fX9_livesDay_13 at hf
  refine lv_iload_n C0.1 C0.2.1 dX9_livesDay_13 rfl (lv_at hl 2 rfl) ?_
  refine lv_aload_n C0.1 C0.2.1 dX9_livesDay_14 rfl (lv_at hl 0 rfl) ?_
  refine s_get (v := .ref (ad 2)) C0 hK hW 0 10 LY_X9_0 rfl fg_X9_13 rfl dX9_livesDay_15 ?_
  refine lv_iconst (v := 1) C0.1 C0.2.1 dX9_livesDay_18 kI_1 ?_
  refine s_iald (v := ((A 2) 1)) C0 hK hW 2 LY_X9_2 rfl (congrArg _ tc_1) dX9_livesDay_19 ?_
  refine lv_icmp_ge (tgt := 76) C0.1 C0.2.1 dX9_livesDay_20 (by decide) (fun hc1 => ?_) (fun hc1 => ?_)
  · have hf := ite_t hc1 hf
    refine lv_aload_n C0.1 C0.2.1 dX9_livesDay_76 rfl (lv_at hl 0 rfl) ?_
    refine lv_aload_n C0.1 C0.2.1 dX9_livesDay_77 rfl (lv_at hl 0 rfl) ?_
    refine lv_aload_n C0.1 C0.2.1 dX9_livesDay_78 rfl (lv_at hl 0 rfl) ?_
    refine s_get (v := .ref (ad 2)) C0 hK hW 0 10 LY_X9_0 rfl fg_X9_13 rfl dX9_livesDay_79 ?_
    refine lv_iconst (v := 0) C0.1 C0.2.1 dX9_livesDay_82 kI_0 ?_
    refine s_iald (v := ((A 2) 0)) C0 hK hW 2 LY_X9_2 rfl (congrArg _ tc_0) dX9_livesDay_83 ?_
    obtain ⟨y2, hy2, hf⟩ := b_some hf
    refine c_Vi C0 hK hN hl.1 hW hA (KX9_draws l D cy  ad P V (gp I []) (gp J [(0, 61, m_g)]) (gm A [(18, m_kept), (19, m_keptBy), (20, m_ahead), (21, m_against), (22, m_sum), (23, m_sumBy), (24, m_term), (25, m_termBy), (26, m_byNot), (27, m_valueOf), (35, m_s)]) (gm B []) ((A 2) 0) hy2) (JN_id rfl rfl rfl rfl) (Uw_V uw_1640 uw_1642 us_95 uw_14 uw_1643) rfl rfl hd_X9_draws ⟨rfl, rfl⟩ rfl (dn_some LY_X9_0) rfl rfl rfl dX9_livesDay_84 ⟨Nat.zero_le _, Nat.zero_le _⟩ (fun H locs hW => ?_)
    have hW : wd D (dn cy LY_X9 ad P V (gp I []) (gp J [(0, 61, y2.2)]) (gm A [(18, m_kept), (19, m_keptBy), (20, m_ahead), (21, m_against), (22, m_sum), (23, m_sumBy), (24, m_term), (25, m_termBy), (26, m_byNot), (27, m_valueOf), (35, m_s)]) (gm B [])) Af s.heap H locs := hW
    obtain ⟨y3, hy3, hf⟩ := b_some hf
    refine c_Vv C0 hK hN hl.1 hW hA (KX9_brings l D cy  ad P V (gp I []) (gp J [(0, 61, y2.2)]) (gm A [(18, m_kept), (19, m_keptBy), (20, m_ahead), (21, m_against), (22, m_sum), (23, m_sumBy), (24, m_term), (25, m_termBy), (26, m_byNot), (27, m_valueOf), (35, m_s)]) (gm B []) y2.1 hy3) (JN_id rfl rfl rfl rfl) (Uw_V uw_1514 uw_1516 us_83 uw_14 uw_1517) rfl rfl hd_X9_brings ⟨rfl, rfl⟩ rfl (dn_some LY_X9_0) rfl rfl rfl dX9_livesDay_87 ⟨Nat.zero_le _, Nat.zero_le _⟩ (fun H locs hW => ?_)
    have hW : wd D (dn cy LY_X9 ad P V (gp I []) (gp J [(0, 61, y2.2)]) (gm A [(18, m_kept), (19, m_keptBy), (20, m_ahead), (21, m_against), (22, m_sum), (23, m_sumBy), (24, m_term), (25, m_termBy), (26, m_byNot), (27, m_valueOf), (35, y3)]) (gm B [])) Af s.heap H locs := hW
    exact tX9_livesDay_90 C0 hK hN hA  y2.2 m_kept m_keptBy m_ahead m_against m_sum m_sumBy m_term m_termBy m_byNot m_valueOf y3 v1 H locs ls hW (lv_sub hl [0, 1] rfl) hf
  · have hf := ite_f hc1 hf
    refine lv_aload_n C0.1 C0.2.1 dX9_livesDay_23 rfl (lv_at hl 0 rfl) ?_
    refine lv_aload_n C0.1 C0.2.1 dX9_livesDay_24 rfl (lv_at hl 0 rfl) ?_
    refine s_get (v := .ref (ad 2)) C0 hK hW 0 10 LY_X9_0 rfl fg_X9_13 rfl dX9_livesDay_25 ?_
    refine lv_iconst (v := 0) C0.1 C0.2.1 dX9_livesDay_28 kI_0 ?_
    refine s_iald (v := ((A 2) 0)) C0 hK hW 2 LY_X9_2 rfl (congrArg _ tc_0) dX9_livesDay_29 ?_
    obtain ⟨y4, hy4, hf⟩ := b_some hf
    refine c_Vi C0 hK hN hl.1 hW hA (KX9_draws l D cy  ad P V (gp I []) (gp J [(0, 61, m_g)]) (gm A [(18, m_kept), (19, m_keptBy), (20, m_ahead), (21, m_against), (22, m_sum), (23, m_sumBy), (24, m_term), (25, m_termBy), (26, m_byNot), (27, m_valueOf), (35, m_s)]) (gm B []) ((A 2) 0) hy4) (JN_id rfl rfl rfl rfl) (Uw_V uw_1640 uw_1642 us_95 uw_14 uw_1643) rfl rfl hd_X9_draws ⟨rfl, rfl⟩ rfl (dn_some LY_X9_0) rfl rfl rfl dX9_livesDay_30 ⟨Nat.zero_le _, Nat.zero_le _⟩ (fun H locs hW => ?_)
    have hW : wd D (dn cy LY_X9 ad P V (gp I []) (gp J [(0, 61, y4.2)]) (gm A [(18, m_kept), (19, m_keptBy), (20, m_ahead), (21, m_against), (22, m_sum), (23, m_sumBy), (24, m_term), (25, m_termBy), (26, m_byNot), (27, m_valueOf), (35, m_s)]) (gm B [])) Af s.heap H locs := hW
    refine lv_istore_n (lv' := [(3, .int y4.1), (0, .ref (ad 0)), (1, .int v1), (2, .int v2)]) C0.1 C0.2.1 dX9_livesDay_33 rfl hl (by decide) rfl (fun ls hl => ?_)
    refine lv_aload_n C0.1 C0.2.1 dX9_livesDay_34 rfl (lv_at hl 1 rfl) ?_
    refine lv_iload_n C0.1 C0.2.1 dX9_livesDay_35 rfl (lv_at hl 3 rfl) ?_
    refine lv_iload_n C0.1 C0.2.1 dX9_livesDay_36 rfl (lv_at hl 0 rfl) ?_
    obtain ⟨y5, hy5, hf⟩ := b_some hf
    refine c_Vi C0 hK hN hl.1 hW hA (KX9_canDown l D cy  ad P V (gp I []) (gp J [(0, 61, y4.2)]) (gm A [(18, m_kept), (19, m_keptBy), (20, m_ahead), (21, m_against), (22, m_sum), (23, m_sumBy), (24, m_term), (25, m_termBy), (26, m_byNot), (27, m_valueOf), (35, m_s)]) (gm B []) v2 y4.1 hy5) (JN_id rfl rfl rfl rfl) (Uw_V uw_1487 uw_1489 us_80 uw_14 uw_1490) rfl rfl hd_X9_canDown ⟨rfl, rfl⟩ rfl (dn_some LY_X9_0) rfl rfl rfl dX9_livesDay_37 ⟨Nat.zero_le _, Nat.zero_le _⟩ (fun H locs hW => ?_)
    have hW : wd D (dn cy LY_X9 ad P V (gp I []) (gp J [(0, 61, y4.2)]) (gm A [(18, y5.2.1), (19, y5.2.2.1), (20, y5.2.2.2.1), (21, y5.2.2.2.2.1), (22, y5.2.2.2.2.2.1), (23, y5.2.2.2.2.2.2.1), (24, y5.2.2.2.2.2.2.2.1), (25, y5.2.2.2.2.2.2.2.2.1), (26, y5.2.2.2.2.2.2.2.2.2.1), (27, y5.2.2.2.2.2.2.2.2.2.2), (35, m_s)]) (gm B [])) Af s.heap H locs := hW
    refine lv_if_ne (tgt := 55) C0.1 C0.2.1 dX9_livesDay_40 (by decide) (fun hc6 => ?_) (fun hc6 => ?_)
    · have hf := ite_f hc6 hf
      exact tX9_livesDay_55 C0 hK hN hA hk13 y4.2 y5.2.1 y5.2.2.1 y5.2.2.2.1 y5.2.2.2.2.1 y5.2.2.2.2.2.1 y5.2.2.2.2.2.2.1 y5.2.2.2.2.2.2.2.1 y5.2.2.2.2.2.2.2.2.1 y5.2.2.2.2.2.2.2.2.2.1 y5.2.2.2.2.2.2.2.2.2.2 m_s v1 v2 y4.1 H locs ls hW (lv_sub hl [1, 2, 3, 0] rfl) hf
    · have hf := ite_t hc6 hf
      refine lv_aload_n C0.1 C0.2.1 dX9_livesDay_43 rfl (lv_at hl 1 rfl) ?_
      refine lv_iload_n C0.1 C0.2.1 dX9_livesDay_44 rfl (lv_at hl 3 rfl) ?_
      refine lv_iload_n C0.1 C0.2.1 dX9_livesDay_45 rfl (lv_at hl 0 rfl) ?_
      obtain ⟨y7, hy7, hf⟩ := b_some hf
      refine c_Vi C0 hK hN hl.1 hW hA (KX9_canCross l D cy  ad P V (gp I []) (gp J [(0, 61, y4.2)]) (gm A [(18, y5.2.1), (19, y5.2.2.1), (20, y5.2.2.2.1), (21, y5.2.2.2.2.1), (22, y5.2.2.2.2.2.1), (23, y5.2.2.2.2.2.2.1), (24, y5.2.2.2.2.2.2.2.1), (25, y5.2.2.2.2.2.2.2.2.1), (26, y5.2.2.2.2.2.2.2.2.2.1), (27, y5.2.2.2.2.2.2.2.2.2.2), (35, m_s)]) (gm B []) v2 y4.1 hy7) (JN_id rfl rfl rfl rfl) (Uw_V uw_1506 uw_1508 us_82 uw_14 uw_1509) rfl rfl hd_X9_canCross ⟨rfl, rfl⟩ rfl (dn_some LY_X9_0) rfl rfl rfl dX9_livesDay_46 ⟨Nat.zero_le _, Nat.zero_le _⟩ (fun H locs hW => ?_)
      have hW : wd D (dn cy LY_X9 ad P V (gp I []) (gp J [(0, 61, y4.2)]) (gm A [(18, y7.2.1), (19, y7.2.2.1), (20, y7.2.2.2.1), (21, y7.2.2.2.2.1), (22, y7.2.2.2.2.2.1), (23, y7.2.2.2.2.2.2.1), (24, y7.2.2.2.2.2.2.2.1), (25, y7.2.2.2.2.2.2.2.2.1), (26, y7.2.2.2.2.2.2.2.2.2.1), (27, y7.2.2.2.2.2.2.2.2.2.2), (35, m_s)]) (gm B [])) Af s.heap H locs := hW
      refine lv_if_ne (tgt := 55) C0.1 C0.2.1 dX9_livesDay_49 (by decide) (fun hc8 => ?_) (fun hc8 => ?_)
      · have hf := ite_f hc8 hf
        exact tX9_livesDay_55 C0 hK hN hA hk13 y4.2 y7.2.1 y7.2.2.1 y7.2.2.2.1 y7.2.2.2.2.1 y7.2.2.2.2.2.1 y7.2.2.2.2.2.2.1 y7.2.2.2.2.2.2.2.1 y7.2.2.2.2.2.2.2.2.1 y7.2.2.2.2.2.2.2.2.2.1 y7.2.2.2.2.2.2.2.2.2.2 m_s v1 v2 y4.1 H locs ls hW (lv_sub hl [1, 2, 3, 0] rfl) hf
      · have hf := ite_t hc8 hf
        refine lv_goto (tgt := 70) C0.1 C0.2.1 dX9_livesDay_52 (by decide) ?_
        refine lv_iinc (v := (v2 + 1)) (lv' := [(2, .int (v2 + 1)), (3, .int y4.1), (0, .ref (ad 0)), (1, .int v1)]) C0.1 C0.2.1 dX9_livesDay_70 hl (k := 3) rfl (congrArg (fun z => _ + z) kI_1) (by decide) rfl (fun ls hl => ?_)
        refine lv_goto (tgt := 13) C0.1 C0.2.1 dX9_livesDay_73 (by decide) ?_
        exact hk13 y4.2 y7.2.1 y7.2.2.1 y7.2.2.2.1 y7.2.2.2.2.1 y7.2.2.2.2.2.1 y7.2.2.2.2.2.2.1 y7.2.2.2.2.2.2.2.1 y7.2.2.2.2.2.2.2.2.1 y7.2.2.2.2.2.2.2.2.2.1 y7.2.2.2.2.2.2.2.2.2.2 m_s v1 (v2 + 1) H locs ls hW (lv_sub hl [2, 3, 0] rfl) hf
theorem TX9_livesDay_13 {p : Program} {l : Launch} {e : Env} {s : State} {m : MethodId} {args : Array Value} {below : List Frame} {meth : Method} {c : Code} {D : va_G} {cy : Nat → ClassId} {ad : Nat → Nat} {P : MP} {V : MV} {I : MI} {J : MJ} {A : MI} {B : MJ} {Af : Nat → Prop} {res : Int32 × Int64 × (Nat → Int32) × (Nat → Int32) × (Nat → Int32) × (Nat → Int32) × (Nat → Int32) × (Nat → Int32) × (Nat → Int32) × (Nat → Int32) × (Nat → Int32) × (Nat → Int32) × (Nat → Int32)} (C0 : CX p s m args meth c cX9_livesDay 4 (some .int) RX9) (hK : va_K D vwCl (tyG cy) s) (hN : NWs s) (hA : ∀ q, s.heap.size ≤ q → Af q) : ∀ n, SX9_livesDay_13 p l e s m args below meth c D cy ad P V I J A B Af res (itr (fun kk => fX9_livesDay_13 (I 0 54) (A 2) (A 5) (A 7) (A 8) (A 9) (A 10) (A 11) (A 12) (A 13) (A 14) (A 15) kk) (fun _ _ _ _ _ _ _ _ _ _ _ _ _ _ => none) n) := by
  intro n
  induction n with
  | zero => intro m_g m_kept m_keptBy m_ahead m_against m_sum m_sumBy m_term m_termBy m_byNot m_valueOf m_s v1 v2 H locs ls hW hl hf; exact (nomatch (show (none : Option (Int32 × Int64 × (Nat → Int32) × (Nat → Int32) × (Nat → Int32) × (Nat → Int32) × (Nat → Int32) × (Nat → Int32) × (Nat → Int32) × (Nat → Int32) × (Nat → Int32) × (Nat → Int32) × (Nat → Int32))) = some res from hf))
  | succ n ih => exact tX9_livesDay_13 C0 hK hN hA  ih
def fX9_livesDay (m_colder : Int32) (m_terrace : (Nat → Int32)) (m_holeFlag : (Nat → Int32)) (m_burns : (Nat → Int32)) (m_walls : (Nat → Int32)) (m_kind : (Nat → Int32)) (m_guestFlag : (Nat → Int32)) (m_wars : (Nat → Int32)) (m_cold : (Nat → Int32)) (m_lineFrom : (Nat → Int32)) (m_lineTo : (Nat → Int32)) (m_codes : (Nat → Int32)) (m_g : Int64) (m_kept : (Nat → Int32)) (m_keptBy : (Nat → Int32)) (m_ahead : (Nat → Int32)) (m_against : (Nat → Int32)) (m_sum : (Nat → Int32)) (m_sumBy : (Nat → Int32)) (m_term : (Nat → Int32)) (m_termBy : (Nat → Int32)) (m_byNot : (Nat → Int32)) (m_valueOf : (Nat → Int32)) (m_s : (Nat → Int32)) : Option (Int32 × Int64 × (Nat → Int32) × (Nat → Int32) × (Nat → Int32) × (Nat → Int32) × (Nat → Int32) × (Nat → Int32) × (Nat → Int32) × (Nat → Int32) × (Nat → Int32) × (Nat → Int32) × (Nat → Int32)) := if (m_terrace 0) ≤ 0 then (fX9_livesDay_90 m_colder m_terrace m_holeFlag m_burns m_walls m_kind m_guestFlag m_wars m_cold m_lineFrom m_lineTo m_codes m_g m_kept m_keptBy m_ahead m_against m_sum m_sumBy m_term m_termBy m_byNot m_valueOf m_s 0) else (itr (fun kk => fX9_livesDay_13 m_colder m_terrace m_holeFlag m_burns m_walls m_kind m_guestFlag m_wars m_cold m_lineFrom m_lineTo m_codes kk) (fun _ _ _ _ _ _ _ _ _ _ _ _ _ _ => none) FU m_g m_kept m_keptBy m_ahead m_against m_sum m_sumBy m_term m_termBy m_byNot m_valueOf m_s 0 0)
set_option maxHeartbeats 4000000 in
set_option maxRecDepth 100000 in
theorem KX9_livesDay (l : Launch) (D : va_G) (cy : Nat → ClassId) (ad : Nat → Nat) (P : MP) (V : MV) (I : MI) (J : MJ) (A : MI) (B : MJ) {res : Int32 × Int64 × (Nat → Int32) × (Nat → Int32) × (Nat → Int32) × (Nat → Int32) × (Nat → Int32) × (Nat → Int32) × (Nat → Int32) × (Nat → Int32) × (Nat → Int32) × (Nat → Int32) × (Nat → Int32)} (hf : fX9_livesDay (I 0 54) (A 2) (A 5) (A 7) (A 8) (A 9) (A 10) (A 11) (A 12) (A 13) (A 14) (A 15) (J 0 61) (A 18) (A 19) (A 20) (A 21) (A 22) (A 23) (A 24) (A 25) (A 26) (A 27) (A 35) = some res) : CG l yX9_livesDay cX9_livesDay 4 (some .int) rmX9_livesDay D cy (dn cy LY_X9 ad P V I J A B) [.ref (ad 0)] (some (.int res.1)) (dn cy LY_X9 ad P V (gp I []) (gp J [(0, 61, res.2.1)]) (gm A [(18, res.2.2.1), (19, res.2.2.2.1), (20, res.2.2.2.2.1), (21, res.2.2.2.2.2.1), (22, res.2.2.2.2.2.2.1), (23, res.2.2.2.2.2.2.2.1), (24, res.2.2.2.2.2.2.2.2.1), (25, res.2.2.2.2.2.2.2.2.2.1), (26, res.2.2.2.2.2.2.2.2.2.2.1), (27, res.2.2.2.2.2.2.2.2.2.2.2.1), (35, res.2.2.2.2.2.2.2.2.2.2.2.2)]) (gm B [])) := by
  refine CG.of (own := RX9) (by decide) rfl rfl ?_
  intro p e s m below meth c ls Af C0 hK hN hA hW hl
  have hW : wd D (dn cy LY_X9 ad P V (gp I []) (gp J [(0, 61, (J 0 61))]) (gm A [(18, (A 18)), (19, (A 19)), (20, (A 20)), (21, (A 21)), (22, (A 22)), (23, (A 23)), (24, (A 24)), (25, (A 25)), (26, (A 26)), (27, (A 27)), (35, (A 35))]) (gm B [])) Af s.heap s.heap [] := wd_sel [] [(0, 61)] [18, 19, 20, 21, 22, 23, 24, 25, 26, 27, 35] [] hW
  have hl : lv_has ls 4 [(0, .ref (ad 0))] := hl
  unfold fX9_livesDay at hf
  refine lv_iconst (v := 0) C0.1 C0.2.1 dX9_livesDay_0 kI_0 ?_
  refine lv_istore_n (lv' := [(1, .int 0), (0, .ref (ad 0))]) C0.1 C0.2.1 dX9_livesDay_1 rfl hl (by decide) rfl (fun ls hl => ?_)
  refine lv_aload_n C0.1 C0.2.1 dX9_livesDay_2 rfl (lv_at hl 1 rfl) ?_
  refine s_get (v := .ref (ad 2)) C0 hK hW 0 10 LY_X9_0 rfl fg_X9_13 rfl dX9_livesDay_3 ?_
  refine lv_iconst (v := 0) C0.1 C0.2.1 dX9_livesDay_6 kI_0 ?_
  refine s_iald (v := ((A 2) 0)) C0 hK hW 2 LY_X9_2 rfl (congrArg _ tc_0) dX9_livesDay_7 ?_
  refine lv_if_le (tgt := 90) C0.1 C0.2.1 dX9_livesDay_8 (by decide) (fun hc1 => ?_) (fun hc1 => ?_)
  · have hf := ite_t hc1 hf
    exact tX9_livesDay_90 C0 hK hN hA  (J 0 61) (A 18) (A 19) (A 20) (A 21) (A 22) (A 23) (A 24) (A 25) (A 26) (A 27) (A 35) 0 _ _ ls hW (lv_sub hl [1, 0] rfl) hf
  · have hf := ite_f hc1 hf
    refine lv_iconst (v := 0) C0.1 C0.2.1 dX9_livesDay_11 kI_0 ?_
    refine lv_istore_n (lv' := [(2, .int 0), (1, .int 0), (0, .ref (ad 0))]) C0.1 C0.2.1 dX9_livesDay_12 rfl hl (by decide) rfl (fun ls hl => ?_)
    exact TX9_livesDay_13 C0 hK hN hA  FU (J 0 61) (A 18) (A 19) (A 20) (A 21) (A 22) (A 23) (A 24) (A 25) (A 26) (A 27) (A 35) 0 0 _ _ ls hW (lv_sub hl [2, 1, 0] rfl) hf
-- X9_allCoal
def rmX9_allCoal : Room := { frames := 1, cells := 0, slots := 0, locals := 21 }
def SX9_allCoal_4 (p : Program) (l : Launch) (e : Env) (s : State) (m : MethodId) (args : Array Value) (below : List Frame) (meth : Method) (c : Code) (D : va_G) (cy : Nat → ClassId) (ad : Nat → Nat) (P : MP) (V : MV) (I : MI) (J : MJ) (A : MI) (B : MJ) (Af : Nat → Prop) (res : Int32) (k : Int32 → Int32 → Option (Int32)) : Prop := ∀ (v1 : Int32) (v2 : Int32) (H : Heap) (locs : List Loc) (ls : Array Slot), wd D (dn cy LY_X9 ad P V (gp I []) (gp J []) (gm A []) (gm B [])) Af s.heap H locs → lv_has ls 3 [(0, .ref (ad 0)), (1, .int v1), (2, .int v2)] → k v1 v2 = some res → W p l e rmX9_allCoal s m args below meth c H locs 0 0 (ZQ below D cy (dn cy LY_X9 ad P V (gp I []) (gp J []) (gm A []) (gm B [])) (some (.int res)) Af args s) (F0 m 4 ls [])
def fX9_allCoal_4 (m_s : (Nat → Int32)) (k4 : Int32 → Int32 → Option (Int32)) (v1 : Int32) (v2 : Int32) : Option (Int32) := if 5 ≤ v2 then (some (v1)) else (bif inb (3 + v2) 13 then (k4 (v1 + (m_s (Int32.toNatClampNeg (3 + v2)))) (v2 + 1)) else none)
set_option maxHeartbeats 4000000 in
set_option maxRecDepth 100000 in
theorem tX9_allCoal_4 {p : Program} {l : Launch} {e : Env} {s : State} {m : MethodId} {args : Array Value} {below : List Frame} {meth : Method} {c : Code} {D : va_G} {cy : Nat → ClassId} {ad : Nat → Nat} {P : MP} {V : MV} {I : MI} {J : MJ} {A : MI} {B : MJ} {Af : Nat → Prop} {res : Int32} (C0 : CX p s m args meth c cX9_allCoal 3 (some .int) RX9) (hK : va_K D vwCl (tyG cy) s) (hN : NWs s) (hA : ∀ q, s.heap.size ≤ q → Af q) {k4 : Int32 → Int32 → Option (Int32)} (hk4 : SX9_allCoal_4 p l e s m args below meth c D cy ad P V I J A B Af res k4) : SX9_allCoal_4 p l e s m args below meth c D cy ad P V I J A B Af res (fX9_allCoal_4 (A 35) k4) := by
  intro v1 v2 H locs ls hW hl hf
  unfold fX9_allCoal_4 at hf
  refine lv_iload_n C0.1 C0.2.1 dX9_allCoal_4 rfl (lv_at hl 2 rfl) ?_
  refine lv_iconst (v := 5) C0.1 C0.2.1 dX9_allCoal_5 kI_5 ?_
  refine lv_icmp_ge (tgt := 26) C0.1 C0.2.1 dX9_allCoal_6 (by decide) (fun hc1 => ?_) (fun hc1 => ?_)
  · have hf := ite_t hc1 hf
    refine lv_iload_n C0.1 C0.2.1 dX9_allCoal_26 rfl (lv_at hl 1 rfl) ?_
    obtain rfl := Option.some.inj hf
    exact r_int C0 hK hW dX9_allCoal_27
  · have hf := ite_f hc1 hf
    refine lv_iload_n C0.1 C0.2.1 dX9_allCoal_9 rfl (lv_at hl 1 rfl) ?_
    refine lv_aload_n C0.1 C0.2.1 dX9_allCoal_10 rfl (lv_at hl 0 rfl) ?_
    refine s_get (v := .ref (ad 35)) C0 hK hW 0 47 LY_X9_0 rfl fg_X9_114 rfl dX9_allCoal_11 ?_
    refine lv_iconst (v := 3) C0.1 C0.2.1 dX9_allCoal_14 kI_3 ?_
    refine lv_iload_n C0.1 C0.2.1 dX9_allCoal_15 rfl (lv_at hl 2 rfl) ?_
    refine lv_iadd C0.1 C0.2.1 dX9_allCoal_16 ?_
    obtain ⟨hb2, hf⟩ := g_some hf
    refine s_iald (v := ((A 35) (Int32.toNatClampNeg (3 + v2)))) C0 hK hW 35 LY_X9_35 hb2 rfl dX9_allCoal_17 ?_
    refine lv_iadd C0.1 C0.2.1 dX9_allCoal_18 ?_
    refine lv_istore_n (lv' := [(1, .int (v1 + ((A 35) (Int32.toNatClampNeg (3 + v2))))), (0, .ref (ad 0)), (2, .int v2)]) C0.1 C0.2.1 dX9_allCoal_19 rfl hl (by decide) rfl (fun ls hl => ?_)
    refine lv_iinc (v := (v2 + 1)) (lv' := [(2, .int (v2 + 1)), (1, .int (v1 + ((A 35) (Int32.toNatClampNeg (3 + v2))))), (0, .ref (ad 0))]) C0.1 C0.2.1 dX9_allCoal_20 hl (k := 2) rfl (congrArg (fun z => _ + z) kI_1) (by decide) rfl (fun ls hl => ?_)
    refine lv_goto (tgt := 4) C0.1 C0.2.1 dX9_allCoal_23 (by decide) ?_
    exact hk4 (v1 + ((A 35) (Int32.toNatClampNeg (3 + v2)))) (v2 + 1) H locs ls hW (lv_sub hl [2, 1, 0] rfl) hf
theorem TX9_allCoal_4 {p : Program} {l : Launch} {e : Env} {s : State} {m : MethodId} {args : Array Value} {below : List Frame} {meth : Method} {c : Code} {D : va_G} {cy : Nat → ClassId} {ad : Nat → Nat} {P : MP} {V : MV} {I : MI} {J : MJ} {A : MI} {B : MJ} {Af : Nat → Prop} {res : Int32} (C0 : CX p s m args meth c cX9_allCoal 3 (some .int) RX9) (hK : va_K D vwCl (tyG cy) s) (hN : NWs s) (hA : ∀ q, s.heap.size ≤ q → Af q) : ∀ n, SX9_allCoal_4 p l e s m args below meth c D cy ad P V I J A B Af res (itr (fun kk => fX9_allCoal_4 (A 35) kk) (fun _ _ => none) n) := by
  intro n
  induction n with
  | zero => intro v1 v2 H locs ls hW hl hf; exact (nomatch (show (none : Option (Int32)) = some res from hf))
  | succ n ih => exact tX9_allCoal_4 C0 hK hN hA  ih
def fX9_allCoal (m_s : (Nat → Int32)) : Option (Int32) := itr (fun kk => fX9_allCoal_4 m_s kk) (fun _ _ => none) FU 0 0
set_option maxHeartbeats 4000000 in
set_option maxRecDepth 100000 in
theorem KX9_allCoal (l : Launch) (D : va_G) (cy : Nat → ClassId) (ad : Nat → Nat) (P : MP) (V : MV) (I : MI) (J : MJ) (A : MI) (B : MJ) {res : Int32} (hf : fX9_allCoal (A 35) = some res) : CG l yX9_allCoal cX9_allCoal 3 (some .int) rmX9_allCoal D cy (dn cy LY_X9 ad P V I J A B) [.ref (ad 0)] (some (.int res)) (dn cy LY_X9 ad P V (gp I []) (gp J []) (gm A []) (gm B [])) := by
  refine CG.of (own := RX9) (by decide) rfl rfl ?_
  intro p e s m below meth c ls Af C0 hK hN hA hW hl
  have hW : wd D (dn cy LY_X9 ad P V (gp I []) (gp J []) (gm A []) (gm B [])) Af s.heap s.heap [] := wd_sel [] [] [] [] hW
  have hl : lv_has ls 3 [(0, .ref (ad 0))] := hl
  unfold fX9_allCoal at hf
  refine lv_iconst (v := 0) C0.1 C0.2.1 dX9_allCoal_0 kI_0 ?_
  refine lv_istore_n (lv' := [(1, .int 0), (0, .ref (ad 0))]) C0.1 C0.2.1 dX9_allCoal_1 rfl hl (by decide) rfl (fun ls hl => ?_)
  refine lv_iconst (v := 0) C0.1 C0.2.1 dX9_allCoal_2 kI_0 ?_
  refine lv_istore_n (lv' := [(2, .int 0), (1, .int 0), (0, .ref (ad 0))]) C0.1 C0.2.1 dX9_allCoal_3 rfl hl (by decide) rfl (fun ls hl => ?_)
  exact TX9_allCoal_4 C0 hK hN hA  FU 0 0 _ _ ls hW (lv_sub hl [2, 1, 0] rfl) hf
-- X9_winters
def rmX9_winters : Room := { frames := 7, cells := 0, slots := 0, locals := 158 }
def SX9_winters_62 (p : Program) (l : Launch) (e : Env) (s : State) (m : MethodId) (args : Array Value) (below : List Frame) (meth : Method) (c : Code) (D : va_G) (cy : Nat → ClassId) (ad : Nat → Nat) (P : MP) (V : MV) (I : MI) (J : MJ) (A : MI) (B : MJ) (Af : Nat → Prop) (res : Int32 × Int32 × Int64 × (Nat → Int32) × (Nat → Int32) × (Nat → Int32) × (Nat → Int32) × (Nat → Int32) × (Nat → Int32) × (Nat → Int32) × (Nat → Int32) × (Nat → Int32) × (Nat → Int32) × (Nat → Int32) × (Nat → Int32)) (k : Int32 → Int64 → (Nat → Int32) → (Nat → Int32) → (Nat → Int32) → (Nat → Int32) → (Nat → Int32) → (Nat → Int32) → (Nat → Int32) → (Nat → Int32) → (Nat → Int32) → (Nat → Int32) → (Nat → Int32) → (Nat → Int32) → Int32 → Int32 → Int32 → Int32 → Option (Int32 × Int32 × Int64 × (Nat → Int32) × (Nat → Int32) × (Nat → Int32) × (Nat → Int32) × (Nat → Int32) × (Nat → Int32) × (Nat → Int32) × (Nat → Int32) × (Nat → Int32) × (Nat → Int32) × (Nat → Int32) × (Nat → Int32))) : Prop := ∀ (m_thrown : Int32) (m_g : Int64) (m_kept : (Nat → Int32)) (m_keptBy : (Nat → Int32)) (m_ahead : (Nat → Int32)) (m_against : (Nat → Int32)) (m_sum : (Nat → Int32)) (m_sumBy : (Nat → Int32)) (m_term : (Nat → Int32)) (m_termBy : (Nat → Int32)) (m_byNot : (Nat → Int32)) (m_valueOf : (Nat → Int32)) (m_s : (Nat → Int32)) (m_aside : (Nat → Int32)) (v2 : Int32) (v3 : Int32) (v4 : Int32) (v5 : Int32) (H : Heap) (locs : List Loc) (ls : Array Slot), wd D (dn cy LY_X9 ad P V (gp I [(0, 0, m_thrown)]) (gp J [(0, 61, m_g)]) (gm A [(18, m_kept), (19, m_keptBy), (20, m_ahead), (21, m_against), (22, m_sum), (23, m_sumBy), (24, m_term), (25, m_termBy), (26, m_byNot), (27, m_valueOf), (35, m_s), (36, m_aside)]) (gm B [])) Af s.heap H locs → lv_has ls 7 [(0, .ref (ad 0)), (2, .int v2), (3, .int v3), (4, .int v4), (5, .int v5)] → k m_thrown m_g m_kept m_keptBy m_ahead m_against m_sum m_sumBy m_term m_termBy m_byNot m_valueOf m_s m_aside v2 v3 v4 v5 = some res → W p l e rmX9_winters s m args below meth c H locs 0 0 (ZQ below D cy (dn cy LY_X9 ad P V (gp I [(0, 0, res.2.1)]) (gp J [(0, 61, res.2.2.1)]) (gm A [(18, res.2.2.2.1), (19, res.2.2.2.2.1), (20, res.2.2.2.2.2.1), (21, res.2.2.2.2.2.2.1), (22, res.2.2.2.2.2.2.2.1), (23, res.2.2.2.2.2.2.2.2.1), (24, res.2.2.2.2.2.2.2.2.2.1), (25, res.2.2.2.2.2.2.2.2.2.2.1), (26, res.2.2.2.2.2.2.2.2.2.2.2.1), (27, res.2.2.2.2.2.2.2.2.2.2.2.2.1), (35, res.2.2.2.2.2.2.2.2.2.2.2.2.2.1), (36, res.2.2.2.2.2.2.2.2.2.2.2.2.2.2)]) (gm B [])) (some (.int res.1)) Af args s) (F0 m 62 ls [])
def fX9_winters_62 (m_colder : Int32) (m_terrace : (Nat → Int32)) (m_holeFlag : (Nat → Int32)) (m_burns : (Nat → Int32)) (m_walls : (Nat → Int32)) (m_kind : (Nat → Int32)) (m_guestFlag : (Nat → Int32)) (m_wars : (Nat → Int32)) (m_cold : (Nat → Int32)) (m_lineFrom : (Nat → Int32)) (m_lineTo : (Nat → Int32)) (m_codes : (Nat → Int32)) (k62 : Int32 → Int64 → (Nat → Int32) → (Nat → Int32) → (Nat → Int32) → (Nat → Int32) → (Nat → Int32) → (Nat → Int32) → (Nat → Int32) → (Nat → Int32) → (Nat → Int32) → (Nat → Int32) → (Nat → Int32) → (Nat → Int32) → Int32 → Int32 → Int32 → Int32 → Option (Int32 × Int32 × Int64 × (Nat → Int32) × (Nat → Int32) × (Nat → Int32) × (Nat → Int32) × (Nat → Int32) × (Nat → Int32) × (Nat → Int32) × (Nat → Int32) × (Nat → Int32) × (Nat → Int32) × (Nat → Int32) × (Nat → Int32))) (m_thrown : Int32) (m_g : Int64) (m_kept : (Nat → Int32)) (m_keptBy : (Nat → Int32)) (m_ahead : (Nat → Int32)) (m_against : (Nat → Int32)) (m_sum : (Nat → Int32)) (m_sumBy : (Nat → Int32)) (m_term : (Nat → Int32)) (m_termBy : (Nat → Int32)) (m_byNot : (Nat → Int32)) (m_valueOf : (Nat → Int32)) (m_s : (Nat → Int32)) (m_aside : (Nat → Int32)) (v2 : Int32) (v3 : Int32) (v4 : Int32) (v5 : Int32) : Option (Int32 × Int32 × Int64 × (Nat → Int32) × (Nat → Int32) × (Nat → Int32) × (Nat → Int32) × (Nat → Int32) × (Nat → Int32) × (Nat → Int32) × (Nat → Int32) × (Nat → Int32) × (Nat → Int32) × (Nat → Int32) × (Nat → Int32)) := if v2 ≤ v5 then (Option.bind (fX9_allCoal m_s) fun y2 => (Option.bind (fX9_copies 13 13 m_aside m_s 0 0) fun y3 => (if v3 = 0 then (some (v4, m_thrown, m_g, m_kept, m_keptBy, m_ahead, m_against, m_sum, m_sumBy, m_term, m_termBy, m_byNot, m_valueOf, y3, m_aside)) else (if v3 = 1 then (some ((m_s 1), m_thrown, m_g, m_kept, m_keptBy, m_ahead, m_against, m_sum, m_sumBy, m_term, m_termBy, m_byNot, m_valueOf, y3, m_aside)) else (some (y2, m_thrown, m_g, m_kept, m_keptBy, m_ahead, m_against, m_sum, m_sumBy, m_term, m_termBy, m_byNot, m_valueOf, y3, m_aside)))))) else (Option.bind (fX9_livesDay m_colder m_terrace m_holeFlag m_burns m_walls m_kind m_guestFlag m_wars m_cold m_lineFrom m_lineTo m_codes m_g m_kept m_keptBy m_ahead m_against m_sum m_sumBy m_term m_termBy m_byNot m_valueOf m_s) fun y6 => (k62 m_thrown y6.2.1 y6.2.2.1 y6.2.2.2.1 y6.2.2.2.2.1 y6.2.2.2.2.2.1 y6.2.2.2.2.2.2.1 y6.2.2.2.2.2.2.2.1 y6.2.2.2.2.2.2.2.2.1 y6.2.2.2.2.2.2.2.2.2.1 y6.2.2.2.2.2.2.2.2.2.2.1 y6.2.2.2.2.2.2.2.2.2.2.2.1 y6.2.2.2.2.2.2.2.2.2.2.2.2 m_aside v2 v3 (v4 + y6.1) (v5 + 1)))
set_option maxHeartbeats 4000000 in
set_option maxRecDepth 100000 in
theorem tX9_winters_62 {p : Program} {l : Launch} {e : Env} {s : State} {m : MethodId} {args : Array Value} {below : List Frame} {meth : Method} {c : Code} {D : va_G} {cy : Nat → ClassId} {ad : Nat → Nat} {P : MP} {V : MV} {I : MI} {J : MJ} {A : MI} {B : MJ} {Af : Nat → Prop} {res : Int32 × Int32 × Int64 × (Nat → Int32) × (Nat → Int32) × (Nat → Int32) × (Nat → Int32) × (Nat → Int32) × (Nat → Int32) × (Nat → Int32) × (Nat → Int32) × (Nat → Int32) × (Nat → Int32) × (Nat → Int32) × (Nat → Int32)} (C0 : CX p s m args meth c cX9_winters 7 (some .int) RX9) (hK : va_K D vwCl (tyG cy) s) (hN : NWs s) (hA : ∀ q, s.heap.size ≤ q → Af q) {k62 : Int32 → Int64 → (Nat → Int32) → (Nat → Int32) → (Nat → Int32) → (Nat → Int32) → (Nat → Int32) → (Nat → Int32) → (Nat → Int32) → (Nat → Int32) → (Nat → Int32) → (Nat → Int32) → (Nat → Int32) → (Nat → Int32) → Int32 → Int32 → Int32 → Int32 → Option (Int32 × Int32 × Int64 × (Nat → Int32) × (Nat → Int32) × (Nat → Int32) × (Nat → Int32) × (Nat → Int32) × (Nat → Int32) × (Nat → Int32) × (Nat → Int32) × (Nat → Int32) × (Nat → Int32) × (Nat → Int32) × (Nat → Int32))} (hk62 : SX9_winters_62 p l e s m args below meth c D cy ad P V I J A B Af res k62) : SX9_winters_62 p l e s m args below meth c D cy ad P V I J A B Af res (fX9_winters_62 (I 0 54) (A 2) (A 5) (A 7) (A 8) (A 9) (A 10) (A 11) (A 12) (A 13) (A 14) (A 15) k62) := by
  intro m_thrown m_g m_kept m_keptBy m_ahead m_against m_sum m_sumBy m_term m_termBy m_byNot m_valueOf m_s m_aside v2 v3 v4 v5 H locs ls hW hl hf
  unfold fX9_winters_62 at hf
  refine lv_iload C0.1 C0.2.1 dX9_winters_62 (lv_at hl 4 rfl) ?_
  refine lv_iload_n C0.1 C0.2.1 dX9_winters_64 rfl (lv_at hl 1 rfl) ?_
  refine lv_icmp_ge (tgt := 83) C0.1 C0.2.1 dX9_winters_65 (by decide) (fun hc1 => ?_) (fun hc1 => ?_)
  · have hf := ite_t hc1 hf
    refine lv_aload_n C0.1 C0.2.1 dX9_winters_83 rfl (lv_at hl 0 rfl) ?_
    refine s_get (v := .ref (ad 35)) C0 hK hW 0 47 LY_X9_0 rfl fg_X9_114 rfl dX9_winters_84 ?_
    refine lv_iconst (v := 1) C0.1 C0.2.1 dX9_winters_87 kI_1 ?_
    refine s_iald (v := (m_s 1)) C0 hK hW 35 LY_X9_35 rfl (congrArg _ tc_1) dX9_winters_88 ?_
    refine lv_istore (lv' := [(5, .int (m_s 1)), (0, .ref (ad 0)), (2, .int v2), (3, .int v3), (4, .int v4)]) C0.1 C0.2.1 dX9_winters_89 hl (by decide) rfl (fun ls hl => ?_)
    refine lv_aload_n C0.1 C0.2.1 dX9_winters_91 rfl (lv_at hl 1 rfl) ?_
    obtain ⟨y2, hy2, hf⟩ := b_some hf
    refine c_Vi C0 hK hN hl.1 hW hA (KX9_allCoal l D cy  ad P V (gp I [(0, 0, m_thrown)]) (gp J [(0, 61, m_g)]) (gm A [(18, m_kept), (19, m_keptBy), (20, m_ahead), (21, m_against), (22, m_sum), (23, m_sumBy), (24, m_term), (25, m_termBy), (26, m_byNot), (27, m_valueOf), (35, m_s), (36, m_aside)]) (gm B [])  hy2) (JN_id rfl rfl rfl rfl) (Uw_V uw_1648 uw_1650 us_96 uw_14 uw_1651) rfl rfl hd_X9_allCoal ⟨rfl, rfl⟩ rfl (dn_some LY_X9_0) rfl rfl rfl dX9_winters_92 ⟨Nat.zero_le _, Nat.zero_le _⟩ (fun H locs hW => ?_)
    have hW : wd D (dn cy LY_X9 ad P V (gp I [(0, 0, m_thrown)]) (gp J [(0, 61, m_g)]) (gm A [(18, m_kept), (19, m_keptBy), (20, m_ahead), (21, m_against), (22, m_sum), (23, m_sumBy), (24, m_term), (25, m_termBy), (26, m_byNot), (27, m_valueOf), (35, m_s), (36, m_aside)]) (gm B [])) Af s.heap H locs := hW
    refine lv_istore (lv' := [(6, .int y2), (5, .int (m_s 1)), (0, .ref (ad 0)), (2, .int v2), (3, .int v3), (4, .int v4)]) C0.1 C0.2.1 dX9_winters_95 hl (by decide) rfl (fun ls hl => ?_)
    refine lv_aload_n C0.1 C0.2.1 dX9_winters_97 rfl (lv_at hl 2 rfl) ?_
    refine s_get (v := .ref (ad 36)) C0 hK hW 0 48 LY_X9_0 rfl fg_X9_117 rfl dX9_winters_98 ?_
    refine lv_iconst (v := 0) C0.1 C0.2.1 dX9_winters_101 kI_0 ?_
    refine lv_aload_n C0.1 C0.2.1 dX9_winters_102 rfl (lv_at hl 2 rfl) ?_
    refine s_get (v := .ref (ad 35)) C0 hK hW 0 47 LY_X9_0 rfl fg_X9_114 rfl dX9_winters_103 ?_
    refine lv_iconst (v := 0) C0.1 C0.2.1 dX9_winters_106 kI_0 ?_
    obtain ⟨y3, hy3, hf⟩ := b_some hf
    refine c_Sv C0 hK hN hl.1 hW hA (KX9_copies l D cy 13 13 (fun q => ad (pl_LY_X9_LY_aIaI_36_35.getD q 0)) (fun q => P (pl_LY_X9_LY_aIaI_36_35.getD q 0)) (fun q => Vx LY_X9 ad V (pl_LY_X9_LY_aIaI_36_35.getD q 0)) (fun q => gp I [(0, 0, m_thrown)] (pl_LY_X9_LY_aIaI_36_35.getD q 0)) (fun q => gp J [(0, 61, m_g)] (pl_LY_X9_LY_aIaI_36_35.getD q 0)) (fun q => gm A [(18, m_kept), (19, m_keptBy), (20, m_ahead), (21, m_against), (22, m_sum), (23, m_sumBy), (24, m_term), (25, m_termBy), (26, m_byNot), (27, m_valueOf), (35, m_s), (36, m_aside)] (pl_LY_X9_LY_aIaI_36_35.getD q 0)) (fun q => gm B [] (pl_LY_X9_LY_aIaI_36_35.getD q 0)) 0 0 hy3) (JN_subC (pl := pl_LY_X9_LY_aIaI_36_35) sb_LY_X9_LY_aIaI_36_35 rfl rfl rfl rfl rfl rfl rfl rfl rfl) ⟨uw_1495, uw_1496, uw_14, uw_1497⟩ rfl rfl hd_X9_copies ⟨rfl, rfl⟩ rfl rfl rfl dX9_winters_107 ⟨Nat.zero_le _, Nat.zero_le _⟩ (fun H locs hW => ?_)
    have hW : wd D (dn cy LY_X9 ad P V (gp I [(0, 0, m_thrown)]) (gp J [(0, 61, m_g)]) (gm A [(18, m_kept), (19, m_keptBy), (20, m_ahead), (21, m_against), (22, m_sum), (23, m_sumBy), (24, m_term), (25, m_termBy), (26, m_byNot), (27, m_valueOf), (35, y3), (36, m_aside)]) (gm B [])) Af s.heap H locs := hW
    refine lv_iload_n C0.1 C0.2.1 dX9_winters_110 rfl (lv_at hl 4 rfl) ?_
    refine lv_if_ne (tgt := 119) C0.1 C0.2.1 dX9_winters_111 (by decide) (fun hc4 => ?_) (fun hc4 => ?_)
    · have hf := ite_f hc4 hf
      refine lv_iload_n C0.1 C0.2.1 dX9_winters_119 rfl (lv_at hl 4 rfl) ?_
      refine lv_iconst (v := 1) C0.1 C0.2.1 dX9_winters_120 kI_1 ?_
      refine lv_icmp_ne (tgt := 129) C0.1 C0.2.1 dX9_winters_121 (by decide) (fun hc5 => ?_) (fun hc5 => ?_)
      · have hf := ite_f hc5 hf
        refine lv_iload C0.1 C0.2.1 dX9_winters_129 (lv_at hl 0 rfl) ?_
        obtain rfl := Option.some.inj hf
        exact r_int C0 hK hW dX9_winters_131
      · have hf := ite_t hc5 hf
        refine lv_iload C0.1 C0.2.1 dX9_winters_124 (lv_at hl 1 rfl) ?_
        refine lv_goto (tgt := 131) C0.1 C0.2.1 dX9_winters_126 (by decide) ?_
        obtain rfl := Option.some.inj hf
        exact r_int C0 hK hW dX9_winters_131
    · have hf := ite_t hc4 hf
      refine lv_iload C0.1 C0.2.1 dX9_winters_114 (lv_at hl 5 rfl) ?_
      refine lv_goto (tgt := 131) C0.1 C0.2.1 dX9_winters_116 (by decide) ?_
      obtain rfl := Option.some.inj hf
      exact r_int C0 hK hW dX9_winters_131
  · have hf := ite_f hc1 hf
    refine lv_iload C0.1 C0.2.1 dX9_winters_68 (lv_at hl 3 rfl) ?_
    refine lv_aload_n C0.1 C0.2.1 dX9_winters_70 rfl (lv_at hl 0 rfl) ?_
    obtain ⟨y6, hy6, hf⟩ := b_some hf
    refine c_Vi C0 hK hN hl.1 hW hA (KX9_livesDay l D cy  ad P V (gp I [(0, 0, m_thrown)]) (gp J [(0, 61, m_g)]) (gm A [(18, m_kept), (19, m_keptBy), (20, m_ahead), (21, m_against), (22, m_sum), (23, m_sumBy), (24, m_term), (25, m_termBy), (26, m_byNot), (27, m_valueOf), (35, m_s), (36, m_aside)]) (gm B [])  hy6) (JN_id rfl rfl rfl rfl) (Uw_V uw_1636 uw_1638 us_94 uw_14 uw_1639) rfl rfl hd_X9_livesDay ⟨rfl, rfl⟩ rfl (dn_some LY_X9_0) rfl rfl rfl dX9_winters_71 ⟨Nat.zero_le _, Nat.zero_le _⟩ (fun H locs hW => ?_)
    have hW : wd D (dn cy LY_X9 ad P V (gp I [(0, 0, m_thrown)]) (gp J [(0, 61, y6.2.1)]) (gm A [(18, y6.2.2.1), (19, y6.2.2.2.1), (20, y6.2.2.2.2.1), (21, y6.2.2.2.2.2.1), (22, y6.2.2.2.2.2.2.1), (23, y6.2.2.2.2.2.2.2.1), (24, y6.2.2.2.2.2.2.2.2.1), (25, y6.2.2.2.2.2.2.2.2.2.1), (26, y6.2.2.2.2.2.2.2.2.2.2.1), (27, y6.2.2.2.2.2.2.2.2.2.2.2.1), (35, y6.2.2.2.2.2.2.2.2.2.2.2.2), (36, m_aside)]) (gm B [])) Af s.heap H locs := hW
    refine lv_iadd C0.1 C0.2.1 dX9_winters_74 ?_
    refine lv_istore (lv' := [(4, .int (v4 + y6.1)), (0, .ref (ad 0)), (2, .int v2), (3, .int v3), (5, .int v5)]) C0.1 C0.2.1 dX9_winters_75 hl (by decide) rfl (fun ls hl => ?_)
    refine lv_iinc (v := (v5 + 1)) (lv' := [(5, .int (v5 + 1)), (4, .int (v4 + y6.1)), (0, .ref (ad 0)), (2, .int v2), (3, .int v3)]) C0.1 C0.2.1 dX9_winters_77 hl (k := 4) rfl (congrArg (fun z => _ + z) kI_1) (by decide) rfl (fun ls hl => ?_)
    refine lv_goto (tgt := 62) C0.1 C0.2.1 dX9_winters_80 (by decide) ?_
    exact hk62 m_thrown y6.2.1 y6.2.2.1 y6.2.2.2.1 y6.2.2.2.2.1 y6.2.2.2.2.2.1 y6.2.2.2.2.2.2.1 y6.2.2.2.2.2.2.2.1 y6.2.2.2.2.2.2.2.2.1 y6.2.2.2.2.2.2.2.2.2.1 y6.2.2.2.2.2.2.2.2.2.2.1 y6.2.2.2.2.2.2.2.2.2.2.2.1 y6.2.2.2.2.2.2.2.2.2.2.2.2 m_aside v2 v3 (v4 + y6.1) (v5 + 1) H locs ls hW (lv_sub hl [2, 3, 4, 1, 0] rfl) hf
theorem TX9_winters_62 {p : Program} {l : Launch} {e : Env} {s : State} {m : MethodId} {args : Array Value} {below : List Frame} {meth : Method} {c : Code} {D : va_G} {cy : Nat → ClassId} {ad : Nat → Nat} {P : MP} {V : MV} {I : MI} {J : MJ} {A : MI} {B : MJ} {Af : Nat → Prop} {res : Int32 × Int32 × Int64 × (Nat → Int32) × (Nat → Int32) × (Nat → Int32) × (Nat → Int32) × (Nat → Int32) × (Nat → Int32) × (Nat → Int32) × (Nat → Int32) × (Nat → Int32) × (Nat → Int32) × (Nat → Int32) × (Nat → Int32)} (C0 : CX p s m args meth c cX9_winters 7 (some .int) RX9) (hK : va_K D vwCl (tyG cy) s) (hN : NWs s) (hA : ∀ q, s.heap.size ≤ q → Af q) : ∀ n, SX9_winters_62 p l e s m args below meth c D cy ad P V I J A B Af res (itr (fun kk => fX9_winters_62 (I 0 54) (A 2) (A 5) (A 7) (A 8) (A 9) (A 10) (A 11) (A 12) (A 13) (A 14) (A 15) kk) (fun _ _ _ _ _ _ _ _ _ _ _ _ _ _ _ _ _ _ => none) n) := by
  intro n
  induction n with
  | zero => intro m_thrown m_g m_kept m_keptBy m_ahead m_against m_sum m_sumBy m_term m_termBy m_byNot m_valueOf m_s m_aside v2 v3 v4 v5 H locs ls hW hl hf; exact (nomatch (show (none : Option (Int32 × Int32 × Int64 × (Nat → Int32) × (Nat → Int32) × (Nat → Int32) × (Nat → Int32) × (Nat → Int32) × (Nat → Int32) × (Nat → Int32) × (Nat → Int32) × (Nat → Int32) × (Nat → Int32) × (Nat → Int32) × (Nat → Int32))) = some res from hf))
  | succ n ih => exact tX9_winters_62 C0 hK hN hA  ih
def fX9_winters (m_colder : Int32) (m_terrace : (Nat → Int32)) (m_holeFlag : (Nat → Int32)) (m_burns : (Nat → Int32)) (m_walls : (Nat → Int32)) (m_kind : (Nat → Int32)) (m_guestFlag : (Nat → Int32)) (m_wars : (Nat → Int32)) (m_cold : (Nat → Int32)) (m_lineFrom : (Nat → Int32)) (m_lineTo : (Nat → Int32)) (m_codes : (Nat → Int32)) (m_thrown : Int32) (m_g : Int64) (m_kept : (Nat → Int32)) (m_keptBy : (Nat → Int32)) (m_ahead : (Nat → Int32)) (m_against : (Nat → Int32)) (m_sum : (Nat → Int32)) (m_sumBy : (Nat → Int32)) (m_term : (Nat → Int32)) (m_termBy : (Nat → Int32)) (m_byNot : (Nat → Int32)) (m_valueOf : (Nat → Int32)) (m_s : (Nat → Int32)) (m_aside : (Nat → Int32)) (v1 : Int32) (v2 : Int32) (v3 : Int32) : Option (Int32 × Int32 × Int64 × (Nat → Int32) × (Nat → Int32) × (Nat → Int32) × (Nat → Int32) × (Nat → Int32) × (Nat → Int32) × (Nat → Int32) × (Nat → Int32) × (Nat → Int32) × (Nat → Int32) × (Nat → Int32) × (Nat → Int32)) := Option.bind (fX9_within v1 0 9999) fun y1 => (if y1 = 0 then (some ((-1), 0, m_g, m_kept, m_keptBy, m_ahead, m_against, m_sum, m_sumBy, m_term, m_termBy, m_byNot, m_valueOf, m_s, m_aside)) else (Option.bind (fX9_within v2 1 99) fun y3 => (if y3 = 0 then (some ((-1), 0, m_g, m_kept, m_keptBy, m_ahead, m_against, m_sum, m_sumBy, m_term, m_termBy, m_byNot, m_valueOf, m_s, m_aside)) else (Option.bind (fX9_within v3 0 2) fun y5 => (if y5 = 0 then (some ((-1), 0, m_g, m_kept, m_keptBy, m_ahead, m_against, m_sum, m_sumBy, m_term, m_termBy, m_byNot, m_valueOf, m_s, m_aside)) else (Option.bind (fX9_copies 13 13 m_s m_aside 0 0) fun y7 => (itr (fun kk => fX9_winters_62 m_colder m_terrace m_holeFlag m_burns m_walls m_kind m_guestFlag m_wars m_cold m_lineFrom m_lineTo m_codes kk) (fun _ _ _ _ _ _ _ _ _ _ _ _ _ _ _ _ _ _ => none) FU 0 (Int32.toInt64 v1) m_kept m_keptBy m_ahead m_against m_sum m_sumBy m_term m_termBy m_byNot m_valueOf m_s y7 v2 v3 0 0)))))))
set_option maxHeartbeats 4000000 in
set_option maxRecDepth 100000 in
theorem KX9_winters (l : Launch) (D : va_G) (cy : Nat → ClassId) (ad : Nat → Nat) (P : MP) (V : MV) (I : MI) (J : MJ) (A : MI) (B : MJ) (v1 : Int32) (v2 : Int32) (v3 : Int32) {res : Int32 × Int32 × Int64 × (Nat → Int32) × (Nat → Int32) × (Nat → Int32) × (Nat → Int32) × (Nat → Int32) × (Nat → Int32) × (Nat → Int32) × (Nat → Int32) × (Nat → Int32) × (Nat → Int32) × (Nat → Int32) × (Nat → Int32)} (hf : fX9_winters (I 0 54) (A 2) (A 5) (A 7) (A 8) (A 9) (A 10) (A 11) (A 12) (A 13) (A 14) (A 15) (I 0 0) (J 0 61) (A 18) (A 19) (A 20) (A 21) (A 22) (A 23) (A 24) (A 25) (A 26) (A 27) (A 35) (A 36) v1 v2 v3 = some res) : CG l yX9_winters cX9_winters 7 (some .int) rmX9_winters D cy (dn cy LY_X9 ad P V I J A B) [.ref (ad 0), .int v1, .int v2, .int v3] (some (.int res.1)) (dn cy LY_X9 ad P V (gp I [(0, 0, res.2.1)]) (gp J [(0, 61, res.2.2.1)]) (gm A [(18, res.2.2.2.1), (19, res.2.2.2.2.1), (20, res.2.2.2.2.2.1), (21, res.2.2.2.2.2.2.1), (22, res.2.2.2.2.2.2.2.1), (23, res.2.2.2.2.2.2.2.2.1), (24, res.2.2.2.2.2.2.2.2.2.1), (25, res.2.2.2.2.2.2.2.2.2.2.1), (26, res.2.2.2.2.2.2.2.2.2.2.2.1), (27, res.2.2.2.2.2.2.2.2.2.2.2.2.1), (35, res.2.2.2.2.2.2.2.2.2.2.2.2.2.1), (36, res.2.2.2.2.2.2.2.2.2.2.2.2.2.2)]) (gm B [])) := by
  refine CG.of (own := RX9) (by decide) rfl rfl ?_
  intro p e s m below meth c ls Af C0 hK hN hA hW hl
  have hW : wd D (dn cy LY_X9 ad P V (gp I [(0, 0, (I 0 0))]) (gp J [(0, 61, (J 0 61))]) (gm A [(18, (A 18)), (19, (A 19)), (20, (A 20)), (21, (A 21)), (22, (A 22)), (23, (A 23)), (24, (A 24)), (25, (A 25)), (26, (A 26)), (27, (A 27)), (35, (A 35)), (36, (A 36))]) (gm B [])) Af s.heap s.heap [] := wd_sel [(0, 0)] [(0, 61)] [18, 19, 20, 21, 22, 23, 24, 25, 26, 27, 35, 36] [] hW
  have hl : lv_has ls 7 [(0, .ref (ad 0)), (1, .int v1), (2, .int v2), (3, .int v3)] := hl
  unfold fX9_winters at hf
  refine lv_aload_n C0.1 C0.2.1 dX9_winters_0 rfl (lv_at hl 0 rfl) ?_
  refine lv_iconst (v := 0) C0.1 C0.2.1 dX9_winters_1 kI_0 ?_
  refine s_putI C0 hK hW 0 0 LY_X9_0 rfl fg_X9_142 fp_X9_0 rfl dX9_winters_2 (fun H locs hW => ?_)
  have hW : wd D (dn cy LY_X9 ad P V (gp I [(0, 0, 0)]) (gp J [(0, 61, (J 0 61))]) (gm A [(18, (A 18)), (19, (A 19)), (20, (A 20)), (21, (A 21)), (22, (A 22)), (23, (A 23)), (24, (A 24)), (25, (A 25)), (26, (A 26)), (27, (A 27)), (35, (A 35)), (36, (A 36))]) (gm B [])) Af s.heap H locs := hW
  refine lv_iload_n C0.1 C0.2.1 dX9_winters_5 rfl (lv_at hl 1 rfl) ?_
  refine lv_iconst (v := 0) C0.1 C0.2.1 dX9_winters_6 kI_0 ?_
  refine lv_sipush (v := 9999) C0.1 C0.2.1 dX9_winters_7 kS_9999 ?_
  obtain ⟨y1, hy1, hf⟩ := b_some hf
  refine c_Si C0 hK hN hl.1 hW hA (KX9_within l D cy  (fun q => ad (pl_LY_X9_LY_0_.getD q 0)) (fun q => P (pl_LY_X9_LY_0_.getD q 0)) (fun q => Vx LY_X9 ad V (pl_LY_X9_LY_0_.getD q 0)) (fun q => gp I [(0, 0, 0)] (pl_LY_X9_LY_0_.getD q 0)) (fun q => gp J [(0, 61, (J 0 61))] (pl_LY_X9_LY_0_.getD q 0)) (fun q => gm A [(18, (A 18)), (19, (A 19)), (20, (A 20)), (21, (A 21)), (22, (A 22)), (23, (A 23)), (24, (A 24)), (25, (A 25)), (26, (A 26)), (27, (A 27)), (35, (A 35)), (36, (A 36))] (pl_LY_X9_LY_0_.getD q 0)) (fun q => gm B [] (pl_LY_X9_LY_0_.getD q 0)) v1 0 9999 hy1) (JN_subC (pl := pl_LY_X9_LY_0_) sb_LY_X9_LY_0_ rfl rfl rfl rfl rfl rfl rfl rfl rfl) ⟨uw_1331, uw_1332, uw_14, uw_1333⟩ rfl rfl hd_X9_within ⟨rfl, rfl⟩ rfl rfl rfl dX9_winters_10 ⟨Nat.zero_le _, Nat.zero_le _⟩ (fun H locs hW => ?_)
  have hW : wd D (dn cy LY_X9 ad P V (gp I [(0, 0, 0)]) (gp J [(0, 61, (J 0 61))]) (gm A [(18, (A 18)), (19, (A 19)), (20, (A 20)), (21, (A 21)), (22, (A 22)), (23, (A 23)), (24, (A 24)), (25, (A 25)), (26, (A 26)), (27, (A 27)), (35, (A 35)), (36, (A 36))]) (gm B [])) Af s.heap H locs := hW
  refine lv_if_eq (tgt := 35) C0.1 C0.2.1 dX9_winters_13 (by decide) (fun hc2 => ?_) (fun hc2 => ?_)
  · have hf := ite_t hc2 hf
    refine lv_iconst (v := (-1)) C0.1 C0.2.1 dX9_winters_35 kI_m1 ?_
    obtain rfl := Option.some.inj hf
    exact r_int C0 hK hW dX9_winters_36
  · have hf := ite_f hc2 hf
    refine lv_iload_n C0.1 C0.2.1 dX9_winters_16 rfl (lv_at hl 2 rfl) ?_
    refine lv_iconst (v := 1) C0.1 C0.2.1 dX9_winters_17 kI_1 ?_
    refine lv_bipush (v := 99) C0.1 C0.2.1 dX9_winters_18 kB_99 ?_
    obtain ⟨y3, hy3, hf⟩ := b_some hf
    refine c_Si C0 hK hN hl.1 hW hA (KX9_within l D cy  (fun q => ad (pl_LY_X9_LY_0_.getD q 0)) (fun q => P (pl_LY_X9_LY_0_.getD q 0)) (fun q => Vx LY_X9 ad V (pl_LY_X9_LY_0_.getD q 0)) (fun q => gp I [(0, 0, 0)] (pl_LY_X9_LY_0_.getD q 0)) (fun q => gp J [(0, 61, (J 0 61))] (pl_LY_X9_LY_0_.getD q 0)) (fun q => gm A [(18, (A 18)), (19, (A 19)), (20, (A 20)), (21, (A 21)), (22, (A 22)), (23, (A 23)), (24, (A 24)), (25, (A 25)), (26, (A 26)), (27, (A 27)), (35, (A 35)), (36, (A 36))] (pl_LY_X9_LY_0_.getD q 0)) (fun q => gm B [] (pl_LY_X9_LY_0_.getD q 0)) v2 1 99 hy3) (JN_subC (pl := pl_LY_X9_LY_0_) sb_LY_X9_LY_0_ rfl rfl rfl rfl rfl rfl rfl rfl rfl) ⟨uw_1331, uw_1332, uw_14, uw_1333⟩ rfl rfl hd_X9_within ⟨rfl, rfl⟩ rfl rfl rfl dX9_winters_20 ⟨Nat.zero_le _, Nat.zero_le _⟩ (fun H locs hW => ?_)
    have hW : wd D (dn cy LY_X9 ad P V (gp I [(0, 0, 0)]) (gp J [(0, 61, (J 0 61))]) (gm A [(18, (A 18)), (19, (A 19)), (20, (A 20)), (21, (A 21)), (22, (A 22)), (23, (A 23)), (24, (A 24)), (25, (A 25)), (26, (A 26)), (27, (A 27)), (35, (A 35)), (36, (A 36))]) (gm B [])) Af s.heap H locs := hW
    refine lv_if_eq (tgt := 35) C0.1 C0.2.1 dX9_winters_23 (by decide) (fun hc4 => ?_) (fun hc4 => ?_)
    · have hf := ite_t hc4 hf
      refine lv_iconst (v := (-1)) C0.1 C0.2.1 dX9_winters_35 kI_m1 ?_
      obtain rfl := Option.some.inj hf
      exact r_int C0 hK hW dX9_winters_36
    · have hf := ite_f hc4 hf
      refine lv_iload_n C0.1 C0.2.1 dX9_winters_26 rfl (lv_at hl 3 rfl) ?_
      refine lv_iconst (v := 0) C0.1 C0.2.1 dX9_winters_27 kI_0 ?_
      refine lv_iconst (v := 2) C0.1 C0.2.1 dX9_winters_28 kI_2 ?_
      obtain ⟨y5, hy5, hf⟩ := b_some hf
      refine c_Si C0 hK hN hl.1 hW hA (KX9_within l D cy  (fun q => ad (pl_LY_X9_LY_0_.getD q 0)) (fun q => P (pl_LY_X9_LY_0_.getD q 0)) (fun q => Vx LY_X9 ad V (pl_LY_X9_LY_0_.getD q 0)) (fun q => gp I [(0, 0, 0)] (pl_LY_X9_LY_0_.getD q 0)) (fun q => gp J [(0, 61, (J 0 61))] (pl_LY_X9_LY_0_.getD q 0)) (fun q => gm A [(18, (A 18)), (19, (A 19)), (20, (A 20)), (21, (A 21)), (22, (A 22)), (23, (A 23)), (24, (A 24)), (25, (A 25)), (26, (A 26)), (27, (A 27)), (35, (A 35)), (36, (A 36))] (pl_LY_X9_LY_0_.getD q 0)) (fun q => gm B [] (pl_LY_X9_LY_0_.getD q 0)) v3 0 2 hy5) (JN_subC (pl := pl_LY_X9_LY_0_) sb_LY_X9_LY_0_ rfl rfl rfl rfl rfl rfl rfl rfl rfl) ⟨uw_1331, uw_1332, uw_14, uw_1333⟩ rfl rfl hd_X9_within ⟨rfl, rfl⟩ rfl rfl rfl dX9_winters_29 ⟨Nat.zero_le _, Nat.zero_le _⟩ (fun H locs hW => ?_)
      have hW : wd D (dn cy LY_X9 ad P V (gp I [(0, 0, 0)]) (gp J [(0, 61, (J 0 61))]) (gm A [(18, (A 18)), (19, (A 19)), (20, (A 20)), (21, (A 21)), (22, (A 22)), (23, (A 23)), (24, (A 24)), (25, (A 25)), (26, (A 26)), (27, (A 27)), (35, (A 35)), (36, (A 36))]) (gm B [])) Af s.heap H locs := hW
      refine lv_if_ne (tgt := 37) C0.1 C0.2.1 dX9_winters_32 (by decide) (fun hc6 => ?_) (fun hc6 => ?_)
      · have hf := ite_f hc6 hf
        refine lv_aload_n C0.1 C0.2.1 dX9_winters_37 rfl (lv_at hl 0 rfl) ?_
        refine lv_iload_n C0.1 C0.2.1 dX9_winters_38 rfl (lv_at hl 1 rfl) ?_
        refine lv_i2l (v := (Int32.toInt64 v1)) C0.1 C0.2.1 dX9_winters_39 rfl ?_
        refine s_putJ C0 hK hW 0 61 LY_X9_0 rfl fg_X9_478 fp_X9_61 rfl dX9_winters_40 (fun H locs hW => ?_)
        have hW : wd D (dn cy LY_X9 ad P V (gp I [(0, 0, 0)]) (gp J [(0, 61, (Int32.toInt64 v1))]) (gm A [(18, (A 18)), (19, (A 19)), (20, (A 20)), (21, (A 21)), (22, (A 22)), (23, (A 23)), (24, (A 24)), (25, (A 25)), (26, (A 26)), (27, (A 27)), (35, (A 35)), (36, (A 36))]) (gm B [])) Af s.heap H locs := hW
        refine lv_aload_n C0.1 C0.2.1 dX9_winters_43 rfl (lv_at hl 0 rfl) ?_
        refine s_get (v := .ref (ad 35)) C0 hK hW 0 47 LY_X9_0 rfl fg_X9_114 rfl dX9_winters_44 ?_
        refine lv_iconst (v := 0) C0.1 C0.2.1 dX9_winters_47 kI_0 ?_
        refine lv_aload_n C0.1 C0.2.1 dX9_winters_48 rfl (lv_at hl 0 rfl) ?_
        refine s_get (v := .ref (ad 36)) C0 hK hW 0 48 LY_X9_0 rfl fg_X9_117 rfl dX9_winters_49 ?_
        refine lv_iconst (v := 0) C0.1 C0.2.1 dX9_winters_52 kI_0 ?_
        obtain ⟨y7, hy7, hf⟩ := b_some hf
        refine c_Sv C0 hK hN hl.1 hW hA (KX9_copies l D cy 13 13 (fun q => ad (pl_LY_X9_LY_aIaI_35_36.getD q 0)) (fun q => P (pl_LY_X9_LY_aIaI_35_36.getD q 0)) (fun q => Vx LY_X9 ad V (pl_LY_X9_LY_aIaI_35_36.getD q 0)) (fun q => gp I [(0, 0, 0)] (pl_LY_X9_LY_aIaI_35_36.getD q 0)) (fun q => gp J [(0, 61, (Int32.toInt64 v1))] (pl_LY_X9_LY_aIaI_35_36.getD q 0)) (fun q => gm A [(18, (A 18)), (19, (A 19)), (20, (A 20)), (21, (A 21)), (22, (A 22)), (23, (A 23)), (24, (A 24)), (25, (A 25)), (26, (A 26)), (27, (A 27)), (35, (A 35)), (36, (A 36))] (pl_LY_X9_LY_aIaI_35_36.getD q 0)) (fun q => gm B [] (pl_LY_X9_LY_aIaI_35_36.getD q 0)) 0 0 hy7) (JN_subC (pl := pl_LY_X9_LY_aIaI_35_36) sb_LY_X9_LY_aIaI_35_36 rfl rfl rfl rfl rfl rfl rfl rfl rfl) ⟨uw_1495, uw_1496, uw_14, uw_1497⟩ rfl rfl hd_X9_copies ⟨rfl, rfl⟩ rfl rfl rfl dX9_winters_53 ⟨Nat.zero_le _, Nat.zero_le _⟩ (fun H locs hW => ?_)
        have hW : wd D (dn cy LY_X9 ad P V (gp I [(0, 0, 0)]) (gp J [(0, 61, (Int32.toInt64 v1))]) (gm A [(18, (A 18)), (19, (A 19)), (20, (A 20)), (21, (A 21)), (22, (A 22)), (23, (A 23)), (24, (A 24)), (25, (A 25)), (26, (A 26)), (27, (A 27)), (35, (A 35)), (36, y7)]) (gm B [])) Af s.heap H locs := hW
        refine lv_iconst (v := 0) C0.1 C0.2.1 dX9_winters_56 kI_0 ?_
        refine lv_istore (lv' := [(4, .int 0), (0, .ref (ad 0)), (1, .int v1), (2, .int v2), (3, .int v3)]) C0.1 C0.2.1 dX9_winters_57 hl (by decide) rfl (fun ls hl => ?_)
        refine lv_iconst (v := 0) C0.1 C0.2.1 dX9_winters_59 kI_0 ?_
        refine lv_istore (lv' := [(5, .int 0), (4, .int 0), (0, .ref (ad 0)), (1, .int v1), (2, .int v2), (3, .int v3)]) C0.1 C0.2.1 dX9_winters_60 hl (by decide) rfl (fun ls hl => ?_)
        exact TX9_winters_62 C0 hK hN hA  FU 0 (Int32.toInt64 v1) (A 18) (A 19) (A 20) (A 21) (A 22) (A 23) (A 24) (A 25) (A 26) (A 27) (A 35) y7 v2 v3 0 0 _ _ ls hW (lv_sub hl [2, 4, 5, 1, 0] rfl) hf
      · have hf := ite_t hc6 hf
        refine lv_iconst (v := (-1)) C0.1 C0.2.1 dX9_winters_35 kI_m1 ?_
        obtain rfl := Option.some.inj hf
        exact r_int C0 hK hW dX9_winters_36
