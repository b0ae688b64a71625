-- X2_isLodged
def rmX2_isLodged : Room := { frames := 1, cells := 0, slots := 0, locals := 21 }
def fX2_isLodged (d_street : Int32) (v1 : Int32) : Option (Int32) := if ((d_street >>> (v1 &&& 31)) &&& 1) = 0 then (some (0)) else (some (1))
set_option maxHeartbeats 4000000 in
set_option maxRecDepth 100000 in
theorem KX2_isLodged (l : Launch) (D : va_G) (cy : Nat → ClassId) (ad : Nat → Nat) (P : MP) (V : MV) (I : MI) (J : MJ) (A : MI) (B : MJ) (v1 : Int32) {res : Int32} (hf : fX2_isLodged (I 0 3) v1 = some res) : CG l yX2_isLodged cX2_isLodged 2 (some .boolean) rmX2_isLodged D cy (dn cy LY_X2 ad P V I J A B) [.ref (ad 0), .int v1] (some (.int res)) (dn cy LY_X2 ad P V (gp I []) (gp J []) (gm A []) (gm B [])) := by
  refine CG.of (own := RX2) (by decide) rfl rfl ?_
  intro p e s m below meth c ls Af C0 hK hN hA hW hl
  have hW : wd D (dn cy LY_X2 ad P V (gp I []) (gp J []) (gm A []) (gm B [])) Af s.heap s.heap [] := wd_sel [] [] [] [] hW
  have hl : lv_has ls 2 [(0, .ref (ad 0)), (1, .int v1)] := hl
  unfold fX2_isLodged at hf
  refine lv_aload_n C0.1 C0.2.1 dX2_isLodged_0 rfl (lv_at hl 0 rfl) ?_
  refine s_get (v := .int (I 0 3)) C0 hK hW 0 3 LY_X2_0 rfl fg_X2_30 rfl dX2_isLodged_1 ?_
  refine lv_iload_n C0.1 C0.2.1 dX2_isLodged_4 rfl (lv_at hl 1 rfl) ?_
  refine lv_ishr C0.1 C0.2.1 dX2_isLodged_5 ?_
  refine lv_iconst (v := 1) C0.1 C0.2.1 dX2_isLodged_6 kI_1 ?_
  refine lv_iand C0.1 C0.2.1 dX2_isLodged_7 ?_
  refine lv_if_eq (tgt := 15) C0.1 C0.2.1 dX2_isLodged_8 (by decide) (fun hc1 => ?_) (fun hc1 => ?_)
  · have hf := ite_t hc1 hf
    refine lv_iconst (v := 0) C0.1 C0.2.1 dX2_isLodged_15 kI_0 ?_
    obtain rfl := Option.some.inj hf
    exact r_bool C0 hK hW (v' := 0) rfl dX2_isLodged_16
  · have hf := ite_f hc1 hf
    refine lv_iconst (v := 1) C0.1 C0.2.1 dX2_isLodged_11 kI_1 ?_
    refine lv_goto (tgt := 16) C0.1 C0.2.1 dX2_isLodged_12 (by decide) ?_
    obtain rfl := Option.some.inj hf
    exact r_bool C0 hK hW (v' := 1) rfl dX2_isLodged_16
-- X2_costOf
def rmX2_costOf : Room := { frames := 1, cells := 0, slots := 0, locals := 21 }
def SX2_costOf_34 (p : Program) (l : Launch) (e : Env) (s : State) (m : MethodId) (args : Array Value) (below : List Frame) (meth : Method) (c : Code) (D : va_G) (cy : Nat → ClassId) (ad : Nat → Nat) (P : MP) (V : MV) (I : MI) (J : MJ) (A : MI) (B : MJ) (Af : Nat → Prop) (res : Int32) (k : Int32 → Option (Int32)) : Prop := ∀ (v4 : Int32) (H : Heap) (locs : List Loc) (ls : Array Slot), wd D (dn cy LY_X2X6 ad P V (gp I []) (gp J []) (gm A []) (gm B [])) Af s.heap H locs → lv_has ls 5 [(4, .int v4)] → k v4 = some res → W p l e rmX2_costOf s m args below meth c H locs 0 0 (ZQ below D cy (dn cy LY_X2X6 ad P V (gp I []) (gp J []) (gm A []) (gm B [])) (some (.int res)) Af args s) (F0 m 34 ls [])
def fX2_costOf_34 (d_lasting : Int32) (t_kinds : (Nat → Int32)) (v4 : Int32) : Option (Int32) := if v4 = 144 then (some (17)) else (some (1))
set_option maxHeartbeats 4000000 in
set_option maxRecDepth 100000 in
theorem tX2_costOf_34 {p : Program} {l : Launch} {e : Env} {s : State} {m : MethodId} {args : Array Value} {below : List Frame} {meth : Method} {c : Code} {D : va_G} {cy : Nat → ClassId} {ad : Nat → Nat} {P : MP} {V : MV} {I : MI} {J : MJ} {A : MI} {B : MJ} {Af : Nat → Prop} {res : Int32} (C0 : CX p s m args meth c cX2_costOf 5 (some .int) RX2) (hK : va_K D vwCl (tyG cy) s) (hN : NWs s) (hA : ∀ q, s.heap.size ≤ q → Af q) : SX2_costOf_34 p l e s m args below meth c D cy ad P V I J A B Af res (fX2_costOf_34 (I 0 4) (A 14)) := by
  intro v4 H locs ls hW hl hf
  unfold fX2_costOf_34 at hf
  refine lv_iload C0.1 C0.2.1 dX2_costOf_34 (lv_at hl 0 rfl) ?_
  refine lv_sipush (v := 144) C0.1 C0.2.1 dX2_costOf_36 kS_144 ?_
  refine lv_icmp_ne (tgt := 47) C0.1 C0.2.1 dX2_costOf_39 (by decide) (fun hc1 => ?_) (fun hc1 => ?_)
  · have hf := ite_f hc1 hf
    refine lv_iconst (v := 1) C0.1 C0.2.1 dX2_costOf_47 kI_1 ?_
    obtain rfl := Option.some.inj hf
    exact r_int C0 hK hW dX2_costOf_48
  · have hf := ite_t hc1 hf
    refine lv_bipush (v := 17) C0.1 C0.2.1 dX2_costOf_42 kB_17 ?_
    refine lv_goto (tgt := 48) C0.1 C0.2.1 dX2_costOf_44 (by decide) ?_
    obtain rfl := Option.some.inj hf
    exact r_int C0 hK hW dX2_costOf_48
def fX2_costOf (d_lasting : Int32) (t_kinds : (Nat → Int32)) (v2 : Int32) (v3 : Int32) : Option (Int32) := bif inb v2 5 then (if v3 = (-1) then (fX2_costOf_34 d_lasting t_kinds (t_kinds (Int32.toNatClampNeg v2))) else (if (t_kinds (Int32.toNatClampNeg v2)) = 146 then (some (0)) else (if ((d_lasting >>> (v3 &&& 31)) &&& 1) = 0 then (fX2_costOf_34 d_lasting t_kinds (t_kinds (Int32.toNatClampNeg v2))) else (some (0))))) else none
set_option maxHeartbeats 4000000 in
set_option maxRecDepth 100000 in
theorem KX2_costOf (l : Launch) (D : va_G) (cy : Nat → ClassId) (ad : Nat → Nat) (P : MP) (V : MV) (I : MI) (J : MJ) (A : MI) (B : MJ) (v2 : Int32) (v3 : Int32) {res : Int32} (hf : fX2_costOf (I 0 4) (A 14) v2 v3 = some res) : CG l yX2_costOf cX2_costOf 5 (some .int) rmX2_costOf D cy (dn cy LY_X2X6 ad P V I J A B) [.ref (ad 0), .ref (ad 5), .int v2, .int v3] (some (.int res)) (dn cy LY_X2X6 ad P V (gp I []) (gp J []) (gm A []) (gm B [])) := by
  refine CG.of (own := RX2) (by decide) rfl rfl ?_
  intro p e s m below meth c ls Af C0 hK hN hA hW hl
  have hW : wd D (dn cy LY_X2X6 ad P V (gp I []) (gp J []) (gm A []) (gm B [])) Af s.heap s.heap [] := wd_sel [] [] [] [] hW
  have hl : lv_has ls 5 [(0, .ref (ad 0)), (1, .ref (ad 5)), (2, .int v2), (3, .int v3)] := hl
  unfold fX2_costOf at hf
  refine lv_aload_n C0.1 C0.2.1 dX2_costOf_0 rfl (lv_at hl 1 rfl) ?_
  refine s_get (v := .ref (ad 14)) C0 hK hW 5 9 LY_X2X6_5 rfl fg_X2_95 rfl dX2_costOf_1 ?_
  refine lv_iload_n C0.1 C0.2.1 dX2_costOf_4 rfl (lv_at hl 2 rfl) ?_
  obtain ⟨hb1, hf⟩ := g_some hf
  refine s_iald (v := ((A 14) (Int32.toNatClampNeg v2))) C0 hK hW 14 LY_X2X6_14 hb1 rfl dX2_costOf_5 ?_
  refine lv_istore (lv' := [(4, .int ((A 14) (Int32.toNatClampNeg v2))), (0, .ref (ad 0)), (1, .ref (ad 5)), (2, .int v2), (3, .int v3)]) C0.1 C0.2.1 dX2_costOf_6 hl (by decide) rfl (fun ls hl => ?_)
  refine lv_iload_n C0.1 C0.2.1 dX2_costOf_8 rfl (lv_at hl 4 rfl) ?_
  refine lv_iconst (v := (-1)) C0.1 C0.2.1 dX2_costOf_9 kI_m1 ?_
  refine lv_icmp_eq (tgt := 34) C0.1 C0.2.1 dX2_costOf_10 (by decide) (fun hc2 => ?_) (fun hc2 => ?_)
  · have hf := ite_t hc2 hf
    exact tX2_costOf_34 C0 hK hN hA  ((A 14) (Int32.toNatClampNeg v2)) _ _ ls hW (lv_sub hl [0] rfl) hf
  · have hf := ite_f hc2 hf
    refine lv_iload C0.1 C0.2.1 dX2_costOf_13 (lv_at hl 0 rfl) ?_
    refine lv_sipush (v := 146) C0.1 C0.2.1 dX2_costOf_15 kS_146 ?_
    refine lv_icmp_eq (tgt := 32) C0.1 C0.2.1 dX2_costOf_18 (by decide) (fun hc3 => ?_) (fun hc3 => ?_)
    · have hf := ite_t hc3 hf
      refine lv_iconst (v := 0) C0.1 C0.2.1 dX2_costOf_32 kI_0 ?_
      obtain rfl := Option.some.inj hf
      exact r_int C0 hK hW dX2_costOf_33
    · have hf := ite_f hc3 hf
      refine lv_aload_n C0.1 C0.2.1 dX2_costOf_21 rfl (lv_at hl 1 rfl) ?_
      refine s_get (v := .int (I 0 4)) C0 hK hW 0 4 LY_X2X6_0 rfl fg_X2_47 rfl dX2_costOf_22 ?_
      refine lv_iload_n C0.1 C0.2.1 dX2_costOf_25 rfl (lv_at hl 4 rfl) ?_
      refine lv_ishr C0.1 C0.2.1 dX2_costOf_26 ?_
      refine lv_iconst (v := 1) C0.1 C0.2.1 dX2_costOf_27 kI_1 ?_
      refine lv_iand C0.1 C0.2.1 dX2_costOf_28 ?_
      refine lv_if_eq (tgt := 34) C0.1 C0.2.1 dX2_costOf_29 (by decide) (fun hc4 => ?_) (fun hc4 => ?_)
      · have hf := ite_t hc4 hf
        exact tX2_costOf_34 C0 hK hN hA  ((A 14) (Int32.toNatClampNeg v2)) _ _ ls hW (lv_sub hl [0] rfl) hf
      · have hf := ite_f hc4 hf
        refine lv_iconst (v := 0) C0.1 C0.2.1 dX2_costOf_32 kI_0 ?_
        obtain rfl := Option.some.inj hf
        exact r_int C0 hK hW dX2_costOf_33
-- J6_bitCount_0f7a4
def rmJ6_bitCount_0f7a4 : Room := { frames := 1, cells := 0, slots := 0, locals := 21 }
def fJ6_bitCount_0f7a4 (v0 : Int32) : Option (Int32) := some (((((((((v0 - ((iush v0 1) &&& 1431655765)) &&& 858993459) + ((iush (v0 - ((iush v0 1) &&& 1431655765)) 2) &&& 858993459)) + (iush (((v0 - ((iush v0 1) &&& 1431655765)) &&& 858993459) + ((iush (v0 - ((iush v0 1) &&& 1431655765)) 2) &&& 858993459)) 4)) &&& 252645135) + (iush (((((v0 - ((iush v0 1) &&& 1431655765)) &&& 858993459) + ((iush (v0 - ((iush v0 1) &&& 1431655765)) 2) &&& 858993459)) + (iush (((v0 - ((iush v0 1) &&& 1431655765)) &&& 858993459) + ((iush (v0 - ((iush v0 1) &&& 1431655765)) 2) &&& 858993459)) 4)) &&& 252645135) 8)) + (iush ((((((v0 - ((iush v0 1) &&& 1431655765)) &&& 858993459) + ((iush (v0 - ((iush v0 1) &&& 1431655765)) 2) &&& 858993459)) + (iush (((v0 - ((iush v0 1) &&& 1431655765)) &&& 858993459) + ((iush (v0 - ((iush v0 1) &&& 1431655765)) 2) &&& 858993459)) 4)) &&& 252645135) + (iush (((((v0 - ((iush v0 1) &&& 1431655765)) &&& 858993459) + ((iush (v0 - ((iush v0 1) &&& 1431655765)) 2) &&& 858993459)) + (iush (((v0 - ((iush v0 1) &&& 1431655765)) &&& 858993459) + ((iush (v0 - ((iush v0 1) &&& 1431655765)) 2) &&& 858993459)) 4)) &&& 252645135) 8)) 16)) &&& 63))
set_option maxHeartbeats 4000000 in
set_option maxRecDepth 100000 in
theorem KJ6_bitCount_0f7a4 (l : Launch) (D : va_G) (cy : Nat → ClassId) (ad : Nat → Nat) (P : MP) (V : MV) (I : MI) (J : MJ) (A : MI) (B : MJ) (v0 : Int32) {res : Int32} (hf : fJ6_bitCount_0f7a4 v0 = some res) : CG l yJ6_bitCount_0f7a4 cJ6_bitCount_0f7a4 1 (some .int) rmJ6_bitCount_0f7a4 D cy (dn cy LY_0 ad P V I J A B) [.int v0] (some (.int res)) (dn cy LY_0 ad P V (gp I []) (gp J []) (gm A []) (gm B [])) := by
  refine CG.of (own := RJ6) (by decide) rfl rfl ?_
  intro p e s m below meth c ls Af C0 hK hN hA hW hl
  have hW : wd D (dn cy LY_0 ad P V (gp I []) (gp J []) (gm A []) (gm B [])) Af s.heap s.heap [] := wd_sel [] [] [] [] hW
  have hl : lv_has ls 1 [(0, .int v0)] := hl
  unfold fJ6_bitCount_0f7a4 at hf
  refine lv_iload_n C0.1 C0.2.1 dJ6_bitCount_0f7a4_0 rfl (lv_at hl 0 rfl) ?_
  refine lv_iload_n C0.1 C0.2.1 dJ6_bitCount_0f7a4_1 rfl (lv_at hl 0 rfl) ?_
  refine lv_iconst (v := 1) C0.1 C0.2.1 dJ6_bitCount_0f7a4_2 kI_1 ?_
  refine lv_iushr (v := (iush v0 1)) C0.1 C0.2.1 dJ6_bitCount_0f7a4_3 rfl ?_
  refine lv_ldcw (v := 1431655765) C0.1 C0.2.1 C0.2.2.2.2.1 (C0.2.2.2.2.2.1 _ uw_646) dJ6_bitCount_0f7a4_4 ?_
  refine lv_iand C0.1 C0.2.1 dJ6_bitCount_0f7a4_7 ?_
  refine lv_isub C0.1 C0.2.1 dJ6_bitCount_0f7a4_8 ?_
  refine lv_istore_n (lv' := [(0, .int (v0 - ((iush v0 1) &&& 1431655765)))]) C0.1 C0.2.1 dJ6_bitCount_0f7a4_9 rfl hl (by decide) rfl (fun ls hl => ?_)
  refine lv_iload_n C0.1 C0.2.1 dJ6_bitCount_0f7a4_10 rfl (lv_at hl 0 rfl) ?_
  refine lv_ldcw (v := 858993459) C0.1 C0.2.1 C0.2.2.2.2.1 (C0.2.2.2.2.2.1 _ uw_647) dJ6_bitCount_0f7a4_11 ?_
  refine lv_iand C0.1 C0.2.1 dJ6_bitCount_0f7a4_14 ?_
  refine lv_iload_n C0.1 C0.2.1 dJ6_bitCount_0f7a4_15 rfl (lv_at hl 0 rfl) ?_
  refine lv_iconst (v := 2) C0.1 C0.2.1 dJ6_bitCount_0f7a4_16 kI_2 ?_
  refine lv_iushr (v := (iush (v0 - ((iush v0 1) &&& 1431655765)) 2)) C0.1 C0.2.1 dJ6_bitCount_0f7a4_17 rfl ?_
  refine lv_ldcw (v := 858993459) C0.1 C0.2.1 C0.2.2.2.2.1 (C0.2.2.2.2.2.1 _ uw_647) dJ6_bitCount_0f7a4_18 ?_
  refine lv_iand C0.1 C0.2.1 dJ6_bitCount_0f7a4_21 ?_
  refine lv_iadd C0.1 C0.2.1 dJ6_bitCount_0f7a4_22 ?_
  refine lv_istore_n (lv' := [(0, .int (((v0 - ((iush v0 1) &&& 1431655765)) &&& 858993459) + ((iush (v0 - ((iush v0 1) &&& 1431655765)) 2) &&& 858993459)))]) C0.1 C0.2.1 dJ6_bitCount_0f7a4_23 rfl hl (by decide) rfl (fun ls hl => ?_)
  refine lv_iload_n C0.1 C0.2.1 dJ6_bitCount_0f7a4_24 rfl (lv_at hl 0 rfl) ?_
  refine lv_iload_n C0.1 C0.2.1 dJ6_bitCount_0f7a4_25 rfl (lv_at hl 0 rfl) ?_
  refine lv_iconst (v := 4) C0.1 C0.2.1 dJ6_bitCount_0f7a4_26 kI_4 ?_
  refine lv_iushr (v := (iush (((v0 - ((iush v0 1) &&& 1431655765)) &&& 858993459) + ((iush (v0 - ((iush v0 1) &&& 1431655765)) 2) &&& 858993459)) 4)) C0.1 C0.2.1 dJ6_bitCount_0f7a4_27 rfl ?_
  refine lv_iadd C0.1 C0.2.1 dJ6_bitCount_0f7a4_28 ?_
  refine lv_ldcw (v := 252645135) C0.1 C0.2.1 C0.2.2.2.2.1 (C0.2.2.2.2.2.1 _ uw_648) dJ6_bitCount_0f7a4_29 ?_
  refine lv_iand C0.1 C0.2.1 dJ6_bitCount_0f7a4_32 ?_
  refine lv_istore_n (lv' := [(0, .int (((((v0 - ((iush v0 1) &&& 1431655765)) &&& 858993459) + ((iush (v0 - ((iush v0 1) &&& 1431655765)) 2) &&& 858993459)) + (iush (((v0 - ((iush v0 1) &&& 1431655765)) &&& 858993459) + ((iush (v0 - ((iush v0 1) &&& 1431655765)) 2) &&& 858993459)) 4)) &&& 252645135))]) C0.1 C0.2.1 dJ6_bitCount_0f7a4_33 rfl hl (by decide) rfl (fun ls hl => ?_)
  refine lv_iload_n C0.1 C0.2.1 dJ6_bitCount_0f7a4_34 rfl (lv_at hl 0 rfl) ?_
  refine lv_iload_n C0.1 C0.2.1 dJ6_bitCount_0f7a4_35 rfl (lv_at hl 0 rfl) ?_
  refine lv_bipush (v := 8) C0.1 C0.2.1 dJ6_bitCount_0f7a4_36 kB_8 ?_
  refine lv_iushr (v := (iush (((((v0 - ((iush v0 1) &&& 1431655765)) &&& 858993459) + ((iush (v0 - ((iush v0 1) &&& 1431655765)) 2) &&& 858993459)) + (iush (((v0 - ((iush v0 1) &&& 1431655765)) &&& 858993459) + ((iush (v0 - ((iush v0 1) &&& 1431655765)) 2) &&& 858993459)) 4)) &&& 252645135) 8)) C0.1 C0.2.1 dJ6_bitCount_0f7a4_38 rfl ?_
  refine lv_iadd C0.1 C0.2.1 dJ6_bitCount_0f7a4_39 ?_
  refine lv_istore_n (lv' := [(0, .int ((((((v0 - ((iush v0 1) &&& 1431655765)) &&& 858993459) + ((iush (v0 - ((iush v0 1) &&& 1431655765)) 2) &&& 858993459)) + (iush (((v0 - ((iush v0 1) &&& 1431655765)) &&& 858993459) + ((iush (v0 - ((iush v0 1) &&& 1431655765)) 2) &&& 858993459)) 4)) &&& 252645135) + (iush (((((v0 - ((iush v0 1) &&& 1431655765)) &&& 858993459) + ((iush (v0 - ((iush v0 1) &&& 1431655765)) 2) &&& 858993459)) + (iush (((v0 - ((iush v0 1) &&& 1431655765)) &&& 858993459) + ((iush (v0 - ((iush v0 1) &&& 1431655765)) 2) &&& 858993459)) 4)) &&& 252645135) 8)))]) C0.1 C0.2.1 dJ6_bitCount_0f7a4_40 rfl hl (by decide) rfl (fun ls hl => ?_)
  refine lv_iload_n C0.1 C0.2.1 dJ6_bitCount_0f7a4_41 rfl (lv_at hl 0 rfl) ?_
  refine lv_iload_n C0.1 C0.2.1 dJ6_bitCount_0f7a4_42 rfl (lv_at hl 0 rfl) ?_
  refine lv_bipush (v := 16) C0.1 C0.2.1 dJ6_bitCount_0f7a4_43 kB_16 ?_
  refine lv_iushr (v := (iush ((((((v0 - ((iush v0 1) &&& 1431655765)) &&& 858993459) + ((iush (v0 - ((iush v0 1) &&& 1431655765)) 2) &&& 858993459)) + (iush (((v0 - ((iush v0 1) &&& 1431655765)) &&& 858993459) + ((iush (v0 - ((iush v0 1) &&& 1431655765)) 2) &&& 858993459)) 4)) &&& 252645135) + (iush (((((v0 - ((iush v0 1) &&& 1431655765)) &&& 858993459) + ((iush (v0 - ((iush v0 1) &&& 1431655765)) 2) &&& 858993459)) + (iush (((v0 - ((iush v0 1) &&& 1431655765)) &&& 858993459) + ((iush (v0 - ((iush v0 1) &&& 1431655765)) 2) &&& 858993459)) 4)) &&& 252645135) 8)) 16)) C0.1 C0.2.1 dJ6_bitCount_0f7a4_45 rfl ?_
  refine lv_iadd C0.1 C0.2.1 dJ6_bitCount_0f7a4_46 ?_
  refine lv_istore_n (lv' := [(0, .int (((((((v0 - ((iush v0 1) &&& 1431655765)) &&& 858993459) + ((iush (v0 - ((iush v0 1) &&& 1431655765)) 2) &&& 858993459)) + (iush (((v0 - ((iush v0 1) &&& 1431655765)) &&& 858993459) + ((iush (v0 - ((iush v0 1) &&& 1431655765)) 2) &&& 858993459)) 4)) &&& 252645135) + (iush (((((v0 - ((iush v0 1) &&& 1431655765)) &&& 858993459) + ((iush (v0 - ((iush v0 1) &&& 1431655765)) 2) &&& 858993459)) + (iush (((v0 - ((iush v0 1) &&& 1431655765)) &&& 858993459) + ((iush (v0 - ((iush v0 1) &&& 1431655765)) 2) &&& 858993459)) 4)) &&& 252645135) 8)) + (iush ((((((v0 - ((iush v0 1) &&& 1431655765)) &&& 858993459) + ((iush (v0 - ((iush v0 1) &&& 1431655765)) 2) &&& 858993459)) + (iush (((v0 - ((iush v0 1) &&& 1431655765)) &&& 858993459) + ((iush (v0 - ((iush v0 1) &&& 1431655765)) 2) &&& 858993459)) 4)) &&& 252645135) + (iush (((((v0 - ((iush v0 1) &&& 1431655765)) &&& 858993459) + ((iush (v0 - ((iush v0 1) &&& 1431655765)) 2) &&& 858993459)) + (iush (((v0 - ((iush v0 1) &&& 1431655765)) &&& 858993459) + ((iush (v0 - ((iush v0 1) &&& 1431655765)) 2) &&& 858993459)) 4)) &&& 252645135) 8)) 16)))]) C0.1 C0.2.1 dJ6_bitCount_0f7a4_47 rfl hl (by decide) rfl (fun ls hl => ?_)
  refine lv_iload_n C0.1 C0.2.1 dJ6_bitCount_0f7a4_48 rfl (lv_at hl 0 rfl) ?_
  refine lv_bipush (v := 63) C0.1 C0.2.1 dJ6_bitCount_0f7a4_49 kB_63 ?_
  refine lv_iand C0.1 C0.2.1 dJ6_bitCount_0f7a4_51 ?_
  obtain rfl := Option.some.inj hf
  exact r_int C0 hK hW dJ6_bitCount_0f7a4_52
-- X2_lawfulFromNow
def rmX2_lawfulFromNow : Room := { frames := 2, cells := 0, slots := 0, locals := 41 }
def SX2_lawfulFromNow_36 (p : Program) (l : Launch) (e : Env) (s : State) (m : MethodId) (args : Array Value) (below : List Frame) (meth : Method) (c : Code) (D : va_G) (cy : Nat → ClassId) (ad : Nat → Nat) (P : MP) (V : MV) (I : MI) (J : MJ) (A : MI) (B : MJ) (Af : Nat → Prop) (res : Int32) (k : Int32 → Int32 → Option (Int32)) : Prop := ∀ (v3 : Int32) (x0 : Int32) (H : Heap) (locs : List Loc) (ls : Array Slot), wd D (dn cy LY_X2X6X4 ad P V (gp I []) (gp J []) (gm A []) (gm B [])) Af s.heap H locs → lv_has ls 6 [(0, .ref (ad 0)), (2, .ref (ad 20)), (3, .int v3)] → k v3 x0 = some res → W p l e rmX2_lawfulFromNow s m args below meth c H locs 0 0 (ZQ below D cy (dn cy LY_X2X6X4 ad P V (gp I []) (gp J []) (gm A []) (gm B [])) (some (.int res)) Af args s) (F0 m 36 ls [.int x0])
def fX2_lawfulFromNow_36 (d_lawful : (Nat → Int32)) (t_holeFlags : (Nat → Int32)) (t_kinds : (Nat → Int32)) (t_guestFlags : (Nat → Int32)) (s_inside : (Nat → Int32)) (v3 : Int32) (x0 : Int32) : Option (Int32) := bif inb ((v3 * 2) + x0) 10 then (bif inb v3 5 then (Option.bind (fJ6_bitCount_0f7a4 (s_inside (Int32.toNatClampNeg v3))) fun y3 => (some (((d_lawful (Int32.toNatClampNeg ((v3 * 2) + x0))) >>> (y3 &&& 31))))) else none) else none
set_option maxHeartbeats 4000000 in
set_option maxRecDepth 100000 in
theorem tX2_lawfulFromNow_36 {p : Program} {l : Launch} {e : Env} {s : State} {m : MethodId} {args : Array Value} {below : List Frame} {meth : Method} {c : Code} {D : va_G} {cy : Nat → ClassId} {ad : Nat → Nat} {P : MP} {V : MV} {I : MI} {J : MJ} {A : MI} {B : MJ} {Af : Nat → Prop} {res : Int32} (C0 : CX p s m args meth c cX2_lawfulFromNow 6 (some .int) RX2) (hK : va_K D vwCl (tyG cy) s) (hN : NWs s) (hA : ∀ q, s.heap.size ≤ q → Af q) : SX2_lawfulFromNow_36 p l e s m args below meth c D cy ad P V I J A B Af res (fX2_lawfulFromNow_36 (A 3) (A 10) (A 14) (A 15) (A 22)) := by
  intro v3 x0 H locs ls hW hl hf
  unfold fX2_lawfulFromNow_36 at hf
  refine lv_istore (lv' := [(5, .int x0), (0, .ref (ad 0)), (2, .ref (ad 20)), (3, .int v3)]) C0.1 C0.2.1 dX2_lawfulFromNow_36 hl (by decide) rfl (fun ls hl => ?_)
  refine lv_aload_n C0.1 C0.2.1 dX2_lawfulFromNow_38 rfl (lv_at hl 1 rfl) ?_
  refine s_get (v := .ref (ad 3)) C0 hK hW 0 2 LY_X2X6X4_0 rfl fg_X2_18 rfl dX2_lawfulFromNow_39 ?_
  refine lv_iload_n C0.1 C0.2.1 dX2_lawfulFromNow_42 rfl (lv_at hl 3 rfl) ?_
  refine lv_iconst (v := 2) C0.1 C0.2.1 dX2_lawfulFromNow_43 kI_2 ?_
  refine lv_imul C0.1 C0.2.1 dX2_lawfulFromNow_44 ?_
  refine lv_iload C0.1 C0.2.1 dX2_lawfulFromNow_45 (lv_at hl 0 rfl) ?_
  refine lv_iadd C0.1 C0.2.1 dX2_lawfulFromNow_47 ?_
  obtain ⟨hb1, hf⟩ := g_some hf
  refine s_iald (v := ((A 3) (Int32.toNatClampNeg ((v3 * 2) + x0)))) C0 hK hW 3 LY_X2X6X4_3 hb1 rfl dX2_lawfulFromNow_48 ?_
  refine lv_aload_n C0.1 C0.2.1 dX2_lawfulFromNow_49 rfl (lv_at hl 2 rfl) ?_
  refine s_get (v := .ref (ad 22)) C0 hK hW 20 1 LY_X2X6X4_20 rfl fg_X2_109 rfl dX2_lawfulFromNow_50 ?_
  refine lv_iload_n C0.1 C0.2.1 dX2_lawfulFromNow_53 rfl (lv_at hl 3 rfl) ?_
  obtain ⟨hb2, hf⟩ := g_some hf
  refine s_iald (v := ((A 22) (Int32.toNatClampNeg v3))) C0 hK hW 22 LY_X2X6X4_22 hb2 rfl dX2_lawfulFromNow_54 ?_
  obtain ⟨y3, hy3, hf⟩ := b_some hf
  refine c_Si C0 hK hN hl.1 hW hA (KJ6_bitCount_0f7a4 l D cy  (fun q => ad (pl_LY_X2X6X4_LY_0_.getD q 0)) (fun q => P (pl_LY_X2X6X4_LY_0_.getD q 0)) (fun q => Vx LY_X2X6X4 ad V (pl_LY_X2X6X4_LY_0_.getD q 0)) (fun q => gp I [] (pl_LY_X2X6X4_LY_0_.getD q 0)) (fun q => gp J [] (pl_LY_X2X6X4_LY_0_.getD q 0)) (fun q => gm A [] (pl_LY_X2X6X4_LY_0_.getD q 0)) (fun q => gm B [] (pl_LY_X2X6X4_LY_0_.getD q 0)) ((A 22) (Int32.toNatClampNeg v3)) hy3) (JN_subC (pl := pl_LY_X2X6X4_LY_0_) sb_LY_X2X6X4_LY_0_ rfl rfl rfl rfl rfl rfl rfl rfl rfl) ⟨uw_846, uw_644, uw_15, uw_645⟩ rfl rfl hd_J6_bitCount_0f7a4 ⟨rfl, rfl⟩ rfl rfl rfl dX2_lawfulFromNow_55 ⟨Nat.zero_le _, Nat.zero_le _⟩ (fun H locs hW => ?_)
  have hW : wd D (dn cy LY_X2X6X4 ad P V (gp I []) (gp J []) (gm A []) (gm B [])) Af s.heap H locs := hW
  refine lv_ishr C0.1 C0.2.1 dX2_lawfulFromNow_58 ?_
  obtain rfl := Option.some.inj hf
  exact r_int C0 hK hW dX2_lawfulFromNow_59
def fX2_lawfulFromNow (d_lawful : (Nat → Int32)) (t_holeFlags : (Nat → Int32)) (t_kinds : (Nat → Int32)) (t_guestFlags : (Nat → Int32)) (s_inside : (Nat → Int32)) (v3 : Int32) (v4 : Int32) : Option (Int32) := bif inb v4 5 then (if (t_kinds (Int32.toNatClampNeg v4)) = 145 then (some (1)) else (bif inb v3 5 then (bif inb v4 5 then (if (t_holeFlags (Int32.toNatClampNeg v3)) = (t_guestFlags (Int32.toNatClampNeg v4)) then (fX2_lawfulFromNow_36 d_lawful t_holeFlags t_kinds t_guestFlags s_inside v3 1) else (fX2_lawfulFromNow_36 d_lawful t_holeFlags t_kinds t_guestFlags s_inside v3 0)) else none) else none)) else none
set_option maxHeartbeats 4000000 in
set_option maxRecDepth 100000 in
theorem KX2_lawfulFromNow (l : Launch) (D : va_G) (cy : Nat → ClassId) (ad : Nat → Nat) (P : MP) (V : MV) (I : MI) (J : MJ) (A : MI) (B : MJ) (v3 : Int32) (v4 : Int32) {res : Int32} (hf : fX2_lawfulFromNow (A 3) (A 10) (A 14) (A 15) (A 22) v3 v4 = some res) : CG l yX2_lawfulFromNow cX2_lawfulFromNow 6 (some .int) rmX2_lawfulFromNow D cy (dn cy LY_X2X6X4 ad P V I J A B) [.ref (ad 0), .ref (ad 5), .ref (ad 20), .int v3, .int v4] (some (.int res)) (dn cy LY_X2X6X4 ad P V (gp I []) (gp J []) (gm A []) (gm B [])) := by
  refine CG.of (own := RX2) (by decide) rfl rfl ?_
  intro p e s m below meth c ls Af C0 hK hN hA hW hl
  have hW : wd D (dn cy LY_X2X6X4 ad P V (gp I []) (gp J []) (gm A []) (gm B [])) Af s.heap s.heap [] := wd_sel [] [] [] [] hW
  have hl : lv_has ls 6 [(0, .ref (ad 0)), (1, .ref (ad 5)), (2, .ref (ad 20)), (3, .int v3), (4, .int v4)] := hl
  unfold fX2_lawfulFromNow at hf
  refine lv_aload_n C0.1 C0.2.1 dX2_lawfulFromNow_0 rfl (lv_at hl 1 rfl) ?_
  refine s_get (v := .ref (ad 14)) C0 hK hW 5 9 LY_X2X6X4_5 rfl fg_X2_95 rfl dX2_lawfulFromNow_1 ?_
  refine lv_iload C0.1 C0.2.1 dX2_lawfulFromNow_4 (lv_at hl 4 rfl) ?_
  obtain ⟨hb1, hf⟩ := g_some hf
  refine s_iald (v := ((A 14) (Int32.toNatClampNeg v4))) C0 hK hW 14 LY_X2X6X4_14 hb1 rfl dX2_lawfulFromNow_6 ?_
  refine lv_sipush (v := 145) C0.1 C0.2.1 dX2_lawfulFromNow_7 kS_145 ?_
  refine lv_icmp_ne (tgt := 15) C0.1 C0.2.1 dX2_lawfulFromNow_10 (by decide) (fun hc2 => ?_) (fun hc2 => ?_)
  · have hf := ite_f hc2 hf
    refine lv_aload_n C0.1 C0.2.1 dX2_lawfulFromNow_15 rfl (lv_at hl 1 rfl) ?_
    refine s_get (v := .ref (ad 10)) C0 hK hW 5 5 LY_X2X6X4_5 rfl fg_X2_88 rfl dX2_lawfulFromNow_16 ?_
    refine lv_iload_n C0.1 C0.2.1 dX2_lawfulFromNow_19 rfl (lv_at hl 3 rfl) ?_
    obtain ⟨hb3, hf⟩ := g_some hf
    refine s_iald (v := ((A 10) (Int32.toNatClampNeg v3))) C0 hK hW 10 LY_X2X6X4_10 hb3 rfl dX2_lawfulFromNow_20 ?_
    refine lv_aload_n C0.1 C0.2.1 dX2_lawfulFromNow_21 rfl (lv_at hl 1 rfl) ?_
    refine s_get (v := .ref (ad 15)) C0 hK hW 5 10 LY_X2X6X4_5 rfl fg_X2_106 rfl dX2_lawfulFromNow_22 ?_
    refine lv_iload C0.1 C0.2.1 dX2_lawfulFromNow_25 (lv_at hl 4 rfl) ?_
    obtain ⟨hb4, hf⟩ := g_some hf
    refine s_iald (v := ((A 15) (Int32.toNatClampNeg v4))) C0 hK hW 15 LY_X2X6X4_15 hb4 rfl dX2_lawfulFromNow_27 ?_
    refine lv_icmp_ne (tgt := 35) C0.1 C0.2.1 dX2_lawfulFromNow_28 (by decide) (fun hc5 => ?_) (fun hc5 => ?_)
    · have hf := ite_f hc5 hf
      refine lv_iconst (v := 0) C0.1 C0.2.1 dX2_lawfulFromNow_35 kI_0 ?_
      exact tX2_lawfulFromNow_36 C0 hK hN hA  v3 0 _ _ ls hW (lv_sub hl [0, 2, 3] rfl) hf
    · have hf := ite_t hc5 hf
      refine lv_iconst (v := 1) C0.1 C0.2.1 dX2_lawfulFromNow_31 kI_1 ?_
      refine lv_goto (tgt := 36) C0.1 C0.2.1 dX2_lawfulFromNow_32 (by decide) ?_
      exact tX2_lawfulFromNow_36 C0 hK hN hA  v3 1 _ _ ls hW (lv_sub hl [0, 2, 3] rfl) hf
  · have hf := ite_t hc2 hf
    refine lv_iconst (v := 1) C0.1 C0.2.1 dX2_lawfulFromNow_13 kI_1 ?_
    obtain rfl := Option.some.inj hf
    exact r_int C0 hK hW dX2_lawfulFromNow_14
-- X2_leastCost
def rmX2_leastCost : Room := { frames := 3, cells := 0, slots := 0, locals := 66 }
def SX2_leastCost_45 (p : Program) (l : Launch) (e : Env) (s : State) (m : MethodId) (args : Array Value) (below : List Frame) (meth : Method) (c : Code) (D : va_G) (cy : Nat → ClassId) (ad : Nat → Nat) (P : MP) (V : MV) (I : MI) (J : MJ) (A : MI) (B : MJ) (Af : Nat → Prop) (res : Int32) (k : Int32 → Int32 → Int32 → Option (Int32)) : Prop := ∀ (v3 : Int32) (v4 : Int32) (v5 : Int32) (H : Heap) (locs : List Loc) (ls : Array Slot), wd D (dn cy LY_X2X6X4 ad P V (gp I []) (gp J []) (gm A []) (gm B [])) Af s.heap H locs → lv_has ls 6 [(0, .ref (ad 0)), (1, .ref (ad 5)), (2, .ref (ad 20)), (3, .int v3), (4, .int v4), (5, .int v5)] → k v3 v4 v5 = some res → W p l e rmX2_leastCost s m args below meth c H locs 0 0 (ZQ below D cy (dn cy LY_X2X6X4 ad P V (gp I []) (gp J []) (gm A []) (gm B [])) (some (.int res)) Af args s) (F0 m 45 ls [])
def SX2_leastCost_12 (p : Program) (l : Launch) (e : Env) (s : State) (m : MethodId) (args : Array Value) (below : List Frame) (meth : Method) (c : Code) (D : va_G) (cy : Nat → ClassId) (ad : Nat → Nat) (P : MP) (V : MV) (I : MI) (J : MJ) (A : MI) (B : MJ) (Af : Nat → Prop) (res : Int32) (k : Int32 → Int32 → Int32 → Option (Int32)) : Prop := ∀ (v3 : Int32) (v4 : Int32) (v5 : Int32) (H : Heap) (locs : List Loc) (ls : Array Slot), wd D (dn cy LY_X2X6X4 ad P V (gp I []) (gp J []) (gm A []) (gm B [])) Af s.heap H locs → lv_has ls 6 [(0, .ref (ad 0)), (1, .ref (ad 5)), (2, .ref (ad 20)), (3, .int v3), (4, .int v4), (5, .int v5)] → k v3 v4 v5 = some res → W p l e rmX2_leastCost s m args below meth c H locs 0 0 (ZQ below D cy (dn cy LY_X2X6X4 ad P V (gp I []) (gp J []) (gm A []) (gm B [])) (some (.int res)) Af args s) (F0 m 12 ls [])
def fX2_leastCost_45 (d_lasting : Int32) (t_holes : Int32) (d_lawful : (Nat → Int32)) (t_holeFlags : (Nat → Int32)) (t_kinds : (Nat → Int32)) (t_guestFlags : (Nat → Int32)) (s_inside : (Nat → Int32)) (k12 : Int32 → Int32 → Int32 → Option (Int32)) (v3 : Int32) (v4 : Int32) (v5 : Int32) : Option (Int32) := Option.bind (fX2_costOf d_lasting t_kinds v3 v5) fun y1 => (k12 v3 (imin v4 y1) (v5 + 1))
set_option maxHeartbeats 4000000 in
set_option maxRecDepth 100000 in
theorem tX2_leastCost_45 {p : Program} {l : Launch} {e : Env} {s : State} {m : MethodId} {args : Array Value} {below : List Frame} {meth : Method} {c : Code} {D : va_G} {cy : Nat → ClassId} {ad : Nat → Nat} {P : MP} {V : MV} {I : MI} {J : MJ} {A : MI} {B : MJ} {Af : Nat → Prop} {res : Int32} (C0 : CX p s m args meth c cX2_leastCost 6 (some .int) RX2) (hK : va_K D vwCl (tyG cy) s) (hN : NWs s) (hA : ∀ q, s.heap.size ≤ q → Af q) {k12 : Int32 → Int32 → Int32 → Option (Int32)} (hk12 : SX2_leastCost_12 p l e s m args below meth c D cy ad P V I J A B Af res k12) : SX2_leastCost_45 p l e s m args below meth c D cy ad P V I J A B Af res (fX2_leastCost_45 (I 0 4) (I 5 13) (A 3) (A 10) (A 14) (A 15) (A 22) k12) := by
  intro v3 v4 v5 H locs ls hW hl hf
  unfold fX2_leastCost_45 at hf
  refine lv_iload C0.1 C0.2.1 dX2_leastCost_45 (lv_at hl 4 rfl) ?_
  refine lv_aload_n C0.1 C0.2.1 dX2_leastCost_47 rfl (lv_at hl 0 rfl) ?_
  refine lv_aload_n C0.1 C0.2.1 dX2_leastCost_48 rfl (lv_at hl 1 rfl) ?_
  refine lv_iload_n C0.1 C0.2.1 dX2_leastCost_49 rfl (lv_at hl 3 rfl) ?_
  refine lv_iload C0.1 C0.2.1 dX2_leastCost_50 (lv_at hl 5 rfl) ?_
  obtain ⟨y1, hy1, hf⟩ := b_some hf
  refine c_Vi C0 hK hN hl.1 hW hA (KX2_costOf l D cy  (fun q => ad (pl_LY_X2X6X4_LY_X2X6_0_1_24717415.getD q 0)) (fun q => P (pl_LY_X2X6X4_LY_X2X6_0_1_24717415.getD q 0)) (fun q => Vx LY_X2X6X4 ad V (pl_LY_X2X6X4_LY_X2X6_0_1_24717415.getD q 0)) (fun q => gp I [] (pl_LY_X2X6X4_LY_X2X6_0_1_24717415.getD q 0)) (fun q => gp J [] (pl_LY_X2X6X4_LY_X2X6_0_1_24717415.getD q 0)) (fun q => gm A [] (pl_LY_X2X6X4_LY_X2X6_0_1_24717415.getD q 0)) (fun q => gm B [] (pl_LY_X2X6X4_LY_X2X6_0_1_24717415.getD q 0)) v3 v5 hy1) (JN_subC (pl := pl_LY_X2X6X4_LY_X2X6_0_1_24717415) sb_LY_X2X6X4_LY_X2X6_0_1_24717415 rfl rfl rfl rfl rfl rfl rfl rfl rfl) (Uw_V uw_838 uw_840 us_28 uw_9 uw_841) rfl rfl hd_X2_costOf ⟨rfl, rfl⟩ rfl (dn_some LY_X2X6X4_0) rfl rfl rfl dX2_leastCost_52 ⟨Nat.zero_le _, Nat.zero_le _⟩ (fun H locs hW => ?_)
  have hW : wd D (dn cy LY_X2X6X4 ad P V (gp I []) (gp J []) (gm A []) (gm B [])) Af s.heap H locs := hW
  refine s_min C0 hl.1 uw_847 uw_700 uw_16 uw_701 (Nat.le_of_ble_eq_true rfl) (Nat.le_of_ble_eq_true rfl) (Nat.zero_le _) (Nat.zero_le _) dX2_leastCost_55 ?_
  refine lv_istore (lv' := [(4, .int (imin v4 y1)), (0, .ref (ad 0)), (1, .ref (ad 5)), (2, .ref (ad 20)), (3, .int v3), (5, .int v5)]) C0.1 C0.2.1 dX2_leastCost_58 hl (by decide) rfl (fun ls hl => ?_)
  refine lv_iinc (v := (v5 + 1)) (lv' := [(5, .int (v5 + 1)), (4, .int (imin v4 y1)), (0, .ref (ad 0)), (1, .ref (ad 5)), (2, .ref (ad 20)), (3, .int v3)]) C0.1 C0.2.1 dX2_leastCost_60 hl (k := 5) rfl (congrArg (fun z => _ + z) kI_1) (by decide) rfl (fun ls hl => ?_)
  refine lv_goto (tgt := 12) C0.1 C0.2.1 dX2_leastCost_63 (by decide) ?_
  exact hk12 v3 (imin v4 y1) (v5 + 1) H locs ls hW (lv_sub hl [2, 3, 4, 5, 1, 0] rfl) hf
def fX2_leastCost_12 (d_lasting : Int32) (t_holes : Int32) (d_lawful : (Nat → Int32)) (t_holeFlags : (Nat → Int32)) (t_kinds : (Nat → Int32)) (t_guestFlags : (Nat → Int32)) (s_inside : (Nat → Int32)) (k12 : Int32 → Int32 → Int32 → Option (Int32)) (v3 : Int32) (v4 : Int32) (v5 : Int32) : Option (Int32) := if t_holes ≤ v5 then (some (v4)) else (bif inb v3 5 then (if (t_kinds (Int32.toNatClampNeg v3)) = 146 then (fX2_leastCost_45 d_lasting t_holes d_lawful t_holeFlags t_kinds t_guestFlags s_inside k12 v3 v4 v5) else (Option.bind (fX2_lawfulFromNow d_lawful t_holeFlags t_kinds t_guestFlags s_inside v5 v3) fun y4 => (if y4 = 0 then (k12 v3 v4 (v5 + 1)) else (fX2_leastCost_45 d_lasting t_holes d_lawful t_holeFlags t_kinds t_guestFlags s_inside k12 v3 v4 v5)))) else none)
set_option maxHeartbeats 4000000 in
set_option maxRecDepth 100000 in
theorem tX2_leastCost_12 {p : Program} {l : Launch} {e : Env} {s : State} {m : MethodId} {args : Array Value} {below : List Frame} {meth : Method} {c : Code} {D : va_G} {cy : Nat → ClassId} {ad : Nat → Nat} {P : MP} {V : MV} {I : MI} {J : MJ} {A : MI} {B : MJ} {Af : Nat → Prop} {res : Int32} (C0 : CX p s m args meth c cX2_leastCost 6 (some .int) RX2) (hK : va_K D vwCl (tyG cy) s) (hN : NWs s) (hA : ∀ q, s.heap.size ≤ q → Af q) {k12 : Int32 → Int32 → Int32 → Option (Int32)} (hk12 : SX2_leastCost_12 p l e s m args below meth c D cy ad P V I J A B Af res k12) : SX2_leastCost_12 p l e s m args below meth c D cy ad P V I J A B Af res (fX2_leastCost_12 (I 0 4) (I 5 13) (A 3) (A 10) (A 14) (A 15) (A 22) k12) := by
  intro v3 v4 v5 H locs ls hW hl hf
  unfold fX2_leastCost_12 at hf
  refine lv_iload C0.1 C0.2.1 dX2_leastCost_12 (lv_at hl 5 rfl) ?_
  refine lv_aload_n C0.1 C0.2.1 dX2_leastCost_14 rfl (lv_at hl 1 rfl) ?_
  refine s_get (v := .int (I 5 13)) C0 hK hW 5 13 LY_X2X6X4_5 rfl fg_X2_85 rfl dX2_leastCost_15 ?_
  refine lv_icmp_ge (tgt := 66) C0.1 C0.2.1 dX2_leastCost_18 (by decide) (fun hc1 => ?_) (fun hc1 => ?_)
  · have hf := ite_t hc1 hf
    refine lv_iload C0.1 C0.2.1 dX2_leastCost_66 (lv_at hl 4 rfl) ?_
    obtain rfl := Option.some.inj hf
    exact r_int C0 hK hW dX2_leastCost_68
  · have hf := ite_f hc1 hf
    refine lv_aload_n C0.1 C0.2.1 dX2_leastCost_21 rfl (lv_at hl 1 rfl) ?_
    refine s_get (v := .ref (ad 14)) C0 hK hW 5 9 LY_X2X6X4_5 rfl fg_X2_95 rfl dX2_leastCost_22 ?_
    refine lv_iload_n C0.1 C0.2.1 dX2_leastCost_25 rfl (lv_at hl 3 rfl) ?_
    obtain ⟨hb2, hf⟩ := g_some hf
    refine s_iald (v := ((A 14) (Int32.toNatClampNeg v3))) C0 hK hW 14 LY_X2X6X4_14 hb2 rfl dX2_leastCost_26 ?_
    refine lv_sipush (v := 146) C0.1 C0.2.1 dX2_leastCost_27 kS_146 ?_
    refine lv_icmp_eq (tgt := 45) C0.1 C0.2.1 dX2_leastCost_30 (by decide) (fun hc3 => ?_) (fun hc3 => ?_)
    · have hf := ite_t hc3 hf
      exact tX2_leastCost_45 C0 hK hN hA hk12 v3 v4 v5 H locs ls hW hl hf
    · have hf := ite_f hc3 hf
      refine lv_aload_n C0.1 C0.2.1 dX2_leastCost_33 rfl (lv_at hl 0 rfl) ?_
      refine lv_aload_n C0.1 C0.2.1 dX2_leastCost_34 rfl (lv_at hl 1 rfl) ?_
      refine lv_aload_n C0.1 C0.2.1 dX2_leastCost_35 rfl (lv_at hl 2 rfl) ?_
      refine lv_iload C0.1 C0.2.1 dX2_leastCost_36 (lv_at hl 5 rfl) ?_
      refine lv_iload_n C0.1 C0.2.1 dX2_leastCost_38 rfl (lv_at hl 3 rfl) ?_
      obtain ⟨y4, hy4, hf⟩ := b_some hf
      refine c_Vi C0 hK hN hl.1 hW hA (KX2_lawfulFromNow l D cy  ad P V (gp I []) (gp J []) (gm A []) (gm B []) v5 v3 hy4) (JN_id rfl rfl rfl rfl) (Uw_V uw_842 uw_844 us_29 uw_9 uw_845) rfl rfl hd_X2_lawfulFromNow ⟨rfl, rfl⟩ rfl (dn_some LY_X2X6X4_0) rfl rfl rfl dX2_leastCost_39 ⟨Nat.zero_le _, Nat.zero_le _⟩ (fun H locs hW => ?_)
      have hW : wd D (dn cy LY_X2X6X4 ad P V (gp I []) (gp J []) (gm A []) (gm B [])) Af s.heap H locs := hW
      refine lv_if_eq (tgt := 60) C0.1 C0.2.1 dX2_leastCost_42 (by decide) (fun hc5 => ?_) (fun hc5 => ?_)
      · have hf := ite_t hc5 hf
        refine lv_iinc (v := (v5 + 1)) (lv' := [(5, .int (v5 + 1)), (0, .ref (ad 0)), (1, .ref (ad 5)), (2, .ref (ad 20)), (3, .int v3), (4, .int v4)]) C0.1 C0.2.1 dX2_leastCost_60 hl (k := 5) rfl (congrArg (fun z => _ + z) kI_1) (by decide) rfl (fun ls hl => ?_)
        refine lv_goto (tgt := 12) C0.1 C0.2.1 dX2_leastCost_63 (by decide) ?_
        exact hk12 v3 v4 (v5 + 1) H locs ls hW (lv_sub hl [1, 2, 3, 4, 5, 0] rfl) hf
      · have hf := ite_f hc5 hf
        exact tX2_leastCost_45 C0 hK hN hA hk12 v3 v4 v5 H locs ls hW hl hf
theorem TX2_leastCost_12 {p : Program} {l : Launch} {e : Env} {s : State} {m : MethodId} {args : Array Value} {below : List Frame} {meth : Method} {c : Code} {D : va_G} {cy : Nat → ClassId} {ad : Nat → Nat} {P : MP} {V : MV} {I : MI} {J : MJ} {A : MI} {B : MJ} {Af : Nat → Prop} {res : Int32} (C0 : CX p s m args meth c cX2_leastCost 6 (some .int) RX2) (hK : va_K D vwCl (tyG cy) s) (hN : NWs s) (hA : ∀ q, s.heap.size ≤ q → Af q) : ∀ n, SX2_leastCost_12 p l e s m args below meth c D cy ad P V I J A B Af res (itr (fun kk => fX2_leastCost_12 (I 0 4) (I 5 13) (A 3) (A 10) (A 14) (A 15) (A 22) kk) (fun _ _ _ => none) n) := by
  intro n
  induction n with
  | zero => intro v3 v4 v5 H locs ls hW hl hf; exact (nomatch (show (none : Option (Int32)) = some res from hf))
  | succ n ih => exact tX2_leastCost_12 C0 hK hN hA  ih
def fX2_leastCost (d_lasting : Int32) (t_holes : Int32) (d_lawful : (Nat → Int32)) (t_holeFlags : (Nat → Int32)) (t_kinds : (Nat → Int32)) (t_guestFlags : (Nat → Int32)) (s_inside : (Nat → Int32)) (v3 : Int32) : Option (Int32) := Option.bind (fX2_costOf d_lasting t_kinds v3 (-1)) fun y1 => (itr (fun kk => fX2_leastCost_12 d_lasting t_holes d_lawful t_holeFlags t_kinds t_guestFlags s_inside kk) (fun _ _ _ => none) FU v3 y1 0)
set_option maxHeartbeats 4000000 in
set_option maxRecDepth 100000 in
theorem KX2_leastCost (l : Launch) (D : va_G) (cy : Nat → ClassId) (ad : Nat → Nat) (P : MP) (V : MV) (I : MI) (J : MJ) (A : MI) (B : MJ) (v3 : Int32) {res : Int32} (hf : fX2_leastCost (I 0 4) (I 5 13) (A 3) (A 10) (A 14) (A 15) (A 22) v3 = some res) : CG l yX2_leastCost cX2_leastCost 6 (some .int) rmX2_leastCost D cy (dn cy LY_X2X6X4 ad P V I J A B) [.ref (ad 0), .ref (ad 5), .ref (ad 20), .int v3] (some (.int res)) (dn cy LY_X2X6X4 ad P V (gp I []) (gp J []) (gm A []) (gm B [])) := by
  refine CG.of (own := RX2) (by decide) rfl rfl ?_
  intro p e s m below meth c ls Af C0 hK hN hA hW hl
  have hW : wd D (dn cy LY_X2X6X4 ad P V (gp I []) (gp J []) (gm A []) (gm B [])) Af s.heap s.heap [] := wd_sel [] [] [] [] hW
  have hl : lv_has ls 6 [(0, .ref (ad 0)), (1, .ref (ad 5)), (2, .ref (ad 20)), (3, .int v3)] := hl
  unfold fX2_leastCost at hf
  refine lv_aload_n C0.1 C0.2.1 dX2_leastCost_0 rfl (lv_at hl 0 rfl) ?_
  refine lv_aload_n C0.1 C0.2.1 dX2_leastCost_1 rfl (lv_at hl 1 rfl) ?_
  refine lv_iload_n C0.1 C0.2.1 dX2_leastCost_2 rfl (lv_at hl 3 rfl) ?_
  refine lv_iconst (v := (-1)) C0.1 C0.2.1 dX2_leastCost_3 kI_m1 ?_
  obtain ⟨y1, hy1, hf⟩ := b_some hf
  refine c_Vi C0 hK hN hl.1 hW hA (KX2_costOf l D cy  (fun q => ad (pl_LY_X2X6X4_LY_X2X6_0_1_24717415.getD q 0)) (fun q => P (pl_LY_X2X6X4_LY_X2X6_0_1_24717415.getD q 0)) (fun q => Vx LY_X2X6X4 ad V (pl_LY_X2X6X4_LY_X2X6_0_1_24717415.getD q 0)) (fun q => gp I [] (pl_LY_X2X6X4_LY_X2X6_0_1_24717415.getD q 0)) (fun q => gp J [] (pl_LY_X2X6X4_LY_X2X6_0_1_24717415.getD q 0)) (fun q => gm A [] (pl_LY_X2X6X4_LY_X2X6_0_1_24717415.getD q 0)) (fun q => gm B [] (pl_LY_X2X6X4_LY_X2X6_0_1_24717415.getD q 0)) v3 (-1) hy1) (JN_subC (pl := pl_LY_X2X6X4_LY_X2X6_0_1_24717415) sb_LY_X2X6X4_LY_X2X6_0_1_24717415 rfl rfl rfl rfl rfl rfl rfl rfl rfl) (Uw_V uw_838 uw_840 us_28 uw_9 uw_841) rfl rfl hd_X2_costOf ⟨rfl, rfl⟩ rfl (dn_some LY_X2X6X4_0) rfl rfl rfl dX2_leastCost_4 ⟨Nat.zero_le _, Nat.zero_le _⟩ (fun H locs hW => ?_)
  have hW : wd D (dn cy LY_X2X6X4 ad P V (gp I []) (gp J []) (gm A []) (gm B [])) Af s.heap H locs := hW
  refine lv_istore (lv' := [(4, .int y1), (0, .ref (ad 0)), (1, .ref (ad 5)), (2, .ref (ad 20)), (3, .int v3)]) C0.1 C0.2.1 dX2_leastCost_7 hl (by decide) rfl (fun ls hl => ?_)
  refine lv_iconst (v := 0) C0.1 C0.2.1 dX2_leastCost_9 kI_0 ?_
  refine lv_istore (lv' := [(5, .int 0), (4, .int y1), (0, .ref (ad 0)), (1, .ref (ad 5)), (2, .ref (ad 20)), (3, .int v3)]) C0.1 C0.2.1 dX2_leastCost_10 hl (by decide) rfl (fun ls hl => ?_)
  exact TX2_leastCost_12 C0 hK hN hA  FU v3 y1 0 _ _ ls hW (lv_sub hl [2, 3, 4, 5, 1, 0] rfl) hf
-- X2_keepRow
def rmX2_keepRow : Room := { frames := 1, cells := 0, slots := 0, locals := 21 }
def SX2_keepRow_7 (p : Program) (l : Launch) (e : Env) (s : State) (m : MethodId) (args : Array Value) (below : List Frame) (meth : Method) (c : Code) (D : va_G) (cy : Nat → ClassId) (ad : Nat → Nat) (P : MP) (V : MV) (I : MI) (J : MJ) (A : MI) (B : MJ) (Af : Nat → Prop) (res : Int32 × (Nat → Int32)) (k : Int32 → (Nat → Int32) → Int32 → Int32 → Option (Int32 × (Nat → Int32))) : Prop := ∀ (d_bestCost : Int32) (d_best : (Nat → Int32)) (v1 : Int32) (v3 : Int32) (H : Heap) (locs : List Loc) (ls : Array Slot), wd D (dn cy LY_X2 ad P V (gp I [(0, 5, d_bestCost)]) (gp J []) (gm A [(4, d_best)]) (gm B [])) Af s.heap H locs → lv_has ls 4 [(0, .ref (ad 0)), (1, .int v1), (3, .int v3)] → k d_bestCost d_best v1 v3 = some res → W p l e rmX2_keepRow s m args below meth c H locs 0 0 (ZQ below D cy (dn cy LY_X2 ad P V (gp I [(0, 5, res.1)]) (gp J []) (gm A [(4, res.2)]) (gm B [])) none Af args s) (F0 m 7 ls [])
def fX2_keepRow_7 (d_row : (Nat → Int32)) (k7 : Int32 → (Nat → Int32) → Int32 → Int32 → Option (Int32 × (Nat → Int32))) (d_bestCost : Int32) (d_best : (Nat → Int32)) (v1 : Int32) (v3 : Int32) : Option (Int32 × (Nat → Int32)) := if v1 ≤ v3 then (some (d_bestCost, d_best)) else (bif inb v3 5 then (bif inb v3 5 then (k7 d_bestCost (upd d_best (Int32.toNatClampNeg v3) (d_row (Int32.toNatClampNeg v3))) v1 (v3 + 1)) else none) else none)
set_option maxHeartbeats 4000000 in
set_option maxRecDepth 100000 in
theorem tX2_keepRow_7 {p : Program} {l : Launch} {e : Env} {s : State} {m : MethodId} {args : Array Value} {below : List Frame} {meth : Method} {c : Code} {D : va_G} {cy : Nat → ClassId} {ad : Nat → Nat} {P : MP} {V : MV} {I : MI} {J : MJ} {A : MI} {B : MJ} {Af : Nat → Prop} {res : Int32 × (Nat → Int32)} (C0 : CX p s m args meth c cX2_keepRow 4 none RX2) (hK : va_K D vwCl (tyG cy) s) (hN : NWs s) (hA : ∀ q, s.heap.size ≤ q → Af q) {k7 : Int32 → (Nat → Int32) → Int32 → Int32 → Option (Int32 × (Nat → Int32))} (hk7 : SX2_keepRow_7 p l e s m args below meth c D cy ad P V I J A B Af res k7) : SX2_keepRow_7 p l e s m args below meth c D cy ad P V I J A B Af res (fX2_keepRow_7 (A 1) k7) := by
  intro d_bestCost d_best v1 v3 H locs ls hW hl hf
  unfold fX2_keepRow_7 at hf
  refine lv_iload_n C0.1 C0.2.1 dX2_keepRow_7 rfl (lv_at hl 2 rfl) ?_
  refine lv_iload_n C0.1 C0.2.1 dX2_keepRow_8 rfl (lv_at hl 1 rfl) ?_
  refine lv_icmp_ge (tgt := 30) C0.1 C0.2.1 dX2_keepRow_9 (by decide) (fun hc1 => ?_) (fun hc1 => ?_)
  · have hf := ite_t hc1 hf
    obtain rfl := Option.some.inj hf
    exact r_void C0 hK hW dX2_keepRow_30
  · have hf := ite_f hc1 hf
    refine lv_aload_n C0.1 C0.2.1 dX2_keepRow_12 rfl (lv_at hl 0 rfl) ?_
    refine s_get (v := .ref (ad 4)) C0 hK hW 0 6 LY_X2_0 rfl fg_X2_21 rfl dX2_keepRow_13 ?_
    refine lv_iload_n C0.1 C0.2.1 dX2_keepRow_16 rfl (lv_at hl 2 rfl) ?_
    refine lv_aload_n C0.1 C0.2.1 dX2_keepRow_17 rfl (lv_at hl 0 rfl) ?_
    refine s_get (v := .ref (ad 1)) C0 hK hW 0 0 LY_X2_0 rfl fg_X2_9 rfl dX2_keepRow_18 ?_
    refine lv_iload_n C0.1 C0.2.1 dX2_keepRow_21 rfl (lv_at hl 2 rfl) ?_
    obtain ⟨hb2, hf⟩ := g_some hf
    refine s_iald (v := ((A 1) (Int32.toNatClampNeg v3))) C0 hK hW 1 LY_X2_1 hb2 rfl dX2_keepRow_22 ?_
    obtain ⟨hb3, hf⟩ := g_some hf
    refine s_iast (f := (upd d_best (Int32.toNatClampNeg v3) ((A 1) (Int32.toNatClampNeg v3)))) C0 hK hW 4 LY_X2_4 hb3 rfl rfl dX2_keepRow_23 (fun H locs hW => ?_)
    have hW : wd D (dn cy LY_X2 ad P V (gp I [(0, 5, d_bestCost)]) (gp J []) (gm A [(4, (upd d_best (Int32.toNatClampNeg v3) ((A 1) (Int32.toNatClampNeg v3))))]) (gm B [])) Af s.heap H locs := hW
    refine lv_iinc (v := (v3 + 1)) (lv' := [(3, .int (v3 + 1)), (0, .ref (ad 0)), (1, .int v1)]) C0.1 C0.2.1 dX2_keepRow_24 hl (k := 2) rfl (congrArg (fun z => _ + z) kI_1) (by decide) rfl (fun ls hl => ?_)
    refine lv_goto (tgt := 7) C0.1 C0.2.1 dX2_keepRow_27 (by decide) ?_
    exact hk7 d_bestCost (upd d_best (Int32.toNatClampNeg v3) ((A 1) (Int32.toNatClampNeg v3))) v1 (v3 + 1) H locs ls hW (lv_sub hl [1, 2, 0] rfl) hf
theorem TX2_keepRow_7 {p : Program} {l : Launch} {e : Env} {s : State} {m : MethodId} {args : Array Value} {below : List Frame} {meth : Method} {c : Code} {D : va_G} {cy : Nat → ClassId} {ad : Nat → Nat} {P : MP} {V : MV} {I : MI} {J : MJ} {A : MI} {B : MJ} {Af : Nat → Prop} {res : Int32 × (Nat → Int32)} (C0 : CX p s m args meth c cX2_keepRow 4 none RX2) (hK : va_K D vwCl (tyG cy) s) (hN : NWs s) (hA : ∀ q, s.heap.size ≤ q → Af q) : ∀ n, SX2_keepRow_7 p l e s m args below meth c D cy ad P V I J A B Af res (itr (fun kk => fX2_keepRow_7 (A 1) kk) (fun _ _ _ _ => none) n) := by
  intro n
  induction n with
  | zero => intro d_bestCost d_best v1 v3 H locs ls hW hl hf; exact (nomatch (show (none : Option (Int32 × (Nat → Int32))) = some res from hf))
  | succ n ih => exact tX2_keepRow_7 C0 hK hN hA  ih
def fX2_keepRow (d_row : (Nat → Int32)) (d_bestCost : Int32) (d_best : (Nat → Int32)) (v1 : Int32) (v2 : Int32) : Option (Int32 × (Nat → Int32)) := itr (fun kk => fX2_keepRow_7 d_row kk) (fun _ _ _ _ => none) FU v2 d_best v1 0
set_option maxHeartbeats 4000000 in
set_option maxRecDepth 100000 in
theorem KX2_keepRow (l : Launch) (D : va_G) (cy : Nat → ClassId) (ad : Nat → Nat) (P : MP) (V : MV) (I : MI) (J : MJ) (A : MI) (B : MJ) (v1 : Int32) (v2 : Int32) {res : Int32 × (Nat → Int32)} (hf : fX2_keepRow (A 1) (I 0 5) (A 4) v1 v2 = some res) : CG l yX2_keepRow cX2_keepRow 4 none rmX2_keepRow D cy (dn cy LY_X2 ad P V I J A B) [.ref (ad 0), .int v1, .int v2] none (dn cy LY_X2 ad P V (gp I [(0, 5, res.1)]) (gp J []) (gm A [(4, res.2)]) (gm B [])) := by
  refine CG.of (own := RX2) (by decide) rfl rfl ?_
  intro p e s m below meth c ls Af C0 hK hN hA hW hl
  have hW : wd D (dn cy LY_X2 ad P V (gp I [(0, 5, (I 0 5))]) (gp J []) (gm A [(4, (A 4))]) (gm B [])) Af s.heap s.heap [] := wd_sel [(0, 5)] [] [4] [] hW
  have hl : lv_has ls 4 [(0, .ref (ad 0)), (1, .int v1), (2, .int v2)] := hl
  unfold fX2_keepRow at hf
  refine lv_aload_n C0.1 C0.2.1 dX2_keepRow_0 rfl (lv_at hl 0 rfl) ?_
  refine lv_iload_n C0.1 C0.2.1 dX2_keepRow_1 rfl (lv_at hl 2 rfl) ?_
  refine s_putI C0 hK hW 0 5 LY_X2_0 rfl fg_X2_71 fp_X2_5 rfl dX2_keepRow_2 (fun H locs hW => ?_)
  have hW : wd D (dn cy LY_X2 ad P V (gp I [(0, 5, v2)]) (gp J []) (gm A [(4, (A 4))]) (gm B [])) Af s.heap H locs := hW
  refine lv_iconst (v := 0) C0.1 C0.2.1 dX2_keepRow_5 kI_0 ?_
  refine lv_istore_n (lv' := [(3, .int 0), (0, .ref (ad 0)), (1, .int v1), (2, .int v2)]) C0.1 C0.2.1 dX2_keepRow_6 rfl hl (by decide) rfl (fun ls hl => ?_)
  exact TX2_keepRow_7 C0 hK hN hA  FU v2 (A 4) v1 0 _ _ ls hW (lv_sub hl [1, 2, 0] rfl) hf
-- X4_isPeaceful
def rmX4_isPeaceful : Room := { frames := 1, cells := 0, slots := 0, locals := 21 }
def fX4_isPeaceful (s_coal : (Nat → Int32)) (s_inside : (Nat → Int32)) (t_foes : (Nat → Int32)) (v2 : Int32) (v3 : Int32) : Option (Int32) := bif inb v2 5 then (if (s_coal (Int32.toNatClampNeg v2)) ≤ 0 then (some (0)) else (bif inb v2 5 then (if 20 ≤ (s_coal (Int32.toNatClampNeg v2)) then (some (1)) else (bif inb v2 5 then (bif inb v3 5 then (if ((s_inside (Int32.toNatClampNeg v2)) &&& (t_foes (Int32.toNatClampNeg v3))) = 0 then (some (1)) else (some (0))) else none) else none)) else none)) else none
set_option maxHeartbeats 4000000 in
set_option maxRecDepth 100000 in
theorem KX4_isPeaceful (l : Launch) (D : va_G) (cy : Nat → ClassId) (ad : Nat → Nat) (P : MP) (V : MV) (I : MI) (J : MJ) (A : MI) (B : MJ) (v2 : Int32) (v3 : Int32) {res : Int32} (hf : fX4_isPeaceful (A 1) (A 2) (A 14) v2 v3 = some res) : CG l yX4_isPeaceful cX4_isPeaceful 4 (some .boolean) rmX4_isPeaceful D cy (dn cy LY_X4X6 ad P V I J A B) [.ref (ad 0), .ref (ad 3), .int v2, .int v3] (some (.int res)) (dn cy LY_X4X6 ad P V (gp I []) (gp J []) (gm A []) (gm B [])) := by
  refine CG.of (own := RX4) (by decide) rfl rfl ?_
  intro p e s m below meth c ls Af C0 hK hN hA hW hl
  have hW : wd D (dn cy LY_X4X6 ad P V (gp I []) (gp J []) (gm A []) (gm B [])) Af s.heap s.heap [] := wd_sel [] [] [] [] hW
  have hl : lv_has ls 4 [(0, .ref (ad 0)), (1, .ref (ad 3)), (2, .int v2), (3, .int v3)] := hl
  unfold fX4_isPeaceful at hf
  refine lv_aload_n C0.1 C0.2.1 dX4_isPeaceful_0 rfl (lv_at hl 0 rfl) ?_
  refine s_get (v := .ref (ad 1)) C0 hK hW 0 0 LY_X4X6_0 rfl fg_X4_9 rfl dX4_isPeaceful_1 ?_
  refine lv_iload_n C0.1 C0.2.1 dX4_isPeaceful_4 rfl (lv_at hl 2 rfl) ?_
  obtain ⟨hb1, hf⟩ := g_some hf
  refine s_iald (v := ((A 1) (Int32.toNatClampNeg v2))) C0 hK hW 1 LY_X4X6_1 hb1 rfl dX4_isPeaceful_5 ?_
  refine lv_if_le (tgt := 40) C0.1 C0.2.1 dX4_isPeaceful_6 (by decide) (fun hc2 => ?_) (fun hc2 => ?_)
  · have hf := ite_t hc2 hf
    refine lv_iconst (v := 0) C0.1 C0.2.1 dX4_isPeaceful_40 kI_0 ?_
    obtain rfl := Option.some.inj hf
    exact r_bool C0 hK hW (v' := 0) rfl dX4_isPeaceful_41
  · have hf := ite_f hc2 hf
    refine lv_aload_n C0.1 C0.2.1 dX4_isPeaceful_9 rfl (lv_at hl 0 rfl) ?_
    refine s_get (v := .ref (ad 1)) C0 hK hW 0 0 LY_X4X6_0 rfl fg_X4_9 rfl dX4_isPeaceful_10 ?_
    refine lv_iload_n C0.1 C0.2.1 dX4_isPeaceful_13 rfl (lv_at hl 2 rfl) ?_
    obtain ⟨hb3, hf⟩ := g_some hf
    refine s_iald (v := ((A 1) (Int32.toNatClampNeg v2))) C0 hK hW 1 LY_X4X6_1 hb3 rfl dX4_isPeaceful_14 ?_
    refine lv_bipush (v := 20) C0.1 C0.2.1 dX4_isPeaceful_15 kB_20 ?_
    refine lv_icmp_ge (tgt := 36) C0.1 C0.2.1 dX4_isPeaceful_17 (by decide) (fun hc4 => ?_) (fun hc4 => ?_)
    · have hf := ite_t hc4 hf
      refine lv_iconst (v := 1) C0.1 C0.2.1 dX4_isPeaceful_36 kI_1 ?_
      refine lv_goto (tgt := 41) C0.1 C0.2.1 dX4_isPeaceful_37 (by decide) ?_
      obtain rfl := Option.some.inj hf
      exact r_bool C0 hK hW (v' := 1) rfl dX4_isPeaceful_41
    · have hf := ite_f hc4 hf
      refine lv_aload_n C0.1 C0.2.1 dX4_isPeaceful_20 rfl (lv_at hl 0 rfl) ?_
      refine s_get (v := .ref (ad 2)) C0 hK hW 0 1 LY_X4X6_0 rfl fg_X4_15 rfl dX4_isPeaceful_21 ?_
      refine lv_iload_n C0.1 C0.2.1 dX4_isPeaceful_24 rfl (lv_at hl 2 rfl) ?_
      obtain ⟨hb5, hf⟩ := g_some hf
      refine s_iald (v := ((A 2) (Int32.toNatClampNeg v2))) C0 hK hW 2 LY_X4X6_2 hb5 rfl dX4_isPeaceful_25 ?_
      refine lv_aload_n C0.1 C0.2.1 dX4_isPeaceful_26 rfl (lv_at hl 1 rfl) ?_
      refine s_get (v := .ref (ad 14)) C0 hK hW 3 11 LY_X4X6_3 rfl fg_X4_43 rfl dX4_isPeaceful_27 ?_
      refine lv_iload_n C0.1 C0.2.1 dX4_isPeaceful_30 rfl (lv_at hl 3 rfl) ?_
      obtain ⟨hb6, hf⟩ := g_some hf
      refine s_iald (v := ((A 14) (Int32.toNatClampNeg v3))) C0 hK hW 14 LY_X4X6_14 hb6 rfl dX4_isPeaceful_31 ?_
      refine lv_iand C0.1 C0.2.1 dX4_isPeaceful_32 ?_
      refine lv_if_ne (tgt := 40) C0.1 C0.2.1 dX4_isPeaceful_33 (by decide) (fun hc7 => ?_) (fun hc7 => ?_)
      · have hf := ite_f hc7 hf
        refine lv_iconst (v := 0) C0.1 C0.2.1 dX4_isPeaceful_40 kI_0 ?_
        obtain rfl := Option.some.inj hf
        exact r_bool C0 hK hW (v' := 0) rfl dX4_isPeaceful_41
      · have hf := ite_t hc7 hf
        refine lv_iconst (v := 1) C0.1 C0.2.1 dX4_isPeaceful_36 kI_1 ?_
        refine lv_goto (tgt := 41) C0.1 C0.2.1 dX4_isPeaceful_37 (by decide) ?_
        obtain rfl := Option.some.inj hf
        exact r_bool C0 hK hW (v' := 1) rfl dX4_isPeaceful_41
-- X2_isTaken
def rmX2_isTaken : Room := { frames := 3, cells := 0, slots := 0, locals := 66 }
def fX2_isTaken (d_lawful : (Nat → Int32)) (t_holeFlags : (Nat → Int32)) (t_kinds : (Nat → Int32)) (t_guestFlags : (Nat → Int32)) (t_foes : (Nat → Int32)) (s_coal : (Nat → Int32)) (s_inside : (Nat → Int32)) (v3 : Int32) (v4 : Int32) : Option (Int32) := bif inb v4 5 then (if (t_kinds (Int32.toNatClampNeg v4)) = 146 then (some (1)) else (Option.bind (fX4_isPeaceful s_coal s_inside t_foes v3 v4) fun y3 => (if y3 = 0 then (some (0)) else (Option.bind (fX2_lawfulFromNow d_lawful t_holeFlags t_kinds t_guestFlags s_inside v3 v4) fun y5 => (if (y5 &&& 1) = 0 then (some (0)) else (some (1))))))) else none
set_option maxHeartbeats 4000000 in
set_option maxRecDepth 100000 in
theorem KX2_isTaken (l : Launch) (D : va_G) (cy : Nat → ClassId) (ad : Nat → Nat) (P : MP) (V : MV) (I : MI) (J : MJ) (A : MI) (B : MJ) (v3 : Int32) (v4 : Int32) {res : Int32} (hf : fX2_isTaken (A 3) (A 10) (A 14) (A 15) (A 16) (A 21) (A 22) v3 v4 = some res) : CG l yX2_isTaken cX2_isTaken 5 (some .boolean) rmX2_isTaken D cy (dn cy LY_X2X6X4 ad P V I J A B) [.ref (ad 0), .ref (ad 5), .ref (ad 20), .int v3, .int v4] (some (.int res)) (dn cy LY_X2X6X4 ad P V (gp I []) (gp J []) (gm A []) (gm B [])) := by
  refine CG.of (own := RX2) (by decide) rfl rfl ?_
  intro p e s m below meth c ls Af C0 hK hN hA hW hl
  have hW : wd D (dn cy LY_X2X6X4 ad P V (gp I []) (gp J []) (gm A []) (gm B [])) Af s.heap s.heap [] := wd_sel [] [] [] [] hW
  have hl : lv_has ls 5 [(0, .ref (ad 0)), (1, .ref (ad 5)), (2, .ref (ad 20)), (3, .int v3), (4, .int v4)] := hl
  unfold fX2_isTaken at hf
  refine lv_aload_n C0.1 C0.2.1 dX2_isTaken_0 rfl (lv_at hl 1 rfl) ?_
  refine s_get (v := .ref (ad 14)) C0 hK hW 5 9 LY_X2X6X4_5 rfl fg_X2_95 rfl dX2_isTaken_1 ?_
  refine lv_iload C0.1 C0.2.1 dX2_isTaken_4 (lv_at hl 4 rfl) ?_
  obtain ⟨hb1, hf⟩ := g_some hf
  refine s_iald (v := ((A 14) (Int32.toNatClampNeg v4))) C0 hK hW 14 LY_X2X6X4_14 hb1 rfl dX2_isTaken_6 ?_
  refine lv_sipush (v := 146) C0.1 C0.2.1 dX2_isTaken_7 kS_146 ?_
  refine lv_icmp_eq (tgt := 38) C0.1 C0.2.1 dX2_isTaken_10 (by decide) (fun hc2 => ?_) (fun hc2 => ?_)
  · have hf := ite_t hc2 hf
    refine lv_iconst (v := 1) C0.1 C0.2.1 dX2_isTaken_38 kI_1 ?_
    refine lv_goto (tgt := 43) C0.1 C0.2.1 dX2_isTaken_39 (by decide) ?_
    obtain rfl := Option.some.inj hf
    exact r_bool C0 hK hW (v' := 1) rfl dX2_isTaken_43
  · have hf := ite_f hc2 hf
    refine lv_aload_n C0.1 C0.2.1 dX2_isTaken_13 rfl (lv_at hl 2 rfl) ?_
    refine lv_aload_n C0.1 C0.2.1 dX2_isTaken_14 rfl (lv_at hl 1 rfl) ?_
    refine lv_iload_n C0.1 C0.2.1 dX2_isTaken_15 rfl (lv_at hl 3 rfl) ?_
    refine lv_iload C0.1 C0.2.1 dX2_isTaken_16 (lv_at hl 4 rfl) ?_
    obtain ⟨y3, hy3, hf⟩ := b_some hf
    refine c_Vi C0 hK hN hl.1 hW hA (KX4_isPeaceful l D cy  (fun q => ad (pl_LY_X2X6X4_LY_X4X6_20_21_72255155.getD q 0)) (fun q => P (pl_LY_X2X6X4_LY_X4X6_20_21_72255155.getD q 0)) (fun q => Vx LY_X2X6X4 ad V (pl_LY_X2X6X4_LY_X4X6_20_21_72255155.getD q 0)) (fun q => gp I [] (pl_LY_X2X6X4_LY_X4X6_20_21_72255155.getD q 0)) (fun q => gp J [] (pl_LY_X2X6X4_LY_X4X6_20_21_72255155.getD q 0)) (fun q => gm A [] (pl_LY_X2X6X4_LY_X4X6_20_21_72255155.getD q 0)) (fun q => gm B [] (pl_LY_X2X6X4_LY_X4X6_20_21_72255155.getD q 0)) v3 v4 hy3) (JN_subC (pl := pl_LY_X2X6X4_LY_X4X6_20_21_72255155) sb_LY_X2X6X4_LY_X4X6_20_21_72255155 rfl rfl rfl rfl rfl rfl rfl rfl rfl) (Uw_V uw_860 uw_640 uw_641 uw_7 uw_642) rfl rfl hd_X4_isPeaceful ⟨rfl, rfl⟩ rfl (dn_some LY_X2X6X4_20) rfl rfl rfl dX2_isTaken_18 ⟨Nat.zero_le _, Nat.zero_le _⟩ (fun H locs hW => ?_)
    have hW : wd D (dn cy LY_X2X6X4 ad P V (gp I []) (gp J []) (gm A []) (gm B [])) Af s.heap H locs := hW
    refine lv_if_eq (tgt := 42) C0.1 C0.2.1 dX2_isTaken_21 (by decide) (fun hc4 => ?_) (fun hc4 => ?_)
    · have hf := ite_t hc4 hf
      refine lv_iconst (v := 0) C0.1 C0.2.1 dX2_isTaken_42 kI_0 ?_
      obtain rfl := Option.some.inj hf
      exact r_bool C0 hK hW (v' := 0) rfl dX2_isTaken_43
    · have hf := ite_f hc4 hf
      refine lv_aload_n C0.1 C0.2.1 dX2_isTaken_24 rfl (lv_at hl 0 rfl) ?_
      refine lv_aload_n C0.1 C0.2.1 dX2_isTaken_25 rfl (lv_at hl 1 rfl) ?_
      refine lv_aload_n C0.1 C0.2.1 dX2_isTaken_26 rfl (lv_at hl 2 rfl) ?_
      refine lv_iload_n C0.1 C0.2.1 dX2_isTaken_27 rfl (lv_at hl 3 rfl) ?_
      refine lv_iload C0.1 C0.2.1 dX2_isTaken_28 (lv_at hl 4 rfl) ?_
      obtain ⟨y5, hy5, hf⟩ := b_some hf
      refine c_Vi C0 hK hN hl.1 hW hA (KX2_lawfulFromNow l D cy  ad P V (gp I []) (gp J []) (gm A []) (gm B []) v3 v4 hy5) (JN_id rfl rfl rfl rfl) (Uw_V uw_842 uw_844 us_29 uw_9 uw_845) rfl rfl hd_X2_lawfulFromNow ⟨rfl, rfl⟩ rfl (dn_some LY_X2X6X4_0) rfl rfl rfl dX2_isTaken_30 ⟨Nat.zero_le _, Nat.zero_le _⟩ (fun H locs hW => ?_)
      have hW : wd D (dn cy LY_X2X6X4 ad P V (gp I []) (gp J []) (gm A []) (gm B [])) Af s.heap H locs := hW
      refine lv_iconst (v := 1) C0.1 C0.2.1 dX2_isTaken_33 kI_1 ?_
      refine lv_iand C0.1 C0.2.1 dX2_isTaken_34 ?_
      refine lv_if_eq (tgt := 42) C0.1 C0.2.1 dX2_isTaken_35 (by decide) (fun hc6 => ?_) (fun hc6 => ?_)
      · have hf := ite_t hc6 hf
        refine lv_iconst (v := 0) C0.1 C0.2.1 dX2_isTaken_42 kI_0 ?_
        obtain rfl := Option.some.inj hf
        exact r_bool C0 hK hW (v' := 0) rfl dX2_isTaken_43
      · have hf := ite_f hc6 hf
        refine lv_iconst (v := 1) C0.1 C0.2.1 dX2_isTaken_38 kI_1 ?_
        refine lv_goto (tgt := 43) C0.1 C0.2.1 dX2_isTaken_39 (by decide) ?_
        obtain rfl := Option.some.inj hf
        exact r_bool C0 hK hW (v' := 1) rfl dX2_isTaken_43
-- X2_lodge
def rmX2_lodge (d : Nat) : Room := { frames := d + 4, cells := 0, slots := 0, locals := d * 25 + 90 }
def SX2_lodge_147 (p : Program) (l : Launch) (e : Env) (s : State) (m : MethodId) (args : Array Value) (below : List Frame) (meth : Method) (c : Code) (D : va_G) (cy : Nat → ClassId) (ad : Nat → Nat) (P : MP) (V : MV) (I : MI) (J : MJ) (A : MI) (B : MJ) (Af : Nat → Prop) (R : Room) (res : Int32 × (Nat → Int32) × (Nat → Int32) × (Nat → Int32)) (k : Int32 → (Nat → Int32) → (Nat → Int32) → (Nat → Int32) → Int32 → Int32 → Option (Int32 × (Nat → Int32) × (Nat → Int32) × (Nat → Int32))) : Prop := ∀ (d_bestCost : Int32) (d_row : (Nat → Int32)) (d_best : (Nat → Int32)) (s_inside : (Nat → Int32)) (v3 : Int32) (v4 : Int32) (H : Heap) (locs : List Loc) (ls : Array Slot), wd D (dn cy LY_X2X6X4 ad P V (gp I [(0, 5, d_bestCost)]) (gp J []) (gm A [(1, d_row), (4, d_best), (22, s_inside)]) (gm B [])) Af s.heap H locs → lv_has ls 6 [(0, .ref (ad 0)), (1, .ref (ad 5)), (2, .ref (ad 20)), (3, .int v3), (4, .int v4)] → k d_bestCost d_row d_best s_inside v3 v4 = some res → W p l e R s m args below meth c H locs 0 0 (ZQ below D cy (dn cy LY_X2X6X4 ad P V (gp I [(0, 5, res.1)]) (gp J []) (gm A [(1, res.2.1), (4, res.2.2.1), (22, res.2.2.2)]) (gm B [])) none Af args s) (F0 m 147 ls [])
def SX2_lodge_52 (p : Program) (l : Launch) (e : Env) (s : State) (m : MethodId) (args : Array Value) (below : List Frame) (meth : Method) (c : Code) (D : va_G) (cy : Nat → ClassId) (ad : Nat → Nat) (P : MP) (V : MV) (I : MI) (J : MJ) (A : MI) (B : MJ) (Af : Nat → Prop) (R : Room) (res : Int32 × (Nat → Int32) × (Nat → Int32) × (Nat → Int32)) (k : Int32 → (Nat → Int32) → (Nat → Int32) → (Nat → Int32) → Int32 → Int32 → Int32 → Option (Int32 × (Nat → Int32) × (Nat → Int32) × (Nat → Int32))) : Prop := ∀ (d_bestCost : Int32) (d_row : (Nat → Int32)) (d_best : (Nat → Int32)) (s_inside : (Nat → Int32)) (v3 : Int32) (v4 : Int32) (v5 : Int32) (H : Heap) (locs : List Loc) (ls : Array Slot), wd D (dn cy LY_X2X6X4 ad P V (gp I [(0, 5, d_bestCost)]) (gp J []) (gm A [(1, d_row), (4, d_best), (22, s_inside)]) (gm B [])) Af s.heap H locs → lv_has ls 6 [(0, .ref (ad 0)), (1, .ref (ad 5)), (2, .ref (ad 20)), (3, .int v3), (4, .int v4), (5, .int v5)] → k d_bestCost d_row d_best s_inside v3 v4 v5 = some res → W p l e R s m args below meth c H locs 0 0 (ZQ below D cy (dn cy LY_X2X6X4 ad P V (gp I [(0, 5, res.1)]) (gp J []) (gm A [(1, res.2.1), (4, res.2.2.1), (22, res.2.2.2)]) (gm B [])) none Af args s) (F0 m 52 ls [])
def fX2_lodge_147 (d_street : Int32) (d_lasting : Int32) (t_holes : Int32) (t_guests : Int32) (d_leastFrom : (Nat → Int32)) (d_lawful : (Nat → Int32)) (t_holeFlags : (Nat → Int32)) (t_kinds : (Nat → Int32)) (t_guestFlags : (Nat → Int32)) (t_foes : (Nat → Int32)) (s_coal : (Nat → Int32)) (self : Int32 → Int32 → Int32 → Int32 → (Nat → Int32) → (Nat → Int32) → (Nat → Int32) → (Nat → Int32) → (Nat → Int32) → (Nat → Int32) → (Nat → Int32) → Int32 → (Nat → Int32) → (Nat → Int32) → (Nat → Int32) → Int32 → Int32 → Option (Int32 × (Nat → Int32) × (Nat → Int32) × (Nat → Int32))) (d_bestCost : Int32) (d_row : (Nat → Int32)) (d_best : (Nat → Int32)) (s_inside : (Nat → Int32)) (v3 : Int32) (v4 : Int32) : Option (Int32 × (Nat → Int32) × (Nat → Int32) × (Nat → Int32)) := bif inb v3 5 then (Option.bind (self d_street d_lasting t_holes t_guests d_leastFrom d_lawful t_holeFlags t_kinds t_guestFlags t_foes s_coal d_bestCost (upd d_row (Int32.toNatClampNeg v3) (-1)) d_best s_inside (v3 + 1) v4) fun y2 => (some (y2.1, y2.2.1, y2.2.2.1, y2.2.2.2))) else none
set_option maxHeartbeats 4000000 in
set_option maxRecDepth 100000 in
theorem tX2_lodge_147 {p : Program} {l : Launch} {e : Env} {s : State} {m : MethodId} {args : Array Value} {below : List Frame} {meth : Method} {c : Code} {D : va_G} {cy : Nat → ClassId} {ad : Nat → Nat} {P : MP} {V : MV} {I : MI} {J : MJ} {A : MI} {B : MJ} {Af : Nat → Prop} {R : Room} {res : Int32 × (Nat → Int32) × (Nat → Int32) × (Nat → Int32)} (C0 : CX p s m args meth c cX2_lodge 6 none RX2) (hK : va_K D vwCl (tyG cy) s) (hN : NWs s) (hA : ∀ q, s.heap.size ≤ q → Af q) {self : Int32 → Int32 → Int32 → Int32 → (Nat → Int32) → (Nat → Int32) → (Nat → Int32) → (Nat → Int32) → (Nat → Int32) → (Nat → Int32) → (Nat → Int32) → Int32 → (Nat → Int32) → (Nat → Int32) → (Nat → Int32) → Int32 → Int32 → Option (Int32 × (Nat → Int32) × (Nat → Int32) × (Nat → Int32))} {Rs : Room} (hR : Nat.ble 4 R.frames = true ∧ Nat.ble 90 R.locals = true) (hs : Rs.cells = 0 ∧ Rs.slots = 0) (hroom : Nat.ble (Rs.frames + 1) R.frames = true ∧ Nat.ble (8 + (6 + 11) + Rs.locals) R.locals = true) (hself : ∀ (ad : Nat → Nat) (P : MP) (V : MV) (I : MI) (J : MJ) (A : MI) (B : MJ) (v3 : Int32) (v4 : Int32) {res : Int32 × (Nat → Int32) × (Nat → Int32) × (Nat → Int32)}, self (I 0 3) (I 0 4) (I 5 13) (I 5 14) (A 2) (A 3) (A 10) (A 14) (A 15) (A 16) (A 21) (I 0 5) (A 1) (A 4) (A 22) v3 v4 = some res → CG l yX2_lodge cX2_lodge 6 none Rs D cy (dn cy LY_X2X6X4 ad P V I J A B) [.ref (ad 0), .ref (ad 5), .ref (ad 20), .int v3, .int v4] none (dn cy LY_X2X6X4 ad P V (gp I [(0, 5, res.1)]) (gp J []) (gm A [(1, res.2.1), (4, res.2.2.1), (22, res.2.2.2)]) (gm B []))) : SX2_lodge_147 p l e s m args below meth c D cy ad P V I J A B Af R res (fX2_lodge_147 (I 0 3) (I 0 4) (I 5 13) (I 5 14) (A 2) (A 3) (A 10) (A 14) (A 15) (A 16) (A 21) self) := by
  intro d_bestCost d_row d_best s_inside v3 v4 H locs ls hW hl hf
  unfold fX2_lodge_147 at hf
  refine lv_aload_n C0.1 C0.2.1 dX2_lodge_147 rfl (lv_at hl 0 rfl) ?_
  refine s_get (v := .ref (ad 1)) C0 hK hW 0 0 LY_X2X6X4_0 rfl fg_X2_9 rfl dX2_lodge_148 ?_
  refine lv_iload_n C0.1 C0.2.1 dX2_lodge_151 rfl (lv_at hl 3 rfl) ?_
  refine lv_iconst (v := (-1)) C0.1 C0.2.1 dX2_lodge_152 kI_m1 ?_
  obtain ⟨hb1, hf⟩ := g_some hf
  refine s_iast (f := (upd d_row (Int32.toNatClampNeg v3) (-1))) C0 hK hW 1 LY_X2X6X4_1 hb1 rfl rfl dX2_lodge_153 (fun H locs hW => ?_)
  have hW : wd D (dn cy LY_X2X6X4 ad P V (gp I [(0, 5, d_bestCost)]) (gp J []) (gm A [(1, (upd d_row (Int32.toNatClampNeg v3) (-1))), (4, d_best), (22, s_inside)]) (gm B [])) Af s.heap H locs := hW
  refine lv_aload_n C0.1 C0.2.1 dX2_lodge_154 rfl (lv_at hl 0 rfl) ?_
  refine lv_aload_n C0.1 C0.2.1 dX2_lodge_155 rfl (lv_at hl 1 rfl) ?_
  refine lv_aload_n C0.1 C0.2.1 dX2_lodge_156 rfl (lv_at hl 2 rfl) ?_
  refine lv_iload_n C0.1 C0.2.1 dX2_lodge_157 rfl (lv_at hl 3 rfl) ?_
  refine lv_iconst (v := 1) C0.1 C0.2.1 dX2_lodge_158 kI_1 ?_
  refine lv_iadd C0.1 C0.2.1 dX2_lodge_159 ?_
  refine lv_iload C0.1 C0.2.1 dX2_lodge_160 (lv_at hl 4 rfl) ?_
  obtain ⟨y2, hy2, hf⟩ := b_some hf
  refine c_Sv C0 hK hN hl.1 hW hA (hself ad P V (gp I [(0, 5, d_bestCost)]) (gp J []) (gm A [(1, (upd d_row (Int32.toNatClampNeg v3) (-1))), (4, d_best), (22, s_inside)]) (gm B []) (v3 + 1) v4 hy2) (JN_id rfl rfl rfl rfl) ⟨uw_849, uw_850, uw_9, uw_851⟩ hs.1 hs.2 hd_X2_lodge hroom rfl rfl rfl dX2_lodge_162 ⟨Nat.zero_le _, Nat.zero_le _⟩ (fun H locs hW => ?_)
  have hW : wd D (dn cy LY_X2X6X4 ad P V (gp I [(0, 5, y2.1)]) (gp J []) (gm A [(1, y2.2.1), (4, y2.2.2.1), (22, y2.2.2.2)]) (gm B [])) Af s.heap H locs := hW
  obtain rfl := Option.some.inj hf
  exact r_void C0 hK hW dX2_lodge_165
def fX2_lodge_52 (d_street : Int32) (d_lasting : Int32) (t_holes : Int32) (t_guests : Int32) (d_leastFrom : (Nat → Int32)) (d_lawful : (Nat → Int32)) (t_holeFlags : (Nat → Int32)) (t_kinds : (Nat → Int32)) (t_guestFlags : (Nat → Int32)) (t_foes : (Nat → Int32)) (s_coal : (Nat → Int32)) (self : Int32 → Int32 → Int32 → Int32 → (Nat → Int32) → (Nat → Int32) → (Nat → Int32) → (Nat → Int32) → (Nat → Int32) → (Nat → Int32) → (Nat → Int32) → Int32 → (Nat → Int32) → (Nat → Int32) → (Nat → Int32) → Int32 → Int32 → Option (Int32 × (Nat → Int32) × (Nat → Int32) × (Nat → Int32))) (k52 : Int32 → (Nat → Int32) → (Nat → Int32) → (Nat → Int32) → Int32 → Int32 → Int32 → Option (Int32 × (Nat → Int32) × (Nat → Int32) × (Nat → Int32))) (d_bestCost : Int32) (d_row : (Nat → Int32)) (d_best : (Nat → Int32)) (s_inside : (Nat → Int32)) (v3 : Int32) (v4 : Int32) (v5 : Int32) : Option (Int32 × (Nat → Int32) × (Nat → Int32) × (Nat → Int32)) := if t_holes ≤ v5 then (Option.bind (fX2_costOf d_lasting t_kinds v3 (-1)) fun y2 => (fX2_lodge_147 d_street d_lasting t_holes t_guests d_leastFrom d_lawful t_holeFlags t_kinds t_guestFlags t_foes s_coal self d_bestCost d_row d_best s_inside v3 (v4 + y2))) else (Option.bind (fX2_isTaken d_lawful t_holeFlags t_kinds t_guestFlags t_foes s_coal s_inside v5 v3) fun y3 => (if y3 = 0 then (k52 d_bestCost d_row d_best s_inside v3 v4 (v5 + 1)) else (bif inb v3 5 then (bif inb v5 5 then (bif inb v5 5 then (Option.bind (fX2_costOf d_lasting t_kinds v3 v5) fun y8 => (Option.bind (self d_street d_lasting t_holes t_guests d_leastFrom d_lawful t_holeFlags t_kinds t_guestFlags t_foes s_coal d_bestCost (upd d_row (Int32.toNatClampNeg v3) v5) d_best (upd s_inside (Int32.toNatClampNeg v5) ((s_inside (Int32.toNatClampNeg v5)) ||| (1 <<< (v3 &&& 31)))) (v3 + 1) (v4 + y8)) fun y9 => (bif inb v5 5 then (bif inb v5 5 then (k52 y9.1 y9.2.1 y9.2.2.1 (upd y9.2.2.2 (Int32.toNatClampNeg v5) ((y9.2.2.2 (Int32.toNatClampNeg v5)) &&& ((1 <<< (v3 &&& 31)) ^^^ (-1)))) v3 v4 (v5 + 1)) else none) else none))) else none) else none) else none)))
set_option maxHeartbeats 4000000 in
set_option maxRecDepth 100000 in
theorem tX2_lodge_52 {p : Program} {l : Launch} {e : Env} {s : State} {m : MethodId} {args : Array Value} {below : List Frame} {meth : Method} {c : Code} {D : va_G} {cy : Nat → ClassId} {ad : Nat → Nat} {P : MP} {V : MV} {I : MI} {J : MJ} {A : MI} {B : MJ} {Af : Nat → Prop} {R : Room} {res : Int32 × (Nat → Int32) × (Nat → Int32) × (Nat → Int32)} (C0 : CX p s m args meth c cX2_lodge 6 none RX2) (hK : va_K D vwCl (tyG cy) s) (hN : NWs s) (hA : ∀ q, s.heap.size ≤ q → Af q) {self : Int32 → Int32 → Int32 → Int32 → (Nat → Int32) → (Nat → Int32) → (Nat → Int32) → (Nat → Int32) → (Nat → Int32) → (Nat → Int32) → (Nat → Int32) → Int32 → (Nat → Int32) → (Nat → Int32) → (Nat → Int32) → Int32 → Int32 → Option (Int32 × (Nat → Int32) × (Nat → Int32) × (Nat → Int32))} {Rs : Room} (hR : Nat.ble 4 R.frames = true ∧ Nat.ble 90 R.locals = true) (hs : Rs.cells = 0 ∧ Rs.slots = 0) (hroom : Nat.ble (Rs.frames + 1) R.frames = true ∧ Nat.ble (8 + (6 + 11) + Rs.locals) R.locals = true) (hself : ∀ (ad : Nat → Nat) (P : MP) (V : MV) (I : MI) (J : MJ) (A : MI) (B : MJ) (v3 : Int32) (v4 : Int32) {res : Int32 × (Nat → Int32) × (Nat → Int32) × (Nat → Int32)}, self (I 0 3) (I 0 4) (I 5 13) (I 5 14) (A 2) (A 3) (A 10) (A 14) (A 15) (A 16) (A 21) (I 0 5) (A 1) (A 4) (A 22) v3 v4 = some res → CG l yX2_lodge cX2_lodge 6 none Rs D cy (dn cy LY_X2X6X4 ad P V I J A B) [.ref (ad 0), .ref (ad 5), .ref (ad 20), .int v3, .int v4] none (dn cy LY_X2X6X4 ad P V (gp I [(0, 5, res.1)]) (gp J []) (gm A [(1, res.2.1), (4, res.2.2.1), (22, res.2.2.2)]) (gm B []))) {k52 : Int32 → (Nat → Int32) → (Nat → Int32) → (Nat → Int32) → Int32 → Int32 → Int32 → Option (Int32 × (Nat → Int32) × (Nat → Int32) × (Nat → Int32))} (hk52 : SX2_lodge_52 p l e s m args below meth c D cy ad P V I J A B Af R res k52) : SX2_lodge_52 p l e s m args below meth c D cy ad P V I J A B Af R res (fX2_lodge_52 (I 0 3) (I 0 4) (I 5 13) (I 5 14) (A 2) (A 3) (A 10) (A 14) (A 15) (A 16) (A 21) self k52) := by
  intro d_bestCost d_row d_best s_inside v3 v4 v5 H locs ls hW hl hf
  unfold fX2_lodge_52 at hf
  refine lv_iload C0.1 C0.2.1 dX2_lodge_52 (lv_at hl 5 rfl) ?_
  refine lv_aload_n C0.1 C0.2.1 dX2_lodge_54 rfl (lv_at hl 1 rfl) ?_
  refine s_get (v := .int (I 5 13)) C0 hK hW 5 13 LY_X2X6X4_5 rfl fg_X2_85 rfl dX2_lodge_55 ?_
  refine lv_icmp_ge (tgt := 135) C0.1 C0.2.1 dX2_lodge_58 (by decide) (fun hc1 => ?_) (fun hc1 => ?_)
  · have hf := ite_t hc1 hf
    refine lv_iload C0.1 C0.2.1 dX2_lodge_135 (lv_at hl 4 rfl) ?_
    refine lv_aload_n C0.1 C0.2.1 dX2_lodge_137 rfl (lv_at hl 0 rfl) ?_
    refine lv_aload_n C0.1 C0.2.1 dX2_lodge_138 rfl (lv_at hl 1 rfl) ?_
    refine lv_iload_n C0.1 C0.2.1 dX2_lodge_139 rfl (lv_at hl 3 rfl) ?_
    refine lv_iconst (v := (-1)) C0.1 C0.2.1 dX2_lodge_140 kI_m1 ?_
    obtain ⟨y2, hy2, hf⟩ := b_some hf
    refine c_Vi C0 hK hN hl.1 hW hA (KX2_costOf l D cy  (fun q => ad (pl_LY_X2X6X4_LY_X2X6_0_1_24717415.getD q 0)) (fun q => P (pl_LY_X2X6X4_LY_X2X6_0_1_24717415.getD q 0)) (fun q => Vx LY_X2X6X4 ad V (pl_LY_X2X6X4_LY_X2X6_0_1_24717415.getD q 0)) (fun q => gp I [(0, 5, d_bestCost)] (pl_LY_X2X6X4_LY_X2X6_0_1_24717415.getD q 0)) (fun q => gp J [] (pl_LY_X2X6X4_LY_X2X6_0_1_24717415.getD q 0)) (fun q => gm A [(1, d_row), (4, d_best), (22, s_inside)] (pl_LY_X2X6X4_LY_X2X6_0_1_24717415.getD q 0)) (fun q => gm B [] (pl_LY_X2X6X4_LY_X2X6_0_1_24717415.getD q 0)) v3 (-1) hy2) (JN_subC (pl := pl_LY_X2X6X4_LY_X2X6_0_1_24717415) sb_LY_X2X6X4_LY_X2X6_0_1_24717415 rfl rfl rfl rfl rfl rfl rfl rfl rfl) (Uw_V uw_838 uw_840 us_28 uw_9 uw_841) rfl rfl hd_X2_costOf (rm_le hR rfl rfl) rfl (dn_some LY_X2X6X4_0) rfl rfl rfl dX2_lodge_141 ⟨Nat.zero_le _, Nat.zero_le _⟩ (fun H locs hW => ?_)
    have hW : wd D (dn cy LY_X2X6X4 ad P V (gp I [(0, 5, d_bestCost)]) (gp J []) (gm A [(1, d_row), (4, d_best), (22, s_inside)]) (gm B [])) Af s.heap H locs := hW
    refine lv_iadd C0.1 C0.2.1 dX2_lodge_144 ?_
    refine lv_istore (lv' := [(4, .int (v4 + y2)), (0, .ref (ad 0)), (1, .ref (ad 5)), (2, .ref (ad 20)), (3, .int v3), (5, .int v5)]) C0.1 C0.2.1 dX2_lodge_145 hl (by decide) rfl (fun ls hl => ?_)
    exact tX2_lodge_147 C0 hK hN hA hR hs hroom hself  d_bestCost d_row d_best s_inside v3 (v4 + y2) H locs ls hW (lv_sub hl [1, 2, 3, 4, 0] rfl) hf
  · have hf := ite_f hc1 hf
    refine lv_aload_n C0.1 C0.2.1 dX2_lodge_61 rfl (lv_at hl 0 rfl) ?_
    refine lv_aload_n C0.1 C0.2.1 dX2_lodge_62 rfl (lv_at hl 1 rfl) ?_
    refine lv_aload_n C0.1 C0.2.1 dX2_lodge_63 rfl (lv_at hl 2 rfl) ?_
    refine lv_iload C0.1 C0.2.1 dX2_lodge_64 (lv_at hl 5 rfl) ?_
    refine lv_iload_n C0.1 C0.2.1 dX2_lodge_66 rfl (lv_at hl 3 rfl) ?_
    obtain ⟨y3, hy3, hf⟩ := b_some hf
    refine c_Vi C0 hK hN hl.1 hW hA (KX2_isTaken l D cy  ad P V (gp I [(0, 5, d_bestCost)]) (gp J []) (gm A [(1, d_row), (4, d_best), (22, s_inside)]) (gm B []) v5 v3 hy3) (JN_id rfl rfl rfl rfl) (Uw_V uw_856 uw_858 us_31 uw_9 uw_859) rfl rfl hd_X2_isTaken (rm_le hR rfl rfl) rfl (dn_some LY_X2X6X4_0) rfl rfl rfl dX2_lodge_67 ⟨Nat.zero_le _, Nat.zero_le _⟩ (fun H locs hW => ?_)
    have hW : wd D (dn cy LY_X2X6X4 ad P V (gp I [(0, 5, d_bestCost)]) (gp J []) (gm A [(1, d_row), (4, d_best), (22, s_inside)]) (gm B [])) Af s.heap H locs := hW
    refine lv_if_eq (tgt := 129) C0.1 C0.2.1 dX2_lodge_70 (by decide) (fun hc4 => ?_) (fun hc4 => ?_)
    · have hf := ite_t hc4 hf
      refine lv_iinc (v := (v5 + 1)) (lv' := [(5, .int (v5 + 1)), (0, .ref (ad 0)), (1, .ref (ad 5)), (2, .ref (ad 20)), (3, .int v3), (4, .int v4)]) C0.1 C0.2.1 dX2_lodge_129 hl (k := 5) rfl (congrArg (fun z => _ + z) kI_1) (by decide) rfl (fun ls hl => ?_)
      refine lv_goto (tgt := 52) C0.1 C0.2.1 dX2_lodge_132 (by decide) ?_
      exact hk52 d_bestCost d_row d_best s_inside v3 v4 (v5 + 1) H locs ls hW (lv_sub hl [1, 2, 3, 4, 5, 0] rfl) hf
    · have hf := ite_f hc4 hf
      refine lv_aload_n C0.1 C0.2.1 dX2_lodge_73 rfl (lv_at hl 0 rfl) ?_
      refine s_get (v := .ref (ad 1)) C0 hK hW 0 0 LY_X2X6X4_0 rfl fg_X2_9 rfl dX2_lodge_74 ?_
      refine lv_iload_n C0.1 C0.2.1 dX2_lodge_77 rfl (lv_at hl 3 rfl) ?_
      refine lv_iload C0.1 C0.2.1 dX2_lodge_78 (lv_at hl 5 rfl) ?_
      obtain ⟨hb5, hf⟩ := g_some hf
      refine s_iast (f := (upd d_row (Int32.toNatClampNeg v3) v5)) C0 hK hW 1 LY_X2X6X4_1 hb5 rfl rfl dX2_lodge_80 (fun H locs hW => ?_)
      have hW : wd D (dn cy LY_X2X6X4 ad P V (gp I [(0, 5, d_bestCost)]) (gp J []) (gm A [(1, (upd d_row (Int32.toNatClampNeg v3) v5)), (4, d_best), (22, s_inside)]) (gm B [])) Af s.heap H locs := hW
      refine lv_aload_n C0.1 C0.2.1 dX2_lodge_81 rfl (lv_at hl 2 rfl) ?_
      refine s_get (v := .ref (ad 22)) C0 hK hW 20 1 LY_X2X6X4_20 rfl fg_X2_109 rfl dX2_lodge_82 ?_
      refine lv_iload C0.1 C0.2.1 dX2_lodge_85 (lv_at hl 5 rfl) ?_
      refine lv_dup2_11 C0.1 C0.2.1 dX2_lodge_87 rfl rfl ?_
      obtain ⟨hb6, hf⟩ := g_some hf
      refine s_iald (v := (s_inside (Int32.toNatClampNeg v5))) C0 hK hW 22 LY_X2X6X4_22 hb6 rfl dX2_lodge_88 ?_
      refine lv_iconst (v := 1) C0.1 C0.2.1 dX2_lodge_89 kI_1 ?_
      refine lv_iload_n C0.1 C0.2.1 dX2_lodge_90 rfl (lv_at hl 3 rfl) ?_
      refine lv_ishl C0.1 C0.2.1 dX2_lodge_91 ?_
      refine lv_ior C0.1 C0.2.1 dX2_lodge_92 ?_
      obtain ⟨hb7, hf⟩ := g_some hf
      refine s_iast (f := (upd s_inside (Int32.toNatClampNeg v5) ((s_inside (Int32.toNatClampNeg v5)) ||| (1 <<< (v3 &&& 31))))) C0 hK hW 22 LY_X2X6X4_22 hb7 rfl rfl dX2_lodge_93 (fun H locs hW => ?_)
      have hW : wd D (dn cy LY_X2X6X4 ad P V (gp I [(0, 5, d_bestCost)]) (gp J []) (gm A [(1, (upd d_row (Int32.toNatClampNeg v3) v5)), (4, d_best), (22, (upd s_inside (Int32.toNatClampNeg v5) ((s_inside (Int32.toNatClampNeg v5)) ||| (1 <<< (v3 &&& 31)))))]) (gm B [])) Af s.heap H locs := hW
      refine lv_aload_n C0.1 C0.2.1 dX2_lodge_94 rfl (lv_at hl 0 rfl) ?_
      refine lv_aload_n C0.1 C0.2.1 dX2_lodge_95 rfl (lv_at hl 1 rfl) ?_
      refine lv_aload_n C0.1 C0.2.1 dX2_lodge_96 rfl (lv_at hl 2 rfl) ?_
      refine lv_iload_n C0.1 C0.2.1 dX2_lodge_97 rfl (lv_at hl 3 rfl) ?_
      refine lv_iconst (v := 1) C0.1 C0.2.1 dX2_lodge_98 kI_1 ?_
      refine lv_iadd C0.1 C0.2.1 dX2_lodge_99 ?_
      refine lv_iload C0.1 C0.2.1 dX2_lodge_100 (lv_at hl 4 rfl) ?_
      refine lv_aload_n C0.1 C0.2.1 dX2_lodge_102 rfl (lv_at hl 0 rfl) ?_
      refine lv_aload_n C0.1 C0.2.1 dX2_lodge_103 rfl (lv_at hl 1 rfl) ?_
      refine lv_iload_n C0.1 C0.2.1 dX2_lodge_104 rfl (lv_at hl 3 rfl) ?_
      refine lv_iload C0.1 C0.2.1 dX2_lodge_105 (lv_at hl 5 rfl) ?_
      obtain ⟨y8, hy8, hf⟩ := b_some hf
      refine c_Vi C0 hK hN hl.1 hW hA (KX2_costOf l D cy  (fun q => ad (pl_LY_X2X6X4_LY_X2X6_0_1_24717415.getD q 0)) (fun q => P (pl_LY_X2X6X4_LY_X2X6_0_1_24717415.getD q 0)) (fun q => Vx LY_X2X6X4 ad V (pl_LY_X2X6X4_LY_X2X6_0_1_24717415.getD q 0)) (fun q => gp I [(0, 5, d_bestCost)] (pl_LY_X2X6X4_LY_X2X6_0_1_24717415.getD q 0)) (fun q => gp J [] (pl_LY_X2X6X4_LY_X2X6_0_1_24717415.getD q 0)) (fun q => gm A [(1, (upd d_row (Int32.toNatClampNeg v3) v5)), (4, d_best), (22, (upd s_inside (Int32.toNatClampNeg v5) ((s_inside (Int32.toNatClampNeg v5)) ||| (1 <<< (v3 &&& 31)))))] (pl_LY_X2X6X4_LY_X2X6_0_1_24717415.getD q 0)) (fun q => gm B [] (pl_LY_X2X6X4_LY_X2X6_0_1_24717415.getD q 0)) v3 v5 hy8) (JN_subC (pl := pl_LY_X2X6X4_LY_X2X6_0_1_24717415) sb_LY_X2X6X4_LY_X2X6_0_1_24717415 rfl rfl rfl rfl rfl rfl rfl rfl rfl) (Uw_V uw_838 uw_840 us_28 uw_9 uw_841) rfl rfl hd_X2_costOf (rm_le hR rfl rfl) rfl (dn_some LY_X2X6X4_0) rfl rfl rfl dX2_lodge_107 ⟨Nat.zero_le _, Nat.zero_le _⟩ (fun H locs hW => ?_)
      have hW : wd D (dn cy LY_X2X6X4 ad P V (gp I [(0, 5, d_bestCost)]) (gp J []) (gm A [(1, (upd d_row (Int32.toNatClampNeg v3) v5)), (4, d_best), (22, (upd s_inside (Int32.toNatClampNeg v5) ((s_inside (Int32.toNatClampNeg v5)) ||| (1 <<< (v3 &&& 31)))))]) (gm B [])) Af s.heap H locs := hW
      refine lv_iadd C0.1 C0.2.1 dX2_lodge_110 ?_
      obtain ⟨y9, hy9, hf⟩ := b_some hf
      refine c_Sv C0 hK hN hl.1 hW hA (hself ad P V (gp I [(0, 5, d_bestCost)]) (gp J []) (gm A [(1, (upd d_row (Int32.toNatClampNeg v3) v5)), (4, d_best), (22, (upd s_inside (Int32.toNatClampNeg v5) ((s_inside (Int32.toNatClampNeg v5)) ||| (1 <<< (v3 &&& 31)))))]) (gm B []) (v3 + 1) (v4 + y8) hy9) (JN_id rfl rfl rfl rfl) ⟨uw_849, uw_850, uw_9, uw_851⟩ hs.1 hs.2 hd_X2_lodge hroom rfl rfl rfl dX2_lodge_111 ⟨Nat.zero_le _, Nat.zero_le _⟩ (fun H locs hW => ?_)
      have hW : wd D (dn cy LY_X2X6X4 ad P V (gp I [(0, 5, y9.1)]) (gp J []) (gm A [(1, y9.2.1), (4, y9.2.2.1), (22, y9.2.2.2)]) (gm B [])) Af s.heap H locs := hW
      refine lv_aload_n C0.1 C0.2.1 dX2_lodge_114 rfl (lv_at hl 2 rfl) ?_
      refine s_get (v := .ref (ad 22)) C0 hK hW 20 1 LY_X2X6X4_20 rfl fg_X2_109 rfl dX2_lodge_115 ?_
      refine lv_iload C0.1 C0.2.1 dX2_lodge_118 (lv_at hl 5 rfl) ?_
      refine lv_dup2_11 C0.1 C0.2.1 dX2_lodge_120 rfl rfl ?_
      obtain ⟨hb10, hf⟩ := g_some hf
      refine s_iald (v := (y9.2.2.2 (Int32.toNatClampNeg v5))) C0 hK hW 22 LY_X2X6X4_22 hb10 rfl dX2_lodge_121 ?_
      refine lv_iconst (v := 1) C0.1 C0.2.1 dX2_lodge_122 kI_1 ?_
      refine lv_iload_n C0.1 C0.2.1 dX2_lodge_123 rfl (lv_at hl 3 rfl) ?_
      refine lv_ishl C0.1 C0.2.1 dX2_lodge_124 ?_
      refine lv_iconst (v := (-1)) C0.1 C0.2.1 dX2_lodge_125 kI_m1 ?_
      refine lv_ixor C0.1 C0.2.1 dX2_lodge_126 ?_
      refine lv_iand C0.1 C0.2.1 dX2_lodge_127 ?_
      obtain ⟨hb11, hf⟩ := g_some hf
      refine s_iast (f := (upd y9.2.2.2 (Int32.toNatClampNeg v5) ((y9.2.2.2 (Int32.toNatClampNeg v5)) &&& ((1 <<< (v3 &&& 31)) ^^^ (-1))))) C0 hK hW 22 LY_X2X6X4_22 hb11 rfl rfl dX2_lodge_128 (fun H locs hW => ?_)
      have hW : wd D (dn cy LY_X2X6X4 ad P V (gp I [(0, 5, y9.1)]) (gp J []) (gm A [(1, y9.2.1), (4, y9.2.2.1), (22, (upd y9.2.2.2 (Int32.toNatClampNeg v5) ((y9.2.2.2 (Int32.toNatClampNeg v5)) &&& ((1 <<< (v3 &&& 31)) ^^^ (-1)))))]) (gm B [])) Af s.heap H locs := hW
      refine lv_iinc (v := (v5 + 1)) (lv' := [(5, .int (v5 + 1)), (0, .ref (ad 0)), (1, .ref (ad 5)), (2, .ref (ad 20)), (3, .int v3), (4, .int v4)]) C0.1 C0.2.1 dX2_lodge_129 hl (k := 5) rfl (congrArg (fun z => _ + z) kI_1) (by decide) rfl (fun ls hl => ?_)
      refine lv_goto (tgt := 52) C0.1 C0.2.1 dX2_lodge_132 (by decide) ?_
      exact hk52 y9.1 y9.2.1 y9.2.2.1 (upd y9.2.2.2 (Int32.toNatClampNeg v5) ((y9.2.2.2 (Int32.toNatClampNeg v5)) &&& ((1 <<< (v3 &&& 31)) ^^^ (-1)))) v3 v4 (v5 + 1) H locs ls hW (lv_sub hl [1, 2, 3, 4, 5, 0] rfl) hf
theorem TX2_lodge_52 {p : Program} {l : Launch} {e : Env} {s : State} {m : MethodId} {args : Array Value} {below : List Frame} {meth : Method} {c : Code} {D : va_G} {cy : Nat → ClassId} {ad : Nat → Nat} {P : MP} {V : MV} {I : MI} {J : MJ} {A : MI} {B : MJ} {Af : Nat → Prop} {R : Room} {res : Int32 × (Nat → Int32) × (Nat → Int32) × (Nat → Int32)} (C0 : CX p s m args meth c cX2_lodge 6 none RX2) (hK : va_K D vwCl (tyG cy) s) (hN : NWs s) (hA : ∀ q, s.heap.size ≤ q → Af q) {self : Int32 → Int32 → Int32 → Int32 → (Nat → Int32) → (Nat → Int32) → (Nat → Int32) → (Nat → Int32) → (Nat → Int32) → (Nat → Int32) → (Nat → Int32) → Int32 → (Nat → Int32) → (Nat → Int32) → (Nat → Int32) → Int32 → Int32 → Option (Int32 × (Nat → Int32) × (Nat → Int32) × (Nat → Int32))} {Rs : Room} (hR : Nat.ble 4 R.frames = true ∧ Nat.ble 90 R.locals = true) (hs : Rs.cells = 0 ∧ Rs.slots = 0) (hroom : Nat.ble (Rs.frames + 1) R.frames = true ∧ Nat.ble (8 + (6 + 11) + Rs.locals) R.locals = true) (hself : ∀ (ad : Nat → Nat) (P : MP) (V : MV) (I : MI) (J : MJ) (A : MI) (B : MJ) (v3 : Int32) (v4 : Int32) {res : Int32 × (Nat → Int32) × (Nat → Int32) × (Nat → Int32)}, self (I 0 3) (I 0 4) (I 5 13) (I 5 14) (A 2) (A 3) (A 10) (A 14) (A 15) (A 16) (A 21) (I 0 5) (A 1) (A 4) (A 22) v3 v4 = some res → CG l yX2_lodge cX2_lodge 6 none Rs D cy (dn cy LY_X2X6X4 ad P V I J A B) [.ref (ad 0), .ref (ad 5), .ref (ad 20), .int v3, .int v4] none (dn cy LY_X2X6X4 ad P V (gp I [(0, 5, res.1)]) (gp J []) (gm A [(1, res.2.1), (4, res.2.2.1), (22, res.2.2.2)]) (gm B []))) : ∀ n, SX2_lodge_52 p l e s m args below meth c D cy ad P V I J A B Af R res (itr (fun kk => fX2_lodge_52 (I 0 3) (I 0 4) (I 5 13) (I 5 14) (A 2) (A 3) (A 10) (A 14) (A 15) (A 16) (A 21) self kk) (fun _ _ _ _ _ _ _ => none) n) := by
  intro n
  induction n with
  | zero => intro d_bestCost d_row d_best s_inside v3 v4 v5 H locs ls hW hl hf; exact (nomatch (show (none : Option (Int32 × (Nat → Int32) × (Nat → Int32) × (Nat → Int32))) = some res from hf))
  | succ n ih => exact tX2_lodge_52 C0 hK hN hA hR hs hroom hself  ih
def FX2_lodge (self : Int32 → Int32 → Int32 → Int32 → (Nat → Int32) → (Nat → Int32) → (Nat → Int32) → (Nat → Int32) → (Nat → Int32) → (Nat → Int32) → (Nat → Int32) → Int32 → (Nat → Int32) → (Nat → Int32) → (Nat → Int32) → Int32 → Int32 → Option (Int32 × (Nat → Int32) × (Nat → Int32) × (Nat → Int32))) (d_street : Int32) (d_lasting : Int32) (t_holes : Int32) (t_guests : Int32) (d_leastFrom : (Nat → Int32)) (d_lawful : (Nat → Int32)) (t_holeFlags : (Nat → Int32)) (t_kinds : (Nat → Int32)) (t_guestFlags : (Nat → Int32)) (t_foes : (Nat → Int32)) (s_coal : (Nat → Int32)) (d_bestCost : Int32) (d_row : (Nat → Int32)) (d_best : (Nat → Int32)) (s_inside : (Nat → Int32)) (v3 : Int32) (v4 : Int32) : Option (Int32 × (Nat → Int32) × (Nat → Int32) × (Nat → Int32)) := if t_guests < v3 then (some (d_bestCost, d_row, d_best, s_inside)) else (bif inb v3 6 then (if (v4 + (d_leastFrom (Int32.toNatClampNeg v3))) < d_bestCost then (if v3 = t_guests then (Option.bind (fX2_keepRow d_row d_bestCost d_best v3 v4) fun y7 => (some (y7.1, d_row, y7.2, s_inside))) else (Option.bind (fX2_isLodged d_street v3) fun y5 => (if y5 = 0 then (fX2_lodge_147 d_street d_lasting t_holes t_guests d_leastFrom d_lawful t_holeFlags t_kinds t_guestFlags t_foes s_coal self d_bestCost d_row d_best s_inside v3 v4) else (itr (fun kk => fX2_lodge_52 d_street d_lasting t_holes t_guests d_leastFrom d_lawful t_holeFlags t_kinds t_guestFlags t_foes s_coal self kk) (fun _ _ _ _ _ _ _ => none) FU d_bestCost d_row d_best s_inside v3 v4 0)))) else (some (d_bestCost, d_row, d_best, s_inside))) else none)
def fX2_lodge (d : Nat) : Int32 → Int32 → Int32 → Int32 → (Nat → Int32) → (Nat → Int32) → (Nat → Int32) → (Nat → Int32) → (Nat → Int32) → (Nat → Int32) → (Nat → Int32) → Int32 → (Nat → Int32) → (Nat → Int32) → (Nat → Int32) → Int32 → Int32 → Option (Int32 × (Nat → Int32) × (Nat → Int32) × (Nat → Int32)) := itr FX2_lodge (fun _ _ _ _ _ _ _ _ _ _ _ _ _ _ _ _ _ => none) d
set_option maxHeartbeats 4000000 in
set_option maxRecDepth 100000 in
theorem KX2_lodge (d : Nat) (l : Launch) (D : va_G) (cy : Nat → ClassId) (ad : Nat → Nat) (P : MP) (V : MV) (I : MI) (J : MJ) (A : MI) (B : MJ) (v3 : Int32) (v4 : Int32) {res : Int32 × (Nat → Int32) × (Nat → Int32) × (Nat → Int32)} (hf : fX2_lodge d (I 0 3) (I 0 4) (I 5 13) (I 5 14) (A 2) (A 3) (A 10) (A 14) (A 15) (A 16) (A 21) (I 0 5) (A 1) (A 4) (A 22) v3 v4 = some res) : CG l yX2_lodge cX2_lodge 6 none (rmX2_lodge d) D cy (dn cy LY_X2X6X4 ad P V I J A B) [.ref (ad 0), .ref (ad 5), .ref (ad 20), .int v3, .int v4] none (dn cy LY_X2X6X4 ad P V (gp I [(0, 5, res.1)]) (gp J []) (gm A [(1, res.2.1), (4, res.2.2.1), (22, res.2.2.2)]) (gm B [])) := by
  induction d generalizing ad P V I J A B v3 v4 res with
  | zero => exact (nomatch (show (none : Option (Int32 × (Nat → Int32) × (Nat → Int32) × (Nat → Int32))) = some res from hf))
  | succ d ih =>
  have hR : Nat.ble 4 (rmX2_lodge (d + 1)).frames = true ∧ Nat.ble 90 (rmX2_lodge (d + 1)).locals = true := ⟨Nat.ble_eq_true_of_le (by show 4 ≤ d + 1 + 4; omega), Nat.ble_eq_true_of_le (by show 90 ≤ (d + 1) * 25 + 90; omega)⟩
  have hs : (rmX2_lodge d).cells = 0 ∧ (rmX2_lodge d).slots = 0 := ⟨rfl, rfl⟩
  have hroom : Nat.ble ((rmX2_lodge d).frames + 1) (rmX2_lodge (d + 1)).frames = true ∧ Nat.ble (8 + (6 + 11) + (rmX2_lodge d).locals) (rmX2_lodge (d + 1)).locals = true := ⟨Nat.ble_eq_true_of_le (by show d + 4 + 1 ≤ d + 1 + 4; omega), Nat.ble_eq_true_of_le (by show 8 + (6 + 11) + (d * 25 + 90) ≤ (d + 1) * 25 + 90; omega)⟩
  have hself : ∀ (ad : Nat → Nat) (P : MP) (V : MV) (I : MI) (J : MJ) (A : MI) (B : MJ) (v3 : Int32) (v4 : Int32) {res : Int32 × (Nat → Int32) × (Nat → Int32) × (Nat → Int32)}, fX2_lodge d (I 0 3) (I 0 4) (I 5 13) (I 5 14) (A 2) (A 3) (A 10) (A 14) (A 15) (A 16) (A 21) (I 0 5) (A 1) (A 4) (A 22) v3 v4 = some res → CG l yX2_lodge cX2_lodge 6 none (rmX2_lodge d) D cy (dn cy LY_X2X6X4 ad P V I J A B) [.ref (ad 0), .ref (ad 5), .ref (ad 20), .int v3, .int v4] none (dn cy LY_X2X6X4 ad P V (gp I [(0, 5, res.1)]) (gp J []) (gm A [(1, res.2.1), (4, res.2.2.1), (22, res.2.2.2)]) (gm B [])) := fun ad P V I J A B v3 v4 _ hf => ih ad P V I J A B v3 v4 hf
  have hf : FX2_lodge (fX2_lodge d) (I 0 3) (I 0 4) (I 5 13) (I 5 14) (A 2) (A 3) (A 10) (A 14) (A 15) (A 16) (A 21) (I 0 5) (A 1) (A 4) (A 22) v3 v4 = some res := hf
  generalize fX2_lodge d = self at hf hself
  refine CG.of (own := RX2) (by decide) rfl rfl ?_
  intro p e s m below meth c ls Af C0 hK hN hA hW hl
  have hW : wd D (dn cy LY_X2X6X4 ad P V (gp I [(0, 5, (I 0 5))]) (gp J []) (gm A [(1, (A 1)), (4, (A 4)), (22, (A 22))]) (gm B [])) Af s.heap s.heap [] := wd_sel [(0, 5)] [] [1, 4, 22] [] hW
  have hl : lv_has ls 6 [(0, .ref (ad 0)), (1, .ref (ad 5)), (2, .ref (ad 20)), (3, .int v3), (4, .int v4)] := hl
  unfold FX2_lodge at hf
  refine lv_iload_n C0.1 C0.2.1 dX2_lodge_0 rfl (lv_at hl 3 rfl) ?_
  refine lv_aload_n C0.1 C0.2.1 dX2_lodge_1 rfl (lv_at hl 1 rfl) ?_
  refine s_get (v := .int (I 5 14)) C0 hK hW 5 14 LY_X2X6X4_5 rfl fg_X2_57 rfl dX2_lodge_2 ?_
  refine lv_icmp_gt (tgt := 24) C0.1 C0.2.1 dX2_lodge_5 (by decide) (fun hc1 => ?_) (fun hc1 => ?_)
  · have hf := ite_t hc1 hf
    obtain rfl := Option.some.inj hf
    exact r_void C0 hK hW dX2_lodge_24
  · have hf := ite_f hc1 hf
    refine lv_iload C0.1 C0.2.1 dX2_lodge_8 (lv_at hl 4 rfl) ?_
    refine lv_aload_n C0.1 C0.2.1 dX2_lodge_10 rfl (lv_at hl 0 rfl) ?_
    refine s_get (v := .ref (ad 2)) C0 hK hW 0 1 LY_X2X6X4_0 rfl fg_X2_15 rfl dX2_lodge_11 ?_
    refine lv_iload_n C0.1 C0.2.1 dX2_lodge_14 rfl (lv_at hl 3 rfl) ?_
    obtain ⟨hb2, hf⟩ := g_some hf
    refine s_iald (v := ((A 2) (Int32.toNatClampNeg v3))) C0 hK hW 2 LY_X2X6X4_2 hb2 rfl dX2_lodge_15 ?_
    refine lv_iadd C0.1 C0.2.1 dX2_lodge_16 ?_
    refine lv_aload_n C0.1 C0.2.1 dX2_lodge_17 rfl (lv_at hl 0 rfl) ?_
    refine s_get (v := .int (I 0 5)) C0 hK hW 0 5 LY_X2X6X4_0 rfl fg_X2_71 rfl dX2_lodge_18 ?_
    refine lv_icmp_lt (tgt := 25) C0.1 C0.2.1 dX2_lodge_21 (by decide) (fun hc3 => ?_) (fun hc3 => ?_)
    · have hf := ite_t hc3 hf
      refine lv_iload_n C0.1 C0.2.1 dX2_lodge_25 rfl (lv_at hl 3 rfl) ?_
      refine lv_aload_n C0.1 C0.2.1 dX2_lodge_26 rfl (lv_at hl 1 rfl) ?_
      refine s_get (v := .int (I 5 14)) C0 hK hW 5 14 LY_X2X6X4_5 rfl fg_X2_57 rfl dX2_lodge_27 ?_
      refine lv_icmp_ne (tgt := 41) C0.1 C0.2.1 dX2_lodge_30 (by decide) (fun hc4 => ?_) (fun hc4 => ?_)
      · have hf := ite_f hc4 hf
        refine lv_aload_n C0.1 C0.2.1 dX2_lodge_41 rfl (lv_at hl 0 rfl) ?_
        refine lv_iload_n C0.1 C0.2.1 dX2_lodge_42 rfl (lv_at hl 3 rfl) ?_
        obtain ⟨y5, hy5, hf⟩ := b_some hf
        refine c_Vi C0 hK hN hl.1 hW hA (KX2_isLodged l D cy  (fun q => ad (pl_LY_X2X6X4_LY_X2_0_1_2_3_4.getD q 0)) (fun q => P (pl_LY_X2X6X4_LY_X2_0_1_2_3_4.getD q 0)) (fun q => Vx LY_X2X6X4 ad V (pl_LY_X2X6X4_LY_X2_0_1_2_3_4.getD q 0)) (fun q => gp I [(0, 5, (I 0 5))] (pl_LY_X2X6X4_LY_X2_0_1_2_3_4.getD q 0)) (fun q => gp J [] (pl_LY_X2X6X4_LY_X2_0_1_2_3_4.getD q 0)) (fun q => gm A [(1, (A 1)), (4, (A 4)), (22, (A 22))] (pl_LY_X2X6X4_LY_X2_0_1_2_3_4.getD q 0)) (fun q => gm B [] (pl_LY_X2X6X4_LY_X2_0_1_2_3_4.getD q 0)) v3 hy5) (JN_subC (pl := pl_LY_X2X6X4_LY_X2_0_1_2_3_4) sb_LY_X2X6X4_LY_X2_0_1_2_3_4 rfl rfl rfl rfl rfl rfl rfl rfl rfl) (Uw_V uw_830 uw_832 us_26 uw_9 uw_833) rfl rfl hd_X2_isLodged (rm_le hR rfl rfl) rfl (dn_some LY_X2X6X4_0) rfl rfl rfl dX2_lodge_43 ⟨Nat.zero_le _, Nat.zero_le _⟩ (fun H locs hW => ?_)
        have hW : wd D (dn cy LY_X2X6X4 ad P V (gp I [(0, 5, (I 0 5))]) (gp J []) (gm A [(1, (A 1)), (4, (A 4)), (22, (A 22))]) (gm B [])) Af s.heap H locs := hW
        refine lv_if_eq (tgt := 147) C0.1 C0.2.1 dX2_lodge_46 (by decide) (fun hc6 => ?_) (fun hc6 => ?_)
        · have hf := ite_t hc6 hf
          exact tX2_lodge_147 C0 hK hN hA hR hs hroom hself  (I 0 5) (A 1) (A 4) (A 22) v3 v4 _ _ ls hW hl hf
        · have hf := ite_f hc6 hf
          refine lv_iconst (v := 0) C0.1 C0.2.1 dX2_lodge_49 kI_0 ?_
          refine lv_istore (lv' := [(5, .int 0), (0, .ref (ad 0)), (1, .ref (ad 5)), (2, .ref (ad 20)), (3, .int v3), (4, .int v4)]) C0.1 C0.2.1 dX2_lodge_50 hl (by decide) rfl (fun ls hl => ?_)
          exact TX2_lodge_52 C0 hK hN hA hR hs hroom hself  FU (I 0 5) (A 1) (A 4) (A 22) v3 v4 0 _ _ ls hW (lv_sub hl [1, 2, 3, 4, 5, 0] rfl) hf
      · have hf := ite_t hc4 hf
        refine lv_aload_n C0.1 C0.2.1 dX2_lodge_33 rfl (lv_at hl 0 rfl) ?_
        refine lv_iload_n C0.1 C0.2.1 dX2_lodge_34 rfl (lv_at hl 3 rfl) ?_
        refine lv_iload C0.1 C0.2.1 dX2_lodge_35 (lv_at hl 4 rfl) ?_
        obtain ⟨y7, hy7, hf⟩ := b_some hf
        refine c_Vv C0 hK hN hl.1 hW hA (KX2_keepRow l D cy  (fun q => ad (pl_LY_X2X6X4_LY_X2_0_1_2_3_4.getD q 0)) (fun q => P (pl_LY_X2X6X4_LY_X2_0_1_2_3_4.getD q 0)) (fun q => Vx LY_X2X6X4 ad V (pl_LY_X2X6X4_LY_X2_0_1_2_3_4.getD q 0)) (fun q => gp I [(0, 5, (I 0 5))] (pl_LY_X2X6X4_LY_X2_0_1_2_3_4.getD q 0)) (fun q => gp J [] (pl_LY_X2X6X4_LY_X2_0_1_2_3_4.getD q 0)) (fun q => gm A [(1, (A 1)), (4, (A 4)), (22, (A 22))] (pl_LY_X2X6X4_LY_X2_0_1_2_3_4.getD q 0)) (fun q => gm B [] (pl_LY_X2X6X4_LY_X2_0_1_2_3_4.getD q 0)) v3 v4 hy7) (JN_subC (pl := pl_LY_X2X6X4_LY_X2_0_1_2_3_4) sb_LY_X2X6X4_LY_X2_0_1_2_3_4 rfl rfl rfl rfl rfl rfl rfl rfl rfl) (Uw_V uw_852 uw_854 us_30 uw_9 uw_855) rfl rfl hd_X2_keepRow (rm_le hR rfl rfl) rfl (dn_some LY_X2X6X4_0) rfl rfl rfl dX2_lodge_37 ⟨Nat.zero_le _, Nat.zero_le _⟩ (fun H locs hW => ?_)
        have hW : wd D (dn cy LY_X2X6X4 ad P V (gp I [(0, 5, y7.1)]) (gp J []) (gm A [(1, (A 1)), (4, y7.2), (22, (A 22))]) (gm B [])) Af s.heap H locs := hW
        obtain rfl := Option.some.inj hf
        exact r_void C0 hK hW dX2_lodge_40
    · have hf := ite_f hc3 hf
      obtain rfl := Option.some.inj hf
      exact r_void C0 hK hW dX2_lodge_24
