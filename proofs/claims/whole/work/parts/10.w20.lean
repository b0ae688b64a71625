-- X9_guest
def rmX9_guest : Room := { frames := 5, cells := 0, slots := 0, locals := 106 }
def fX9_guest (m_terrace : (Nat → Int32)) (m_kind : (Nat → Int32)) (m_guestFlag : (Nat → Int32)) (m_wars : (Nat → Int32)) (m_s : (Nat → Int32)) (m_thrown : Int32) (v1 : Int32) (v2 : Int32) : Option (Int32 × Int32) := Option.bind (fX9_isGuest m_terrace v1) fun y1 => (if y1 = 0 then (some ((-2), 0)) else (Option.bind (fX9_within v2 0 4) fun y3 => (if y3 = 0 then (some ((-2), 0)) else (if 3 ≤ v2 then (if v2 = 3 then (Option.bind (fX9_isSeized m_s v1) fun y8 => (if y8 = 0 then (some (0, 0)) else (some (1, 0)))) else (Option.bind (fX9_foesOf m_terrace m_guestFlag m_wars m_s v1) fun y7 => (some (y7, 0)))) else (if v2 = 0 then (bif inb v1 10 then (some ((m_kind (Int32.toNatClampNeg v1)), 0)) else none) else (if v2 = 1 then (bif inb v1 10 then (some ((m_guestFlag (Int32.toNatClampNeg v1)), 0)) else none) else (bif inb (8 + v1) 13 then (some (((m_s (Int32.toNatClampNeg (8 + v1))) - 1), 0)) else none)))))))
set_option maxHeartbeats 4000000 in
set_option maxRecDepth 100000 in
theorem KX9_guest (l : Launch) (D : va_G) (cy : Nat → ClassId) (ad : Nat → Nat) (P : MP) (V : MV) (I : MI) (J : MJ) (A : MI) (B : MJ) (v1 : Int32) (v2 : Int32) {res : Int32 × Int32} (hf : fX9_guest (A 2) (A 9) (A 10) (A 11) (A 35) (I 0 0) v1 v2 = some res) : CG l yX9_guest cX9_guest 3 (some .int) rmX9_guest D cy (dn cy LY_X9 ad P V I J A B) [.ref (ad 0), .int v1, .int v2] (some (.int res.1)) (dn cy LY_X9 ad P V (gp I [(0, 0, res.2)]) (gp J []) (gm A []) (gm B [])) := by
  refine CG.of (own := RX9) (by decide) rfl rfl ?_
  intro p e s m below meth c ls Af C0 hK hN hA hW hl
  have hW : wd D (dn cy LY_X9 ad P V (gp I [(0, 0, (I 0 0))]) (gp J []) (gm A []) (gm B [])) Af s.heap s.heap [] := wd_sel [(0, 0)] [] [] [] hW
  have hl : lv_has ls 3 [(0, .ref (ad 0)), (1, .int v1), (2, .int v2)] := hl
  unfold fX9_guest at hf
  refine lv_aload_n C0.1 C0.2.1 dX9_guest_0 rfl (lv_at hl 0 rfl) ?_
  refine lv_iconst (v := 0) C0.1 C0.2.1 dX9_guest_1 kI_0 ?_
  refine s_putI C0 hK hW 0 0 LY_X9_0 rfl fg_X9_142 fp_X9_0 rfl dX9_guest_2 (fun H locs hW => ?_)
  have hW : wd D (dn cy LY_X9 ad P V (gp I [(0, 0, 0)]) (gp J []) (gm A []) (gm B [])) Af s.heap H locs := hW
  refine lv_aload_n C0.1 C0.2.1 dX9_guest_5 rfl (lv_at hl 0 rfl) ?_
  refine lv_iload_n C0.1 C0.2.1 dX9_guest_6 rfl (lv_at hl 1 rfl) ?_
  obtain ⟨y1, hy1, hf⟩ := b_some hf
  refine c_Vi C0 hK hN hl.1 hW hA (KX9_isGuest l D cy  ad P V (gp I [(0, 0, 0)]) (gp J []) (gm A []) (gm B []) v1 hy1) (JN_id rfl rfl rfl rfl) (Uw_V uw_1463 uw_1465 us_75 uw_14 uw_1466) rfl rfl hd_X9_isGuest ⟨rfl, rfl⟩ rfl (dn_some LY_X9_0) rfl rfl rfl dX9_guest_7 ⟨Nat.zero_le _, Nat.zero_le _⟩ (fun H locs hW => ?_)
  have hW : wd D (dn cy LY_X9 ad P V (gp I [(0, 0, 0)]) (gp J []) (gm A []) (gm B [])) Af s.heap H locs := hW
  refine lv_if_eq (tgt := 22) C0.1 C0.2.1 dX9_guest_10 (by decide) (fun hc2 => ?_) (fun hc2 => ?_)
  · have hf := ite_t hc2 hf
    refine lv_bipush (v := (-2)) C0.1 C0.2.1 dX9_guest_22 kB_m2 ?_
    obtain rfl := Option.some.inj hf
    exact r_int C0 hK hW dX9_guest_24
  · have hf := ite_f hc2 hf
    refine lv_iload_n C0.1 C0.2.1 dX9_guest_13 rfl (lv_at hl 2 rfl) ?_
    refine lv_iconst (v := 0) C0.1 C0.2.1 dX9_guest_14 kI_0 ?_
    refine lv_iconst (v := 4) C0.1 C0.2.1 dX9_guest_15 kI_4 ?_
    obtain ⟨y3, hy3, hf⟩ := b_some hf
    refine c_Si C0 hK hN hl.1 hW hA (KX9_within l D cy  (fun q => ad (pl_LY_X9_LY_0_.getD q 0)) (fun q => P (pl_LY_X9_LY_0_.getD q 0)) (fun q => Vx LY_X9 ad V (pl_LY_X9_LY_0_.getD q 0)) (fun q => gp I [(0, 0, 0)] (pl_LY_X9_LY_0_.getD q 0)) (fun q => gp J [] (pl_LY_X9_LY_0_.getD q 0)) (fun q => gm A [] (pl_LY_X9_LY_0_.getD q 0)) (fun q => gm B [] (pl_LY_X9_LY_0_.getD q 0)) v2 0 4 hy3) (JN_subC (pl := pl_LY_X9_LY_0_) sb_LY_X9_LY_0_ rfl rfl rfl rfl rfl rfl rfl rfl rfl) ⟨uw_1331, uw_1332, uw_14, uw_1333⟩ rfl rfl hd_X9_within ⟨rfl, rfl⟩ rfl rfl rfl dX9_guest_16 ⟨Nat.zero_le _, Nat.zero_le _⟩ (fun H locs hW => ?_)
    have hW : wd D (dn cy LY_X9 ad P V (gp I [(0, 0, 0)]) (gp J []) (gm A []) (gm B [])) Af s.heap H locs := hW
    refine lv_if_ne (tgt := 25) C0.1 C0.2.1 dX9_guest_19 (by decide) (fun hc4 => ?_) (fun hc4 => ?_)
    · have hf := ite_f hc4 hf
      refine lv_iload_n C0.1 C0.2.1 dX9_guest_25 rfl (lv_at hl 2 rfl) ?_
      refine lv_iconst (v := 3) C0.1 C0.2.1 dX9_guest_26 kI_3 ?_
      refine lv_icmp_ge (tgt := 69) C0.1 C0.2.1 dX9_guest_27 (by decide) (fun hc5 => ?_) (fun hc5 => ?_)
      · have hf := ite_t hc5 hf
        refine lv_iload_n C0.1 C0.2.1 dX9_guest_69 rfl (lv_at hl 2 rfl) ?_
        refine lv_iconst (v := 3) C0.1 C0.2.1 dX9_guest_70 kI_3 ?_
        refine lv_icmp_ne (tgt := 90) C0.1 C0.2.1 dX9_guest_71 (by decide) (fun hc6 => ?_) (fun hc6 => ?_)
        · have hf := ite_f hc6 hf
          refine lv_aload_n C0.1 C0.2.1 dX9_guest_90 rfl (lv_at hl 0 rfl) ?_
          refine lv_iload_n C0.1 C0.2.1 dX9_guest_91 rfl (lv_at hl 1 rfl) ?_
          obtain ⟨y7, hy7, hf⟩ := b_some hf
          refine c_Vi C0 hK hN hl.1 hW hA (KX9_foesOf l D cy  ad P V (gp I [(0, 0, 0)]) (gp J []) (gm A []) (gm B []) v1 hy7) (JN_id rfl rfl rfl rfl) (Uw_V uw_1471 uw_1473 us_77 uw_14 uw_1474) rfl rfl hd_X9_foesOf ⟨rfl, rfl⟩ rfl (dn_some LY_X9_0) rfl rfl rfl dX9_guest_92 ⟨Nat.zero_le _, Nat.zero_le _⟩ (fun H locs hW => ?_)
          have hW : wd D (dn cy LY_X9 ad P V (gp I [(0, 0, 0)]) (gp J []) (gm A []) (gm B [])) Af s.heap H locs := hW
          obtain rfl := Option.some.inj hf
          exact r_int C0 hK hW dX9_guest_95
        · have hf := ite_t hc6 hf
          refine lv_aload_n C0.1 C0.2.1 dX9_guest_74 rfl (lv_at hl 0 rfl) ?_
          refine lv_iload_n C0.1 C0.2.1 dX9_guest_75 rfl (lv_at hl 1 rfl) ?_
          obtain ⟨y8, hy8, hf⟩ := b_some hf
          refine c_Vi C0 hK hN hl.1 hW hA (KX9_isSeized l D cy  ad P V (gp I [(0, 0, 0)]) (gp J []) (gm A []) (gm B []) v1 hy8) (JN_id rfl rfl rfl rfl) (Uw_V uw_1467 uw_1469 us_76 uw_14 uw_1470) rfl rfl hd_X9_isSeized ⟨rfl, rfl⟩ rfl (dn_some LY_X9_0) rfl rfl rfl dX9_guest_76 ⟨Nat.zero_le _, Nat.zero_le _⟩ (fun H locs hW => ?_)
          have hW : wd D (dn cy LY_X9 ad P V (gp I [(0, 0, 0)]) (gp J []) (gm A []) (gm B [])) Af s.heap H locs := hW
          refine lv_if_eq (tgt := 86) C0.1 C0.2.1 dX9_guest_79 (by decide) (fun hc9 => ?_) (fun hc9 => ?_)
          · have hf := ite_t hc9 hf
            refine lv_iconst (v := 0) C0.1 C0.2.1 dX9_guest_86 kI_0 ?_
            refine lv_goto (tgt := 95) C0.1 C0.2.1 dX9_guest_87 (by decide) ?_
            obtain rfl := Option.some.inj hf
            exact r_int C0 hK hW dX9_guest_95
          · have hf := ite_f hc9 hf
            refine lv_iconst (v := 1) C0.1 C0.2.1 dX9_guest_82 kI_1 ?_
            refine lv_goto (tgt := 95) C0.1 C0.2.1 dX9_guest_83 (by decide) ?_
            obtain rfl := Option.some.inj hf
            exact r_int C0 hK hW dX9_guest_95
      · have hf := ite_f hc5 hf
        refine lv_iload_n C0.1 C0.2.1 dX9_guest_30 rfl (lv_at hl 2 rfl) ?_
        refine lv_if_ne (tgt := 43) C0.1 C0.2.1 dX9_guest_31 (by decide) (fun hc10 => ?_) (fun hc10 => ?_)
        · have hf := ite_f hc10 hf
          refine lv_iload_n C0.1 C0.2.1 dX9_guest_43 rfl (lv_at hl 2 rfl) ?_
          refine lv_iconst (v := 1) C0.1 C0.2.1 dX9_guest_44 kI_1 ?_
          refine lv_icmp_ne (tgt := 57) C0.1 C0.2.1 dX9_guest_45 (by decide) (fun hc11 => ?_) (fun hc11 => ?_)
          · have hf := ite_f hc11 hf
            refine lv_aload_n C0.1 C0.2.1 dX9_guest_57 rfl (lv_at hl 0 rfl) ?_
            refine s_get (v := .ref (ad 35)) C0 hK hW 0 47 LY_X9_0 rfl fg_X9_114 rfl dX9_guest_58 ?_
            refine lv_bipush (v := 8) C0.1 C0.2.1 dX9_guest_61 kB_8 ?_
            refine lv_iload_n C0.1 C0.2.1 dX9_guest_63 rfl (lv_at hl 1 rfl) ?_
            refine lv_iadd C0.1 C0.2.1 dX9_guest_64 ?_
            obtain ⟨hb12, hf⟩ := g_some hf
            refine s_iald (v := ((A 35) (Int32.toNatClampNeg (8 + v1)))) C0 hK hW 35 LY_X9_35 hb12 rfl dX9_guest_65 ?_
            refine lv_iconst (v := 1) C0.1 C0.2.1 dX9_guest_66 kI_1 ?_
            refine lv_isub C0.1 C0.2.1 dX9_guest_67 ?_
            obtain rfl := Option.some.inj hf
            exact r_int C0 hK hW dX9_guest_68
          · have hf := ite_t hc11 hf
            refine lv_aload_n C0.1 C0.2.1 dX9_guest_48 rfl (lv_at hl 0 rfl) ?_
            refine s_get (v := .ref (ad 10)) C0 hK hW 0 18 LY_X9_0 rfl fg_X9_38 rfl dX9_guest_49 ?_
            refine lv_iload_n C0.1 C0.2.1 dX9_guest_52 rfl (lv_at hl 1 rfl) ?_
            obtain ⟨hb13, hf⟩ := g_some hf
            refine s_iald (v := ((A 10) (Int32.toNatClampNeg v1))) C0 hK hW 10 LY_X9_10 hb13 rfl dX9_guest_53 ?_
            refine lv_goto (tgt := 68) C0.1 C0.2.1 dX9_guest_54 (by decide) ?_
            obtain rfl := Option.some.inj hf
            exact r_int C0 hK hW dX9_guest_68
        · have hf := ite_t hc10 hf
          refine lv_aload_n C0.1 C0.2.1 dX9_guest_34 rfl (lv_at hl 0 rfl) ?_
          refine s_get (v := .ref (ad 9)) C0 hK hW 0 17 LY_X9_0 rfl fg_X9_35 rfl dX9_guest_35 ?_
          refine lv_iload_n C0.1 C0.2.1 dX9_guest_38 rfl (lv_at hl 1 rfl) ?_
          obtain ⟨hb14, hf⟩ := g_some hf
          refine s_iald (v := ((A 9) (Int32.toNatClampNeg v1))) C0 hK hW 9 LY_X9_9 hb14 rfl dX9_guest_39 ?_
          refine lv_goto (tgt := 68) C0.1 C0.2.1 dX9_guest_40 (by decide) ?_
          obtain rfl := Option.some.inj hf
          exact r_int C0 hK hW dX9_guest_68
    · have hf := ite_t hc4 hf
      refine lv_bipush (v := (-2)) C0.1 C0.2.1 dX9_guest_22 kB_m2 ?_
      obtain rfl := Option.some.inj hf
      exact r_int C0 hK hW dX9_guest_24
-- X9_keeps
def rmX9_keeps : Room := { frames := 2, cells := 0, slots := 0, locals := 45 }
def SX9_keeps_49 (p : Program) (l : Launch) (e : Env) (s : State) (m : MethodId) (args : Array Value) (below : List Frame) (meth : Method) (c : Code) (D : va_G) (cy : Nat → ClassId) (ad : Nat → Nat) (P : MP) (V : MV) (I : MI) (J : MJ) (A : MI) (B : MJ) (Af : Nat → Prop) (res : Int32 × (Nat → Int32)) (k : Int32 → (Nat → Int32) → Option (Int32 × (Nat → Int32))) : Prop := ∀ (m_done : Int32) (m_undone : (Nat → Int32)) (H : Heap) (locs : List Loc) (ls : Array Slot), wd D (dn cy LY_X9 ad P V (gp I [(0, 53, m_done)]) (gp J []) (gm A [(39, m_undone)]) (gm B [])) Af s.heap H locs → lv_has ls 2 [(0, .ref (ad 0))] → k m_done m_undone = some res → W p l e rmX9_keeps s m args below meth c H locs 0 0 (ZQ below D cy (dn cy LY_X9 ad P V (gp I [(0, 53, res.1)]) (gp J []) (gm A [(39, res.2)]) (gm B [])) none Af args s) (F0 m 49 ls [])
def SX9_keeps_11 (p : Program) (l : Launch) (e : Env) (s : State) (m : MethodId) (args : Array Value) (below : List Frame) (meth : Method) (c : Code) (D : va_G) (cy : Nat → ClassId) (ad : Nat → Nat) (P : MP) (V : MV) (I : MI) (J : MJ) (A : MI) (B : MJ) (Af : Nat → Prop) (res : Int32 × (Nat → Int32)) (k : Int32 → (Nat → Int32) → Int32 → Option (Int32 × (Nat → Int32))) : Prop := ∀ (m_done : Int32) (m_undone : (Nat → Int32)) (v1 : Int32) (H : Heap) (locs : List Loc) (ls : Array Slot), wd D (dn cy LY_X9 ad P V (gp I [(0, 53, m_done)]) (gp J []) (gm A [(39, m_undone)]) (gm B [])) Af s.heap H locs → lv_has ls 2 [(0, .ref (ad 0)), (1, .int v1)] → k m_done m_undone v1 = some res → W p l e rmX9_keeps s m args below meth c H locs 0 0 (ZQ below D cy (dn cy LY_X9 ad P V (gp I [(0, 53, res.1)]) (gp J []) (gm A [(39, res.2)]) (gm B [])) none Af args s) (F0 m 11 ls [])
def fX9_keeps_49 (m_s : (Nat → Int32)) (m_done : Int32) (m_undone : (Nat → Int32)) : Option (Int32 × (Nat → Int32)) := Option.bind (fX9_copies 13 208 m_s m_undone 0 (13 * m_done)) fun y1 => (some ((m_done + 1), y1))
set_option maxHeartbeats 4000000 in
set_option maxRecDepth 100000 in
theorem tX9_keeps_49 {p : Program} {l : Launch} {e : Env} {s : State} {m : MethodId} {args : Array Value} {below : List Frame} {meth : Method} {c : Code} {D : va_G} {cy : Nat → ClassId} {ad : Nat → Nat} {P : MP} {V : MV} {I : MI} {J : MJ} {A : MI} {B : MJ} {Af : Nat → Prop} {res : Int32 × (Nat → Int32)} (C0 : CX p s m args meth c cX9_keeps 2 none RX9) (hK : va_K D vwCl (tyG cy) s) (hN : NWs s) (hA : ∀ q, s.heap.size ≤ q → Af q) : SX9_keeps_49 p l e s m args below meth c D cy ad P V I J A B Af res (fX9_keeps_49 (A 35)) := by
  intro m_done m_undone H locs ls hW hl hf
  unfold fX9_keeps_49 at hf
  refine lv_aload_n C0.1 C0.2.1 dX9_keeps_49 rfl (lv_at hl 0 rfl) ?_
  refine s_get (v := .ref (ad 35)) C0 hK hW 0 47 LY_X9_0 rfl fg_X9_114 rfl dX9_keeps_50 ?_
  refine lv_iconst (v := 0) C0.1 C0.2.1 dX9_keeps_53 kI_0 ?_
  refine lv_aload_n C0.1 C0.2.1 dX9_keeps_54 rfl (lv_at hl 0 rfl) ?_
  refine s_get (v := .ref (ad 39)) C0 hK hW 0 51 LY_X9_0 rfl fg_X9_126 rfl dX9_keeps_55 ?_
  refine lv_bipush (v := 13) C0.1 C0.2.1 dX9_keeps_58 kB_13 ?_
  refine lv_aload_n C0.1 C0.2.1 dX9_keeps_60 rfl (lv_at hl 0 rfl) ?_
  refine s_get (v := .int m_done) C0 hK hW 0 53 LY_X9_0 rfl fg_X9_354 rfl dX9_keeps_61 ?_
  refine lv_imul C0.1 C0.2.1 dX9_keeps_64 ?_
  obtain ⟨y1, hy1, hf⟩ := b_some hf
  refine c_Sv C0 hK hN hl.1 hW hA (KX9_copies l D cy 13 208 (fun q => ad (pl_LY_X9_LY_aIaI_35_39.getD q 0)) (fun q => P (pl_LY_X9_LY_aIaI_35_39.getD q 0)) (fun q => Vx LY_X9 ad V (pl_LY_X9_LY_aIaI_35_39.getD q 0)) (fun q => gp I [(0, 53, m_done)] (pl_LY_X9_LY_aIaI_35_39.getD q 0)) (fun q => gp J [] (pl_LY_X9_LY_aIaI_35_39.getD q 0)) (fun q => gm A [(39, m_undone)] (pl_LY_X9_LY_aIaI_35_39.getD q 0)) (fun q => gm B [] (pl_LY_X9_LY_aIaI_35_39.getD q 0)) 0 (13 * m_done) hy1) (JN_subC (pl := pl_LY_X9_LY_aIaI_35_39) sb_LY_X9_LY_aIaI_35_39 rfl rfl rfl rfl rfl rfl rfl rfl rfl) ⟨uw_1495, uw_1496, uw_14, uw_1497⟩ rfl rfl hd_X9_copies ⟨rfl, rfl⟩ rfl rfl rfl dX9_keeps_65 ⟨Nat.zero_le _, Nat.zero_le _⟩ (fun H locs hW => ?_)
  have hW : wd D (dn cy LY_X9 ad P V (gp I [(0, 53, m_done)]) (gp J []) (gm A [(39, y1)]) (gm B [])) Af s.heap H locs := hW
  refine lv_aload_n C0.1 C0.2.1 dX9_keeps_68 rfl (lv_at hl 0 rfl) ?_
  refine lv_dup C0.1 C0.2.1 dX9_keeps_69 rfl ?_
  refine s_get (v := .int m_done) C0 hK hW 0 53 LY_X9_0 rfl fg_X9_354 rfl dX9_keeps_70 ?_
  refine lv_iconst (v := 1) C0.1 C0.2.1 dX9_keeps_73 kI_1 ?_
  refine lv_iadd C0.1 C0.2.1 dX9_keeps_74 ?_
  refine s_putI C0 hK hW 0 53 LY_X9_0 rfl fg_X9_354 fp_X9_53 rfl dX9_keeps_75 (fun H locs hW => ?_)
  have hW : wd D (dn cy LY_X9 ad P V (gp I [(0, 53, (m_done + 1))]) (gp J []) (gm A [(39, y1)]) (gm B [])) Af s.heap H locs := hW
  obtain rfl := Option.some.inj hf
  exact r_void C0 hK hW dX9_keeps_78
def fX9_keeps_11 (m_s : (Nat → Int32)) (k11 : Int32 → (Nat → Int32) → Int32 → Option (Int32 × (Nat → Int32))) (m_done : Int32) (m_undone : (Nat → Int32)) (v1 : Int32) : Option (Int32 × (Nat → Int32)) := if 195 ≤ v1 then (fX9_keeps_49 m_s (m_done - 1) m_undone) else (bif inb (v1 + 13) 208 then (bif inb v1 208 then (k11 m_done (upd m_undone (Int32.toNatClampNeg v1) (m_undone (Int32.toNatClampNeg (v1 + 13)))) (v1 + 1)) else none) else none)
set_option maxHeartbeats 4000000 in
set_option maxRecDepth 100000 in
theorem tX9_keeps_11 {p : Program} {l : Launch} {e : Env} {s : State} {m : MethodId} {args : Array Value} {below : List Frame} {meth : Method} {c : Code} {D : va_G} {cy : Nat → ClassId} {ad : Nat → Nat} {P : MP} {V : MV} {I : MI} {J : MJ} {A : MI} {B : MJ} {Af : Nat → Prop} {res : Int32 × (Nat → Int32)} (C0 : CX p s m args meth c cX9_keeps 2 none RX9) (hK : va_K D vwCl (tyG cy) s) (hN : NWs s) (hA : ∀ q, s.heap.size ≤ q → Af q) {k11 : Int32 → (Nat → Int32) → Int32 → Option (Int32 × (Nat → Int32))} (hk11 : SX9_keeps_11 p l e s m args below meth c D cy ad P V I J A B Af res k11) : SX9_keeps_11 p l e s m args below meth c D cy ad P V I J A B Af res (fX9_keeps_11 (A 35) k11) := by
  intro m_done m_undone v1 H locs ls hW hl hf
  unfold fX9_keeps_11 at hf
  refine lv_iload_n C0.1 C0.2.1 dX9_keeps_11 rfl (lv_at hl 1 rfl) ?_
  refine lv_sipush (v := 195) C0.1 C0.2.1 dX9_keeps_12 kS_195 ?_
  refine lv_icmp_ge (tgt := 39) C0.1 C0.2.1 dX9_keeps_15 (by decide) (fun hc1 => ?_) (fun hc1 => ?_)
  · have hf := ite_t hc1 hf
    refine lv_aload_n C0.1 C0.2.1 dX9_keeps_39 rfl (lv_at hl 0 rfl) ?_
    refine lv_dup C0.1 C0.2.1 dX9_keeps_40 rfl ?_
    refine s_get (v := .int m_done) C0 hK hW 0 53 LY_X9_0 rfl fg_X9_354 rfl dX9_keeps_41 ?_
    refine lv_iconst (v := 1) C0.1 C0.2.1 dX9_keeps_44 kI_1 ?_
    refine lv_isub C0.1 C0.2.1 dX9_keeps_45 ?_
    refine s_putI C0 hK hW 0 53 LY_X9_0 rfl fg_X9_354 fp_X9_53 rfl dX9_keeps_46 (fun H locs hW => ?_)
    have hW : wd D (dn cy LY_X9 ad P V (gp I [(0, 53, (m_done - 1))]) (gp J []) (gm A [(39, m_undone)]) (gm B [])) Af s.heap H locs := hW
    exact tX9_keeps_49 C0 hK hN hA  (m_done - 1) m_undone H locs ls hW (lv_sub hl [0] rfl) hf
  · have hf := ite_f hc1 hf
    refine lv_aload_n C0.1 C0.2.1 dX9_keeps_18 rfl (lv_at hl 0 rfl) ?_
    refine s_get (v := .ref (ad 39)) C0 hK hW 0 51 LY_X9_0 rfl fg_X9_126 rfl dX9_keeps_19 ?_
    refine lv_iload_n C0.1 C0.2.1 dX9_keeps_22 rfl (lv_at hl 1 rfl) ?_
    refine lv_aload_n C0.1 C0.2.1 dX9_keeps_23 rfl (lv_at hl 0 rfl) ?_
    refine s_get (v := .ref (ad 39)) C0 hK hW 0 51 LY_X9_0 rfl fg_X9_126 rfl dX9_keeps_24 ?_
    refine lv_iload_n C0.1 C0.2.1 dX9_keeps_27 rfl (lv_at hl 1 rfl) ?_
    refine lv_bipush (v := 13) C0.1 C0.2.1 dX9_keeps_28 kB_13 ?_
    refine lv_iadd C0.1 C0.2.1 dX9_keeps_30 ?_
    obtain ⟨hb2, hf⟩ := g_some hf
    refine s_iald (v := (m_undone (Int32.toNatClampNeg (v1 + 13)))) C0 hK hW 39 LY_X9_39 hb2 rfl dX9_keeps_31 ?_
    obtain ⟨hb3, hf⟩ := g_some hf
    refine s_iast (f := (upd m_undone (Int32.toNatClampNeg v1) (m_undone (Int32.toNatClampNeg (v1 + 13))))) C0 hK hW 39 LY_X9_39 hb3 rfl rfl dX9_keeps_32 (fun H locs hW => ?_)
    have hW : wd D (dn cy LY_X9 ad P V (gp I [(0, 53, m_done)]) (gp J []) (gm A [(39, (upd m_undone (Int32.toNatClampNeg v1) (m_undone (Int32.toNatClampNeg (v1 + 13)))))]) (gm B [])) Af s.heap H locs := hW
    refine lv_iinc (v := (v1 + 1)) (lv' := [(1, .int (v1 + 1)), (0, .ref (ad 0))]) C0.1 C0.2.1 dX9_keeps_33 hl (k := 1) rfl (congrArg (fun z => _ + z) kI_1) (by decide) rfl (fun ls hl => ?_)
    refine lv_goto (tgt := 11) C0.1 C0.2.1 dX9_keeps_36 (by decide) ?_
    exact hk11 m_done (upd m_undone (Int32.toNatClampNeg v1) (m_undone (Int32.toNatClampNeg (v1 + 13)))) (v1 + 1) H locs ls hW (lv_sub hl [1, 0] rfl) hf
theorem TX9_keeps_11 {p : Program} {l : Launch} {e : Env} {s : State} {m : MethodId} {args : Array Value} {below : List Frame} {meth : Method} {c : Code} {D : va_G} {cy : Nat → ClassId} {ad : Nat → Nat} {P : MP} {V : MV} {I : MI} {J : MJ} {A : MI} {B : MJ} {Af : Nat → Prop} {res : Int32 × (Nat → Int32)} (C0 : CX p s m args meth c cX9_keeps 2 none RX9) (hK : va_K D vwCl (tyG cy) s) (hN : NWs s) (hA : ∀ q, s.heap.size ≤ q → Af q) : ∀ n, SX9_keeps_11 p l e s m args below meth c D cy ad P V I J A B Af res (itr (fun kk => fX9_keeps_11 (A 35) kk) (fun _ _ _ => none) n) := by
  intro n
  induction n with
  | zero => intro m_done m_undone v1 H locs ls hW hl hf; exact (nomatch (show (none : Option (Int32 × (Nat → Int32))) = some res from hf))
  | succ n ih => exact tX9_keeps_11 C0 hK hN hA  ih
def fX9_keeps (m_s : (Nat → Int32)) (m_done : Int32) (m_undone : (Nat → Int32)) : Option (Int32 × (Nat → Int32)) := if m_done = 16 then (itr (fun kk => fX9_keeps_11 m_s kk) (fun _ _ _ => none) FU m_done m_undone 0) else (fX9_keeps_49 m_s m_done m_undone)
set_option maxHeartbeats 4000000 in
set_option maxRecDepth 100000 in
theorem KX9_keeps (l : Launch) (D : va_G) (cy : Nat → ClassId) (ad : Nat → Nat) (P : MP) (V : MV) (I : MI) (J : MJ) (A : MI) (B : MJ) {res : Int32 × (Nat → Int32)} (hf : fX9_keeps (A 35) (I 0 53) (A 39) = some res) : CG l yX9_keeps cX9_keeps 2 none rmX9_keeps D cy (dn cy LY_X9 ad P V I J A B) [.ref (ad 0)] none (dn cy LY_X9 ad P V (gp I [(0, 53, res.1)]) (gp J []) (gm A [(39, res.2)]) (gm B [])) := by
  refine CG.of (own := RX9) (by decide) rfl rfl ?_
  intro p e s m below meth c ls Af C0 hK hN hA hW hl
  have hW : wd D (dn cy LY_X9 ad P V (gp I [(0, 53, (I 0 53))]) (gp J []) (gm A [(39, (A 39))]) (gm B [])) Af s.heap s.heap [] := wd_sel [(0, 53)] [] [39] [] hW
  have hl : lv_has ls 2 [(0, .ref (ad 0))] := hl
  unfold fX9_keeps at hf
  refine lv_aload_n C0.1 C0.2.1 dX9_keeps_0 rfl (lv_at hl 0 rfl) ?_
  refine s_get (v := .int (I 0 53)) C0 hK hW 0 53 LY_X9_0 rfl fg_X9_354 rfl dX9_keeps_1 ?_
  refine lv_bipush (v := 16) C0.1 C0.2.1 dX9_keeps_4 kB_16 ?_
  refine lv_icmp_ne (tgt := 49) C0.1 C0.2.1 dX9_keeps_6 (by decide) (fun hc1 => ?_) (fun hc1 => ?_)
  · have hf := ite_f hc1 hf
    exact tX9_keeps_49 C0 hK hN hA  (I 0 53) (A 39) _ _ ls hW hl hf
  · have hf := ite_t hc1 hf
    refine lv_iconst (v := 0) C0.1 C0.2.1 dX9_keeps_9 kI_0 ?_
    refine lv_istore_n (lv' := [(1, .int 0), (0, .ref (ad 0))]) C0.1 C0.2.1 dX9_keeps_10 rfl hl (by decide) rfl (fun ls hl => ?_)
    exact TX9_keeps_11 C0 hK hN hA  FU (I 0 53) (A 39) 0 _ _ ls hW (lv_sub hl [1, 0] rfl) hf
-- X9_down
def rmX9_down : Room := { frames := 6, cells := 0, slots := 0, locals := 135 }
def fX9_down (m_terrace : (Nat → Int32)) (m_holeFlag : (Nat → Int32)) (m_kind : (Nat → Int32)) (m_guestFlag : (Nat → Int32)) (m_wars : (Nat → Int32)) (m_lineFrom : (Nat → Int32)) (m_lineTo : (Nat → Int32)) (m_codes : (Nat → Int32)) (m_thrown : Int32) (m_done : Int32) (m_kept : (Nat → Int32)) (m_keptBy : (Nat → Int32)) (m_ahead : (Nat → Int32)) (m_against : (Nat → Int32)) (m_sum : (Nat → Int32)) (m_sumBy : (Nat → Int32)) (m_term : (Nat → Int32)) (m_termBy : (Nat → Int32)) (m_byNot : (Nat → Int32)) (m_valueOf : (Nat → Int32)) (m_s : (Nat → Int32)) (m_undone : (Nat → Int32)) (v1 : Int32) (v2 : Int32) : Option (Int32 × Int32 × Int32 × (Nat → Int32) × (Nat → Int32) × (Nat → Int32) × (Nat → Int32) × (Nat → Int32) × (Nat → Int32) × (Nat → Int32) × (Nat → Int32) × (Nat → Int32) × (Nat → Int32) × (Nat → Int32) × (Nat → Int32)) := Option.bind (fX9_isGuest m_terrace v1) fun y1 => (if y1 = 0 then (some (0, 0, m_done, m_kept, m_keptBy, m_ahead, m_against, m_sum, m_sumBy, m_term, m_termBy, m_byNot, m_valueOf, m_s, m_undone)) else (Option.bind (fX9_isHole m_terrace v2) fun y3 => (if y3 = 0 then (some (0, 0, m_done, m_kept, m_keptBy, m_ahead, m_against, m_sum, m_sumBy, m_term, m_termBy, m_byNot, m_valueOf, m_s, m_undone)) else (Option.bind (fX9_canDown m_terrace m_holeFlag m_kind m_guestFlag m_wars m_lineFrom m_lineTo m_codes m_s m_kept m_keptBy m_ahead m_against m_sum m_sumBy m_term m_termBy m_byNot m_valueOf v1 v2) fun y5 => (if y5.1 = 0 then (some (0, 0, m_done, y5.2.1, y5.2.2.1, y5.2.2.2.1, y5.2.2.2.2.1, y5.2.2.2.2.2.1, y5.2.2.2.2.2.2.1, y5.2.2.2.2.2.2.2.1, y5.2.2.2.2.2.2.2.2.1, y5.2.2.2.2.2.2.2.2.2.1, y5.2.2.2.2.2.2.2.2.2.2, m_s, m_undone)) else (Option.bind (fX9_keeps m_s m_done m_undone) fun y7 => (bif inb (8 + v1) 13 then (some (1, 0, y7.1, y5.2.1, y5.2.2.1, y5.2.2.2.1, y5.2.2.2.2.1, y5.2.2.2.2.2.1, y5.2.2.2.2.2.2.1, y5.2.2.2.2.2.2.2.1, y5.2.2.2.2.2.2.2.2.1, y5.2.2.2.2.2.2.2.2.2.1, y5.2.2.2.2.2.2.2.2.2.2, (upd m_s (Int32.toNatClampNeg (8 + v1)) (v2 + 1)), y7.2)) else none)))))))
set_option maxHeartbeats 4000000 in
set_option maxRecDepth 100000 in
theorem KX9_down (l : Launch) (D : va_G) (cy : Nat → ClassId) (ad : Nat → Nat) (P : MP) (V : MV) (I : MI) (J : MJ) (A : MI) (B : MJ) (v1 : Int32) (v2 : Int32) {res : Int32 × Int32 × Int32 × (Nat → Int32) × (Nat → Int32) × (Nat → Int32) × (Nat → Int32) × (Nat → Int32) × (Nat → Int32) × (Nat → Int32) × (Nat → Int32) × (Nat → Int32) × (Nat → Int32) × (Nat → Int32) × (Nat → Int32)} (hf : fX9_down (A 2) (A 5) (A 9) (A 10) (A 11) (A 13) (A 14) (A 15) (I 0 0) (I 0 53) (A 18) (A 19) (A 20) (A 21) (A 22) (A 23) (A 24) (A 25) (A 26) (A 27) (A 35) (A 39) v1 v2 = some res) : CG l yX9_down cX9_down 3 (some .boolean) rmX9_down D cy (dn cy LY_X9 ad P V I J A B) [.ref (ad 0), .int v1, .int v2] (some (.int res.1)) (dn cy LY_X9 ad P V (gp I [(0, 0, res.2.1), (0, 53, res.2.2.1)]) (gp J []) (gm A [(18, res.2.2.2.1), (19, res.2.2.2.2.1), (20, res.2.2.2.2.2.1), (21, res.2.2.2.2.2.2.1), (22, res.2.2.2.2.2.2.2.1), (23, res.2.2.2.2.2.2.2.2.1), (24, res.2.2.2.2.2.2.2.2.2.1), (25, res.2.2.2.2.2.2.2.2.2.2.1), (26, res.2.2.2.2.2.2.2.2.2.2.2.1), (27, res.2.2.2.2.2.2.2.2.2.2.2.2.1), (35, res.2.2.2.2.2.2.2.2.2.2.2.2.2.1), (39, res.2.2.2.2.2.2.2.2.2.2.2.2.2.2)]) (gm B [])) := by
  refine CG.of (own := RX9) (by decide) rfl rfl ?_
  intro p e s m below meth c ls Af C0 hK hN hA hW hl
  have hW : wd D (dn cy LY_X9 ad P V (gp I [(0, 0, (I 0 0)), (0, 53, (I 0 53))]) (gp J []) (gm A [(18, (A 18)), (19, (A 19)), (20, (A 20)), (21, (A 21)), (22, (A 22)), (23, (A 23)), (24, (A 24)), (25, (A 25)), (26, (A 26)), (27, (A 27)), (35, (A 35)), (39, (A 39))]) (gm B [])) Af s.heap s.heap [] := wd_sel [(0, 0), (0, 53)] [] [18, 19, 20, 21, 22, 23, 24, 25, 26, 27, 35, 39] [] hW
  have hl : lv_has ls 3 [(0, .ref (ad 0)), (1, .int v1), (2, .int v2)] := hl
  unfold fX9_down at hf
  refine lv_aload_n C0.1 C0.2.1 dX9_down_0 rfl (lv_at hl 0 rfl) ?_
  refine lv_iconst (v := 0) C0.1 C0.2.1 dX9_down_1 kI_0 ?_
  refine s_putI C0 hK hW 0 0 LY_X9_0 rfl fg_X9_142 fp_X9_0 rfl dX9_down_2 (fun H locs hW => ?_)
  have hW : wd D (dn cy LY_X9 ad P V (gp I [(0, 0, 0), (0, 53, (I 0 53))]) (gp J []) (gm A [(18, (A 18)), (19, (A 19)), (20, (A 20)), (21, (A 21)), (22, (A 22)), (23, (A 23)), (24, (A 24)), (25, (A 25)), (26, (A 26)), (27, (A 27)), (35, (A 35)), (39, (A 39))]) (gm B [])) Af s.heap H locs := hW
  refine lv_aload_n C0.1 C0.2.1 dX9_down_5 rfl (lv_at hl 0 rfl) ?_
  refine lv_iload_n C0.1 C0.2.1 dX9_down_6 rfl (lv_at hl 1 rfl) ?_
  obtain ⟨y1, hy1, hf⟩ := b_some hf
  refine c_Vi C0 hK hN hl.1 hW hA (KX9_isGuest l D cy  ad P V (gp I [(0, 0, 0), (0, 53, (I 0 53))]) (gp J []) (gm A [(18, (A 18)), (19, (A 19)), (20, (A 20)), (21, (A 21)), (22, (A 22)), (23, (A 23)), (24, (A 24)), (25, (A 25)), (26, (A 26)), (27, (A 27)), (35, (A 35)), (39, (A 39))]) (gm B []) v1 hy1) (JN_id rfl rfl rfl rfl) (Uw_V uw_1463 uw_1465 us_75 uw_14 uw_1466) rfl rfl hd_X9_isGuest ⟨rfl, rfl⟩ rfl (dn_some LY_X9_0) rfl rfl rfl dX9_down_7 ⟨Nat.zero_le _, Nat.zero_le _⟩ (fun H locs hW => ?_)
  have hW : wd D (dn cy LY_X9 ad P V (gp I [(0, 0, 0), (0, 53, (I 0 53))]) (gp J []) (gm A [(18, (A 18)), (19, (A 19)), (20, (A 20)), (21, (A 21)), (22, (A 22)), (23, (A 23)), (24, (A 24)), (25, (A 25)), (26, (A 26)), (27, (A 27)), (35, (A 35)), (39, (A 39))]) (gm B [])) Af s.heap H locs := hW
  refine lv_if_eq (tgt := 30) C0.1 C0.2.1 dX9_down_10 (by decide) (fun hc2 => ?_) (fun hc2 => ?_)
  · have hf := ite_t hc2 hf
    refine lv_iconst (v := 0) C0.1 C0.2.1 dX9_down_30 kI_0 ?_
    obtain rfl := Option.some.inj hf
    exact r_bool C0 hK hW (v' := 0) rfl dX9_down_31
  · have hf := ite_f hc2 hf
    refine lv_aload_n C0.1 C0.2.1 dX9_down_13 rfl (lv_at hl 0 rfl) ?_
    refine lv_iload_n C0.1 C0.2.1 dX9_down_14 rfl (lv_at hl 2 rfl) ?_
    obtain ⟨y3, hy3, hf⟩ := b_some hf
    refine c_Vi C0 hK hN hl.1 hW hA (KX9_isHole l D cy  ad P V (gp I [(0, 0, 0), (0, 53, (I 0 53))]) (gp J []) (gm A [(18, (A 18)), (19, (A 19)), (20, (A 20)), (21, (A 21)), (22, (A 22)), (23, (A 23)), (24, (A 24)), (25, (A 25)), (26, (A 26)), (27, (A 27)), (35, (A 35)), (39, (A 39))]) (gm B []) v2 hy3) (JN_id rfl rfl rfl rfl) (Uw_V uw_1420 uw_1422 us_66 uw_14 uw_1423) rfl rfl hd_X9_isHole ⟨rfl, rfl⟩ rfl (dn_some LY_X9_0) rfl rfl rfl dX9_down_15 ⟨Nat.zero_le _, Nat.zero_le _⟩ (fun H locs hW => ?_)
    have hW : wd D (dn cy LY_X9 ad P V (gp I [(0, 0, 0), (0, 53, (I 0 53))]) (gp J []) (gm A [(18, (A 18)), (19, (A 19)), (20, (A 20)), (21, (A 21)), (22, (A 22)), (23, (A 23)), (24, (A 24)), (25, (A 25)), (26, (A 26)), (27, (A 27)), (35, (A 35)), (39, (A 39))]) (gm B [])) Af s.heap H locs := hW
    refine lv_if_eq (tgt := 30) C0.1 C0.2.1 dX9_down_18 (by decide) (fun hc4 => ?_) (fun hc4 => ?_)
    · have hf := ite_t hc4 hf
      refine lv_iconst (v := 0) C0.1 C0.2.1 dX9_down_30 kI_0 ?_
      obtain rfl := Option.some.inj hf
      exact r_bool C0 hK hW (v' := 0) rfl dX9_down_31
    · have hf := ite_f hc4 hf
      refine lv_aload_n C0.1 C0.2.1 dX9_down_21 rfl (lv_at hl 0 rfl) ?_
      refine lv_iload_n C0.1 C0.2.1 dX9_down_22 rfl (lv_at hl 1 rfl) ?_
      refine lv_iload_n C0.1 C0.2.1 dX9_down_23 rfl (lv_at hl 2 rfl) ?_
      obtain ⟨y5, hy5, hf⟩ := b_some hf
      refine c_Vi C0 hK hN hl.1 hW hA (KX9_canDown l D cy  ad P V (gp I [(0, 0, 0), (0, 53, (I 0 53))]) (gp J []) (gm A [(18, (A 18)), (19, (A 19)), (20, (A 20)), (21, (A 21)), (22, (A 22)), (23, (A 23)), (24, (A 24)), (25, (A 25)), (26, (A 26)), (27, (A 27)), (35, (A 35)), (39, (A 39))]) (gm B []) v1 v2 hy5) (JN_id rfl rfl rfl rfl) (Uw_V uw_1487 uw_1489 us_80 uw_14 uw_1490) rfl rfl hd_X9_canDown ⟨rfl, rfl⟩ rfl (dn_some LY_X9_0) rfl rfl rfl dX9_down_24 ⟨Nat.zero_le _, Nat.zero_le _⟩ (fun H locs hW => ?_)
      have hW : wd D (dn cy LY_X9 ad P V (gp I [(0, 0, 0), (0, 53, (I 0 53))]) (gp J []) (gm A [(18, y5.2.1), (19, y5.2.2.1), (20, y5.2.2.2.1), (21, y5.2.2.2.2.1), (22, y5.2.2.2.2.2.1), (23, y5.2.2.2.2.2.2.1), (24, y5.2.2.2.2.2.2.2.1), (25, y5.2.2.2.2.2.2.2.2.1), (26, y5.2.2.2.2.2.2.2.2.2.1), (27, y5.2.2.2.2.2.2.2.2.2.2), (35, (A 35)), (39, (A 39))]) (gm B [])) Af s.heap H locs := hW
      refine lv_if_ne (tgt := 32) C0.1 C0.2.1 dX9_down_27 (by decide) (fun hc6 => ?_) (fun hc6 => ?_)
      · have hf := ite_f hc6 hf
        refine lv_aload_n C0.1 C0.2.1 dX9_down_32 rfl (lv_at hl 0 rfl) ?_
        obtain ⟨y7, hy7, hf⟩ := b_some hf
        refine c_Vv C0 hK hN hl.1 hW hA (KX9_keeps l D cy  ad P V (gp I [(0, 0, 0), (0, 53, (I 0 53))]) (gp J []) (gm A [(18, y5.2.1), (19, y5.2.2.1), (20, y5.2.2.2.1), (21, y5.2.2.2.2.1), (22, y5.2.2.2.2.2.1), (23, y5.2.2.2.2.2.2.1), (24, y5.2.2.2.2.2.2.2.1), (25, y5.2.2.2.2.2.2.2.2.1), (26, y5.2.2.2.2.2.2.2.2.2.1), (27, y5.2.2.2.2.2.2.2.2.2.2), (35, (A 35)), (39, (A 39))]) (gm B [])  hy7) (JN_id rfl rfl rfl rfl) (Uw_V uw_1491 uw_1493 us_81 uw_14 uw_1494) rfl rfl hd_X9_keeps ⟨rfl, rfl⟩ rfl (dn_some LY_X9_0) rfl rfl rfl dX9_down_33 ⟨Nat.zero_le _, Nat.zero_le _⟩ (fun H locs hW => ?_)
        have hW : wd D (dn cy LY_X9 ad P V (gp I [(0, 0, 0), (0, 53, y7.1)]) (gp J []) (gm A [(18, y5.2.1), (19, y5.2.2.1), (20, y5.2.2.2.1), (21, y5.2.2.2.2.1), (22, y5.2.2.2.2.2.1), (23, y5.2.2.2.2.2.2.1), (24, y5.2.2.2.2.2.2.2.1), (25, y5.2.2.2.2.2.2.2.2.1), (26, y5.2.2.2.2.2.2.2.2.2.1), (27, y5.2.2.2.2.2.2.2.2.2.2), (35, (A 35)), (39, y7.2)]) (gm B [])) Af s.heap H locs := hW
        refine lv_aload_n C0.1 C0.2.1 dX9_down_36 rfl (lv_at hl 0 rfl) ?_
        refine s_get (v := .ref (ad 35)) C0 hK hW 0 47 LY_X9_0 rfl fg_X9_114 rfl dX9_down_37 ?_
        refine lv_bipush (v := 8) C0.1 C0.2.1 dX9_down_40 kB_8 ?_
        refine lv_iload_n C0.1 C0.2.1 dX9_down_42 rfl (lv_at hl 1 rfl) ?_
        refine lv_iadd C0.1 C0.2.1 dX9_down_43 ?_
        refine lv_iload_n C0.1 C0.2.1 dX9_down_44 rfl (lv_at hl 2 rfl) ?_
        refine lv_iconst (v := 1) C0.1 C0.2.1 dX9_down_45 kI_1 ?_
        refine lv_iadd C0.1 C0.2.1 dX9_down_46 ?_
        obtain ⟨hb8, hf⟩ := g_some hf
        refine s_iast (f := (upd (A 35) (Int32.toNatClampNeg (8 + v1)) (v2 + 1))) C0 hK hW 35 LY_X9_35 hb8 rfl rfl dX9_down_47 (fun H locs hW => ?_)
        have hW : wd D (dn cy LY_X9 ad P V (gp I [(0, 0, 0), (0, 53, y7.1)]) (gp J []) (gm A [(18, y5.2.1), (19, y5.2.2.1), (20, y5.2.2.2.1), (21, y5.2.2.2.2.1), (22, y5.2.2.2.2.2.1), (23, y5.2.2.2.2.2.2.1), (24, y5.2.2.2.2.2.2.2.1), (25, y5.2.2.2.2.2.2.2.2.1), (26, y5.2.2.2.2.2.2.2.2.2.1), (27, y5.2.2.2.2.2.2.2.2.2.2), (35, (upd (A 35) (Int32.toNatClampNeg (8 + v1)) (v2 + 1))), (39, y7.2)]) (gm B [])) Af s.heap H locs := hW
        refine lv_iconst (v := 1) C0.1 C0.2.1 dX9_down_48 kI_1 ?_
        obtain rfl := Option.some.inj hf
        exact r_bool C0 hK hW (v' := 1) rfl dX9_down_49
      · have hf := ite_t hc6 hf
        refine lv_iconst (v := 0) C0.1 C0.2.1 dX9_down_30 kI_0 ?_
        obtain rfl := Option.some.inj hf
        exact r_bool C0 hK hW (v' := 0) rfl dX9_down_31
-- X9_up
def rmX9_up : Room := { frames := 3, cells := 0, slots := 0, locals := 66 }
def fX9_up (m_terrace : (Nat → Int32)) (m_thrown : Int32) (m_done : Int32) (m_s : (Nat → Int32)) (m_undone : (Nat → Int32)) (v1 : Int32) : Option (Int32 × Int32 × Int32 × (Nat → Int32) × (Nat → Int32)) := Option.bind (fX9_isGuest m_terrace v1) fun y1 => (if y1 = 0 then (some (0, 0, m_done, m_s, m_undone)) else (bif inb (8 + v1) 13 then (if (m_s (Int32.toNatClampNeg (8 + v1))) = 0 then (some (0, 0, m_done, m_s, m_undone)) else (Option.bind (fX9_keeps m_s m_done m_undone) fun y5 => (bif inb (8 + v1) 13 then (some (1, 0, y5.1, (upd m_s (Int32.toNatClampNeg (8 + v1)) 0), y5.2)) else none))) else none))
set_option maxHeartbeats 4000000 in
set_option maxRecDepth 100000 in
theorem KX9_up (l : Launch) (D : va_G) (cy : Nat → ClassId) (ad : Nat → Nat) (P : MP) (V : MV) (I : MI) (J : MJ) (A : MI) (B : MJ) (v1 : Int32) {res : Int32 × Int32 × Int32 × (Nat → Int32) × (Nat → Int32)} (hf : fX9_up (A 2) (I 0 0) (I 0 53) (A 35) (A 39) v1 = some res) : CG l yX9_up cX9_up 2 (some .boolean) rmX9_up D cy (dn cy LY_X9 ad P V I J A B) [.ref (ad 0), .int v1] (some (.int res.1)) (dn cy LY_X9 ad P V (gp I [(0, 0, res.2.1), (0, 53, res.2.2.1)]) (gp J []) (gm A [(35, res.2.2.2.1), (39, res.2.2.2.2)]) (gm B [])) := by
  refine CG.of (own := RX9) (by decide) rfl rfl ?_
  intro p e s m below meth c ls Af C0 hK hN hA hW hl
  have hW : wd D (dn cy LY_X9 ad P V (gp I [(0, 0, (I 0 0)), (0, 53, (I 0 53))]) (gp J []) (gm A [(35, (A 35)), (39, (A 39))]) (gm B [])) Af s.heap s.heap [] := wd_sel [(0, 0), (0, 53)] [] [35, 39] [] hW
  have hl : lv_has ls 2 [(0, .ref (ad 0)), (1, .int v1)] := hl
  unfold fX9_up at hf
  refine lv_aload_n C0.1 C0.2.1 dX9_up_0 rfl (lv_at hl 0 rfl) ?_
  refine lv_iconst (v := 0) C0.1 C0.2.1 dX9_up_1 kI_0 ?_
  refine s_putI C0 hK hW 0 0 LY_X9_0 rfl fg_X9_142 fp_X9_0 rfl dX9_up_2 (fun H locs hW => ?_)
  have hW : wd D (dn cy LY_X9 ad P V (gp I [(0, 0, 0), (0, 53, (I 0 53))]) (gp J []) (gm A [(35, (A 35)), (39, (A 39))]) (gm B [])) Af s.heap H locs := hW
  refine lv_aload_n C0.1 C0.2.1 dX9_up_5 rfl (lv_at hl 0 rfl) ?_
  refine lv_iload_n C0.1 C0.2.1 dX9_up_6 rfl (lv_at hl 1 rfl) ?_
  obtain ⟨y1, hy1, hf⟩ := b_some hf
  refine c_Vi C0 hK hN hl.1 hW hA (KX9_isGuest l D cy  ad P V (gp I [(0, 0, 0), (0, 53, (I 0 53))]) (gp J []) (gm A [(35, (A 35)), (39, (A 39))]) (gm B []) v1 hy1) (JN_id rfl rfl rfl rfl) (Uw_V uw_1463 uw_1465 us_75 uw_14 uw_1466) rfl rfl hd_X9_isGuest ⟨rfl, rfl⟩ rfl (dn_some LY_X9_0) rfl rfl rfl dX9_up_7 ⟨Nat.zero_le _, Nat.zero_le _⟩ (fun H locs hW => ?_)
  have hW : wd D (dn cy LY_X9 ad P V (gp I [(0, 0, 0), (0, 53, (I 0 53))]) (gp J []) (gm A [(35, (A 35)), (39, (A 39))]) (gm B [])) Af s.heap H locs := hW
  refine lv_if_eq (tgt := 25) C0.1 C0.2.1 dX9_up_10 (by decide) (fun hc2 => ?_) (fun hc2 => ?_)
  · have hf := ite_t hc2 hf
    refine lv_iconst (v := 0) C0.1 C0.2.1 dX9_up_25 kI_0 ?_
    obtain rfl := Option.some.inj hf
    exact r_bool C0 hK hW (v' := 0) rfl dX9_up_26
  · have hf := ite_f hc2 hf
    refine lv_aload_n C0.1 C0.2.1 dX9_up_13 rfl (lv_at hl 0 rfl) ?_
    refine s_get (v := .ref (ad 35)) C0 hK hW 0 47 LY_X9_0 rfl fg_X9_114 rfl dX9_up_14 ?_
    refine lv_bipush (v := 8) C0.1 C0.2.1 dX9_up_17 kB_8 ?_
    refine lv_iload_n C0.1 C0.2.1 dX9_up_19 rfl (lv_at hl 1 rfl) ?_
    refine lv_iadd C0.1 C0.2.1 dX9_up_20 ?_
    obtain ⟨hb3, hf⟩ := g_some hf
    refine s_iald (v := ((A 35) (Int32.toNatClampNeg (8 + v1)))) C0 hK hW 35 LY_X9_35 hb3 rfl dX9_up_21 ?_
    refine lv_if_ne (tgt := 27) C0.1 C0.2.1 dX9_up_22 (by decide) (fun hc4 => ?_) (fun hc4 => ?_)
    · have hf := ite_f hc4 hf
      refine lv_aload_n C0.1 C0.2.1 dX9_up_27 rfl (lv_at hl 0 rfl) ?_
      obtain ⟨y5, hy5, hf⟩ := b_some hf
      refine c_Vv C0 hK hN hl.1 hW hA (KX9_keeps l D cy  ad P V (gp I [(0, 0, 0), (0, 53, (I 0 53))]) (gp J []) (gm A [(35, (A 35)), (39, (A 39))]) (gm B [])  hy5) (JN_id rfl rfl rfl rfl) (Uw_V uw_1491 uw_1493 us_81 uw_14 uw_1494) rfl rfl hd_X9_keeps ⟨rfl, rfl⟩ rfl (dn_some LY_X9_0) rfl rfl rfl dX9_up_28 ⟨Nat.zero_le _, Nat.zero_le _⟩ (fun H locs hW => ?_)
      have hW : wd D (dn cy LY_X9 ad P V (gp I [(0, 0, 0), (0, 53, y5.1)]) (gp J []) (gm A [(35, (A 35)), (39, y5.2)]) (gm B [])) Af s.heap H locs := hW
      refine lv_aload_n C0.1 C0.2.1 dX9_up_31 rfl (lv_at hl 0 rfl) ?_
      refine s_get (v := .ref (ad 35)) C0 hK hW 0 47 LY_X9_0 rfl fg_X9_114 rfl dX9_up_32 ?_
      refine lv_bipush (v := 8) C0.1 C0.2.1 dX9_up_35 kB_8 ?_
      refine lv_iload_n C0.1 C0.2.1 dX9_up_37 rfl (lv_at hl 1 rfl) ?_
      refine lv_iadd C0.1 C0.2.1 dX9_up_38 ?_
      refine lv_iconst (v := 0) C0.1 C0.2.1 dX9_up_39 kI_0 ?_
      obtain ⟨hb6, hf⟩ := g_some hf
      refine s_iast (f := (upd (A 35) (Int32.toNatClampNeg (8 + v1)) 0)) C0 hK hW 35 LY_X9_35 hb6 rfl rfl dX9_up_40 (fun H locs hW => ?_)
      have hW : wd D (dn cy LY_X9 ad P V (gp I [(0, 0, 0), (0, 53, y5.1)]) (gp J []) (gm A [(35, (upd (A 35) (Int32.toNatClampNeg (8 + v1)) 0)), (39, y5.2)]) (gm B [])) Af s.heap H locs := hW
      refine lv_iconst (v := 1) C0.1 C0.2.1 dX9_up_41 kI_1 ?_
      obtain rfl := Option.some.inj hf
      exact r_bool C0 hK hW (v' := 1) rfl dX9_up_42
    · have hf := ite_t hc4 hf
      refine lv_iconst (v := 0) C0.1 C0.2.1 dX9_up_25 kI_0 ?_
      obtain rfl := Option.some.inj hf
      exact r_bool C0 hK hW (v' := 0) rfl dX9_up_26
-- X9_through
def rmX9_through : Room := { frames := 6, cells := 0, slots := 0, locals := 135 }
def fX9_through (m_terrace : (Nat → Int32)) (m_holeFlag : (Nat → Int32)) (m_walls : (Nat → Int32)) (m_kind : (Nat → Int32)) (m_guestFlag : (Nat → Int32)) (m_wars : (Nat → Int32)) (m_lineFrom : (Nat → Int32)) (m_lineTo : (Nat → Int32)) (m_codes : (Nat → Int32)) (m_thrown : Int32) (m_done : Int32) (m_kept : (Nat → Int32)) (m_keptBy : (Nat → Int32)) (m_ahead : (Nat → Int32)) (m_against : (Nat → Int32)) (m_sum : (Nat → Int32)) (m_sumBy : (Nat → Int32)) (m_term : (Nat → Int32)) (m_termBy : (Nat → Int32)) (m_byNot : (Nat → Int32)) (m_valueOf : (Nat → Int32)) (m_s : (Nat → Int32)) (m_undone : (Nat → Int32)) (v1 : Int32) (v2 : Int32) : Option (Int32 × Int32 × Int32 × (Nat → Int32) × (Nat → Int32) × (Nat → Int32) × (Nat → Int32) × (Nat → Int32) × (Nat → Int32) × (Nat → Int32) × (Nat → Int32) × (Nat → Int32) × (Nat → Int32) × (Nat → Int32) × (Nat → Int32)) := Option.bind (fX9_isGuest m_terrace v1) fun y1 => (if y1 = 0 then (some (0, 0, m_done, m_kept, m_keptBy, m_ahead, m_against, m_sum, m_sumBy, m_term, m_termBy, m_byNot, m_valueOf, m_s, m_undone)) else (Option.bind (fX9_isHole m_terrace v2) fun y3 => (if y3 = 0 then (some (0, 0, m_done, m_kept, m_keptBy, m_ahead, m_against, m_sum, m_sumBy, m_term, m_termBy, m_byNot, m_valueOf, m_s, m_undone)) else (Option.bind (fX9_canCross m_terrace m_holeFlag m_walls m_kind m_guestFlag m_wars m_lineFrom m_lineTo m_codes m_s m_kept m_keptBy m_ahead m_against m_sum m_sumBy m_term m_termBy m_byNot m_valueOf v1 v2) fun y5 => (if y5.1 = 0 then (some (0, 0, m_done, y5.2.1, y5.2.2.1, y5.2.2.2.1, y5.2.2.2.2.1, y5.2.2.2.2.2.1, y5.2.2.2.2.2.2.1, y5.2.2.2.2.2.2.2.1, y5.2.2.2.2.2.2.2.2.1, y5.2.2.2.2.2.2.2.2.2.1, y5.2.2.2.2.2.2.2.2.2.2, m_s, m_undone)) else (Option.bind (fX9_keeps m_s m_done m_undone) fun y7 => (bif inb (8 + v1) 13 then (some (1, 0, y7.1, y5.2.1, y5.2.2.1, y5.2.2.2.1, y5.2.2.2.2.1, y5.2.2.2.2.2.1, y5.2.2.2.2.2.2.1, y5.2.2.2.2.2.2.2.1, y5.2.2.2.2.2.2.2.2.1, y5.2.2.2.2.2.2.2.2.2.1, y5.2.2.2.2.2.2.2.2.2.2, (upd m_s (Int32.toNatClampNeg (8 + v1)) (v2 + 1)), y7.2)) else none)))))))
set_option maxHeartbeats 4000000 in
set_option maxRecDepth 100000 in
theorem KX9_through (l : Launch) (D : va_G) (cy : Nat → ClassId) (ad : Nat → Nat) (P : MP) (V : MV) (I : MI) (J : MJ) (A : MI) (B : MJ) (v1 : Int32) (v2 : Int32) {res : Int32 × Int32 × Int32 × (Nat → Int32) × (Nat → Int32) × (Nat → Int32) × (Nat → Int32) × (Nat → Int32) × (Nat → Int32) × (Nat → Int32) × (Nat → Int32) × (Nat → Int32) × (Nat → Int32) × (Nat → Int32) × (Nat → Int32)} (hf : fX9_through (A 2) (A 5) (A 8) (A 9) (A 10) (A 11) (A 13) (A 14) (A 15) (I 0 0) (I 0 53) (A 18) (A 19) (A 20) (A 21) (A 22) (A 23) (A 24) (A 25) (A 26) (A 27) (A 35) (A 39) v1 v2 = some res) : CG l yX9_through cX9_through 3 (some .boolean) rmX9_through D cy (dn cy LY_X9 ad P V I J A B) [.ref (ad 0), .int v1, .int v2] (some (.int res.1)) (dn cy LY_X9 ad P V (gp I [(0, 0, res.2.1), (0, 53, res.2.2.1)]) (gp J []) (gm A [(18, res.2.2.2.1), (19, res.2.2.2.2.1), (20, res.2.2.2.2.2.1), (21, res.2.2.2.2.2.2.1), (22, res.2.2.2.2.2.2.2.1), (23, res.2.2.2.2.2.2.2.2.1), (24, res.2.2.2.2.2.2.2.2.2.1), (25, res.2.2.2.2.2.2.2.2.2.2.1), (26, res.2.2.2.2.2.2.2.2.2.2.2.1), (27, res.2.2.2.2.2.2.2.2.2.2.2.2.1), (35, res.2.2.2.2.2.2.2.2.2.2.2.2.2.1), (39, res.2.2.2.2.2.2.2.2.2.2.2.2.2.2)]) (gm B [])) := by
  refine CG.of (own := RX9) (by decide) rfl rfl ?_
  intro p e s m below meth c ls Af C0 hK hN hA hW hl
  have hW : wd D (dn cy LY_X9 ad P V (gp I [(0, 0, (I 0 0)), (0, 53, (I 0 53))]) (gp J []) (gm A [(18, (A 18)), (19, (A 19)), (20, (A 20)), (21, (A 21)), (22, (A 22)), (23, (A 23)), (24, (A 24)), (25, (A 25)), (26, (A 26)), (27, (A 27)), (35, (A 35)), (39, (A 39))]) (gm B [])) Af s.heap s.heap [] := wd_sel [(0, 0), (0, 53)] [] [18, 19, 20, 21, 22, 23, 24, 25, 26, 27, 35, 39] [] hW
  have hl : lv_has ls 3 [(0, .ref (ad 0)), (1, .int v1), (2, .int v2)] := hl
  unfold fX9_through at hf
  refine lv_aload_n C0.1 C0.2.1 dX9_through_0 rfl (lv_at hl 0 rfl) ?_
  refine lv_iconst (v := 0) C0.1 C0.2.1 dX9_through_1 kI_0 ?_
  refine s_putI C0 hK hW 0 0 LY_X9_0 rfl fg_X9_142 fp_X9_0 rfl dX9_through_2 (fun H locs hW => ?_)
  have hW : wd D (dn cy LY_X9 ad P V (gp I [(0, 0, 0), (0, 53, (I 0 53))]) (gp J []) (gm A [(18, (A 18)), (19, (A 19)), (20, (A 20)), (21, (A 21)), (22, (A 22)), (23, (A 23)), (24, (A 24)), (25, (A 25)), (26, (A 26)), (27, (A 27)), (35, (A 35)), (39, (A 39))]) (gm B [])) Af s.heap H locs := hW
  refine lv_aload_n C0.1 C0.2.1 dX9_through_5 rfl (lv_at hl 0 rfl) ?_
  refine lv_iload_n C0.1 C0.2.1 dX9_through_6 rfl (lv_at hl 1 rfl) ?_
  obtain ⟨y1, hy1, hf⟩ := b_some hf
  refine c_Vi C0 hK hN hl.1 hW hA (KX9_isGuest l D cy  ad P V (gp I [(0, 0, 0), (0, 53, (I 0 53))]) (gp J []) (gm A [(18, (A 18)), (19, (A 19)), (20, (A 20)), (21, (A 21)), (22, (A 22)), (23, (A 23)), (24, (A 24)), (25, (A 25)), (26, (A 26)), (27, (A 27)), (35, (A 35)), (39, (A 39))]) (gm B []) v1 hy1) (JN_id rfl rfl rfl rfl) (Uw_V uw_1463 uw_1465 us_75 uw_14 uw_1466) rfl rfl hd_X9_isGuest ⟨rfl, rfl⟩ rfl (dn_some LY_X9_0) rfl rfl rfl dX9_through_7 ⟨Nat.zero_le _, Nat.zero_le _⟩ (fun H locs hW => ?_)
  have hW : wd D (dn cy LY_X9 ad P V (gp I [(0, 0, 0), (0, 53, (I 0 53))]) (gp J []) (gm A [(18, (A 18)), (19, (A 19)), (20, (A 20)), (21, (A 21)), (22, (A 22)), (23, (A 23)), (24, (A 24)), (25, (A 25)), (26, (A 26)), (27, (A 27)), (35, (A 35)), (39, (A 39))]) (gm B [])) Af s.heap H locs := hW
  refine lv_if_eq (tgt := 30) C0.1 C0.2.1 dX9_through_10 (by decide) (fun hc2 => ?_) (fun hc2 => ?_)
  · have hf := ite_t hc2 hf
    refine lv_iconst (v := 0) C0.1 C0.2.1 dX9_through_30 kI_0 ?_
    obtain rfl := Option.some.inj hf
    exact r_bool C0 hK hW (v' := 0) rfl dX9_through_31
  · have hf := ite_f hc2 hf
    refine lv_aload_n C0.1 C0.2.1 dX9_through_13 rfl (lv_at hl 0 rfl) ?_
    refine lv_iload_n C0.1 C0.2.1 dX9_through_14 rfl (lv_at hl 2 rfl) ?_
    obtain ⟨y3, hy3, hf⟩ := b_some hf
    refine c_Vi C0 hK hN hl.1 hW hA (KX9_isHole l D cy  ad P V (gp I [(0, 0, 0), (0, 53, (I 0 53))]) (gp J []) (gm A [(18, (A 18)), (19, (A 19)), (20, (A 20)), (21, (A 21)), (22, (A 22)), (23, (A 23)), (24, (A 24)), (25, (A 25)), (26, (A 26)), (27, (A 27)), (35, (A 35)), (39, (A 39))]) (gm B []) v2 hy3) (JN_id rfl rfl rfl rfl) (Uw_V uw_1420 uw_1422 us_66 uw_14 uw_1423) rfl rfl hd_X9_isHole ⟨rfl, rfl⟩ rfl (dn_some LY_X9_0) rfl rfl rfl dX9_through_15 ⟨Nat.zero_le _, Nat.zero_le _⟩ (fun H locs hW => ?_)
    have hW : wd D (dn cy LY_X9 ad P V (gp I [(0, 0, 0), (0, 53, (I 0 53))]) (gp J []) (gm A [(18, (A 18)), (19, (A 19)), (20, (A 20)), (21, (A 21)), (22, (A 22)), (23, (A 23)), (24, (A 24)), (25, (A 25)), (26, (A 26)), (27, (A 27)), (35, (A 35)), (39, (A 39))]) (gm B [])) Af s.heap H locs := hW
    refine lv_if_eq (tgt := 30) C0.1 C0.2.1 dX9_through_18 (by decide) (fun hc4 => ?_) (fun hc4 => ?_)
    · have hf := ite_t hc4 hf
      refine lv_iconst (v := 0) C0.1 C0.2.1 dX9_through_30 kI_0 ?_
      obtain rfl := Option.some.inj hf
      exact r_bool C0 hK hW (v' := 0) rfl dX9_through_31
    · have hf := ite_f hc4 hf
      refine lv_aload_n C0.1 C0.2.1 dX9_through_21 rfl (lv_at hl 0 rfl) ?_
      refine lv_iload_n C0.1 C0.2.1 dX9_through_22 rfl (lv_at hl 1 rfl) ?_
      refine lv_iload_n C0.1 C0.2.1 dX9_through_23 rfl (lv_at hl 2 rfl) ?_
      obtain ⟨y5, hy5, hf⟩ := b_some hf
      refine c_Vi C0 hK hN hl.1 hW hA (KX9_canCross l D cy  ad P V (gp I [(0, 0, 0), (0, 53, (I 0 53))]) (gp J []) (gm A [(18, (A 18)), (19, (A 19)), (20, (A 20)), (21, (A 21)), (22, (A 22)), (23, (A 23)), (24, (A 24)), (25, (A 25)), (26, (A 26)), (27, (A 27)), (35, (A 35)), (39, (A 39))]) (gm B []) v1 v2 hy5) (JN_id rfl rfl rfl rfl) (Uw_V uw_1506 uw_1508 us_82 uw_14 uw_1509) rfl rfl hd_X9_canCross ⟨rfl, rfl⟩ rfl (dn_some LY_X9_0) rfl rfl rfl dX9_through_24 ⟨Nat.zero_le _, Nat.zero_le _⟩ (fun H locs hW => ?_)
      have hW : wd D (dn cy LY_X9 ad P V (gp I [(0, 0, 0), (0, 53, (I 0 53))]) (gp J []) (gm A [(18, y5.2.1), (19, y5.2.2.1), (20, y5.2.2.2.1), (21, y5.2.2.2.2.1), (22, y5.2.2.2.2.2.1), (23, y5.2.2.2.2.2.2.1), (24, y5.2.2.2.2.2.2.2.1), (25, y5.2.2.2.2.2.2.2.2.1), (26, y5.2.2.2.2.2.2.2.2.2.1), (27, y5.2.2.2.2.2.2.2.2.2.2), (35, (A 35)), (39, (A 39))]) (gm B [])) Af s.heap H locs := hW
      refine lv_if_ne (tgt := 32) C0.1 C0.2.1 dX9_through_27 (by decide) (fun hc6 => ?_) (fun hc6 => ?_)
      · have hf := ite_f hc6 hf
        refine lv_aload_n C0.1 C0.2.1 dX9_through_32 rfl (lv_at hl 0 rfl) ?_
        obtain ⟨y7, hy7, hf⟩ := b_some hf
        refine c_Vv C0 hK hN hl.1 hW hA (KX9_keeps l D cy  ad P V (gp I [(0, 0, 0), (0, 53, (I 0 53))]) (gp J []) (gm A [(18, y5.2.1), (19, y5.2.2.1), (20, y5.2.2.2.1), (21, y5.2.2.2.2.1), (22, y5.2.2.2.2.2.1), (23, y5.2.2.2.2.2.2.1), (24, y5.2.2.2.2.2.2.2.1), (25, y5.2.2.2.2.2.2.2.2.1), (26, y5.2.2.2.2.2.2.2.2.2.1), (27, y5.2.2.2.2.2.2.2.2.2.2), (35, (A 35)), (39, (A 39))]) (gm B [])  hy7) (JN_id rfl rfl rfl rfl) (Uw_V uw_1491 uw_1493 us_81 uw_14 uw_1494) rfl rfl hd_X9_keeps ⟨rfl, rfl⟩ rfl (dn_some LY_X9_0) rfl rfl rfl dX9_through_33 ⟨Nat.zero_le _, Nat.zero_le _⟩ (fun H locs hW => ?_)
        have hW : wd D (dn cy LY_X9 ad P V (gp I [(0, 0, 0), (0, 53, y7.1)]) (gp J []) (gm A [(18, y5.2.1), (19, y5.2.2.1), (20, y5.2.2.2.1), (21, y5.2.2.2.2.1), (22, y5.2.2.2.2.2.1), (23, y5.2.2.2.2.2.2.1), (24, y5.2.2.2.2.2.2.2.1), (25, y5.2.2.2.2.2.2.2.2.1), (26, y5.2.2.2.2.2.2.2.2.2.1), (27, y5.2.2.2.2.2.2.2.2.2.2), (35, (A 35)), (39, y7.2)]) (gm B [])) Af s.heap H locs := hW
        refine lv_aload_n C0.1 C0.2.1 dX9_through_36 rfl (lv_at hl 0 rfl) ?_
        refine s_get (v := .ref (ad 35)) C0 hK hW 0 47 LY_X9_0 rfl fg_X9_114 rfl dX9_through_37 ?_
        refine lv_bipush (v := 8) C0.1 C0.2.1 dX9_through_40 kB_8 ?_
        refine lv_iload_n C0.1 C0.2.1 dX9_through_42 rfl (lv_at hl 1 rfl) ?_
        refine lv_iadd C0.1 C0.2.1 dX9_through_43 ?_
        refine lv_iload_n C0.1 C0.2.1 dX9_through_44 rfl (lv_at hl 2 rfl) ?_
        refine lv_iconst (v := 1) C0.1 C0.2.1 dX9_through_45 kI_1 ?_
        refine lv_iadd C0.1 C0.2.1 dX9_through_46 ?_
        obtain ⟨hb8, hf⟩ := g_some hf
        refine s_iast (f := (upd (A 35) (Int32.toNatClampNeg (8 + v1)) (v2 + 1))) C0 hK hW 35 LY_X9_35 hb8 rfl rfl dX9_through_47 (fun H locs hW => ?_)
        have hW : wd D (dn cy LY_X9 ad P V (gp I [(0, 0, 0), (0, 53, y7.1)]) (gp J []) (gm A [(18, y5.2.1), (19, y5.2.2.1), (20, y5.2.2.2.1), (21, y5.2.2.2.2.1), (22, y5.2.2.2.2.2.1), (23, y5.2.2.2.2.2.2.1), (24, y5.2.2.2.2.2.2.2.1), (25, y5.2.2.2.2.2.2.2.2.1), (26, y5.2.2.2.2.2.2.2.2.2.1), (27, y5.2.2.2.2.2.2.2.2.2.2), (35, (upd (A 35) (Int32.toNatClampNeg (8 + v1)) (v2 + 1))), (39, y7.2)]) (gm B [])) Af s.heap H locs := hW
        refine lv_iconst (v := 1) C0.1 C0.2.1 dX9_through_48 kI_1 ?_
        obtain rfl := Option.some.inj hf
        exact r_bool C0 hK hW (v' := 1) rfl dX9_through_49
      · have hf := ite_t hc6 hf
        refine lv_iconst (v := 0) C0.1 C0.2.1 dX9_through_30 kI_0 ?_
        obtain rfl := Option.some.inj hf
        exact r_bool C0 hK hW (v' := 0) rfl dX9_through_31
-- X9_bring
def rmX9_bring : Room := { frames := 3, cells := 0, slots := 0, locals := 66 }
def fX9_bring (m_terrace : (Nat → Int32)) (m_thrown : Int32) (m_done : Int32) (m_s : (Nat → Int32)) (m_undone : (Nat → Int32)) (v1 : Int32) : Option (Int32 × Int32 × Int32 × (Nat → Int32) × (Nat → Int32)) := Option.bind (fX9_isHole m_terrace v1) fun y1 => (if y1 = 0 then (some ((-1), 0, m_done, m_s, m_undone)) else (Option.bind (fX9_keeps m_s m_done m_undone) fun y3 => (Option.bind (fX9_brings m_terrace m_s v1) fun y4 => (bif inb (3 + v1) 13 then (some ((y4 (Int32.toNatClampNeg (3 + v1))), 0, y3.1, y4, y3.2)) else none))))
set_option maxHeartbeats 4000000 in
set_option maxRecDepth 100000 in
theorem KX9_bring (l : Launch) (D : va_G) (cy : Nat → ClassId) (ad : Nat → Nat) (P : MP) (V : MV) (I : MI) (J : MJ) (A : MI) (B : MJ) (v1 : Int32) {res : Int32 × Int32 × Int32 × (Nat → Int32) × (Nat → Int32)} (hf : fX9_bring (A 2) (I 0 0) (I 0 53) (A 35) (A 39) v1 = some res) : CG l yX9_bring cX9_bring 2 (some .int) rmX9_bring D cy (dn cy LY_X9 ad P V I J A B) [.ref (ad 0), .int v1] (some (.int res.1)) (dn cy LY_X9 ad P V (gp I [(0, 0, res.2.1), (0, 53, res.2.2.1)]) (gp J []) (gm A [(35, res.2.2.2.1), (39, res.2.2.2.2)]) (gm B [])) := by
  refine CG.of (own := RX9) (by decide) rfl rfl ?_
  intro p e s m below meth c ls Af C0 hK hN hA hW hl
  have hW : wd D (dn cy LY_X9 ad P V (gp I [(0, 0, (I 0 0)), (0, 53, (I 0 53))]) (gp J []) (gm A [(35, (A 35)), (39, (A 39))]) (gm B [])) Af s.heap s.heap [] := wd_sel [(0, 0), (0, 53)] [] [35, 39] [] hW
  have hl : lv_has ls 2 [(0, .ref (ad 0)), (1, .int v1)] := hl
  unfold fX9_bring at hf
  refine lv_aload_n C0.1 C0.2.1 dX9_bring_0 rfl (lv_at hl 0 rfl) ?_
  refine lv_iconst (v := 0) C0.1 C0.2.1 dX9_bring_1 kI_0 ?_
  refine s_putI C0 hK hW 0 0 LY_X9_0 rfl fg_X9_142 fp_X9_0 rfl dX9_bring_2 (fun H locs hW => ?_)
  have hW : wd D (dn cy LY_X9 ad P V (gp I [(0, 0, 0), (0, 53, (I 0 53))]) (gp J []) (gm A [(35, (A 35)), (39, (A 39))]) (gm B [])) Af s.heap H locs := hW
  refine lv_aload_n C0.1 C0.2.1 dX9_bring_5 rfl (lv_at hl 0 rfl) ?_
  refine lv_iload_n C0.1 C0.2.1 dX9_bring_6 rfl (lv_at hl 1 rfl) ?_
  obtain ⟨y1, hy1, hf⟩ := b_some hf
  refine c_Vi C0 hK hN hl.1 hW hA (KX9_isHole l D cy  ad P V (gp I [(0, 0, 0), (0, 53, (I 0 53))]) (gp J []) (gm A [(35, (A 35)), (39, (A 39))]) (gm B []) v1 hy1) (JN_id rfl rfl rfl rfl) (Uw_V uw_1420 uw_1422 us_66 uw_14 uw_1423) rfl rfl hd_X9_isHole ⟨rfl, rfl⟩ rfl (dn_some LY_X9_0) rfl rfl rfl dX9_bring_7 ⟨Nat.zero_le _, Nat.zero_le _⟩ (fun H locs hW => ?_)
  have hW : wd D (dn cy LY_X9 ad P V (gp I [(0, 0, 0), (0, 53, (I 0 53))]) (gp J []) (gm A [(35, (A 35)), (39, (A 39))]) (gm B [])) Af s.heap H locs := hW
  refine lv_if_ne (tgt := 15) C0.1 C0.2.1 dX9_bring_10 (by decide) (fun hc2 => ?_) (fun hc2 => ?_)
  · have hf := ite_f hc2 hf
    refine lv_aload_n C0.1 C0.2.1 dX9_bring_15 rfl (lv_at hl 0 rfl) ?_
    obtain ⟨y3, hy3, hf⟩ := b_some hf
    refine c_Vv C0 hK hN hl.1 hW hA (KX9_keeps l D cy  ad P V (gp I [(0, 0, 0), (0, 53, (I 0 53))]) (gp J []) (gm A [(35, (A 35)), (39, (A 39))]) (gm B [])  hy3) (JN_id rfl rfl rfl rfl) (Uw_V uw_1491 uw_1493 us_81 uw_14 uw_1494) rfl rfl hd_X9_keeps ⟨rfl, rfl⟩ rfl (dn_some LY_X9_0) rfl rfl rfl dX9_bring_16 ⟨Nat.zero_le _, Nat.zero_le _⟩ (fun H locs hW => ?_)
    have hW : wd D (dn cy LY_X9 ad P V (gp I [(0, 0, 0), (0, 53, y3.1)]) (gp J []) (gm A [(35, (A 35)), (39, y3.2)]) (gm B [])) Af s.heap H locs := hW
    refine lv_aload_n C0.1 C0.2.1 dX9_bring_19 rfl (lv_at hl 0 rfl) ?_
    refine lv_iload_n C0.1 C0.2.1 dX9_bring_20 rfl (lv_at hl 1 rfl) ?_
    obtain ⟨y4, hy4, hf⟩ := b_some hf
    refine c_Vv C0 hK hN hl.1 hW hA (KX9_brings l D cy  ad P V (gp I [(0, 0, 0), (0, 53, y3.1)]) (gp J []) (gm A [(35, (A 35)), (39, y3.2)]) (gm B []) v1 hy4) (JN_id rfl rfl rfl rfl) (Uw_V uw_1514 uw_1516 us_83 uw_14 uw_1517) rfl rfl hd_X9_brings ⟨rfl, rfl⟩ rfl (dn_some LY_X9_0) rfl rfl rfl dX9_bring_21 ⟨Nat.zero_le _, Nat.zero_le _⟩ (fun H locs hW => ?_)
    have hW : wd D (dn cy LY_X9 ad P V (gp I [(0, 0, 0), (0, 53, y3.1)]) (gp J []) (gm A [(35, y4), (39, y3.2)]) (gm B [])) Af s.heap H locs := hW
    refine lv_aload_n C0.1 C0.2.1 dX9_bring_24 rfl (lv_at hl 0 rfl) ?_
    refine s_get (v := .ref (ad 35)) C0 hK hW 0 47 LY_X9_0 rfl fg_X9_114 rfl dX9_bring_25 ?_
    refine lv_iconst (v := 3) C0.1 C0.2.1 dX9_bring_28 kI_3 ?_
    refine lv_iload_n C0.1 C0.2.1 dX9_bring_29 rfl (lv_at hl 1 rfl) ?_
    refine lv_iadd C0.1 C0.2.1 dX9_bring_30 ?_
    obtain ⟨hb5, hf⟩ := g_some hf
    refine s_iald (v := (y4 (Int32.toNatClampNeg (3 + v1)))) C0 hK hW 35 LY_X9_35 hb5 rfl dX9_bring_31 ?_
    obtain rfl := Option.some.inj hf
    exact r_int C0 hK hW dX9_bring_32
  · have hf := ite_t hc2 hf
    refine lv_iconst (v := (-1)) C0.1 C0.2.1 dX9_bring_13 kI_m1 ?_
    obtain rfl := Option.some.inj hf
    exact r_int C0 hK hW dX9_bring_14
-- X9_day
def rmX9_day : Room := { frames := 3, cells := 0, slots := 0, locals := 66 }
def fX9_day (m_colder : Int32) (m_terrace : (Nat → Int32)) (m_burns : (Nat → Int32)) (m_kind : (Nat → Int32)) (m_cold : (Nat → Int32)) (m_thrown : Int32) (m_done : Int32) (m_s : (Nat → Int32)) (m_undone : (Nat → Int32)) : Option (Int32 × Int32 × Int32 × (Nat → Int32) × (Nat → Int32)) := Option.bind (fX9_keeps m_s m_done m_undone) fun y1 => (Option.bind (fX9_passes m_colder m_terrace m_burns m_kind m_cold m_s) fun y2 => (some (y2.1, 0, y1.1, y2.2, y1.2)))
set_option maxHeartbeats 4000000 in
set_option maxRecDepth 100000 in
theorem KX9_day (l : Launch) (D : va_G) (cy : Nat → ClassId) (ad : Nat → Nat) (P : MP) (V : MV) (I : MI) (J : MJ) (A : MI) (B : MJ) {res : Int32 × Int32 × Int32 × (Nat → Int32) × (Nat → Int32)} (hf : fX9_day (I 0 54) (A 2) (A 7) (A 9) (A 12) (I 0 0) (I 0 53) (A 35) (A 39) = some res) : CG l yX9_day cX9_day 1 (some .int) rmX9_day D cy (dn cy LY_X9 ad P V I J A B) [.ref (ad 0)] (some (.int res.1)) (dn cy LY_X9 ad P V (gp I [(0, 0, res.2.1), (0, 53, res.2.2.1)]) (gp J []) (gm A [(35, res.2.2.2.1), (39, res.2.2.2.2)]) (gm B [])) := by
  refine CG.of (own := RX9) (by decide) rfl rfl ?_
  intro p e s m below meth c ls Af C0 hK hN hA hW hl
  have hW : wd D (dn cy LY_X9 ad P V (gp I [(0, 0, (I 0 0)), (0, 53, (I 0 53))]) (gp J []) (gm A [(35, (A 35)), (39, (A 39))]) (gm B [])) Af s.heap s.heap [] := wd_sel [(0, 0), (0, 53)] [] [35, 39] [] hW
  have hl : lv_has ls 1 [(0, .ref (ad 0))] := hl
  unfold fX9_day at hf
  refine lv_aload_n C0.1 C0.2.1 dX9_day_0 rfl (lv_at hl 0 rfl) ?_
  refine lv_iconst (v := 0) C0.1 C0.2.1 dX9_day_1 kI_0 ?_
  refine s_putI C0 hK hW 0 0 LY_X9_0 rfl fg_X9_142 fp_X9_0 rfl dX9_day_2 (fun H locs hW => ?_)
  have hW : wd D (dn cy LY_X9 ad P V (gp I [(0, 0, 0), (0, 53, (I 0 53))]) (gp J []) (gm A [(35, (A 35)), (39, (A 39))]) (gm B [])) Af s.heap H locs := hW
  refine lv_aload_n C0.1 C0.2.1 dX9_day_5 rfl (lv_at hl 0 rfl) ?_
  obtain ⟨y1, hy1, hf⟩ := b_some hf
  refine c_Vv C0 hK hN hl.1 hW hA (KX9_keeps l D cy  ad P V (gp I [(0, 0, 0), (0, 53, (I 0 53))]) (gp J []) (gm A [(35, (A 35)), (39, (A 39))]) (gm B [])  hy1) (JN_id rfl rfl rfl rfl) (Uw_V uw_1491 uw_1493 us_81 uw_14 uw_1494) rfl rfl hd_X9_keeps ⟨rfl, rfl⟩ rfl (dn_some LY_X9_0) rfl rfl rfl dX9_day_6 ⟨Nat.zero_le _, Nat.zero_le _⟩ (fun H locs hW => ?_)
  have hW : wd D (dn cy LY_X9 ad P V (gp I [(0, 0, 0), (0, 53, y1.1)]) (gp J []) (gm A [(35, (A 35)), (39, y1.2)]) (gm B [])) Af s.heap H locs := hW
  refine lv_aload_n C0.1 C0.2.1 dX9_day_9 rfl (lv_at hl 0 rfl) ?_
  obtain ⟨y2, hy2, hf⟩ := b_some hf
  refine c_Vi C0 hK hN hl.1 hW hA (KX9_passes l D cy  ad P V (gp I [(0, 0, 0), (0, 53, y1.1)]) (gp J []) (gm A [(35, (A 35)), (39, y1.2)]) (gm B [])  hy2) (JN_id rfl rfl rfl rfl) (Uw_V uw_1523 uw_1525 us_84 uw_14 uw_1526) rfl rfl hd_X9_passes ⟨rfl, rfl⟩ rfl (dn_some LY_X9_0) rfl rfl rfl dX9_day_10 ⟨Nat.zero_le _, Nat.zero_le _⟩ (fun H locs hW => ?_)
  have hW : wd D (dn cy LY_X9 ad P V (gp I [(0, 0, 0), (0, 53, y1.1)]) (gp J []) (gm A [(35, y2.2), (39, y1.2)]) (gm B [])) Af s.heap H locs := hW
  obtain rfl := Option.some.inj hf
  exact r_int C0 hK hW dX9_day_13
-- X9_undo
def rmX9_undo : Room := { frames := 2, cells := 0, slots := 0, locals := 45 }
def fX9_undo (m_undone : (Nat → Int32)) (m_thrown : Int32) (m_done : Int32) (m_s : (Nat → Int32)) : Option (Int32 × Int32 × Int32 × (Nat → Int32)) := if m_done = 0 then (some (0, 0, m_done, m_s)) else (Option.bind (fX9_copies 208 13 m_undone m_s (13 * (m_done - 1)) 0) fun y2 => (some (1, 0, (m_done - 1), y2)))
set_option maxHeartbeats 4000000 in
set_option maxRecDepth 100000 in
theorem KX9_undo (l : Launch) (D : va_G) (cy : Nat → ClassId) (ad : Nat → Nat) (P : MP) (V : MV) (I : MI) (J : MJ) (A : MI) (B : MJ) {res : Int32 × Int32 × Int32 × (Nat → Int32)} (hf : fX9_undo (A 39) (I 0 0) (I 0 53) (A 35) = some res) : CG l yX9_undo cX9_undo 1 (some .boolean) rmX9_undo D cy (dn cy LY_X9 ad P V I J A B) [.ref (ad 0)] (some (.int res.1)) (dn cy LY_X9 ad P V (gp I [(0, 0, res.2.1), (0, 53, res.2.2.1)]) (gp J []) (gm A [(35, res.2.2.2)]) (gm B [])) := by
  refine CG.of (own := RX9) (by decide) rfl rfl ?_
  intro p e s m below meth c ls Af C0 hK hN hA hW hl
  have hW : wd D (dn cy LY_X9 ad P V (gp I [(0, 0, (I 0 0)), (0, 53, (I 0 53))]) (gp J []) (gm A [(35, (A 35))]) (gm B [])) Af s.heap s.heap [] := wd_sel [(0, 0), (0, 53)] [] [35] [] hW
  have hl : lv_has ls 1 [(0, .ref (ad 0))] := hl
  unfold fX9_undo at hf
  refine lv_aload_n C0.1 C0.2.1 dX9_undo_0 rfl (lv_at hl 0 rfl) ?_
  refine lv_iconst (v := 0) C0.1 C0.2.1 dX9_undo_1 kI_0 ?_
  refine s_putI C0 hK hW 0 0 LY_X9_0 rfl fg_X9_142 fp_X9_0 rfl dX9_undo_2 (fun H locs hW => ?_)
  have hW : wd D (dn cy LY_X9 ad P V (gp I [(0, 0, 0), (0, 53, (I 0 53))]) (gp J []) (gm A [(35, (A 35))]) (gm B [])) Af s.heap H locs := hW
  refine lv_aload_n C0.1 C0.2.1 dX9_undo_5 rfl (lv_at hl 0 rfl) ?_
  refine s_get (v := .int (I 0 53)) C0 hK hW 0 53 LY_X9_0 rfl fg_X9_354 rfl dX9_undo_6 ?_
  refine lv_if_ne (tgt := 14) C0.1 C0.2.1 dX9_undo_9 (by decide) (fun hc1 => ?_) (fun hc1 => ?_)
  · have hf := ite_f hc1 hf
    refine lv_aload_n C0.1 C0.2.1 dX9_undo_14 rfl (lv_at hl 0 rfl) ?_
    refine lv_dup C0.1 C0.2.1 dX9_undo_15 rfl ?_
    refine s_get (v := .int (I 0 53)) C0 hK hW 0 53 LY_X9_0 rfl fg_X9_354 rfl dX9_undo_16 ?_
    refine lv_iconst (v := 1) C0.1 C0.2.1 dX9_undo_19 kI_1 ?_
    refine lv_isub C0.1 C0.2.1 dX9_undo_20 ?_
    refine s_putI C0 hK hW 0 53 LY_X9_0 rfl fg_X9_354 fp_X9_53 rfl dX9_undo_21 (fun H locs hW => ?_)
    have hW : wd D (dn cy LY_X9 ad P V (gp I [(0, 0, 0), (0, 53, ((I 0 53) - 1))]) (gp J []) (gm A [(35, (A 35))]) (gm B [])) Af s.heap H locs := hW
    refine lv_aload_n C0.1 C0.2.1 dX9_undo_24 rfl (lv_at hl 0 rfl) ?_
    refine s_get (v := .ref (ad 39)) C0 hK hW 0 51 LY_X9_0 rfl fg_X9_126 rfl dX9_undo_25 ?_
    refine lv_bipush (v := 13) C0.1 C0.2.1 dX9_undo_28 kB_13 ?_
    refine lv_aload_n C0.1 C0.2.1 dX9_undo_30 rfl (lv_at hl 0 rfl) ?_
    refine s_get (v := .int ((I 0 53) - 1)) C0 hK hW 0 53 LY_X9_0 rfl fg_X9_354 rfl dX9_undo_31 ?_
    refine lv_imul C0.1 C0.2.1 dX9_undo_34 ?_
    refine lv_aload_n C0.1 C0.2.1 dX9_undo_35 rfl (lv_at hl 0 rfl) ?_
    refine s_get (v := .ref (ad 35)) C0 hK hW 0 47 LY_X9_0 rfl fg_X9_114 rfl dX9_undo_36 ?_
    refine lv_iconst (v := 0) C0.1 C0.2.1 dX9_undo_39 kI_0 ?_
    obtain ⟨y2, hy2, hf⟩ := b_some hf
    refine c_Sv C0 hK hN hl.1 hW hA (KX9_copies l D cy 208 13 (fun q => ad (pl_LY_X9_LY_aIaI_39_35.getD q 0)) (fun q => P (pl_LY_X9_LY_aIaI_39_35.getD q 0)) (fun q => Vx LY_X9 ad V (pl_LY_X9_LY_aIaI_39_35.getD q 0)) (fun q => gp I [(0, 0, 0), (0, 53, ((I 0 53) - 1))] (pl_LY_X9_LY_aIaI_39_35.getD q 0)) (fun q => gp J [] (pl_LY_X9_LY_aIaI_39_35.getD q 0)) (fun q => gm A [(35, (A 35))] (pl_LY_X9_LY_aIaI_39_35.getD q 0)) (fun q => gm B [] (pl_LY_X9_LY_aIaI_39_35.getD q 0)) (13 * ((I 0 53) - 1)) 0 hy2) (JN_subC (pl := pl_LY_X9_LY_aIaI_39_35) sb_LY_X9_LY_aIaI_39_35 rfl rfl rfl rfl rfl rfl rfl rfl rfl) ⟨uw_1495, uw_1496, uw_14, uw_1497⟩ rfl rfl hd_X9_copies ⟨rfl, rfl⟩ rfl rfl rfl dX9_undo_40 ⟨Nat.zero_le _, Nat.zero_le _⟩ (fun H locs hW => ?_)
    have hW : wd D (dn cy LY_X9 ad P V (gp I [(0, 0, 0), (0, 53, ((I 0 53) - 1))]) (gp J []) (gm A [(35, y2)]) (gm B [])) Af s.heap H locs := hW
    refine lv_iconst (v := 1) C0.1 C0.2.1 dX9_undo_43 kI_1 ?_
    obtain rfl := Option.some.inj hf
    exact r_bool C0 hK hW (v' := 1) rfl dX9_undo_44
  · have hf := ite_t hc1 hf
    refine lv_iconst (v := 0) C0.1 C0.2.1 dX9_undo_12 kI_0 ?_
    obtain rfl := Option.some.inj hf
    exact r_bool C0 hK hW (v' := 0) rfl dX9_undo_13
-- X9_goes
def rmX9_goes : Room := { frames := 6, cells := 0, slots := 0, locals := 135 }
def fX9_goes (m_colder : Int32) (m_terrace : (Nat → Int32)) (m_holeFlag : (Nat → Int32)) (m_burns : (Nat → Int32)) (m_walls : (Nat → Int32)) (m_kind : (Nat → Int32)) (m_guestFlag : (Nat → Int32)) (m_wars : (Nat → Int32)) (m_cold : (Nat → Int32)) (m_lineFrom : (Nat → Int32)) (m_lineTo : (Nat → Int32)) (m_codes : (Nat → Int32)) (m_lineWhat : (Nat → Int32)) (m_lineA : (Nat → Int32)) (m_lineB : (Nat → Int32)) (m_firstSeized : Int32) (m_kept : (Nat → Int32)) (m_keptBy : (Nat → Int32)) (m_ahead : (Nat → Int32)) (m_against : (Nat → Int32)) (m_sum : (Nat → Int32)) (m_sumBy : (Nat → Int32)) (m_term : (Nat → Int32)) (m_termBy : (Nat → Int32)) (m_byNot : (Nat → Int32)) (m_valueOf : (Nat → Int32)) (m_s : (Nat → Int32)) (v1 : Int32) : Option (Int32 × Int32 × (Nat → Int32) × (Nat → Int32) × (Nat → Int32) × (Nat → Int32) × (Nat → Int32) × (Nat → Int32) × (Nat → Int32) × (Nat → Int32) × (Nat → Int32) × (Nat → Int32) × (Nat → Int32)) := bif inb v1 240 then (bif inb v1 240 then (bif inb v1 240 then (if (m_lineWhat (Int32.toNatClampNeg v1)) = 0 then (Option.bind (fX9_canDown m_terrace m_holeFlag m_kind m_guestFlag m_wars m_lineFrom m_lineTo m_codes m_s m_kept m_keptBy m_ahead m_against m_sum m_sumBy m_term m_termBy m_byNot m_valueOf (m_lineA (Int32.toNatClampNeg v1)) (m_lineB (Int32.toNatClampNeg v1))) fun y18 => (if y18.1 = 0 then (some (0, m_firstSeized, y18.2.1, y18.2.2.1, y18.2.2.2.1, y18.2.2.2.2.1, y18.2.2.2.2.2.1, y18.2.2.2.2.2.2.1, y18.2.2.2.2.2.2.2.1, y18.2.2.2.2.2.2.2.2.1, y18.2.2.2.2.2.2.2.2.2.1, y18.2.2.2.2.2.2.2.2.2.2, m_s)) else (bif inb (8 + (m_lineA (Int32.toNatClampNeg v1))) 13 then (some (1, m_firstSeized, y18.2.1, y18.2.2.1, y18.2.2.2.1, y18.2.2.2.2.1, y18.2.2.2.2.2.1, y18.2.2.2.2.2.2.1, y18.2.2.2.2.2.2.2.1, y18.2.2.2.2.2.2.2.2.1, y18.2.2.2.2.2.2.2.2.2.1, y18.2.2.2.2.2.2.2.2.2.2, (upd m_s (Int32.toNatClampNeg (8 + (m_lineA (Int32.toNatClampNeg v1)))) ((m_lineB (Int32.toNatClampNeg v1)) + 1)))) else none))) else (if (m_lineWhat (Int32.toNatClampNeg v1)) = 1 then (bif inb (8 + (m_lineA (Int32.toNatClampNeg v1))) 13 then (if (m_s (Int32.toNatClampNeg (8 + (m_lineA (Int32.toNatClampNeg v1))))) = 0 then (some (0, m_firstSeized, m_kept, m_keptBy, m_ahead, m_against, m_sum, m_sumBy, m_term, m_termBy, m_byNot, m_valueOf, m_s)) else (bif inb (8 + (m_lineA (Int32.toNatClampNeg v1))) 13 then (some (1, m_firstSeized, m_kept, m_keptBy, m_ahead, m_against, m_sum, m_sumBy, m_term, m_termBy, m_byNot, m_valueOf, (upd m_s (Int32.toNatClampNeg (8 + (m_lineA (Int32.toNatClampNeg v1)))) 0))) else none)) else none) else (if (m_lineWhat (Int32.toNatClampNeg v1)) = 2 then (Option.bind (fX9_canCross m_terrace m_holeFlag m_walls m_kind m_guestFlag m_wars m_lineFrom m_lineTo m_codes m_s m_kept m_keptBy m_ahead m_against m_sum m_sumBy m_term m_termBy m_byNot m_valueOf (m_lineA (Int32.toNatClampNeg v1)) (m_lineB (Int32.toNatClampNeg v1))) fun y12 => (if y12.1 = 0 then (some (0, m_firstSeized, y12.2.1, y12.2.2.1, y12.2.2.2.1, y12.2.2.2.2.1, y12.2.2.2.2.2.1, y12.2.2.2.2.2.2.1, y12.2.2.2.2.2.2.2.1, y12.2.2.2.2.2.2.2.2.1, y12.2.2.2.2.2.2.2.2.2.1, y12.2.2.2.2.2.2.2.2.2.2, m_s)) else (bif inb (8 + (m_lineA (Int32.toNatClampNeg v1))) 13 then (some (1, m_firstSeized, y12.2.1, y12.2.2.1, y12.2.2.2.1, y12.2.2.2.2.1, y12.2.2.2.2.2.1, y12.2.2.2.2.2.2.1, y12.2.2.2.2.2.2.2.1, y12.2.2.2.2.2.2.2.2.1, y12.2.2.2.2.2.2.2.2.2.1, y12.2.2.2.2.2.2.2.2.2.2, (upd m_s (Int32.toNatClampNeg (8 + (m_lineA (Int32.toNatClampNeg v1)))) ((m_lineB (Int32.toNatClampNeg v1)) + 1)))) else none))) else (if (m_lineWhat (Int32.toNatClampNeg v1)) = 3 then (Option.bind (fX9_brings m_terrace m_s (m_lineB (Int32.toNatClampNeg v1))) fun y11 => (some (1, m_firstSeized, m_kept, m_keptBy, m_ahead, m_against, m_sum, m_sumBy, m_term, m_termBy, m_byNot, m_valueOf, y11))) else (Option.bind (fX9_passes m_colder m_terrace m_burns m_kind m_cold m_s) fun y8 => (if y8.1 = 0 then (some (1, m_firstSeized, m_kept, m_keptBy, m_ahead, m_against, m_sum, m_sumBy, m_term, m_termBy, m_byNot, m_valueOf, y8.2)) else (if 0 ≤ m_firstSeized then (some (1, m_firstSeized, m_kept, m_keptBy, m_ahead, m_against, m_sum, m_sumBy, m_term, m_termBy, m_byNot, m_valueOf, y8.2)) else (some (1, v1, m_kept, m_keptBy, m_ahead, m_against, m_sum, m_sumBy, m_term, m_termBy, m_byNot, m_valueOf, y8.2))))))))) else none) else none) else none
set_option maxHeartbeats 4000000 in
set_option maxRecDepth 100000 in
theorem KX9_goes (l : Launch) (D : va_G) (cy : Nat → ClassId) (ad : Nat → Nat) (P : MP) (V : MV) (I : MI) (J : MJ) (A : MI) (B : MJ) (v1 : Int32) {res : Int32 × Int32 × (Nat → Int32) × (Nat → Int32) × (Nat → Int32) × (Nat → Int32) × (Nat → Int32) × (Nat → Int32) × (Nat → Int32) × (Nat → Int32) × (Nat → Int32) × (Nat → Int32) × (Nat → Int32)} (hf : fX9_goes (I 0 54) (A 2) (A 5) (A 7) (A 8) (A 9) (A 10) (A 11) (A 12) (A 13) (A 14) (A 15) (A 29) (A 30) (A 31) (I 0 55) (A 18) (A 19) (A 20) (A 21) (A 22) (A 23) (A 24) (A 25) (A 26) (A 27) (A 35) v1 = some res) : CG l yX9_goes cX9_goes 5 (some .boolean) rmX9_goes D cy (dn cy LY_X9 ad P V I J A B) [.ref (ad 0), .int v1] (some (.int res.1)) (dn cy LY_X9 ad P V (gp I [(0, 55, res.2.1)]) (gp J []) (gm A [(18, res.2.2.1), (19, res.2.2.2.1), (20, res.2.2.2.2.1), (21, res.2.2.2.2.2.1), (22, res.2.2.2.2.2.2.1), (23, res.2.2.2.2.2.2.2.1), (24, res.2.2.2.2.2.2.2.2.1), (25, res.2.2.2.2.2.2.2.2.2.1), (26, res.2.2.2.2.2.2.2.2.2.2.1), (27, res.2.2.2.2.2.2.2.2.2.2.2.1), (35, res.2.2.2.2.2.2.2.2.2.2.2.2)]) (gm B [])) := by
  refine CG.of (own := RX9) (by decide) rfl rfl ?_
  intro p e s m below meth c ls Af C0 hK hN hA hW hl
  have hW : wd D (dn cy LY_X9 ad P V (gp I [(0, 55, (I 0 55))]) (gp J []) (gm A [(18, (A 18)), (19, (A 19)), (20, (A 20)), (21, (A 21)), (22, (A 22)), (23, (A 23)), (24, (A 24)), (25, (A 25)), (26, (A 26)), (27, (A 27)), (35, (A 35))]) (gm B [])) Af s.heap s.heap [] := wd_sel [(0, 55)] [] [18, 19, 20, 21, 22, 23, 24, 25, 26, 27, 35] [] hW
  have hl : lv_has ls 5 [(0, .ref (ad 0)), (1, .int v1)] := hl
  unfold fX9_goes at hf
  refine lv_aload_n C0.1 C0.2.1 dX9_goes_0 rfl (lv_at hl 0 rfl) ?_
  refine s_get (v := .ref (ad 30)) C0 hK hW 0 42 LY_X9_0 rfl fg_X9_99 rfl dX9_goes_1 ?_
  refine lv_iload_n C0.1 C0.2.1 dX9_goes_4 rfl (lv_at hl 1 rfl) ?_
  obtain ⟨hb1, hf⟩ := g_some hf
  refine s_iald (v := ((A 30) (Int32.toNatClampNeg v1))) C0 hK hW 30 LY_X9_30 hb1 rfl dX9_goes_5 ?_
  refine lv_istore_n (lv' := [(2, .int ((A 30) (Int32.toNatClampNeg v1))), (0, .ref (ad 0)), (1, .int v1)]) C0.1 C0.2.1 dX9_goes_6 rfl hl (by decide) rfl (fun ls hl => ?_)
  refine lv_aload_n C0.1 C0.2.1 dX9_goes_7 rfl (lv_at hl 1 rfl) ?_
  refine s_get (v := .ref (ad 31)) C0 hK hW 0 43 LY_X9_0 rfl fg_X9_102 rfl dX9_goes_8 ?_
  refine lv_iload_n C0.1 C0.2.1 dX9_goes_11 rfl (lv_at hl 2 rfl) ?_
  obtain ⟨hb2, hf⟩ := g_some hf
  refine s_iald (v := ((A 31) (Int32.toNatClampNeg v1))) C0 hK hW 31 LY_X9_31 hb2 rfl dX9_goes_12 ?_
  refine lv_istore_n (lv' := [(3, .int ((A 31) (Int32.toNatClampNeg v1))), (2, .int ((A 30) (Int32.toNatClampNeg v1))), (0, .ref (ad 0)), (1, .int v1)]) C0.1 C0.2.1 dX9_goes_13 rfl hl (by decide) rfl (fun ls hl => ?_)
  refine lv_aload_n C0.1 C0.2.1 dX9_goes_14 rfl (lv_at hl 2 rfl) ?_
  refine s_get (v := .ref (ad 29)) C0 hK hW 0 41 LY_X9_0 rfl fg_X9_96 rfl dX9_goes_15 ?_
  refine lv_iload_n C0.1 C0.2.1 dX9_goes_18 rfl (lv_at hl 3 rfl) ?_
  obtain ⟨hb3, hf⟩ := g_some hf
  refine s_iald (v := ((A 29) (Int32.toNatClampNeg v1))) C0 hK hW 29 LY_X9_29 hb3 rfl dX9_goes_19 ?_
  refine lv_istore (lv' := [(4, .int ((A 29) (Int32.toNatClampNeg v1))), (3, .int ((A 31) (Int32.toNatClampNeg v1))), (2, .int ((A 30) (Int32.toNatClampNeg v1))), (0, .ref (ad 0)), (1, .int v1)]) C0.1 C0.2.1 dX9_goes_20 hl (by decide) rfl (fun ls hl => ?_)
  refine lv_iload C0.1 C0.2.1 dX9_goes_22 (lv_at hl 0 rfl) ?_
  refine lv_if_ne (tgt := 53) C0.1 C0.2.1 dX9_goes_24 (by decide) (fun hc4 => ?_) (fun hc4 => ?_)
  · have hf := ite_f hc4 hf
    refine lv_iload C0.1 C0.2.1 dX9_goes_53 (lv_at hl 0 rfl) ?_
    refine lv_iconst (v := 1) C0.1 C0.2.1 dX9_goes_55 kI_1 ?_
    refine lv_icmp_ne (tgt := 86) C0.1 C0.2.1 dX9_goes_56 (by decide) (fun hc5 => ?_) (fun hc5 => ?_)
    · have hf := ite_f hc5 hf
      refine lv_iload C0.1 C0.2.1 dX9_goes_86 (lv_at hl 0 rfl) ?_
      refine lv_iconst (v := 2) C0.1 C0.2.1 dX9_goes_88 kI_2 ?_
      refine lv_icmp_ne (tgt := 118) C0.1 C0.2.1 dX9_goes_89 (by decide) (fun hc6 => ?_) (fun hc6 => ?_)
      · have hf := ite_f hc6 hf
        refine lv_iload C0.1 C0.2.1 dX9_goes_118 (lv_at hl 0 rfl) ?_
        refine lv_iconst (v := 3) C0.1 C0.2.1 dX9_goes_120 kI_3 ?_
        refine lv_icmp_ne (tgt := 132) C0.1 C0.2.1 dX9_goes_121 (by decide) (fun hc7 => ?_) (fun hc7 => ?_)
        · have hf := ite_f hc7 hf
          refine lv_aload_n C0.1 C0.2.1 dX9_goes_132 rfl (lv_at hl 3 rfl) ?_
          obtain ⟨y8, hy8, hf⟩ := b_some hf
          refine c_Vi C0 hK hN hl.1 hW hA (KX9_passes l D cy  ad P V (gp I [(0, 55, (I 0 55))]) (gp J []) (gm A [(18, (A 18)), (19, (A 19)), (20, (A 20)), (21, (A 21)), (22, (A 22)), (23, (A 23)), (24, (A 24)), (25, (A 25)), (26, (A 26)), (27, (A 27)), (35, (A 35))]) (gm B [])  hy8) (JN_id rfl rfl rfl rfl) (Uw_V uw_1523 uw_1525 us_84 uw_14 uw_1526) rfl rfl hd_X9_passes ⟨rfl, rfl⟩ rfl (dn_some LY_X9_0) rfl rfl rfl dX9_goes_133 ⟨Nat.zero_le _, Nat.zero_le _⟩ (fun H locs hW => ?_)
          have hW : wd D (dn cy LY_X9 ad P V (gp I [(0, 55, (I 0 55))]) (gp J []) (gm A [(18, (A 18)), (19, (A 19)), (20, (A 20)), (21, (A 21)), (22, (A 22)), (23, (A 23)), (24, (A 24)), (25, (A 25)), (26, (A 26)), (27, (A 27)), (35, y8.2)]) (gm B [])) Af s.heap H locs := hW
          refine lv_if_eq (tgt := 151) C0.1 C0.2.1 dX9_goes_136 (by decide) (fun hc9 => ?_) (fun hc9 => ?_)
          · have hf := ite_t hc9 hf
            refine lv_iconst (v := 1) C0.1 C0.2.1 dX9_goes_151 kI_1 ?_
            obtain rfl := Option.some.inj hf
            exact r_bool C0 hK hW (v' := 1) rfl dX9_goes_152
          · have hf := ite_f hc9 hf
            refine lv_aload_n C0.1 C0.2.1 dX9_goes_139 rfl (lv_at hl 3 rfl) ?_
            refine s_get (v := .int (I 0 55)) C0 hK hW 0 55 LY_X9_0 rfl fg_X9_434 rfl dX9_goes_140 ?_
            refine lv_if_ge (tgt := 151) C0.1 C0.2.1 dX9_goes_143 (by decide) (fun hc10 => ?_) (fun hc10 => ?_)
            · have hf := ite_t hc10 hf
              refine lv_iconst (v := 1) C0.1 C0.2.1 dX9_goes_151 kI_1 ?_
              obtain rfl := Option.some.inj hf
              exact r_bool C0 hK hW (v' := 1) rfl dX9_goes_152
            · have hf := ite_f hc10 hf
              refine lv_aload_n C0.1 C0.2.1 dX9_goes_146 rfl (lv_at hl 3 rfl) ?_
              refine lv_iload_n C0.1 C0.2.1 dX9_goes_147 rfl (lv_at hl 4 rfl) ?_
              refine s_putI C0 hK hW 0 55 LY_X9_0 rfl fg_X9_434 fp_X9_55 rfl dX9_goes_148 (fun H locs hW => ?_)
              have hW : wd D (dn cy LY_X9 ad P V (gp I [(0, 55, v1)]) (gp J []) (gm A [(18, (A 18)), (19, (A 19)), (20, (A 20)), (21, (A 21)), (22, (A 22)), (23, (A 23)), (24, (A 24)), (25, (A 25)), (26, (A 26)), (27, (A 27)), (35, y8.2)]) (gm B [])) Af s.heap H locs := hW
              refine lv_iconst (v := 1) C0.1 C0.2.1 dX9_goes_151 kI_1 ?_
              obtain rfl := Option.some.inj hf
              exact r_bool C0 hK hW (v' := 1) rfl dX9_goes_152
        · have hf := ite_t hc7 hf
          refine lv_aload_n C0.1 C0.2.1 dX9_goes_124 rfl (lv_at hl 3 rfl) ?_
          refine lv_iload_n C0.1 C0.2.1 dX9_goes_125 rfl (lv_at hl 1 rfl) ?_
          obtain ⟨y11, hy11, hf⟩ := b_some hf
          refine c_Vv C0 hK hN hl.1 hW hA (KX9_brings l D cy  ad P V (gp I [(0, 55, (I 0 55))]) (gp J []) (gm A [(18, (A 18)), (19, (A 19)), (20, (A 20)), (21, (A 21)), (22, (A 22)), (23, (A 23)), (24, (A 24)), (25, (A 25)), (26, (A 26)), (27, (A 27)), (35, (A 35))]) (gm B []) ((A 31) (Int32.toNatClampNeg v1)) hy11) (JN_id rfl rfl rfl rfl) (Uw_V uw_1514 uw_1516 us_83 uw_14 uw_1517) rfl rfl hd_X9_brings ⟨rfl, rfl⟩ rfl (dn_some LY_X9_0) rfl rfl rfl dX9_goes_126 ⟨Nat.zero_le _, Nat.zero_le _⟩ (fun H locs hW => ?_)
          have hW : wd D (dn cy LY_X9 ad P V (gp I [(0, 55, (I 0 55))]) (gp J []) (gm A [(18, (A 18)), (19, (A 19)), (20, (A 20)), (21, (A 21)), (22, (A 22)), (23, (A 23)), (24, (A 24)), (25, (A 25)), (26, (A 26)), (27, (A 27)), (35, y11)]) (gm B [])) Af s.heap H locs := hW
          refine lv_goto (tgt := 151) C0.1 C0.2.1 dX9_goes_129 (by decide) ?_
          refine lv_iconst (v := 1) C0.1 C0.2.1 dX9_goes_151 kI_1 ?_
          obtain rfl := Option.some.inj hf
          exact r_bool C0 hK hW (v' := 1) rfl dX9_goes_152
      · have hf := ite_t hc6 hf
        refine lv_aload_n C0.1 C0.2.1 dX9_goes_92 rfl (lv_at hl 3 rfl) ?_
        refine lv_iload_n C0.1 C0.2.1 dX9_goes_93 rfl (lv_at hl 2 rfl) ?_
        refine lv_iload_n C0.1 C0.2.1 dX9_goes_94 rfl (lv_at hl 1 rfl) ?_
        obtain ⟨y12, hy12, hf⟩ := b_some hf
        refine c_Vi C0 hK hN hl.1 hW hA (KX9_canCross l D cy  ad P V (gp I [(0, 55, (I 0 55))]) (gp J []) (gm A [(18, (A 18)), (19, (A 19)), (20, (A 20)), (21, (A 21)), (22, (A 22)), (23, (A 23)), (24, (A 24)), (25, (A 25)), (26, (A 26)), (27, (A 27)), (35, (A 35))]) (gm B []) ((A 30) (Int32.toNatClampNeg v1)) ((A 31) (Int32.toNatClampNeg v1)) hy12) (JN_id rfl rfl rfl rfl) (Uw_V uw_1506 uw_1508 us_82 uw_14 uw_1509) rfl rfl hd_X9_canCross ⟨rfl, rfl⟩ rfl (dn_some LY_X9_0) rfl rfl rfl dX9_goes_95 ⟨Nat.zero_le _, Nat.zero_le _⟩ (fun H locs hW => ?_)
        have hW : wd D (dn cy LY_X9 ad P V (gp I [(0, 55, (I 0 55))]) (gp J []) (gm A [(18, y12.2.1), (19, y12.2.2.1), (20, y12.2.2.2.1), (21, y12.2.2.2.2.1), (22, y12.2.2.2.2.2.1), (23, y12.2.2.2.2.2.2.1), (24, y12.2.2.2.2.2.2.2.1), (25, y12.2.2.2.2.2.2.2.2.1), (26, y12.2.2.2.2.2.2.2.2.2.1), (27, y12.2.2.2.2.2.2.2.2.2.2), (35, (A 35))]) (gm B [])) Af s.heap H locs := hW
        refine lv_if_ne (tgt := 103) C0.1 C0.2.1 dX9_goes_98 (by decide) (fun hc13 => ?_) (fun hc13 => ?_)
        · have hf := ite_f hc13 hf
          refine lv_aload_n C0.1 C0.2.1 dX9_goes_103 rfl (lv_at hl 3 rfl) ?_
          refine s_get (v := .ref (ad 35)) C0 hK hW 0 47 LY_X9_0 rfl fg_X9_114 rfl dX9_goes_104 ?_
          refine lv_bipush (v := 8) C0.1 C0.2.1 dX9_goes_107 kB_8 ?_
          refine lv_iload_n C0.1 C0.2.1 dX9_goes_109 rfl (lv_at hl 2 rfl) ?_
          refine lv_iadd C0.1 C0.2.1 dX9_goes_110 ?_
          refine lv_iload_n C0.1 C0.2.1 dX9_goes_111 rfl (lv_at hl 1 rfl) ?_
          refine lv_iconst (v := 1) C0.1 C0.2.1 dX9_goes_112 kI_1 ?_
          refine lv_iadd C0.1 C0.2.1 dX9_goes_113 ?_
          obtain ⟨hb14, hf⟩ := g_some hf
          refine s_iast (f := (upd (A 35) (Int32.toNatClampNeg (8 + ((A 30) (Int32.toNatClampNeg v1)))) (((A 31) (Int32.toNatClampNeg v1)) + 1))) C0 hK hW 35 LY_X9_35 hb14 rfl rfl dX9_goes_114 (fun H locs hW => ?_)
          have hW : wd D (dn cy LY_X9 ad P V (gp I [(0, 55, (I 0 55))]) (gp J []) (gm A [(18, y12.2.1), (19, y12.2.2.1), (20, y12.2.2.2.1), (21, y12.2.2.2.2.1), (22, y12.2.2.2.2.2.1), (23, y12.2.2.2.2.2.2.1), (24, y12.2.2.2.2.2.2.2.1), (25, y12.2.2.2.2.2.2.2.2.1), (26, y12.2.2.2.2.2.2.2.2.2.1), (27, y12.2.2.2.2.2.2.2.2.2.2), (35, (upd (A 35) (Int32.toNatClampNeg (8 + ((A 30) (Int32.toNatClampNeg v1)))) (((A 31) (Int32.toNatClampNeg v1)) + 1)))]) (gm B [])) Af s.heap H locs := hW
          refine lv_goto (tgt := 151) C0.1 C0.2.1 dX9_goes_115 (by decide) ?_
          refine lv_iconst (v := 1) C0.1 C0.2.1 dX9_goes_151 kI_1 ?_
          obtain rfl := Option.some.inj hf
          exact r_bool C0 hK hW (v' := 1) rfl dX9_goes_152
        · have hf := ite_t hc13 hf
          refine lv_iconst (v := 0) C0.1 C0.2.1 dX9_goes_101 kI_0 ?_
          obtain rfl := Option.some.inj hf
          exact r_bool C0 hK hW (v' := 0) rfl dX9_goes_102
    · have hf := ite_t hc5 hf
      refine lv_aload_n C0.1 C0.2.1 dX9_goes_59 rfl (lv_at hl 3 rfl) ?_
      refine s_get (v := .ref (ad 35)) C0 hK hW 0 47 LY_X9_0 rfl fg_X9_114 rfl dX9_goes_60 ?_
      refine lv_bipush (v := 8) C0.1 C0.2.1 dX9_goes_63 kB_8 ?_
      refine lv_iload_n C0.1 C0.2.1 dX9_goes_65 rfl (lv_at hl 2 rfl) ?_
      refine lv_iadd C0.1 C0.2.1 dX9_goes_66 ?_
      obtain ⟨hb15, hf⟩ := g_some hf
      refine s_iald (v := ((A 35) (Int32.toNatClampNeg (8 + ((A 30) (Int32.toNatClampNeg v1)))))) C0 hK hW 35 LY_X9_35 hb15 rfl dX9_goes_67 ?_
      refine lv_if_ne (tgt := 73) C0.1 C0.2.1 dX9_goes_68 (by decide) (fun hc16 => ?_) (fun hc16 => ?_)
      · have hf := ite_f hc16 hf
        refine lv_aload_n C0.1 C0.2.1 dX9_goes_73 rfl (lv_at hl 3 rfl) ?_
        refine s_get (v := .ref (ad 35)) C0 hK hW 0 47 LY_X9_0 rfl fg_X9_114 rfl dX9_goes_74 ?_
        refine lv_bipush (v := 8) C0.1 C0.2.1 dX9_goes_77 kB_8 ?_
        refine lv_iload_n C0.1 C0.2.1 dX9_goes_79 rfl (lv_at hl 2 rfl) ?_
        refine lv_iadd C0.1 C0.2.1 dX9_goes_80 ?_
        refine lv_iconst (v := 0) C0.1 C0.2.1 dX9_goes_81 kI_0 ?_
        obtain ⟨hb17, hf⟩ := g_some hf
        refine s_iast (f := (upd (A 35) (Int32.toNatClampNeg (8 + ((A 30) (Int32.toNatClampNeg v1)))) 0)) C0 hK hW 35 LY_X9_35 hb17 rfl rfl dX9_goes_82 (fun H locs hW => ?_)
        have hW : wd D (dn cy LY_X9 ad P V (gp I [(0, 55, (I 0 55))]) (gp J []) (gm A [(18, (A 18)), (19, (A 19)), (20, (A 20)), (21, (A 21)), (22, (A 22)), (23, (A 23)), (24, (A 24)), (25, (A 25)), (26, (A 26)), (27, (A 27)), (35, (upd (A 35) (Int32.toNatClampNeg (8 + ((A 30) (Int32.toNatClampNeg v1)))) 0))]) (gm B [])) Af s.heap H locs := hW
        refine lv_goto (tgt := 151) C0.1 C0.2.1 dX9_goes_83 (by decide) ?_
        refine lv_iconst (v := 1) C0.1 C0.2.1 dX9_goes_151 kI_1 ?_
        obtain rfl := Option.some.inj hf
        exact r_bool C0 hK hW (v' := 1) rfl dX9_goes_152
      · have hf := ite_t hc16 hf
        refine lv_iconst (v := 0) C0.1 C0.2.1 dX9_goes_71 kI_0 ?_
        obtain rfl := Option.some.inj hf
        exact r_bool C0 hK hW (v' := 0) rfl dX9_goes_72
  · have hf := ite_t hc4 hf
    refine lv_aload_n C0.1 C0.2.1 dX9_goes_27 rfl (lv_at hl 3 rfl) ?_
    refine lv_iload_n C0.1 C0.2.1 dX9_goes_28 rfl (lv_at hl 2 rfl) ?_
    refine lv_iload_n C0.1 C0.2.1 dX9_goes_29 rfl (lv_at hl 1 rfl) ?_
    obtain ⟨y18, hy18, hf⟩ := b_some hf
    refine c_Vi C0 hK hN hl.1 hW hA (KX9_canDown l D cy  ad P V (gp I [(0, 55, (I 0 55))]) (gp J []) (gm A [(18, (A 18)), (19, (A 19)), (20, (A 20)), (21, (A 21)), (22, (A 22)), (23, (A 23)), (24, (A 24)), (25, (A 25)), (26, (A 26)), (27, (A 27)), (35, (A 35))]) (gm B []) ((A 30) (Int32.toNatClampNeg v1)) ((A 31) (Int32.toNatClampNeg v1)) hy18) (JN_id rfl rfl rfl rfl) (Uw_V uw_1487 uw_1489 us_80 uw_14 uw_1490) rfl rfl hd_X9_canDown ⟨rfl, rfl⟩ rfl (dn_some LY_X9_0) rfl rfl rfl dX9_goes_30 ⟨Nat.zero_le _, Nat.zero_le _⟩ (fun H locs hW => ?_)
    have hW : wd D (dn cy LY_X9 ad P V (gp I [(0, 55, (I 0 55))]) (gp J []) (gm A [(18, y18.2.1), (19, y18.2.2.1), (20, y18.2.2.2.1), (21, y18.2.2.2.2.1), (22, y18.2.2.2.2.2.1), (23, y18.2.2.2.2.2.2.1), (24, y18.2.2.2.2.2.2.2.1), (25, y18.2.2.2.2.2.2.2.2.1), (26, y18.2.2.2.2.2.2.2.2.2.1), (27, y18.2.2.2.2.2.2.2.2.2.2), (35, (A 35))]) (gm B [])) Af s.heap H locs := hW
    refine lv_if_ne (tgt := 38) C0.1 C0.2.1 dX9_goes_33 (by decide) (fun hc19 => ?_) (fun hc19 => ?_)
    · have hf := ite_f hc19 hf
      refine lv_aload_n C0.1 C0.2.1 dX9_goes_38 rfl (lv_at hl 3 rfl) ?_
      refine s_get (v := .ref (ad 35)) C0 hK hW 0 47 LY_X9_0 rfl fg_X9_114 rfl dX9_goes_39 ?_
      refine lv_bipush (v := 8) C0.1 C0.2.1 dX9_goes_42 kB_8 ?_
      refine lv_iload_n C0.1 C0.2.1 dX9_goes_44 rfl (lv_at hl 2 rfl) ?_
      refine lv_iadd C0.1 C0.2.1 dX9_goes_45 ?_
      refine lv_iload_n C0.1 C0.2.1 dX9_goes_46 rfl (lv_at hl 1 rfl) ?_
      refine lv_iconst (v := 1) C0.1 C0.2.1 dX9_goes_47 kI_1 ?_
      refine lv_iadd C0.1 C0.2.1 dX9_goes_48 ?_
      obtain ⟨hb20, hf⟩ := g_some hf
      refine s_iast (f := (upd (A 35) (Int32.toNatClampNeg (8 + ((A 30) (Int32.toNatClampNeg v1)))) (((A 31) (Int32.toNatClampNeg v1)) + 1))) C0 hK hW 35 LY_X9_35 hb20 rfl rfl dX9_goes_49 (fun H locs hW => ?_)
      have hW : wd D (dn cy LY_X9 ad P V (gp I [(0, 55, (I 0 55))]) (gp J []) (gm A [(18, y18.2.1), (19, y18.2.2.1), (20, y18.2.2.2.1), (21, y18.2.2.2.2.1), (22, y18.2.2.2.2.2.1), (23, y18.2.2.2.2.2.2.1), (24, y18.2.2.2.2.2.2.2.1), (25, y18.2.2.2.2.2.2.2.2.1), (26, y18.2.2.2.2.2.2.2.2.2.1), (27, y18.2.2.2.2.2.2.2.2.2.2), (35, (upd (A 35) (Int32.toNatClampNeg (8 + ((A 30) (Int32.toNatClampNeg v1)))) (((A 31) (Int32.toNatClampNeg v1)) + 1)))]) (gm B [])) Af s.heap H locs := hW
      refine lv_goto (tgt := 151) C0.1 C0.2.1 dX9_goes_50 (by decide) ?_
      refine lv_iconst (v := 1) C0.1 C0.2.1 dX9_goes_151 kI_1 ?_
      obtain rfl := Option.some.inj hf
      exact r_bool C0 hK hW (v' := 1) rfl dX9_goes_152
    · have hf := ite_t hc19 hf
      refine lv_iconst (v := 0) C0.1 C0.2.1 dX9_goes_36 kI_0 ?_
      obtain rfl := Option.some.inj hf
      exact r_bool C0 hK hW (v' := 0) rfl dX9_goes_37
