-- X9_judged
def rmX9_judged : Room := { frames := 7, cells := 0, slots := 0, locals := 159 }
def SX9_judged_43 (p : Program) (l : Launch) (e : Env) (s : State) (m : MethodId) (args : Array Value) (below : List Frame) (meth : Method) (c : Code) (D : va_G) (cy : Nat → ClassId) (ad : Nat → Nat) (P : MP) (V : MV) (I : MI) (J : MJ) (A : MI) (B : MJ) (Af : Nat → Prop) (res : Int32 × Int32 × Int32 × (Nat → Int32) × (Nat → Int32) × (Nat → Int32) × (Nat → Int32) × (Nat → Int32) × (Nat → Int32) × (Nat → Int32) × (Nat → Int32) × (Nat → Int32) × (Nat → Int32) × (Nat → Int32) × (Nat → Int32)) (k : Int32 → Int32 → (Nat → Int32) → (Nat → Int32) → (Nat → Int32) → (Nat → Int32) → (Nat → Int32) → (Nat → Int32) → (Nat → Int32) → (Nat → Int32) → (Nat → Int32) → (Nat → Int32) → (Nat → Int32) → (Nat → Int32) → Int32 → Int32 → Int32 → Option (Int32 × Int32 × Int32 × (Nat → Int32) × (Nat → Int32) × (Nat → Int32) × (Nat → Int32) × (Nat → Int32) × (Nat → Int32) × (Nat → Int32) × (Nat → Int32) × (Nat → Int32) × (Nat → Int32) × (Nat → Int32) × (Nat → Int32))) : Prop := ∀ (m_thrown : Int32) (m_firstSeized : Int32) (m_kept : (Nat → Int32)) (m_keptBy : (Nat → Int32)) (m_ahead : (Nat → Int32)) (m_against : (Nat → Int32)) (m_sum : (Nat → Int32)) (m_sumBy : (Nat → Int32)) (m_term : (Nat → Int32)) (m_termBy : (Nat → Int32)) (m_byNot : (Nat → Int32)) (m_valueOf : (Nat → Int32)) (m_s : (Nat → Int32)) (m_aside : (Nat → Int32)) (v1 : Int32) (v2 : Int32) (v3 : Int32) (H : Heap) (locs : List Loc) (ls : Array Slot), wd D (dn cy LY_X9 ad P V (gp I [(0, 0, m_thrown), (0, 55, m_firstSeized)]) (gp J []) (gm A [(18, m_kept), (19, m_keptBy), (20, m_ahead), (21, m_against), (22, m_sum), (23, m_sumBy), (24, m_term), (25, m_termBy), (26, m_byNot), (27, m_valueOf), (35, m_s), (36, m_aside)]) (gm B [])) Af s.heap H locs → lv_has ls 4 [(0, .ref (ad 0)), (1, .int v1), (2, .int v2), (3, .int v3)] → k m_thrown m_firstSeized m_kept m_keptBy m_ahead m_against m_sum m_sumBy m_term m_termBy m_byNot m_valueOf m_s m_aside v1 v2 v3 = some res → W p l e rmX9_judged s m args below meth c H locs 0 0 (ZQ below D cy (dn cy LY_X9 ad P V (gp I [(0, 0, res.2.1), (0, 55, res.2.2.1)]) (gp J []) (gm A [(18, res.2.2.2.1), (19, res.2.2.2.2.1), (20, res.2.2.2.2.2.1), (21, res.2.2.2.2.2.2.1), (22, res.2.2.2.2.2.2.2.1), (23, res.2.2.2.2.2.2.2.2.1), (24, res.2.2.2.2.2.2.2.2.2.1), (25, res.2.2.2.2.2.2.2.2.2.2.1), (26, res.2.2.2.2.2.2.2.2.2.2.2.1), (27, res.2.2.2.2.2.2.2.2.2.2.2.2.1), (35, res.2.2.2.2.2.2.2.2.2.2.2.2.2.1), (36, res.2.2.2.2.2.2.2.2.2.2.2.2.2.2)]) (gm B [])) (some (.int res.1)) Af args s) (F0 m 43 ls [])
def fX9_judged_43 (m_colder : Int32) (m_terrace : (Nat → Int32)) (m_holeFlag : (Nat → Int32)) (m_coalTold : (Nat → Int32)) (m_burns : (Nat → Int32)) (m_walls : (Nat → Int32)) (m_kind : (Nat → Int32)) (m_guestFlag : (Nat → Int32)) (m_wars : (Nat → Int32)) (m_cold : (Nat → Int32)) (m_lineFrom : (Nat → Int32)) (m_lineTo : (Nat → Int32)) (m_codes : (Nat → Int32)) (m_lines : (Nat → Int32)) (m_lineWhat : (Nat → Int32)) (m_lineA : (Nat → Int32)) (m_lineB : (Nat → Int32)) (k43 : Int32 → Int32 → (Nat → Int32) → (Nat → Int32) → (Nat → Int32) → (Nat → Int32) → (Nat → Int32) → (Nat → Int32) → (Nat → Int32) → (Nat → Int32) → (Nat → Int32) → (Nat → Int32) → (Nat → Int32) → (Nat → Int32) → Int32 → Int32 → Int32 → Option (Int32 × Int32 × Int32 × (Nat → Int32) × (Nat → Int32) × (Nat → Int32) × (Nat → Int32) × (Nat → Int32) × (Nat → Int32) × (Nat → Int32) × (Nat → Int32) × (Nat → Int32) × (Nat → Int32) × (Nat → Int32) × (Nat → Int32))) (m_thrown : Int32) (m_firstSeized : Int32) (m_kept : (Nat → Int32)) (m_keptBy : (Nat → Int32)) (m_ahead : (Nat → Int32)) (m_against : (Nat → Int32)) (m_sum : (Nat → Int32)) (m_sumBy : (Nat → Int32)) (m_term : (Nat → Int32)) (m_termBy : (Nat → Int32)) (m_byNot : (Nat → Int32)) (m_valueOf : (Nat → Int32)) (m_s : (Nat → Int32)) (m_aside : (Nat → Int32)) (v1 : Int32) (v2 : Int32) (v3 : Int32) : Option (Int32 × Int32 × Int32 × (Nat → Int32) × (Nat → Int32) × (Nat → Int32) × (Nat → Int32) × (Nat → Int32) × (Nat → Int32) × (Nat → Int32) × (Nat → Int32) × (Nat → Int32) × (Nat → Int32) × (Nat → Int32) × (Nat → Int32)) := if (m_lines 0) ≤ v3 then (Option.bind (fX9_copies 13 13 m_aside m_s 0 0) fun y2 => (if v1 = 0 then (some (v2, m_thrown, m_firstSeized, m_kept, m_keptBy, m_ahead, m_against, m_sum, m_sumBy, m_term, m_termBy, m_byNot, m_valueOf, y2, m_aside)) else (if v1 = 1 then (some (m_firstSeized, m_thrown, m_firstSeized, m_kept, m_keptBy, m_ahead, m_against, m_sum, m_sumBy, m_term, m_termBy, m_byNot, m_valueOf, y2, m_aside)) else (some ((m_s 2), m_thrown, m_firstSeized, m_kept, m_keptBy, m_ahead, m_against, m_sum, m_sumBy, m_term, m_termBy, m_byNot, m_valueOf, y2, m_aside))))) else (Option.bind (fX9_goes m_colder m_terrace m_holeFlag m_burns m_walls m_kind m_guestFlag m_wars m_cold m_lineFrom m_lineTo m_codes m_lineWhat m_lineA m_lineB m_firstSeized m_kept m_keptBy m_ahead m_against m_sum m_sumBy m_term m_termBy m_byNot m_valueOf m_s v3) fun y5 => (if y5.1 = 0 then (if 0 ≤ v2 then (k43 m_thrown y5.2.1 y5.2.2.1 y5.2.2.2.1 y5.2.2.2.2.1 y5.2.2.2.2.2.1 y5.2.2.2.2.2.2.1 y5.2.2.2.2.2.2.2.1 y5.2.2.2.2.2.2.2.2.1 y5.2.2.2.2.2.2.2.2.2.1 y5.2.2.2.2.2.2.2.2.2.2.1 y5.2.2.2.2.2.2.2.2.2.2.2.1 y5.2.2.2.2.2.2.2.2.2.2.2.2 m_aside v1 v2 (v3 + 1)) else (k43 m_thrown y5.2.1 y5.2.2.1 y5.2.2.2.1 y5.2.2.2.2.1 y5.2.2.2.2.2.1 y5.2.2.2.2.2.2.1 y5.2.2.2.2.2.2.2.1 y5.2.2.2.2.2.2.2.2.1 y5.2.2.2.2.2.2.2.2.2.1 y5.2.2.2.2.2.2.2.2.2.2.1 y5.2.2.2.2.2.2.2.2.2.2.2.1 y5.2.2.2.2.2.2.2.2.2.2.2.2 m_aside v1 v3 (v3 + 1))) else (k43 m_thrown y5.2.1 y5.2.2.1 y5.2.2.2.1 y5.2.2.2.2.1 y5.2.2.2.2.2.1 y5.2.2.2.2.2.2.1 y5.2.2.2.2.2.2.2.1 y5.2.2.2.2.2.2.2.2.1 y5.2.2.2.2.2.2.2.2.2.1 y5.2.2.2.2.2.2.2.2.2.2.1 y5.2.2.2.2.2.2.2.2.2.2.2.1 y5.2.2.2.2.2.2.2.2.2.2.2.2 m_aside v1 v2 (v3 + 1))))
set_option maxHeartbeats 4000000 in
set_option maxRecDepth 100000 in
theorem tX9_judged_43 {p : Program} {l : Launch} {e : Env} {s : State} {m : MethodId} {args : Array Value} {below : List Frame} {meth : Method} {c : Code} {D : va_G} {cy : Nat → ClassId} {ad : Nat → Nat} {P : MP} {V : MV} {I : MI} {J : MJ} {A : MI} {B : MJ} {Af : Nat → Prop} {res : Int32 × Int32 × Int32 × (Nat → Int32) × (Nat → Int32) × (Nat → Int32) × (Nat → Int32) × (Nat → Int32) × (Nat → Int32) × (Nat → Int32) × (Nat → Int32) × (Nat → Int32) × (Nat → Int32) × (Nat → Int32) × (Nat → Int32)} (C0 : CX p s m args meth c cX9_judged 4 (some .int) RX9) (hK : va_K D vwCl (tyG cy) s) (hN : NWs s) (hA : ∀ q, s.heap.size ≤ q → Af q) {k43 : Int32 → Int32 → (Nat → Int32) → (Nat → Int32) → (Nat → Int32) → (Nat → Int32) → (Nat → Int32) → (Nat → Int32) → (Nat → Int32) → (Nat → Int32) → (Nat → Int32) → (Nat → Int32) → (Nat → Int32) → (Nat → Int32) → Int32 → Int32 → Int32 → Option (Int32 × Int32 × Int32 × (Nat → Int32) × (Nat → Int32) × (Nat → Int32) × (Nat → Int32) × (Nat → Int32) × (Nat → Int32) × (Nat → Int32) × (Nat → Int32) × (Nat → Int32) × (Nat → Int32) × (Nat → Int32) × (Nat → Int32))} (hk43 : SX9_judged_43 p l e s m args below meth c D cy ad P V I J A B Af res k43) : SX9_judged_43 p l e s m args below meth c D cy ad P V I J A B Af res (fX9_judged_43 (I 0 54) (A 2) (A 5) (A 6) (A 7) (A 8) (A 9) (A 10) (A 11) (A 12) (A 13) (A 14) (A 15) (A 28) (A 29) (A 30) (A 31) k43) := by
  intro m_thrown m_firstSeized m_kept m_keptBy m_ahead m_against m_sum m_sumBy m_term m_termBy m_byNot m_valueOf m_s m_aside v1 v2 v3 H locs ls hW hl hf
  unfold fX9_judged_43 at hf
  refine lv_iload_n C0.1 C0.2.1 dX9_judged_43 rfl (lv_at hl 3 rfl) ?_
  refine lv_aload_n C0.1 C0.2.1 dX9_judged_44 rfl (lv_at hl 0 rfl) ?_
  refine s_get (v := .ref (ad 28)) C0 hK hW 0 40 LY_X9_0 rfl fg_X9_93 rfl dX9_judged_45 ?_
  refine lv_iconst (v := 0) C0.1 C0.2.1 dX9_judged_48 kI_0 ?_
  refine s_iald (v := ((A 28) 0)) C0 hK hW 28 LY_X9_28 rfl (congrArg _ tc_0) dX9_judged_49 ?_
  refine lv_icmp_ge (tgt := 73) C0.1 C0.2.1 dX9_judged_50 (by decide) (fun hc1 => ?_) (fun hc1 => ?_)
  · have hf := ite_t hc1 hf
    refine lv_aload_n C0.1 C0.2.1 dX9_judged_73 rfl (lv_at hl 0 rfl) ?_
    refine s_get (v := .ref (ad 35)) C0 hK hW 0 47 LY_X9_0 rfl fg_X9_114 rfl dX9_judged_74 ?_
    refine lv_iconst (v := 2) C0.1 C0.2.1 dX9_judged_77 kI_2 ?_
    refine s_iald (v := (m_s 2)) C0 hK hW 35 LY_X9_35 rfl (congrArg _ tc_2) dX9_judged_78 ?_
    refine lv_istore_n (lv' := [(3, .int (m_s 2)), (0, .ref (ad 0)), (1, .int v1), (2, .int v2)]) C0.1 C0.2.1 dX9_judged_79 rfl hl (by decide) rfl (fun ls hl => ?_)
    refine lv_aload_n C0.1 C0.2.1 dX9_judged_80 rfl (lv_at hl 1 rfl) ?_
    refine s_get (v := .ref (ad 36)) C0 hK hW 0 48 LY_X9_0 rfl fg_X9_117 rfl dX9_judged_81 ?_
    refine lv_iconst (v := 0) C0.1 C0.2.1 dX9_judged_84 kI_0 ?_
    refine lv_aload_n C0.1 C0.2.1 dX9_judged_85 rfl (lv_at hl 1 rfl) ?_
    refine s_get (v := .ref (ad 35)) C0 hK hW 0 47 LY_X9_0 rfl fg_X9_114 rfl dX9_judged_86 ?_
    refine lv_iconst (v := 0) C0.1 C0.2.1 dX9_judged_89 kI_0 ?_
    obtain ⟨y2, hy2, hf⟩ := b_some hf
    refine c_Sv C0 hK hN hl.1 hW hA (KX9_copies l D cy 13 13 (fun q => ad (pl_LY_X9_LY_aIaI_36_35.getD q 0)) (fun q => P (pl_LY_X9_LY_aIaI_36_35.getD q 0)) (fun q => Vx LY_X9 ad V (pl_LY_X9_LY_aIaI_36_35.getD q 0)) (fun q => gp I [(0, 0, m_thrown), (0, 55, m_firstSeized)] (pl_LY_X9_LY_aIaI_36_35.getD q 0)) (fun q => gp J [] (pl_LY_X9_LY_aIaI_36_35.getD q 0)) (fun q => gm A [(18, m_kept), (19, m_keptBy), (20, m_ahead), (21, m_against), (22, m_sum), (23, m_sumBy), (24, m_term), (25, m_termBy), (26, m_byNot), (27, m_valueOf), (35, m_s), (36, m_aside)] (pl_LY_X9_LY_aIaI_36_35.getD q 0)) (fun q => gm B [] (pl_LY_X9_LY_aIaI_36_35.getD q 0)) 0 0 hy2) (JN_subC (pl := pl_LY_X9_LY_aIaI_36_35) sb_LY_X9_LY_aIaI_36_35 rfl rfl rfl rfl rfl rfl rfl rfl rfl) ⟨uw_1495, uw_1496, uw_14, uw_1497⟩ rfl rfl hd_X9_copies ⟨rfl, rfl⟩ rfl rfl rfl dX9_judged_90 ⟨Nat.zero_le _, Nat.zero_le _⟩ (fun H locs hW => ?_)
    have hW : wd D (dn cy LY_X9 ad P V (gp I [(0, 0, m_thrown), (0, 55, m_firstSeized)]) (gp J []) (gm A [(18, m_kept), (19, m_keptBy), (20, m_ahead), (21, m_against), (22, m_sum), (23, m_sumBy), (24, m_term), (25, m_termBy), (26, m_byNot), (27, m_valueOf), (35, y2), (36, m_aside)]) (gm B [])) Af s.heap H locs := hW
    refine lv_iload_n C0.1 C0.2.1 dX9_judged_93 rfl (lv_at hl 2 rfl) ?_
    refine lv_if_ne (tgt := 101) C0.1 C0.2.1 dX9_judged_94 (by decide) (fun hc3 => ?_) (fun hc3 => ?_)
    · have hf := ite_f hc3 hf
      refine lv_iload_n C0.1 C0.2.1 dX9_judged_101 rfl (lv_at hl 2 rfl) ?_
      refine lv_iconst (v := 1) C0.1 C0.2.1 dX9_judged_102 kI_1 ?_
      refine lv_icmp_ne (tgt := 113) C0.1 C0.2.1 dX9_judged_103 (by decide) (fun hc4 => ?_) (fun hc4 => ?_)
      · have hf := ite_f hc4 hf
        refine lv_iload_n C0.1 C0.2.1 dX9_judged_113 rfl (lv_at hl 0 rfl) ?_
        obtain rfl := Option.some.inj hf
        exact r_int C0 hK hW dX9_judged_114
      · have hf := ite_t hc4 hf
        refine lv_aload_n C0.1 C0.2.1 dX9_judged_106 rfl (lv_at hl 1 rfl) ?_
        refine s_get (v := .int m_firstSeized) C0 hK hW 0 55 LY_X9_0 rfl fg_X9_434 rfl dX9_judged_107 ?_
        refine lv_goto (tgt := 114) C0.1 C0.2.1 dX9_judged_110 (by decide) ?_
        obtain rfl := Option.some.inj hf
        exact r_int C0 hK hW dX9_judged_114
    · have hf := ite_t hc3 hf
      refine lv_iload_n C0.1 C0.2.1 dX9_judged_97 rfl (lv_at hl 3 rfl) ?_
      refine lv_goto (tgt := 114) C0.1 C0.2.1 dX9_judged_98 (by decide) ?_
      obtain rfl := Option.some.inj hf
      exact r_int C0 hK hW dX9_judged_114
  · have hf := ite_f hc1 hf
    refine lv_aload_n C0.1 C0.2.1 dX9_judged_53 rfl (lv_at hl 0 rfl) ?_
    refine lv_iload_n C0.1 C0.2.1 dX9_judged_54 rfl (lv_at hl 3 rfl) ?_
    obtain ⟨y5, hy5, hf⟩ := b_some hf
    refine c_Vi C0 hK hN hl.1 hW hA (KX9_goes l D cy  ad P V (gp I [(0, 0, m_thrown), (0, 55, m_firstSeized)]) (gp J []) (gm A [(18, m_kept), (19, m_keptBy), (20, m_ahead), (21, m_against), (22, m_sum), (23, m_sumBy), (24, m_term), (25, m_termBy), (26, m_byNot), (27, m_valueOf), (35, m_s), (36, m_aside)]) (gm B []) v3 hy5) (JN_id rfl rfl rfl rfl) (Uw_V uw_1540 uw_1542 us_86 uw_14 uw_1543) rfl rfl hd_X9_goes ⟨rfl, rfl⟩ rfl (dn_some LY_X9_0) rfl rfl rfl dX9_judged_55 ⟨Nat.zero_le _, Nat.zero_le _⟩ (fun H locs hW => ?_)
    have hW : wd D (dn cy LY_X9 ad P V (gp I [(0, 0, m_thrown), (0, 55, y5.2.1)]) (gp J []) (gm A [(18, y5.2.2.1), (19, y5.2.2.2.1), (20, y5.2.2.2.2.1), (21, y5.2.2.2.2.2.1), (22, y5.2.2.2.2.2.2.1), (23, y5.2.2.2.2.2.2.2.1), (24, y5.2.2.2.2.2.2.2.2.1), (25, y5.2.2.2.2.2.2.2.2.2.1), (26, y5.2.2.2.2.2.2.2.2.2.2.1), (27, y5.2.2.2.2.2.2.2.2.2.2.2.1), (35, y5.2.2.2.2.2.2.2.2.2.2.2.2), (36, m_aside)]) (gm B [])) Af s.heap H locs := hW
    refine lv_if_ne (tgt := 67) C0.1 C0.2.1 dX9_judged_58 (by decide) (fun hc6 => ?_) (fun hc6 => ?_)
    · have hf := ite_f hc6 hf
      refine lv_iinc (v := (v3 + 1)) (lv' := [(3, .int (v3 + 1)), (0, .ref (ad 0)), (1, .int v1), (2, .int v2)]) C0.1 C0.2.1 dX9_judged_67 hl (k := 3) rfl (congrArg (fun z => _ + z) kI_1) (by decide) rfl (fun ls hl => ?_)
      refine lv_goto (tgt := 43) C0.1 C0.2.1 dX9_judged_70 (by decide) ?_
      exact hk43 m_thrown y5.2.1 y5.2.2.1 y5.2.2.2.1 y5.2.2.2.2.1 y5.2.2.2.2.2.1 y5.2.2.2.2.2.2.1 y5.2.2.2.2.2.2.2.1 y5.2.2.2.2.2.2.2.2.1 y5.2.2.2.2.2.2.2.2.2.1 y5.2.2.2.2.2.2.2.2.2.2.1 y5.2.2.2.2.2.2.2.2.2.2.2.1 y5.2.2.2.2.2.2.2.2.2.2.2.2 m_aside v1 v2 (v3 + 1) H locs ls hW (lv_sub hl [1, 2, 3, 0] rfl) hf
    · have hf := ite_t hc6 hf
      refine lv_iload_n C0.1 C0.2.1 dX9_judged_61 rfl (lv_at hl 2 rfl) ?_
      refine lv_if_ge (tgt := 67) C0.1 C0.2.1 dX9_judged_62 (by decide) (fun hc7 => ?_) (fun hc7 => ?_)
      · have hf := ite_t hc7 hf
        refine lv_iinc (v := (v3 + 1)) (lv' := [(3, .int (v3 + 1)), (0, .ref (ad 0)), (1, .int v1), (2, .int v2)]) C0.1 C0.2.1 dX9_judged_67 hl (k := 3) rfl (congrArg (fun z => _ + z) kI_1) (by decide) rfl (fun ls hl => ?_)
        refine lv_goto (tgt := 43) C0.1 C0.2.1 dX9_judged_70 (by decide) ?_
        exact hk43 m_thrown y5.2.1 y5.2.2.1 y5.2.2.2.1 y5.2.2.2.2.1 y5.2.2.2.2.2.1 y5.2.2.2.2.2.2.1 y5.2.2.2.2.2.2.2.1 y5.2.2.2.2.2.2.2.2.1 y5.2.2.2.2.2.2.2.2.2.1 y5.2.2.2.2.2.2.2.2.2.2.1 y5.2.2.2.2.2.2.2.2.2.2.2.1 y5.2.2.2.2.2.2.2.2.2.2.2.2 m_aside v1 v2 (v3 + 1) H locs ls hW (lv_sub hl [1, 2, 3, 0] rfl) hf
      · have hf := ite_f hc7 hf
        refine lv_iload_n C0.1 C0.2.1 dX9_judged_65 rfl (lv_at hl 3 rfl) ?_
        refine lv_istore_n (lv' := [(2, .int v3), (0, .ref (ad 0)), (1, .int v1), (3, .int v3)]) C0.1 C0.2.1 dX9_judged_66 rfl hl (by decide) rfl (fun ls hl => ?_)
        refine lv_iinc (v := (v3 + 1)) (lv' := [(3, .int (v3 + 1)), (2, .int v3), (0, .ref (ad 0)), (1, .int v1)]) C0.1 C0.2.1 dX9_judged_67 hl (k := 3) rfl (congrArg (fun z => _ + z) kI_1) (by decide) rfl (fun ls hl => ?_)
        refine lv_goto (tgt := 43) C0.1 C0.2.1 dX9_judged_70 (by decide) ?_
        exact hk43 m_thrown y5.2.1 y5.2.2.1 y5.2.2.2.1 y5.2.2.2.2.1 y5.2.2.2.2.2.1 y5.2.2.2.2.2.2.1 y5.2.2.2.2.2.2.2.1 y5.2.2.2.2.2.2.2.2.1 y5.2.2.2.2.2.2.2.2.2.1 y5.2.2.2.2.2.2.2.2.2.2.1 y5.2.2.2.2.2.2.2.2.2.2.2.1 y5.2.2.2.2.2.2.2.2.2.2.2.2 m_aside v1 v3 (v3 + 1) H locs ls hW (lv_sub hl [2, 3, 1, 0] rfl) hf
theorem TX9_judged_43 {p : Program} {l : Launch} {e : Env} {s : State} {m : MethodId} {args : Array Value} {below : List Frame} {meth : Method} {c : Code} {D : va_G} {cy : Nat → ClassId} {ad : Nat → Nat} {P : MP} {V : MV} {I : MI} {J : MJ} {A : MI} {B : MJ} {Af : Nat → Prop} {res : Int32 × Int32 × Int32 × (Nat → Int32) × (Nat → Int32) × (Nat → Int32) × (Nat → Int32) × (Nat → Int32) × (Nat → Int32) × (Nat → Int32) × (Nat → Int32) × (Nat → Int32) × (Nat → Int32) × (Nat → Int32) × (Nat → Int32)} (C0 : CX p s m args meth c cX9_judged 4 (some .int) RX9) (hK : va_K D vwCl (tyG cy) s) (hN : NWs s) (hA : ∀ q, s.heap.size ≤ q → Af q) : ∀ n, SX9_judged_43 p l e s m args below meth c D cy ad P V I J A B Af res (itr (fun kk => fX9_judged_43 (I 0 54) (A 2) (A 5) (A 6) (A 7) (A 8) (A 9) (A 10) (A 11) (A 12) (A 13) (A 14) (A 15) (A 28) (A 29) (A 30) (A 31) kk) (fun _ _ _ _ _ _ _ _ _ _ _ _ _ _ _ _ _ => none) n) := by
  intro n
  induction n with
  | zero => intro m_thrown m_firstSeized m_kept m_keptBy m_ahead m_against m_sum m_sumBy m_term m_termBy m_byNot m_valueOf m_s m_aside v1 v2 v3 H locs ls hW hl hf; exact (nomatch (show (none : Option (Int32 × Int32 × Int32 × (Nat → Int32) × (Nat → Int32) × (Nat → Int32) × (Nat → Int32) × (Nat → Int32) × (Nat → Int32) × (Nat → Int32) × (Nat → Int32) × (Nat → Int32) × (Nat → Int32) × (Nat → Int32) × (Nat → Int32))) = some res from hf))
  | succ n ih => exact tX9_judged_43 C0 hK hN hA  ih
def fX9_judged (m_colder : Int32) (m_terrace : (Nat → Int32)) (m_holeFlag : (Nat → Int32)) (m_coalTold : (Nat → Int32)) (m_burns : (Nat → Int32)) (m_walls : (Nat → Int32)) (m_kind : (Nat → Int32)) (m_guestFlag : (Nat → Int32)) (m_wars : (Nat → Int32)) (m_cold : (Nat → Int32)) (m_lineFrom : (Nat → Int32)) (m_lineTo : (Nat → Int32)) (m_codes : (Nat → Int32)) (m_lines : (Nat → Int32)) (m_lineWhat : (Nat → Int32)) (m_lineA : (Nat → Int32)) (m_lineB : (Nat → Int32)) (m_thrown : Int32) (m_firstSeized : Int32) (m_kept : (Nat → Int32)) (m_keptBy : (Nat → Int32)) (m_ahead : (Nat → Int32)) (m_against : (Nat → Int32)) (m_sum : (Nat → Int32)) (m_sumBy : (Nat → Int32)) (m_term : (Nat → Int32)) (m_termBy : (Nat → Int32)) (m_byNot : (Nat → Int32)) (m_valueOf : (Nat → Int32)) (m_s : (Nat → Int32)) (m_aside : (Nat → Int32)) (v1 : Int32) : Option (Int32 × Int32 × Int32 × (Nat → Int32) × (Nat → Int32) × (Nat → Int32) × (Nat → Int32) × (Nat → Int32) × (Nat → Int32) × (Nat → Int32) × (Nat → Int32) × (Nat → Int32) × (Nat → Int32) × (Nat → Int32) × (Nat → Int32)) := Option.bind (fX9_within v1 0 2) fun y1 => (if y1 = 0 then (some ((-2), 0, m_firstSeized, m_kept, m_keptBy, m_ahead, m_against, m_sum, m_sumBy, m_term, m_termBy, m_byNot, m_valueOf, m_s, m_aside)) else (Option.bind (fX9_copies 13 13 m_s m_aside 0 0) fun y3 => (Option.bind (fX9_fresh0 m_terrace m_coalTold m_s) fun y4 => (itr (fun kk => fX9_judged_43 m_colder m_terrace m_holeFlag m_coalTold m_burns m_walls m_kind m_guestFlag m_wars m_cold m_lineFrom m_lineTo m_codes m_lines m_lineWhat m_lineA m_lineB kk) (fun _ _ _ _ _ _ _ _ _ _ _ _ _ _ _ _ _ => none) FU 0 (-1) m_kept m_keptBy m_ahead m_against m_sum m_sumBy m_term m_termBy m_byNot m_valueOf y4 y3 v1 (-1) 0))))
set_option maxHeartbeats 4000000 in
set_option maxRecDepth 100000 in
theorem KX9_judged (l : Launch) (D : va_G) (cy : Nat → ClassId) (ad : Nat → Nat) (P : MP) (V : MV) (I : MI) (J : MJ) (A : MI) (B : MJ) (v1 : Int32) {res : Int32 × Int32 × Int32 × (Nat → Int32) × (Nat → Int32) × (Nat → Int32) × (Nat → Int32) × (Nat → Int32) × (Nat → Int32) × (Nat → Int32) × (Nat → Int32) × (Nat → Int32) × (Nat → Int32) × (Nat → Int32) × (Nat → Int32)} (hf : fX9_judged (I 0 54) (A 2) (A 5) (A 6) (A 7) (A 8) (A 9) (A 10) (A 11) (A 12) (A 13) (A 14) (A 15) (A 28) (A 29) (A 30) (A 31) (I 0 0) (I 0 55) (A 18) (A 19) (A 20) (A 21) (A 22) (A 23) (A 24) (A 25) (A 26) (A 27) (A 35) (A 36) v1 = some res) : CG l yX9_judged cX9_judged 4 (some .int) rmX9_judged D cy (dn cy LY_X9 ad P V I J A B) [.ref (ad 0), .int v1] (some (.int res.1)) (dn cy LY_X9 ad P V (gp I [(0, 0, res.2.1), (0, 55, res.2.2.1)]) (gp J []) (gm A [(18, res.2.2.2.1), (19, res.2.2.2.2.1), (20, res.2.2.2.2.2.1), (21, res.2.2.2.2.2.2.1), (22, res.2.2.2.2.2.2.2.1), (23, res.2.2.2.2.2.2.2.2.1), (24, res.2.2.2.2.2.2.2.2.2.1), (25, res.2.2.2.2.2.2.2.2.2.2.1), (26, res.2.2.2.2.2.2.2.2.2.2.2.1), (27, res.2.2.2.2.2.2.2.2.2.2.2.2.1), (35, res.2.2.2.2.2.2.2.2.2.2.2.2.2.1), (36, res.2.2.2.2.2.2.2.2.2.2.2.2.2.2)]) (gm B [])) := by
  refine CG.of (own := RX9) (by decide) rfl rfl ?_
  intro p e s m below meth c ls Af C0 hK hN hA hW hl
  have hW : wd D (dn cy LY_X9 ad P V (gp I [(0, 0, (I 0 0)), (0, 55, (I 0 55))]) (gp J []) (gm A [(18, (A 18)), (19, (A 19)), (20, (A 20)), (21, (A 21)), (22, (A 22)), (23, (A 23)), (24, (A 24)), (25, (A 25)), (26, (A 26)), (27, (A 27)), (35, (A 35)), (36, (A 36))]) (gm B [])) Af s.heap s.heap [] := wd_sel [(0, 0), (0, 55)] [] [18, 19, 20, 21, 22, 23, 24, 25, 26, 27, 35, 36] [] hW
  have hl : lv_has ls 4 [(0, .ref (ad 0)), (1, .int v1)] := hl
  unfold fX9_judged at hf
  refine lv_aload_n C0.1 C0.2.1 dX9_judged_0 rfl (lv_at hl 0 rfl) ?_
  refine lv_iconst (v := 0) C0.1 C0.2.1 dX9_judged_1 kI_0 ?_
  refine s_putI C0 hK hW 0 0 LY_X9_0 rfl fg_X9_142 fp_X9_0 rfl dX9_judged_2 (fun H locs hW => ?_)
  have hW : wd D (dn cy LY_X9 ad P V (gp I [(0, 0, 0), (0, 55, (I 0 55))]) (gp J []) (gm A [(18, (A 18)), (19, (A 19)), (20, (A 20)), (21, (A 21)), (22, (A 22)), (23, (A 23)), (24, (A 24)), (25, (A 25)), (26, (A 26)), (27, (A 27)), (35, (A 35)), (36, (A 36))]) (gm B [])) Af s.heap H locs := hW
  refine lv_iload_n C0.1 C0.2.1 dX9_judged_5 rfl (lv_at hl 1 rfl) ?_
  refine lv_iconst (v := 0) C0.1 C0.2.1 dX9_judged_6 kI_0 ?_
  refine lv_iconst (v := 2) C0.1 C0.2.1 dX9_judged_7 kI_2 ?_
  obtain ⟨y1, hy1, hf⟩ := b_some hf
  refine c_Si C0 hK hN hl.1 hW hA (KX9_within l D cy  (fun q => ad (pl_LY_X9_LY_0_.getD q 0)) (fun q => P (pl_LY_X9_LY_0_.getD q 0)) (fun q => Vx LY_X9 ad V (pl_LY_X9_LY_0_.getD q 0)) (fun q => gp I [(0, 0, 0), (0, 55, (I 0 55))] (pl_LY_X9_LY_0_.getD q 0)) (fun q => gp J [] (pl_LY_X9_LY_0_.getD q 0)) (fun q => gm A [(18, (A 18)), (19, (A 19)), (20, (A 20)), (21, (A 21)), (22, (A 22)), (23, (A 23)), (24, (A 24)), (25, (A 25)), (26, (A 26)), (27, (A 27)), (35, (A 35)), (36, (A 36))] (pl_LY_X9_LY_0_.getD q 0)) (fun q => gm B [] (pl_LY_X9_LY_0_.getD q 0)) v1 0 2 hy1) (JN_subC (pl := pl_LY_X9_LY_0_) sb_LY_X9_LY_0_ rfl rfl rfl rfl rfl rfl rfl rfl rfl) ⟨uw_1331, uw_1332, uw_14, uw_1333⟩ rfl rfl hd_X9_within ⟨rfl, rfl⟩ rfl rfl rfl dX9_judged_8 ⟨Nat.zero_le _, Nat.zero_le _⟩ (fun H locs hW => ?_)
  have hW : wd D (dn cy LY_X9 ad P V (gp I [(0, 0, 0), (0, 55, (I 0 55))]) (gp J []) (gm A [(18, (A 18)), (19, (A 19)), (20, (A 20)), (21, (A 21)), (22, (A 22)), (23, (A 23)), (24, (A 24)), (25, (A 25)), (26, (A 26)), (27, (A 27)), (35, (A 35)), (36, (A 36))]) (gm B [])) Af s.heap H locs := hW
  refine lv_if_ne (tgt := 17) C0.1 C0.2.1 dX9_judged_11 (by decide) (fun hc2 => ?_) (fun hc2 => ?_)
  · have hf := ite_f hc2 hf
    refine lv_aload_n C0.1 C0.2.1 dX9_judged_17 rfl (lv_at hl 0 rfl) ?_
    refine s_get (v := .ref (ad 35)) C0 hK hW 0 47 LY_X9_0 rfl fg_X9_114 rfl dX9_judged_18 ?_
    refine lv_iconst (v := 0) C0.1 C0.2.1 dX9_judged_21 kI_0 ?_
    refine lv_aload_n C0.1 C0.2.1 dX9_judged_22 rfl (lv_at hl 0 rfl) ?_
    refine s_get (v := .ref (ad 36)) C0 hK hW 0 48 LY_X9_0 rfl fg_X9_117 rfl dX9_judged_23 ?_
    refine lv_iconst (v := 0) C0.1 C0.2.1 dX9_judged_26 kI_0 ?_
    obtain ⟨y3, hy3, hf⟩ := b_some hf
    refine c_Sv C0 hK hN hl.1 hW hA (KX9_copies l D cy 13 13 (fun q => ad (pl_LY_X9_LY_aIaI_35_36.getD q 0)) (fun q => P (pl_LY_X9_LY_aIaI_35_36.getD q 0)) (fun q => Vx LY_X9 ad V (pl_LY_X9_LY_aIaI_35_36.getD q 0)) (fun q => gp I [(0, 0, 0), (0, 55, (I 0 55))] (pl_LY_X9_LY_aIaI_35_36.getD q 0)) (fun q => gp J [] (pl_LY_X9_LY_aIaI_35_36.getD q 0)) (fun q => gm A [(18, (A 18)), (19, (A 19)), (20, (A 20)), (21, (A 21)), (22, (A 22)), (23, (A 23)), (24, (A 24)), (25, (A 25)), (26, (A 26)), (27, (A 27)), (35, (A 35)), (36, (A 36))] (pl_LY_X9_LY_aIaI_35_36.getD q 0)) (fun q => gm B [] (pl_LY_X9_LY_aIaI_35_36.getD q 0)) 0 0 hy3) (JN_subC (pl := pl_LY_X9_LY_aIaI_35_36) sb_LY_X9_LY_aIaI_35_36 rfl rfl rfl rfl rfl rfl rfl rfl rfl) ⟨uw_1495, uw_1496, uw_14, uw_1497⟩ rfl rfl hd_X9_copies ⟨rfl, rfl⟩ rfl rfl rfl dX9_judged_27 ⟨Nat.zero_le _, Nat.zero_le _⟩ (fun H locs hW => ?_)
    have hW : wd D (dn cy LY_X9 ad P V (gp I [(0, 0, 0), (0, 55, (I 0 55))]) (gp J []) (gm A [(18, (A 18)), (19, (A 19)), (20, (A 20)), (21, (A 21)), (22, (A 22)), (23, (A 23)), (24, (A 24)), (25, (A 25)), (26, (A 26)), (27, (A 27)), (35, (A 35)), (36, y3)]) (gm B [])) Af s.heap H locs := hW
    refine lv_aload_n C0.1 C0.2.1 dX9_judged_30 rfl (lv_at hl 0 rfl) ?_
    obtain ⟨y4, hy4, hf⟩ := b_some hf
    refine c_Vv C0 hK hN hl.1 hW hA (KX9_fresh0 l D cy  ad P V (gp I [(0, 0, 0), (0, 55, (I 0 55))]) (gp J []) (gm A [(18, (A 18)), (19, (A 19)), (20, (A 20)), (21, (A 21)), (22, (A 22)), (23, (A 23)), (24, (A 24)), (25, (A 25)), (26, (A 26)), (27, (A 27)), (35, (A 35)), (36, y3)]) (gm B [])  hy4) (JN_id rfl rfl rfl rfl) (Uw_V uw_1396 uw_1398 us_62 uw_14 uw_1399) rfl rfl hd_X9_fresh0 ⟨rfl, rfl⟩ rfl (dn_some LY_X9_0) rfl rfl rfl dX9_judged_31 ⟨Nat.zero_le _, Nat.zero_le _⟩ (fun H locs hW => ?_)
    have hW : wd D (dn cy LY_X9 ad P V (gp I [(0, 0, 0), (0, 55, (I 0 55))]) (gp J []) (gm A [(18, (A 18)), (19, (A 19)), (20, (A 20)), (21, (A 21)), (22, (A 22)), (23, (A 23)), (24, (A 24)), (25, (A 25)), (26, (A 26)), (27, (A 27)), (35, y4), (36, y3)]) (gm B [])) Af s.heap H locs := hW
    refine lv_iconst (v := (-1)) C0.1 C0.2.1 dX9_judged_34 kI_m1 ?_
    refine lv_istore_n (lv' := [(2, .int (-1)), (0, .ref (ad 0)), (1, .int v1)]) C0.1 C0.2.1 dX9_judged_35 rfl hl (by decide) rfl (fun ls hl => ?_)
    refine lv_aload_n C0.1 C0.2.1 dX9_judged_36 rfl (lv_at hl 1 rfl) ?_
    refine lv_iconst (v := (-1)) C0.1 C0.2.1 dX9_judged_37 kI_m1 ?_
    refine s_putI C0 hK hW 0 55 LY_X9_0 rfl fg_X9_434 fp_X9_55 rfl dX9_judged_38 (fun H locs hW => ?_)
    have hW : wd D (dn cy LY_X9 ad P V (gp I [(0, 0, 0), (0, 55, (-1))]) (gp J []) (gm A [(18, (A 18)), (19, (A 19)), (20, (A 20)), (21, (A 21)), (22, (A 22)), (23, (A 23)), (24, (A 24)), (25, (A 25)), (26, (A 26)), (27, (A 27)), (35, y4), (36, y3)]) (gm B [])) Af s.heap H locs := hW
    refine lv_iconst (v := 0) C0.1 C0.2.1 dX9_judged_41 kI_0 ?_
    refine lv_istore_n (lv' := [(3, .int 0), (2, .int (-1)), (0, .ref (ad 0)), (1, .int v1)]) C0.1 C0.2.1 dX9_judged_42 rfl hl (by decide) rfl (fun ls hl => ?_)
    exact TX9_judged_43 C0 hK hN hA  FU 0 (-1) (A 18) (A 19) (A 20) (A 21) (A 22) (A 23) (A 24) (A 25) (A 26) (A 27) y4 y3 v1 (-1) 0 _ _ ls hW (lv_sub hl [2, 3, 1, 0] rfl) hf
  · have hf := ite_t hc2 hf
    refine lv_bipush (v := (-2)) C0.1 C0.2.1 dX9_judged_14 kB_m2 ?_
    obtain rfl := Option.some.inj hf
    exact r_int C0 hK hW dX9_judged_16
-- X9_emptyIn
def rmX9_emptyIn : Room := { frames := 3, cells := 0, slots := 0, locals := 64 }
def SX9_emptyIn_44 (p : Program) (l : Launch) (e : Env) (s : State) (m : MethodId) (args : Array Value) (below : List Frame) (meth : Method) (c : Code) (D : va_G) (cy : Nat → ClassId) (ad : Nat → Nat) (P : MP) (V : MV) (I : MI) (J : MJ) (A : MI) (B : MJ) (Af : Nat → Prop) (res : Int32 × (Nat → Int32) × (Nat → Int32)) (k : (Nat → Int32) → (Nat → Int32) → Int32 → Option (Int32 × (Nat → Int32) × (Nat → Int32))) : Prop := ∀ (m_s : (Nat → Int32)) (m_before : (Nat → Int32)) (v3 : Int32) (H : Heap) (locs : List Loc) (ls : Array Slot), wd D (dn cy LY_X9 ad P V (gp I []) (gp J []) (gm A [(35, m_s), (37, m_before)]) (gm B [])) Af s.heap H locs → lv_has ls 4 [(0, .ref (ad 0)), (3, .int v3)] → k m_s m_before v3 = some res → W p l e rmX9_emptyIn s m args below meth c H locs 0 0 (ZQ below D cy (dn cy LY_X9 ad P V (gp I []) (gp J []) (gm A [(35, res.2.1), (37, res.2.2)]) (gm B [])) (some (.int res.1)) Af args s) (F0 m 44 ls [])
def SX9_emptyIn_15 (p : Program) (l : Launch) (e : Env) (s : State) (m : MethodId) (args : Array Value) (below : List Frame) (meth : Method) (c : Code) (D : va_G) (cy : Nat → ClassId) (ad : Nat → Nat) (P : MP) (V : MV) (I : MI) (J : MJ) (A : MI) (B : MJ) (Af : Nat → Prop) (res : Int32 × (Nat → Int32) × (Nat → Int32)) (k : (Nat → Int32) → (Nat → Int32) → Int32 → Int32 → Int32 → Option (Int32 × (Nat → Int32) × (Nat → Int32))) : Prop := ∀ (m_s : (Nat → Int32)) (m_before : (Nat → Int32)) (v1 : Int32) (v2 : Int32) (v3 : Int32) (H : Heap) (locs : List Loc) (ls : Array Slot), wd D (dn cy LY_X9 ad P V (gp I []) (gp J []) (gm A [(35, m_s), (37, m_before)]) (gm B [])) Af s.heap H locs → lv_has ls 4 [(0, .ref (ad 0)), (1, .int v1), (2, .int v2), (3, .int v3)] → k m_s m_before v1 v2 v3 = some res → W p l e rmX9_emptyIn s m args below meth c H locs 0 0 (ZQ below D cy (dn cy LY_X9 ad P V (gp I []) (gp J []) (gm A [(35, res.2.1), (37, res.2.2)]) (gm B [])) (some (.int res.1)) Af args s) (F0 m 15 ls [])
def fX9_emptyIn_44 (m_colder : Int32) (m_terrace : (Nat → Int32)) (m_burns : (Nat → Int32)) (m_kind : (Nat → Int32)) (m_cold : (Nat → Int32)) (m_s : (Nat → Int32)) (m_before : (Nat → Int32)) (v3 : Int32) : Option (Int32 × (Nat → Int32) × (Nat → Int32)) := Option.bind (fX9_copies 13 13 m_before m_s 0 0) fun y1 => (if v3 ≤ 99 then (some (v3, y1, m_before)) else (some ((-1), y1, m_before)))
set_option maxHeartbeats 4000000 in
set_option maxRecDepth 100000 in
theorem tX9_emptyIn_44 {p : Program} {l : Launch} {e : Env} {s : State} {m : MethodId} {args : Array Value} {below : List Frame} {meth : Method} {c : Code} {D : va_G} {cy : Nat → ClassId} {ad : Nat → Nat} {P : MP} {V : MV} {I : MI} {J : MJ} {A : MI} {B : MJ} {Af : Nat → Prop} {res : Int32 × (Nat → Int32) × (Nat → Int32)} (C0 : CX p s m args meth c cX9_emptyIn 4 (some .int) RX9) (hK : va_K D vwCl (tyG cy) s) (hN : NWs s) (hA : ∀ q, s.heap.size ≤ q → Af q) : SX9_emptyIn_44 p l e s m args below meth c D cy ad P V I J A B Af res (fX9_emptyIn_44 (I 0 54) (A 2) (A 7) (A 9) (A 12)) := by
  intro m_s m_before v3 H locs ls hW hl hf
  unfold fX9_emptyIn_44 at hf
  refine lv_aload_n C0.1 C0.2.1 dX9_emptyIn_44 rfl (lv_at hl 0 rfl) ?_
  refine s_get (v := .ref (ad 37)) C0 hK hW 0 49 LY_X9_0 rfl fg_X9_120 rfl dX9_emptyIn_45 ?_
  refine lv_iconst (v := 0) C0.1 C0.2.1 dX9_emptyIn_48 kI_0 ?_
  refine lv_aload_n C0.1 C0.2.1 dX9_emptyIn_49 rfl (lv_at hl 0 rfl) ?_
  refine s_get (v := .ref (ad 35)) C0 hK hW 0 47 LY_X9_0 rfl fg_X9_114 rfl dX9_emptyIn_50 ?_
  refine lv_iconst (v := 0) C0.1 C0.2.1 dX9_emptyIn_53 kI_0 ?_
  obtain ⟨y1, hy1, hf⟩ := b_some hf
  refine c_Sv C0 hK hN hl.1 hW hA (KX9_copies l D cy 13 13 (fun q => ad (pl_LY_X9_LY_aIaI_37_35.getD q 0)) (fun q => P (pl_LY_X9_LY_aIaI_37_35.getD q 0)) (fun q => Vx LY_X9 ad V (pl_LY_X9_LY_aIaI_37_35.getD q 0)) (fun q => gp I [] (pl_LY_X9_LY_aIaI_37_35.getD q 0)) (fun q => gp J [] (pl_LY_X9_LY_aIaI_37_35.getD q 0)) (fun q => gm A [(35, m_s), (37, m_before)] (pl_LY_X9_LY_aIaI_37_35.getD q 0)) (fun q => gm B [] (pl_LY_X9_LY_aIaI_37_35.getD q 0)) 0 0 hy1) (JN_subC (pl := pl_LY_X9_LY_aIaI_37_35) sb_LY_X9_LY_aIaI_37_35 rfl rfl rfl rfl rfl rfl rfl rfl rfl) ⟨uw_1495, uw_1496, uw_14, uw_1497⟩ rfl rfl hd_X9_copies ⟨rfl, rfl⟩ rfl rfl rfl dX9_emptyIn_54 ⟨Nat.zero_le _, Nat.zero_le _⟩ (fun H locs hW => ?_)
  have hW : wd D (dn cy LY_X9 ad P V (gp I []) (gp J []) (gm A [(35, y1), (37, m_before)]) (gm B [])) Af s.heap H locs := hW
  refine lv_iload_n C0.1 C0.2.1 dX9_emptyIn_57 rfl (lv_at hl 1 rfl) ?_
  refine lv_bipush (v := 99) C0.1 C0.2.1 dX9_emptyIn_58 kB_99 ?_
  refine lv_icmp_le (tgt := 67) C0.1 C0.2.1 dX9_emptyIn_60 (by decide) (fun hc2 => ?_) (fun hc2 => ?_)
  · have hf := ite_t hc2 hf
    refine lv_iload_n C0.1 C0.2.1 dX9_emptyIn_67 rfl (lv_at hl 1 rfl) ?_
    obtain rfl := Option.some.inj hf
    exact r_int C0 hK hW dX9_emptyIn_68
  · have hf := ite_f hc2 hf
    refine lv_iconst (v := (-1)) C0.1 C0.2.1 dX9_emptyIn_63 kI_m1 ?_
    refine lv_goto (tgt := 68) C0.1 C0.2.1 dX9_emptyIn_64 (by decide) ?_
    obtain rfl := Option.some.inj hf
    exact r_int C0 hK hW dX9_emptyIn_68
def fX9_emptyIn_15 (m_colder : Int32) (m_terrace : (Nat → Int32)) (m_burns : (Nat → Int32)) (m_kind : (Nat → Int32)) (m_cold : (Nat → Int32)) (k15 : (Nat → Int32) → (Nat → Int32) → Int32 → Int32 → Int32 → Option (Int32 × (Nat → Int32) × (Nat → Int32))) (m_s : (Nat → Int32)) (m_before : (Nat → Int32)) (v1 : Int32) (v2 : Int32) (v3 : Int32) : Option (Int32 × (Nat → Int32) × (Nat → Int32)) := if 100 ≤ v3 then (fX9_emptyIn_44 m_colder m_terrace m_burns m_kind m_cold m_s m_before v3) else (bif inb (3 + v1) 13 then (if (m_s (Int32.toNatClampNeg (3 + v1))) < v2 then (fX9_emptyIn_44 m_colder m_terrace m_burns m_kind m_cold m_s m_before v3) else (Option.bind (fX9_passes m_colder m_terrace m_burns m_kind m_cold m_s) fun y4 => (k15 y4.2 m_before v1 v2 (v3 + 1)))) else none)
set_option maxHeartbeats 4000000 in
set_option maxRecDepth 100000 in
theorem tX9_emptyIn_15 {p : Program} {l : Launch} {e : Env} {s : State} {m : MethodId} {args : Array Value} {below : List Frame} {meth : Method} {c : Code} {D : va_G} {cy : Nat → ClassId} {ad : Nat → Nat} {P : MP} {V : MV} {I : MI} {J : MJ} {A : MI} {B : MJ} {Af : Nat → Prop} {res : Int32 × (Nat → Int32) × (Nat → Int32)} (C0 : CX p s m args meth c cX9_emptyIn 4 (some .int) RX9) (hK : va_K D vwCl (tyG cy) s) (hN : NWs s) (hA : ∀ q, s.heap.size ≤ q → Af q) {k15 : (Nat → Int32) → (Nat → Int32) → Int32 → Int32 → Int32 → Option (Int32 × (Nat → Int32) × (Nat → Int32))} (hk15 : SX9_emptyIn_15 p l e s m args below meth c D cy ad P V I J A B Af res k15) : SX9_emptyIn_15 p l e s m args below meth c D cy ad P V I J A B Af res (fX9_emptyIn_15 (I 0 54) (A 2) (A 7) (A 9) (A 12) k15) := by
  intro m_s m_before v1 v2 v3 H locs ls hW hl hf
  unfold fX9_emptyIn_15 at hf
  refine lv_iload_n C0.1 C0.2.1 dX9_emptyIn_15 rfl (lv_at hl 3 rfl) ?_
  refine lv_bipush (v := 100) C0.1 C0.2.1 dX9_emptyIn_16 kB_100 ?_
  refine lv_icmp_ge (tgt := 44) C0.1 C0.2.1 dX9_emptyIn_18 (by decide) (fun hc1 => ?_) (fun hc1 => ?_)
  · have hf := ite_t hc1 hf
    exact tX9_emptyIn_44 C0 hK hN hA  m_s m_before v3 H locs ls hW (lv_sub hl [0, 3] rfl) hf
  · have hf := ite_f hc1 hf
    refine lv_aload_n C0.1 C0.2.1 dX9_emptyIn_21 rfl (lv_at hl 0 rfl) ?_
    refine s_get (v := .ref (ad 35)) C0 hK hW 0 47 LY_X9_0 rfl fg_X9_114 rfl dX9_emptyIn_22 ?_
    refine lv_iconst (v := 3) C0.1 C0.2.1 dX9_emptyIn_25 kI_3 ?_
    refine lv_iload_n C0.1 C0.2.1 dX9_emptyIn_26 rfl (lv_at hl 1 rfl) ?_
    refine lv_iadd C0.1 C0.2.1 dX9_emptyIn_27 ?_
    obtain ⟨hb2, hf⟩ := g_some hf
    refine s_iald (v := (m_s (Int32.toNatClampNeg (3 + v1)))) C0 hK hW 35 LY_X9_35 hb2 rfl dX9_emptyIn_28 ?_
    refine lv_iload_n C0.1 C0.2.1 dX9_emptyIn_29 rfl (lv_at hl 2 rfl) ?_
    refine lv_icmp_lt (tgt := 44) C0.1 C0.2.1 dX9_emptyIn_30 (by decide) (fun hc3 => ?_) (fun hc3 => ?_)
    · have hf := ite_t hc3 hf
      exact tX9_emptyIn_44 C0 hK hN hA  m_s m_before v3 H locs ls hW (lv_sub hl [0, 3] rfl) hf
    · have hf := ite_f hc3 hf
      refine lv_aload_n C0.1 C0.2.1 dX9_emptyIn_33 rfl (lv_at hl 0 rfl) ?_
      obtain ⟨y4, hy4, hf⟩ := b_some hf
      refine c_Vi C0 hK hN hl.1 hW hA (KX9_passes l D cy  ad P V (gp I []) (gp J []) (gm A [(35, m_s), (37, m_before)]) (gm B [])  hy4) (JN_id rfl rfl rfl rfl) (Uw_V uw_1523 uw_1525 us_84 uw_14 uw_1526) rfl rfl hd_X9_passes ⟨rfl, rfl⟩ rfl (dn_some LY_X9_0) rfl rfl rfl dX9_emptyIn_34 ⟨Nat.zero_le _, Nat.zero_le _⟩ (fun H locs hW => ?_)
      have hW : wd D (dn cy LY_X9 ad P V (gp I []) (gp J []) (gm A [(35, y4.2), (37, m_before)]) (gm B [])) Af s.heap H locs := hW
      refine lv_pop C0.1 C0.2.1 dX9_emptyIn_37 rfl ?_
      refine lv_iinc (v := (v3 + 1)) (lv' := [(3, .int (v3 + 1)), (0, .ref (ad 0)), (1, .int v1), (2, .int v2)]) C0.1 C0.2.1 dX9_emptyIn_38 hl (k := 3) rfl (congrArg (fun z => _ + z) kI_1) (by decide) rfl (fun ls hl => ?_)
      refine lv_goto (tgt := 15) C0.1 C0.2.1 dX9_emptyIn_41 (by decide) ?_
      exact hk15 y4.2 m_before v1 v2 (v3 + 1) H locs ls hW (lv_sub hl [1, 2, 3, 0] rfl) hf
theorem TX9_emptyIn_15 {p : Program} {l : Launch} {e : Env} {s : State} {m : MethodId} {args : Array Value} {below : List Frame} {meth : Method} {c : Code} {D : va_G} {cy : Nat → ClassId} {ad : Nat → Nat} {P : MP} {V : MV} {I : MI} {J : MJ} {A : MI} {B : MJ} {Af : Nat → Prop} {res : Int32 × (Nat → Int32) × (Nat → Int32)} (C0 : CX p s m args meth c cX9_emptyIn 4 (some .int) RX9) (hK : va_K D vwCl (tyG cy) s) (hN : NWs s) (hA : ∀ q, s.heap.size ≤ q → Af q) : ∀ n, SX9_emptyIn_15 p l e s m args below meth c D cy ad P V I J A B Af res (itr (fun kk => fX9_emptyIn_15 (I 0 54) (A 2) (A 7) (A 9) (A 12) kk) (fun _ _ _ _ _ => none) n) := by
  intro n
  induction n with
  | zero => intro m_s m_before v1 v2 v3 H locs ls hW hl hf; exact (nomatch (show (none : Option (Int32 × (Nat → Int32) × (Nat → Int32))) = some res from hf))
  | succ n ih => exact tX9_emptyIn_15 C0 hK hN hA  ih
def fX9_emptyIn (m_colder : Int32) (m_terrace : (Nat → Int32)) (m_burns : (Nat → Int32)) (m_kind : (Nat → Int32)) (m_cold : (Nat → Int32)) (m_s : (Nat → Int32)) (m_before : (Nat → Int32)) (v1 : Int32) (v2 : Int32) : Option (Int32 × (Nat → Int32) × (Nat → Int32)) := Option.bind (fX9_copies 13 13 m_s m_before 0 0) fun y1 => (itr (fun kk => fX9_emptyIn_15 m_colder m_terrace m_burns m_kind m_cold kk) (fun _ _ _ _ _ => none) FU m_s y1 v1 v2 0)
set_option maxHeartbeats 4000000 in
set_option maxRecDepth 100000 in
theorem KX9_emptyIn (l : Launch) (D : va_G) (cy : Nat → ClassId) (ad : Nat → Nat) (P : MP) (V : MV) (I : MI) (J : MJ) (A : MI) (B : MJ) (v1 : Int32) (v2 : Int32) {res : Int32 × (Nat → Int32) × (Nat → Int32)} (hf : fX9_emptyIn (I 0 54) (A 2) (A 7) (A 9) (A 12) (A 35) (A 37) v1 v2 = some res) : CG l yX9_emptyIn cX9_emptyIn 4 (some .int) rmX9_emptyIn D cy (dn cy LY_X9 ad P V I J A B) [.ref (ad 0), .int v1, .int v2] (some (.int res.1)) (dn cy LY_X9 ad P V (gp I []) (gp J []) (gm A [(35, res.2.1), (37, res.2.2)]) (gm B [])) := by
  refine CG.of (own := RX9) (by decide) rfl rfl ?_
  intro p e s m below meth c ls Af C0 hK hN hA hW hl
  have hW : wd D (dn cy LY_X9 ad P V (gp I []) (gp J []) (gm A [(35, (A 35)), (37, (A 37))]) (gm B [])) Af s.heap s.heap [] := wd_sel [] [] [35, 37] [] hW
  have hl : lv_has ls 4 [(0, .ref (ad 0)), (1, .int v1), (2, .int v2)] := hl
  unfold fX9_emptyIn at hf
  refine lv_aload_n C0.1 C0.2.1 dX9_emptyIn_0 rfl (lv_at hl 0 rfl) ?_
  refine s_get (v := .ref (ad 35)) C0 hK hW 0 47 LY_X9_0 rfl fg_X9_114 rfl dX9_emptyIn_1 ?_
  refine lv_iconst (v := 0) C0.1 C0.2.1 dX9_emptyIn_4 kI_0 ?_
  refine lv_aload_n C0.1 C0.2.1 dX9_emptyIn_5 rfl (lv_at hl 0 rfl) ?_
  refine s_get (v := .ref (ad 37)) C0 hK hW 0 49 LY_X9_0 rfl fg_X9_120 rfl dX9_emptyIn_6 ?_
  refine lv_iconst (v := 0) C0.1 C0.2.1 dX9_emptyIn_9 kI_0 ?_
  obtain ⟨y1, hy1, hf⟩ := b_some hf
  refine c_Sv C0 hK hN hl.1 hW hA (KX9_copies l D cy 13 13 (fun q => ad (pl_LY_X9_LY_aIaI_35_37.getD q 0)) (fun q => P (pl_LY_X9_LY_aIaI_35_37.getD q 0)) (fun q => Vx LY_X9 ad V (pl_LY_X9_LY_aIaI_35_37.getD q 0)) (fun q => gp I [] (pl_LY_X9_LY_aIaI_35_37.getD q 0)) (fun q => gp J [] (pl_LY_X9_LY_aIaI_35_37.getD q 0)) (fun q => gm A [(35, (A 35)), (37, (A 37))] (pl_LY_X9_LY_aIaI_35_37.getD q 0)) (fun q => gm B [] (pl_LY_X9_LY_aIaI_35_37.getD q 0)) 0 0 hy1) (JN_subC (pl := pl_LY_X9_LY_aIaI_35_37) sb_LY_X9_LY_aIaI_35_37 rfl rfl rfl rfl rfl rfl rfl rfl rfl) ⟨uw_1495, uw_1496, uw_14, uw_1497⟩ rfl rfl hd_X9_copies ⟨rfl, rfl⟩ rfl rfl rfl dX9_emptyIn_10 ⟨Nat.zero_le _, Nat.zero_le _⟩ (fun H locs hW => ?_)
  have hW : wd D (dn cy LY_X9 ad P V (gp I []) (gp J []) (gm A [(35, (A 35)), (37, y1)]) (gm B [])) Af s.heap H locs := hW
  refine lv_iconst (v := 0) C0.1 C0.2.1 dX9_emptyIn_13 kI_0 ?_
  refine lv_istore_n (lv' := [(3, .int 0), (0, .ref (ad 0)), (1, .int v1), (2, .int v2)]) C0.1 C0.2.1 dX9_emptyIn_14 rfl hl (by decide) rfl (fun ls hl => ?_)
  exact TX9_emptyIn_15 C0 hK hN hA  FU (A 35) y1 v1 v2 0 _ _ ls hW (lv_sub hl [1, 2, 3, 0] rfl) hf
-- X9_lasts
def rmX9_lasts : Room := { frames := 4, cells := 0, slots := 0, locals := 87 }
def fX9_lasts (m_colder : Int32) (m_terrace : (Nat → Int32)) (m_burns : (Nat → Int32)) (m_kind : (Nat → Int32)) (m_cold : (Nat → Int32)) (m_thrown : Int32) (m_s : (Nat → Int32)) (m_before : (Nat → Int32)) (v1 : Int32) : Option (Int32 × Int32 × (Nat → Int32) × (Nat → Int32)) := Option.bind (fX9_isHole m_terrace v1) fun y1 => (if y1 = 0 then (some ((-1), 0, m_s, m_before)) else (Option.bind (fX9_emptyIn m_colder m_terrace m_burns m_kind m_cold m_s m_before v1 1) fun y3 => (some (y3.1, 0, y3.2.1, y3.2.2))))
set_option maxHeartbeats 4000000 in
set_option maxRecDepth 100000 in
theorem KX9_lasts (l : Launch) (D : va_G) (cy : Nat → ClassId) (ad : Nat → Nat) (P : MP) (V : MV) (I : MI) (J : MJ) (A : MI) (B : MJ) (v1 : Int32) {res : Int32 × Int32 × (Nat → Int32) × (Nat → Int32)} (hf : fX9_lasts (I 0 54) (A 2) (A 7) (A 9) (A 12) (I 0 0) (A 35) (A 37) v1 = some res) : CG l yX9_lasts cX9_lasts 2 (some .int) rmX9_lasts D cy (dn cy LY_X9 ad P V I J A B) [.ref (ad 0), .int v1] (some (.int res.1)) (dn cy LY_X9 ad P V (gp I [(0, 0, res.2.1)]) (gp J []) (gm A [(35, res.2.2.1), (37, res.2.2.2)]) (gm B [])) := by
  refine CG.of (own := RX9) (by decide) rfl rfl ?_
  intro p e s m below meth c ls Af C0 hK hN hA hW hl
  have hW : wd D (dn cy LY_X9 ad P V (gp I [(0, 0, (I 0 0))]) (gp J []) (gm A [(35, (A 35)), (37, (A 37))]) (gm B [])) Af s.heap s.heap [] := wd_sel [(0, 0)] [] [35, 37] [] hW
  have hl : lv_has ls 2 [(0, .ref (ad 0)), (1, .int v1)] := hl
  unfold fX9_lasts at hf
  refine lv_aload_n C0.1 C0.2.1 dX9_lasts_0 rfl (lv_at hl 0 rfl) ?_
  refine lv_iconst (v := 0) C0.1 C0.2.1 dX9_lasts_1 kI_0 ?_
  refine s_putI C0 hK hW 0 0 LY_X9_0 rfl fg_X9_142 fp_X9_0 rfl dX9_lasts_2 (fun H locs hW => ?_)
  have hW : wd D (dn cy LY_X9 ad P V (gp I [(0, 0, 0)]) (gp J []) (gm A [(35, (A 35)), (37, (A 37))]) (gm B [])) Af s.heap H locs := hW
  refine lv_aload_n C0.1 C0.2.1 dX9_lasts_5 rfl (lv_at hl 0 rfl) ?_
  refine lv_iload_n C0.1 C0.2.1 dX9_lasts_6 rfl (lv_at hl 1 rfl) ?_
  obtain ⟨y1, hy1, hf⟩ := b_some hf
  refine c_Vi C0 hK hN hl.1 hW hA (KX9_isHole l D cy  ad P V (gp I [(0, 0, 0)]) (gp J []) (gm A [(35, (A 35)), (37, (A 37))]) (gm B []) v1 hy1) (JN_id rfl rfl rfl rfl) (Uw_V uw_1420 uw_1422 us_66 uw_14 uw_1423) rfl rfl hd_X9_isHole ⟨rfl, rfl⟩ rfl (dn_some LY_X9_0) rfl rfl rfl dX9_lasts_7 ⟨Nat.zero_le _, Nat.zero_le _⟩ (fun H locs hW => ?_)
  have hW : wd D (dn cy LY_X9 ad P V (gp I [(0, 0, 0)]) (gp J []) (gm A [(35, (A 35)), (37, (A 37))]) (gm B [])) Af s.heap H locs := hW
  refine lv_if_eq (tgt := 22) C0.1 C0.2.1 dX9_lasts_10 (by decide) (fun hc2 => ?_) (fun hc2 => ?_)
  · have hf := ite_t hc2 hf
    refine lv_iconst (v := (-1)) C0.1 C0.2.1 dX9_lasts_22 kI_m1 ?_
    obtain rfl := Option.some.inj hf
    exact r_int C0 hK hW dX9_lasts_23
  · have hf := ite_f hc2 hf
    refine lv_aload_n C0.1 C0.2.1 dX9_lasts_13 rfl (lv_at hl 0 rfl) ?_
    refine lv_iload_n C0.1 C0.2.1 dX9_lasts_14 rfl (lv_at hl 1 rfl) ?_
    refine lv_iconst (v := 1) C0.1 C0.2.1 dX9_lasts_15 kI_1 ?_
    obtain ⟨y3, hy3, hf⟩ := b_some hf
    refine c_Vi C0 hK hN hl.1 hW hA (KX9_emptyIn l D cy  ad P V (gp I [(0, 0, 0)]) (gp J []) (gm A [(35, (A 35)), (37, (A 37))]) (gm B []) v1 1 hy3) (JN_id rfl rfl rfl rfl) (Uw_V uw_1548 uw_1550 us_87 uw_14 uw_1551) rfl rfl hd_X9_emptyIn ⟨rfl, rfl⟩ rfl (dn_some LY_X9_0) rfl rfl rfl dX9_lasts_16 ⟨Nat.zero_le _, Nat.zero_le _⟩ (fun H locs hW => ?_)
    have hW : wd D (dn cy LY_X9 ad P V (gp I [(0, 0, 0)]) (gp J []) (gm A [(35, y3.2.1), (37, y3.2.2)]) (gm B [])) Af s.heap H locs := hW
    refine lv_goto (tgt := 23) C0.1 C0.2.1 dX9_lasts_19 (by decide) ?_
    obtain rfl := Option.some.inj hf
    exact r_int C0 hK hW dX9_lasts_23
-- X9_safeFor
def rmX9_safeFor : Room := { frames := 3, cells := 0, slots := 0, locals := 64 }
def SX9_safeFor_55 (p : Program) (l : Launch) (e : Env) (s : State) (m : MethodId) (args : Array Value) (below : List Frame) (meth : Method) (c : Code) (D : va_G) (cy : Nat → ClassId) (ad : Nat → Nat) (P : MP) (V : MV) (I : MI) (J : MJ) (A : MI) (B : MJ) (Af : Nat → Prop) (res : Int32 × (Nat → Int32) × (Nat → Int32)) (k : (Nat → Int32) → (Nat → Int32) → Int32 → Option (Int32 × (Nat → Int32) × (Nat → Int32))) : Prop := ∀ (m_s : (Nat → Int32)) (m_before : (Nat → Int32)) (v3 : Int32) (H : Heap) (locs : List Loc) (ls : Array Slot), wd D (dn cy LY_X9 ad P V (gp I []) (gp J []) (gm A [(35, m_s), (37, m_before)]) (gm B [])) Af s.heap H locs → lv_has ls 4 [(0, .ref (ad 0)), (3, .int v3)] → k m_s m_before v3 = some res → W p l e rmX9_safeFor s m args below meth c H locs 0 0 (ZQ below D cy (dn cy LY_X9 ad P V (gp I []) (gp J []) (gm A [(35, res.2.1), (37, res.2.2)]) (gm B [])) (some (.int res.1)) Af args s) (F0 m 55 ls [])
def SX9_safeFor_25 (p : Program) (l : Launch) (e : Env) (s : State) (m : MethodId) (args : Array Value) (below : List Frame) (meth : Method) (c : Code) (D : va_G) (cy : Nat → ClassId) (ad : Nat → Nat) (P : MP) (V : MV) (I : MI) (J : MJ) (A : MI) (B : MJ) (Af : Nat → Prop) (res : Int32 × (Nat → Int32) × (Nat → Int32)) (k : (Nat → Int32) → (Nat → Int32) → Int32 → Int32 → Int32 → Option (Int32 × (Nat → Int32) × (Nat → Int32))) : Prop := ∀ (m_s : (Nat → Int32)) (m_before : (Nat → Int32)) (v1 : Int32) (v2 : Int32) (v3 : Int32) (H : Heap) (locs : List Loc) (ls : Array Slot), wd D (dn cy LY_X9 ad P V (gp I []) (gp J []) (gm A [(35, m_s), (37, m_before)]) (gm B [])) Af s.heap H locs → lv_has ls 4 [(0, .ref (ad 0)), (1, .int v1), (2, .int v2), (3, .int v3)] → k m_s m_before v1 v2 v3 = some res → W p l e rmX9_safeFor s m args below meth c H locs 0 0 (ZQ below D cy (dn cy LY_X9 ad P V (gp I []) (gp J []) (gm A [(35, res.2.1), (37, res.2.2)]) (gm B [])) (some (.int res.1)) Af args s) (F0 m 25 ls [])
def fX9_safeFor_55 (m_colder : Int32) (m_terrace : (Nat → Int32)) (m_burns : (Nat → Int32)) (m_kind : (Nat → Int32)) (m_cold : (Nat → Int32)) (m_s : (Nat → Int32)) (m_before : (Nat → Int32)) (v3 : Int32) : Option (Int32 × (Nat → Int32) × (Nat → Int32)) := Option.bind (fX9_copies 13 13 m_before m_s 0 0) fun y1 => (if v3 ≤ 99 then (some (v3, y1, m_before)) else (some (1000, y1, m_before)))
set_option maxHeartbeats 4000000 in
set_option maxRecDepth 100000 in
theorem tX9_safeFor_55 {p : Program} {l : Launch} {e : Env} {s : State} {m : MethodId} {args : Array Value} {below : List Frame} {meth : Method} {c : Code} {D : va_G} {cy : Nat → ClassId} {ad : Nat → Nat} {P : MP} {V : MV} {I : MI} {J : MJ} {A : MI} {B : MJ} {Af : Nat → Prop} {res : Int32 × (Nat → Int32) × (Nat → Int32)} (C0 : CX p s m args meth c cX9_safeFor 4 (some .int) RX9) (hK : va_K D vwCl (tyG cy) s) (hN : NWs s) (hA : ∀ q, s.heap.size ≤ q → Af q) : SX9_safeFor_55 p l e s m args below meth c D cy ad P V I J A B Af res (fX9_safeFor_55 (I 0 54) (A 2) (A 7) (A 9) (A 12)) := by
  intro m_s m_before v3 H locs ls hW hl hf
  unfold fX9_safeFor_55 at hf
  refine lv_aload_n C0.1 C0.2.1 dX9_safeFor_55 rfl (lv_at hl 0 rfl) ?_
  refine s_get (v := .ref (ad 37)) C0 hK hW 0 49 LY_X9_0 rfl fg_X9_120 rfl dX9_safeFor_56 ?_
  refine lv_iconst (v := 0) C0.1 C0.2.1 dX9_safeFor_59 kI_0 ?_
  refine lv_aload_n C0.1 C0.2.1 dX9_safeFor_60 rfl (lv_at hl 0 rfl) ?_
  refine s_get (v := .ref (ad 35)) C0 hK hW 0 47 LY_X9_0 rfl fg_X9_114 rfl dX9_safeFor_61 ?_
  refine lv_iconst (v := 0) C0.1 C0.2.1 dX9_safeFor_64 kI_0 ?_
  obtain ⟨y1, hy1, hf⟩ := b_some hf
  refine c_Sv C0 hK hN hl.1 hW hA (KX9_copies l D cy 13 13 (fun q => ad (pl_LY_X9_LY_aIaI_37_35.getD q 0)) (fun q => P (pl_LY_X9_LY_aIaI_37_35.getD q 0)) (fun q => Vx LY_X9 ad V (pl_LY_X9_LY_aIaI_37_35.getD q 0)) (fun q => gp I [] (pl_LY_X9_LY_aIaI_37_35.getD q 0)) (fun q => gp J [] (pl_LY_X9_LY_aIaI_37_35.getD q 0)) (fun q => gm A [(35, m_s), (37, m_before)] (pl_LY_X9_LY_aIaI_37_35.getD q 0)) (fun q => gm B [] (pl_LY_X9_LY_aIaI_37_35.getD q 0)) 0 0 hy1) (JN_subC (pl := pl_LY_X9_LY_aIaI_37_35) sb_LY_X9_LY_aIaI_37_35 rfl rfl rfl rfl rfl rfl rfl rfl rfl) ⟨uw_1495, uw_1496, uw_14, uw_1497⟩ rfl rfl hd_X9_copies ⟨rfl, rfl⟩ rfl rfl rfl dX9_safeFor_65 ⟨Nat.zero_le _, Nat.zero_le _⟩ (fun H locs hW => ?_)
  have hW : wd D (dn cy LY_X9 ad P V (gp I []) (gp J []) (gm A [(35, y1), (37, m_before)]) (gm B [])) Af s.heap H locs := hW
  refine lv_iload_n C0.1 C0.2.1 dX9_safeFor_68 rfl (lv_at hl 1 rfl) ?_
  refine lv_bipush (v := 99) C0.1 C0.2.1 dX9_safeFor_69 kB_99 ?_
  refine lv_icmp_le (tgt := 80) C0.1 C0.2.1 dX9_safeFor_71 (by decide) (fun hc2 => ?_) (fun hc2 => ?_)
  · have hf := ite_t hc2 hf
    refine lv_iload_n C0.1 C0.2.1 dX9_safeFor_80 rfl (lv_at hl 1 rfl) ?_
    obtain rfl := Option.some.inj hf
    exact r_int C0 hK hW dX9_safeFor_81
  · have hf := ite_f hc2 hf
    refine lv_sipush (v := 1000) C0.1 C0.2.1 dX9_safeFor_74 kS_1000 ?_
    refine lv_goto (tgt := 81) C0.1 C0.2.1 dX9_safeFor_77 (by decide) ?_
    obtain rfl := Option.some.inj hf
    exact r_int C0 hK hW dX9_safeFor_81
def fX9_safeFor_25 (m_colder : Int32) (m_terrace : (Nat → Int32)) (m_burns : (Nat → Int32)) (m_kind : (Nat → Int32)) (m_cold : (Nat → Int32)) (k25 : (Nat → Int32) → (Nat → Int32) → Int32 → Int32 → Int32 → Option (Int32 × (Nat → Int32) × (Nat → Int32))) (m_s : (Nat → Int32)) (m_before : (Nat → Int32)) (v1 : Int32) (v2 : Int32) (v3 : Int32) : Option (Int32 × (Nat → Int32) × (Nat → Int32)) := if 100 ≤ v3 then (fX9_safeFor_55 m_colder m_terrace m_burns m_kind m_cold m_s m_before v3) else (bif inb (8 + v1) 13 then (if (m_s (Int32.toNatClampNeg (8 + v1))) = v2 then (Option.bind (fX9_passes m_colder m_terrace m_burns m_kind m_cold m_s) fun y4 => (k25 y4.2 m_before v1 v2 (v3 + 1))) else (fX9_safeFor_55 m_colder m_terrace m_burns m_kind m_cold m_s m_before v3)) else none)
set_option maxHeartbeats 4000000 in
set_option maxRecDepth 100000 in
theorem tX9_safeFor_25 {p : Program} {l : Launch} {e : Env} {s : State} {m : MethodId} {args : Array Value} {below : List Frame} {meth : Method} {c : Code} {D : va_G} {cy : Nat → ClassId} {ad : Nat → Nat} {P : MP} {V : MV} {I : MI} {J : MJ} {A : MI} {B : MJ} {Af : Nat → Prop} {res : Int32 × (Nat → Int32) × (Nat → Int32)} (C0 : CX p s m args meth c cX9_safeFor 4 (some .int) RX9) (hK : va_K D vwCl (tyG cy) s) (hN : NWs s) (hA : ∀ q, s.heap.size ≤ q → Af q) {k25 : (Nat → Int32) → (Nat → Int32) → Int32 → Int32 → Int32 → Option (Int32 × (Nat → Int32) × (Nat → Int32))} (hk25 : SX9_safeFor_25 p l e s m args below meth c D cy ad P V I J A B Af res k25) : SX9_safeFor_25 p l e s m args below meth c D cy ad P V I J A B Af res (fX9_safeFor_25 (I 0 54) (A 2) (A 7) (A 9) (A 12) k25) := by
  intro m_s m_before v1 v2 v3 H locs ls hW hl hf
  unfold fX9_safeFor_25 at hf
  refine lv_iload_n C0.1 C0.2.1 dX9_safeFor_25 rfl (lv_at hl 3 rfl) ?_
  refine lv_bipush (v := 100) C0.1 C0.2.1 dX9_safeFor_26 kB_100 ?_
  refine lv_icmp_ge (tgt := 55) C0.1 C0.2.1 dX9_safeFor_28 (by decide) (fun hc1 => ?_) (fun hc1 => ?_)
  · have hf := ite_t hc1 hf
    exact tX9_safeFor_55 C0 hK hN hA  m_s m_before v3 H locs ls hW (lv_sub hl [0, 3] rfl) hf
  · have hf := ite_f hc1 hf
    refine lv_aload_n C0.1 C0.2.1 dX9_safeFor_31 rfl (lv_at hl 0 rfl) ?_
    refine s_get (v := .ref (ad 35)) C0 hK hW 0 47 LY_X9_0 rfl fg_X9_114 rfl dX9_safeFor_32 ?_
    refine lv_bipush (v := 8) C0.1 C0.2.1 dX9_safeFor_35 kB_8 ?_
    refine lv_iload_n C0.1 C0.2.1 dX9_safeFor_37 rfl (lv_at hl 1 rfl) ?_
    refine lv_iadd C0.1 C0.2.1 dX9_safeFor_38 ?_
    obtain ⟨hb2, hf⟩ := g_some hf
    refine s_iald (v := (m_s (Int32.toNatClampNeg (8 + v1)))) C0 hK hW 35 LY_X9_35 hb2 rfl dX9_safeFor_39 ?_
    refine lv_iload_n C0.1 C0.2.1 dX9_safeFor_40 rfl (lv_at hl 2 rfl) ?_
    refine lv_icmp_ne (tgt := 55) C0.1 C0.2.1 dX9_safeFor_41 (by decide) (fun hc3 => ?_) (fun hc3 => ?_)
    · have hf := ite_f hc3 hf
      exact tX9_safeFor_55 C0 hK hN hA  m_s m_before v3 H locs ls hW (lv_sub hl [0, 3] rfl) hf
    · have hf := ite_t hc3 hf
      refine lv_aload_n C0.1 C0.2.1 dX9_safeFor_44 rfl (lv_at hl 0 rfl) ?_
      obtain ⟨y4, hy4, hf⟩ := b_some hf
      refine c_Vi C0 hK hN hl.1 hW hA (KX9_passes l D cy  ad P V (gp I []) (gp J []) (gm A [(35, m_s), (37, m_before)]) (gm B [])  hy4) (JN_id rfl rfl rfl rfl) (Uw_V uw_1523 uw_1525 us_84 uw_14 uw_1526) rfl rfl hd_X9_passes ⟨rfl, rfl⟩ rfl (dn_some LY_X9_0) rfl rfl rfl dX9_safeFor_45 ⟨Nat.zero_le _, Nat.zero_le _⟩ (fun H locs hW => ?_)
      have hW : wd D (dn cy LY_X9 ad P V (gp I []) (gp J []) (gm A [(35, y4.2), (37, m_before)]) (gm B [])) Af s.heap H locs := hW
      refine lv_pop C0.1 C0.2.1 dX9_safeFor_48 rfl ?_
      refine lv_iinc (v := (v3 + 1)) (lv' := [(3, .int (v3 + 1)), (0, .ref (ad 0)), (1, .int v1), (2, .int v2)]) C0.1 C0.2.1 dX9_safeFor_49 hl (k := 3) rfl (congrArg (fun z => _ + z) kI_1) (by decide) rfl (fun ls hl => ?_)
      refine lv_goto (tgt := 25) C0.1 C0.2.1 dX9_safeFor_52 (by decide) ?_
      exact hk25 y4.2 m_before v1 v2 (v3 + 1) H locs ls hW (lv_sub hl [1, 2, 3, 0] rfl) hf
theorem TX9_safeFor_25 {p : Program} {l : Launch} {e : Env} {s : State} {m : MethodId} {args : Array Value} {below : List Frame} {meth : Method} {c : Code} {D : va_G} {cy : Nat → ClassId} {ad : Nat → Nat} {P : MP} {V : MV} {I : MI} {J : MJ} {A : MI} {B : MJ} {Af : Nat → Prop} {res : Int32 × (Nat → Int32) × (Nat → Int32)} (C0 : CX p s m args meth c cX9_safeFor 4 (some .int) RX9) (hK : va_K D vwCl (tyG cy) s) (hN : NWs s) (hA : ∀ q, s.heap.size ≤ q → Af q) : ∀ n, SX9_safeFor_25 p l e s m args below meth c D cy ad P V I J A B Af res (itr (fun kk => fX9_safeFor_25 (I 0 54) (A 2) (A 7) (A 9) (A 12) kk) (fun _ _ _ _ _ => none) n) := by
  intro n
  induction n with
  | zero => intro m_s m_before v1 v2 v3 H locs ls hW hl hf; exact (nomatch (show (none : Option (Int32 × (Nat → Int32) × (Nat → Int32))) = some res from hf))
  | succ n ih => exact tX9_safeFor_25 C0 hK hN hA  ih
def fX9_safeFor (m_colder : Int32) (m_terrace : (Nat → Int32)) (m_burns : (Nat → Int32)) (m_kind : (Nat → Int32)) (m_cold : (Nat → Int32)) (m_s : (Nat → Int32)) (m_before : (Nat → Int32)) (v1 : Int32) : Option (Int32 × (Nat → Int32) × (Nat → Int32)) := Option.bind (fX9_copies 13 13 m_s m_before 0 0) fun y1 => (bif inb (8 + v1) 13 then (itr (fun kk => fX9_safeFor_25 m_colder m_terrace m_burns m_kind m_cold kk) (fun _ _ _ _ _ => none) FU m_s y1 v1 (m_s (Int32.toNatClampNeg (8 + v1))) 0) else none)
set_option maxHeartbeats 4000000 in
set_option maxRecDepth 100000 in
theorem KX9_safeFor (l : Launch) (D : va_G) (cy : Nat → ClassId) (ad : Nat → Nat) (P : MP) (V : MV) (I : MI) (J : MJ) (A : MI) (B : MJ) (v1 : Int32) {res : Int32 × (Nat → Int32) × (Nat → Int32)} (hf : fX9_safeFor (I 0 54) (A 2) (A 7) (A 9) (A 12) (A 35) (A 37) v1 = some res) : CG l yX9_safeFor cX9_safeFor 4 (some .int) rmX9_safeFor D cy (dn cy LY_X9 ad P V I J A B) [.ref (ad 0), .int v1] (some (.int res.1)) (dn cy LY_X9 ad P V (gp I []) (gp J []) (gm A [(35, res.2.1), (37, res.2.2)]) (gm B [])) := by
  refine CG.of (own := RX9) (by decide) rfl rfl ?_
  intro p e s m below meth c ls Af C0 hK hN hA hW hl
  have hW : wd D (dn cy LY_X9 ad P V (gp I []) (gp J []) (gm A [(35, (A 35)), (37, (A 37))]) (gm B [])) Af s.heap s.heap [] := wd_sel [] [] [35, 37] [] hW
  have hl : lv_has ls 4 [(0, .ref (ad 0)), (1, .int v1)] := hl
  unfold fX9_safeFor at hf
  refine lv_aload_n C0.1 C0.2.1 dX9_safeFor_0 rfl (lv_at hl 0 rfl) ?_
  refine s_get (v := .ref (ad 35)) C0 hK hW 0 47 LY_X9_0 rfl fg_X9_114 rfl dX9_safeFor_1 ?_
  refine lv_iconst (v := 0) C0.1 C0.2.1 dX9_safeFor_4 kI_0 ?_
  refine lv_aload_n C0.1 C0.2.1 dX9_safeFor_5 rfl (lv_at hl 0 rfl) ?_
  refine s_get (v := .ref (ad 37)) C0 hK hW 0 49 LY_X9_0 rfl fg_X9_120 rfl dX9_safeFor_6 ?_
  refine lv_iconst (v := 0) C0.1 C0.2.1 dX9_safeFor_9 kI_0 ?_
  obtain ⟨y1, hy1, hf⟩ := b_some hf
  refine c_Sv C0 hK hN hl.1 hW hA (KX9_copies l D cy 13 13 (fun q => ad (pl_LY_X9_LY_aIaI_35_37.getD q 0)) (fun q => P (pl_LY_X9_LY_aIaI_35_37.getD q 0)) (fun q => Vx LY_X9 ad V (pl_LY_X9_LY_aIaI_35_37.getD q 0)) (fun q => gp I [] (pl_LY_X9_LY_aIaI_35_37.getD q 0)) (fun q => gp J [] (pl_LY_X9_LY_aIaI_35_37.getD q 0)) (fun q => gm A [(35, (A 35)), (37, (A 37))] (pl_LY_X9_LY_aIaI_35_37.getD q 0)) (fun q => gm B [] (pl_LY_X9_LY_aIaI_35_37.getD q 0)) 0 0 hy1) (JN_subC (pl := pl_LY_X9_LY_aIaI_35_37) sb_LY_X9_LY_aIaI_35_37 rfl rfl rfl rfl rfl rfl rfl rfl rfl) ⟨uw_1495, uw_1496, uw_14, uw_1497⟩ rfl rfl hd_X9_copies ⟨rfl, rfl⟩ rfl rfl rfl dX9_safeFor_10 ⟨Nat.zero_le _, Nat.zero_le _⟩ (fun H locs hW => ?_)
  have hW : wd D (dn cy LY_X9 ad P V (gp I []) (gp J []) (gm A [(35, (A 35)), (37, y1)]) (gm B [])) Af s.heap H locs := hW
  refine lv_aload_n C0.1 C0.2.1 dX9_safeFor_13 rfl (lv_at hl 0 rfl) ?_
  refine s_get (v := .ref (ad 35)) C0 hK hW 0 47 LY_X9_0 rfl fg_X9_114 rfl dX9_safeFor_14 ?_
  refine lv_bipush (v := 8) C0.1 C0.2.1 dX9_safeFor_17 kB_8 ?_
  refine lv_iload_n C0.1 C0.2.1 dX9_safeFor_19 rfl (lv_at hl 1 rfl) ?_
  refine lv_iadd C0.1 C0.2.1 dX9_safeFor_20 ?_
  obtain ⟨hb2, hf⟩ := g_some hf
  refine s_iald (v := ((A 35) (Int32.toNatClampNeg (8 + v1)))) C0 hK hW 35 LY_X9_35 hb2 rfl dX9_safeFor_21 ?_
  refine lv_istore_n (lv' := [(2, .int ((A 35) (Int32.toNatClampNeg (8 + v1)))), (0, .ref (ad 0)), (1, .int v1)]) C0.1 C0.2.1 dX9_safeFor_22 rfl hl (by decide) rfl (fun ls hl => ?_)
  refine lv_iconst (v := 0) C0.1 C0.2.1 dX9_safeFor_23 kI_0 ?_
  refine lv_istore_n (lv' := [(3, .int 0), (2, .int ((A 35) (Int32.toNatClampNeg (8 + v1)))), (0, .ref (ad 0)), (1, .int v1)]) C0.1 C0.2.1 dX9_safeFor_24 rfl hl (by decide) rfl (fun ls hl => ?_)
  exact TX9_safeFor_25 C0 hK hN hA  FU (A 35) y1 v1 ((A 35) (Int32.toNatClampNeg (8 + v1))) 0 _ _ ls hW (lv_sub hl [2, 3, 1, 0] rfl) hf
-- X9_safe
def rmX9_safe : Room := { frames := 4, cells := 0, slots := 0, locals := 87 }
def fX9_safe (m_colder : Int32) (m_terrace : (Nat → Int32)) (m_burns : (Nat → Int32)) (m_kind : (Nat → Int32)) (m_cold : (Nat → Int32)) (m_thrown : Int32) (m_s : (Nat → Int32)) (m_before : (Nat → Int32)) (v1 : Int32) : Option (Int32 × Int32 × (Nat → Int32) × (Nat → Int32)) := Option.bind (fX9_isGuest m_terrace v1) fun y1 => (if y1 = 0 then (some ((-1), 0, m_s, m_before)) else (bif inb (8 + v1) 13 then (if (m_s (Int32.toNatClampNeg (8 + v1))) = 0 then (some ((-1), 0, m_s, m_before)) else (Option.bind (fX9_safeFor m_colder m_terrace m_burns m_kind m_cold m_s m_before v1) fun y5 => (if y5.1 = 1000 then (some ((-1), 0, y5.2.1, y5.2.2)) else (some (y5.1, 0, y5.2.1, y5.2.2))))) else none))
set_option maxHeartbeats 4000000 in
set_option maxRecDepth 100000 in
theorem KX9_safe (l : Launch) (D : va_G) (cy : Nat → ClassId) (ad : Nat → Nat) (P : MP) (V : MV) (I : MI) (J : MJ) (A : MI) (B : MJ) (v1 : Int32) {res : Int32 × Int32 × (Nat → Int32) × (Nat → Int32)} (hf : fX9_safe (I 0 54) (A 2) (A 7) (A 9) (A 12) (I 0 0) (A 35) (A 37) v1 = some res) : CG l yX9_safe cX9_safe 3 (some .int) rmX9_safe D cy (dn cy LY_X9 ad P V I J A B) [.ref (ad 0), .int v1] (some (.int res.1)) (dn cy LY_X9 ad P V (gp I [(0, 0, res.2.1)]) (gp J []) (gm A [(35, res.2.2.1), (37, res.2.2.2)]) (gm B [])) := by
  refine CG.of (own := RX9) (by decide) rfl rfl ?_
  intro p e s m below meth c ls Af C0 hK hN hA hW hl
  have hW : wd D (dn cy LY_X9 ad P V (gp I [(0, 0, (I 0 0))]) (gp J []) (gm A [(35, (A 35)), (37, (A 37))]) (gm B [])) Af s.heap s.heap [] := wd_sel [(0, 0)] [] [35, 37] [] hW
  have hl : lv_has ls 3 [(0, .ref (ad 0)), (1, .int v1)] := hl
  unfold fX9_safe at hf
  refine lv_aload_n C0.1 C0.2.1 dX9_safe_0 rfl (lv_at hl 0 rfl) ?_
  refine lv_iconst (v := 0) C0.1 C0.2.1 dX9_safe_1 kI_0 ?_
  refine s_putI C0 hK hW 0 0 LY_X9_0 rfl fg_X9_142 fp_X9_0 rfl dX9_safe_2 (fun H locs hW => ?_)
  have hW : wd D (dn cy LY_X9 ad P V (gp I [(0, 0, 0)]) (gp J []) (gm A [(35, (A 35)), (37, (A 37))]) (gm B [])) Af s.heap H locs := hW
  refine lv_aload_n C0.1 C0.2.1 dX9_safe_5 rfl (lv_at hl 0 rfl) ?_
  refine lv_iload_n C0.1 C0.2.1 dX9_safe_6 rfl (lv_at hl 1 rfl) ?_
  obtain ⟨y1, hy1, hf⟩ := b_some hf
  refine c_Vi C0 hK hN hl.1 hW hA (KX9_isGuest l D cy  ad P V (gp I [(0, 0, 0)]) (gp J []) (gm A [(35, (A 35)), (37, (A 37))]) (gm B []) v1 hy1) (JN_id rfl rfl rfl rfl) (Uw_V uw_1463 uw_1465 us_75 uw_14 uw_1466) rfl rfl hd_X9_isGuest ⟨rfl, rfl⟩ rfl (dn_some LY_X9_0) rfl rfl rfl dX9_safe_7 ⟨Nat.zero_le _, Nat.zero_le _⟩ (fun H locs hW => ?_)
  have hW : wd D (dn cy LY_X9 ad P V (gp I [(0, 0, 0)]) (gp J []) (gm A [(35, (A 35)), (37, (A 37))]) (gm B [])) Af s.heap H locs := hW
  refine lv_if_eq (tgt := 25) C0.1 C0.2.1 dX9_safe_10 (by decide) (fun hc2 => ?_) (fun hc2 => ?_)
  · have hf := ite_t hc2 hf
    refine lv_iconst (v := (-1)) C0.1 C0.2.1 dX9_safe_25 kI_m1 ?_
    obtain rfl := Option.some.inj hf
    exact r_int C0 hK hW dX9_safe_26
  · have hf := ite_f hc2 hf
    refine lv_aload_n C0.1 C0.2.1 dX9_safe_13 rfl (lv_at hl 0 rfl) ?_
    refine s_get (v := .ref (ad 35)) C0 hK hW 0 47 LY_X9_0 rfl fg_X9_114 rfl dX9_safe_14 ?_
    refine lv_bipush (v := 8) C0.1 C0.2.1 dX9_safe_17 kB_8 ?_
    refine lv_iload_n C0.1 C0.2.1 dX9_safe_19 rfl (lv_at hl 1 rfl) ?_
    refine lv_iadd C0.1 C0.2.1 dX9_safe_20 ?_
    obtain ⟨hb3, hf⟩ := g_some hf
    refine s_iald (v := ((A 35) (Int32.toNatClampNeg (8 + v1)))) C0 hK hW 35 LY_X9_35 hb3 rfl dX9_safe_21 ?_
    refine lv_if_ne (tgt := 27) C0.1 C0.2.1 dX9_safe_22 (by decide) (fun hc4 => ?_) (fun hc4 => ?_)
    · have hf := ite_f hc4 hf
      refine lv_aload_n C0.1 C0.2.1 dX9_safe_27 rfl (lv_at hl 0 rfl) ?_
      refine lv_iload_n C0.1 C0.2.1 dX9_safe_28 rfl (lv_at hl 1 rfl) ?_
      obtain ⟨y5, hy5, hf⟩ := b_some hf
      refine c_Vi C0 hK hN hl.1 hW hA (KX9_safeFor l D cy  ad P V (gp I [(0, 0, 0)]) (gp J []) (gm A [(35, (A 35)), (37, (A 37))]) (gm B []) v1 hy5) (JN_id rfl rfl rfl rfl) (Uw_V uw_1556 uw_1558 us_88 uw_14 uw_1559) rfl rfl hd_X9_safeFor ⟨rfl, rfl⟩ rfl (dn_some LY_X9_0) rfl rfl rfl dX9_safe_29 ⟨Nat.zero_le _, Nat.zero_le _⟩ (fun H locs hW => ?_)
      have hW : wd D (dn cy LY_X9 ad P V (gp I [(0, 0, 0)]) (gp J []) (gm A [(35, y5.2.1), (37, y5.2.2)]) (gm B [])) Af s.heap H locs := hW
      refine lv_istore_n (lv' := [(2, .int y5.1), (0, .ref (ad 0)), (1, .int v1)]) C0.1 C0.2.1 dX9_safe_32 rfl hl (by decide) rfl (fun ls hl => ?_)
      refine lv_iload_n C0.1 C0.2.1 dX9_safe_33 rfl (lv_at hl 0 rfl) ?_
      refine lv_sipush (v := 1000) C0.1 C0.2.1 dX9_safe_34 kS_1000 ?_
      refine lv_icmp_ne (tgt := 44) C0.1 C0.2.1 dX9_safe_37 (by decide) (fun hc6 => ?_) (fun hc6 => ?_)
      · have hf := ite_f hc6 hf
        refine lv_iload_n C0.1 C0.2.1 dX9_safe_44 rfl (lv_at hl 0 rfl) ?_
        obtain rfl := Option.some.inj hf
        exact r_int C0 hK hW dX9_safe_45
      · have hf := ite_t hc6 hf
        refine lv_iconst (v := (-1)) C0.1 C0.2.1 dX9_safe_40 kI_m1 ?_
        refine lv_goto (tgt := 45) C0.1 C0.2.1 dX9_safe_41 (by decide) ?_
        obtain rfl := Option.some.inj hf
        exact r_int C0 hK hW dX9_safe_45
    · have hf := ite_t hc4 hf
      refine lv_iconst (v := (-1)) C0.1 C0.2.1 dX9_safe_25 kI_m1 ?_
      obtain rfl := Option.some.inj hf
      exact r_int C0 hK hW dX9_safe_26
-- X9_refuge
def rmX9_refuge : Room := { frames := 5, cells := 0, slots := 0, locals := 113 }
def SX9_refuge_30 (p : Program) (l : Launch) (e : Env) (s : State) (m : MethodId) (args : Array Value) (below : List Frame) (meth : Method) (c : Code) (D : va_G) (cy : Nat → ClassId) (ad : Nat → Nat) (P : MP) (V : MV) (I : MI) (J : MJ) (A : MI) (B : MJ) (Af : Nat → Prop) (res : Int32 × Int32 × (Nat → Int32) × (Nat → Int32) × (Nat → Int32) × (Nat → Int32) × (Nat → Int32) × (Nat → Int32) × (Nat → Int32) × (Nat → Int32) × (Nat → Int32) × (Nat → Int32) × (Nat → Int32) × (Nat → Int32)) (k : Int32 → (Nat → Int32) → (Nat → Int32) → (Nat → Int32) → (Nat → Int32) → (Nat → Int32) → (Nat → Int32) → (Nat → Int32) → (Nat → Int32) → (Nat → Int32) → (Nat → Int32) → (Nat → Int32) → (Nat → Int32) → Int32 → Int32 → Int32 → Int32 → Option (Int32 × Int32 × (Nat → Int32) × (Nat → Int32) × (Nat → Int32) × (Nat → Int32) × (Nat → Int32) × (Nat → Int32) × (Nat → Int32) × (Nat → Int32) × (Nat → Int32) × (Nat → Int32) × (Nat → Int32) × (Nat → Int32))) : Prop := ∀ (m_thrown : Int32) (m_kept : (Nat → Int32)) (m_keptBy : (Nat → Int32)) (m_ahead : (Nat → Int32)) (m_against : (Nat → Int32)) (m_sum : (Nat → Int32)) (m_sumBy : (Nat → Int32)) (m_term : (Nat → Int32)) (m_termBy : (Nat → Int32)) (m_byNot : (Nat → Int32)) (m_valueOf : (Nat → Int32)) (m_s : (Nat → Int32)) (m_before : (Nat → Int32)) (v1 : Int32) (v2 : Int32) (v3 : Int32) (v4 : Int32) (H : Heap) (locs : List Loc) (ls : Array Slot), wd D (dn cy LY_X9 ad P V (gp I [(0, 0, m_thrown)]) (gp J []) (gm A [(18, m_kept), (19, m_keptBy), (20, m_ahead), (21, m_against), (22, m_sum), (23, m_sumBy), (24, m_term), (25, m_termBy), (26, m_byNot), (27, m_valueOf), (35, m_s), (37, m_before)]) (gm B [])) Af s.heap H locs → lv_has ls 6 [(0, .ref (ad 0)), (1, .int v1), (2, .int v2), (3, .int v3), (4, .int v4)] → k m_thrown m_kept m_keptBy m_ahead m_against m_sum m_sumBy m_term m_termBy m_byNot m_valueOf m_s m_before v1 v2 v3 v4 = some res → W p l e rmX9_refuge s m args below meth c H locs 0 0 (ZQ below D cy (dn cy LY_X9 ad P V (gp I [(0, 0, res.2.1)]) (gp J []) (gm A [(18, res.2.2.1), (19, res.2.2.2.1), (20, res.2.2.2.2.1), (21, res.2.2.2.2.2.1), (22, res.2.2.2.2.2.2.1), (23, res.2.2.2.2.2.2.2.1), (24, res.2.2.2.2.2.2.2.2.1), (25, res.2.2.2.2.2.2.2.2.2.1), (26, res.2.2.2.2.2.2.2.2.2.2.1), (27, res.2.2.2.2.2.2.2.2.2.2.2.1), (35, res.2.2.2.2.2.2.2.2.2.2.2.2.1), (37, res.2.2.2.2.2.2.2.2.2.2.2.2.2)]) (gm B [])) (some (.int res.1)) Af args s) (F0 m 30 ls [])
def fX9_refuge_30 (m_colder : Int32) (m_terrace : (Nat → Int32)) (m_holeFlag : (Nat → Int32)) (m_burns : (Nat → Int32)) (m_kind : (Nat → Int32)) (m_guestFlag : (Nat → Int32)) (m_wars : (Nat → Int32)) (m_cold : (Nat → Int32)) (m_lineFrom : (Nat → Int32)) (m_lineTo : (Nat → Int32)) (m_codes : (Nat → Int32)) (k30 : Int32 → (Nat → Int32) → (Nat → Int32) → (Nat → Int32) → (Nat → Int32) → (Nat → Int32) → (Nat → Int32) → (Nat → Int32) → (Nat → Int32) → (Nat → Int32) → (Nat → Int32) → (Nat → Int32) → (Nat → Int32) → Int32 → Int32 → Int32 → Int32 → Option (Int32 × Int32 × (Nat → Int32) × (Nat → Int32) × (Nat → Int32) × (Nat → Int32) × (Nat → Int32) × (Nat → Int32) × (Nat → Int32) × (Nat → Int32) × (Nat → Int32) × (Nat → Int32) × (Nat → Int32) × (Nat → Int32))) (m_thrown : Int32) (m_kept : (Nat → Int32)) (m_keptBy : (Nat → Int32)) (m_ahead : (Nat → Int32)) (m_against : (Nat → Int32)) (m_sum : (Nat → Int32)) (m_sumBy : (Nat → Int32)) (m_term : (Nat → Int32)) (m_termBy : (Nat → Int32)) (m_byNot : (Nat → Int32)) (m_valueOf : (Nat → Int32)) (m_s : (Nat → Int32)) (m_before : (Nat → Int32)) (v1 : Int32) (v2 : Int32) (v3 : Int32) (v4 : Int32) : Option (Int32 × Int32 × (Nat → Int32) × (Nat → Int32) × (Nat → Int32) × (Nat → Int32) × (Nat → Int32) × (Nat → Int32) × (Nat → Int32) × (Nat → Int32) × (Nat → Int32) × (Nat → Int32) × (Nat → Int32) × (Nat → Int32)) := if (m_terrace 0) ≤ v4 then (some (v2, m_thrown, m_kept, m_keptBy, m_ahead, m_against, m_sum, m_sumBy, m_term, m_termBy, m_byNot, m_valueOf, m_s, m_before)) else (Option.bind (fX9_isTakenBy m_terrace m_holeFlag m_kind m_guestFlag m_wars m_lineFrom m_lineTo m_codes m_s m_kept m_keptBy m_ahead m_against m_sum m_sumBy m_term m_termBy m_byNot m_valueOf v4 v1) fun y2 => (if y2.1 = 0 then (k30 m_thrown y2.2.1 y2.2.2.1 y2.2.2.2.1 y2.2.2.2.2.1 y2.2.2.2.2.2.1 y2.2.2.2.2.2.2.1 y2.2.2.2.2.2.2.2.1 y2.2.2.2.2.2.2.2.2.1 y2.2.2.2.2.2.2.2.2.2.1 y2.2.2.2.2.2.2.2.2.2.2 m_s m_before v1 v2 v3 (v4 + 1)) else (bif inb (8 + v1) 13 then (Option.bind (fX9_safeFor m_colder m_terrace m_burns m_kind m_cold (upd m_s (Int32.toNatClampNeg (8 + v1)) (v4 + 1)) m_before v1) fun y5 => (bif inb (8 + v1) 13 then (if v3 < y5.1 then (k30 m_thrown y2.2.1 y2.2.2.1 y2.2.2.2.1 y2.2.2.2.2.1 y2.2.2.2.2.2.1 y2.2.2.2.2.2.2.1 y2.2.2.2.2.2.2.2.1 y2.2.2.2.2.2.2.2.2.1 y2.2.2.2.2.2.2.2.2.2.1 y2.2.2.2.2.2.2.2.2.2.2 (upd y5.2.1 (Int32.toNatClampNeg (8 + v1)) 0) y5.2.2 v1 v4 y5.1 (v4 + 1)) else (k30 m_thrown y2.2.1 y2.2.2.1 y2.2.2.2.1 y2.2.2.2.2.1 y2.2.2.2.2.2.1 y2.2.2.2.2.2.2.1 y2.2.2.2.2.2.2.2.1 y2.2.2.2.2.2.2.2.2.1 y2.2.2.2.2.2.2.2.2.2.1 y2.2.2.2.2.2.2.2.2.2.2 (upd y5.2.1 (Int32.toNatClampNeg (8 + v1)) 0) y5.2.2 v1 v2 v3 (v4 + 1))) else none)) else none)))
set_option maxHeartbeats 4000000 in
set_option maxRecDepth 100000 in
theorem tX9_refuge_30 {p : Program} {l : Launch} {e : Env} {s : State} {m : MethodId} {args : Array Value} {below : List Frame} {meth : Method} {c : Code} {D : va_G} {cy : Nat → ClassId} {ad : Nat → Nat} {P : MP} {V : MV} {I : MI} {J : MJ} {A : MI} {B : MJ} {Af : Nat → Prop} {res : Int32 × Int32 × (Nat → Int32) × (Nat → Int32) × (Nat → Int32) × (Nat → Int32) × (Nat → Int32) × (Nat → Int32) × (Nat → Int32) × (Nat → Int32) × (Nat → Int32) × (Nat → Int32) × (Nat → Int32) × (Nat → Int32)} (C0 : CX p s m args meth c cX9_refuge 6 (some .int) RX9) (hK : va_K D vwCl (tyG cy) s) (hN : NWs s) (hA : ∀ q, s.heap.size ≤ q → Af q) {k30 : Int32 → (Nat → Int32) → (Nat → Int32) → (Nat → Int32) → (Nat → Int32) → (Nat → Int32) → (Nat → Int32) → (Nat → Int32) → (Nat → Int32) → (Nat → Int32) → (Nat → Int32) → (Nat → Int32) → (Nat → Int32) → Int32 → Int32 → Int32 → Int32 → Option (Int32 × Int32 × (Nat → Int32) × (Nat → Int32) × (Nat → Int32) × (Nat → Int32) × (Nat → Int32) × (Nat → Int32) × (Nat → Int32) × (Nat → Int32) × (Nat → Int32) × (Nat → Int32) × (Nat → Int32) × (Nat → Int32))} (hk30 : SX9_refuge_30 p l e s m args below meth c D cy ad P V I J A B Af res k30) : SX9_refuge_30 p l e s m args below meth c D cy ad P V I J A B Af res (fX9_refuge_30 (I 0 54) (A 2) (A 5) (A 7) (A 9) (A 10) (A 11) (A 12) (A 13) (A 14) (A 15) k30) := by
  intro m_thrown m_kept m_keptBy m_ahead m_against m_sum m_sumBy m_term m_termBy m_byNot m_valueOf m_s m_before v1 v2 v3 v4 H locs ls hW hl hf
  unfold fX9_refuge_30 at hf
  refine lv_iload C0.1 C0.2.1 dX9_refuge_30 (lv_at hl 4 rfl) ?_
  refine lv_aload_n C0.1 C0.2.1 dX9_refuge_32 rfl (lv_at hl 0 rfl) ?_
  refine s_get (v := .ref (ad 2)) C0 hK hW 0 10 LY_X9_0 rfl fg_X9_13 rfl dX9_refuge_33 ?_
  refine lv_iconst (v := 0) C0.1 C0.2.1 dX9_refuge_36 kI_0 ?_
  refine s_iald (v := ((A 2) 0)) C0 hK hW 2 LY_X9_2 rfl (congrArg _ tc_0) dX9_refuge_37 ?_
  refine lv_icmp_ge (tgt := 105) C0.1 C0.2.1 dX9_refuge_38 (by decide) (fun hc1 => ?_) (fun hc1 => ?_)
  · have hf := ite_t hc1 hf
    refine lv_iload_n C0.1 C0.2.1 dX9_refuge_105 rfl (lv_at hl 2 rfl) ?_
    obtain rfl := Option.some.inj hf
    exact r_int C0 hK hW dX9_refuge_106
  · have hf := ite_f hc1 hf
    refine lv_aload_n C0.1 C0.2.1 dX9_refuge_41 rfl (lv_at hl 0 rfl) ?_
    refine lv_iload C0.1 C0.2.1 dX9_refuge_42 (lv_at hl 4 rfl) ?_
    refine lv_iload_n C0.1 C0.2.1 dX9_refuge_44 rfl (lv_at hl 1 rfl) ?_
    obtain ⟨y2, hy2, hf⟩ := b_some hf
    refine c_Vi C0 hK hN hl.1 hW hA (KX9_isTakenBy l D cy  ad P V (gp I [(0, 0, m_thrown)]) (gp J []) (gm A [(18, m_kept), (19, m_keptBy), (20, m_ahead), (21, m_against), (22, m_sum), (23, m_sumBy), (24, m_term), (25, m_termBy), (26, m_byNot), (27, m_valueOf), (35, m_s), (37, m_before)]) (gm B []) v4 v1 hy2) (JN_id rfl rfl rfl rfl) (Uw_V uw_1428 uw_1430 us_68 uw_14 uw_1431) rfl rfl hd_X9_isTakenBy ⟨rfl, rfl⟩ rfl (dn_some LY_X9_0) rfl rfl rfl dX9_refuge_45 ⟨Nat.zero_le _, Nat.zero_le _⟩ (fun H locs hW => ?_)
    have hW : wd D (dn cy LY_X9 ad P V (gp I [(0, 0, m_thrown)]) (gp J []) (gm A [(18, y2.2.1), (19, y2.2.2.1), (20, y2.2.2.2.1), (21, y2.2.2.2.2.1), (22, y2.2.2.2.2.2.1), (23, y2.2.2.2.2.2.2.1), (24, y2.2.2.2.2.2.2.2.1), (25, y2.2.2.2.2.2.2.2.2.1), (26, y2.2.2.2.2.2.2.2.2.2.1), (27, y2.2.2.2.2.2.2.2.2.2.2), (35, m_s), (37, m_before)]) (gm B [])) Af s.heap H locs := hW
    refine lv_if_ne (tgt := 54) C0.1 C0.2.1 dX9_refuge_48 (by decide) (fun hc3 => ?_) (fun hc3 => ?_)
    · have hf := ite_f hc3 hf
      refine lv_aload_n C0.1 C0.2.1 dX9_refuge_54 rfl (lv_at hl 0 rfl) ?_
      refine s_get (v := .ref (ad 35)) C0 hK hW 0 47 LY_X9_0 rfl fg_X9_114 rfl dX9_refuge_55 ?_
      refine lv_bipush (v := 8) C0.1 C0.2.1 dX9_refuge_58 kB_8 ?_
      refine lv_iload_n C0.1 C0.2.1 dX9_refuge_60 rfl (lv_at hl 1 rfl) ?_
      refine lv_iadd C0.1 C0.2.1 dX9_refuge_61 ?_
      refine lv_iload C0.1 C0.2.1 dX9_refuge_62 (lv_at hl 4 rfl) ?_
      refine lv_iconst (v := 1) C0.1 C0.2.1 dX9_refuge_64 kI_1 ?_
      refine lv_iadd C0.1 C0.2.1 dX9_refuge_65 ?_
      obtain ⟨hb4, hf⟩ := g_some hf
      refine s_iast (f := (upd m_s (Int32.toNatClampNeg (8 + v1)) (v4 + 1))) C0 hK hW 35 LY_X9_35 hb4 rfl rfl dX9_refuge_66 (fun H locs hW => ?_)
      have hW : wd D (dn cy LY_X9 ad P V (gp I [(0, 0, m_thrown)]) (gp J []) (gm A [(18, y2.2.1), (19, y2.2.2.1), (20, y2.2.2.2.1), (21, y2.2.2.2.2.1), (22, y2.2.2.2.2.2.1), (23, y2.2.2.2.2.2.2.1), (24, y2.2.2.2.2.2.2.2.1), (25, y2.2.2.2.2.2.2.2.2.1), (26, y2.2.2.2.2.2.2.2.2.2.1), (27, y2.2.2.2.2.2.2.2.2.2.2), (35, (upd m_s (Int32.toNatClampNeg (8 + v1)) (v4 + 1))), (37, m_before)]) (gm B [])) Af s.heap H locs := hW
      refine lv_aload_n C0.1 C0.2.1 dX9_refuge_67 rfl (lv_at hl 0 rfl) ?_
      refine lv_iload_n C0.1 C0.2.1 dX9_refuge_68 rfl (lv_at hl 1 rfl) ?_
      obtain ⟨y5, hy5, hf⟩ := b_some hf
      refine c_Vi C0 hK hN hl.1 hW hA (KX9_safeFor l D cy  ad P V (gp I [(0, 0, m_thrown)]) (gp J []) (gm A [(18, y2.2.1), (19, y2.2.2.1), (20, y2.2.2.2.1), (21, y2.2.2.2.2.1), (22, y2.2.2.2.2.2.1), (23, y2.2.2.2.2.2.2.1), (24, y2.2.2.2.2.2.2.2.1), (25, y2.2.2.2.2.2.2.2.2.1), (26, y2.2.2.2.2.2.2.2.2.2.1), (27, y2.2.2.2.2.2.2.2.2.2.2), (35, (upd m_s (Int32.toNatClampNeg (8 + v1)) (v4 + 1))), (37, m_before)]) (gm B []) v1 hy5) (JN_id rfl rfl rfl rfl) (Uw_V uw_1556 uw_1558 us_88 uw_14 uw_1559) rfl rfl hd_X9_safeFor ⟨rfl, rfl⟩ rfl (dn_some LY_X9_0) rfl rfl rfl dX9_refuge_69 ⟨Nat.zero_le _, Nat.zero_le _⟩ (fun H locs hW => ?_)
      have hW : wd D (dn cy LY_X9 ad P V (gp I [(0, 0, m_thrown)]) (gp J []) (gm A [(18, y2.2.1), (19, y2.2.2.1), (20, y2.2.2.2.1), (21, y2.2.2.2.2.1), (22, y2.2.2.2.2.2.1), (23, y2.2.2.2.2.2.2.1), (24, y2.2.2.2.2.2.2.2.1), (25, y2.2.2.2.2.2.2.2.2.1), (26, y2.2.2.2.2.2.2.2.2.2.1), (27, y2.2.2.2.2.2.2.2.2.2.2), (35, y5.2.1), (37, y5.2.2)]) (gm B [])) Af s.heap H locs := hW
      refine lv_istore (lv' := [(5, .int y5.1), (0, .ref (ad 0)), (1, .int v1), (2, .int v2), (3, .int v3), (4, .int v4)]) C0.1 C0.2.1 dX9_refuge_72 hl (by decide) rfl (fun ls hl => ?_)
      refine lv_aload_n C0.1 C0.2.1 dX9_refuge_74 rfl (lv_at hl 1 rfl) ?_
      refine s_get (v := .ref (ad 35)) C0 hK hW 0 47 LY_X9_0 rfl fg_X9_114 rfl dX9_refuge_75 ?_
      refine lv_bipush (v := 8) C0.1 C0.2.1 dX9_refuge_78 kB_8 ?_
      refine lv_iload_n C0.1 C0.2.1 dX9_refuge_80 rfl (lv_at hl 2 rfl) ?_
      refine lv_iadd C0.1 C0.2.1 dX9_refuge_81 ?_
      refine lv_iconst (v := 0) C0.1 C0.2.1 dX9_refuge_82 kI_0 ?_
      obtain ⟨hb6, hf⟩ := g_some hf
      refine s_iast (f := (upd y5.2.1 (Int32.toNatClampNeg (8 + v1)) 0)) C0 hK hW 35 LY_X9_35 hb6 rfl rfl dX9_refuge_83 (fun H locs hW => ?_)
      have hW : wd D (dn cy LY_X9 ad P V (gp I [(0, 0, m_thrown)]) (gp J []) (gm A [(18, y2.2.1), (19, y2.2.2.1), (20, y2.2.2.2.1), (21, y2.2.2.2.2.1), (22, y2.2.2.2.2.2.1), (23, y2.2.2.2.2.2.2.1), (24, y2.2.2.2.2.2.2.2.1), (25, y2.2.2.2.2.2.2.2.2.1), (26, y2.2.2.2.2.2.2.2.2.2.1), (27, y2.2.2.2.2.2.2.2.2.2.2), (35, (upd y5.2.1 (Int32.toNatClampNeg (8 + v1)) 0)), (37, y5.2.2)]) (gm B [])) Af s.heap H locs := hW
      refine lv_iload C0.1 C0.2.1 dX9_refuge_84 (lv_at hl 0 rfl) ?_
      refine lv_iload_n C0.1 C0.2.1 dX9_refuge_86 rfl (lv_at hl 4 rfl) ?_
      refine lv_icmp_gt (tgt := 93) C0.1 C0.2.1 dX9_refuge_87 (by decide) (fun hc7 => ?_) (fun hc7 => ?_)
      · have hf := ite_t hc7 hf
        refine lv_iload C0.1 C0.2.1 dX9_refuge_93 (lv_at hl 5 rfl) ?_
        refine lv_istore_n (lv' := [(2, .int v4), (5, .int y5.1), (0, .ref (ad 0)), (1, .int v1), (3, .int v3), (4, .int v4)]) C0.1 C0.2.1 dX9_refuge_95 rfl hl (by decide) rfl (fun ls hl => ?_)
        refine lv_iload C0.1 C0.2.1 dX9_refuge_96 (lv_at hl 1 rfl) ?_
        refine lv_istore_n (lv' := [(3, .int y5.1), (2, .int v4), (5, .int y5.1), (0, .ref (ad 0)), (1, .int v1), (4, .int v4)]) C0.1 C0.2.1 dX9_refuge_98 rfl hl (by decide) rfl (fun ls hl => ?_)
        refine lv_iinc (v := (v4 + 1)) (lv' := [(4, .int (v4 + 1)), (3, .int y5.1), (2, .int v4), (5, .int y5.1), (0, .ref (ad 0)), (1, .int v1)]) C0.1 C0.2.1 dX9_refuge_99 hl (k := 5) rfl (congrArg (fun z => _ + z) kI_1) (by decide) rfl (fun ls hl => ?_)
        refine lv_goto (tgt := 30) C0.1 C0.2.1 dX9_refuge_102 (by decide) ?_
        exact hk30 m_thrown y2.2.1 y2.2.2.1 y2.2.2.2.1 y2.2.2.2.2.1 y2.2.2.2.2.2.1 y2.2.2.2.2.2.2.1 y2.2.2.2.2.2.2.2.1 y2.2.2.2.2.2.2.2.2.1 y2.2.2.2.2.2.2.2.2.2.1 y2.2.2.2.2.2.2.2.2.2.2 (upd y5.2.1 (Int32.toNatClampNeg (8 + v1)) 0) y5.2.2 v1 v4 y5.1 (v4 + 1) H locs ls hW (lv_sub hl [4, 5, 2, 1, 0] rfl) hf
      · have hf := ite_f hc7 hf
        refine lv_goto (tgt := 99) C0.1 C0.2.1 dX9_refuge_90 (by decide) ?_
        refine lv_iinc (v := (v4 + 1)) (lv' := [(4, .int (v4 + 1)), (5, .int y5.1), (0, .ref (ad 0)), (1, .int v1), (2, .int v2), (3, .int v3)]) C0.1 C0.2.1 dX9_refuge_99 hl (k := 5) rfl (congrArg (fun z => _ + z) kI_1) (by decide) rfl (fun ls hl => ?_)
        refine lv_goto (tgt := 30) C0.1 C0.2.1 dX9_refuge_102 (by decide) ?_
        exact hk30 m_thrown y2.2.1 y2.2.2.1 y2.2.2.2.1 y2.2.2.2.2.1 y2.2.2.2.2.2.1 y2.2.2.2.2.2.2.1 y2.2.2.2.2.2.2.2.1 y2.2.2.2.2.2.2.2.2.1 y2.2.2.2.2.2.2.2.2.2.1 y2.2.2.2.2.2.2.2.2.2.2 (upd y5.2.1 (Int32.toNatClampNeg (8 + v1)) 0) y5.2.2 v1 v2 v3 (v4 + 1) H locs ls hW (lv_sub hl [2, 3, 4, 5, 0] rfl) hf
    · have hf := ite_t hc3 hf
      refine lv_goto (tgt := 99) C0.1 C0.2.1 dX9_refuge_51 (by decide) ?_
      refine lv_iinc (v := (v4 + 1)) (lv' := [(4, .int (v4 + 1)), (0, .ref (ad 0)), (1, .int v1), (2, .int v2), (3, .int v3)]) C0.1 C0.2.1 dX9_refuge_99 hl (k := 4) rfl (congrArg (fun z => _ + z) kI_1) (by decide) rfl (fun ls hl => ?_)
      refine lv_goto (tgt := 30) C0.1 C0.2.1 dX9_refuge_102 (by decide) ?_
      exact hk30 m_thrown y2.2.1 y2.2.2.1 y2.2.2.2.1 y2.2.2.2.2.1 y2.2.2.2.2.2.1 y2.2.2.2.2.2.2.1 y2.2.2.2.2.2.2.2.1 y2.2.2.2.2.2.2.2.2.1 y2.2.2.2.2.2.2.2.2.2.1 y2.2.2.2.2.2.2.2.2.2.2 m_s m_before v1 v2 v3 (v4 + 1) H locs ls hW (lv_sub hl [1, 2, 3, 4, 0] rfl) hf
theorem TX9_refuge_30 {p : Program} {l : Launch} {e : Env} {s : State} {m : MethodId} {args : Array Value} {below : List Frame} {meth : Method} {c : Code} {D : va_G} {cy : Nat → ClassId} {ad : Nat → Nat} {P : MP} {V : MV} {I : MI} {J : MJ} {A : MI} {B : MJ} {Af : Nat → Prop} {res : Int32 × Int32 × (Nat → Int32) × (Nat → Int32) × (Nat → Int32) × (Nat → Int32) × (Nat → Int32) × (Nat → Int32) × (Nat → Int32) × (Nat → Int32) × (Nat → Int32) × (Nat → Int32) × (Nat → Int32) × (Nat → Int32)} (C0 : CX p s m args meth c cX9_refuge 6 (some .int) RX9) (hK : va_K D vwCl (tyG cy) s) (hN : NWs s) (hA : ∀ q, s.heap.size ≤ q → Af q) : ∀ n, SX9_refuge_30 p l e s m args below meth c D cy ad P V I J A B Af res (itr (fun kk => fX9_refuge_30 (I 0 54) (A 2) (A 5) (A 7) (A 9) (A 10) (A 11) (A 12) (A 13) (A 14) (A 15) kk) (fun _ _ _ _ _ _ _ _ _ _ _ _ _ _ _ _ _ => none) n) := by
  intro n
  induction n with
  | zero => intro m_thrown m_kept m_keptBy m_ahead m_against m_sum m_sumBy m_term m_termBy m_byNot m_valueOf m_s m_before v1 v2 v3 v4 H locs ls hW hl hf; exact (nomatch (show (none : Option (Int32 × Int32 × (Nat → Int32) × (Nat → Int32) × (Nat → Int32) × (Nat → Int32) × (Nat → Int32) × (Nat → Int32) × (Nat → Int32) × (Nat → Int32) × (Nat → Int32) × (Nat → Int32) × (Nat → Int32) × (Nat → Int32))) = some res from hf))
  | succ n ih => exact tX9_refuge_30 C0 hK hN hA  ih
def fX9_refuge (m_colder : Int32) (m_terrace : (Nat → Int32)) (m_holeFlag : (Nat → Int32)) (m_burns : (Nat → Int32)) (m_kind : (Nat → Int32)) (m_guestFlag : (Nat → Int32)) (m_wars : (Nat → Int32)) (m_cold : (Nat → Int32)) (m_lineFrom : (Nat → Int32)) (m_lineTo : (Nat → Int32)) (m_codes : (Nat → Int32)) (m_thrown : Int32) (m_kept : (Nat → Int32)) (m_keptBy : (Nat → Int32)) (m_ahead : (Nat → Int32)) (m_against : (Nat → Int32)) (m_sum : (Nat → Int32)) (m_sumBy : (Nat → Int32)) (m_term : (Nat → Int32)) (m_termBy : (Nat → Int32)) (m_byNot : (Nat → Int32)) (m_valueOf : (Nat → Int32)) (m_s : (Nat → Int32)) (m_before : (Nat → Int32)) (v1 : Int32) : Option (Int32 × Int32 × (Nat → Int32) × (Nat → Int32) × (Nat → Int32) × (Nat → Int32) × (Nat → Int32) × (Nat → Int32) × (Nat → Int32) × (Nat → Int32) × (Nat → Int32) × (Nat → Int32) × (Nat → Int32) × (Nat → Int32)) := Option.bind (fX9_isGuest m_terrace v1) fun y1 => (if y1 = 0 then (some ((-1), 0, m_kept, m_keptBy, m_ahead, m_against, m_sum, m_sumBy, m_term, m_termBy, m_byNot, m_valueOf, m_s, m_before)) else (Option.bind (fX9_isOutside m_s v1) fun y3 => (if y3 = 0 then (some ((-1), 0, m_kept, m_keptBy, m_ahead, m_against, m_sum, m_sumBy, m_term, m_termBy, m_byNot, m_valueOf, m_s, m_before)) else (itr (fun kk => fX9_refuge_30 m_colder m_terrace m_holeFlag m_burns m_kind m_guestFlag m_wars m_cold m_lineFrom m_lineTo m_codes kk) (fun _ _ _ _ _ _ _ _ _ _ _ _ _ _ _ _ _ => none) FU 0 m_kept m_keptBy m_ahead m_against m_sum m_sumBy m_term m_termBy m_byNot m_valueOf m_s m_before v1 (-1) 0 0))))
set_option maxHeartbeats 4000000 in
set_option maxRecDepth 100000 in
theorem KX9_refuge (l : Launch) (D : va_G) (cy : Nat → ClassId) (ad : Nat → Nat) (P : MP) (V : MV) (I : MI) (J : MJ) (A : MI) (B : MJ) (v1 : Int32) {res : Int32 × Int32 × (Nat → Int32) × (Nat → Int32) × (Nat → Int32) × (Nat → Int32) × (Nat → Int32) × (Nat → Int32) × (Nat → Int32) × (Nat → Int32) × (Nat → Int32) × (Nat → Int32) × (Nat → Int32) × (Nat → Int32)} (hf : fX9_refuge (I 0 54) (A 2) (A 5) (A 7) (A 9) (A 10) (A 11) (A 12) (A 13) (A 14) (A 15) (I 0 0) (A 18) (A 19) (A 20) (A 21) (A 22) (A 23) (A 24) (A 25) (A 26) (A 27) (A 35) (A 37) v1 = some res) : CG l yX9_refuge cX9_refuge 6 (some .int) rmX9_refuge D cy (dn cy LY_X9 ad P V I J A B) [.ref (ad 0), .int v1] (some (.int res.1)) (dn cy LY_X9 ad P V (gp I [(0, 0, res.2.1)]) (gp J []) (gm A [(18, res.2.2.1), (19, res.2.2.2.1), (20, res.2.2.2.2.1), (21, res.2.2.2.2.2.1), (22, res.2.2.2.2.2.2.1), (23, res.2.2.2.2.2.2.2.1), (24, res.2.2.2.2.2.2.2.2.1), (25, res.2.2.2.2.2.2.2.2.2.1), (26, res.2.2.2.2.2.2.2.2.2.2.1), (27, res.2.2.2.2.2.2.2.2.2.2.2.1), (35, res.2.2.2.2.2.2.2.2.2.2.2.2.1), (37, res.2.2.2.2.2.2.2.2.2.2.2.2.2)]) (gm B [])) := by
  refine CG.of (own := RX9) (by decide) rfl rfl ?_
  intro p e s m below meth c ls Af C0 hK hN hA hW hl
  have hW : wd D (dn cy LY_X9 ad P V (gp I [(0, 0, (I 0 0))]) (gp J []) (gm A [(18, (A 18)), (19, (A 19)), (20, (A 20)), (21, (A 21)), (22, (A 22)), (23, (A 23)), (24, (A 24)), (25, (A 25)), (26, (A 26)), (27, (A 27)), (35, (A 35)), (37, (A 37))]) (gm B [])) Af s.heap s.heap [] := wd_sel [(0, 0)] [] [18, 19, 20, 21, 22, 23, 24, 25, 26, 27, 35, 37] [] hW
  have hl : lv_has ls 6 [(0, .ref (ad 0)), (1, .int v1)] := hl
  unfold fX9_refuge at hf
  refine lv_aload_n C0.1 C0.2.1 dX9_refuge_0 rfl (lv_at hl 0 rfl) ?_
  refine lv_iconst (v := 0) C0.1 C0.2.1 dX9_refuge_1 kI_0 ?_
  refine s_putI C0 hK hW 0 0 LY_X9_0 rfl fg_X9_142 fp_X9_0 rfl dX9_refuge_2 (fun H locs hW => ?_)
  have hW : wd D (dn cy LY_X9 ad P V (gp I [(0, 0, 0)]) (gp J []) (gm A [(18, (A 18)), (19, (A 19)), (20, (A 20)), (21, (A 21)), (22, (A 22)), (23, (A 23)), (24, (A 24)), (25, (A 25)), (26, (A 26)), (27, (A 27)), (35, (A 35)), (37, (A 37))]) (gm B [])) Af s.heap H locs := hW
  refine lv_aload_n C0.1 C0.2.1 dX9_refuge_5 rfl (lv_at hl 0 rfl) ?_
  refine lv_iload_n C0.1 C0.2.1 dX9_refuge_6 rfl (lv_at hl 1 rfl) ?_
  obtain ⟨y1, hy1, hf⟩ := b_some hf
  refine c_Vi C0 hK hN hl.1 hW hA (KX9_isGuest l D cy  ad P V (gp I [(0, 0, 0)]) (gp J []) (gm A [(18, (A 18)), (19, (A 19)), (20, (A 20)), (21, (A 21)), (22, (A 22)), (23, (A 23)), (24, (A 24)), (25, (A 25)), (26, (A 26)), (27, (A 27)), (35, (A 35)), (37, (A 37))]) (gm B []) v1 hy1) (JN_id rfl rfl rfl rfl) (Uw_V uw_1463 uw_1465 us_75 uw_14 uw_1466) rfl rfl hd_X9_isGuest ⟨rfl, rfl⟩ rfl (dn_some LY_X9_0) rfl rfl rfl dX9_refuge_7 ⟨Nat.zero_le _, Nat.zero_le _⟩ (fun H locs hW => ?_)
  have hW : wd D (dn cy LY_X9 ad P V (gp I [(0, 0, 0)]) (gp J []) (gm A [(18, (A 18)), (19, (A 19)), (20, (A 20)), (21, (A 21)), (22, (A 22)), (23, (A 23)), (24, (A 24)), (25, (A 25)), (26, (A 26)), (27, (A 27)), (35, (A 35)), (37, (A 37))]) (gm B [])) Af s.heap H locs := hW
  refine lv_if_eq (tgt := 21) C0.1 C0.2.1 dX9_refuge_10 (by decide) (fun hc2 => ?_) (fun hc2 => ?_)
  · have hf := ite_t hc2 hf
    refine lv_iconst (v := (-1)) C0.1 C0.2.1 dX9_refuge_21 kI_m1 ?_
    obtain rfl := Option.some.inj hf
    exact r_int C0 hK hW dX9_refuge_22
  · have hf := ite_f hc2 hf
    refine lv_aload_n C0.1 C0.2.1 dX9_refuge_13 rfl (lv_at hl 0 rfl) ?_
    refine lv_iload_n C0.1 C0.2.1 dX9_refuge_14 rfl (lv_at hl 1 rfl) ?_
    obtain ⟨y3, hy3, hf⟩ := b_some hf
    refine c_Vi C0 hK hN hl.1 hW hA (KX9_isOutside l D cy  ad P V (gp I [(0, 0, 0)]) (gp J []) (gm A [(18, (A 18)), (19, (A 19)), (20, (A 20)), (21, (A 21)), (22, (A 22)), (23, (A 23)), (24, (A 24)), (25, (A 25)), (26, (A 26)), (27, (A 27)), (35, (A 35)), (37, (A 37))]) (gm B []) v1 hy3) (JN_id rfl rfl rfl rfl) (Uw_V uw_1479 uw_1481 us_79 uw_14 uw_1482) rfl rfl hd_X9_isOutside ⟨rfl, rfl⟩ rfl (dn_some LY_X9_0) rfl rfl rfl dX9_refuge_15 ⟨Nat.zero_le _, Nat.zero_le _⟩ (fun H locs hW => ?_)
    have hW : wd D (dn cy LY_X9 ad P V (gp I [(0, 0, 0)]) (gp J []) (gm A [(18, (A 18)), (19, (A 19)), (20, (A 20)), (21, (A 21)), (22, (A 22)), (23, (A 23)), (24, (A 24)), (25, (A 25)), (26, (A 26)), (27, (A 27)), (35, (A 35)), (37, (A 37))]) (gm B [])) Af s.heap H locs := hW
    refine lv_if_ne (tgt := 23) C0.1 C0.2.1 dX9_refuge_18 (by decide) (fun hc4 => ?_) (fun hc4 => ?_)
    · have hf := ite_f hc4 hf
      refine lv_iconst (v := (-1)) C0.1 C0.2.1 dX9_refuge_23 kI_m1 ?_
      refine lv_istore_n (lv' := [(2, .int (-1)), (0, .ref (ad 0)), (1, .int v1)]) C0.1 C0.2.1 dX9_refuge_24 rfl hl (by decide) rfl (fun ls hl => ?_)
      refine lv_iconst (v := 0) C0.1 C0.2.1 dX9_refuge_25 kI_0 ?_
      refine lv_istore_n (lv' := [(3, .int 0), (2, .int (-1)), (0, .ref (ad 0)), (1, .int v1)]) C0.1 C0.2.1 dX9_refuge_26 rfl hl (by decide) rfl (fun ls hl => ?_)
      refine lv_iconst (v := 0) C0.1 C0.2.1 dX9_refuge_27 kI_0 ?_
      refine lv_istore (lv' := [(4, .int 0), (3, .int 0), (2, .int (-1)), (0, .ref (ad 0)), (1, .int v1)]) C0.1 C0.2.1 dX9_refuge_28 hl (by decide) rfl (fun ls hl => ?_)
      exact TX9_refuge_30 C0 hK hN hA  FU 0 (A 18) (A 19) (A 20) (A 21) (A 22) (A 23) (A 24) (A 25) (A 26) (A 27) (A 35) (A 37) v1 (-1) 0 0 _ _ ls hW (lv_sub hl [3, 4, 2, 1, 0] rfl) hf
    · have hf := ite_t hc4 hf
      refine lv_iconst (v := (-1)) C0.1 C0.2.1 dX9_refuge_21 kI_m1 ?_
      obtain rfl := Option.some.inj hf
      exact r_int C0 hK hW dX9_refuge_22
-- X9_goesOn
def rmX9_goesOn : Room := { frames := 3, cells := 0, slots := 0, locals := 64 }
def SX9_goesOn_2 (p : Program) (l : Launch) (e : Env) (s : State) (m : MethodId) (args : Array Value) (below : List Frame) (meth : Method) (c : Code) (D : va_G) (cy : Nat → ClassId) (ad : Nat → Nat) (P : MP) (V : MV) (I : MI) (J : MJ) (A : MI) (B : MJ) (Af : Nat → Prop) (res : (Nat → Int32)) (k : (Nat → Int32) → Int32 → Int32 → Option ((Nat → Int32))) : Prop := ∀ (m_s : (Nat → Int32)) (v1 : Int32) (v2 : Int32) (H : Heap) (locs : List Loc) (ls : Array Slot), wd D (dn cy LY_X9 ad P V (gp I []) (gp J []) (gm A [(35, m_s)]) (gm B [])) Af s.heap H locs → lv_has ls 3 [(0, .ref (ad 0)), (1, .int v1), (2, .int v2)] → k m_s v1 v2 = some res → W p l e rmX9_goesOn s m args below meth c H locs 0 0 (ZQ below D cy (dn cy LY_X9 ad P V (gp I []) (gp J []) (gm A [(35, res)]) (gm B [])) none Af args s) (F0 m 2 ls [])
def fX9_goesOn_2 (m_colder : Int32) (m_terrace : (Nat → Int32)) (m_burns : (Nat → Int32)) (m_kind : (Nat → Int32)) (m_cold : (Nat → Int32)) (k2 : (Nat → Int32) → Int32 → Int32 → Option ((Nat → Int32))) (m_s : (Nat → Int32)) (v1 : Int32) (v2 : Int32) : Option ((Nat → Int32)) := if v1 ≤ v2 then (some (m_s)) else (Option.bind (fX9_passes m_colder m_terrace m_burns m_kind m_cold m_s) fun y2 => (k2 y2.2 v1 (v2 + 1)))
set_option maxHeartbeats 4000000 in
set_option maxRecDepth 100000 in
theorem tX9_goesOn_2 {p : Program} {l : Launch} {e : Env} {s : State} {m : MethodId} {args : Array Value} {below : List Frame} {meth : Method} {c : Code} {D : va_G} {cy : Nat → ClassId} {ad : Nat → Nat} {P : MP} {V : MV} {I : MI} {J : MJ} {A : MI} {B : MJ} {Af : Nat → Prop} {res : (Nat → Int32)} (C0 : CX p s m args meth c cX9_goesOn 3 none RX9) (hK : va_K D vwCl (tyG cy) s) (hN : NWs s) (hA : ∀ q, s.heap.size ≤ q → Af q) {k2 : (Nat → Int32) → Int32 → Int32 → Option ((Nat → Int32))} (hk2 : SX9_goesOn_2 p l e s m args below meth c D cy ad P V I J A B Af res k2) : SX9_goesOn_2 p l e s m args below meth c D cy ad P V I J A B Af res (fX9_goesOn_2 (I 0 54) (A 2) (A 7) (A 9) (A 12) k2) := by
  intro m_s v1 v2 H locs ls hW hl hf
  unfold fX9_goesOn_2 at hf
  refine lv_iload_n C0.1 C0.2.1 dX9_goesOn_2 rfl (lv_at hl 2 rfl) ?_
  refine lv_iload_n C0.1 C0.2.1 dX9_goesOn_3 rfl (lv_at hl 1 rfl) ?_
  refine lv_icmp_ge (tgt := 18) C0.1 C0.2.1 dX9_goesOn_4 (by decide) (fun hc1 => ?_) (fun hc1 => ?_)
  · have hf := ite_t hc1 hf
    obtain rfl := Option.some.inj hf
    exact r_void C0 hK hW dX9_goesOn_18
  · have hf := ite_f hc1 hf
    refine lv_aload_n C0.1 C0.2.1 dX9_goesOn_7 rfl (lv_at hl 0 rfl) ?_
    obtain ⟨y2, hy2, hf⟩ := b_some hf
    refine c_Vi C0 hK hN hl.1 hW hA (KX9_passes l D cy  ad P V (gp I []) (gp J []) (gm A [(35, m_s)]) (gm B [])  hy2) (JN_id rfl rfl rfl rfl) (Uw_V uw_1523 uw_1525 us_84 uw_14 uw_1526) rfl rfl hd_X9_passes ⟨rfl, rfl⟩ rfl (dn_some LY_X9_0) rfl rfl rfl dX9_goesOn_8 ⟨Nat.zero_le _, Nat.zero_le _⟩ (fun H locs hW => ?_)
    have hW : wd D (dn cy LY_X9 ad P V (gp I []) (gp J []) (gm A [(35, y2.2)]) (gm B [])) Af s.heap H locs := hW
    refine lv_pop C0.1 C0.2.1 dX9_goesOn_11 rfl ?_
    refine lv_iinc (v := (v2 + 1)) (lv' := [(2, .int (v2 + 1)), (0, .ref (ad 0)), (1, .int v1)]) C0.1 C0.2.1 dX9_goesOn_12 hl (k := 2) rfl (congrArg (fun z => _ + z) kI_1) (by decide) rfl (fun ls hl => ?_)
    refine lv_goto (tgt := 2) C0.1 C0.2.1 dX9_goesOn_15 (by decide) ?_
    exact hk2 y2.2 v1 (v2 + 1) H locs ls hW (lv_sub hl [1, 2, 0] rfl) hf
theorem TX9_goesOn_2 {p : Program} {l : Launch} {e : Env} {s : State} {m : MethodId} {args : Array Value} {below : List Frame} {meth : Method} {c : Code} {D : va_G} {cy : Nat → ClassId} {ad : Nat → Nat} {P : MP} {V : MV} {I : MI} {J : MJ} {A : MI} {B : MJ} {Af : Nat → Prop} {res : (Nat → Int32)} (C0 : CX p s m args meth c cX9_goesOn 3 none RX9) (hK : va_K D vwCl (tyG cy) s) (hN : NWs s) (hA : ∀ q, s.heap.size ≤ q → Af q) : ∀ n, SX9_goesOn_2 p l e s m args below meth c D cy ad P V I J A B Af res (itr (fun kk => fX9_goesOn_2 (I 0 54) (A 2) (A 7) (A 9) (A 12) kk) (fun _ _ _ => none) n) := by
  intro n
  induction n with
  | zero => intro m_s v1 v2 H locs ls hW hl hf; exact (nomatch (show (none : Option ((Nat → Int32))) = some res from hf))
  | succ n ih => exact tX9_goesOn_2 C0 hK hN hA  ih
def fX9_goesOn (m_colder : Int32) (m_terrace : (Nat → Int32)) (m_burns : (Nat → Int32)) (m_kind : (Nat → Int32)) (m_cold : (Nat → Int32)) (m_s : (Nat → Int32)) (v1 : Int32) : Option ((Nat → Int32)) := itr (fun kk => fX9_goesOn_2 m_colder m_terrace m_burns m_kind m_cold kk) (fun _ _ _ => none) FU m_s v1 0
set_option maxHeartbeats 4000000 in
set_option maxRecDepth 100000 in
theorem KX9_goesOn (l : Launch) (D : va_G) (cy : Nat → ClassId) (ad : Nat → Nat) (P : MP) (V : MV) (I : MI) (J : MJ) (A : MI) (B : MJ) (v1 : Int32) {res : (Nat → Int32)} (hf : fX9_goesOn (I 0 54) (A 2) (A 7) (A 9) (A 12) (A 35) v1 = some res) : CG l yX9_goesOn cX9_goesOn 3 none rmX9_goesOn D cy (dn cy LY_X9 ad P V I J A B) [.ref (ad 0), .int v1] none (dn cy LY_X9 ad P V (gp I []) (gp J []) (gm A [(35, res)]) (gm B [])) := by
  refine CG.of (own := RX9) (by decide) rfl rfl ?_
  intro p e s m below meth c ls Af C0 hK hN hA hW hl
  have hW : wd D (dn cy LY_X9 ad P V (gp I []) (gp J []) (gm A [(35, (A 35))]) (gm B [])) Af s.heap s.heap [] := wd_sel [] [] [35] [] hW
  have hl : lv_has ls 3 [(0, .ref (ad 0)), (1, .int v1)] := hl
  unfold fX9_goesOn at hf
  refine lv_iconst (v := 0) C0.1 C0.2.1 dX9_goesOn_0 kI_0 ?_
  refine lv_istore_n (lv' := [(2, .int 0), (0, .ref (ad 0)), (1, .int v1)]) C0.1 C0.2.1 dX9_goesOn_1 rfl hl (by decide) rfl (fun ls hl => ?_)
  exact TX9_goesOn_2 C0 hK hN hA  FU (A 35) v1 0 _ _ ls hW (lv_sub hl [1, 2, 0] rfl) hf
-- X9_stocks
def rmX9_stocks (d : Nat) : Room := { frames := d + 4, cells := 0, slots := 0, locals := d * 25 + 86 }
def SX9_stocks_93 (p : Program) (l : Launch) (e : Env) (s : State) (m : MethodId) (args : Array Value) (below : List Frame) (meth : Method) (c : Code) (D : va_G) (cy : Nat → ClassId) (ad : Nat → Nat) (P : MP) (V : MV) (I : MI) (J : MJ) (A : MI) (B : MJ) (Af : Nat → Prop) (R : Room) (res : Int32 × (Nat → Int32) × (Nat → Int32) × (Nat → Int32) × (Nat → Int32)) (k : Int32 → (Nat → Int32) → (Nat → Int32) → (Nat → Int32) → (Nat → Int32) → Int32 → Option (Int32 × (Nat → Int32) × (Nat → Int32) × (Nat → Int32) × (Nat → Int32))) : Prop := ∀ (m_fewest : Int32) (m_s : (Nat → Int32)) (m_before : (Nat → Int32)) (m_row : (Nat → Int32)) (m_bestRow : (Nat → Int32)) (v5 : Int32) (H : Heap) (locs : List Loc) (ls : Array Slot), wd D (dn cy LY_X9 ad P V (gp I [(0, 58, m_fewest)]) (gp J []) (gm A [(35, m_s), (37, m_before), (41, m_row), (42, m_bestRow)]) (gm B [])) Af s.heap H locs → lv_has ls 6 [(0, .ref (ad 0)), (5, .int v5)] → k m_fewest m_s m_before m_row m_bestRow v5 = some res → W p l e R s m args below meth c H locs 0 0 (ZQ below D cy (dn cy LY_X9 ad P V (gp I [(0, 58, res.1)]) (gp J []) (gm A [(35, res.2.1), (37, res.2.2.1), (41, res.2.2.2.1), (42, res.2.2.2.2)]) (gm B [])) none Af args s) (F0 m 93 ls [])
def SX9_stocks_64 (p : Program) (l : Launch) (e : Env) (s : State) (m : MethodId) (args : Array Value) (below : List Frame) (meth : Method) (c : Code) (D : va_G) (cy : Nat → ClassId) (ad : Nat → Nat) (P : MP) (V : MV) (I : MI) (J : MJ) (A : MI) (B : MJ) (Af : Nat → Prop) (R : Room) (res : Int32 × (Nat → Int32) × (Nat → Int32) × (Nat → Int32) × (Nat → Int32)) (k : Int32 → (Nat → Int32) → (Nat → Int32) → (Nat → Int32) → (Nat → Int32) → Int32 → Int32 → Option (Int32 × (Nat → Int32) × (Nat → Int32) × (Nat → Int32) × (Nat → Int32))) : Prop := ∀ (m_fewest : Int32) (m_s : (Nat → Int32)) (m_before : (Nat → Int32)) (m_row : (Nat → Int32)) (m_bestRow : (Nat → Int32)) (v2 : Int32) (x0 : Int32) (H : Heap) (locs : List Loc) (ls : Array Slot), wd D (dn cy LY_X9 ad P V (gp I [(0, 58, m_fewest)]) (gp J []) (gm A [(35, m_s), (37, m_before), (41, m_row), (42, m_bestRow)]) (gm B [])) Af s.heap H locs → lv_has ls 6 [(0, .ref (ad 0)), (2, .int v2)] → k m_fewest m_s m_before m_row m_bestRow v2 x0 = some res → W p l e R s m args below meth c H locs 0 0 (ZQ below D cy (dn cy LY_X9 ad P V (gp I [(0, 58, res.1)]) (gp J []) (gm A [(35, res.2.1), (37, res.2.2.1), (41, res.2.2.2.1), (42, res.2.2.2.2)]) (gm B [])) none Af args s) (F0 m 64 ls [.int x0])
def SX9_stocks_133 (p : Program) (l : Launch) (e : Env) (s : State) (m : MethodId) (args : Array Value) (below : List Frame) (meth : Method) (c : Code) (D : va_G) (cy : Nat → ClassId) (ad : Nat → Nat) (P : MP) (V : MV) (I : MI) (J : MJ) (A : MI) (B : MJ) (Af : Nat → Prop) (R : Room) (res : Int32 × (Nat → Int32) × (Nat → Int32) × (Nat → Int32) × (Nat → Int32)) (k : Int32 → (Nat → Int32) → (Nat → Int32) → (Nat → Int32) → (Nat → Int32) → Int32 → Int32 → Int32 → Int32 → Int32 → Option (Int32 × (Nat → Int32) × (Nat → Int32) × (Nat → Int32) × (Nat → Int32))) : Prop := ∀ (m_fewest : Int32) (m_s : (Nat → Int32)) (m_before : (Nat → Int32)) (m_row : (Nat → Int32)) (m_bestRow : (Nat → Int32)) (v1 : Int32) (v2 : Int32) (v3 : Int32) (v4 : Int32) (v5 : Int32) (H : Heap) (locs : List Loc) (ls : Array Slot), wd D (dn cy LY_X9 ad P V (gp I [(0, 58, m_fewest)]) (gp J []) (gm A [(35, m_s), (37, m_before), (41, m_row), (42, m_bestRow)]) (gm B [])) Af s.heap H locs → lv_has ls 6 [(0, .ref (ad 0)), (1, .int v1), (2, .int v2), (3, .int v3), (4, .int v4), (5, .int v5)] → k m_fewest m_s m_before m_row m_bestRow v1 v2 v3 v4 v5 = some res → W p l e R s m args below meth c H locs 0 0 (ZQ below D cy (dn cy LY_X9 ad P V (gp I [(0, 58, res.1)]) (gp J []) (gm A [(35, res.2.1), (37, res.2.2.1), (41, res.2.2.2.1), (42, res.2.2.2.2)]) (gm B [])) none Af args s) (F0 m 133 ls [])
def SX9_stocks_16 (p : Program) (l : Launch) (e : Env) (s : State) (m : MethodId) (args : Array Value) (below : List Frame) (meth : Method) (c : Code) (D : va_G) (cy : Nat → ClassId) (ad : Nat → Nat) (P : MP) (V : MV) (I : MI) (J : MJ) (A : MI) (B : MJ) (Af : Nat → Prop) (R : Room) (res : Int32 × (Nat → Int32) × (Nat → Int32) × (Nat → Int32) × (Nat → Int32)) (k : Int32 → (Nat → Int32) → (Nat → Int32) → (Nat → Int32) → (Nat → Int32) → Int32 → Int32 → Int32 → Option (Int32 × (Nat → Int32) × (Nat → Int32) × (Nat → Int32) × (Nat → Int32))) : Prop := ∀ (m_fewest : Int32) (m_s : (Nat → Int32)) (m_before : (Nat → Int32)) (m_row : (Nat → Int32)) (m_bestRow : (Nat → Int32)) (v1 : Int32) (v2 : Int32) (v3 : Int32) (H : Heap) (locs : List Loc) (ls : Array Slot), wd D (dn cy LY_X9 ad P V (gp I [(0, 58, m_fewest)]) (gp J []) (gm A [(35, m_s), (37, m_before), (41, m_row), (42, m_bestRow)]) (gm B [])) Af s.heap H locs → lv_has ls 6 [(0, .ref (ad 0)), (1, .int v1), (2, .int v2), (3, .int v3)] → k m_fewest m_s m_before m_row m_bestRow v1 v2 v3 = some res → W p l e R s m args below meth c H locs 0 0 (ZQ below D cy (dn cy LY_X9 ad P V (gp I [(0, 58, res.1)]) (gp J []) (gm A [(35, res.2.1), (37, res.2.2.1), (41, res.2.2.2.1), (42, res.2.2.2.2)]) (gm B [])) none Af args s) (F0 m 16 ls [])
def fX9_stocks_93 (m_colder : Int32) (m_terrace : (Nat → Int32)) (m_burns : (Nat → Int32)) (m_kind : (Nat → Int32)) (m_cold : (Nat → Int32)) (self : Int32 → (Nat → Int32) → (Nat → Int32) → (Nat → Int32) → (Nat → Int32) → Int32 → (Nat → Int32) → (Nat → Int32) → (Nat → Int32) → (Nat → Int32) → Int32 → Int32 → Int32 → Option (Int32 × (Nat → Int32) × (Nat → Int32) × (Nat → Int32) × (Nat → Int32))) (k93 : Int32 → (Nat → Int32) → (Nat → Int32) → (Nat → Int32) → (Nat → Int32) → Int32 → Option (Int32 × (Nat → Int32) × (Nat → Int32) × (Nat → Int32) × (Nat → Int32))) (m_fewest : Int32) (m_s : (Nat → Int32)) (m_before : (Nat → Int32)) (m_row : (Nat → Int32)) (m_bestRow : (Nat → Int32)) (v5 : Int32) : Option (Int32 × (Nat → Int32) × (Nat → Int32) × (Nat → Int32) × (Nat → Int32)) := if 5 ≤ v5 then (some (m_fewest, m_s, m_before, m_row, m_bestRow)) else (bif inb v5 5 then (bif inb v5 5 then (k93 m_fewest m_s m_before m_row (upd m_bestRow (Int32.toNatClampNeg v5) (m_row (Int32.toNatClampNeg v5))) (v5 + 1)) else none) else none)
set_option maxHeartbeats 4000000 in
set_option maxRecDepth 100000 in
theorem tX9_stocks_93 {p : Program} {l : Launch} {e : Env} {s : State} {m : MethodId} {args : Array Value} {below : List Frame} {meth : Method} {c : Code} {D : va_G} {cy : Nat → ClassId} {ad : Nat → Nat} {P : MP} {V : MV} {I : MI} {J : MJ} {A : MI} {B : MJ} {Af : Nat → Prop} {R : Room} {res : Int32 × (Nat → Int32) × (Nat → Int32) × (Nat → Int32) × (Nat → Int32)} (C0 : CX p s m args meth c cX9_stocks 6 none RX9) (hK : va_K D vwCl (tyG cy) s) (hN : NWs s) (hA : ∀ q, s.heap.size ≤ q → Af q) {self : Int32 → (Nat → Int32) → (Nat → Int32) → (Nat → Int32) → (Nat → Int32) → Int32 → (Nat → Int32) → (Nat → Int32) → (Nat → Int32) → (Nat → Int32) → Int32 → Int32 → Int32 → Option (Int32 × (Nat → Int32) × (Nat → Int32) × (Nat → Int32) × (Nat → Int32))} {Rs : Room} (hR : Nat.ble 4 R.frames = true ∧ Nat.ble 86 R.locals = true) (hs : Rs.cells = 0 ∧ Rs.slots = 0) (hroom : Nat.ble (Rs.frames + 1) R.frames = true ∧ Nat.ble (8 + (6 + 11) + Rs.locals) R.locals = true) (hself : ∀ (ad : Nat → Nat) (P : MP) (V : MV) (I : MI) (J : MJ) (A : MI) (B : MJ) (v1 : Int32) (v2 : Int32) (v3 : Int32) {res : Int32 × (Nat → Int32) × (Nat → Int32) × (Nat → Int32) × (Nat → Int32)}, self (I 0 54) (A 2) (A 7) (A 9) (A 12) (I 0 58) (A 35) (A 37) (A 41) (A 42) v1 v2 v3 = some res → CG l yX9_stocks cX9_stocks 6 none Rs D cy (dn cy LY_X9 ad P V I J A B) [.ref (ad 0), .int v1, .int v2, .int v3] none (dn cy LY_X9 ad P V (gp I [(0, 58, res.1)]) (gp J []) (gm A [(35, res.2.1), (37, res.2.2.1), (41, res.2.2.2.1), (42, res.2.2.2.2)]) (gm B []))) {k93 : Int32 → (Nat → Int32) → (Nat → Int32) → (Nat → Int32) → (Nat → Int32) → Int32 → Option (Int32 × (Nat → Int32) × (Nat → Int32) × (Nat → Int32) × (Nat → Int32))} (hk93 : SX9_stocks_93 p l e s m args below meth c D cy ad P V I J A B Af R res k93) : SX9_stocks_93 p l e s m args below meth c D cy ad P V I J A B Af R res (fX9_stocks_93 (I 0 54) (A 2) (A 7) (A 9) (A 12) self k93) := by
  intro m_fewest m_s m_before m_row m_bestRow v5 H locs ls hW hl hf
  unfold fX9_stocks_93 at hf
  refine lv_iload C0.1 C0.2.1 dX9_stocks_93 (lv_at hl 1 rfl) ?_
  refine lv_iconst (v := 5) C0.1 C0.2.1 dX9_stocks_95 kI_5 ?_
  refine lv_icmp_ge (tgt := 119) C0.1 C0.2.1 dX9_stocks_96 (by decide) (fun hc1 => ?_) (fun hc1 => ?_)
  · have hf := ite_t hc1 hf
    obtain rfl := Option.some.inj hf
    exact r_void C0 hK hW dX9_stocks_119
  · have hf := ite_f hc1 hf
    refine lv_aload_n C0.1 C0.2.1 dX9_stocks_99 rfl (lv_at hl 0 rfl) ?_
    refine s_get (v := .ref (ad 42)) C0 hK hW 0 57 LY_X9_0 rfl fg_X9_135 rfl dX9_stocks_100 ?_
    refine lv_iload C0.1 C0.2.1 dX9_stocks_103 (lv_at hl 1 rfl) ?_
    refine lv_aload_n C0.1 C0.2.1 dX9_stocks_105 rfl (lv_at hl 0 rfl) ?_
    refine s_get (v := .ref (ad 41)) C0 hK hW 0 56 LY_X9_0 rfl fg_X9_132 rfl dX9_stocks_106 ?_
    refine lv_iload C0.1 C0.2.1 dX9_stocks_109 (lv_at hl 1 rfl) ?_
    obtain ⟨hb2, hf⟩ := g_some hf
    refine s_iald (v := (m_row (Int32.toNatClampNeg v5))) C0 hK hW 41 LY_X9_41 hb2 rfl dX9_stocks_111 ?_
    obtain ⟨hb3, hf⟩ := g_some hf
    refine s_iast (f := (upd m_bestRow (Int32.toNatClampNeg v5) (m_row (Int32.toNatClampNeg v5)))) C0 hK hW 42 LY_X9_42 hb3 rfl rfl dX9_stocks_112 (fun H locs hW => ?_)
    have hW : wd D (dn cy LY_X9 ad P V (gp I [(0, 58, m_fewest)]) (gp J []) (gm A [(35, m_s), (37, m_before), (41, m_row), (42, (upd m_bestRow (Int32.toNatClampNeg v5) (m_row (Int32.toNatClampNeg v5))))]) (gm B [])) Af s.heap H locs := hW
    refine lv_iinc (v := (v5 + 1)) (lv' := [(5, .int (v5 + 1)), (0, .ref (ad 0))]) C0.1 C0.2.1 dX9_stocks_113 hl (k := 1) rfl (congrArg (fun z => _ + z) kI_1) (by decide) rfl (fun ls hl => ?_)
    refine lv_goto (tgt := 93) C0.1 C0.2.1 dX9_stocks_116 (by decide) ?_
    exact hk93 m_fewest m_s m_before m_row (upd m_bestRow (Int32.toNatClampNeg v5) (m_row (Int32.toNatClampNeg v5))) (v5 + 1) H locs ls hW (lv_sub hl [1, 0] rfl) hf
theorem TX9_stocks_93 {p : Program} {l : Launch} {e : Env} {s : State} {m : MethodId} {args : Array Value} {below : List Frame} {meth : Method} {c : Code} {D : va_G} {cy : Nat → ClassId} {ad : Nat → Nat} {P : MP} {V : MV} {I : MI} {J : MJ} {A : MI} {B : MJ} {Af : Nat → Prop} {R : Room} {res : Int32 × (Nat → Int32) × (Nat → Int32) × (Nat → Int32) × (Nat → Int32)} (C0 : CX p s m args meth c cX9_stocks 6 none RX9) (hK : va_K D vwCl (tyG cy) s) (hN : NWs s) (hA : ∀ q, s.heap.size ≤ q → Af q) {self : Int32 → (Nat → Int32) → (Nat → Int32) → (Nat → Int32) → (Nat → Int32) → Int32 → (Nat → Int32) → (Nat → Int32) → (Nat → Int32) → (Nat → Int32) → Int32 → Int32 → Int32 → Option (Int32 × (Nat → Int32) × (Nat → Int32) × (Nat → Int32) × (Nat → Int32))} {Rs : Room} (hR : Nat.ble 4 R.frames = true ∧ Nat.ble 86 R.locals = true) (hs : Rs.cells = 0 ∧ Rs.slots = 0) (hroom : Nat.ble (Rs.frames + 1) R.frames = true ∧ Nat.ble (8 + (6 + 11) + Rs.locals) R.locals = true) (hself : ∀ (ad : Nat → Nat) (P : MP) (V : MV) (I : MI) (J : MJ) (A : MI) (B : MJ) (v1 : Int32) (v2 : Int32) (v3 : Int32) {res : Int32 × (Nat → Int32) × (Nat → Int32) × (Nat → Int32) × (Nat → Int32)}, self (I 0 54) (A 2) (A 7) (A 9) (A 12) (I 0 58) (A 35) (A 37) (A 41) (A 42) v1 v2 v3 = some res → CG l yX9_stocks cX9_stocks 6 none Rs D cy (dn cy LY_X9 ad P V I J A B) [.ref (ad 0), .int v1, .int v2, .int v3] none (dn cy LY_X9 ad P V (gp I [(0, 58, res.1)]) (gp J []) (gm A [(35, res.2.1), (37, res.2.2.1), (41, res.2.2.2.1), (42, res.2.2.2.2)]) (gm B []))) : ∀ n, SX9_stocks_93 p l e s m args below meth c D cy ad P V I J A B Af R res (itr (fun kk => fX9_stocks_93 (I 0 54) (A 2) (A 7) (A 9) (A 12) self kk) (fun _ _ _ _ _ _ => none) n) := by
  intro n
  induction n with
  | zero => intro m_fewest m_s m_before m_row m_bestRow v5 H locs ls hW hl hf; exact (nomatch (show (none : Option (Int32 × (Nat → Int32) × (Nat → Int32) × (Nat → Int32) × (Nat → Int32))) = some res from hf))
  | succ n ih => exact tX9_stocks_93 C0 hK hN hA hR hs hroom hself  ih
def fX9_stocks_64 (m_colder : Int32) (m_terrace : (Nat → Int32)) (m_burns : (Nat → Int32)) (m_kind : (Nat → Int32)) (m_cold : (Nat → Int32)) (self : Int32 → (Nat → Int32) → (Nat → Int32) → (Nat → Int32) → (Nat → Int32) → Int32 → (Nat → Int32) → (Nat → Int32) → (Nat → Int32) → (Nat → Int32) → Int32 → Int32 → Int32 → Option (Int32 × (Nat → Int32) × (Nat → Int32) × (Nat → Int32) × (Nat → Int32))) (m_fewest : Int32) (m_s : (Nat → Int32)) (m_before : (Nat → Int32)) (m_row : (Nat → Int32)) (m_bestRow : (Nat → Int32)) (v2 : Int32) (x0 : Int32) : Option (Int32 × (Nat → Int32) × (Nat → Int32) × (Nat → Int32) × (Nat → Int32)) := Option.bind (fX9_copies 13 13 m_before m_s 0 0) fun y1 => (if x0 = 0 then (some (m_fewest, y1, m_before, m_row, m_bestRow)) else (itr (fun kk => fX9_stocks_93 m_colder m_terrace m_burns m_kind m_cold self kk) (fun _ _ _ _ _ _ => none) FU v2 y1 m_before m_row m_bestRow 0))
set_option maxHeartbeats 4000000 in
set_option maxRecDepth 100000 in
theorem tX9_stocks_64 {p : Program} {l : Launch} {e : Env} {s : State} {m : MethodId} {args : Array Value} {below : List Frame} {meth : Method} {c : Code} {D : va_G} {cy : Nat → ClassId} {ad : Nat → Nat} {P : MP} {V : MV} {I : MI} {J : MJ} {A : MI} {B : MJ} {Af : Nat → Prop} {R : Room} {res : Int32 × (Nat → Int32) × (Nat → Int32) × (Nat → Int32) × (Nat → Int32)} (C0 : CX p s m args meth c cX9_stocks 6 none RX9) (hK : va_K D vwCl (tyG cy) s) (hN : NWs s) (hA : ∀ q, s.heap.size ≤ q → Af q) {self : Int32 → (Nat → Int32) → (Nat → Int32) → (Nat → Int32) → (Nat → Int32) → Int32 → (Nat → Int32) → (Nat → Int32) → (Nat → Int32) → (Nat → Int32) → Int32 → Int32 → Int32 → Option (Int32 × (Nat → Int32) × (Nat → Int32) × (Nat → Int32) × (Nat → Int32))} {Rs : Room} (hR : Nat.ble 4 R.frames = true ∧ Nat.ble 86 R.locals = true) (hs : Rs.cells = 0 ∧ Rs.slots = 0) (hroom : Nat.ble (Rs.frames + 1) R.frames = true ∧ Nat.ble (8 + (6 + 11) + Rs.locals) R.locals = true) (hself : ∀ (ad : Nat → Nat) (P : MP) (V : MV) (I : MI) (J : MJ) (A : MI) (B : MJ) (v1 : Int32) (v2 : Int32) (v3 : Int32) {res : Int32 × (Nat → Int32) × (Nat → Int32) × (Nat → Int32) × (Nat → Int32)}, self (I 0 54) (A 2) (A 7) (A 9) (A 12) (I 0 58) (A 35) (A 37) (A 41) (A 42) v1 v2 v3 = some res → CG l yX9_stocks cX9_stocks 6 none Rs D cy (dn cy LY_X9 ad P V I J A B) [.ref (ad 0), .int v1, .int v2, .int v3] none (dn cy LY_X9 ad P V (gp I [(0, 58, res.1)]) (gp J []) (gm A [(35, res.2.1), (37, res.2.2.1), (41, res.2.2.2.1), (42, res.2.2.2.2)]) (gm B []))) : SX9_stocks_64 p l e s m args below meth c D cy ad P V I J A B Af R res (fX9_stocks_64 (I 0 54) (A 2) (A 7) (A 9) (A 12) self) := by
  intro m_fewest m_s m_before m_row m_bestRow v2 x0 H locs ls hW hl hf
  unfold fX9_stocks_64 at hf
  refine lv_istore (lv' := [(4, .int x0), (0, .ref (ad 0)), (2, .int v2)]) C0.1 C0.2.1 dX9_stocks_64 hl (by decide) rfl (fun ls hl => ?_)
  refine lv_aload_n C0.1 C0.2.1 dX9_stocks_66 rfl (lv_at hl 1 rfl) ?_
  refine s_get (v := .ref (ad 37)) C0 hK hW 0 49 LY_X9_0 rfl fg_X9_120 rfl dX9_stocks_67 ?_
  refine lv_iconst (v := 0) C0.1 C0.2.1 dX9_stocks_70 kI_0 ?_
  refine lv_aload_n C0.1 C0.2.1 dX9_stocks_71 rfl (lv_at hl 1 rfl) ?_
  refine s_get (v := .ref (ad 35)) C0 hK hW 0 47 LY_X9_0 rfl fg_X9_114 rfl dX9_stocks_72 ?_
  refine lv_iconst (v := 0) C0.1 C0.2.1 dX9_stocks_75 kI_0 ?_
  obtain ⟨y1, hy1, hf⟩ := b_some hf
  refine c_Sv C0 hK hN hl.1 hW hA (KX9_copies l D cy 13 13 (fun q => ad (pl_LY_X9_LY_aIaI_37_35.getD q 0)) (fun q => P (pl_LY_X9_LY_aIaI_37_35.getD q 0)) (fun q => Vx LY_X9 ad V (pl_LY_X9_LY_aIaI_37_35.getD q 0)) (fun q => gp I [(0, 58, m_fewest)] (pl_LY_X9_LY_aIaI_37_35.getD q 0)) (fun q => gp J [] (pl_LY_X9_LY_aIaI_37_35.getD q 0)) (fun q => gm A [(35, m_s), (37, m_before), (41, m_row), (42, m_bestRow)] (pl_LY_X9_LY_aIaI_37_35.getD q 0)) (fun q => gm B [] (pl_LY_X9_LY_aIaI_37_35.getD q 0)) 0 0 hy1) (JN_subC (pl := pl_LY_X9_LY_aIaI_37_35) sb_LY_X9_LY_aIaI_37_35 rfl rfl rfl rfl rfl rfl rfl rfl rfl) ⟨uw_1495, uw_1496, uw_14, uw_1497⟩ rfl rfl hd_X9_copies (rm_le hR rfl rfl) rfl rfl rfl dX9_stocks_76 ⟨Nat.zero_le _, Nat.zero_le _⟩ (fun H locs hW => ?_)
  have hW : wd D (dn cy LY_X9 ad P V (gp I [(0, 58, m_fewest)]) (gp J []) (gm A [(35, y1), (37, m_before), (41, m_row), (42, m_bestRow)]) (gm B [])) Af s.heap H locs := hW
  refine lv_iload C0.1 C0.2.1 dX9_stocks_79 (lv_at hl 0 rfl) ?_
  refine lv_if_ne (tgt := 85) C0.1 C0.2.1 dX9_stocks_81 (by decide) (fun hc2 => ?_) (fun hc2 => ?_)
  · have hf := ite_f hc2 hf
    refine lv_aload_n C0.1 C0.2.1 dX9_stocks_85 rfl (lv_at hl 1 rfl) ?_
    refine lv_iload_n C0.1 C0.2.1 dX9_stocks_86 rfl (lv_at hl 2 rfl) ?_
    refine s_putI C0 hK hW 0 58 LY_X9_0 rfl fg_X9_446 fp_X9_58 rfl dX9_stocks_87 (fun H locs hW => ?_)
    have hW : wd D (dn cy LY_X9 ad P V (gp I [(0, 58, v2)]) (gp J []) (gm A [(35, y1), (37, m_before), (41, m_row), (42, m_bestRow)]) (gm B [])) Af s.heap H locs := hW
    refine lv_iconst (v := 0) C0.1 C0.2.1 dX9_stocks_90 kI_0 ?_
    refine lv_istore (lv' := [(5, .int 0), (4, .int x0), (0, .ref (ad 0)), (2, .int v2)]) C0.1 C0.2.1 dX9_stocks_91 hl (by decide) rfl (fun ls hl => ?_)
    exact TX9_stocks_93 C0 hK hN hA hR hs hroom hself  FU v2 y1 m_before m_row m_bestRow 0 H locs ls hW (lv_sub hl [2, 0] rfl) hf
  · have hf := ite_t hc2 hf
    obtain rfl := Option.some.inj hf
    exact r_void C0 hK hW dX9_stocks_84
def fX9_stocks_133 (m_colder : Int32) (m_terrace : (Nat → Int32)) (m_burns : (Nat → Int32)) (m_kind : (Nat → Int32)) (m_cold : (Nat → Int32)) (self : Int32 → (Nat → Int32) → (Nat → Int32) → (Nat → Int32) → (Nat → Int32) → Int32 → (Nat → Int32) → (Nat → Int32) → (Nat → Int32) → (Nat → Int32) → Int32 → Int32 → Int32 → Option (Int32 × (Nat → Int32) × (Nat → Int32) × (Nat → Int32) × (Nat → Int32))) (k133 : Int32 → (Nat → Int32) → (Nat → Int32) → (Nat → Int32) → (Nat → Int32) → Int32 → Int32 → Int32 → Int32 → Int32 → Option (Int32 × (Nat → Int32) × (Nat → Int32) × (Nat → Int32) × (Nat → Int32))) (m_fewest : Int32) (m_s : (Nat → Int32)) (m_before : (Nat → Int32)) (m_row : (Nat → Int32)) (m_bestRow : (Nat → Int32)) (v1 : Int32) (v2 : Int32) (v3 : Int32) (v4 : Int32) (v5 : Int32) : Option (Int32 × (Nat → Int32) × (Nat → Int32) × (Nat → Int32) × (Nat → Int32)) := if 4 ≤ v5 then (bif inb (3 + v1) 13 then (some (m_fewest, (upd m_s (Int32.toNatClampNeg (3 + v1)) v4), m_before, m_row, m_bestRow)) else none) else (bif inb v1 5 then (bif inb (3 + v1) 13 then (Option.bind (self m_colder m_terrace m_burns m_kind m_cold m_fewest (upd m_s (Int32.toNatClampNeg (3 + v1)) (imin 99 (v4 + (v5 * (m_terrace 2))))) m_before (upd m_row (Int32.toNatClampNeg v1) v5) m_bestRow (v1 + 1) (v2 + v5) v3) fun y5 => (k133 y5.1 y5.2.1 y5.2.2.1 y5.2.2.2.1 y5.2.2.2.2 v1 v2 v3 v4 (v5 + 1))) else none) else none)
set_option maxHeartbeats 4000000 in
set_option maxRecDepth 100000 in
theorem tX9_stocks_133 {p : Program} {l : Launch} {e : Env} {s : State} {m : MethodId} {args : Array Value} {below : List Frame} {meth : Method} {c : Code} {D : va_G} {cy : Nat → ClassId} {ad : Nat → Nat} {P : MP} {V : MV} {I : MI} {J : MJ} {A : MI} {B : MJ} {Af : Nat → Prop} {R : Room} {res : Int32 × (Nat → Int32) × (Nat → Int32) × (Nat → Int32) × (Nat → Int32)} (C0 : CX p s m args meth c cX9_stocks 6 none RX9) (hK : va_K D vwCl (tyG cy) s) (hN : NWs s) (hA : ∀ q, s.heap.size ≤ q → Af q) {self : Int32 → (Nat → Int32) → (Nat → Int32) → (Nat → Int32) → (Nat → Int32) → Int32 → (Nat → Int32) → (Nat → Int32) → (Nat → Int32) → (Nat → Int32) → Int32 → Int32 → Int32 → Option (Int32 × (Nat → Int32) × (Nat → Int32) × (Nat → Int32) × (Nat → Int32))} {Rs : Room} (hR : Nat.ble 4 R.frames = true ∧ Nat.ble 86 R.locals = true) (hs : Rs.cells = 0 ∧ Rs.slots = 0) (hroom : Nat.ble (Rs.frames + 1) R.frames = true ∧ Nat.ble (8 + (6 + 11) + Rs.locals) R.locals = true) (hself : ∀ (ad : Nat → Nat) (P : MP) (V : MV) (I : MI) (J : MJ) (A : MI) (B : MJ) (v1 : Int32) (v2 : Int32) (v3 : Int32) {res : Int32 × (Nat → Int32) × (Nat → Int32) × (Nat → Int32) × (Nat → Int32)}, self (I 0 54) (A 2) (A 7) (A 9) (A 12) (I 0 58) (A 35) (A 37) (A 41) (A 42) v1 v2 v3 = some res → CG l yX9_stocks cX9_stocks 6 none Rs D cy (dn cy LY_X9 ad P V I J A B) [.ref (ad 0), .int v1, .int v2, .int v3] none (dn cy LY_X9 ad P V (gp I [(0, 58, res.1)]) (gp J []) (gm A [(35, res.2.1), (37, res.2.2.1), (41, res.2.2.2.1), (42, res.2.2.2.2)]) (gm B []))) {k133 : Int32 → (Nat → Int32) → (Nat → Int32) → (Nat → Int32) → (Nat → Int32) → Int32 → Int32 → Int32 → Int32 → Int32 → Option (Int32 × (Nat → Int32) × (Nat → Int32) × (Nat → Int32) × (Nat → Int32))} (hk133 : SX9_stocks_133 p l e s m args below meth c D cy ad P V I J A B Af R res k133) : SX9_stocks_133 p l e s m args below meth c D cy ad P V I J A B Af R res (fX9_stocks_133 (I 0 54) (A 2) (A 7) (A 9) (A 12) self k133) := by
  intro m_fewest m_s m_before m_row m_bestRow v1 v2 v3 v4 v5 H locs ls hW hl hf
  unfold fX9_stocks_133 at hf
  refine lv_iload C0.1 C0.2.1 dX9_stocks_133 (lv_at hl 5 rfl) ?_
  refine lv_iconst (v := 4) C0.1 C0.2.1 dX9_stocks_135 kI_4 ?_
  refine lv_icmp_ge (tgt := 190) C0.1 C0.2.1 dX9_stocks_136 (by decide) (fun hc1 => ?_) (fun hc1 => ?_)
  · have hf := ite_t hc1 hf
    refine lv_aload_n C0.1 C0.2.1 dX9_stocks_190 rfl (lv_at hl 0 rfl) ?_
    refine s_get (v := .ref (ad 35)) C0 hK hW 0 47 LY_X9_0 rfl fg_X9_114 rfl dX9_stocks_191 ?_
    refine lv_iconst (v := 3) C0.1 C0.2.1 dX9_stocks_194 kI_3 ?_
    refine lv_iload_n C0.1 C0.2.1 dX9_stocks_195 rfl (lv_at hl 1 rfl) ?_
    refine lv_iadd C0.1 C0.2.1 dX9_stocks_196 ?_
    refine lv_iload C0.1 C0.2.1 dX9_stocks_197 (lv_at hl 4 rfl) ?_
    obtain ⟨hb2, hf⟩ := g_some hf
    refine s_iast (f := (upd m_s (Int32.toNatClampNeg (3 + v1)) v4)) C0 hK hW 35 LY_X9_35 hb2 rfl rfl dX9_stocks_199 (fun H locs hW => ?_)
    have hW : wd D (dn cy LY_X9 ad P V (gp I [(0, 58, m_fewest)]) (gp J []) (gm A [(35, (upd m_s (Int32.toNatClampNeg (3 + v1)) v4)), (37, m_before), (41, m_row), (42, m_bestRow)]) (gm B [])) Af s.heap H locs := hW
    obtain rfl := Option.some.inj hf
    exact r_void C0 hK hW dX9_stocks_200
  · have hf := ite_f hc1 hf
    refine lv_aload_n C0.1 C0.2.1 dX9_stocks_139 rfl (lv_at hl 0 rfl) ?_
    refine s_get (v := .ref (ad 41)) C0 hK hW 0 56 LY_X9_0 rfl fg_X9_132 rfl dX9_stocks_140 ?_
    refine lv_iload_n C0.1 C0.2.1 dX9_stocks_143 rfl (lv_at hl 1 rfl) ?_
    refine lv_iload C0.1 C0.2.1 dX9_stocks_144 (lv_at hl 5 rfl) ?_
    obtain ⟨hb3, hf⟩ := g_some hf
    refine s_iast (f := (upd m_row (Int32.toNatClampNeg v1) v5)) C0 hK hW 41 LY_X9_41 hb3 rfl rfl dX9_stocks_146 (fun H locs hW => ?_)
    have hW : wd D (dn cy LY_X9 ad P V (gp I [(0, 58, m_fewest)]) (gp J []) (gm A [(35, m_s), (37, m_before), (41, (upd m_row (Int32.toNatClampNeg v1) v5)), (42, m_bestRow)]) (gm B [])) Af s.heap H locs := hW
    refine lv_aload_n C0.1 C0.2.1 dX9_stocks_147 rfl (lv_at hl 0 rfl) ?_
    refine s_get (v := .ref (ad 35)) C0 hK hW 0 47 LY_X9_0 rfl fg_X9_114 rfl dX9_stocks_148 ?_
    refine lv_iconst (v := 3) C0.1 C0.2.1 dX9_stocks_151 kI_3 ?_
    refine lv_iload_n C0.1 C0.2.1 dX9_stocks_152 rfl (lv_at hl 1 rfl) ?_
    refine lv_iadd C0.1 C0.2.1 dX9_stocks_153 ?_
    refine lv_bipush (v := 99) C0.1 C0.2.1 dX9_stocks_154 kB_99 ?_
    refine lv_iload C0.1 C0.2.1 dX9_stocks_156 (lv_at hl 4 rfl) ?_
    refine lv_iload C0.1 C0.2.1 dX9_stocks_158 (lv_at hl 5 rfl) ?_
    refine lv_aload_n C0.1 C0.2.1 dX9_stocks_160 rfl (lv_at hl 0 rfl) ?_
    refine s_get (v := .ref (ad 2)) C0 hK hW 0 10 LY_X9_0 rfl fg_X9_13 rfl dX9_stocks_161 ?_
    refine lv_iconst (v := 2) C0.1 C0.2.1 dX9_stocks_164 kI_2 ?_
    refine s_iald (v := ((A 2) 2)) C0 hK hW 2 LY_X9_2 rfl (congrArg _ tc_2) dX9_stocks_165 ?_
    refine lv_imul C0.1 C0.2.1 dX9_stocks_166 ?_
    refine lv_iadd C0.1 C0.2.1 dX9_stocks_167 ?_
    refine s_min C0 hl.1 uw_1518 uw_700 uw_16 uw_701 (rm_f hR rfl) (rm_l hR rfl) (Nat.zero_le _) (Nat.zero_le _) dX9_stocks_168 ?_
    obtain ⟨hb4, hf⟩ := g_some hf
    refine s_iast (f := (upd m_s (Int32.toNatClampNeg (3 + v1)) (imin 99 (v4 + (v5 * ((A 2) 2)))))) C0 hK hW 35 LY_X9_35 hb4 rfl rfl dX9_stocks_171 (fun H locs hW => ?_)
    have hW : wd D (dn cy LY_X9 ad P V (gp I [(0, 58, m_fewest)]) (gp J []) (gm A [(35, (upd m_s (Int32.toNatClampNeg (3 + v1)) (imin 99 (v4 + (v5 * ((A 2) 2)))))), (37, m_before), (41, (upd m_row (Int32.toNatClampNeg v1) v5)), (42, m_bestRow)]) (gm B [])) Af s.heap H locs := hW
    refine lv_aload_n C0.1 C0.2.1 dX9_stocks_172 rfl (lv_at hl 0 rfl) ?_
    refine lv_iload_n C0.1 C0.2.1 dX9_stocks_173 rfl (lv_at hl 1 rfl) ?_
    refine lv_iconst (v := 1) C0.1 C0.2.1 dX9_stocks_174 kI_1 ?_
    refine lv_iadd C0.1 C0.2.1 dX9_stocks_175 ?_
    refine lv_iload_n C0.1 C0.2.1 dX9_stocks_176 rfl (lv_at hl 2 rfl) ?_
    refine lv_iload C0.1 C0.2.1 dX9_stocks_177 (lv_at hl 5 rfl) ?_
    refine lv_iadd C0.1 C0.2.1 dX9_stocks_179 ?_
    refine lv_iload_n C0.1 C0.2.1 dX9_stocks_180 rfl (lv_at hl 3 rfl) ?_
    obtain ⟨y5, hy5, hf⟩ := b_some hf
    refine c_Vv C0 hK hN hl.1 hW hA (hself ad P V (gp I [(0, 58, m_fewest)]) (gp J []) (gm A [(35, (upd m_s (Int32.toNatClampNeg (3 + v1)) (imin 99 (v4 + (v5 * ((A 2) 2)))))), (37, m_before), (41, (upd m_row (Int32.toNatClampNeg v1) v5)), (42, m_bestRow)]) (gm B []) (v1 + 1) (v2 + v5) v3 hy5) (JN_id rfl rfl rfl rfl) (Uw_V uw_1568 uw_1570 us_89 uw_14 uw_1571) hs.1 hs.2 hd_X9_stocks hroom rfl (dn_some LY_X9_0) rfl rfl rfl dX9_stocks_181 ⟨Nat.zero_le _, Nat.zero_le _⟩ (fun H locs hW => ?_)
    have hW : wd D (dn cy LY_X9 ad P V (gp I [(0, 58, y5.1)]) (gp J []) (gm A [(35, y5.2.1), (37, y5.2.2.1), (41, y5.2.2.2.1), (42, y5.2.2.2.2)]) (gm B [])) Af s.heap H locs := hW
    refine lv_iinc (v := (v5 + 1)) (lv' := [(5, .int (v5 + 1)), (0, .ref (ad 0)), (1, .int v1), (2, .int v2), (3, .int v3), (4, .int v4)]) C0.1 C0.2.1 dX9_stocks_184 hl (k := 5) rfl (congrArg (fun z => _ + z) kI_1) (by decide) rfl (fun ls hl => ?_)
    refine lv_goto (tgt := 133) C0.1 C0.2.1 dX9_stocks_187 (by decide) ?_
    exact hk133 y5.1 y5.2.1 y5.2.2.1 y5.2.2.2.1 y5.2.2.2.2 v1 v2 v3 v4 (v5 + 1) H locs ls hW (lv_sub hl [1, 2, 3, 4, 5, 0] rfl) hf
theorem TX9_stocks_133 {p : Program} {l : Launch} {e : Env} {s : State} {m : MethodId} {args : Array Value} {below : List Frame} {meth : Method} {c : Code} {D : va_G} {cy : Nat → ClassId} {ad : Nat → Nat} {P : MP} {V : MV} {I : MI} {J : MJ} {A : MI} {B : MJ} {Af : Nat → Prop} {R : Room} {res : Int32 × (Nat → Int32) × (Nat → Int32) × (Nat → Int32) × (Nat → Int32)} (C0 : CX p s m args meth c cX9_stocks 6 none RX9) (hK : va_K D vwCl (tyG cy) s) (hN : NWs s) (hA : ∀ q, s.heap.size ≤ q → Af q) {self : Int32 → (Nat → Int32) → (Nat → Int32) → (Nat → Int32) → (Nat → Int32) → Int32 → (Nat → Int32) → (Nat → Int32) → (Nat → Int32) → (Nat → Int32) → Int32 → Int32 → Int32 → Option (Int32 × (Nat → Int32) × (Nat → Int32) × (Nat → Int32) × (Nat → Int32))} {Rs : Room} (hR : Nat.ble 4 R.frames = true ∧ Nat.ble 86 R.locals = true) (hs : Rs.cells = 0 ∧ Rs.slots = 0) (hroom : Nat.ble (Rs.frames + 1) R.frames = true ∧ Nat.ble (8 + (6 + 11) + Rs.locals) R.locals = true) (hself : ∀ (ad : Nat → Nat) (P : MP) (V : MV) (I : MI) (J : MJ) (A : MI) (B : MJ) (v1 : Int32) (v2 : Int32) (v3 : Int32) {res : Int32 × (Nat → Int32) × (Nat → Int32) × (Nat → Int32) × (Nat → Int32)}, self (I 0 54) (A 2) (A 7) (A 9) (A 12) (I 0 58) (A 35) (A 37) (A 41) (A 42) v1 v2 v3 = some res → CG l yX9_stocks cX9_stocks 6 none Rs D cy (dn cy LY_X9 ad P V I J A B) [.ref (ad 0), .int v1, .int v2, .int v3] none (dn cy LY_X9 ad P V (gp I [(0, 58, res.1)]) (gp J []) (gm A [(35, res.2.1), (37, res.2.2.1), (41, res.2.2.2.1), (42, res.2.2.2.2)]) (gm B []))) : ∀ n, SX9_stocks_133 p l e s m args below meth c D cy ad P V I J A B Af R res (itr (fun kk => fX9_stocks_133 (I 0 54) (A 2) (A 7) (A 9) (A 12) self kk) (fun _ _ _ _ _ _ _ _ _ _ => none) n) := by
  intro n
  induction n with
  | zero => intro m_fewest m_s m_before m_row m_bestRow v1 v2 v3 v4 v5 H locs ls hW hl hf; exact (nomatch (show (none : Option (Int32 × (Nat → Int32) × (Nat → Int32) × (Nat → Int32) × (Nat → Int32))) = some res from hf))
  | succ n ih => exact tX9_stocks_133 C0 hK hN hA hR hs hroom hself  ih
def fX9_stocks_16 (m_colder : Int32) (m_terrace : (Nat → Int32)) (m_burns : (Nat → Int32)) (m_kind : (Nat → Int32)) (m_cold : (Nat → Int32)) (self : Int32 → (Nat → Int32) → (Nat → Int32) → (Nat → Int32) → (Nat → Int32) → Int32 → (Nat → Int32) → (Nat → Int32) → (Nat → Int32) → (Nat → Int32) → Int32 → Int32 → Int32 → Option (Int32 × (Nat → Int32) × (Nat → Int32) × (Nat → Int32) × (Nat → Int32))) (m_fewest : Int32) (m_s : (Nat → Int32)) (m_before : (Nat → Int32)) (m_row : (Nat → Int32)) (m_bestRow : (Nat → Int32)) (v1 : Int32) (v2 : Int32) (v3 : Int32) : Option (Int32 × (Nat → Int32) × (Nat → Int32) × (Nat → Int32) × (Nat → Int32)) := if v1 = (m_terrace 0) then (Option.bind (fX9_copies 13 13 m_s m_before 0 0) fun y3 => (Option.bind (fX9_goesOn m_colder m_terrace m_burns m_kind m_cold m_s v3) fun y4 => (if (y4 1) = (y3 1) then (fX9_stocks_64 m_colder m_terrace m_burns m_kind m_cold self m_fewest y4 y3 m_row m_bestRow v2 1) else (fX9_stocks_64 m_colder m_terrace m_burns m_kind m_cold self m_fewest y4 y3 m_row m_bestRow v2 0)))) else (bif inb (3 + v1) 13 then (itr (fun kk => fX9_stocks_133 m_colder m_terrace m_burns m_kind m_cold self kk) (fun _ _ _ _ _ _ _ _ _ _ => none) FU m_fewest m_s m_before m_row m_bestRow v1 v2 v3 (m_s (Int32.toNatClampNeg (3 + v1))) 0) else none)
set_option maxHeartbeats 4000000 in
set_option maxRecDepth 100000 in
theorem tX9_stocks_16 {p : Program} {l : Launch} {e : Env} {s : State} {m : MethodId} {args : Array Value} {below : List Frame} {meth : Method} {c : Code} {D : va_G} {cy : Nat → ClassId} {ad : Nat → Nat} {P : MP} {V : MV} {I : MI} {J : MJ} {A : MI} {B : MJ} {Af : Nat → Prop} {R : Room} {res : Int32 × (Nat → Int32) × (Nat → Int32) × (Nat → Int32) × (Nat → Int32)} (C0 : CX p s m args meth c cX9_stocks 6 none RX9) (hK : va_K D vwCl (tyG cy) s) (hN : NWs s) (hA : ∀ q, s.heap.size ≤ q → Af q) {self : Int32 → (Nat → Int32) → (Nat → Int32) → (Nat → Int32) → (Nat → Int32) → Int32 → (Nat → Int32) → (Nat → Int32) → (Nat → Int32) → (Nat → Int32) → Int32 → Int32 → Int32 → Option (Int32 × (Nat → Int32) × (Nat → Int32) × (Nat → Int32) × (Nat → Int32))} {Rs : Room} (hR : Nat.ble 4 R.frames = true ∧ Nat.ble 86 R.locals = true) (hs : Rs.cells = 0 ∧ Rs.slots = 0) (hroom : Nat.ble (Rs.frames + 1) R.frames = true ∧ Nat.ble (8 + (6 + 11) + Rs.locals) R.locals = true) (hself : ∀ (ad : Nat → Nat) (P : MP) (V : MV) (I : MI) (J : MJ) (A : MI) (B : MJ) (v1 : Int32) (v2 : Int32) (v3 : Int32) {res : Int32 × (Nat → Int32) × (Nat → Int32) × (Nat → Int32) × (Nat → Int32)}, self (I 0 54) (A 2) (A 7) (A 9) (A 12) (I 0 58) (A 35) (A 37) (A 41) (A 42) v1 v2 v3 = some res → CG l yX9_stocks cX9_stocks 6 none Rs D cy (dn cy LY_X9 ad P V I J A B) [.ref (ad 0), .int v1, .int v2, .int v3] none (dn cy LY_X9 ad P V (gp I [(0, 58, res.1)]) (gp J []) (gm A [(35, res.2.1), (37, res.2.2.1), (41, res.2.2.2.1), (42, res.2.2.2.2)]) (gm B []))) : SX9_stocks_16 p l e s m args below meth c D cy ad P V I J A B Af R res (fX9_stocks_16 (I 0 54) (A 2) (A 7) (A 9) (A 12) self) := by
  intro m_fewest m_s m_before m_row m_bestRow v1 v2 v3 H locs ls hW hl hf
  unfold fX9_stocks_16 at hf
  refine lv_iload_n C0.1 C0.2.1 dX9_stocks_16 rfl (lv_at hl 1 rfl) ?_
  refine lv_aload_n C0.1 C0.2.1 dX9_stocks_17 rfl (lv_at hl 0 rfl) ?_
  refine s_get (v := .ref (ad 2)) C0 hK hW 0 10 LY_X9_0 rfl fg_X9_13 rfl dX9_stocks_18 ?_
  refine lv_iconst (v := 0) C0.1 C0.2.1 dX9_stocks_21 kI_0 ?_
  refine s_iald (v := ((A 2) 0)) C0 hK hW 2 LY_X9_2 rfl (congrArg _ tc_0) dX9_stocks_22 ?_
  refine lv_icmp_ne (tgt := 120) C0.1 C0.2.1 dX9_stocks_23 (by decide) (fun hc1 => ?_) (fun hc1 => ?_)
  · have hf := ite_f hc1 hf
    refine lv_aload_n C0.1 C0.2.1 dX9_stocks_120 rfl (lv_at hl 0 rfl) ?_
    refine s_get (v := .ref (ad 35)) C0 hK hW 0 47 LY_X9_0 rfl fg_X9_114 rfl dX9_stocks_121 ?_
    refine lv_iconst (v := 3) C0.1 C0.2.1 dX9_stocks_124 kI_3 ?_
    refine lv_iload_n C0.1 C0.2.1 dX9_stocks_125 rfl (lv_at hl 1 rfl) ?_
    refine lv_iadd C0.1 C0.2.1 dX9_stocks_126 ?_
    obtain ⟨hb2, hf⟩ := g_some hf
    refine s_iald (v := (m_s (Int32.toNatClampNeg (3 + v1)))) C0 hK hW 35 LY_X9_35 hb2 rfl dX9_stocks_127 ?_
    refine lv_istore (lv' := [(4, .int (m_s (Int32.toNatClampNeg (3 + v1)))), (0, .ref (ad 0)), (1, .int v1), (2, .int v2), (3, .int v3)]) C0.1 C0.2.1 dX9_stocks_128 hl (by decide) rfl (fun ls hl => ?_)
    refine lv_iconst (v := 0) C0.1 C0.2.1 dX9_stocks_130 kI_0 ?_
    refine lv_istore (lv' := [(5, .int 0), (4, .int (m_s (Int32.toNatClampNeg (3 + v1)))), (0, .ref (ad 0)), (1, .int v1), (2, .int v2), (3, .int v3)]) C0.1 C0.2.1 dX9_stocks_131 hl (by decide) rfl (fun ls hl => ?_)
    exact TX9_stocks_133 C0 hK hN hA hR hs hroom hself  FU m_fewest m_s m_before m_row m_bestRow v1 v2 v3 (m_s (Int32.toNatClampNeg (3 + v1))) 0 H locs ls hW (lv_sub hl [2, 3, 4, 5, 1, 0] rfl) hf
  · have hf := ite_t hc1 hf
    refine lv_aload_n C0.1 C0.2.1 dX9_stocks_26 rfl (lv_at hl 0 rfl) ?_
    refine s_get (v := .ref (ad 35)) C0 hK hW 0 47 LY_X9_0 rfl fg_X9_114 rfl dX9_stocks_27 ?_
    refine lv_iconst (v := 0) C0.1 C0.2.1 dX9_stocks_30 kI_0 ?_
    refine lv_aload_n C0.1 C0.2.1 dX9_stocks_31 rfl (lv_at hl 0 rfl) ?_
    refine s_get (v := .ref (ad 37)) C0 hK hW 0 49 LY_X9_0 rfl fg_X9_120 rfl dX9_stocks_32 ?_
    refine lv_iconst (v := 0) C0.1 C0.2.1 dX9_stocks_35 kI_0 ?_
    obtain ⟨y3, hy3, hf⟩ := b_some hf
    refine c_Sv C0 hK hN hl.1 hW hA (KX9_copies l D cy 13 13 (fun q => ad (pl_LY_X9_LY_aIaI_35_37.getD q 0)) (fun q => P (pl_LY_X9_LY_aIaI_35_37.getD q 0)) (fun q => Vx LY_X9 ad V (pl_LY_X9_LY_aIaI_35_37.getD q 0)) (fun q => gp I [(0, 58, m_fewest)] (pl_LY_X9_LY_aIaI_35_37.getD q 0)) (fun q => gp J [] (pl_LY_X9_LY_aIaI_35_37.getD q 0)) (fun q => gm A [(35, m_s), (37, m_before), (41, m_row), (42, m_bestRow)] (pl_LY_X9_LY_aIaI_35_37.getD q 0)) (fun q => gm B [] (pl_LY_X9_LY_aIaI_35_37.getD q 0)) 0 0 hy3) (JN_subC (pl := pl_LY_X9_LY_aIaI_35_37) sb_LY_X9_LY_aIaI_35_37 rfl rfl rfl rfl rfl rfl rfl rfl rfl) ⟨uw_1495, uw_1496, uw_14, uw_1497⟩ rfl rfl hd_X9_copies (rm_le hR rfl rfl) rfl rfl rfl dX9_stocks_36 ⟨Nat.zero_le _, Nat.zero_le _⟩ (fun H locs hW => ?_)
    have hW : wd D (dn cy LY_X9 ad P V (gp I [(0, 58, m_fewest)]) (gp J []) (gm A [(35, m_s), (37, y3), (41, m_row), (42, m_bestRow)]) (gm B [])) Af s.heap H locs := hW
    refine lv_aload_n C0.1 C0.2.1 dX9_stocks_39 rfl (lv_at hl 0 rfl) ?_
    refine lv_iload_n C0.1 C0.2.1 dX9_stocks_40 rfl (lv_at hl 3 rfl) ?_
    obtain ⟨y4, hy4, hf⟩ := b_some hf
    refine c_Vv C0 hK hN hl.1 hW hA (KX9_goesOn l D cy  ad P V (gp I [(0, 58, m_fewest)]) (gp J []) (gm A [(35, m_s), (37, y3), (41, m_row), (42, m_bestRow)]) (gm B []) v3 hy4) (JN_id rfl rfl rfl rfl) (Uw_V uw_1572 uw_1574 us_90 uw_14 uw_1575) rfl rfl hd_X9_goesOn (rm_le hR rfl rfl) rfl (dn_some LY_X9_0) rfl rfl rfl dX9_stocks_41 ⟨Nat.zero_le _, Nat.zero_le _⟩ (fun H locs hW => ?_)
    have hW : wd D (dn cy LY_X9 ad P V (gp I [(0, 58, m_fewest)]) (gp J []) (gm A [(35, y4), (37, y3), (41, m_row), (42, m_bestRow)]) (gm B [])) Af s.heap H locs := hW
    refine lv_aload_n C0.1 C0.2.1 dX9_stocks_44 rfl (lv_at hl 0 rfl) ?_
    refine s_get (v := .ref (ad 35)) C0 hK hW 0 47 LY_X9_0 rfl fg_X9_114 rfl dX9_stocks_45 ?_
    refine lv_iconst (v := 1) C0.1 C0.2.1 dX9_stocks_48 kI_1 ?_
    refine s_iald (v := (y4 1)) C0 hK hW 35 LY_X9_35 rfl (congrArg _ tc_1) dX9_stocks_49 ?_
    refine lv_aload_n C0.1 C0.2.1 dX9_stocks_50 rfl (lv_at hl 0 rfl) ?_
    refine s_get (v := .ref (ad 37)) C0 hK hW 0 49 LY_X9_0 rfl fg_X9_120 rfl dX9_stocks_51 ?_
    refine lv_iconst (v := 1) C0.1 C0.2.1 dX9_stocks_54 kI_1 ?_
    refine s_iald (v := (y3 1)) C0 hK hW 37 LY_X9_37 rfl (congrArg _ tc_1) dX9_stocks_55 ?_
    refine lv_icmp_ne (tgt := 63) C0.1 C0.2.1 dX9_stocks_56 (by decide) (fun hc5 => ?_) (fun hc5 => ?_)
    · have hf := ite_f hc5 hf
      refine lv_iconst (v := 0) C0.1 C0.2.1 dX9_stocks_63 kI_0 ?_
      exact tX9_stocks_64 C0 hK hN hA hR hs hroom hself  m_fewest y4 y3 m_row m_bestRow v2 0 H locs ls hW (lv_sub hl [0, 2] rfl) hf
    · have hf := ite_t hc5 hf
      refine lv_iconst (v := 1) C0.1 C0.2.1 dX9_stocks_59 kI_1 ?_
      refine lv_goto (tgt := 64) C0.1 C0.2.1 dX9_stocks_60 (by decide) ?_
      exact tX9_stocks_64 C0 hK hN hA hR hs hroom hself  m_fewest y4 y3 m_row m_bestRow v2 1 H locs ls hW (lv_sub hl [0, 2] rfl) hf
def FX9_stocks (self : Int32 → (Nat → Int32) → (Nat → Int32) → (Nat → Int32) → (Nat → Int32) → Int32 → (Nat → Int32) → (Nat → Int32) → (Nat → Int32) → (Nat → Int32) → Int32 → Int32 → Int32 → Option (Int32 × (Nat → Int32) × (Nat → Int32) × (Nat → Int32) × (Nat → Int32))) (m_colder : Int32) (m_terrace : (Nat → Int32)) (m_burns : (Nat → Int32)) (m_kind : (Nat → Int32)) (m_cold : (Nat → Int32)) (m_fewest : Int32) (m_s : (Nat → Int32)) (m_before : (Nat → Int32)) (m_row : (Nat → Int32)) (m_bestRow : (Nat → Int32)) (v1 : Int32) (v2 : Int32) (v3 : Int32) : Option (Int32 × (Nat → Int32) × (Nat → Int32) × (Nat → Int32) × (Nat → Int32)) := if m_fewest < 0 then (fX9_stocks_16 m_colder m_terrace m_burns m_kind m_cold self m_fewest m_s m_before m_row m_bestRow v1 v2 v3) else (if v2 < m_fewest then (fX9_stocks_16 m_colder m_terrace m_burns m_kind m_cold self m_fewest m_s m_before m_row m_bestRow v1 v2 v3) else (some (m_fewest, m_s, m_before, m_row, m_bestRow)))
def fX9_stocks (d : Nat) : Int32 → (Nat → Int32) → (Nat → Int32) → (Nat → Int32) → (Nat → Int32) → Int32 → (Nat → Int32) → (Nat → Int32) → (Nat → Int32) → (Nat → Int32) → Int32 → Int32 → Int32 → Option (Int32 × (Nat → Int32) × (Nat → Int32) × (Nat → Int32) × (Nat → Int32)) := itr FX9_stocks (fun _ _ _ _ _ _ _ _ _ _ _ _ _ => none) d
set_option maxHeartbeats 4000000 in
set_option maxRecDepth 100000 in
theorem KX9_stocks (d : Nat) (l : Launch) (D : va_G) (cy : Nat → ClassId) (ad : Nat → Nat) (P : MP) (V : MV) (I : MI) (J : MJ) (A : MI) (B : MJ) (v1 : Int32) (v2 : Int32) (v3 : Int32) {res : Int32 × (Nat → Int32) × (Nat → Int32) × (Nat → Int32) × (Nat → Int32)} (hf : fX9_stocks d (I 0 54) (A 2) (A 7) (A 9) (A 12) (I 0 58) (A 35) (A 37) (A 41) (A 42) v1 v2 v3 = some res) : CG l yX9_stocks cX9_stocks 6 none (rmX9_stocks d) D cy (dn cy LY_X9 ad P V I J A B) [.ref (ad 0), .int v1, .int v2, .int v3] none (dn cy LY_X9 ad P V (gp I [(0, 58, res.1)]) (gp J []) (gm A [(35, res.2.1), (37, res.2.2.1), (41, res.2.2.2.1), (42, res.2.2.2.2)]) (gm B [])) := by
  induction d generalizing ad P V I J A B v1 v2 v3 res with
  | zero => exact (nomatch (show (none : Option (Int32 × (Nat → Int32) × (Nat → Int32) × (Nat → Int32) × (Nat → Int32))) = some res from hf))
  | succ d ih =>
  have hR : Nat.ble 4 (rmX9_stocks (d + 1)).frames = true ∧ Nat.ble 86 (rmX9_stocks (d + 1)).locals = true := ⟨Nat.ble_eq_true_of_le (by show 4 ≤ d + 1 + 4; omega), Nat.ble_eq_true_of_le (by show 86 ≤ (d + 1) * 25 + 86; omega)⟩
  have hs : (rmX9_stocks d).cells = 0 ∧ (rmX9_stocks d).slots = 0 := ⟨rfl, rfl⟩
  have hroom : Nat.ble ((rmX9_stocks d).frames + 1) (rmX9_stocks (d + 1)).frames = true ∧ Nat.ble (8 + (6 + 11) + (rmX9_stocks d).locals) (rmX9_stocks (d + 1)).locals = true := ⟨Nat.ble_eq_true_of_le (by show d + 4 + 1 ≤ d + 1 + 4; omega), Nat.ble_eq_true_of_le (by show 8 + (6 + 11) + (d * 25 + 86) ≤ (d + 1) * 25 + 86; omega)⟩
  have hself : ∀ (ad : Nat → Nat) (P : MP) (V : MV) (I : MI) (J : MJ) (A : MI) (B : MJ) (v1 : Int32) (v2 : Int32) (v3 : Int32) {res : Int32 × (Nat → Int32) × (Nat → Int32) × (Nat → Int32) × (Nat → Int32)}, fX9_stocks d (I 0 54) (A 2) (A 7) (A 9) (A 12) (I 0 58) (A 35) (A 37) (A 41) (A 42) v1 v2 v3 = some res → CG l yX9_stocks cX9_stocks 6 none (rmX9_stocks d) D cy (dn cy LY_X9 ad P V I J A B) [.ref (ad 0), .int v1, .int v2, .int v3] none (dn cy LY_X9 ad P V (gp I [(0, 58, res.1)]) (gp J []) (gm A [(35, res.2.1), (37, res.2.2.1), (41, res.2.2.2.1), (42, res.2.2.2.2)]) (gm B [])) := fun ad P V I J A B v1 v2 v3 _ hf => ih ad P V I J A B v1 v2 v3 hf
  have hf : FX9_stocks (fX9_stocks d) (I 0 54) (A 2) (A 7) (A 9) (A 12) (I 0 58) (A 35) (A 37) (A 41) (A 42) v1 v2 v3 = some res := hf
  generalize fX9_stocks d = self at hf hself
  refine CG.of (own := RX9) (by decide) rfl rfl ?_
  intro p e s m below meth c ls Af C0 hK hN hA hW hl
  have hW : wd D (dn cy LY_X9 ad P V (gp I [(0, 58, (I 0 58))]) (gp J []) (gm A [(35, (A 35)), (37, (A 37)), (41, (A 41)), (42, (A 42))]) (gm B [])) Af s.heap s.heap [] := wd_sel [(0, 58)] [] [35, 37, 41, 42] [] hW
  have hl : lv_has ls 6 [(0, .ref (ad 0)), (1, .int v1), (2, .int v2), (3, .int v3)] := hl
  unfold FX9_stocks at hf
  refine lv_aload_n C0.1 C0.2.1 dX9_stocks_0 rfl (lv_at hl 0 rfl) ?_
  refine s_get (v := .int (I 0 58)) C0 hK hW 0 58 LY_X9_0 rfl fg_X9_446 rfl dX9_stocks_1 ?_
  refine lv_if_lt (tgt := 16) C0.1 C0.2.1 dX9_stocks_4 (by decide) (fun hc1 => ?_) (fun hc1 => ?_)
  · have hf := ite_t hc1 hf
    exact tX9_stocks_16 C0 hK hN hA hR hs hroom hself  (I 0 58) (A 35) (A 37) (A 41) (A 42) v1 v2 v3 _ _ ls hW hl hf
  · have hf := ite_f hc1 hf
    refine lv_iload_n C0.1 C0.2.1 dX9_stocks_7 rfl (lv_at hl 2 rfl) ?_
    refine lv_aload_n C0.1 C0.2.1 dX9_stocks_8 rfl (lv_at hl 0 rfl) ?_
    refine s_get (v := .int (I 0 58)) C0 hK hW 0 58 LY_X9_0 rfl fg_X9_446 rfl dX9_stocks_9 ?_
    refine lv_icmp_lt (tgt := 16) C0.1 C0.2.1 dX9_stocks_12 (by decide) (fun hc2 => ?_) (fun hc2 => ?_)
    · have hf := ite_t hc2 hf
      exact tX9_stocks_16 C0 hK hN hA hR hs hroom hself  (I 0 58) (A 35) (A 37) (A 41) (A 42) v1 v2 v3 _ _ ls hW hl hf
    · have hf := ite_f hc2 hf
      obtain rfl := Option.some.inj hf
      exact r_void C0 hK hW dX9_stocks_15
