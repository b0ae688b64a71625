-- X8_winters
def rmX8_winters : Room := { frames := 7, cells := 0, slots := 0, locals := 163 }
def SX8_winters_55 (p : Program) (l : Launch) (e : Env) (s : State) (m : MethodId) (args : Array Value) (below : List Frame) (meth : Method) (c : Code) (D : va_G) (cy : Nat → ClassId) (ad : Nat → Nat) (P : MP) (V : MV) (I : MI) (J : MJ) (A : MI) (B : MJ) (Af : Nat → Prop) (res : Int32 × Int32 × Int32 × Int32 × Int32 × Int64 × (Nat → Int32) × (Nat → Int32) × (Nat → Int32)) (k : Int32 → Int32 → Int32 → Int32 → Int64 → (Nat → Int32) → (Nat → Int32) → (Nat → Int32) → Int32 → Int32 → Int32 → Int32 → Option (Int32 × Int32 × Int32 × Int32 × Int32 × Int64 × (Nat → Int32) × (Nat → Int32) × (Nat → Int32))) : Prop := ∀ (c_trial_seized : Int32) (c_trial_date : Int32) (c_trial_brought : Int32) (c_told_law_waiting : Int32) (c_drawn : Int64) (c_trial_coal : (Nat → Int32)) (c_trial_inside : (Nat → Int32)) (c_told_law_stack : (Nat → Int32)) (v2 : Int32) (v3 : Int32) (v4 : Int32) (v5 : Int32) (H : Heap) (locs : List Loc) (ls : Array Slot), wd D (dn cy LY_X8 ad P V (gp I [(7, 2, c_trial_seized), (7, 3, c_trial_date), (7, 4, c_trial_brought), (124, 2, c_told_law_waiting)]) (gp J [(0, 13, c_drawn)]) (gm A [(8, c_trial_coal), (9, c_trial_inside), (126, c_told_law_stack)]) (gm B [])) Af s.heap H locs → lv_has ls 6 [(0, .ref (ad 0)), (2, .int v2), (3, .int v3), (4, .int v4), (5, .int v5)] → k c_trial_seized c_trial_date c_trial_brought c_told_law_waiting c_drawn c_trial_coal c_trial_inside c_told_law_stack v2 v3 v4 v5 = some res → W p l e rmX8_winters s m args below meth c H locs 0 0 (ZQ below D cy (dn cy LY_X8 ad P V (gp I [(7, 2, res.2.1), (7, 3, res.2.2.1), (7, 4, res.2.2.2.1), (124, 2, res.2.2.2.2.1)]) (gp J [(0, 13, res.2.2.2.2.2.1)]) (gm A [(8, res.2.2.2.2.2.2.1), (9, res.2.2.2.2.2.2.2.1), (126, res.2.2.2.2.2.2.2.2)]) (gm B [])) (some (.int res.1)) Af args s) (F0 m 55 ls [])
def fX8_winters_55 (c_now_seized : Int32) (c_now_date : Int32) (c_now_brought : Int32) (c_told_colds : Int32) (c_told_holes : Int32) (c_told_guests : Int32) (c_told_sack : Int32) (c_told_catBits : Int32) (c_told_wantedBits : Int32) (c_told_law_length : Int32) (c_now_coal : (Nat → Int32)) (c_now_inside : (Nat → Int32)) (c_told_cold : (Nat → Int32)) (c_told_holeFlags : (Nat → Int32)) (c_told_burns : (Nat → Int32)) (c_told_beside : (Nat → Int32)) (c_told_kinds : (Nat → Int32)) (c_told_guestFlags : (Nat → Int32)) (c_told_foes : (Nat → Int32)) (c_told_law_code : (Nat → Int32)) (k55 : Int32 → Int32 → Int32 → Int32 → Int64 → (Nat → Int32) → (Nat → Int32) → (Nat → Int32) → Int32 → Int32 → Int32 → Int32 → Option (Int32 × Int32 × Int32 × Int32 × Int32 × Int64 × (Nat → Int32) × (Nat → Int32) × (Nat → Int32))) (c_trial_seized : Int32) (c_trial_date : Int32) (c_trial_brought : Int32) (c_told_law_waiting : Int32) (c_drawn : Int64) (c_trial_coal : (Nat → Int32)) (c_trial_inside : (Nat → Int32)) (c_told_law_stack : (Nat → Int32)) (v2 : Int32) (v3 : Int32) (v4 : Int32) (v5 : Int32) : Option (Int32 × Int32 × Int32 × Int32 × Int32 × Int64 × (Nat → Int32) × (Nat → Int32) × (Nat → Int32)) := if v2 ≤ v5 then (if v3 = 0 then (some (v4, c_trial_seized, c_trial_date, c_trial_brought, c_told_law_waiting, c_drawn, c_trial_coal, c_trial_inside, c_told_law_stack)) else (if v3 = 1 then (some (c_trial_seized, c_trial_seized, c_trial_date, c_trial_brought, c_told_law_waiting, c_drawn, c_trial_coal, c_trial_inside, c_told_law_stack)) else (Option.bind (fX4_allCoal c_told_holes c_trial_coal) fun y4 => (some (y4, c_trial_seized, c_trial_date, c_trial_brought, c_told_law_waiting, c_drawn, c_trial_coal, c_trial_inside, c_told_law_stack))))) else (Option.bind (fX8_goByDraws c_trial_seized c_trial_date c_told_holes c_told_guests c_told_sack c_told_law_length c_told_holeFlags c_told_beside c_told_kinds c_told_guestFlags c_told_foes c_told_law_code c_trial_brought c_told_law_waiting c_drawn c_trial_coal c_trial_inside c_told_law_stack) fun y5 => (Option.bind (fX4_passDay c_told_colds c_told_holes c_told_guests c_told_catBits c_told_wantedBits c_told_cold c_told_burns c_trial_seized c_trial_date y5.2.2.2.2.1 y5.2.2.2.2.2.1) fun y6 => (k55 y6.2.1 y6.2.2.1 y5.2.1 y5.2.2.1 y5.2.2.2.1 y6.2.2.2.1 y6.2.2.2.2 y5.2.2.2.2.2.2 v2 v3 (v4 + y5.1) (v5 + 1))))
set_option maxHeartbeats 4000000 in
set_option maxRecDepth 100000 in
theorem tX8_winters_55 {p : Program} {l : Launch} {e : Env} {s : State} {m : MethodId} {args : Array Value} {below : List Frame} {meth : Method} {c : Code} {D : va_G} {cy : Nat → ClassId} {ad : Nat → Nat} {P : MP} {V : MV} {I : MI} {J : MJ} {A : MI} {B : MJ} {Af : Nat → Prop} {res : Int32 × Int32 × Int32 × Int32 × Int32 × Int64 × (Nat → Int32) × (Nat → Int32) × (Nat → Int32)} (C0 : CX p s m args meth c cX8_winters 6 (some .int) RX8) (hK : va_K D vwCl (tyG cy) s) (hN : NWs s) (hA : ∀ q, s.heap.size ≤ q → Af q) {k55 : Int32 → Int32 → Int32 → Int32 → Int64 → (Nat → Int32) → (Nat → Int32) → (Nat → Int32) → Int32 → Int32 → Int32 → Int32 → Option (Int32 × Int32 × Int32 × Int32 × Int32 × Int64 × (Nat → Int32) × (Nat → Int32) × (Nat → Int32))} (hk55 : SX8_winters_55 p l e s m args below meth c D cy ad P V I J A B Af res k55) : SX8_winters_55 p l e s m args below meth c D cy ad P V I J A B Af res (fX8_winters_55 (I 4 2) (I 4 3) (I 4 4) (I 112 4) (I 112 13) (I 112 14) (I 112 15) (I 112 16) (I 112 17) (I 124 4) (A 5) (A 6) (A 116) (A 117) (A 119) (A 120) (A 121) (A 122) (A 123) (A 125) k55) := by
  intro c_trial_seized c_trial_date c_trial_brought c_told_law_waiting c_drawn c_trial_coal c_trial_inside c_told_law_stack v2 v3 v4 v5 H locs ls hW hl hf
  unfold fX8_winters_55 at hf
  refine lv_iload C0.1 C0.2.1 dX8_winters_55 (lv_at hl 4 rfl) ?_
  refine lv_iload_n C0.1 C0.2.1 dX8_winters_57 rfl (lv_at hl 1 rfl) ?_
  refine lv_icmp_ge (tgt := 88) C0.1 C0.2.1 dX8_winters_58 (by decide) (fun hc1 => ?_) (fun hc1 => ?_)
  · have hf := ite_t hc1 hf
    refine lv_iload_n C0.1 C0.2.1 dX8_winters_88 rfl (lv_at hl 2 rfl) ?_
    refine lv_if_ne (tgt := 97) C0.1 C0.2.1 dX8_winters_89 (by decide) (fun hc2 => ?_) (fun hc2 => ?_)
    · have hf := ite_f hc2 hf
      refine lv_iload_n C0.1 C0.2.1 dX8_winters_97 rfl (lv_at hl 2 rfl) ?_
      refine lv_iconst (v := 1) C0.1 C0.2.1 dX8_winters_98 kI_1 ?_
      refine lv_icmp_ne (tgt := 112) C0.1 C0.2.1 dX8_winters_99 (by decide) (fun hc3 => ?_) (fun hc3 => ?_)
      · have hf := ite_f hc3 hf
        refine lv_aload_n C0.1 C0.2.1 dX8_winters_112 rfl (lv_at hl 0 rfl) ?_
        refine s_get (v := .ref (ad 7)) C0 hK hW 0 2 LY_X8_0 rfl fg_X8_23 rfl dX8_winters_113 ?_
        refine lv_aload_n C0.1 C0.2.1 dX8_winters_116 rfl (lv_at hl 0 rfl) ?_
        refine s_get (v := .ref (ad 112)) C0 hK hW 0 7 LY_X8_0 rfl fg_X8_53 rfl dX8_winters_117 ?_
        obtain ⟨y4, hy4, hf⟩ := b_some hf
        refine c_Vi C0 hK hN hl.1 hW hA (KX4_allCoal l D cy  (fun q => ad (pl_LY_X8_LY_X4X6_7_8_21942644.getD q 0)) (fun q => P (pl_LY_X8_LY_X4X6_7_8_21942644.getD q 0)) (fun q => Vx LY_X8 ad V (pl_LY_X8_LY_X4X6_7_8_21942644.getD q 0)) (fun q => gp I [(7, 2, c_trial_seized), (7, 3, c_trial_date), (7, 4, c_trial_brought), (124, 2, c_told_law_waiting)] (pl_LY_X8_LY_X4X6_7_8_21942644.getD q 0)) (fun q => gp J [(0, 13, c_drawn)] (pl_LY_X8_LY_X4X6_7_8_21942644.getD q 0)) (fun q => gm A [(8, c_trial_coal), (9, c_trial_inside), (126, c_told_law_stack)] (pl_LY_X8_LY_X4X6_7_8_21942644.getD q 0)) (fun q => gm B [] (pl_LY_X8_LY_X4X6_7_8_21942644.getD q 0))  hy4) (JN_subC (pl := pl_LY_X8_LY_X4X6_7_8_21942644) sb_LY_X8_LY_X4X6_7_8_21942644 rfl rfl rfl rfl rfl rfl rfl rfl rfl) (Uw_V uw_943 uw_944 uw_945 uw_7 uw_946) rfl rfl hd_X4_allCoal ⟨rfl, rfl⟩ rfl (dn_some LY_X8_7) rfl rfl rfl dX8_winters_120 ⟨Nat.zero_le _, Nat.zero_le _⟩ (fun H locs hW => ?_)
        have hW : wd D (dn cy LY_X8 ad P V (gp I [(7, 2, c_trial_seized), (7, 3, c_trial_date), (7, 4, c_trial_brought), (124, 2, c_told_law_waiting)]) (gp J [(0, 13, c_drawn)]) (gm A [(8, c_trial_coal), (9, c_trial_inside), (126, c_told_law_stack)]) (gm B [])) Af s.heap H locs := hW
        obtain rfl := Option.some.inj hf
        exact r_int C0 hK hW dX8_winters_123
      · have hf := ite_t hc3 hf
        refine lv_aload_n C0.1 C0.2.1 dX8_winters_102 rfl (lv_at hl 0 rfl) ?_
        refine s_get (v := .ref (ad 7)) C0 hK hW 0 2 LY_X8_0 rfl fg_X8_23 rfl dX8_winters_103 ?_
        refine s_get (v := .int c_trial_seized) C0 hK hW 7 2 LY_X8_7 rfl fg_X8_140 rfl dX8_winters_106 ?_
        refine lv_goto (tgt := 123) C0.1 C0.2.1 dX8_winters_109 (by decide) ?_
        obtain rfl := Option.some.inj hf
        exact r_int C0 hK hW dX8_winters_123
    · have hf := ite_t hc2 hf
      refine lv_iload C0.1 C0.2.1 dX8_winters_92 (lv_at hl 3 rfl) ?_
      refine lv_goto (tgt := 123) C0.1 C0.2.1 dX8_winters_94 (by decide) ?_
      obtain rfl := Option.some.inj hf
      exact r_int C0 hK hW dX8_winters_123
  · have hf := ite_f hc1 hf
    refine lv_iload C0.1 C0.2.1 dX8_winters_61 (lv_at hl 3 rfl) ?_
    refine lv_aload_n C0.1 C0.2.1 dX8_winters_63 rfl (lv_at hl 0 rfl) ?_
    obtain ⟨y5, hy5, hf⟩ := b_some hf
    refine c_Vi C0 hK hN hl.1 hW hA (KX8_goByDraws l D cy  ad P V (gp I [(7, 2, c_trial_seized), (7, 3, c_trial_date), (7, 4, c_trial_brought), (124, 2, c_told_law_waiting)]) (gp J [(0, 13, c_drawn)]) (gm A [(8, c_trial_coal), (9, c_trial_inside), (126, c_told_law_stack)]) (gm B [])  hy5) (JN_id rfl rfl rfl rfl) (Uw_V uw_931 uw_933 us_32 uw_1 uw_934) rfl rfl hd_X8_goByDraws ⟨rfl, rfl⟩ rfl (dn_some LY_X8_0) rfl rfl rfl dX8_winters_64 ⟨Nat.zero_le _, Nat.zero_le _⟩ (fun H locs hW => ?_)
    have hW : wd D (dn cy LY_X8 ad P V (gp I [(7, 2, c_trial_seized), (7, 3, c_trial_date), (7, 4, y5.2.1), (124, 2, y5.2.2.1)]) (gp J [(0, 13, y5.2.2.2.1)]) (gm A [(8, y5.2.2.2.2.1), (9, y5.2.2.2.2.2.1), (126, y5.2.2.2.2.2.2)]) (gm B [])) Af s.heap H locs := hW
    refine lv_iadd C0.1 C0.2.1 dX8_winters_67 ?_
    refine lv_istore (lv' := [(4, .int (v4 + y5.1)), (0, .ref (ad 0)), (2, .int v2), (3, .int v3), (5, .int v5)]) C0.1 C0.2.1 dX8_winters_68 hl (by decide) rfl (fun ls hl => ?_)
    refine lv_aload_n C0.1 C0.2.1 dX8_winters_70 rfl (lv_at hl 1 rfl) ?_
    refine s_get (v := .ref (ad 7)) C0 hK hW 0 2 LY_X8_0 rfl fg_X8_23 rfl dX8_winters_71 ?_
    refine lv_aload_n C0.1 C0.2.1 dX8_winters_74 rfl (lv_at hl 1 rfl) ?_
    refine s_get (v := .ref (ad 112)) C0 hK hW 0 7 LY_X8_0 rfl fg_X8_53 rfl dX8_winters_75 ?_
    obtain ⟨y6, hy6, hf⟩ := b_some hf
    refine c_Vi C0 hK hN hl.1 hW hA (KX4_passDay l D cy  (fun q => ad (pl_LY_X8_LY_X4X6_7_8_21942644.getD q 0)) (fun q => P (pl_LY_X8_LY_X4X6_7_8_21942644.getD q 0)) (fun q => Vx LY_X8 ad V (pl_LY_X8_LY_X4X6_7_8_21942644.getD q 0)) (fun q => gp I [(7, 2, c_trial_seized), (7, 3, c_trial_date), (7, 4, y5.2.1), (124, 2, y5.2.2.1)] (pl_LY_X8_LY_X4X6_7_8_21942644.getD q 0)) (fun q => gp J [(0, 13, y5.2.2.2.1)] (pl_LY_X8_LY_X4X6_7_8_21942644.getD q 0)) (fun q => gm A [(8, y5.2.2.2.2.1), (9, y5.2.2.2.2.2.1), (126, y5.2.2.2.2.2.2)] (pl_LY_X8_LY_X4X6_7_8_21942644.getD q 0)) (fun q => gm B [] (pl_LY_X8_LY_X4X6_7_8_21942644.getD q 0))  hy6) (JN_subC (pl := pl_LY_X8_LY_X4X6_7_8_21942644) sb_LY_X8_LY_X4X6_7_8_21942644 rfl rfl rfl rfl rfl rfl rfl rfl rfl) (Uw_V uw_736 uw_737 uw_738 uw_7 uw_739) rfl rfl hd_X4_passDay ⟨rfl, rfl⟩ rfl (dn_some LY_X8_7) rfl rfl rfl dX8_winters_78 ⟨Nat.zero_le _, Nat.zero_le _⟩ (fun H locs hW => ?_)
    have hW : wd D (dn cy LY_X8 ad P V (gp I [(7, 2, y6.2.1), (7, 3, y6.2.2.1), (7, 4, y5.2.1), (124, 2, y5.2.2.1)]) (gp J [(0, 13, y5.2.2.2.1)]) (gm A [(8, y6.2.2.2.1), (9, y6.2.2.2.2), (126, y5.2.2.2.2.2.2)]) (gm B [])) Af s.heap H locs := hW
    refine lv_pop C0.1 C0.2.1 dX8_winters_81 rfl ?_
    refine lv_iinc (v := (v5 + 1)) (lv' := [(5, .int (v5 + 1)), (4, .int (v4 + y5.1)), (0, .ref (ad 0)), (2, .int v2), (3, .int v3)]) C0.1 C0.2.1 dX8_winters_82 hl (k := 4) rfl (congrArg (fun z => _ + z) kI_1) (by decide) rfl (fun ls hl => ?_)
    refine lv_goto (tgt := 55) C0.1 C0.2.1 dX8_winters_85 (by decide) ?_
    exact hk55 y6.2.1 y6.2.2.1 y5.2.1 y5.2.2.1 y5.2.2.2.1 y6.2.2.2.1 y6.2.2.2.2 y5.2.2.2.2.2.2 v2 v3 (v4 + y5.1) (v5 + 1) H locs ls hW (lv_sub hl [2, 3, 4, 1, 0] rfl) hf
theorem TX8_winters_55 {p : Program} {l : Launch} {e : Env} {s : State} {m : MethodId} {args : Array Value} {below : List Frame} {meth : Method} {c : Code} {D : va_G} {cy : Nat → ClassId} {ad : Nat → Nat} {P : MP} {V : MV} {I : MI} {J : MJ} {A : MI} {B : MJ} {Af : Nat → Prop} {res : Int32 × Int32 × Int32 × Int32 × Int32 × Int64 × (Nat → Int32) × (Nat → Int32) × (Nat → Int32)} (C0 : CX p s m args meth c cX8_winters 6 (some .int) RX8) (hK : va_K D vwCl (tyG cy) s) (hN : NWs s) (hA : ∀ q, s.heap.size ≤ q → Af q) : ∀ n, SX8_winters_55 p l e s m args below meth c D cy ad P V I J A B Af res (itr (fun kk => fX8_winters_55 (I 4 2) (I 4 3) (I 4 4) (I 112 4) (I 112 13) (I 112 14) (I 112 15) (I 112 16) (I 112 17) (I 124 4) (A 5) (A 6) (A 116) (A 117) (A 119) (A 120) (A 121) (A 122) (A 123) (A 125) kk) (fun _ _ _ _ _ _ _ _ _ _ _ _ => none) n) := by
  intro n
  induction n with
  | zero => intro c_trial_seized c_trial_date c_trial_brought c_told_law_waiting c_drawn c_trial_coal c_trial_inside c_told_law_stack v2 v3 v4 v5 H locs ls hW hl hf; exact (nomatch (show (none : Option (Int32 × Int32 × Int32 × Int32 × Int32 × Int64 × (Nat → Int32) × (Nat → Int32) × (Nat → Int32))) = some res from hf))
  | succ n ih => exact tX8_winters_55 C0 hK hN hA  ih
def fX8_winters (c_now_seized : Int32) (c_now_date : Int32) (c_now_brought : Int32) (c_told_colds : Int32) (c_told_holes : Int32) (c_told_guests : Int32) (c_told_sack : Int32) (c_told_catBits : Int32) (c_told_wantedBits : Int32) (c_told_law_length : Int32) (c_now_coal : (Nat → Int32)) (c_now_inside : (Nat → Int32)) (c_told_cold : (Nat → Int32)) (c_told_holeFlags : (Nat → Int32)) (c_told_burns : (Nat → Int32)) (c_told_beside : (Nat → Int32)) (c_told_kinds : (Nat → Int32)) (c_told_guestFlags : (Nat → Int32)) (c_told_foes : (Nat → Int32)) (c_told_law_code : (Nat → Int32)) (c_trial_seized : Int32) (c_trial_date : Int32) (c_trial_brought : Int32) (c_told_law_waiting : Int32) (c_drawn : Int64) (c_trial_coal : (Nat → Int32)) (c_trial_inside : (Nat → Int32)) (c_told_law_stack : (Nat → Int32)) (v1 : Int32) (v2 : Int32) (v3 : Int32) : Option (Int32 × Int32 × Int32 × Int32 × Int32 × Int64 × (Nat → Int32) × (Nat → Int32) × (Nat → Int32)) := Option.bind (fX8_isWithin v1 0 9999) fun y1 => (if y1 = 0 then (some ((-1), c_trial_seized, c_trial_date, c_trial_brought, c_told_law_waiting, c_drawn, c_trial_coal, c_trial_inside, c_told_law_stack)) else (Option.bind (fX8_isWithin v2 1 99) fun y3 => (if y3 = 0 then (some ((-1), c_trial_seized, c_trial_date, c_trial_brought, c_told_law_waiting, c_drawn, c_trial_coal, c_trial_inside, c_told_law_stack)) else (Option.bind (fX8_isWithin v3 0 2) fun y5 => (if y5 = 0 then (some ((-1), c_trial_seized, c_trial_date, c_trial_brought, c_told_law_waiting, c_drawn, c_trial_coal, c_trial_inside, c_told_law_stack)) else (Option.bind (fX4_copyFrom c_now_seized c_now_date c_now_brought c_now_coal c_now_inside c_trial_seized c_trial_date c_trial_brought c_trial_coal c_trial_inside) fun y7 => (itr (fun kk => fX8_winters_55 c_now_seized c_now_date c_now_brought c_told_colds c_told_holes c_told_guests c_told_sack c_told_catBits c_told_wantedBits c_told_law_length c_now_coal c_now_inside c_told_cold c_told_holeFlags c_told_burns c_told_beside c_told_kinds c_told_guestFlags c_told_foes c_told_law_code kk) (fun _ _ _ _ _ _ _ _ _ _ _ _ => none) FU y7.1 y7.2.1 y7.2.2.1 c_told_law_waiting (Int32.toInt64 v1) y7.2.2.2.1 y7.2.2.2.2 c_told_law_stack v2 v3 0 0)))))))
set_option maxHeartbeats 4000000 in
set_option maxRecDepth 100000 in
theorem KX8_winters (l : Launch) (D : va_G) (cy : Nat → ClassId) (ad : Nat → Nat) (P : MP) (V : MV) (I : MI) (J : MJ) (A : MI) (B : MJ) (v1 : Int32) (v2 : Int32) (v3 : Int32) {res : Int32 × Int32 × Int32 × Int32 × Int32 × Int64 × (Nat → Int32) × (Nat → Int32) × (Nat → Int32)} (hf : fX8_winters (I 4 2) (I 4 3) (I 4 4) (I 112 4) (I 112 13) (I 112 14) (I 112 15) (I 112 16) (I 112 17) (I 124 4) (A 5) (A 6) (A 116) (A 117) (A 119) (A 120) (A 121) (A 122) (A 123) (A 125) (I 7 2) (I 7 3) (I 7 4) (I 124 2) (J 0 13) (A 8) (A 9) (A 126) v1 v2 v3 = some res) : CG l yX8_winters cX8_winters 6 (some .int) rmX8_winters D cy (dn cy LY_X8 ad P V I J A B) [.ref (ad 0), .int v1, .int v2, .int v3] (some (.int res.1)) (dn cy LY_X8 ad P V (gp I [(7, 2, res.2.1), (7, 3, res.2.2.1), (7, 4, res.2.2.2.1), (124, 2, res.2.2.2.2.1)]) (gp J [(0, 13, res.2.2.2.2.2.1)]) (gm A [(8, res.2.2.2.2.2.2.1), (9, res.2.2.2.2.2.2.2.1), (126, res.2.2.2.2.2.2.2.2)]) (gm B [])) := by
  refine CG.of (own := RX8) (by decide) rfl rfl ?_
  intro p e s m below meth c ls Af C0 hK hN hA hW hl
  have hW : wd D (dn cy LY_X8 ad P V (gp I [(7, 2, (I 7 2)), (7, 3, (I 7 3)), (7, 4, (I 7 4)), (124, 2, (I 124 2))]) (gp J [(0, 13, (J 0 13))]) (gm A [(8, (A 8)), (9, (A 9)), (126, (A 126))]) (gm B [])) Af s.heap s.heap [] := wd_sel [(7, 2), (7, 3), (7, 4), (124, 2)] [(0, 13)] [8, 9, 126] [] hW
  have hl : lv_has ls 6 [(0, .ref (ad 0)), (1, .int v1), (2, .int v2), (3, .int v3)] := hl
  unfold fX8_winters at hf
  refine lv_iload_n C0.1 C0.2.1 dX8_winters_0 rfl (lv_at hl 1 rfl) ?_
  refine lv_iconst (v := 0) C0.1 C0.2.1 dX8_winters_1 kI_0 ?_
  refine lv_sipush (v := 9999) C0.1 C0.2.1 dX8_winters_2 kS_9999 ?_
  obtain ⟨y1, hy1, hf⟩ := b_some hf
  refine c_Si C0 hK hN hl.1 hW hA (KX8_isWithin l D cy  (fun q => ad (pl_LY_X8_LY_0_.getD q 0)) (fun q => P (pl_LY_X8_LY_0_.getD q 0)) (fun q => Vx LY_X8 ad V (pl_LY_X8_LY_0_.getD q 0)) (fun q => gp I [(7, 2, (I 7 2)), (7, 3, (I 7 3)), (7, 4, (I 7 4)), (124, 2, (I 124 2))] (pl_LY_X8_LY_0_.getD q 0)) (fun q => gp J [(0, 13, (J 0 13))] (pl_LY_X8_LY_0_.getD q 0)) (fun q => gm A [(8, (A 8)), (9, (A 9)), (126, (A 126))] (pl_LY_X8_LY_0_.getD q 0)) (fun q => gm B [] (pl_LY_X8_LY_0_.getD q 0)) v1 0 9999 hy1) (JN_subC (pl := pl_LY_X8_LY_0_) sb_LY_X8_LY_0_ rfl rfl rfl rfl rfl rfl rfl rfl rfl) ⟨uw_500, uw_501, uw_1, uw_502⟩ rfl rfl hd_X8_isWithin ⟨rfl, rfl⟩ rfl rfl rfl dX8_winters_5 ⟨Nat.zero_le _, Nat.zero_le _⟩ (fun H locs hW => ?_)
  have hW : wd D (dn cy LY_X8 ad P V (gp I [(7, 2, (I 7 2)), (7, 3, (I 7 3)), (7, 4, (I 7 4)), (124, 2, (I 124 2))]) (gp J [(0, 13, (J 0 13))]) (gm A [(8, (A 8)), (9, (A 9)), (126, (A 126))]) (gm B [])) Af s.heap H locs := hW
  refine lv_if_eq (tgt := 30) C0.1 C0.2.1 dX8_winters_8 (by decide) (fun hc2 => ?_) (fun hc2 => ?_)
  · have hf := ite_t hc2 hf
    refine lv_iconst (v := (-1)) C0.1 C0.2.1 dX8_winters_30 kI_m1 ?_
    obtain rfl := Option.some.inj hf
    exact r_int C0 hK hW dX8_winters_31
  · have hf := ite_f hc2 hf
    refine lv_iload_n C0.1 C0.2.1 dX8_winters_11 rfl (lv_at hl 2 rfl) ?_
    refine lv_iconst (v := 1) C0.1 C0.2.1 dX8_winters_12 kI_1 ?_
    refine lv_bipush (v := 99) C0.1 C0.2.1 dX8_winters_13 kB_99 ?_
    obtain ⟨y3, hy3, hf⟩ := b_some hf
    refine c_Si C0 hK hN hl.1 hW hA (KX8_isWithin l D cy  (fun q => ad (pl_LY_X8_LY_0_.getD q 0)) (fun q => P (pl_LY_X8_LY_0_.getD q 0)) (fun q => Vx LY_X8 ad V (pl_LY_X8_LY_0_.getD q 0)) (fun q => gp I [(7, 2, (I 7 2)), (7, 3, (I 7 3)), (7, 4, (I 7 4)), (124, 2, (I 124 2))] (pl_LY_X8_LY_0_.getD q 0)) (fun q => gp J [(0, 13, (J 0 13))] (pl_LY_X8_LY_0_.getD q 0)) (fun q => gm A [(8, (A 8)), (9, (A 9)), (126, (A 126))] (pl_LY_X8_LY_0_.getD q 0)) (fun q => gm B [] (pl_LY_X8_LY_0_.getD q 0)) v2 1 99 hy3) (JN_subC (pl := pl_LY_X8_LY_0_) sb_LY_X8_LY_0_ rfl rfl rfl rfl rfl rfl rfl rfl rfl) ⟨uw_500, uw_501, uw_1, uw_502⟩ rfl rfl hd_X8_isWithin ⟨rfl, rfl⟩ rfl rfl rfl dX8_winters_15 ⟨Nat.zero_le _, Nat.zero_le _⟩ (fun H locs hW => ?_)
    have hW : wd D (dn cy LY_X8 ad P V (gp I [(7, 2, (I 7 2)), (7, 3, (I 7 3)), (7, 4, (I 7 4)), (124, 2, (I 124 2))]) (gp J [(0, 13, (J 0 13))]) (gm A [(8, (A 8)), (9, (A 9)), (126, (A 126))]) (gm B [])) Af s.heap H locs := hW
    refine lv_if_eq (tgt := 30) C0.1 C0.2.1 dX8_winters_18 (by decide) (fun hc4 => ?_) (fun hc4 => ?_)
    · have hf := ite_t hc4 hf
      refine lv_iconst (v := (-1)) C0.1 C0.2.1 dX8_winters_30 kI_m1 ?_
      obtain rfl := Option.some.inj hf
      exact r_int C0 hK hW dX8_winters_31
    · have hf := ite_f hc4 hf
      refine lv_iload_n C0.1 C0.2.1 dX8_winters_21 rfl (lv_at hl 3 rfl) ?_
      refine lv_iconst (v := 0) C0.1 C0.2.1 dX8_winters_22 kI_0 ?_
      refine lv_iconst (v := 2) C0.1 C0.2.1 dX8_winters_23 kI_2 ?_
      obtain ⟨y5, hy5, hf⟩ := b_some hf
      refine c_Si C0 hK hN hl.1 hW hA (KX8_isWithin l D cy  (fun q => ad (pl_LY_X8_LY_0_.getD q 0)) (fun q => P (pl_LY_X8_LY_0_.getD q 0)) (fun q => Vx LY_X8 ad V (pl_LY_X8_LY_0_.getD q 0)) (fun q => gp I [(7, 2, (I 7 2)), (7, 3, (I 7 3)), (7, 4, (I 7 4)), (124, 2, (I 124 2))] (pl_LY_X8_LY_0_.getD q 0)) (fun q => gp J [(0, 13, (J 0 13))] (pl_LY_X8_LY_0_.getD q 0)) (fun q => gm A [(8, (A 8)), (9, (A 9)), (126, (A 126))] (pl_LY_X8_LY_0_.getD q 0)) (fun q => gm B [] (pl_LY_X8_LY_0_.getD q 0)) v3 0 2 hy5) (JN_subC (pl := pl_LY_X8_LY_0_) sb_LY_X8_LY_0_ rfl rfl rfl rfl rfl rfl rfl rfl rfl) ⟨uw_500, uw_501, uw_1, uw_502⟩ rfl rfl hd_X8_isWithin ⟨rfl, rfl⟩ rfl rfl rfl dX8_winters_24 ⟨Nat.zero_le _, Nat.zero_le _⟩ (fun H locs hW => ?_)
      have hW : wd D (dn cy LY_X8 ad P V (gp I [(7, 2, (I 7 2)), (7, 3, (I 7 3)), (7, 4, (I 7 4)), (124, 2, (I 124 2))]) (gp J [(0, 13, (J 0 13))]) (gm A [(8, (A 8)), (9, (A 9)), (126, (A 126))]) (gm B [])) Af s.heap H locs := hW
      refine lv_if_ne (tgt := 32) C0.1 C0.2.1 dX8_winters_27 (by decide) (fun hc6 => ?_) (fun hc6 => ?_)
      · have hf := ite_f hc6 hf
        refine lv_aload_n C0.1 C0.2.1 dX8_winters_32 rfl (lv_at hl 0 rfl) ?_
        refine s_get (v := .ref (ad 7)) C0 hK hW 0 2 LY_X8_0 rfl fg_X8_23 rfl dX8_winters_33 ?_
        refine lv_aload_n C0.1 C0.2.1 dX8_winters_36 rfl (lv_at hl 0 rfl) ?_
        refine s_get (v := .ref (ad 4)) C0 hK hW 0 1 LY_X8_0 rfl fg_X8_19 rfl dX8_winters_37 ?_
        obtain ⟨y7, hy7, hf⟩ := b_some hf
        refine c_Vv C0 hK hN hl.1 hW hA (KX4_copyFrom l D cy  (fun q => ad (pl_LY_X8_LY_X4X4_7_8_9_4_5_6.getD q 0)) (fun q => P (pl_LY_X8_LY_X4X4_7_8_9_4_5_6.getD q 0)) (fun q => Vx LY_X8 ad V (pl_LY_X8_LY_X4X4_7_8_9_4_5_6.getD q 0)) (fun q => gp I [(7, 2, (I 7 2)), (7, 3, (I 7 3)), (7, 4, (I 7 4)), (124, 2, (I 124 2))] (pl_LY_X8_LY_X4X4_7_8_9_4_5_6.getD q 0)) (fun q => gp J [(0, 13, (J 0 13))] (pl_LY_X8_LY_X4X4_7_8_9_4_5_6.getD q 0)) (fun q => gm A [(8, (A 8)), (9, (A 9)), (126, (A 126))] (pl_LY_X8_LY_X4X4_7_8_9_4_5_6.getD q 0)) (fun q => gm B [] (pl_LY_X8_LY_X4X4_7_8_9_4_5_6.getD q 0))  hy7) (JN_subC (pl := pl_LY_X8_LY_X4X4_7_8_9_4_5_6) sb_LY_X8_LY_X4X4_7_8_9_4_5_6 rfl rfl rfl rfl rfl rfl rfl rfl rfl) (Uw_V uw_695 uw_696 uw_697 uw_7 uw_698) rfl rfl hd_X4_copyFrom ⟨rfl, rfl⟩ rfl (dn_some LY_X8_7) rfl rfl rfl dX8_winters_40 ⟨Nat.zero_le _, Nat.zero_le _⟩ (fun H locs hW => ?_)
        have hW : wd D (dn cy LY_X8 ad P V (gp I [(7, 2, y7.1), (7, 3, y7.2.1), (7, 4, y7.2.2.1), (124, 2, (I 124 2))]) (gp J [(0, 13, (J 0 13))]) (gm A [(8, y7.2.2.2.1), (9, y7.2.2.2.2), (126, (A 126))]) (gm B [])) Af s.heap H locs := hW
        refine lv_aload_n C0.1 C0.2.1 dX8_winters_43 rfl (lv_at hl 0 rfl) ?_
        refine lv_iload_n C0.1 C0.2.1 dX8_winters_44 rfl (lv_at hl 1 rfl) ?_
        refine lv_i2l (v := (Int32.toInt64 v1)) C0.1 C0.2.1 dX8_winters_45 rfl ?_
        refine s_putJ C0 hK hW 0 13 LY_X8_0 rfl fg_X8_274 fp_X8_13 rfl dX8_winters_46 (fun H locs hW => ?_)
        have hW : wd D (dn cy LY_X8 ad P V (gp I [(7, 2, y7.1), (7, 3, y7.2.1), (7, 4, y7.2.2.1), (124, 2, (I 124 2))]) (gp J [(0, 13, (Int32.toInt64 v1))]) (gm A [(8, y7.2.2.2.1), (9, y7.2.2.2.2), (126, (A 126))]) (gm B [])) Af s.heap H locs := hW
        refine lv_iconst (v := 0) C0.1 C0.2.1 dX8_winters_49 kI_0 ?_
        refine lv_istore (lv' := [(4, .int 0), (0, .ref (ad 0)), (1, .int v1), (2, .int v2), (3, .int v3)]) C0.1 C0.2.1 dX8_winters_50 hl (by decide) rfl (fun ls hl => ?_)
        refine lv_iconst (v := 0) C0.1 C0.2.1 dX8_winters_52 kI_0 ?_
        refine lv_istore (lv' := [(5, .int 0), (4, .int 0), (0, .ref (ad 0)), (1, .int v1), (2, .int v2), (3, .int v3)]) C0.1 C0.2.1 dX8_winters_53 hl (by decide) rfl (fun ls hl => ?_)
        exact TX8_winters_55 C0 hK hN hA  FU y7.1 y7.2.1 y7.2.2.1 (I 124 2) (Int32.toInt64 v1) y7.2.2.2.1 y7.2.2.2.2 (A 126) v2 v3 0 0 _ _ ls hW (lv_sub hl [2, 4, 5, 1, 0] rfl) hf
      · have hf := ite_t hc6 hf
        refine lv_iconst (v := (-1)) C0.1 C0.2.1 dX8_winters_30 kI_m1 ?_
        obtain rfl := Option.some.inj hf
        exact r_int C0 hK hW dX8_winters_31
-- X8_count
def rmX8_count : Room := { frames := 2, cells := 0, slots := 0, locals := 44 }
def fX8_count (c_pastCount : Int32) (c_tape_length : Int32) (c_now_seized : Int32) (c_now_date : Int32) (c_now_brought : Int32) (c_heard_size : Int32) (c_told_colds : Int32) (c_told_holes : Int32) (c_told_guests : Int32) (c_told_sack : Int32) (c_plan_lines : Int32) (c_now_coal : (Nat → Int32)) (c_now_inside : (Nat → Int32)) (c_told_cold : (Nat → Int32)) (v1 : Int32) : Option (Int32) := if Int32.toInt v1 = 0 then (some (c_told_holes)) else (if Int32.toInt v1 = 1 then (some (c_told_guests)) else (if Int32.toInt v1 = 2 then (some (c_told_sack)) else (if Int32.toInt v1 = 3 then (some (c_now_date)) else (if Int32.toInt v1 = 4 then (Option.bind (fX6_coldOf c_told_colds c_told_cold c_now_date) fun y6 => (some (y6))) else (if Int32.toInt v1 = 5 then (Option.bind (fX4_allCoal c_told_holes c_now_coal) fun y8 => (some (y8))) else (if Int32.toInt v1 = 6 then (Option.bind (fX4_streetBits c_now_seized c_told_holes c_told_guests c_now_inside) fun y10 => (some (y10))) else (if Int32.toInt v1 = 7 then (some (c_now_seized)) else (if Int32.toInt v1 = 8 then (some (c_now_brought)) else (if Int32.toInt v1 = 9 then (some (c_plan_lines)) else (if Int32.toInt v1 = 10 then (some (c_heard_size)) else (if Int32.toInt v1 = 11 then (some (c_pastCount)) else (if Int32.toInt v1 = 12 then (some (c_tape_length)) else (some ((-1)))))))))))))))
set_option maxHeartbeats 4000000 in
set_option maxRecDepth 100000 in
theorem KX8_count (l : Launch) (D : va_G) (cy : Nat → ClassId) (ad : Nat → Nat) (P : MP) (V : MV) (I : MI) (J : MJ) (A : MI) (B : MJ) (v1 : Int32) {res : Int32} (hf : fX8_count (I 0 12) (I 1 6) (I 4 2) (I 4 3) (I 4 4) (I 10 2) (I 112 4) (I 112 13) (I 112 14) (I 112 15) (I 142 3) (A 5) (A 6) (A 116) v1 = some res) : CG l yX8_count cX8_count 2 (some .int) rmX8_count D cy (dn cy LY_X8 ad P V I J A B) [.ref (ad 0), .int v1] (some (.int res)) (dn cy LY_X8 ad P V (gp I []) (gp J []) (gm A []) (gm B [])) := by
  refine CG.of (own := RX8) (by decide) rfl rfl ?_
  intro p e s m below meth c ls Af C0 hK hN hA hW hl
  have hW : wd D (dn cy LY_X8 ad P V (gp I []) (gp J []) (gm A []) (gm B [])) Af s.heap s.heap [] := wd_sel [] [] [] [] hW
  have hl : lv_has ls 2 [(0, .ref (ad 0)), (1, .int v1)] := hl
  unfold fX8_count at hf
  refine lv_iload_n C0.1 C0.2.1 dX8_count_0 rfl (lv_at hl 1 rfl) ?_
  by_cases hc1 : Int32.toInt v1 = 0
  · have hf := ite_t hc1 hf
    refine lv_tableIn (tgt := 68) (off := 67) C0.1 C0.2.1 dX8_count_1 (by omega) (by omega) (by rw [hc1]; rfl) (by decide) ?_
    refine lv_aload_n C0.1 C0.2.1 dX8_count_68 rfl (lv_at hl 0 rfl) ?_
    refine s_get (v := .ref (ad 112)) C0 hK hW 0 7 LY_X8_0 rfl fg_X8_53 rfl dX8_count_69 ?_
    refine s_get (v := .int (I 112 13)) C0 hK hW 112 13 LY_X8_112 rfl fg_X8_193 rfl dX8_count_72 ?_
    obtain rfl := Option.some.inj hf
    exact r_int C0 hK hW dX8_count_75
  · have hf := ite_f hc1 hf
    by_cases hc2 : Int32.toInt v1 = 1
    · have hf := ite_t hc2 hf
      refine lv_tableIn (tgt := 76) (off := 75) C0.1 C0.2.1 dX8_count_1 (by omega) (by omega) (by rw [hc2]; rfl) (by decide) ?_
      refine lv_aload_n C0.1 C0.2.1 dX8_count_76 rfl (lv_at hl 0 rfl) ?_
      refine s_get (v := .ref (ad 112)) C0 hK hW 0 7 LY_X8_0 rfl fg_X8_53 rfl dX8_count_77 ?_
      refine s_get (v := .int (I 112 14)) C0 hK hW 112 14 LY_X8_112 rfl fg_X8_209 rfl dX8_count_80 ?_
      obtain rfl := Option.some.inj hf
      exact r_int C0 hK hW dX8_count_83
    · have hf := ite_f hc2 hf
      by_cases hc3 : Int32.toInt v1 = 2
      · have hf := ite_t hc3 hf
        refine lv_tableIn (tgt := 84) (off := 83) C0.1 C0.2.1 dX8_count_1 (by omega) (by omega) (by rw [hc3]; rfl) (by decide) ?_
        refine lv_aload_n C0.1 C0.2.1 dX8_count_84 rfl (lv_at hl 0 rfl) ?_
        refine s_get (v := .ref (ad 112)) C0 hK hW 0 7 LY_X8_0 rfl fg_X8_53 rfl dX8_count_85 ?_
        refine s_get (v := .int (I 112 15)) C0 hK hW 112 15 LY_X8_112 rfl fg_X8_291 rfl dX8_count_88 ?_
        obtain rfl := Option.some.inj hf
        exact r_int C0 hK hW dX8_count_91
      · have hf := ite_f hc3 hf
        by_cases hc4 : Int32.toInt v1 = 3
        · have hf := ite_t hc4 hf
          refine lv_tableIn (tgt := 92) (off := 91) C0.1 C0.2.1 dX8_count_1 (by omega) (by omega) (by rw [hc4]; rfl) (by decide) ?_
          refine lv_aload_n C0.1 C0.2.1 dX8_count_92 rfl (lv_at hl 0 rfl) ?_
          refine s_get (v := .ref (ad 4)) C0 hK hW 0 1 LY_X8_0 rfl fg_X8_19 rfl dX8_count_93 ?_
          refine s_get (v := .int (I 4 3)) C0 hK hW 4 3 LY_X8_4 rfl fg_X8_239 rfl dX8_count_96 ?_
          obtain rfl := Option.some.inj hf
          exact r_int C0 hK hW dX8_count_99
        · have hf := ite_f hc4 hf
          by_cases hc5 : Int32.toInt v1 = 4
          · have hf := ite_t hc5 hf
            refine lv_tableIn (tgt := 100) (off := 99) C0.1 C0.2.1 dX8_count_1 (by omega) (by omega) (by rw [hc5]; rfl) (by decide) ?_
            refine lv_aload_n C0.1 C0.2.1 dX8_count_100 rfl (lv_at hl 0 rfl) ?_
            refine s_get (v := .ref (ad 112)) C0 hK hW 0 7 LY_X8_0 rfl fg_X8_53 rfl dX8_count_101 ?_
            refine lv_aload_n C0.1 C0.2.1 dX8_count_104 rfl (lv_at hl 0 rfl) ?_
            refine s_get (v := .ref (ad 4)) C0 hK hW 0 1 LY_X8_0 rfl fg_X8_19 rfl dX8_count_105 ?_
            refine s_get (v := .int (I 4 3)) C0 hK hW 4 3 LY_X8_4 rfl fg_X8_239 rfl dX8_count_108 ?_
            obtain ⟨y6, hy6, hf⟩ := b_some hf
            refine c_Vi C0 hK hN hl.1 hW hA (KX6_coldOf l D cy  (fun q => ad (pl_LY_X8_LY_X6_112_113_59166342.getD q 0)) (fun q => P (pl_LY_X8_LY_X6_112_113_59166342.getD q 0)) (fun q => Vx LY_X8 ad V (pl_LY_X8_LY_X6_112_113_59166342.getD q 0)) (fun q => gp I [] (pl_LY_X8_LY_X6_112_113_59166342.getD q 0)) (fun q => gp J [] (pl_LY_X8_LY_X6_112_113_59166342.getD q 0)) (fun q => gm A [] (pl_LY_X8_LY_X6_112_113_59166342.getD q 0)) (fun q => gm B [] (pl_LY_X8_LY_X6_112_113_59166342.getD q 0)) (I 4 3) hy6) (JN_subC (pl := pl_LY_X8_LY_X6_112_113_59166342) sb_LY_X8_LY_X6_112_113_59166342 rfl rfl rfl rfl rfl rfl rfl rfl rfl) (Uw_V uw_972 uw_741 uw_742 uw_10 uw_743) rfl rfl hd_X6_coldOf ⟨rfl, rfl⟩ rfl (dn_some LY_X8_112) rfl rfl rfl dX8_count_111 ⟨Nat.zero_le _, Nat.zero_le _⟩ (fun H locs hW => ?_)
            have hW : wd D (dn cy LY_X8 ad P V (gp I []) (gp J []) (gm A []) (gm B [])) Af s.heap H locs := hW
            obtain rfl := Option.some.inj hf
            exact r_int C0 hK hW dX8_count_114
          · have hf := ite_f hc5 hf
            by_cases hc7 : Int32.toInt v1 = 5
            · have hf := ite_t hc7 hf
              refine lv_tableIn (tgt := 115) (off := 114) C0.1 C0.2.1 dX8_count_1 (by omega) (by omega) (by rw [hc7]; rfl) (by decide) ?_
              refine lv_aload_n C0.1 C0.2.1 dX8_count_115 rfl (lv_at hl 0 rfl) ?_
              refine s_get (v := .ref (ad 4)) C0 hK hW 0 1 LY_X8_0 rfl fg_X8_19 rfl dX8_count_116 ?_
              refine lv_aload_n C0.1 C0.2.1 dX8_count_119 rfl (lv_at hl 0 rfl) ?_
              refine s_get (v := .ref (ad 112)) C0 hK hW 0 7 LY_X8_0 rfl fg_X8_53 rfl dX8_count_120 ?_
              obtain ⟨y8, hy8, hf⟩ := b_some hf
              refine c_Vi C0 hK hN hl.1 hW hA (KX4_allCoal l D cy  (fun q => ad (pl_LY_X8_LY_X4X6_4_5_5025986.getD q 0)) (fun q => P (pl_LY_X8_LY_X4X6_4_5_5025986.getD q 0)) (fun q => Vx LY_X8 ad V (pl_LY_X8_LY_X4X6_4_5_5025986.getD q 0)) (fun q => gp I [] (pl_LY_X8_LY_X4X6_4_5_5025986.getD q 0)) (fun q => gp J [] (pl_LY_X8_LY_X4X6_4_5_5025986.getD q 0)) (fun q => gm A [] (pl_LY_X8_LY_X4X6_4_5_5025986.getD q 0)) (fun q => gm B [] (pl_LY_X8_LY_X4X6_4_5_5025986.getD q 0))  hy8) (JN_subC (pl := pl_LY_X8_LY_X4X6_4_5_5025986) sb_LY_X8_LY_X4X6_4_5_5025986 rfl rfl rfl rfl rfl rfl rfl rfl rfl) (Uw_V uw_943 uw_944 uw_945 uw_7 uw_946) rfl rfl hd_X4_allCoal ⟨rfl, rfl⟩ rfl (dn_some LY_X8_4) rfl rfl rfl dX8_count_123 ⟨Nat.zero_le _, Nat.zero_le _⟩ (fun H locs hW => ?_)
              have hW : wd D (dn cy LY_X8 ad P V (gp I []) (gp J []) (gm A []) (gm B [])) Af s.heap H locs := hW
              obtain rfl := Option.some.inj hf
              exact r_int C0 hK hW dX8_count_126
            · have hf := ite_f hc7 hf
              by_cases hc9 : Int32.toInt v1 = 6
              · have hf := ite_t hc9 hf
                refine lv_tableIn (tgt := 127) (off := 126) C0.1 C0.2.1 dX8_count_1 (by omega) (by omega) (by rw [hc9]; rfl) (by decide) ?_
                refine lv_aload_n C0.1 C0.2.1 dX8_count_127 rfl (lv_at hl 0 rfl) ?_
                refine s_get (v := .ref (ad 4)) C0 hK hW 0 1 LY_X8_0 rfl fg_X8_19 rfl dX8_count_128 ?_
                refine lv_aload_n C0.1 C0.2.1 dX8_count_131 rfl (lv_at hl 0 rfl) ?_
                refine s_get (v := .ref (ad 112)) C0 hK hW 0 7 LY_X8_0 rfl fg_X8_53 rfl dX8_count_132 ?_
                obtain ⟨y10, hy10, hf⟩ := b_some hf
                refine c_Vi C0 hK hN hl.1 hW hA (KX4_streetBits l D cy  (fun q => ad (pl_LY_X8_LY_X4X6_4_5_5025986.getD q 0)) (fun q => P (pl_LY_X8_LY_X4X6_4_5_5025986.getD q 0)) (fun q => Vx LY_X8 ad V (pl_LY_X8_LY_X4X6_4_5_5025986.getD q 0)) (fun q => gp I [] (pl_LY_X8_LY_X4X6_4_5_5025986.getD q 0)) (fun q => gp J [] (pl_LY_X8_LY_X4X6_4_5_5025986.getD q 0)) (fun q => gm A [] (pl_LY_X8_LY_X4X6_4_5_5025986.getD q 0)) (fun q => gm B [] (pl_LY_X8_LY_X4X6_4_5_5025986.getD q 0))  hy10) (JN_subC (pl := pl_LY_X8_LY_X4X6_4_5_5025986) sb_LY_X8_LY_X4X6_4_5_5025986 rfl rfl rfl rfl rfl rfl rfl rfl rfl) (Uw_V uw_792 uw_678 uw_679 uw_7 uw_680) rfl rfl hd_X4_streetBits ⟨rfl, rfl⟩ rfl (dn_some LY_X8_4) rfl rfl rfl dX8_count_135 ⟨Nat.zero_le _, Nat.zero_le _⟩ (fun H locs hW => ?_)
                have hW : wd D (dn cy LY_X8 ad P V (gp I []) (gp J []) (gm A []) (gm B [])) Af s.heap H locs := hW
                obtain rfl := Option.some.inj hf
                exact r_int C0 hK hW dX8_count_138
              · have hf := ite_f hc9 hf
                by_cases hc11 : Int32.toInt v1 = 7
                · have hf := ite_t hc11 hf
                  refine lv_tableIn (tgt := 139) (off := 138) C0.1 C0.2.1 dX8_count_1 (by omega) (by omega) (by rw [hc11]; rfl) (by decide) ?_
                  refine lv_aload_n C0.1 C0.2.1 dX8_count_139 rfl (lv_at hl 0 rfl) ?_
                  refine s_get (v := .ref (ad 4)) C0 hK hW 0 1 LY_X8_0 rfl fg_X8_19 rfl dX8_count_140 ?_
                  refine s_get (v := .int (I 4 2)) C0 hK hW 4 2 LY_X8_4 rfl fg_X8_140 rfl dX8_count_143 ?_
                  obtain rfl := Option.some.inj hf
                  exact r_int C0 hK hW dX8_count_146
                · have hf := ite_f hc11 hf
                  by_cases hc12 : Int32.toInt v1 = 8
                  · have hf := ite_t hc12 hf
                    refine lv_tableIn (tgt := 147) (off := 146) C0.1 C0.2.1 dX8_count_1 (by omega) (by omega) (by rw [hc12]; rfl) (by decide) ?_
                    refine lv_aload_n C0.1 C0.2.1 dX8_count_147 rfl (lv_at hl 0 rfl) ?_
                    refine s_get (v := .ref (ad 4)) C0 hK hW 0 1 LY_X8_0 rfl fg_X8_19 rfl dX8_count_148 ?_
                    refine s_get (v := .int (I 4 4)) C0 hK hW 4 4 LY_X8_4 rfl fg_X8_297 rfl dX8_count_151 ?_
                    obtain rfl := Option.some.inj hf
                    exact r_int C0 hK hW dX8_count_154
                  · have hf := ite_f hc12 hf
                    by_cases hc13 : Int32.toInt v1 = 9
                    · have hf := ite_t hc13 hf
                      refine lv_tableIn (tgt := 155) (off := 154) C0.1 C0.2.1 dX8_count_1 (by omega) (by omega) (by rw [hc13]; rfl) (by decide) ?_
                      refine lv_aload_n C0.1 C0.2.1 dX8_count_155 rfl (lv_at hl 0 rfl) ?_
                      refine s_get (v := .ref (ad 142)) C0 hK hW 0 9 LY_X8_0 rfl fg_X8_63 rfl dX8_count_156 ?_
                      refine s_get (v := .int (I 142 3)) C0 hK hW 142 3 LY_X8_142 rfl fg_X8_87 rfl dX8_count_159 ?_
                      obtain rfl := Option.some.inj hf
                      exact r_int C0 hK hW dX8_count_162
                    · have hf := ite_f hc13 hf
                      by_cases hc14 : Int32.toInt v1 = 10
                      · have hf := ite_t hc14 hf
                        refine lv_tableIn (tgt := 163) (off := 162) C0.1 C0.2.1 dX8_count_1 (by omega) (by omega) (by rw [hc14]; rfl) (by decide) ?_
                        refine lv_aload_n C0.1 C0.2.1 dX8_count_163 rfl (lv_at hl 0 rfl) ?_
                        refine s_get (v := .ref (ad 10)) C0 hK hW 0 3 LY_X8_0 rfl fg_X8_29 rfl dX8_count_164 ?_
                        refine s_get (v := .int (I 10 2)) C0 hK hW 10 2 LY_X8_10 rfl fg_X8_90 rfl dX8_count_167 ?_
                        obtain rfl := Option.some.inj hf
                        exact r_int C0 hK hW dX8_count_170
                      · have hf := ite_f hc14 hf
                        by_cases hc15 : Int32.toInt v1 = 11
                        · have hf := ite_t hc15 hf
                          refine lv_tableIn (tgt := 171) (off := 170) C0.1 C0.2.1 dX8_count_1 (by omega) (by omega) (by rw [hc15]; rfl) (by decide) ?_
                          refine lv_aload_n C0.1 C0.2.1 dX8_count_171 rfl (lv_at hl 0 rfl) ?_
                          refine s_get (v := .int (I 0 12)) C0 hK hW 0 12 LY_X8_0 rfl fg_X8_93 rfl dX8_count_172 ?_
                          obtain rfl := Option.some.inj hf
                          exact r_int C0 hK hW dX8_count_175
                        · have hf := ite_f hc15 hf
                          by_cases hc16 : Int32.toInt v1 = 12
                          · have hf := ite_t hc16 hf
                            refine lv_tableIn (tgt := 176) (off := 175) C0.1 C0.2.1 dX8_count_1 (by omega) (by omega) (by rw [hc16]; rfl) (by decide) ?_
                            refine lv_aload_n C0.1 C0.2.1 dX8_count_176 rfl (lv_at hl 0 rfl) ?_
                            refine s_get (v := .ref (ad 1)) C0 hK hW 0 0 LY_X8_0 rfl fg_X8_10 rfl dX8_count_177 ?_
                            refine s_get (v := .int (I 1 6)) C0 hK hW 1 6 LY_X8_1 rfl fg_X8_75 rfl dX8_count_180 ?_
                            obtain rfl := Option.some.inj hf
                            exact r_int C0 hK hW dX8_count_183
                          · have hf := ite_f hc16 hf
                            refine lv_tableOut (tgt := 184) C0.1 C0.2.1 dX8_count_1 (by omega) (by decide) ?_
                            refine lv_iconst (v := (-1)) C0.1 C0.2.1 dX8_count_184 kI_m1 ?_
                            obtain rfl := Option.some.inj hf
                            exact r_int C0 hK hW dX8_count_185
-- X9_usual
def rmX9_usual : Room := { frames := 1, cells := 0, slots := 0, locals := 21 }
def SX9_usual_46 (p : Program) (l : Launch) (e : Env) (s : State) (m : MethodId) (args : Array Value) (below : List Frame) (meth : Method) (c : Code) (D : va_G) (cy : Nat → ClassId) (ad : Nat → Nat) (P : MP) (V : MV) (I : MI) (J : MJ) (A : MI) (B : MJ) (Af : Nat → Prop) (res : (Nat → Int32) × (Nat → Int32)) (k : (Nat → Int32) → (Nat → Int32) → Int32 → Int32 → Option ((Nat → Int32) × (Nat → Int32))) : Prop := ∀ (m_terrace : (Nat → Int32)) (m_wars : (Nat → Int32)) (v1 : Int32) (v2 : Int32) (H : Heap) (locs : List Loc) (ls : Array Slot), wd D (dn cy LY_X9 ad P V (gp I []) (gp J []) (gm A [(2, m_terrace), (11, m_wars)]) (gm B [])) Af s.heap H locs → lv_has ls 3 [(0, .ref (ad 0)), (1, .int v1), (2, .int v2)] → k m_terrace m_wars v1 v2 = some res → W p l e rmX9_usual s m args below meth c H locs 0 0 (ZQ below D cy (dn cy LY_X9 ad P V (gp I []) (gp J []) (gm A [(2, res.1), (11, res.2)]) (gm B [])) none Af args s) (F0 m 46 ls [])
def fX9_usual_46 (k46 : (Nat → Int32) → (Nat → Int32) → Int32 → Int32 → Option ((Nat → Int32) × (Nat → Int32))) (m_terrace : (Nat → Int32)) (m_wars : (Nat → Int32)) (v1 : Int32) (v2 : Int32) : Option ((Nat → Int32) × (Nat → Int32)) := if 10 ≤ v2 then (some (m_terrace, m_wars)) else (bif inb ((10 * v1) + v2) 20 then (k46 m_terrace (upd m_wars (Int32.toNatClampNeg ((10 * v1) + v2)) 0) v1 (v2 + 1)) else none)
set_option maxHeartbeats 4000000 in
set_option maxRecDepth 100000 in
theorem tX9_usual_46 {p : Program} {l : Launch} {e : Env} {s : State} {m : MethodId} {args : Array Value} {below : List Frame} {meth : Method} {c : Code} {D : va_G} {cy : Nat → ClassId} {ad : Nat → Nat} {P : MP} {V : MV} {I : MI} {J : MJ} {A : MI} {B : MJ} {Af : Nat → Prop} {res : (Nat → Int32) × (Nat → Int32)} (C0 : CX p s m args meth c cX9_usual 3 none RX9) (hK : va_K D vwCl (tyG cy) s) (hN : NWs s) (hA : ∀ q, s.heap.size ≤ q → Af q) {k46 : (Nat → Int32) → (Nat → Int32) → Int32 → Int32 → Option ((Nat → Int32) × (Nat → Int32))} (hk46 : SX9_usual_46 p l e s m args below meth c D cy ad P V I J A B Af res k46) : SX9_usual_46 p l e s m args below meth c D cy ad P V I J A B Af res (fX9_usual_46 k46) := by
  intro m_terrace m_wars v1 v2 H locs ls hW hl hf
  unfold fX9_usual_46 at hf
  refine lv_iload_n C0.1 C0.2.1 dX9_usual_46 rfl (lv_at hl 2 rfl) ?_
  refine lv_bipush (v := 10) C0.1 C0.2.1 dX9_usual_47 kB_10 ?_
  refine lv_icmp_ge (tgt := 70) C0.1 C0.2.1 dX9_usual_49 (by decide) (fun hc1 => ?_) (fun hc1 => ?_)
  · have hf := ite_t hc1 hf
    obtain rfl := Option.some.inj hf
    exact r_void C0 hK hW dX9_usual_70
  · have hf := ite_f hc1 hf
    refine lv_aload_n C0.1 C0.2.1 dX9_usual_52 rfl (lv_at hl 0 rfl) ?_
    refine s_get (v := .ref (ad 11)) C0 hK hW 0 19 LY_X9_0 rfl fg_X9_41 rfl dX9_usual_53 ?_
    refine lv_bipush (v := 10) C0.1 C0.2.1 dX9_usual_56 kB_10 ?_
    refine lv_iload_n C0.1 C0.2.1 dX9_usual_58 rfl (lv_at hl 1 rfl) ?_
    refine lv_imul C0.1 C0.2.1 dX9_usual_59 ?_
    refine lv_iload_n C0.1 C0.2.1 dX9_usual_60 rfl (lv_at hl 2 rfl) ?_
    refine lv_iadd C0.1 C0.2.1 dX9_usual_61 ?_
    refine lv_iconst (v := 0) C0.1 C0.2.1 dX9_usual_62 kI_0 ?_
    obtain ⟨hb2, hf⟩ := g_some hf
    refine s_iast (f := (upd m_wars (Int32.toNatClampNeg ((10 * v1) + v2)) 0)) C0 hK hW 11 LY_X9_11 hb2 rfl rfl dX9_usual_63 (fun H locs hW => ?_)
    have hW : wd D (dn cy LY_X9 ad P V (gp I []) (gp J []) (gm A [(2, m_terrace), (11, (upd m_wars (Int32.toNatClampNeg ((10 * v1) + v2)) 0))]) (gm B [])) Af s.heap H locs := hW
    refine lv_iinc (v := (v2 + 1)) (lv' := [(2, .int (v2 + 1)), (0, .ref (ad 0)), (1, .int v1)]) C0.1 C0.2.1 dX9_usual_64 hl (k := 2) rfl (congrArg (fun z => _ + z) kI_1) (by decide) rfl (fun ls hl => ?_)
    refine lv_goto (tgt := 46) C0.1 C0.2.1 dX9_usual_67 (by decide) ?_
    exact hk46 m_terrace (upd m_wars (Int32.toNatClampNeg ((10 * v1) + v2)) 0) v1 (v2 + 1) H locs ls hW (lv_sub hl [1, 2, 0] rfl) hf
theorem TX9_usual_46 {p : Program} {l : Launch} {e : Env} {s : State} {m : MethodId} {args : Array Value} {below : List Frame} {meth : Method} {c : Code} {D : va_G} {cy : Nat → ClassId} {ad : Nat → Nat} {P : MP} {V : MV} {I : MI} {J : MJ} {A : MI} {B : MJ} {Af : Nat → Prop} {res : (Nat → Int32) × (Nat → Int32)} (C0 : CX p s m args meth c cX9_usual 3 none RX9) (hK : va_K D vwCl (tyG cy) s) (hN : NWs s) (hA : ∀ q, s.heap.size ≤ q → Af q) : ∀ n, SX9_usual_46 p l e s m args below meth c D cy ad P V I J A B Af res (itr (fun kk => fX9_usual_46  kk) (fun _ _ _ _ => none) n) := by
  intro n
  induction n with
  | zero => intro m_terrace m_wars v1 v2 H locs ls hW hl hf; exact (nomatch (show (none : Option ((Nat → Int32) × (Nat → Int32))) = some res from hf))
  | succ n ih => exact tX9_usual_46 C0 hK hN hA  ih
def fX9_usual (m_terrace : (Nat → Int32)) (m_wars : (Nat → Int32)) (v1 : Int32) : Option ((Nat → Int32) × (Nat → Int32)) := bif inb ((4 * v1) + 0) 8 then (bif inb ((4 * v1) + 1) 8 then (bif inb ((4 * v1) + 2) 8 then (bif inb ((4 * v1) + 3) 8 then (itr (fun kk => fX9_usual_46 kk) (fun _ _ _ _ => none) FU (upd (upd (upd (upd m_terrace (Int32.toNatClampNeg ((4 * v1) + 0)) 0) (Int32.toNatClampNeg ((4 * v1) + 1)) 0) (Int32.toNatClampNeg ((4 * v1) + 2)) 5) (Int32.toNatClampNeg ((4 * v1) + 3)) 0) m_wars v1 0) else none) else none) else none) else none
set_option maxHeartbeats 4000000 in
set_option maxRecDepth 100000 in
theorem KX9_usual (l : Launch) (D : va_G) (cy : Nat → ClassId) (ad : Nat → Nat) (P : MP) (V : MV) (I : MI) (J : MJ) (A : MI) (B : MJ) (v1 : Int32) {res : (Nat → Int32) × (Nat → Int32)} (hf : fX9_usual (A 2) (A 11) v1 = some res) : CG l yX9_usual cX9_usual 3 none rmX9_usual D cy (dn cy LY_X9 ad P V I J A B) [.ref (ad 0), .int v1] none (dn cy LY_X9 ad P V (gp I []) (gp J []) (gm A [(2, res.1), (11, res.2)]) (gm B [])) := by
  refine CG.of (own := RX9) (by decide) rfl rfl ?_
  intro p e s m below meth c ls Af C0 hK hN hA hW hl
  have hW : wd D (dn cy LY_X9 ad P V (gp I []) (gp J []) (gm A [(2, (A 2)), (11, (A 11))]) (gm B [])) Af s.heap s.heap [] := wd_sel [] [] [2, 11] [] hW
  have hl : lv_has ls 3 [(0, .ref (ad 0)), (1, .int v1)] := hl
  unfold fX9_usual at hf
  refine lv_aload_n C0.1 C0.2.1 dX9_usual_0 rfl (lv_at hl 0 rfl) ?_
  refine s_get (v := .ref (ad 2)) C0 hK hW 0 10 LY_X9_0 rfl fg_X9_13 rfl dX9_usual_1 ?_
  refine lv_iconst (v := 4) C0.1 C0.2.1 dX9_usual_4 kI_4 ?_
  refine lv_iload_n C0.1 C0.2.1 dX9_usual_5 rfl (lv_at hl 1 rfl) ?_
  refine lv_imul C0.1 C0.2.1 dX9_usual_6 ?_
  refine lv_iconst (v := 0) C0.1 C0.2.1 dX9_usual_7 kI_0 ?_
  refine lv_iadd C0.1 C0.2.1 dX9_usual_8 ?_
  refine lv_iconst (v := 0) C0.1 C0.2.1 dX9_usual_9 kI_0 ?_
  obtain ⟨hb1, hf⟩ := g_some hf
  refine s_iast (f := (upd (A 2) (Int32.toNatClampNeg ((4 * v1) + 0)) 0)) C0 hK hW 2 LY_X9_2 hb1 rfl rfl dX9_usual_10 (fun H locs hW => ?_)
  have hW : wd D (dn cy LY_X9 ad P V (gp I []) (gp J []) (gm A [(2, (upd (A 2) (Int32.toNatClampNeg ((4 * v1) + 0)) 0)), (11, (A 11))]) (gm B [])) Af s.heap H locs := hW
  refine lv_aload_n C0.1 C0.2.1 dX9_usual_11 rfl (lv_at hl 0 rfl) ?_
  refine s_get (v := .ref (ad 2)) C0 hK hW 0 10 LY_X9_0 rfl fg_X9_13 rfl dX9_usual_12 ?_
  refine lv_iconst (v := 4) C0.1 C0.2.1 dX9_usual_15 kI_4 ?_
  refine lv_iload_n C0.1 C0.2.1 dX9_usual_16 rfl (lv_at hl 1 rfl) ?_
  refine lv_imul C0.1 C0.2.1 dX9_usual_17 ?_
  refine lv_iconst (v := 1) C0.1 C0.2.1 dX9_usual_18 kI_1 ?_
  refine lv_iadd C0.1 C0.2.1 dX9_usual_19 ?_
  refine lv_iconst (v := 0) C0.1 C0.2.1 dX9_usual_20 kI_0 ?_
  obtain ⟨hb2, hf⟩ := g_some hf
  refine s_iast (f := (upd (upd (A 2) (Int32.toNatClampNeg ((4 * v1) + 0)) 0) (Int32.toNatClampNeg ((4 * v1) + 1)) 0)) C0 hK hW 2 LY_X9_2 hb2 rfl rfl dX9_usual_21 (fun H locs hW => ?_)
  have hW : wd D (dn cy LY_X9 ad P V (gp I []) (gp J []) (gm A [(2, (upd (upd (A 2) (Int32.toNatClampNeg ((4 * v1) + 0)) 0) (Int32.toNatClampNeg ((4 * v1) + 1)) 0)), (11, (A 11))]) (gm B [])) Af s.heap H locs := hW
  refine lv_aload_n C0.1 C0.2.1 dX9_usual_22 rfl (lv_at hl 0 rfl) ?_
  refine s_get (v := .ref (ad 2)) C0 hK hW 0 10 LY_X9_0 rfl fg_X9_13 rfl dX9_usual_23 ?_
  refine lv_iconst (v := 4) C0.1 C0.2.1 dX9_usual_26 kI_4 ?_
  refine lv_iload_n C0.1 C0.2.1 dX9_usual_27 rfl (lv_at hl 1 rfl) ?_
  refine lv_imul C0.1 C0.2.1 dX9_usual_28 ?_
  refine lv_iconst (v := 2) C0.1 C0.2.1 dX9_usual_29 kI_2 ?_
  refine lv_iadd C0.1 C0.2.1 dX9_usual_30 ?_
  refine lv_iconst (v := 5) C0.1 C0.2.1 dX9_usual_31 kI_5 ?_
  obtain ⟨hb3, hf⟩ := g_some hf
  refine s_iast (f := (upd (upd (upd (A 2) (Int32.toNatClampNeg ((4 * v1) + 0)) 0) (Int32.toNatClampNeg ((4 * v1) + 1)) 0) (Int32.toNatClampNeg ((4 * v1) + 2)) 5)) C0 hK hW 2 LY_X9_2 hb3 rfl rfl dX9_usual_32 (fun H locs hW => ?_)
  have hW : wd D (dn cy LY_X9 ad P V (gp I []) (gp J []) (gm A [(2, (upd (upd (upd (A 2) (Int32.toNatClampNeg ((4 * v1) + 0)) 0) (Int32.toNatClampNeg ((4 * v1) + 1)) 0) (Int32.toNatClampNeg ((4 * v1) + 2)) 5)), (11, (A 11))]) (gm B [])) Af s.heap H locs := hW
  refine lv_aload_n C0.1 C0.2.1 dX9_usual_33 rfl (lv_at hl 0 rfl) ?_
  refine s_get (v := .ref (ad 2)) C0 hK hW 0 10 LY_X9_0 rfl fg_X9_13 rfl dX9_usual_34 ?_
  refine lv_iconst (v := 4) C0.1 C0.2.1 dX9_usual_37 kI_4 ?_
  refine lv_iload_n C0.1 C0.2.1 dX9_usual_38 rfl (lv_at hl 1 rfl) ?_
  refine lv_imul C0.1 C0.2.1 dX9_usual_39 ?_
  refine lv_iconst (v := 3) C0.1 C0.2.1 dX9_usual_40 kI_3 ?_
  refine lv_iadd C0.1 C0.2.1 dX9_usual_41 ?_
  refine lv_iconst (v := 0) C0.1 C0.2.1 dX9_usual_42 kI_0 ?_
  obtain ⟨hb4, hf⟩ := g_some hf
  refine s_iast (f := (upd (upd (upd (upd (A 2) (Int32.toNatClampNeg ((4 * v1) + 0)) 0) (Int32.toNatClampNeg ((4 * v1) + 1)) 0) (Int32.toNatClampNeg ((4 * v1) + 2)) 5) (Int32.toNatClampNeg ((4 * v1) + 3)) 0)) C0 hK hW 2 LY_X9_2 hb4 rfl rfl dX9_usual_43 (fun H locs hW => ?_)
  have hW : wd D (dn cy LY_X9 ad P V (gp I []) (gp J []) (gm A [(2, (upd (upd (upd (upd (A 2) (Int32.toNatClampNeg ((4 * v1) + 0)) 0) (Int32.toNatClampNeg ((4 * v1) + 1)) 0) (Int32.toNatClampNeg ((4 * v1) + 2)) 5) (Int32.toNatClampNeg ((4 * v1) + 3)) 0)), (11, (A 11))]) (gm B [])) Af s.heap H locs := hW
  refine lv_iconst (v := 0) C0.1 C0.2.1 dX9_usual_44 kI_0 ?_
  refine lv_istore_n (lv' := [(2, .int 0), (0, .ref (ad 0)), (1, .int v1)]) C0.1 C0.2.1 dX9_usual_45 rfl hl (by decide) rfl (fun ls hl => ?_)
  exact TX9_usual_46 C0 hK hN hA  FU (upd (upd (upd (upd (A 2) (Int32.toNatClampNeg ((4 * v1) + 0)) 0) (Int32.toNatClampNeg ((4 * v1) + 1)) 0) (Int32.toNatClampNeg ((4 * v1) + 2)) 5) (Int32.toNatClampNeg ((4 * v1) + 3)) 0) (A 11) v1 0 _ _ ls hW (lv_sub hl [1, 2, 0] rfl) hf
-- X9_thrown
def rmX9_thrown : Room := { frames := 1, cells := 0, slots := 0, locals := 21 }
def fX9_thrown (m_thrown : Int32) : Option (Int32) := some (m_thrown)
set_option maxHeartbeats 4000000 in
set_option maxRecDepth 100000 in
theorem KX9_thrown (l : Launch) (D : va_G) (cy : Nat → ClassId) (ad : Nat → Nat) (P : MP) (V : MV) (I : MI) (J : MJ) (A : MI) (B : MJ) {res : Int32} (hf : fX9_thrown (I 0 0) = some res) : CG l yX9_thrown cX9_thrown 1 (some .int) rmX9_thrown D cy (dn cy LY_X9 ad P V I J A B) [.ref (ad 0)] (some (.int res)) (dn cy LY_X9 ad P V (gp I []) (gp J []) (gm A []) (gm B [])) := by
  refine CG.of (own := RX9) (by decide) rfl rfl ?_
  intro p e s m below meth c ls Af C0 hK hN hA hW hl
  have hW : wd D (dn cy LY_X9 ad P V (gp I []) (gp J []) (gm A []) (gm B [])) Af s.heap s.heap [] := wd_sel [] [] [] [] hW
  have hl : lv_has ls 1 [(0, .ref (ad 0))] := hl
  unfold fX9_thrown at hf
  refine lv_aload_n C0.1 C0.2.1 dX9_thrown_0 rfl (lv_at hl 0 rfl) ?_
  refine s_get (v := .int (I 0 0)) C0 hK hW 0 0 LY_X9_0 rfl fg_X9_142 rfl dX9_thrown_1 ?_
  obtain rfl := Option.some.inj hf
  exact r_int C0 hK hW dX9_thrown_4
-- X9_within
def rmX9_within : Room := { frames := 1, cells := 0, slots := 0, locals := 21 }
def fX9_within (v0 : Int32) (v1 : Int32) (v2 : Int32) : Option (Int32) := if v0 < v1 then (some (0)) else (if v2 < v0 then (some (0)) else (some (1)))
set_option maxHeartbeats 4000000 in
set_option maxRecDepth 100000 in
theorem KX9_within (l : Launch) (D : va_G) (cy : Nat → ClassId) (ad : Nat → Nat) (P : MP) (V : MV) (I : MI) (J : MJ) (A : MI) (B : MJ) (v0 : Int32) (v1 : Int32) (v2 : Int32) {res : Int32} (hf : fX9_within v0 v1 v2 = some res) : CG l yX9_within cX9_within 3 (some .boolean) rmX9_within D cy (dn cy LY_0 ad P V I J A B) [.int v0, .int v1, .int v2] (some (.int res)) (dn cy LY_0 ad P V (gp I []) (gp J []) (gm A []) (gm B [])) := by
  refine CG.of (own := RX9) (by decide) rfl rfl ?_
  intro p e s m below meth c ls Af C0 hK hN hA hW hl
  have hW : wd D (dn cy LY_0 ad P V (gp I []) (gp J []) (gm A []) (gm B [])) Af s.heap s.heap [] := wd_sel [] [] [] [] hW
  have hl : lv_has ls 3 [(0, .int v0), (1, .int v1), (2, .int v2)] := hl
  unfold fX9_within at hf
  refine lv_iload_n C0.1 C0.2.1 dX9_within_0 rfl (lv_at hl 0 rfl) ?_
  refine lv_iload_n C0.1 C0.2.1 dX9_within_1 rfl (lv_at hl 1 rfl) ?_
  refine lv_icmp_lt (tgt := 14) C0.1 C0.2.1 dX9_within_2 (by decide) (fun hc1 => ?_) (fun hc1 => ?_)
  · have hf := ite_t hc1 hf
    refine lv_iconst (v := 0) C0.1 C0.2.1 dX9_within_14 kI_0 ?_
    obtain rfl := Option.some.inj hf
    exact r_bool C0 hK hW (v' := 0) rfl dX9_within_15
  · have hf := ite_f hc1 hf
    refine lv_iload_n C0.1 C0.2.1 dX9_within_5 rfl (lv_at hl 0 rfl) ?_
    refine lv_iload_n C0.1 C0.2.1 dX9_within_6 rfl (lv_at hl 2 rfl) ?_
    refine lv_icmp_gt (tgt := 14) C0.1 C0.2.1 dX9_within_7 (by decide) (fun hc2 => ?_) (fun hc2 => ?_)
    · have hf := ite_t hc2 hf
      refine lv_iconst (v := 0) C0.1 C0.2.1 dX9_within_14 kI_0 ?_
      obtain rfl := Option.some.inj hf
      exact r_bool C0 hK hW (v' := 0) rfl dX9_within_15
    · have hf := ite_f hc2 hf
      refine lv_iconst (v := 1) C0.1 C0.2.1 dX9_within_10 kI_1 ?_
      refine lv_goto (tgt := 15) C0.1 C0.2.1 dX9_within_11 (by decide) ?_
      obtain rfl := Option.some.inj hf
      exact r_bool C0 hK hW (v' := 1) rfl dX9_within_15
-- X9_bits
def rmX9_bits : Room := { frames := 1, cells := 0, slots := 0, locals := 21 }
def SX9_bits_4 (p : Program) (l : Launch) (e : Env) (s : State) (m : MethodId) (args : Array Value) (below : List Frame) (meth : Method) (c : Code) (D : va_G) (cy : Nat → ClassId) (ad : Nat → Nat) (P : MP) (V : MV) (I : MI) (J : MJ) (A : MI) (B : MJ) (Af : Nat → Prop) (res : Int32) (k : Int32 → Int32 → Int32 → Option (Int32)) : Prop := ∀ (v0 : Int32) (v1 : Int32) (v2 : Int32) (H : Heap) (locs : List Loc) (ls : Array Slot), wd D (dn cy LY_0 ad P V (gp I []) (gp J []) (gm A []) (gm B [])) Af s.heap H locs → lv_has ls 3 [(0, .int v0), (1, .int v1), (2, .int v2)] → k v0 v1 v2 = some res → W p l e rmX9_bits s m args below meth c H locs 0 0 (ZQ below D cy (dn cy LY_0 ad P V (gp I []) (gp J []) (gm A []) (gm B [])) (some (.int res)) Af args s) (F0 m 4 ls [])
def fX9_bits_4 (k4 : Int32 → Int32 → Int32 → Option (Int32)) (v0 : Int32) (v1 : Int32) (v2 : Int32) : Option (Int32) := if 6 ≤ v2 then (some (v1)) else (k4 v0 (v1 + ((v0 >>> (v2 &&& 31)) &&& 1)) (v2 + 1))
set_option maxHeartbeats 4000000 in
set_option maxRecDepth 100000 in
theorem tX9_bits_4 {p : Program} {l : Launch} {e : Env} {s : State} {m : MethodId} {args : Array Value} {below : List Frame} {meth : Method} {c : Code} {D : va_G} {cy : Nat → ClassId} {ad : Nat → Nat} {P : MP} {V : MV} {I : MI} {J : MJ} {A : MI} {B : MJ} {Af : Nat → Prop} {res : Int32} (C0 : CX p s m args meth c cX9_bits 3 (some .int) RX9) (hK : va_K D vwCl (tyG cy) s) (hN : NWs s) (hA : ∀ q, s.heap.size ≤ q → Af q) {k4 : Int32 → Int32 → Int32 → Option (Int32)} (hk4 : SX9_bits_4 p l e s m args below meth c D cy ad P V I J A B Af res k4) : SX9_bits_4 p l e s m args below meth c D cy ad P V I J A B Af res (fX9_bits_4 k4) := by
  intro v0 v1 v2 H locs ls hW hl hf
  unfold fX9_bits_4 at hf
  refine lv_iload_n C0.1 C0.2.1 dX9_bits_4 rfl (lv_at hl 2 rfl) ?_
  refine lv_bipush (v := 6) C0.1 C0.2.1 dX9_bits_5 kB_6 ?_
  refine lv_icmp_ge (tgt := 24) C0.1 C0.2.1 dX9_bits_7 (by decide) (fun hc1 => ?_) (fun hc1 => ?_)
  · have hf := ite_t hc1 hf
    refine lv_iload_n C0.1 C0.2.1 dX9_bits_24 rfl (lv_at hl 1 rfl) ?_
    obtain rfl := Option.some.inj hf
    exact r_int C0 hK hW dX9_bits_25
  · have hf := ite_f hc1 hf
    refine lv_iload_n C0.1 C0.2.1 dX9_bits_10 rfl (lv_at hl 1 rfl) ?_
    refine lv_iload_n C0.1 C0.2.1 dX9_bits_11 rfl (lv_at hl 0 rfl) ?_
    refine lv_iload_n C0.1 C0.2.1 dX9_bits_12 rfl (lv_at hl 2 rfl) ?_
    refine lv_ishr C0.1 C0.2.1 dX9_bits_13 ?_
    refine lv_iconst (v := 1) C0.1 C0.2.1 dX9_bits_14 kI_1 ?_
    refine lv_iand C0.1 C0.2.1 dX9_bits_15 ?_
    refine lv_iadd C0.1 C0.2.1 dX9_bits_16 ?_
    refine lv_istore_n (lv' := [(1, .int (v1 + ((v0 >>> (v2 &&& 31)) &&& 1))), (0, .int v0), (2, .int v2)]) C0.1 C0.2.1 dX9_bits_17 rfl hl (by decide) rfl (fun ls hl => ?_)
    refine lv_iinc (v := (v2 + 1)) (lv' := [(2, .int (v2 + 1)), (1, .int (v1 + ((v0 >>> (v2 &&& 31)) &&& 1))), (0, .int v0)]) C0.1 C0.2.1 dX9_bits_18 hl (k := 2) rfl (congrArg (fun z => _ + z) kI_1) (by decide) rfl (fun ls hl => ?_)
    refine lv_goto (tgt := 4) C0.1 C0.2.1 dX9_bits_21 (by decide) ?_
    exact hk4 v0 (v1 + ((v0 >>> (v2 &&& 31)) &&& 1)) (v2 + 1) H locs ls hW (lv_sub hl [2, 1, 0] rfl) hf
theorem TX9_bits_4 {p : Program} {l : Launch} {e : Env} {s : State} {m : MethodId} {args : Array Value} {below : List Frame} {meth : Method} {c : Code} {D : va_G} {cy : Nat → ClassId} {ad : Nat → Nat} {P : MP} {V : MV} {I : MI} {J : MJ} {A : MI} {B : MJ} {Af : Nat → Prop} {res : Int32} (C0 : CX p s m args meth c cX9_bits 3 (some .int) RX9) (hK : va_K D vwCl (tyG cy) s) (hN : NWs s) (hA : ∀ q, s.heap.size ≤ q → Af q) : ∀ n, SX9_bits_4 p l e s m args below meth c D cy ad P V I J A B Af res (itr (fun kk => fX9_bits_4  kk) (fun _ _ _ => none) n) := by
  intro n
  induction n with
  | zero => intro v0 v1 v2 H locs ls hW hl hf; exact (nomatch (show (none : Option (Int32)) = some res from hf))
  | succ n ih => exact tX9_bits_4 C0 hK hN hA  ih
def fX9_bits (v0 : Int32) : Option (Int32) := itr (fun kk => fX9_bits_4 kk) (fun _ _ _ => none) FU v0 0 0
set_option maxHeartbeats 4000000 in
set_option maxRecDepth 100000 in
theorem KX9_bits (l : Launch) (D : va_G) (cy : Nat → ClassId) (ad : Nat → Nat) (P : MP) (V : MV) (I : MI) (J : MJ) (A : MI) (B : MJ) (v0 : Int32) {res : Int32} (hf : fX9_bits v0 = some res) : CG l yX9_bits cX9_bits 3 (some .int) rmX9_bits D cy (dn cy LY_0 ad P V I J A B) [.int v0] (some (.int res)) (dn cy LY_0 ad P V (gp I []) (gp J []) (gm A []) (gm B [])) := by
  refine CG.of (own := RX9) (by decide) rfl rfl ?_
  intro p e s m below meth c ls Af C0 hK hN hA hW hl
  have hW : wd D (dn cy LY_0 ad P V (gp I []) (gp J []) (gm A []) (gm B [])) Af s.heap s.heap [] := wd_sel [] [] [] [] hW
  have hl : lv_has ls 3 [(0, .int v0)] := hl
  unfold fX9_bits at hf
  refine lv_iconst (v := 0) C0.1 C0.2.1 dX9_bits_0 kI_0 ?_
  refine lv_istore_n (lv' := [(1, .int 0), (0, .int v0)]) C0.1 C0.2.1 dX9_bits_1 rfl hl (by decide) rfl (fun ls hl => ?_)
  refine lv_iconst (v := 0) C0.1 C0.2.1 dX9_bits_2 kI_0 ?_
  refine lv_istore_n (lv' := [(2, .int 0), (1, .int 0), (0, .int v0)]) C0.1 C0.2.1 dX9_bits_3 rfl hl (by decide) rfl (fun ls hl => ?_)
  exact TX9_bits_4 C0 hK hN hA  FU v0 0 0 _ _ ls hW (lv_sub hl [2, 1, 0] rfl) hf
-- X9_feed
def rmX9_feed : Room := { frames := 1, cells := 0, slots := 0, locals := 21 }
def SX9_feed_93 (p : Program) (l : Launch) (e : Env) (s : State) (m : MethodId) (args : Array Value) (below : List Frame) (meth : Method) (c : Code) (D : va_G) (cy : Nat → ClassId) (ad : Nat → Nat) (P : MP) (V : MV) (I : MI) (J : MJ) (A : MI) (B : MJ) (Af : Nat → Prop) (res : Int32 × Int32 × Int32 × (Nat → Int32)) (k : Int32 → Int32 → (Nat → Int32) → Int64 → Int64 → Int64 → Int32 → Int32 → Option (Int32 × Int32 × Int32 × (Nat → Int32))) : Prop := ∀ (m_thrown : Int32) (m_taped : Int32) (m_tape : (Nat → Int32)) (v1 : Int64) (v3 : Int64) (v5 : Int64) (v7 : Int32) (v10 : Int32) (H : Heap) (locs : List Loc) (ls : Array Slot), wd D (dn cy LY_X9 ad P V (gp I [(0, 0, m_thrown), (0, 1, m_taped)]) (gp J []) (gm A [(1, m_tape)]) (gm B [])) Af s.heap H locs → lv_has ls 11 [(0, .ref (ad 0)), (1, .long v1), (3, .long v3), (5, .long v5), (7, .int v7), (10, .int v10)] → k m_thrown m_taped m_tape v1 v3 v5 v7 v10 = some res → W p l e rmX9_feed s m args below meth c H locs 0 0 (ZQ below D cy (dn cy LY_X9 ad P V (gp I [(0, 0, res.2.1), (0, 1, res.2.2.1)]) (gp J []) (gm A [(1, res.2.2.2)]) (gm B [])) (some (.int res.1)) Af args s) (F0 m 93 ls [])
def SX9_feed_39 (p : Program) (l : Launch) (e : Env) (s : State) (m : MethodId) (args : Array Value) (below : List Frame) (meth : Method) (c : Code) (D : va_G) (cy : Nat → ClassId) (ad : Nat → Nat) (P : MP) (V : MV) (I : MI) (J : MJ) (A : MI) (B : MJ) (Af : Nat → Prop) (res : Int32 × Int32 × Int32 × (Nat → Int32)) (k : Int32 → Int32 → (Nat → Int32) → Int64 → Int64 → Int64 → Int32 → Int64 → Option (Int32 × Int32 × Int32 × (Nat → Int32))) : Prop := ∀ (m_thrown : Int32) (m_taped : Int32) (m_tape : (Nat → Int32)) (v1 : Int64) (v3 : Int64) (v5 : Int64) (v7 : Int32) (x0 : Int64) (H : Heap) (locs : List Loc) (ls : Array Slot), wd D (dn cy LY_X9 ad P V (gp I [(0, 0, m_thrown), (0, 1, m_taped)]) (gp J []) (gm A [(1, m_tape)]) (gm B [])) Af s.heap H locs → lv_has ls 11 [(0, .ref (ad 0)), (1, .long v1), (3, .long v3), (5, .long v5), (7, .int v7)] → k m_thrown m_taped m_tape v1 v3 v5 v7 x0 = some res → W p l e rmX9_feed s m args below meth c H locs 0 0 (ZQ below D cy (dn cy LY_X9 ad P V (gp I [(0, 0, res.2.1), (0, 1, res.2.2.1)]) (gp J []) (gm A [(1, res.2.2.2)]) (gm B [])) (some (.int res.1)) Af args s) (F0 m 39 ls [.long x0])
def SX9_feed_8 (p : Program) (l : Launch) (e : Env) (s : State) (m : MethodId) (args : Array Value) (below : List Frame) (meth : Method) (c : Code) (D : va_G) (cy : Nat → ClassId) (ad : Nat → Nat) (P : MP) (V : MV) (I : MI) (J : MJ) (A : MI) (B : MJ) (Af : Nat → Prop) (res : Int32 × Int32 × Int32 × (Nat → Int32)) (k : Int32 → Int32 → (Nat → Int32) → Int64 → Int64 → Int64 → Int32 → Option (Int32 × Int32 × Int32 × (Nat → Int32))) : Prop := ∀ (m_thrown : Int32) (m_taped : Int32) (m_tape : (Nat → Int32)) (v1 : Int64) (v3 : Int64) (v5 : Int64) (v7 : Int32) (H : Heap) (locs : List Loc) (ls : Array Slot), wd D (dn cy LY_X9 ad P V (gp I [(0, 0, m_thrown), (0, 1, m_taped)]) (gp J []) (gm A [(1, m_tape)]) (gm B [])) Af s.heap H locs → lv_has ls 11 [(0, .ref (ad 0)), (1, .long v1), (3, .long v3), (5, .long v5), (7, .int v7)] → k m_thrown m_taped m_tape v1 v3 v5 v7 = some res → W p l e rmX9_feed s m args below meth c H locs 0 0 (ZQ below D cy (dn cy LY_X9 ad P V (gp I [(0, 0, res.2.1), (0, 1, res.2.2.1)]) (gp J []) (gm A [(1, res.2.2.2)]) (gm B [])) (some (.int res.1)) Af args s) (F0 m 8 ls [])
def fX9_feed_93 (k8 : Int32 → Int32 → (Nat → Int32) → Int64 → Int64 → Int64 → Int32 → Option (Int32 × Int32 × Int32 × (Nat → Int32))) (m_thrown : Int32) (m_taped : Int32) (m_tape : (Nat → Int32)) (v1 : Int64) (v3 : Int64) (v5 : Int64) (v7 : Int32) (v10 : Int32) : Option (Int32 × Int32 × Int32 × (Nat → Int32)) := bif inb m_taped 1000 then (k8 m_thrown (m_taped + 1) (upd m_tape (Int32.toNatClampNeg m_taped) v10) v1 v3 v5 (v7 + 1)) else none
set_option maxHeartbeats 4000000 in
set_option maxRecDepth 100000 in
theorem tX9_feed_93 {p : Program} {l : Launch} {e : Env} {s : State} {m : MethodId} {args : Array Value} {below : List Frame} {meth : Method} {c : Code} {D : va_G} {cy : Nat → ClassId} {ad : Nat → Nat} {P : MP} {V : MV} {I : MI} {J : MJ} {A : MI} {B : MJ} {Af : Nat → Prop} {res : Int32 × Int32 × Int32 × (Nat → Int32)} (C0 : CX p s m args meth c cX9_feed 11 (some .int) RX9) (hK : va_K D vwCl (tyG cy) s) (hN : NWs s) (hA : ∀ q, s.heap.size ≤ q → Af q) {k8 : Int32 → Int32 → (Nat → Int32) → Int64 → Int64 → Int64 → Int32 → Option (Int32 × Int32 × Int32 × (Nat → Int32))} (hk8 : SX9_feed_8 p l e s m args below meth c D cy ad P V I J A B Af res k8) : SX9_feed_93 p l e s m args below meth c D cy ad P V I J A B Af res (fX9_feed_93 k8) := by
  intro m_thrown m_taped m_tape v1 v3 v5 v7 v10 H locs ls hW hl hf
  unfold fX9_feed_93 at hf
  refine lv_aload_n C0.1 C0.2.1 dX9_feed_93 rfl (lv_at hl 0 rfl) ?_
  refine s_get (v := .ref (ad 1)) C0 hK hW 0 2 LY_X9_0 rfl fg_X9_7 rfl dX9_feed_94 ?_
  refine lv_aload_n C0.1 C0.2.1 dX9_feed_97 rfl (lv_at hl 0 rfl) ?_
  refine s_get (v := .int m_taped) C0 hK hW 0 1 LY_X9_0 rfl fg_X9_148 rfl dX9_feed_98 ?_
  refine lv_iload C0.1 C0.2.1 dX9_feed_101 (lv_at hl 5 rfl) ?_
  obtain ⟨hb1, hf⟩ := g_some hf
  refine s_iast (f := (upd m_tape (Int32.toNatClampNeg m_taped) v10)) C0 hK hW 1 LY_X9_1 hb1 rfl rfl dX9_feed_103 (fun H locs hW => ?_)
  have hW : wd D (dn cy LY_X9 ad P V (gp I [(0, 0, m_thrown), (0, 1, m_taped)]) (gp J []) (gm A [(1, (upd m_tape (Int32.toNatClampNeg m_taped) v10))]) (gm B [])) Af s.heap H locs := hW
  refine lv_aload_n C0.1 C0.2.1 dX9_feed_104 rfl (lv_at hl 0 rfl) ?_
  refine lv_dup C0.1 C0.2.1 dX9_feed_105 rfl ?_
  refine s_get (v := .int m_taped) C0 hK hW 0 1 LY_X9_0 rfl fg_X9_148 rfl dX9_feed_106 ?_
  refine lv_iconst (v := 1) C0.1 C0.2.1 dX9_feed_109 kI_1 ?_
  refine lv_iadd C0.1 C0.2.1 dX9_feed_110 ?_
  refine s_putI C0 hK hW 0 1 LY_X9_0 rfl fg_X9_148 fp_X9_1 rfl dX9_feed_111 (fun H locs hW => ?_)
  have hW : wd D (dn cy LY_X9 ad P V (gp I [(0, 0, m_thrown), (0, 1, (m_taped + 1))]) (gp J []) (gm A [(1, (upd m_tape (Int32.toNatClampNeg m_taped) v10))]) (gm B [])) Af s.heap H locs := hW
  refine lv_iinc (v := (v7 + 1)) (lv' := [(7, .int (v7 + 1)), (0, .ref (ad 0)), (1, .long v1), (3, .long v3), (5, .long v5), (10, .int v10)]) C0.1 C0.2.1 dX9_feed_114 hl (k := 4) rfl (congrArg (fun z => _ + z) kI_1) (by decide) rfl (fun ls hl => ?_)
  refine lv_goto (tgt := 8) C0.1 C0.2.1 dX9_feed_117 (by decide) ?_
  exact hk8 m_thrown (m_taped + 1) (upd m_tape (Int32.toNatClampNeg m_taped) v10) v1 v3 v5 (v7 + 1) H locs ls hW (lv_sub hl [1, 2, 3, 4, 0] rfl) hf
def fX9_feed_39 (k8 : Int32 → Int32 → (Nat → Int32) → Int64 → Int64 → Int64 → Int32 → Option (Int32 × Int32 × Int32 × (Nat → Int32))) (m_thrown : Int32) (m_taped : Int32) (m_tape : (Nat → Int32)) (v1 : Int64) (v3 : Int64) (v5 : Int64) (v7 : Int32) (x0 : Int64) : Option (Int32 × Int32 × Int32 × (Nat → Int32)) := if 1000 ≤ m_taped then (k8 m_thrown m_taped m_tape v1 v3 v5 (v7 + 1)) else (if (Int64.toInt32 ((lush x0 (56 - (8 * (v7 &&& 7)))) &&& 255)) = 10 then (fX9_feed_93 k8 m_thrown m_taped m_tape v1 v3 v5 v7 (Int64.toInt32 ((lush x0 (56 - (8 * (v7 &&& 7)))) &&& 255))) else (if (Int64.toInt32 ((lush x0 (56 - (8 * (v7 &&& 7)))) &&& 255)) < 32 then (k8 m_thrown m_taped m_tape v1 v3 v5 (v7 + 1)) else (if 126 < (Int64.toInt32 ((lush x0 (56 - (8 * (v7 &&& 7)))) &&& 255)) then (k8 m_thrown m_taped m_tape v1 v3 v5 (v7 + 1)) else (fX9_feed_93 k8 m_thrown m_taped m_tape v1 v3 v5 v7 (Int64.toInt32 ((lush x0 (56 - (8 * (v7 &&& 7)))) &&& 255))))))
set_option maxHeartbeats 4000000 in
set_option maxRecDepth 100000 in
theorem tX9_feed_39 {p : Program} {l : Launch} {e : Env} {s : State} {m : MethodId} {args : Array Value} {below : List Frame} {meth : Method} {c : Code} {D : va_G} {cy : Nat → ClassId} {ad : Nat → Nat} {P : MP} {V : MV} {I : MI} {J : MJ} {A : MI} {B : MJ} {Af : Nat → Prop} {res : Int32 × Int32 × Int32 × (Nat → Int32)} (C0 : CX p s m args meth c cX9_feed 11 (some .int) RX9) (hK : va_K D vwCl (tyG cy) s) (hN : NWs s) (hA : ∀ q, s.heap.size ≤ q → Af q) {k8 : Int32 → Int32 → (Nat → Int32) → Int64 → Int64 → Int64 → Int32 → Option (Int32 × Int32 × Int32 × (Nat → Int32))} (hk8 : SX9_feed_8 p l e s m args below meth c D cy ad P V I J A B Af res k8) : SX9_feed_39 p l e s m args below meth c D cy ad P V I J A B Af res (fX9_feed_39 k8) := by
  intro m_thrown m_taped m_tape v1 v3 v5 v7 x0 H locs ls hW hl hf
  unfold fX9_feed_39 at hf
  refine lv_lstore (lv' := [(8, .long x0), (0, .ref (ad 0)), (1, .long v1), (3, .long v3), (5, .long v5), (7, .int v7)]) C0.1 C0.2.1 dX9_feed_39 hl (by decide) rfl (fun ls hl => ?_)
  refine lv_lload C0.1 C0.2.1 dX9_feed_41 (lv_at hl 0 rfl) ?_
  refine lv_bipush (v := 56) C0.1 C0.2.1 dX9_feed_43 kB_56 ?_
  refine lv_bipush (v := 8) C0.1 C0.2.1 dX9_feed_45 kB_8 ?_
  refine lv_iload C0.1 C0.2.1 dX9_feed_47 (lv_at hl 5 rfl) ?_
  refine lv_bipush (v := 7) C0.1 C0.2.1 dX9_feed_49 kB_7 ?_
  refine lv_iand C0.1 C0.2.1 dX9_feed_51 ?_
  refine lv_imul C0.1 C0.2.1 dX9_feed_52 ?_
  refine lv_isub C0.1 C0.2.1 dX9_feed_53 ?_
  refine lv_lushr (v := (lush x0 (56 - (8 * (v7 &&& 7))))) C0.1 C0.2.1 dX9_feed_54 rfl ?_
  refine lv_ldc2 (v := 255) C0.1 C0.2.1 C0.2.2.2.2.1 (C0.2.2.2.2.2.1 _ uw_1250) dX9_feed_55 ?_
  refine lv_land C0.1 C0.2.1 dX9_feed_58 ?_
  refine lv_l2i (v := (Int64.toInt32 ((lush x0 (56 - (8 * (v7 &&& 7)))) &&& 255))) C0.1 C0.2.1 dX9_feed_59 rfl ?_
  refine lv_istore (lv' := [(10, .int (Int64.toInt32 ((lush x0 (56 - (8 * (v7 &&& 7)))) &&& 255))), (8, .long x0), (0, .ref (ad 0)), (1, .long v1), (3, .long v3), (5, .long v5), (7, .int v7)]) C0.1 C0.2.1 dX9_feed_60 hl (by decide) rfl (fun ls hl => ?_)
  refine lv_aload_n C0.1 C0.2.1 dX9_feed_62 rfl (lv_at hl 2 rfl) ?_
  refine s_get (v := .int m_taped) C0 hK hW 0 1 LY_X9_0 rfl fg_X9_148 rfl dX9_feed_63 ?_
  refine lv_sipush (v := 1000) C0.1 C0.2.1 dX9_feed_66 kS_1000 ?_
  refine lv_icmp_ge (tgt := 114) C0.1 C0.2.1 dX9_feed_69 (by decide) (fun hc1 => ?_) (fun hc1 => ?_)
  · have hf := ite_t hc1 hf
    refine lv_iinc (v := (v7 + 1)) (lv' := [(7, .int (v7 + 1)), (10, .int (Int64.toInt32 ((lush x0 (56 - (8 * (v7 &&& 7)))) &&& 255))), (8, .long x0), (0, .ref (ad 0)), (1, .long v1), (3, .long v3), (5, .long v5)]) C0.1 C0.2.1 dX9_feed_114 hl (k := 6) rfl (congrArg (fun z => _ + z) kI_1) (by decide) rfl (fun ls hl => ?_)
    refine lv_goto (tgt := 8) C0.1 C0.2.1 dX9_feed_117 (by decide) ?_
    exact hk8 m_thrown m_taped m_tape v1 v3 v5 (v7 + 1) H locs ls hW (lv_sub hl [3, 4, 5, 6, 0] rfl) hf
  · have hf := ite_f hc1 hf
    refine lv_iload C0.1 C0.2.1 dX9_feed_72 (lv_at hl 0 rfl) ?_
    refine lv_bipush (v := 10) C0.1 C0.2.1 dX9_feed_74 kB_10 ?_
    refine lv_icmp_eq (tgt := 93) C0.1 C0.2.1 dX9_feed_76 (by decide) (fun hc2 => ?_) (fun hc2 => ?_)
    · have hf := ite_t hc2 hf
      exact tX9_feed_93 C0 hK hN hA hk8 m_thrown m_taped m_tape v1 v3 v5 v7 (Int64.toInt32 ((lush x0 (56 - (8 * (v7 &&& 7)))) &&& 255)) H locs ls hW (lv_sub hl [2, 3, 4, 5, 6, 0] rfl) hf
    · have hf := ite_f hc2 hf
      refine lv_iload C0.1 C0.2.1 dX9_feed_79 (lv_at hl 0 rfl) ?_
      refine lv_bipush (v := 32) C0.1 C0.2.1 dX9_feed_81 kB_32 ?_
      refine lv_icmp_lt (tgt := 114) C0.1 C0.2.1 dX9_feed_83 (by decide) (fun hc3 => ?_) (fun hc3 => ?_)
      · have hf := ite_t hc3 hf
        refine lv_iinc (v := (v7 + 1)) (lv' := [(7, .int (v7 + 1)), (10, .int (Int64.toInt32 ((lush x0 (56 - (8 * (v7 &&& 7)))) &&& 255))), (8, .long x0), (0, .ref (ad 0)), (1, .long v1), (3, .long v3), (5, .long v5)]) C0.1 C0.2.1 dX9_feed_114 hl (k := 6) rfl (congrArg (fun z => _ + z) kI_1) (by decide) rfl (fun ls hl => ?_)
        refine lv_goto (tgt := 8) C0.1 C0.2.1 dX9_feed_117 (by decide) ?_
        exact hk8 m_thrown m_taped m_tape v1 v3 v5 (v7 + 1) H locs ls hW (lv_sub hl [3, 4, 5, 6, 0] rfl) hf
      · have hf := ite_f hc3 hf
        refine lv_iload C0.1 C0.2.1 dX9_feed_86 (lv_at hl 0 rfl) ?_
        refine lv_bipush (v := 126) C0.1 C0.2.1 dX9_feed_88 kB_126 ?_
        refine lv_icmp_gt (tgt := 114) C0.1 C0.2.1 dX9_feed_90 (by decide) (fun hc4 => ?_) (fun hc4 => ?_)
        · have hf := ite_t hc4 hf
          refine lv_iinc (v := (v7 + 1)) (lv' := [(7, .int (v7 + 1)), (10, .int (Int64.toInt32 ((lush x0 (56 - (8 * (v7 &&& 7)))) &&& 255))), (8, .long x0), (0, .ref (ad 0)), (1, .long v1), (3, .long v3), (5, .long v5)]) C0.1 C0.2.1 dX9_feed_114 hl (k := 6) rfl (congrArg (fun z => _ + z) kI_1) (by decide) rfl (fun ls hl => ?_)
          refine lv_goto (tgt := 8) C0.1 C0.2.1 dX9_feed_117 (by decide) ?_
          exact hk8 m_thrown m_taped m_tape v1 v3 v5 (v7 + 1) H locs ls hW (lv_sub hl [3, 4, 5, 6, 0] rfl) hf
        · have hf := ite_f hc4 hf
          exact tX9_feed_93 C0 hK hN hA hk8 m_thrown m_taped m_tape v1 v3 v5 v7 (Int64.toInt32 ((lush x0 (56 - (8 * (v7 &&& 7)))) &&& 255)) H locs ls hW (lv_sub hl [2, 3, 4, 5, 6, 0] rfl) hf
def fX9_feed_8 (k8 : Int32 → Int32 → (Nat → Int32) → Int64 → Int64 → Int64 → Int32 → Option (Int32 × Int32 × Int32 × (Nat → Int32))) (m_thrown : Int32) (m_taped : Int32) (m_tape : (Nat → Int32)) (v1 : Int64) (v3 : Int64) (v5 : Int64) (v7 : Int32) : Option (Int32 × Int32 × Int32 × (Nat → Int32)) := if 24 ≤ v7 then (some (m_taped, m_thrown, m_taped, m_tape)) else (if 8 ≤ v7 then (if 16 ≤ v7 then (fX9_feed_39 k8 m_thrown m_taped m_tape v1 v3 v5 v7 v5) else (fX9_feed_39 k8 m_thrown m_taped m_tape v1 v3 v5 v7 v3)) else (fX9_feed_39 k8 m_thrown m_taped m_tape v1 v3 v5 v7 v1))
set_option maxHeartbeats 4000000 in
set_option maxRecDepth 100000 in
theorem tX9_feed_8 {p : Program} {l : Launch} {e : Env} {s : State} {m : MethodId} {args : Array Value} {below : List Frame} {meth : Method} {c : Code} {D : va_G} {cy : Nat → ClassId} {ad : Nat → Nat} {P : MP} {V : MV} {I : MI} {J : MJ} {A : MI} {B : MJ} {Af : Nat → Prop} {res : Int32 × Int32 × Int32 × (Nat → Int32)} (C0 : CX p s m args meth c cX9_feed 11 (some .int) RX9) (hK : va_K D vwCl (tyG cy) s) (hN : NWs s) (hA : ∀ q, s.heap.size ≤ q → Af q) {k8 : Int32 → Int32 → (Nat → Int32) → Int64 → Int64 → Int64 → Int32 → Option (Int32 × Int32 × Int32 × (Nat → Int32))} (hk8 : SX9_feed_8 p l e s m args below meth c D cy ad P V I J A B Af res k8) : SX9_feed_8 p l e s m args below meth c D cy ad P V I J A B Af res (fX9_feed_8 k8) := by
  intro m_thrown m_taped m_tape v1 v3 v5 v7 H locs ls hW hl hf
  unfold fX9_feed_8 at hf
  refine lv_iload C0.1 C0.2.1 dX9_feed_8 (lv_at hl 4 rfl) ?_
  refine lv_bipush (v := 24) C0.1 C0.2.1 dX9_feed_10 kB_24 ?_
  refine lv_icmp_ge (tgt := 120) C0.1 C0.2.1 dX9_feed_12 (by decide) (fun hc1 => ?_) (fun hc1 => ?_)
  · have hf := ite_t hc1 hf
    refine lv_aload_n C0.1 C0.2.1 dX9_feed_120 rfl (lv_at hl 0 rfl) ?_
    refine s_get (v := .int m_taped) C0 hK hW 0 1 LY_X9_0 rfl fg_X9_148 rfl dX9_feed_121 ?_
    obtain rfl := Option.some.inj hf
    exact r_int C0 hK hW dX9_feed_124
  · have hf := ite_f hc1 hf
    refine lv_iload C0.1 C0.2.1 dX9_feed_15 (lv_at hl 4 rfl) ?_
    refine lv_bipush (v := 8) C0.1 C0.2.1 dX9_feed_17 kB_8 ?_
    refine lv_icmp_ge (tgt := 26) C0.1 C0.2.1 dX9_feed_19 (by decide) (fun hc2 => ?_) (fun hc2 => ?_)
    · have hf := ite_t hc2 hf
      refine lv_iload C0.1 C0.2.1 dX9_feed_26 (lv_at hl 4 rfl) ?_
      refine lv_bipush (v := 16) C0.1 C0.2.1 dX9_feed_28 kB_16 ?_
      refine lv_icmp_ge (tgt := 37) C0.1 C0.2.1 dX9_feed_30 (by decide) (fun hc3 => ?_) (fun hc3 => ?_)
      · have hf := ite_t hc3 hf
        refine lv_lload C0.1 C0.2.1 dX9_feed_37 (lv_at hl 3 rfl) ?_
        exact tX9_feed_39 C0 hK hN hA hk8 m_thrown m_taped m_tape v1 v3 v5 v7 v5 H locs ls hW hl hf
      · have hf := ite_f hc3 hf
        refine lv_lload_n C0.1 C0.2.1 dX9_feed_33 rfl (lv_at hl 2 rfl) ?_
        refine lv_goto (tgt := 39) C0.1 C0.2.1 dX9_feed_34 (by decide) ?_
        exact tX9_feed_39 C0 hK hN hA hk8 m_thrown m_taped m_tape v1 v3 v5 v7 v3 H locs ls hW hl hf
    · have hf := ite_f hc2 hf
      refine lv_lload_n C0.1 C0.2.1 dX9_feed_22 rfl (lv_at hl 1 rfl) ?_
      refine lv_goto (tgt := 39) C0.1 C0.2.1 dX9_feed_23 (by decide) ?_
      exact tX9_feed_39 C0 hK hN hA hk8 m_thrown m_taped m_tape v1 v3 v5 v7 v1 H locs ls hW hl hf
theorem TX9_feed_8 {p : Program} {l : Launch} {e : Env} {s : State} {m : MethodId} {args : Array Value} {below : List Frame} {meth : Method} {c : Code} {D : va_G} {cy : Nat → ClassId} {ad : Nat → Nat} {P : MP} {V : MV} {I : MI} {J : MJ} {A : MI} {B : MJ} {Af : Nat → Prop} {res : Int32 × Int32 × Int32 × (Nat → Int32)} (C0 : CX p s m args meth c cX9_feed 11 (some .int) RX9) (hK : va_K D vwCl (tyG cy) s) (hN : NWs s) (hA : ∀ q, s.heap.size ≤ q → Af q) : ∀ n, SX9_feed_8 p l e s m args below meth c D cy ad P V I J A B Af res (itr (fun kk => fX9_feed_8  kk) (fun _ _ _ _ _ _ _ => none) n) := by
  intro n
  induction n with
  | zero => intro m_thrown m_taped m_tape v1 v3 v5 v7 H locs ls hW hl hf; exact (nomatch (show (none : Option (Int32 × Int32 × Int32 × (Nat → Int32))) = some res from hf))
  | succ n ih => exact tX9_feed_8 C0 hK hN hA  ih
def fX9_feed (m_thrown : Int32) (m_taped : Int32) (m_tape : (Nat → Int32)) (v1 : Int64) (v3 : Int64) (v5 : Int64) : Option (Int32 × Int32 × Int32 × (Nat → Int32)) := itr (fun kk => fX9_feed_8 kk) (fun _ _ _ _ _ _ _ => none) FU 0 m_taped m_tape v1 v3 v5 0
set_option maxHeartbeats 4000000 in
set_option maxRecDepth 100000 in
theorem KX9_feed (l : Launch) (D : va_G) (cy : Nat → ClassId) (ad : Nat → Nat) (P : MP) (V : MV) (I : MI) (J : MJ) (A : MI) (B : MJ) (v1 : Int64) (v3 : Int64) (v5 : Int64) {res : Int32 × Int32 × Int32 × (Nat → Int32)} (hf : fX9_feed (I 0 0) (I 0 1) (A 1) v1 v3 v5 = some res) : CG l yX9_feed cX9_feed 11 (some .int) rmX9_feed D cy (dn cy LY_X9 ad P V I J A B) [.ref (ad 0), .long v1, .long v3, .long v5] (some (.int res.1)) (dn cy LY_X9 ad P V (gp I [(0, 0, res.2.1), (0, 1, res.2.2.1)]) (gp J []) (gm A [(1, res.2.2.2)]) (gm B [])) := by
  refine CG.of (own := RX9) (by decide) rfl rfl ?_
  intro p e s m below meth c ls Af C0 hK hN hA hW hl
  have hW : wd D (dn cy LY_X9 ad P V (gp I [(0, 0, (I 0 0)), (0, 1, (I 0 1))]) (gp J []) (gm A [(1, (A 1))]) (gm B [])) Af s.heap s.heap [] := wd_sel [(0, 0), (0, 1)] [] [1] [] hW
  have hl : lv_has ls 11 [(0, .ref (ad 0)), (1, .long v1), (3, .long v3), (5, .long v5)] := hl
  unfold fX9_feed at hf
  refine lv_aload_n C0.1 C0.2.1 dX9_feed_0 rfl (lv_at hl 0 rfl) ?_
  refine lv_iconst (v := 0) C0.1 C0.2.1 dX9_feed_1 kI_0 ?_
  refine s_putI C0 hK hW 0 0 LY_X9_0 rfl fg_X9_142 fp_X9_0 rfl dX9_feed_2 (fun H locs hW => ?_)
  have hW : wd D (dn cy LY_X9 ad P V (gp I [(0, 0, 0), (0, 1, (I 0 1))]) (gp J []) (gm A [(1, (A 1))]) (gm B [])) Af s.heap H locs := hW
  refine lv_iconst (v := 0) C0.1 C0.2.1 dX9_feed_5 kI_0 ?_
  refine lv_istore (lv' := [(7, .int 0), (0, .ref (ad 0)), (1, .long v1), (3, .long v3), (5, .long v5)]) C0.1 C0.2.1 dX9_feed_6 hl (by decide) rfl (fun ls hl => ?_)
  exact TX9_feed_8 C0 hK hN hA  FU 0 (I 0 1) (A 1) v1 v3 v5 0 _ _ ls hW (lv_sub hl [1, 2, 3, 4, 0] rfl) hf
-- X9_signAt
def rmX9_signAt : Room := { frames := 1, cells := 0, slots := 0, locals := 21 }
def fX9_signAt (m_size : Int32) (m_tape : (Nat → Int32)) (v1 : Int32) : Option (Int32) := if m_size ≤ v1 then (some (0)) else (bif inb v1 1000 then (some ((m_tape (Int32.toNatClampNeg v1)))) else none)
set_option maxHeartbeats 4000000 in
set_option maxRecDepth 100000 in
theorem KX9_signAt (l : Launch) (D : va_G) (cy : Nat → ClassId) (ad : Nat → Nat) (P : MP) (V : MV) (I : MI) (J : MJ) (A : MI) (B : MJ) (v1 : Int32) {res : Int32} (hf : fX9_signAt (I 0 3) (A 1) v1 = some res) : CG l yX9_signAt cX9_signAt 2 (some .int) rmX9_signAt D cy (dn cy LY_X9 ad P V I J A B) [.ref (ad 0), .int v1] (some (.int res)) (dn cy LY_X9 ad P V (gp I []) (gp J []) (gm A []) (gm B [])) := by
  refine CG.of (own := RX9) (by decide) rfl rfl ?_
  intro p e s m below meth c ls Af C0 hK hN hA hW hl
  have hW : wd D (dn cy LY_X9 ad P V (gp I []) (gp J []) (gm A []) (gm B [])) Af s.heap s.heap [] := wd_sel [] [] [] [] hW
  have hl : lv_has ls 2 [(0, .ref (ad 0)), (1, .int v1)] := hl
  unfold fX9_signAt at hf
  refine lv_iload_n C0.1 C0.2.1 dX9_signAt_0 rfl (lv_at hl 1 rfl) ?_
  refine lv_aload_n C0.1 C0.2.1 dX9_signAt_1 rfl (lv_at hl 0 rfl) ?_
  refine s_get (v := .int (I 0 3)) C0 hK hW 0 3 LY_X9_0 rfl fg_X9_151 rfl dX9_signAt_2 ?_
  refine lv_icmp_ge (tgt := 17) C0.1 C0.2.1 dX9_signAt_5 (by decide) (fun hc1 => ?_) (fun hc1 => ?_)
  · have hf := ite_t hc1 hf
    refine lv_iconst (v := 0) C0.1 C0.2.1 dX9_signAt_17 kI_0 ?_
    obtain rfl := Option.some.inj hf
    exact r_int C0 hK hW dX9_signAt_18
  · have hf := ite_f hc1 hf
    refine lv_aload_n C0.1 C0.2.1 dX9_signAt_8 rfl (lv_at hl 0 rfl) ?_
    refine s_get (v := .ref (ad 1)) C0 hK hW 0 2 LY_X9_0 rfl fg_X9_7 rfl dX9_signAt_9 ?_
    refine lv_iload_n C0.1 C0.2.1 dX9_signAt_12 rfl (lv_at hl 1 rfl) ?_
    obtain ⟨hb2, hf⟩ := g_some hf
    refine s_iald (v := ((A 1) (Int32.toNatClampNeg v1))) C0 hK hW 1 LY_X9_1 hb2 rfl dX9_signAt_13 ?_
    refine lv_goto (tgt := 18) C0.1 C0.2.1 dX9_signAt_14 (by decide) ?_
    obtain rfl := Option.some.inj hf
    exact r_int C0 hK hW dX9_signAt_18
-- X9_nextToken
def rmX9_nextToken : Room := { frames := 2, cells := 0, slots := 0, locals := 42 }
def SX9_nextToken_39 (p : Program) (l : Launch) (e : Env) (s : State) (m : MethodId) (args : Array Value) (below : List Frame) (meth : Method) (c : Code) (D : va_G) (cy : Nat → ClassId) (ad : Nat → Nat) (P : MP) (V : MV) (I : MI) (J : MJ) (A : MI) (B : MJ) (Af : Nat → Prop) (res : Int32 × Int32 × Int32 × Int32 × Int64) (k : Int32 → Int32 → Int32 → Int32 → Int64 → Option (Int32 × Int32 × Int32 × Int32 × Int64)) : Prop := ∀ (m_place : Int32) (m_begin : Int32) (m_token : Int32) (m_told : Int32) (m_word : Int64) (H : Heap) (locs : List Loc) (ls : Array Slot), wd D (dn cy LY_X9 ad P V (gp I [(0, 4, m_place), (0, 5, m_begin), (0, 6, m_token), (0, 8, m_told)]) (gp J [(0, 7, m_word)]) (gm A []) (gm B [])) Af s.heap H locs → lv_has ls 2 [(0, .ref (ad 0))] → k m_place m_begin m_token m_told m_word = some res → W p l e rmX9_nextToken s m args below meth c H locs 0 0 (ZQ below D cy (dn cy LY_X9 ad P V (gp I [(0, 4, res.1), (0, 5, res.2.1), (0, 6, res.2.2.1), (0, 8, res.2.2.2.1)]) (gp J [(0, 7, res.2.2.2.2)]) (gm A []) (gm B [])) none Af args s) (F0 m 39 ls [])
def SX9_nextToken_175 (p : Program) (l : Launch) (e : Env) (s : State) (m : MethodId) (args : Array Value) (below : List Frame) (meth : Method) (c : Code) (D : va_G) (cy : Nat → ClassId) (ad : Nat → Nat) (P : MP) (V : MV) (I : MI) (J : MJ) (A : MI) (B : MJ) (Af : Nat → Prop) (res : Int32 × Int32 × Int32 × Int32 × Int64) (k : Int32 → Int32 → Int32 → Int32 → Int64 → Option (Int32 × Int32 × Int32 × Int32 × Int64)) : Prop := ∀ (m_place : Int32) (m_begin : Int32) (m_token : Int32) (m_told : Int32) (m_word : Int64) (H : Heap) (locs : List Loc) (ls : Array Slot), wd D (dn cy LY_X9 ad P V (gp I [(0, 4, m_place), (0, 5, m_begin), (0, 6, m_token), (0, 8, m_told)]) (gp J [(0, 7, m_word)]) (gm A []) (gm B [])) Af s.heap H locs → lv_has ls 2 [(0, .ref (ad 0))] → k m_place m_begin m_token m_told m_word = some res → W p l e rmX9_nextToken s m args below meth c H locs 0 0 (ZQ below D cy (dn cy LY_X9 ad P V (gp I [(0, 4, res.1), (0, 5, res.2.1), (0, 6, res.2.2.1), (0, 8, res.2.2.2.1)]) (gp J [(0, 7, res.2.2.2.2)]) (gm A []) (gm B [])) none Af args s) (F0 m 175 ls [])
def SX9_nextToken_188 (p : Program) (l : Launch) (e : Env) (s : State) (m : MethodId) (args : Array Value) (below : List Frame) (meth : Method) (c : Code) (D : va_G) (cy : Nat → ClassId) (ad : Nat → Nat) (P : MP) (V : MV) (I : MI) (J : MJ) (A : MI) (B : MJ) (Af : Nat → Prop) (res : Int32 × Int32 × Int32 × Int32 × Int64) (k : Int32 → Int32 → Int32 → Int32 → Int64 → Option (Int32 × Int32 × Int32 × Int32 × Int64)) : Prop := ∀ (m_place : Int32) (m_begin : Int32) (m_token : Int32) (m_told : Int32) (m_word : Int64) (H : Heap) (locs : List Loc) (ls : Array Slot), wd D (dn cy LY_X9 ad P V (gp I [(0, 4, m_place), (0, 5, m_begin), (0, 6, m_token), (0, 8, m_told)]) (gp J [(0, 7, m_word)]) (gm A []) (gm B [])) Af s.heap H locs → lv_has ls 2 [(0, .ref (ad 0))] → k m_place m_begin m_token m_told m_word = some res → W p l e rmX9_nextToken s m args below meth c H locs 0 0 (ZQ below D cy (dn cy LY_X9 ad P V (gp I [(0, 4, res.1), (0, 5, res.2.1), (0, 6, res.2.2.1), (0, 8, res.2.2.2.1)]) (gp J [(0, 7, res.2.2.2.2)]) (gm A []) (gm B [])) none Af args s) (F0 m 188 ls [])
def SX9_nextToken_109 (p : Program) (l : Launch) (e : Env) (s : State) (m : MethodId) (args : Array Value) (below : List Frame) (meth : Method) (c : Code) (D : va_G) (cy : Nat → ClassId) (ad : Nat → Nat) (P : MP) (V : MV) (I : MI) (J : MJ) (A : MI) (B : MJ) (Af : Nat → Prop) (res : Int32 × Int32 × Int32 × Int32 × Int64) (k : Int32 → Int32 → Int32 → Int32 → Int64 → Option (Int32 × Int32 × Int32 × Int32 × Int64)) : Prop := ∀ (m_place : Int32) (m_begin : Int32) (m_token : Int32) (m_told : Int32) (m_word : Int64) (H : Heap) (locs : List Loc) (ls : Array Slot), wd D (dn cy LY_X9 ad P V (gp I [(0, 4, m_place), (0, 5, m_begin), (0, 6, m_token), (0, 8, m_told)]) (gp J [(0, 7, m_word)]) (gm A []) (gm B [])) Af s.heap H locs → lv_has ls 2 [(0, .ref (ad 0))] → k m_place m_begin m_token m_told m_word = some res → W p l e rmX9_nextToken s m args below meth c H locs 0 0 (ZQ below D cy (dn cy LY_X9 ad P V (gp I [(0, 4, res.1), (0, 5, res.2.1), (0, 6, res.2.2.1), (0, 8, res.2.2.2.1)]) (gp J [(0, 7, res.2.2.2.2)]) (gm A []) (gm B [])) none Af args s) (F0 m 109 ls [])
def SX9_nextToken_286 (p : Program) (l : Launch) (e : Env) (s : State) (m : MethodId) (args : Array Value) (below : List Frame) (meth : Method) (c : Code) (D : va_G) (cy : Nat → ClassId) (ad : Nat → Nat) (P : MP) (V : MV) (I : MI) (J : MJ) (A : MI) (B : MJ) (Af : Nat → Prop) (res : Int32 × Int32 × Int32 × Int32 × Int64) (k : Int32 → Int32 → Int32 → Int32 → Int64 → Option (Int32 × Int32 × Int32 × Int32 × Int64)) : Prop := ∀ (m_place : Int32) (m_begin : Int32) (m_token : Int32) (m_told : Int32) (m_word : Int64) (H : Heap) (locs : List Loc) (ls : Array Slot), wd D (dn cy LY_X9 ad P V (gp I [(0, 4, m_place), (0, 5, m_begin), (0, 6, m_token), (0, 8, m_told)]) (gp J [(0, 7, m_word)]) (gm A []) (gm B [])) Af s.heap H locs → lv_has ls 2 [(0, .ref (ad 0))] → k m_place m_begin m_token m_told m_word = some res → W p l e rmX9_nextToken s m args below meth c H locs 0 0 (ZQ below D cy (dn cy LY_X9 ad P V (gp I [(0, 4, res.1), (0, 5, res.2.1), (0, 6, res.2.2.1), (0, 8, res.2.2.2.1)]) (gp J [(0, 7, res.2.2.2.2)]) (gm A []) (gm B [])) none Af args s) (F0 m 286 ls [])
def SX9_nextToken_299 (p : Program) (l : Launch) (e : Env) (s : State) (m : MethodId) (args : Array Value) (below : List Frame) (meth : Method) (c : Code) (D : va_G) (cy : Nat → ClassId) (ad : Nat → Nat) (P : MP) (V : MV) (I : MI) (J : MJ) (A : MI) (B : MJ) (Af : Nat → Prop) (res : Int32 × Int32 × Int32 × Int32 × Int64) (k : Int32 → Int32 → Int32 → Int32 → Int64 → Option (Int32 × Int32 × Int32 × Int32 × Int64)) : Prop := ∀ (m_place : Int32) (m_begin : Int32) (m_token : Int32) (m_told : Int32) (m_word : Int64) (H : Heap) (locs : List Loc) (ls : Array Slot), wd D (dn cy LY_X9 ad P V (gp I [(0, 4, m_place), (0, 5, m_begin), (0, 6, m_token), (0, 8, m_told)]) (gp J [(0, 7, m_word)]) (gm A []) (gm B [])) Af s.heap H locs → lv_has ls 2 [(0, .ref (ad 0))] → k m_place m_begin m_token m_told m_word = some res → W p l e rmX9_nextToken s m args below meth c H locs 0 0 (ZQ below D cy (dn cy LY_X9 ad P V (gp I [(0, 4, res.1), (0, 5, res.2.1), (0, 6, res.2.2.1), (0, 8, res.2.2.2.1)]) (gp J [(0, 7, res.2.2.2.2)]) (gm A []) (gm B [])) none Af args s) (F0 m 299 ls [])
def SX9_nextToken_224 (p : Program) (l : Launch) (e : Env) (s : State) (m : MethodId) (args : Array Value) (below : List Frame) (meth : Method) (c : Code) (D : va_G) (cy : Nat → ClassId) (ad : Nat → Nat) (P : MP) (V : MV) (I : MI) (J : MJ) (A : MI) (B : MJ) (Af : Nat → Prop) (res : Int32 × Int32 × Int32 × Int32 × Int64) (k : Int32 → Int32 → Int32 → Int32 → Int64 → Option (Int32 × Int32 × Int32 × Int32 × Int64)) : Prop := ∀ (m_place : Int32) (m_begin : Int32) (m_token : Int32) (m_told : Int32) (m_word : Int64) (H : Heap) (locs : List Loc) (ls : Array Slot), wd D (dn cy LY_X9 ad P V (gp I [(0, 4, m_place), (0, 5, m_begin), (0, 6, m_token), (0, 8, m_told)]) (gp J [(0, 7, m_word)]) (gm A []) (gm B [])) Af s.heap H locs → lv_has ls 2 [(0, .ref (ad 0))] → k m_place m_begin m_token m_told m_word = some res → W p l e rmX9_nextToken s m args below meth c H locs 0 0 (ZQ below D cy (dn cy LY_X9 ad P V (gp I [(0, 4, res.1), (0, 5, res.2.1), (0, 6, res.2.2.1), (0, 8, res.2.2.2.1)]) (gp J [(0, 7, res.2.2.2.2)]) (gm A []) (gm B [])) none Af args s) (F0 m 224 ls [])
def SX9_nextToken_345 (p : Program) (l : Launch) (e : Env) (s : State) (m : MethodId) (args : Array Value) (below : List Frame) (meth : Method) (c : Code) (D : va_G) (cy : Nat → ClassId) (ad : Nat → Nat) (P : MP) (V : MV) (I : MI) (J : MJ) (A : MI) (B : MJ) (Af : Nat → Prop) (res : Int32 × Int32 × Int32 × Int32 × Int64) (k : Int32 → Int32 → Int32 → Int32 → Int64 → Int32 → Option (Int32 × Int32 × Int32 × Int32 × Int64)) : Prop := ∀ (m_place : Int32) (m_begin : Int32) (m_token : Int32) (m_told : Int32) (m_word : Int64) (v1 : Int32) (H : Heap) (locs : List Loc) (ls : Array Slot), wd D (dn cy LY_X9 ad P V (gp I [(0, 4, m_place), (0, 5, m_begin), (0, 6, m_token), (0, 8, m_told)]) (gp J [(0, 7, m_word)]) (gm A []) (gm B [])) Af s.heap H locs → lv_has ls 2 [(1, .int v1)] → k m_place m_begin m_token m_told m_word v1 = some res → W p l e rmX9_nextToken s m args below meth c H locs 0 0 (ZQ below D cy (dn cy LY_X9 ad P V (gp I [(0, 4, res.1), (0, 5, res.2.1), (0, 6, res.2.2.1), (0, 8, res.2.2.2.1)]) (gp J [(0, 7, res.2.2.2.2)]) (gm A []) (gm B [])) none Af args s) (F0 m 345 ls [.ref (ad 0)])
def SX9_nextToken_322 (p : Program) (l : Launch) (e : Env) (s : State) (m : MethodId) (args : Array Value) (below : List Frame) (meth : Method) (c : Code) (D : va_G) (cy : Nat → ClassId) (ad : Nat → Nat) (P : MP) (V : MV) (I : MI) (J : MJ) (A : MI) (B : MJ) (Af : Nat → Prop) (res : Int32 × Int32 × Int32 × Int32 × Int64) (k : Int32 → Int32 → Int32 → Int32 → Int64 → Int32 → Option (Int32 × Int32 × Int32 × Int32 × Int64)) : Prop := ∀ (m_place : Int32) (m_begin : Int32) (m_token : Int32) (m_told : Int32) (m_word : Int64) (v1 : Int32) (H : Heap) (locs : List Loc) (ls : Array Slot), wd D (dn cy LY_X9 ad P V (gp I [(0, 4, m_place), (0, 5, m_begin), (0, 6, m_token), (0, 8, m_told)]) (gp J [(0, 7, m_word)]) (gm A []) (gm B [])) Af s.heap H locs → lv_has ls 2 [(0, .ref (ad 0)), (1, .int v1)] → k m_place m_begin m_token m_told m_word v1 = some res → W p l e rmX9_nextToken s m args below meth c H locs 0 0 (ZQ below D cy (dn cy LY_X9 ad P V (gp I [(0, 4, res.1), (0, 5, res.2.1), (0, 6, res.2.2.1), (0, 8, res.2.2.2.1)]) (gp J [(0, 7, res.2.2.2.2)]) (gm A []) (gm B [])) none Af args s) (F0 m 322 ls [])
def SX9_nextToken_212 (p : Program) (l : Launch) (e : Env) (s : State) (m : MethodId) (args : Array Value) (below : List Frame) (meth : Method) (c : Code) (D : va_G) (cy : Nat → ClassId) (ad : Nat → Nat) (P : MP) (V : MV) (I : MI) (J : MJ) (A : MI) (B : MJ) (Af : Nat → Prop) (res : Int32 × Int32 × Int32 × Int32 × Int64) (k : Int32 → Int32 → Int32 → Int32 → Int64 → Int32 → Option (Int32 × Int32 × Int32 × Int32 × Int64)) : Prop := ∀ (m_place : Int32) (m_begin : Int32) (m_token : Int32) (m_told : Int32) (m_word : Int64) (v1 : Int32) (H : Heap) (locs : List Loc) (ls : Array Slot), wd D (dn cy LY_X9 ad P V (gp I [(0, 4, m_place), (0, 5, m_begin), (0, 6, m_token), (0, 8, m_told)]) (gp J [(0, 7, m_word)]) (gm A []) (gm B [])) Af s.heap H locs → lv_has ls 2 [(0, .ref (ad 0)), (1, .int v1)] → k m_place m_begin m_token m_told m_word v1 = some res → W p l e rmX9_nextToken s m args below meth c H locs 0 0 (ZQ below D cy (dn cy LY_X9 ad P V (gp I [(0, 4, res.1), (0, 5, res.2.1), (0, 6, res.2.2.1), (0, 8, res.2.2.2.1)]) (gp J [(0, 7, res.2.2.2.2)]) (gm A []) (gm B [])) none Af args s) (F0 m 212 ls [])
def SX9_nextToken_52 (p : Program) (l : Launch) (e : Env) (s : State) (m : MethodId) (args : Array Value) (below : List Frame) (meth : Method) (c : Code) (D : va_G) (cy : Nat → ClassId) (ad : Nat → Nat) (P : MP) (V : MV) (I : MI) (J : MJ) (A : MI) (B : MJ) (Af : Nat → Prop) (res : Int32 × Int32 × Int32 × Int32 × Int64) (k : Int32 → Int32 → Int32 → Int32 → Int64 → Option (Int32 × Int32 × Int32 × Int32 × Int64)) : Prop := ∀ (m_place : Int32) (m_begin : Int32) (m_token : Int32) (m_told : Int32) (m_word : Int64) (H : Heap) (locs : List Loc) (ls : Array Slot), wd D (dn cy LY_X9 ad P V (gp I [(0, 4, m_place), (0, 5, m_begin), (0, 6, m_token), (0, 8, m_told)]) (gp J [(0, 7, m_word)]) (gm A []) (gm B [])) Af s.heap H locs → lv_has ls 2 [(0, .ref (ad 0))] → k m_place m_begin m_token m_told m_word = some res → W p l e rmX9_nextToken s m args below meth c H locs 0 0 (ZQ below D cy (dn cy LY_X9 ad P V (gp I [(0, 4, res.1), (0, 5, res.2.1), (0, 6, res.2.2.1), (0, 8, res.2.2.2.1)]) (gp J [(0, 7, res.2.2.2.2)]) (gm A []) (gm B [])) none Af args s) (F0 m 52 ls [])
def SX9_nextToken_0 (p : Program) (l : Launch) (e : Env) (s : State) (m : MethodId) (args : Array Value) (below : List Frame) (meth : Method) (c : Code) (D : va_G) (cy : Nat → ClassId) (ad : Nat → Nat) (P : MP) (V : MV) (I : MI) (J : MJ) (A : MI) (B : MJ) (Af : Nat → Prop) (res : Int32 × Int32 × Int32 × Int32 × Int64) (k : Int32 → Int32 → Int32 → Int32 → Int64 → Option (Int32 × Int32 × Int32 × Int32 × Int64)) : Prop := ∀ (m_place : Int32) (m_begin : Int32) (m_token : Int32) (m_told : Int32) (m_word : Int64) (H : Heap) (locs : List Loc) (ls : Array Slot), wd D (dn cy LY_X9 ad P V (gp I [(0, 4, m_place), (0, 5, m_begin), (0, 6, m_token), (0, 8, m_told)]) (gp J [(0, 7, m_word)]) (gm A []) (gm B [])) Af s.heap H locs → lv_has ls 2 [(0, .ref (ad 0))] → k m_place m_begin m_token m_told m_word = some res → W p l e rmX9_nextToken s m args below meth c H locs 0 0 (ZQ below D cy (dn cy LY_X9 ad P V (gp I [(0, 4, res.1), (0, 5, res.2.1), (0, 6, res.2.2.1), (0, 8, res.2.2.2.1)]) (gp J [(0, 7, res.2.2.2.2)]) (gm A []) (gm B [])) none Af args s) (F0 m 0 ls [])
def fX9_nextToken_39 (m_size : Int32) (m_tape : (Nat → Int32)) (k0 : Int32 → Int32 → Int32 → Int32 → Int64 → Option (Int32 × Int32 × Int32 × Int32 × Int64)) (m_place : Int32) (m_begin : Int32) (m_token : Int32) (m_told : Int32) (m_word : Int64) : Option (Int32 × Int32 × Int32 × Int32 × Int64) := k0 (m_place + 1) m_begin m_token m_told m_word
set_option maxHeartbeats 4000000 in
set_option maxRecDepth 100000 in
theorem tX9_nextToken_39 {p : Program} {l : Launch} {e : Env} {s : State} {m : MethodId} {args : Array Value} {below : List Frame} {meth : Method} {c : Code} {D : va_G} {cy : Nat → ClassId} {ad : Nat → Nat} {P : MP} {V : MV} {I : MI} {J : MJ} {A : MI} {B : MJ} {Af : Nat → Prop} {res : Int32 × Int32 × Int32 × Int32 × Int64} (C0 : CX p s m args meth c cX9_nextToken 2 none RX9) (hK : va_K D vwCl (tyG cy) s) (hN : NWs s) (hA : ∀ q, s.heap.size ≤ q → Af q) {k0 : Int32 → Int32 → Int32 → Int32 → Int64 → Option (Int32 × Int32 × Int32 × Int32 × Int64)} (hk0 : SX9_nextToken_0 p l e s m args below meth c D cy ad P V I J A B Af res k0) : SX9_nextToken_39 p l e s m args below meth c D cy ad P V I J A B Af res (fX9_nextToken_39 (I 0 3) (A 1) k0) := by
  intro m_place m_begin m_token m_told m_word H locs ls hW hl hf
  unfold fX9_nextToken_39 at hf
  refine lv_aload_n C0.1 C0.2.1 dX9_nextToken_39 rfl (lv_at hl 0 rfl) ?_
  refine lv_dup C0.1 C0.2.1 dX9_nextToken_40 rfl ?_
  refine s_get (v := .int m_place) C0 hK hW 0 4 LY_X9_0 rfl fg_X9_154 rfl dX9_nextToken_41 ?_
  refine lv_iconst (v := 1) C0.1 C0.2.1 dX9_nextToken_44 kI_1 ?_
  refine lv_iadd C0.1 C0.2.1 dX9_nextToken_45 ?_
  refine s_putI C0 hK hW 0 4 LY_X9_0 rfl fg_X9_154 fp_X9_4 rfl dX9_nextToken_46 (fun H locs hW => ?_)
  have hW : wd D (dn cy LY_X9 ad P V (gp I [(0, 4, (m_place + 1)), (0, 5, m_begin), (0, 6, m_token), (0, 8, m_told)]) (gp J [(0, 7, m_word)]) (gm A []) (gm B [])) Af s.heap H locs := hW
  refine lv_goto (tgt := 0) C0.1 C0.2.1 dX9_nextToken_49 (by decide) ?_
  exact hk0 (m_place + 1) m_begin m_token m_told m_word H locs ls hW hl hf
def fX9_nextToken_175 (m_size : Int32) (m_tape : (Nat → Int32)) (k109 : Int32 → Int32 → Int32 → Int32 → Int64 → Option (Int32 × Int32 × Int32 × Int32 × Int64)) (m_place : Int32) (m_begin : Int32) (m_token : Int32) (m_told : Int32) (m_word : Int64) : Option (Int32 × Int32 × Int32 × Int32 × Int64) := k109 (m_place + 1) m_begin m_token m_told m_word
set_option maxHeartbeats 4000000 in
set_option maxRecDepth 100000 in
theorem tX9_nextToken_175 {p : Program} {l : Launch} {e : Env} {s : State} {m : MethodId} {args : Array Value} {below : List Frame} {meth : Method} {c : Code} {D : va_G} {cy : Nat → ClassId} {ad : Nat → Nat} {P : MP} {V : MV} {I : MI} {J : MJ} {A : MI} {B : MJ} {Af : Nat → Prop} {res : Int32 × Int32 × Int32 × Int32 × Int64} (C0 : CX p s m args meth c cX9_nextToken 2 none RX9) (hK : va_K D vwCl (tyG cy) s) (hN : NWs s) (hA : ∀ q, s.heap.size ≤ q → Af q) {k109 : Int32 → Int32 → Int32 → Int32 → Int64 → Option (Int32 × Int32 × Int32 × Int32 × Int64)} (hk109 : SX9_nextToken_109 p l e s m args below meth c D cy ad P V I J A B Af res k109) : SX9_nextToken_175 p l e s m args below meth c D cy ad P V I J A B Af res (fX9_nextToken_175 (I 0 3) (A 1) k109) := by
  intro m_place m_begin m_token m_told m_word H locs ls hW hl hf
  unfold fX9_nextToken_175 at hf
  refine lv_aload_n C0.1 C0.2.1 dX9_nextToken_175 rfl (lv_at hl 0 rfl) ?_
  refine lv_dup C0.1 C0.2.1 dX9_nextToken_176 rfl ?_
  refine s_get (v := .int m_place) C0 hK hW 0 4 LY_X9_0 rfl fg_X9_154 rfl dX9_nextToken_177 ?_
  refine lv_iconst (v := 1) C0.1 C0.2.1 dX9_nextToken_180 kI_1 ?_
  refine lv_iadd C0.1 C0.2.1 dX9_nextToken_181 ?_
  refine s_putI C0 hK hW 0 4 LY_X9_0 rfl fg_X9_154 fp_X9_4 rfl dX9_nextToken_182 (fun H locs hW => ?_)
  have hW : wd D (dn cy LY_X9 ad P V (gp I [(0, 4, (m_place + 1)), (0, 5, m_begin), (0, 6, m_token), (0, 8, m_told)]) (gp J [(0, 7, m_word)]) (gm A []) (gm B [])) Af s.heap H locs := hW
  refine lv_goto (tgt := 109) C0.1 C0.2.1 dX9_nextToken_185 (by decide) ?_
  exact hk109 (m_place + 1) m_begin m_token m_told m_word H locs ls hW hl hf
def fX9_nextToken_188 (m_size : Int32) (m_tape : (Nat → Int32)) (m_place : Int32) (m_begin : Int32) (m_token : Int32) (m_told : Int32) (m_word : Int64) : Option (Int32 × Int32 × Int32 × Int32 × Int64) := if (m_place - m_begin) ≤ 8 then (some (m_place, m_begin, 1, m_told, m_word)) else (some (m_place, m_begin, 4, m_told, m_word))
set_option maxHeartbeats 4000000 in
set_option maxRecDepth 100000 in
theorem tX9_nextToken_188 {p : Program} {l : Launch} {e : Env} {s : State} {m : MethodId} {args : Array Value} {below : List Frame} {meth : Method} {c : Code} {D : va_G} {cy : Nat → ClassId} {ad : Nat → Nat} {P : MP} {V : MV} {I : MI} {J : MJ} {A : MI} {B : MJ} {Af : Nat → Prop} {res : Int32 × Int32 × Int32 × Int32 × Int64} (C0 : CX p s m args meth c cX9_nextToken 2 none RX9) (hK : va_K D vwCl (tyG cy) s) (hN : NWs s) (hA : ∀ q, s.heap.size ≤ q → Af q) : SX9_nextToken_188 p l e s m args below meth c D cy ad P V I J A B Af res (fX9_nextToken_188 (I 0 3) (A 1)) := by
  intro m_place m_begin m_token m_told m_word H locs ls hW hl hf
  unfold fX9_nextToken_188 at hf
  refine lv_aload_n C0.1 C0.2.1 dX9_nextToken_188 rfl (lv_at hl 0 rfl) ?_
  refine lv_aload_n C0.1 C0.2.1 dX9_nextToken_189 rfl (lv_at hl 0 rfl) ?_
  refine s_get (v := .int m_place) C0 hK hW 0 4 LY_X9_0 rfl fg_X9_154 rfl dX9_nextToken_190 ?_
  refine lv_aload_n C0.1 C0.2.1 dX9_nextToken_193 rfl (lv_at hl 0 rfl) ?_
  refine s_get (v := .int m_begin) C0 hK hW 0 5 LY_X9_0 rfl fg_X9_157 rfl dX9_nextToken_194 ?_
  refine lv_isub C0.1 C0.2.1 dX9_nextToken_197 ?_
  refine lv_bipush (v := 8) C0.1 C0.2.1 dX9_nextToken_198 kB_8 ?_
  refine lv_icmp_le (tgt := 207) C0.1 C0.2.1 dX9_nextToken_200 (by decide) (fun hc1 => ?_) (fun hc1 => ?_)
  · have hf := ite_t hc1 hf
    refine lv_iconst (v := 1) C0.1 C0.2.1 dX9_nextToken_207 kI_1 ?_
    refine s_putI C0 hK hW 0 6 LY_X9_0 rfl fg_X9_167 fp_X9_6 rfl dX9_nextToken_208 (fun H locs hW => ?_)
    have hW : wd D (dn cy LY_X9 ad P V (gp I [(0, 4, m_place), (0, 5, m_begin), (0, 6, 1), (0, 8, m_told)]) (gp J [(0, 7, m_word)]) (gm A []) (gm B [])) Af s.heap H locs := hW
    obtain rfl := Option.some.inj hf
    exact r_void C0 hK hW dX9_nextToken_211
  · have hf := ite_f hc1 hf
    refine lv_iconst (v := 4) C0.1 C0.2.1 dX9_nextToken_203 kI_4 ?_
    refine lv_goto (tgt := 208) C0.1 C0.2.1 dX9_nextToken_204 (by decide) ?_
    refine s_putI C0 hK hW 0 6 LY_X9_0 rfl fg_X9_167 fp_X9_6 rfl dX9_nextToken_208 (fun H locs hW => ?_)
    have hW : wd D (dn cy LY_X9 ad P V (gp I [(0, 4, m_place), (0, 5, m_begin), (0, 6, 4), (0, 8, m_told)]) (gp J [(0, 7, m_word)]) (gm A []) (gm B [])) Af s.heap H locs := hW
    obtain rfl := Option.some.inj hf
    exact r_void C0 hK hW dX9_nextToken_211
def fX9_nextToken_109 (m_size : Int32) (m_tape : (Nat → Int32)) (k109 : Int32 → Int32 → Int32 → Int32 → Int64 → Option (Int32 × Int32 × Int32 × Int32 × Int64)) (m_place : Int32) (m_begin : Int32) (m_token : Int32) (m_told : Int32) (m_word : Int64) : Option (Int32 × Int32 × Int32 × Int32 × Int64) := Option.bind (fX9_signAt m_size m_tape m_place) fun y1 => (if y1 < 97 then (fX9_nextToken_188 m_size m_tape m_place m_begin m_token m_told m_word) else (Option.bind (fX9_signAt m_size m_tape m_place) fun y3 => (if 122 < y3 then (fX9_nextToken_188 m_size m_tape m_place m_begin m_token m_told m_word) else (if 8 ≤ (m_place - m_begin) then (fX9_nextToken_175 m_size m_tape k109 m_place m_begin m_token m_told m_word) else (Option.bind (fX9_signAt m_size m_tape m_place) fun y6 => (fX9_nextToken_175 m_size m_tape k109 m_place m_begin m_token m_told (((m_word * 27) + (Int32.toInt64 y6)) - 96)))))))
set_option maxHeartbeats 4000000 in
set_option maxRecDepth 100000 in
theorem tX9_nextToken_109 {p : Program} {l : Launch} {e : Env} {s : State} {m : MethodId} {args : Array Value} {below : List Frame} {meth : Method} {c : Code} {D : va_G} {cy : Nat → ClassId} {ad : Nat → Nat} {P : MP} {V : MV} {I : MI} {J : MJ} {A : MI} {B : MJ} {Af : Nat → Prop} {res : Int32 × Int32 × Int32 × Int32 × Int64} (C0 : CX p s m args meth c cX9_nextToken 2 none RX9) (hK : va_K D vwCl (tyG cy) s) (hN : NWs s) (hA : ∀ q, s.heap.size ≤ q → Af q) {k109 : Int32 → Int32 → Int32 → Int32 → Int64 → Option (Int32 × Int32 × Int32 × Int32 × Int64)} (hk109 : SX9_nextToken_109 p l e s m args below meth c D cy ad P V I J A B Af res k109) : SX9_nextToken_109 p l e s m args below meth c D cy ad P V I J A B Af res (fX9_nextToken_109 (I 0 3) (A 1) k109) := by
  intro m_place m_begin m_token m_told m_word H locs ls hW hl hf
  unfold fX9_nextToken_109 at hf
  refine lv_aload_n C0.1 C0.2.1 dX9_nextToken_109 rfl (lv_at hl 0 rfl) ?_
  refine lv_aload_n C0.1 C0.2.1 dX9_nextToken_110 rfl (lv_at hl 0 rfl) ?_
  refine s_get (v := .int m_place) C0 hK hW 0 4 LY_X9_0 rfl fg_X9_154 rfl dX9_nextToken_111 ?_
  obtain ⟨y1, hy1, hf⟩ := b_some hf
  refine c_Vi C0 hK hN hl.1 hW hA (KX9_signAt l D cy  ad P V (gp I [(0, 4, m_place), (0, 5, m_begin), (0, 6, m_token), (0, 8, m_told)]) (gp J [(0, 7, m_word)]) (gm A []) (gm B []) m_place hy1) (JN_id rfl rfl rfl rfl) (Uw_V uw_1267 uw_1269 us_39 uw_14 uw_1270) rfl rfl hd_X9_signAt ⟨rfl, rfl⟩ rfl (dn_some LY_X9_0) rfl rfl rfl dX9_nextToken_114 ⟨Nat.zero_le _, Nat.zero_le _⟩ (fun H locs hW => ?_)
  have hW : wd D (dn cy LY_X9 ad P V (gp I [(0, 4, m_place), (0, 5, m_begin), (0, 6, m_token), (0, 8, m_told)]) (gp J [(0, 7, m_word)]) (gm A []) (gm B [])) Af s.heap H locs := hW
  refine lv_bipush (v := 97) C0.1 C0.2.1 dX9_nextToken_117 kB_97 ?_
  refine lv_icmp_lt (tgt := 188) C0.1 C0.2.1 dX9_nextToken_119 (by decide) (fun hc2 => ?_) (fun hc2 => ?_)
  · have hf := ite_t hc2 hf
    exact tX9_nextToken_188 C0 hK hN hA  m_place m_begin m_token m_told m_word H locs ls hW hl hf
  · have hf := ite_f hc2 hf
    refine lv_aload_n C0.1 C0.2.1 dX9_nextToken_122 rfl (lv_at hl 0 rfl) ?_
    refine lv_aload_n C0.1 C0.2.1 dX9_nextToken_123 rfl (lv_at hl 0 rfl) ?_
    refine s_get (v := .int m_place) C0 hK hW 0 4 LY_X9_0 rfl fg_X9_154 rfl dX9_nextToken_124 ?_
    obtain ⟨y3, hy3, hf⟩ := b_some hf
    refine c_Vi C0 hK hN hl.1 hW hA (KX9_signAt l D cy  ad P V (gp I [(0, 4, m_place), (0, 5, m_begin), (0, 6, m_token), (0, 8, m_told)]) (gp J [(0, 7, m_word)]) (gm A []) (gm B []) m_place hy3) (JN_id rfl rfl rfl rfl) (Uw_V uw_1267 uw_1269 us_39 uw_14 uw_1270) rfl rfl hd_X9_signAt ⟨rfl, rfl⟩ rfl (dn_some LY_X9_0) rfl rfl rfl dX9_nextToken_127 ⟨Nat.zero_le _, Nat.zero_le _⟩ (fun H locs hW => ?_)
    have hW : wd D (dn cy LY_X9 ad P V (gp I [(0, 4, m_place), (0, 5, m_begin), (0, 6, m_token), (0, 8, m_told)]) (gp J [(0, 7, m_word)]) (gm A []) (gm B [])) Af s.heap H locs := hW
    refine lv_bipush (v := 122) C0.1 C0.2.1 dX9_nextToken_130 kB_122 ?_
    refine lv_icmp_gt (tgt := 188) C0.1 C0.2.1 dX9_nextToken_132 (by decide) (fun hc4 => ?_) (fun hc4 => ?_)
    · have hf := ite_t hc4 hf
      exact tX9_nextToken_188 C0 hK hN hA  m_place m_begin m_token m_told m_word H locs ls hW hl hf
    · have hf := ite_f hc4 hf
      refine lv_aload_n C0.1 C0.2.1 dX9_nextToken_135 rfl (lv_at hl 0 rfl) ?_
      refine s_get (v := .int m_place) C0 hK hW 0 4 LY_X9_0 rfl fg_X9_154 rfl dX9_nextToken_136 ?_
      refine lv_aload_n C0.1 C0.2.1 dX9_nextToken_139 rfl (lv_at hl 0 rfl) ?_
      refine s_get (v := .int m_begin) C0 hK hW 0 5 LY_X9_0 rfl fg_X9_157 rfl dX9_nextToken_140 ?_
      refine lv_isub C0.1 C0.2.1 dX9_nextToken_143 ?_
      refine lv_bipush (v := 8) C0.1 C0.2.1 dX9_nextToken_144 kB_8 ?_
      refine lv_icmp_ge (tgt := 175) C0.1 C0.2.1 dX9_nextToken_146 (by decide) (fun hc5 => ?_) (fun hc5 => ?_)
      · have hf := ite_t hc5 hf
        exact tX9_nextToken_175 C0 hK hN hA hk109 m_place m_begin m_token m_told m_word H locs ls hW hl hf
      · have hf := ite_f hc5 hf
        refine lv_aload_n C0.1 C0.2.1 dX9_nextToken_149 rfl (lv_at hl 0 rfl) ?_
        refine lv_aload_n C0.1 C0.2.1 dX9_nextToken_150 rfl (lv_at hl 0 rfl) ?_
        refine s_get (v := .long m_word) C0 hK hW 0 7 LY_X9_0 rfl fg_X9_160 rfl dX9_nextToken_151 ?_
        refine lv_ldc2 (v := 27) C0.1 C0.2.1 C0.2.2.2.2.1 (C0.2.2.2.2.2.1 _ uw_1271) dX9_nextToken_154 ?_
        refine lv_lmul C0.1 C0.2.1 dX9_nextToken_157 ?_
        refine lv_aload_n C0.1 C0.2.1 dX9_nextToken_158 rfl (lv_at hl 0 rfl) ?_
        refine lv_aload_n C0.1 C0.2.1 dX9_nextToken_159 rfl (lv_at hl 0 rfl) ?_
        refine s_get (v := .int m_place) C0 hK hW 0 4 LY_X9_0 rfl fg_X9_154 rfl dX9_nextToken_160 ?_
        obtain ⟨y6, hy6, hf⟩ := b_some hf
        refine c_Vi C0 hK hN hl.1 hW hA (KX9_signAt l D cy  ad P V (gp I [(0, 4, m_place), (0, 5, m_begin), (0, 6, m_token), (0, 8, m_told)]) (gp J [(0, 7, m_word)]) (gm A []) (gm B []) m_place hy6) (JN_id rfl rfl rfl rfl) (Uw_V uw_1267 uw_1269 us_39 uw_14 uw_1270) rfl rfl hd_X9_signAt ⟨rfl, rfl⟩ rfl (dn_some LY_X9_0) rfl rfl rfl dX9_nextToken_163 ⟨Nat.zero_le _, Nat.zero_le _⟩ (fun H locs hW => ?_)
        have hW : wd D (dn cy LY_X9 ad P V (gp I [(0, 4, m_place), (0, 5, m_begin), (0, 6, m_token), (0, 8, m_told)]) (gp J [(0, 7, m_word)]) (gm A []) (gm B [])) Af s.heap H locs := hW
        refine lv_i2l (v := (Int32.toInt64 y6)) C0.1 C0.2.1 dX9_nextToken_166 rfl ?_
        refine lv_ladd C0.1 C0.2.1 dX9_nextToken_167 ?_
        refine lv_ldc2 (v := 96) C0.1 C0.2.1 C0.2.2.2.2.1 (C0.2.2.2.2.2.1 _ uw_1272) dX9_nextToken_168 ?_
        refine lv_lsub C0.1 C0.2.1 dX9_nextToken_171 ?_
        refine s_putJ C0 hK hW 0 7 LY_X9_0 rfl fg_X9_160 fp_X9_7 rfl dX9_nextToken_172 (fun H locs hW => ?_)
        have hW : wd D (dn cy LY_X9 ad P V (gp I [(0, 4, m_place), (0, 5, m_begin), (0, 6, m_token), (0, 8, m_told)]) (gp J [(0, 7, (((m_word * 27) + (Int32.toInt64 y6)) - 96))]) (gm A []) (gm B [])) Af s.heap H locs := hW
        exact tX9_nextToken_175 C0 hK hN hA hk109 m_place m_begin m_token m_told (((m_word * 27) + (Int32.toInt64 y6)) - 96) H locs ls hW hl hf
theorem TX9_nextToken_109 {p : Program} {l : Launch} {e : Env} {s : State} {m : MethodId} {args : Array Value} {below : List Frame} {meth : Method} {c : Code} {D : va_G} {cy : Nat → ClassId} {ad : Nat → Nat} {P : MP} {V : MV} {I : MI} {J : MJ} {A : MI} {B : MJ} {Af : Nat → Prop} {res : Int32 × Int32 × Int32 × Int32 × Int64} (C0 : CX p s m args meth c cX9_nextToken 2 none RX9) (hK : va_K D vwCl (tyG cy) s) (hN : NWs s) (hA : ∀ q, s.heap.size ≤ q → Af q) : ∀ n, SX9_nextToken_109 p l e s m args below meth c D cy ad P V I J A B Af res (itr (fun kk => fX9_nextToken_109 (I 0 3) (A 1) kk) (fun _ _ _ _ _ => none) n) := by
  intro n
  induction n with
  | zero => intro m_place m_begin m_token m_told m_word H locs ls hW hl hf; exact (nomatch (show (none : Option (Int32 × Int32 × Int32 × Int32 × Int64)) = some res from hf))
  | succ n ih => exact tX9_nextToken_109 C0 hK hN hA  ih
def fX9_nextToken_286 (m_size : Int32) (m_tape : (Nat → Int32)) (k224 : Int32 → Int32 → Int32 → Int32 → Int64 → Option (Int32 × Int32 × Int32 × Int32 × Int64)) (m_place : Int32) (m_begin : Int32) (m_token : Int32) (m_told : Int32) (m_word : Int64) : Option (Int32 × Int32 × Int32 × Int32 × Int64) := k224 (m_place + 1) m_begin m_token m_told m_word
set_option maxHeartbeats 4000000 in
set_option maxRecDepth 100000 in
theorem tX9_nextToken_286 {p : Program} {l : Launch} {e : Env} {s : State} {m : MethodId} {args : Array Value} {below : List Frame} {meth : Method} {c : Code} {D : va_G} {cy : Nat → ClassId} {ad : Nat → Nat} {P : MP} {V : MV} {I : MI} {J : MJ} {A : MI} {B : MJ} {Af : Nat → Prop} {res : Int32 × Int32 × Int32 × Int32 × Int64} (C0 : CX p s m args meth c cX9_nextToken 2 none RX9) (hK : va_K D vwCl (tyG cy) s) (hN : NWs s) (hA : ∀ q, s.heap.size ≤ q → Af q) {k224 : Int32 → Int32 → Int32 → Int32 → Int64 → Option (Int32 × Int32 × Int32 × Int32 × Int64)} (hk224 : SX9_nextToken_224 p l e s m args below meth c D cy ad P V I J A B Af res k224) : SX9_nextToken_286 p l e s m args below meth c D cy ad P V I J A B Af res (fX9_nextToken_286 (I 0 3) (A 1) k224) := by
  intro m_place m_begin m_token m_told m_word H locs ls hW hl hf
  unfold fX9_nextToken_286 at hf
  refine lv_aload_n C0.1 C0.2.1 dX9_nextToken_286 rfl (lv_at hl 0 rfl) ?_
  refine lv_dup C0.1 C0.2.1 dX9_nextToken_287 rfl ?_
  refine s_get (v := .int m_place) C0 hK hW 0 4 LY_X9_0 rfl fg_X9_154 rfl dX9_nextToken_288 ?_
  refine lv_iconst (v := 1) C0.1 C0.2.1 dX9_nextToken_291 kI_1 ?_
  refine lv_iadd C0.1 C0.2.1 dX9_nextToken_292 ?_
  refine s_putI C0 hK hW 0 4 LY_X9_0 rfl fg_X9_154 fp_X9_4 rfl dX9_nextToken_293 (fun H locs hW => ?_)
  have hW : wd D (dn cy LY_X9 ad P V (gp I [(0, 4, (m_place + 1)), (0, 5, m_begin), (0, 6, m_token), (0, 8, m_told)]) (gp J [(0, 7, m_word)]) (gm A []) (gm B [])) Af s.heap H locs := hW
  refine lv_goto (tgt := 224) C0.1 C0.2.1 dX9_nextToken_296 (by decide) ?_
  exact hk224 (m_place + 1) m_begin m_token m_told m_word H locs ls hW hl hf
def fX9_nextToken_299 (m_size : Int32) (m_tape : (Nat → Int32)) (m_place : Int32) (m_begin : Int32) (m_token : Int32) (m_told : Int32) (m_word : Int64) : Option (Int32 × Int32 × Int32 × Int32 × Int64) := if (m_place - m_begin) ≤ 4 then (some (m_place, m_begin, 2, m_told, m_word)) else (some (m_place, m_begin, 4, m_told, m_word))
set_option maxHeartbeats 4000000 in
set_option maxRecDepth 100000 in
theorem tX9_nextToken_299 {p : Program} {l : Launch} {e : Env} {s : State} {m : MethodId} {args : Array Value} {below : List Frame} {meth : Method} {c : Code} {D : va_G} {cy : Nat → ClassId} {ad : Nat → Nat} {P : MP} {V : MV} {I : MI} {J : MJ} {A : MI} {B : MJ} {Af : Nat → Prop} {res : Int32 × Int32 × Int32 × Int32 × Int64} (C0 : CX p s m args meth c cX9_nextToken 2 none RX9) (hK : va_K D vwCl (tyG cy) s) (hN : NWs s) (hA : ∀ q, s.heap.size ≤ q → Af q) : SX9_nextToken_299 p l e s m args below meth c D cy ad P V I J A B Af res (fX9_nextToken_299 (I 0 3) (A 1)) := by
  intro m_place m_begin m_token m_told m_word H locs ls hW hl hf
  unfold fX9_nextToken_299 at hf
  refine lv_aload_n C0.1 C0.2.1 dX9_nextToken_299 rfl (lv_at hl 0 rfl) ?_
  refine lv_aload_n C0.1 C0.2.1 dX9_nextToken_300 rfl (lv_at hl 0 rfl) ?_
  refine s_get (v := .int m_place) C0 hK hW 0 4 LY_X9_0 rfl fg_X9_154 rfl dX9_nextToken_301 ?_
  refine lv_aload_n C0.1 C0.2.1 dX9_nextToken_304 rfl (lv_at hl 0 rfl) ?_
  refine s_get (v := .int m_begin) C0 hK hW 0 5 LY_X9_0 rfl fg_X9_157 rfl dX9_nextToken_305 ?_
  refine lv_isub C0.1 C0.2.1 dX9_nextToken_308 ?_
  refine lv_iconst (v := 4) C0.1 C0.2.1 dX9_nextToken_309 kI_4 ?_
  refine lv_icmp_le (tgt := 317) C0.1 C0.2.1 dX9_nextToken_310 (by decide) (fun hc1 => ?_) (fun hc1 => ?_)
  · have hf := ite_t hc1 hf
    refine lv_iconst (v := 2) C0.1 C0.2.1 dX9_nextToken_317 kI_2 ?_
    refine s_putI C0 hK hW 0 6 LY_X9_0 rfl fg_X9_167 fp_X9_6 rfl dX9_nextToken_318 (fun H locs hW => ?_)
    have hW : wd D (dn cy LY_X9 ad P V (gp I [(0, 4, m_place), (0, 5, m_begin), (0, 6, 2), (0, 8, m_told)]) (gp J [(0, 7, m_word)]) (gm A []) (gm B [])) Af s.heap H locs := hW
    obtain rfl := Option.some.inj hf
    exact r_void C0 hK hW dX9_nextToken_321
  · have hf := ite_f hc1 hf
    refine lv_iconst (v := 4) C0.1 C0.2.1 dX9_nextToken_313 kI_4 ?_
    refine lv_goto (tgt := 318) C0.1 C0.2.1 dX9_nextToken_314 (by decide) ?_
    refine s_putI C0 hK hW 0 6 LY_X9_0 rfl fg_X9_167 fp_X9_6 rfl dX9_nextToken_318 (fun H locs hW => ?_)
    have hW : wd D (dn cy LY_X9 ad P V (gp I [(0, 4, m_place), (0, 5, m_begin), (0, 6, 4), (0, 8, m_told)]) (gp J [(0, 7, m_word)]) (gm A []) (gm B [])) Af s.heap H locs := hW
    obtain rfl := Option.some.inj hf
    exact r_void C0 hK hW dX9_nextToken_321
def fX9_nextToken_224 (m_size : Int32) (m_tape : (Nat → Int32)) (k224 : Int32 → Int32 → Int32 → Int32 → Int64 → Option (Int32 × Int32 × Int32 × Int32 × Int64)) (m_place : Int32) (m_begin : Int32) (m_token : Int32) (m_told : Int32) (m_word : Int64) : Option (Int32 × Int32 × Int32 × Int32 × Int64) := Option.bind (fX9_signAt m_size m_tape m_place) fun y1 => (if y1 < 48 then (fX9_nextToken_299 m_size m_tape m_place m_begin m_token m_told m_word) else (Option.bind (fX9_signAt m_size m_tape m_place) fun y3 => (if 57 < y3 then (fX9_nextToken_299 m_size m_tape m_place m_begin m_token m_told m_word) else (if 4 ≤ (m_place - m_begin) then (fX9_nextToken_286 m_size m_tape k224 m_place m_begin m_token m_told m_word) else (Option.bind (fX9_signAt m_size m_tape m_place) fun y6 => (fX9_nextToken_286 m_size m_tape k224 m_place m_begin m_token (((m_told * 10) + y6) - 48) m_word))))))
set_option maxHeartbeats 4000000 in
set_option maxRecDepth 100000 in
theorem tX9_nextToken_224 {p : Program} {l : Launch} {e : Env} {s : State} {m : MethodId} {args : Array Value} {below : List Frame} {meth : Method} {c : Code} {D : va_G} {cy : Nat → ClassId} {ad : Nat → Nat} {P : MP} {V : MV} {I : MI} {J : MJ} {A : MI} {B : MJ} {Af : Nat → Prop} {res : Int32 × Int32 × Int32 × Int32 × Int64} (C0 : CX p s m args meth c cX9_nextToken 2 none RX9) (hK : va_K D vwCl (tyG cy) s) (hN : NWs s) (hA : ∀ q, s.heap.size ≤ q → Af q) {k224 : Int32 → Int32 → Int32 → Int32 → Int64 → Option (Int32 × Int32 × Int32 × Int32 × Int64)} (hk224 : SX9_nextToken_224 p l e s m args below meth c D cy ad P V I J A B Af res k224) : SX9_nextToken_224 p l e s m args below meth c D cy ad P V I J A B Af res (fX9_nextToken_224 (I 0 3) (A 1) k224) := by
  intro m_place m_begin m_token m_told m_word H locs ls hW hl hf
  unfold fX9_nextToken_224 at hf
  refine lv_aload_n C0.1 C0.2.1 dX9_nextToken_224 rfl (lv_at hl 0 rfl) ?_
  refine lv_aload_n C0.1 C0.2.1 dX9_nextToken_225 rfl (lv_at hl 0 rfl) ?_
  refine s_get (v := .int m_place) C0 hK hW 0 4 LY_X9_0 rfl fg_X9_154 rfl dX9_nextToken_226 ?_
  obtain ⟨y1, hy1, hf⟩ := b_some hf
  refine c_Vi C0 hK hN hl.1 hW hA (KX9_signAt l D cy  ad P V (gp I [(0, 4, m_place), (0, 5, m_begin), (0, 6, m_token), (0, 8, m_told)]) (gp J [(0, 7, m_word)]) (gm A []) (gm B []) m_place hy1) (JN_id rfl rfl rfl rfl) (Uw_V uw_1267 uw_1269 us_39 uw_14 uw_1270) rfl rfl hd_X9_signAt ⟨rfl, rfl⟩ rfl (dn_some LY_X9_0) rfl rfl rfl dX9_nextToken_229 ⟨Nat.zero_le _, Nat.zero_le _⟩ (fun H locs hW => ?_)
  have hW : wd D (dn cy LY_X9 ad P V (gp I [(0, 4, m_place), (0, 5, m_begin), (0, 6, m_token), (0, 8, m_told)]) (gp J [(0, 7, m_word)]) (gm A []) (gm B [])) Af s.heap H locs := hW
  refine lv_bipush (v := 48) C0.1 C0.2.1 dX9_nextToken_232 kB_48 ?_
  refine lv_icmp_lt (tgt := 299) C0.1 C0.2.1 dX9_nextToken_234 (by decide) (fun hc2 => ?_) (fun hc2 => ?_)
  · have hf := ite_t hc2 hf
    exact tX9_nextToken_299 C0 hK hN hA  m_place m_begin m_token m_told m_word H locs ls hW hl hf
  · have hf := ite_f hc2 hf
    refine lv_aload_n C0.1 C0.2.1 dX9_nextToken_237 rfl (lv_at hl 0 rfl) ?_
    refine lv_aload_n C0.1 C0.2.1 dX9_nextToken_238 rfl (lv_at hl 0 rfl) ?_
    refine s_get (v := .int m_place) C0 hK hW 0 4 LY_X9_0 rfl fg_X9_154 rfl dX9_nextToken_239 ?_
    obtain ⟨y3, hy3, hf⟩ := b_some hf
    refine c_Vi C0 hK hN hl.1 hW hA (KX9_signAt l D cy  ad P V (gp I [(0, 4, m_place), (0, 5, m_begin), (0, 6, m_token), (0, 8, m_told)]) (gp J [(0, 7, m_word)]) (gm A []) (gm B []) m_place hy3) (JN_id rfl rfl rfl rfl) (Uw_V uw_1267 uw_1269 us_39 uw_14 uw_1270) rfl rfl hd_X9_signAt ⟨rfl, rfl⟩ rfl (dn_some LY_X9_0) rfl rfl rfl dX9_nextToken_242 ⟨Nat.zero_le _, Nat.zero_le _⟩ (fun H locs hW => ?_)
    have hW : wd D (dn cy LY_X9 ad P V (gp I [(0, 4, m_place), (0, 5, m_begin), (0, 6, m_token), (0, 8, m_told)]) (gp J [(0, 7, m_word)]) (gm A []) (gm B [])) Af s.heap H locs := hW
    refine lv_bipush (v := 57) C0.1 C0.2.1 dX9_nextToken_245 kB_57 ?_
    refine lv_icmp_gt (tgt := 299) C0.1 C0.2.1 dX9_nextToken_247 (by decide) (fun hc4 => ?_) (fun hc4 => ?_)
    · have hf := ite_t hc4 hf
      exact tX9_nextToken_299 C0 hK hN hA  m_place m_begin m_token m_told m_word H locs ls hW hl hf
    · have hf := ite_f hc4 hf
      refine lv_aload_n C0.1 C0.2.1 dX9_nextToken_250 rfl (lv_at hl 0 rfl) ?_
      refine s_get (v := .int m_place) C0 hK hW 0 4 LY_X9_0 rfl fg_X9_154 rfl dX9_nextToken_251 ?_
      refine lv_aload_n C0.1 C0.2.1 dX9_nextToken_254 rfl (lv_at hl 0 rfl) ?_
      refine s_get (v := .int m_begin) C0 hK hW 0 5 LY_X9_0 rfl fg_X9_157 rfl dX9_nextToken_255 ?_
      refine lv_isub C0.1 C0.2.1 dX9_nextToken_258 ?_
      refine lv_iconst (v := 4) C0.1 C0.2.1 dX9_nextToken_259 kI_4 ?_
      refine lv_icmp_ge (tgt := 286) C0.1 C0.2.1 dX9_nextToken_260 (by decide) (fun hc5 => ?_) (fun hc5 => ?_)
      · have hf := ite_t hc5 hf
        exact tX9_nextToken_286 C0 hK hN hA hk224 m_place m_begin m_token m_told m_word H locs ls hW hl hf
      · have hf := ite_f hc5 hf
        refine lv_aload_n C0.1 C0.2.1 dX9_nextToken_263 rfl (lv_at hl 0 rfl) ?_
        refine lv_aload_n C0.1 C0.2.1 dX9_nextToken_264 rfl (lv_at hl 0 rfl) ?_
        refine s_get (v := .int m_told) C0 hK hW 0 8 LY_X9_0 rfl fg_X9_164 rfl dX9_nextToken_265 ?_
        refine lv_bipush (v := 10) C0.1 C0.2.1 dX9_nextToken_268 kB_10 ?_
        refine lv_imul C0.1 C0.2.1 dX9_nextToken_270 ?_
        refine lv_aload_n C0.1 C0.2.1 dX9_nextToken_271 rfl (lv_at hl 0 rfl) ?_
        refine lv_aload_n C0.1 C0.2.1 dX9_nextToken_272 rfl (lv_at hl 0 rfl) ?_
        refine s_get (v := .int m_place) C0 hK hW 0 4 LY_X9_0 rfl fg_X9_154 rfl dX9_nextToken_273 ?_
        obtain ⟨y6, hy6, hf⟩ := b_some hf
        refine c_Vi C0 hK hN hl.1 hW hA (KX9_signAt l D cy  ad P V (gp I [(0, 4, m_place), (0, 5, m_begin), (0, 6, m_token), (0, 8, m_told)]) (gp J [(0, 7, m_word)]) (gm A []) (gm B []) m_place hy6) (JN_id rfl rfl rfl rfl) (Uw_V uw_1267 uw_1269 us_39 uw_14 uw_1270) rfl rfl hd_X9_signAt ⟨rfl, rfl⟩ rfl (dn_some LY_X9_0) rfl rfl rfl dX9_nextToken_276 ⟨Nat.zero_le _, Nat.zero_le _⟩ (fun H locs hW => ?_)
        have hW : wd D (dn cy LY_X9 ad P V (gp I [(0, 4, m_place), (0, 5, m_begin), (0, 6, m_token), (0, 8, m_told)]) (gp J [(0, 7, m_word)]) (gm A []) (gm B [])) Af s.heap H locs := hW
        refine lv_iadd C0.1 C0.2.1 dX9_nextToken_279 ?_
        refine lv_bipush (v := 48) C0.1 C0.2.1 dX9_nextToken_280 kB_48 ?_
        refine lv_isub C0.1 C0.2.1 dX9_nextToken_282 ?_
        refine s_putI C0 hK hW 0 8 LY_X9_0 rfl fg_X9_164 fp_X9_8 rfl dX9_nextToken_283 (fun H locs hW => ?_)
        have hW : wd D (dn cy LY_X9 ad P V (gp I [(0, 4, m_place), (0, 5, m_begin), (0, 6, m_token), (0, 8, (((m_told * 10) + y6) - 48))]) (gp J [(0, 7, m_word)]) (gm A []) (gm B [])) Af s.heap H locs := hW
        exact tX9_nextToken_286 C0 hK hN hA hk224 m_place m_begin m_token (((m_told * 10) + y6) - 48) m_word H locs ls hW hl hf
theorem TX9_nextToken_224 {p : Program} {l : Launch} {e : Env} {s : State} {m : MethodId} {args : Array Value} {below : List Frame} {meth : Method} {c : Code} {D : va_G} {cy : Nat → ClassId} {ad : Nat → Nat} {P : MP} {V : MV} {I : MI} {J : MJ} {A : MI} {B : MJ} {Af : Nat → Prop} {res : Int32 × Int32 × Int32 × Int32 × Int64} (C0 : CX p s m args meth c cX9_nextToken 2 none RX9) (hK : va_K D vwCl (tyG cy) s) (hN : NWs s) (hA : ∀ q, s.heap.size ≤ q → Af q) : ∀ n, SX9_nextToken_224 p l e s m args below meth c D cy ad P V I J A B Af res (itr (fun kk => fX9_nextToken_224 (I 0 3) (A 1) kk) (fun _ _ _ _ _ => none) n) := by
  intro n
  induction n with
  | zero => intro m_place m_begin m_token m_told m_word H locs ls hW hl hf; exact (nomatch (show (none : Option (Int32 × Int32 × Int32 × Int32 × Int64)) = some res from hf))
  | succ n ih => exact tX9_nextToken_224 C0 hK hN hA  ih
def fX9_nextToken_345 (m_size : Int32) (m_tape : (Nat → Int32)) (m_place : Int32) (m_begin : Int32) (m_token : Int32) (m_told : Int32) (m_word : Int64) (v1 : Int32) : Option (Int32 × Int32 × Int32 × Int32 × Int64) := if v1 = 45 then (some (m_place, m_begin, 3, m_told, m_word)) else (if v1 < 59 then (some (m_place, m_begin, 4, m_told, m_word)) else (if 61 < v1 then (some (m_place, m_begin, 4, m_told, m_word)) else (some (m_place, m_begin, 3, m_told, m_word))))
set_option maxHeartbeats 4000000 in
set_option maxRecDepth 100000 in
theorem tX9_nextToken_345 {p : Program} {l : Launch} {e : Env} {s : State} {m : MethodId} {args : Array Value} {below : List Frame} {meth : Method} {c : Code} {D : va_G} {cy : Nat → ClassId} {ad : Nat → Nat} {P : MP} {V : MV} {I : MI} {J : MJ} {A : MI} {B : MJ} {Af : Nat → Prop} {res : Int32 × Int32 × Int32 × Int32 × Int64} (C0 : CX p s m args meth c cX9_nextToken 2 none RX9) (hK : va_K D vwCl (tyG cy) s) (hN : NWs s) (hA : ∀ q, s.heap.size ≤ q → Af q) : SX9_nextToken_345 p l e s m args below meth c D cy ad P V I J A B Af res (fX9_nextToken_345 (I 0 3) (A 1)) := by
  intro m_place m_begin m_token m_told m_word v1 H locs ls hW hl hf
  unfold fX9_nextToken_345 at hf
  refine lv_iload_n C0.1 C0.2.1 dX9_nextToken_345 rfl (lv_at hl 0 rfl) ?_
  refine lv_bipush (v := 45) C0.1 C0.2.1 dX9_nextToken_346 kB_45 ?_
  refine lv_icmp_eq (tgt := 363) C0.1 C0.2.1 dX9_nextToken_348 (by decide) (fun hc1 => ?_) (fun hc1 => ?_)
  · have hf := ite_t hc1 hf
    refine lv_iconst (v := 3) C0.1 C0.2.1 dX9_nextToken_363 kI_3 ?_
    refine lv_goto (tgt := 368) C0.1 C0.2.1 dX9_nextToken_364 (by decide) ?_
    refine s_putI C0 hK hW 0 6 LY_X9_0 rfl fg_X9_167 fp_X9_6 rfl dX9_nextToken_368 (fun H locs hW => ?_)
    have hW : wd D (dn cy LY_X9 ad P V (gp I [(0, 4, m_place), (0, 5, m_begin), (0, 6, 3), (0, 8, m_told)]) (gp J [(0, 7, m_word)]) (gm A []) (gm B [])) Af s.heap H locs := hW
    obtain rfl := Option.some.inj hf
    exact r_void C0 hK hW dX9_nextToken_371
  · have hf := ite_f hc1 hf
    refine lv_iload_n C0.1 C0.2.1 dX9_nextToken_351 rfl (lv_at hl 0 rfl) ?_
    refine lv_bipush (v := 59) C0.1 C0.2.1 dX9_nextToken_352 kB_59 ?_
    refine lv_icmp_lt (tgt := 367) C0.1 C0.2.1 dX9_nextToken_354 (by decide) (fun hc2 => ?_) (fun hc2 => ?_)
    · have hf := ite_t hc2 hf
      refine lv_iconst (v := 4) C0.1 C0.2.1 dX9_nextToken_367 kI_4 ?_
      refine s_putI C0 hK hW 0 6 LY_X9_0 rfl fg_X9_167 fp_X9_6 rfl dX9_nextToken_368 (fun H locs hW => ?_)
      have hW : wd D (dn cy LY_X9 ad P V (gp I [(0, 4, m_place), (0, 5, m_begin), (0, 6, 4), (0, 8, m_told)]) (gp J [(0, 7, m_word)]) (gm A []) (gm B [])) Af s.heap H locs := hW
      obtain rfl := Option.some.inj hf
      exact r_void C0 hK hW dX9_nextToken_371
    · have hf := ite_f hc2 hf
      refine lv_iload_n C0.1 C0.2.1 dX9_nextToken_357 rfl (lv_at hl 0 rfl) ?_
      refine lv_bipush (v := 61) C0.1 C0.2.1 dX9_nextToken_358 kB_61 ?_
      refine lv_icmp_gt (tgt := 367) C0.1 C0.2.1 dX9_nextToken_360 (by decide) (fun hc3 => ?_) (fun hc3 => ?_)
      · have hf := ite_t hc3 hf
        refine lv_iconst (v := 4) C0.1 C0.2.1 dX9_nextToken_367 kI_4 ?_
        refine s_putI C0 hK hW 0 6 LY_X9_0 rfl fg_X9_167 fp_X9_6 rfl dX9_nextToken_368 (fun H locs hW => ?_)
        have hW : wd D (dn cy LY_X9 ad P V (gp I [(0, 4, m_place), (0, 5, m_begin), (0, 6, 4), (0, 8, m_told)]) (gp J [(0, 7, m_word)]) (gm A []) (gm B [])) Af s.heap H locs := hW
        obtain rfl := Option.some.inj hf
        exact r_void C0 hK hW dX9_nextToken_371
      · have hf := ite_f hc3 hf
        refine lv_iconst (v := 3) C0.1 C0.2.1 dX9_nextToken_363 kI_3 ?_
        refine lv_goto (tgt := 368) C0.1 C0.2.1 dX9_nextToken_364 (by decide) ?_
        refine s_putI C0 hK hW 0 6 LY_X9_0 rfl fg_X9_167 fp_X9_6 rfl dX9_nextToken_368 (fun H locs hW => ?_)
        have hW : wd D (dn cy LY_X9 ad P V (gp I [(0, 4, m_place), (0, 5, m_begin), (0, 6, 3), (0, 8, m_told)]) (gp J [(0, 7, m_word)]) (gm A []) (gm B [])) Af s.heap H locs := hW
        obtain rfl := Option.some.inj hf
        exact r_void C0 hK hW dX9_nextToken_371
def fX9_nextToken_322 (m_size : Int32) (m_tape : (Nat → Int32)) (m_place : Int32) (m_begin : Int32) (m_token : Int32) (m_told : Int32) (m_word : Int64) (v1 : Int32) : Option (Int32 × Int32 × Int32 × Int32 × Int64) := if v1 < 40 then (fX9_nextToken_345 m_size m_tape (m_place + 1) m_begin m_token m_told m_word v1) else (if v1 ≤ 43 then (some ((m_place + 1), m_begin, 3, m_told, m_word)) else (fX9_nextToken_345 m_size m_tape (m_place + 1) m_begin m_token m_told m_word v1))
set_option maxHeartbeats 4000000 in
set_option maxRecDepth 100000 in
theorem tX9_nextToken_322 {p : Program} {l : Launch} {e : Env} {s : State} {m : MethodId} {args : Array Value} {below : List Frame} {meth : Method} {c : Code} {D : va_G} {cy : Nat → ClassId} {ad : Nat → Nat} {P : MP} {V : MV} {I : MI} {J : MJ} {A : MI} {B : MJ} {Af : Nat → Prop} {res : Int32 × Int32 × Int32 × Int32 × Int64} (C0 : CX p s m args meth c cX9_nextToken 2 none RX9) (hK : va_K D vwCl (tyG cy) s) (hN : NWs s) (hA : ∀ q, s.heap.size ≤ q → Af q) : SX9_nextToken_322 p l e s m args below meth c D cy ad P V I J A B Af res (fX9_nextToken_322 (I 0 3) (A 1)) := by
  intro m_place m_begin m_token m_told m_word v1 H locs ls hW hl hf
  unfold fX9_nextToken_322 at hf
  refine lv_aload_n C0.1 C0.2.1 dX9_nextToken_322 rfl (lv_at hl 0 rfl) ?_
  refine lv_dup C0.1 C0.2.1 dX9_nextToken_323 rfl ?_
  refine s_get (v := .int m_place) C0 hK hW 0 4 LY_X9_0 rfl fg_X9_154 rfl dX9_nextToken_324 ?_
  refine lv_iconst (v := 1) C0.1 C0.2.1 dX9_nextToken_327 kI_1 ?_
  refine lv_iadd C0.1 C0.2.1 dX9_nextToken_328 ?_
  refine s_putI C0 hK hW 0 4 LY_X9_0 rfl fg_X9_154 fp_X9_4 rfl dX9_nextToken_329 (fun H locs hW => ?_)
  have hW : wd D (dn cy LY_X9 ad P V (gp I [(0, 4, (m_place + 1)), (0, 5, m_begin), (0, 6, m_token), (0, 8, m_told)]) (gp J [(0, 7, m_word)]) (gm A []) (gm B [])) Af s.heap H locs := hW
  refine lv_aload_n C0.1 C0.2.1 dX9_nextToken_332 rfl (lv_at hl 0 rfl) ?_
  refine lv_iload_n C0.1 C0.2.1 dX9_nextToken_333 rfl (lv_at hl 1 rfl) ?_
  refine lv_bipush (v := 40) C0.1 C0.2.1 dX9_nextToken_334 kB_40 ?_
  refine lv_icmp_lt (tgt := 345) C0.1 C0.2.1 dX9_nextToken_336 (by decide) (fun hc1 => ?_) (fun hc1 => ?_)
  · have hf := ite_t hc1 hf
    exact tX9_nextToken_345 C0 hK hN hA  (m_place + 1) m_begin m_token m_told m_word v1 H locs ls hW (lv_sub hl [1] rfl) hf
  · have hf := ite_f hc1 hf
    refine lv_iload_n C0.1 C0.2.1 dX9_nextToken_339 rfl (lv_at hl 1 rfl) ?_
    refine lv_bipush (v := 43) C0.1 C0.2.1 dX9_nextToken_340 kB_43 ?_
    refine lv_icmp_le (tgt := 363) C0.1 C0.2.1 dX9_nextToken_342 (by decide) (fun hc2 => ?_) (fun hc2 => ?_)
    · have hf := ite_t hc2 hf
      refine lv_iconst (v := 3) C0.1 C0.2.1 dX9_nextToken_363 kI_3 ?_
      refine lv_goto (tgt := 368) C0.1 C0.2.1 dX9_nextToken_364 (by decide) ?_
      refine s_putI C0 hK hW 0 6 LY_X9_0 rfl fg_X9_167 fp_X9_6 rfl dX9_nextToken_368 (fun H locs hW => ?_)
      have hW : wd D (dn cy LY_X9 ad P V (gp I [(0, 4, (m_place + 1)), (0, 5, m_begin), (0, 6, 3), (0, 8, m_told)]) (gp J [(0, 7, m_word)]) (gm A []) (gm B [])) Af s.heap H locs := hW
      obtain rfl := Option.some.inj hf
      exact r_void C0 hK hW dX9_nextToken_371
    · have hf := ite_f hc2 hf
      exact tX9_nextToken_345 C0 hK hN hA  (m_place + 1) m_begin m_token m_told m_word v1 H locs ls hW (lv_sub hl [1] rfl) hf
def fX9_nextToken_212 (m_size : Int32) (m_tape : (Nat → Int32)) (m_place : Int32) (m_begin : Int32) (m_token : Int32) (m_told : Int32) (m_word : Int64) (v1 : Int32) : Option (Int32 × Int32 × Int32 × Int32 × Int64) := if v1 < 48 then (fX9_nextToken_322 m_size m_tape m_place m_begin m_token m_told m_word v1) else (if 57 < v1 then (fX9_nextToken_322 m_size m_tape m_place m_begin m_token m_told m_word v1) else (itr (fun kk => fX9_nextToken_224 m_size m_tape kk) (fun _ _ _ _ _ => none) FU m_place m_begin m_token m_told m_word))
set_option maxHeartbeats 4000000 in
set_option maxRecDepth 100000 in
theorem tX9_nextToken_212 {p : Program} {l : Launch} {e : Env} {s : State} {m : MethodId} {args : Array Value} {below : List Frame} {meth : Method} {c : Code} {D : va_G} {cy : Nat → ClassId} {ad : Nat → Nat} {P : MP} {V : MV} {I : MI} {J : MJ} {A : MI} {B : MJ} {Af : Nat → Prop} {res : Int32 × Int32 × Int32 × Int32 × Int64} (C0 : CX p s m args meth c cX9_nextToken 2 none RX9) (hK : va_K D vwCl (tyG cy) s) (hN : NWs s) (hA : ∀ q, s.heap.size ≤ q → Af q) : SX9_nextToken_212 p l e s m args below meth c D cy ad P V I J A B Af res (fX9_nextToken_212 (I 0 3) (A 1)) := by
  intro m_place m_begin m_token m_told m_word v1 H locs ls hW hl hf
  unfold fX9_nextToken_212 at hf
  refine lv_iload_n C0.1 C0.2.1 dX9_nextToken_212 rfl (lv_at hl 1 rfl) ?_
  refine lv_bipush (v := 48) C0.1 C0.2.1 dX9_nextToken_213 kB_48 ?_
  refine lv_icmp_lt (tgt := 322) C0.1 C0.2.1 dX9_nextToken_215 (by decide) (fun hc1 => ?_) (fun hc1 => ?_)
  · have hf := ite_t hc1 hf
    exact tX9_nextToken_322 C0 hK hN hA  m_place m_begin m_token m_told m_word v1 H locs ls hW hl hf
  · have hf := ite_f hc1 hf
    refine lv_iload_n C0.1 C0.2.1 dX9_nextToken_218 rfl (lv_at hl 1 rfl) ?_
    refine lv_bipush (v := 57) C0.1 C0.2.1 dX9_nextToken_219 kB_57 ?_
    refine lv_icmp_gt (tgt := 322) C0.1 C0.2.1 dX9_nextToken_221 (by decide) (fun hc2 => ?_) (fun hc2 => ?_)
    · have hf := ite_t hc2 hf
      exact tX9_nextToken_322 C0 hK hN hA  m_place m_begin m_token m_told m_word v1 H locs ls hW hl hf
    · have hf := ite_f hc2 hf
      exact TX9_nextToken_224 C0 hK hN hA  FU m_place m_begin m_token m_told m_word H locs ls hW (lv_sub hl [0] rfl) hf
def fX9_nextToken_52 (m_size : Int32) (m_tape : (Nat → Int32)) (m_place : Int32) (m_begin : Int32) (m_token : Int32) (m_told : Int32) (m_word : Int64) : Option (Int32 × Int32 × Int32 × Int32 × Int64) := if m_place = m_size then (some (m_place, m_place, 0, 0, 0)) else (bif inb m_place 1000 then (if (m_tape (Int32.toNatClampNeg m_place)) < 97 then (fX9_nextToken_212 m_size m_tape m_place m_place m_token 0 0 (m_tape (Int32.toNatClampNeg m_place))) else (if 122 < (m_tape (Int32.toNatClampNeg m_place)) then (fX9_nextToken_212 m_size m_tape m_place m_place m_token 0 0 (m_tape (Int32.toNatClampNeg m_place))) else (itr (fun kk => fX9_nextToken_109 m_size m_tape kk) (fun _ _ _ _ _ => none) FU m_place m_place m_token 0 0))) else none)
set_option maxHeartbeats 4000000 in
set_option maxRecDepth 100000 in
theorem tX9_nextToken_52 {p : Program} {l : Launch} {e : Env} {s : State} {m : MethodId} {args : Array Value} {below : List Frame} {meth : Method} {c : Code} {D : va_G} {cy : Nat → ClassId} {ad : Nat → Nat} {P : MP} {V : MV} {I : MI} {J : MJ} {A : MI} {B : MJ} {Af : Nat → Prop} {res : Int32 × Int32 × Int32 × Int32 × Int64} (C0 : CX p s m args meth c cX9_nextToken 2 none RX9) (hK : va_K D vwCl (tyG cy) s) (hN : NWs s) (hA : ∀ q, s.heap.size ≤ q → Af q) : SX9_nextToken_52 p l e s m args below meth c D cy ad P V I J A B Af res (fX9_nextToken_52 (I 0 3) (A 1)) := by
  intro m_place m_begin m_token m_told m_word H locs ls hW hl hf
  unfold fX9_nextToken_52 at hf
  refine lv_aload_n C0.1 C0.2.1 dX9_nextToken_52 rfl (lv_at hl 0 rfl) ?_
  refine lv_aload_n C0.1 C0.2.1 dX9_nextToken_53 rfl (lv_at hl 0 rfl) ?_
  refine s_get (v := .int m_place) C0 hK hW 0 4 LY_X9_0 rfl fg_X9_154 rfl dX9_nextToken_54 ?_
  refine s_putI C0 hK hW 0 5 LY_X9_0 rfl fg_X9_157 fp_X9_5 rfl dX9_nextToken_57 (fun H locs hW => ?_)
  have hW : wd D (dn cy LY_X9 ad P V (gp I [(0, 4, m_place), (0, 5, m_place), (0, 6, m_token), (0, 8, m_told)]) (gp J [(0, 7, m_word)]) (gm A []) (gm B [])) Af s.heap H locs := hW
  refine lv_aload_n C0.1 C0.2.1 dX9_nextToken_60 rfl (lv_at hl 0 rfl) ?_
  refine lv_lconst (v := 0) C0.1 C0.2.1 dX9_nextToken_61 (by decide) ?_
  refine s_putJ C0 hK hW 0 7 LY_X9_0 rfl fg_X9_160 fp_X9_7 rfl dX9_nextToken_62 (fun H locs hW => ?_)
  have hW : wd D (dn cy LY_X9 ad P V (gp I [(0, 4, m_place), (0, 5, m_place), (0, 6, m_token), (0, 8, m_told)]) (gp J [(0, 7, 0)]) (gm A []) (gm B [])) Af s.heap H locs := hW
  refine lv_aload_n C0.1 C0.2.1 dX9_nextToken_65 rfl (lv_at hl 0 rfl) ?_
  refine lv_iconst (v := 0) C0.1 C0.2.1 dX9_nextToken_66 kI_0 ?_
  refine s_putI C0 hK hW 0 8 LY_X9_0 rfl fg_X9_164 fp_X9_8 rfl dX9_nextToken_67 (fun H locs hW => ?_)
  have hW : wd D (dn cy LY_X9 ad P V (gp I [(0, 4, m_place), (0, 5, m_place), (0, 6, m_token), (0, 8, 0)]) (gp J [(0, 7, 0)]) (gm A []) (gm B [])) Af s.heap H locs := hW
  refine lv_aload_n C0.1 C0.2.1 dX9_nextToken_70 rfl (lv_at hl 0 rfl) ?_
  refine s_get (v := .int m_place) C0 hK hW 0 4 LY_X9_0 rfl fg_X9_154 rfl dX9_nextToken_71 ?_
  refine lv_aload_n C0.1 C0.2.1 dX9_nextToken_74 rfl (lv_at hl 0 rfl) ?_
  refine s_get (v := .int (I 0 3)) C0 hK hW 0 3 LY_X9_0 rfl fg_X9_151 rfl dX9_nextToken_75 ?_
  refine lv_icmp_ne (tgt := 87) C0.1 C0.2.1 dX9_nextToken_78 (by decide) (fun hc1 => ?_) (fun hc1 => ?_)
  · have hf := ite_f hc1 hf
    refine lv_aload_n C0.1 C0.2.1 dX9_nextToken_87 rfl (lv_at hl 0 rfl) ?_
    refine s_get (v := .ref (ad 1)) C0 hK hW 0 2 LY_X9_0 rfl fg_X9_7 rfl dX9_nextToken_88 ?_
    refine lv_aload_n C0.1 C0.2.1 dX9_nextToken_91 rfl (lv_at hl 0 rfl) ?_
    refine s_get (v := .int m_place) C0 hK hW 0 4 LY_X9_0 rfl fg_X9_154 rfl dX9_nextToken_92 ?_
    obtain ⟨hb2, hf⟩ := g_some hf
    refine s_iald (v := ((A 1) (Int32.toNatClampNeg m_place))) C0 hK hW 1 LY_X9_1 hb2 rfl dX9_nextToken_95 ?_
    refine lv_istore_n (lv' := [(1, .int ((A 1) (Int32.toNatClampNeg m_place))), (0, .ref (ad 0))]) C0.1 C0.2.1 dX9_nextToken_96 rfl hl (by decide) rfl (fun ls hl => ?_)
    refine lv_iload_n C0.1 C0.2.1 dX9_nextToken_97 rfl (lv_at hl 0 rfl) ?_
    refine lv_bipush (v := 97) C0.1 C0.2.1 dX9_nextToken_98 kB_97 ?_
    refine lv_icmp_lt (tgt := 212) C0.1 C0.2.1 dX9_nextToken_100 (by decide) (fun hc3 => ?_) (fun hc3 => ?_)
    · have hf := ite_t hc3 hf
      exact tX9_nextToken_212 C0 hK hN hA  m_place m_place m_token 0 0 ((A 1) (Int32.toNatClampNeg m_place)) H locs ls hW (lv_sub hl [1, 0] rfl) hf
    · have hf := ite_f hc3 hf
      refine lv_iload_n C0.1 C0.2.1 dX9_nextToken_103 rfl (lv_at hl 0 rfl) ?_
      refine lv_bipush (v := 122) C0.1 C0.2.1 dX9_nextToken_104 kB_122 ?_
      refine lv_icmp_gt (tgt := 212) C0.1 C0.2.1 dX9_nextToken_106 (by decide) (fun hc4 => ?_) (fun hc4 => ?_)
      · have hf := ite_t hc4 hf
        exact tX9_nextToken_212 C0 hK hN hA  m_place m_place m_token 0 0 ((A 1) (Int32.toNatClampNeg m_place)) H locs ls hW (lv_sub hl [1, 0] rfl) hf
      · have hf := ite_f hc4 hf
        exact TX9_nextToken_109 C0 hK hN hA  FU m_place m_place m_token 0 0 H locs ls hW (lv_sub hl [1] rfl) hf
  · have hf := ite_t hc1 hf
    refine lv_aload_n C0.1 C0.2.1 dX9_nextToken_81 rfl (lv_at hl 0 rfl) ?_
    refine lv_iconst (v := 0) C0.1 C0.2.1 dX9_nextToken_82 kI_0 ?_
    refine s_putI C0 hK hW 0 6 LY_X9_0 rfl fg_X9_167 fp_X9_6 rfl dX9_nextToken_83 (fun H locs hW => ?_)
    have hW : wd D (dn cy LY_X9 ad P V (gp I [(0, 4, m_place), (0, 5, m_place), (0, 6, 0), (0, 8, 0)]) (gp J [(0, 7, 0)]) (gm A []) (gm B [])) Af s.heap H locs := hW
    obtain rfl := Option.some.inj hf
    exact r_void C0 hK hW dX9_nextToken_86
def fX9_nextToken_0 (m_size : Int32) (m_tape : (Nat → Int32)) (k0 : Int32 → Int32 → Int32 → Int32 → Int64 → Option (Int32 × Int32 × Int32 × Int32 × Int64)) (m_place : Int32) (m_begin : Int32) (m_token : Int32) (m_told : Int32) (m_word : Int64) : Option (Int32 × Int32 × Int32 × Int32 × Int64) := if m_size ≤ m_place then (fX9_nextToken_52 m_size m_tape m_place m_begin m_token m_told m_word) else (bif inb m_place 1000 then (if (m_tape (Int32.toNatClampNeg m_place)) = 32 then (fX9_nextToken_39 m_size m_tape k0 m_place m_begin m_token m_told m_word) else (bif inb m_place 1000 then (if (m_tape (Int32.toNatClampNeg m_place)) = 10 then (fX9_nextToken_39 m_size m_tape k0 m_place m_begin m_token m_told m_word) else (fX9_nextToken_52 m_size m_tape m_place m_begin m_token m_told m_word)) else none)) else none)
set_option maxHeartbeats 4000000 in
set_option maxRecDepth 100000 in
theorem tX9_nextToken_0 {p : Program} {l : Launch} {e : Env} {s : State} {m : MethodId} {args : Array Value} {below : List Frame} {meth : Method} {c : Code} {D : va_G} {cy : Nat → ClassId} {ad : Nat → Nat} {P : MP} {V : MV} {I : MI} {J : MJ} {A : MI} {B : MJ} {Af : Nat → Prop} {res : Int32 × Int32 × Int32 × Int32 × Int64} (C0 : CX p s m args meth c cX9_nextToken 2 none RX9) (hK : va_K D vwCl (tyG cy) s) (hN : NWs s) (hA : ∀ q, s.heap.size ≤ q → Af q) {k0 : Int32 → Int32 → Int32 → Int32 → Int64 → Option (Int32 × Int32 × Int32 × Int32 × Int64)} (hk0 : SX9_nextToken_0 p l e s m args below meth c D cy ad P V I J A B Af res k0) : SX9_nextToken_0 p l e s m args below meth c D cy ad P V I J A B Af res (fX9_nextToken_0 (I 0 3) (A 1) k0) := by
  intro m_place m_begin m_token m_told m_word H locs ls hW hl hf
  unfold fX9_nextToken_0 at hf
  refine lv_aload_n C0.1 C0.2.1 dX9_nextToken_0 rfl (lv_at hl 0 rfl) ?_
  refine s_get (v := .int m_place) C0 hK hW 0 4 LY_X9_0 rfl fg_X9_154 rfl dX9_nextToken_1 ?_
  refine lv_aload_n C0.1 C0.2.1 dX9_nextToken_4 rfl (lv_at hl 0 rfl) ?_
  refine s_get (v := .int (I 0 3)) C0 hK hW 0 3 LY_X9_0 rfl fg_X9_151 rfl dX9_nextToken_5 ?_
  refine lv_icmp_ge (tgt := 52) C0.1 C0.2.1 dX9_nextToken_8 (by decide) (fun hc1 => ?_) (fun hc1 => ?_)
  · have hf := ite_t hc1 hf
    exact tX9_nextToken_52 C0 hK hN hA  m_place m_begin m_token m_told m_word H locs ls hW hl hf
  · have hf := ite_f hc1 hf
    refine lv_aload_n C0.1 C0.2.1 dX9_nextToken_11 rfl (lv_at hl 0 rfl) ?_
    refine s_get (v := .ref (ad 1)) C0 hK hW 0 2 LY_X9_0 rfl fg_X9_7 rfl dX9_nextToken_12 ?_
    refine lv_aload_n C0.1 C0.2.1 dX9_nextToken_15 rfl (lv_at hl 0 rfl) ?_
    refine s_get (v := .int m_place) C0 hK hW 0 4 LY_X9_0 rfl fg_X9_154 rfl dX9_nextToken_16 ?_
    obtain ⟨hb2, hf⟩ := g_some hf
    refine s_iald (v := ((A 1) (Int32.toNatClampNeg m_place))) C0 hK hW 1 LY_X9_1 hb2 rfl dX9_nextToken_19 ?_
    refine lv_bipush (v := 32) C0.1 C0.2.1 dX9_nextToken_20 kB_32 ?_
    refine lv_icmp_eq (tgt := 39) C0.1 C0.2.1 dX9_nextToken_22 (by decide) (fun hc3 => ?_) (fun hc3 => ?_)
    · have hf := ite_t hc3 hf
      exact tX9_nextToken_39 C0 hK hN hA hk0 m_place m_begin m_token m_told m_word H locs ls hW hl hf
    · have hf := ite_f hc3 hf
      refine lv_aload_n C0.1 C0.2.1 dX9_nextToken_25 rfl (lv_at hl 0 rfl) ?_
      refine s_get (v := .ref (ad 1)) C0 hK hW 0 2 LY_X9_0 rfl fg_X9_7 rfl dX9_nextToken_26 ?_
      refine lv_aload_n C0.1 C0.2.1 dX9_nextToken_29 rfl (lv_at hl 0 rfl) ?_
      refine s_get (v := .int m_place) C0 hK hW 0 4 LY_X9_0 rfl fg_X9_154 rfl dX9_nextToken_30 ?_
      obtain ⟨hb4, hf⟩ := g_some hf
      refine s_iald (v := ((A 1) (Int32.toNatClampNeg m_place))) C0 hK hW 1 LY_X9_1 hb4 rfl dX9_nextToken_33 ?_
      refine lv_bipush (v := 10) C0.1 C0.2.1 dX9_nextToken_34 kB_10 ?_
      refine lv_icmp_ne (tgt := 52) C0.1 C0.2.1 dX9_nextToken_36 (by decide) (fun hc5 => ?_) (fun hc5 => ?_)
      · have hf := ite_f hc5 hf
        exact tX9_nextToken_52 C0 hK hN hA  m_place m_begin m_token m_told m_word H locs ls hW hl hf
      · have hf := ite_t hc5 hf
        exact tX9_nextToken_39 C0 hK hN hA hk0 m_place m_begin m_token m_told m_word H locs ls hW hl hf
theorem TX9_nextToken_0 {p : Program} {l : Launch} {e : Env} {s : State} {m : MethodId} {args : Array Value} {below : List Frame} {meth : Method} {c : Code} {D : va_G} {cy : Nat → ClassId} {ad : Nat → Nat} {P : MP} {V : MV} {I : MI} {J : MJ} {A : MI} {B : MJ} {Af : Nat → Prop} {res : Int32 × Int32 × Int32 × Int32 × Int64} (C0 : CX p s m args meth c cX9_nextToken 2 none RX9) (hK : va_K D vwCl (tyG cy) s) (hN : NWs s) (hA : ∀ q, s.heap.size ≤ q → Af q) : ∀ n, SX9_nextToken_0 p l e s m args below meth c D cy ad P V I J A B Af res (itr (fun kk => fX9_nextToken_0 (I 0 3) (A 1) kk) (fun _ _ _ _ _ => none) n) := by
  intro n
  induction n with
  | zero => intro m_place m_begin m_token m_told m_word H locs ls hW hl hf; exact (nomatch (show (none : Option (Int32 × Int32 × Int32 × Int32 × Int64)) = some res from hf))
  | succ n ih => exact tX9_nextToken_0 C0 hK hN hA  ih
def fX9_nextToken (m_size : Int32) (m_tape : (Nat → Int32)) (m_place : Int32) (m_begin : Int32) (m_token : Int32) (m_told : Int32) (m_word : Int64) : Option (Int32 × Int32 × Int32 × Int32 × Int64) := itr (fun kk => fX9_nextToken_0 m_size m_tape kk) (fun _ _ _ _ _ => none) FU m_place m_begin m_token m_told m_word
set_option maxHeartbeats 4000000 in
set_option maxRecDepth 100000 in
theorem KX9_nextToken (l : Launch) (D : va_G) (cy : Nat → ClassId) (ad : Nat → Nat) (P : MP) (V : MV) (I : MI) (J : MJ) (A : MI) (B : MJ) {res : Int32 × Int32 × Int32 × Int32 × Int64} (hf : fX9_nextToken (I 0 3) (A 1) (I 0 4) (I 0 5) (I 0 6) (I 0 8) (J 0 7) = some res) : CG l yX9_nextToken cX9_nextToken 2 none rmX9_nextToken D cy (dn cy LY_X9 ad P V I J A B) [.ref (ad 0)] none (dn cy LY_X9 ad P V (gp I [(0, 4, res.1), (0, 5, res.2.1), (0, 6, res.2.2.1), (0, 8, res.2.2.2.1)]) (gp J [(0, 7, res.2.2.2.2)]) (gm A []) (gm B [])) := by
  refine CG.of (own := RX9) (by decide) rfl rfl ?_
  intro p e s m below meth c ls Af C0 hK hN hA hW hl
  have hW : wd D (dn cy LY_X9 ad P V (gp I [(0, 4, (I 0 4)), (0, 5, (I 0 5)), (0, 6, (I 0 6)), (0, 8, (I 0 8))]) (gp J [(0, 7, (J 0 7))]) (gm A []) (gm B [])) Af s.heap s.heap [] := wd_sel [(0, 4), (0, 5), (0, 6), (0, 8)] [(0, 7)] [] [] hW
  have hl : lv_has ls 2 [(0, .ref (ad 0))] := hl
  unfold fX9_nextToken at hf
  exact TX9_nextToken_0 C0 hK hN hA  FU (I 0 4) (I 0 5) (I 0 6) (I 0 8) (J 0 7) _ _ ls hW hl hf
