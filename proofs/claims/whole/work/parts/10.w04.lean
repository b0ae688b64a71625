-- X2_search
def rmX2_search : Room := { frames := 13, cells := 0, slots := 0, locals := 315 }
def SX2_search_117 (p : Program) (l : Launch) (e : Env) (s : State) (m : MethodId) (args : Array Value) (below : List Frame) (meth : Method) (c : Code) (D : va_G) (cy : Nat → ClassId) (ad : Nat → Nat) (P : MP) (V : MV) (I : MI) (J : MJ) (A : MI) (B : MJ) (Af : Nat → Prop) (res : Int32 × Int32 × Int32 × Int32 × Int32 × (Nat → Int32) × (Nat → Int32) × (Nat → Int32) × (Nat → Int32) × (Nat → Int32) × (Nat → Int32)) (k : Int32 → Int32 → Int32 → Int32 → Int32 → (Nat → Int32) → (Nat → Int32) → (Nat → Int32) → (Nat → Int32) → (Nat → Int32) → (Nat → Int32) → Int32 → Int32 → Int32 → Int32 → Int32 → Option (Int32 × Int32 × Int32 × Int32 × Int32 × (Nat → Int32) × (Nat → Int32) × (Nat → Int32) × (Nat → Int32) × (Nat → Int32) × (Nat → Int32))) : Prop := ∀ (d_street : Int32) (d_lasting : Int32) (d_bestCost : Int32) (d_seized : Int32) (t_law_waiting : Int32) (d_row : (Nat → Int32)) (d_leastFrom : (Nat → Int32)) (d_lawful : (Nat → Int32)) (d_best : (Nat → Int32)) (t_law_stack : (Nat → Int32)) (s_inside : (Nat → Int32)) (v4 : Int32) (v5 : Int32) (x0 : Int32) (x1 : Int32) (x2 : Int32) (H : Heap) (locs : List Loc) (ls : Array Slot), wd D (dn cy LY_X2X6X4 ad P V (gp I [(0, 3, d_street), (0, 4, d_lasting), (0, 5, d_bestCost), (0, 7, d_seized), (17, 2, t_law_waiting)]) (gp J []) (gm A [(1, d_row), (2, d_leastFrom), (3, d_lawful), (4, d_best), (19, t_law_stack), (22, s_inside)]) (gm B [])) Af s.heap H locs → lv_has ls 6 [(0, .ref (ad 0)), (1, .ref (ad 5)), (2, .ref (ad 20)), (4, .int v4), (5, .int v5)] → k d_street d_lasting d_bestCost d_seized t_law_waiting d_row d_leastFrom d_lawful d_best t_law_stack s_inside v4 v5 x0 x1 x2 = some res → W p l e rmX2_search s m args below meth c H locs 0 0 (ZQ below D cy (dn cy LY_X2X6X4 ad P V (gp I [(0, 3, res.1), (0, 4, res.2.1), (0, 5, res.2.2.1), (0, 7, res.2.2.2.1), (17, 2, res.2.2.2.2.1)]) (gp J []) (gm A [(1, res.2.2.2.2.2.1), (2, res.2.2.2.2.2.2.1), (3, res.2.2.2.2.2.2.2.1), (4, res.2.2.2.2.2.2.2.2.1), (19, res.2.2.2.2.2.2.2.2.2.1), (22, res.2.2.2.2.2.2.2.2.2.2)]) (gm B [])) none Af args s) (F0 m 117 ls [.int x0, .int x1, .int x2, .ref (ad 2)])
def SX2_search_76 (p : Program) (l : Launch) (e : Env) (s : State) (m : MethodId) (args : Array Value) (below : List Frame) (meth : Method) (c : Code) (D : va_G) (cy : Nat → ClassId) (ad : Nat → Nat) (P : MP) (V : MV) (I : MI) (J : MJ) (A : MI) (B : MJ) (Af : Nat → Prop) (res : Int32 × Int32 × Int32 × Int32 × Int32 × (Nat → Int32) × (Nat → Int32) × (Nat → Int32) × (Nat → Int32) × (Nat → Int32) × (Nat → Int32)) (k : Int32 → Int32 → Int32 → Int32 → Int32 → (Nat → Int32) → (Nat → Int32) → (Nat → Int32) → (Nat → Int32) → (Nat → Int32) → (Nat → Int32) → Int32 → Int32 → Option (Int32 × Int32 × Int32 × Int32 × Int32 × (Nat → Int32) × (Nat → Int32) × (Nat → Int32) × (Nat → Int32) × (Nat → Int32) × (Nat → Int32))) : Prop := ∀ (d_street : Int32) (d_lasting : Int32) (d_bestCost : Int32) (d_seized : Int32) (t_law_waiting : Int32) (d_row : (Nat → Int32)) (d_leastFrom : (Nat → Int32)) (d_lawful : (Nat → Int32)) (d_best : (Nat → Int32)) (t_law_stack : (Nat → Int32)) (s_inside : (Nat → Int32)) (v4 : Int32) (v5 : Int32) (H : Heap) (locs : List Loc) (ls : Array Slot), wd D (dn cy LY_X2X6X4 ad P V (gp I [(0, 3, d_street), (0, 4, d_lasting), (0, 5, d_bestCost), (0, 7, d_seized), (17, 2, t_law_waiting)]) (gp J []) (gm A [(1, d_row), (2, d_leastFrom), (3, d_lawful), (4, d_best), (19, t_law_stack), (22, s_inside)]) (gm B [])) Af s.heap H locs → lv_has ls 6 [(0, .ref (ad 0)), (1, .ref (ad 5)), (2, .ref (ad 20)), (4, .int v4), (5, .int v5)] → k d_street d_lasting d_bestCost d_seized t_law_waiting d_row d_leastFrom d_lawful d_best t_law_stack s_inside v4 v5 = some res → W p l e rmX2_search s m args below meth c H locs 0 0 (ZQ below D cy (dn cy LY_X2X6X4 ad P V (gp I [(0, 3, res.1), (0, 4, res.2.1), (0, 5, res.2.2.1), (0, 7, res.2.2.2.1), (17, 2, res.2.2.2.2.1)]) (gp J []) (gm A [(1, res.2.2.2.2.2.1), (2, res.2.2.2.2.2.2.1), (3, res.2.2.2.2.2.2.2.1), (4, res.2.2.2.2.2.2.2.2.1), (19, res.2.2.2.2.2.2.2.2.2.1), (22, res.2.2.2.2.2.2.2.2.2.2)]) (gm B [])) none Af args s) (F0 m 76 ls [])
def SX2_search_58 (p : Program) (l : Launch) (e : Env) (s : State) (m : MethodId) (args : Array Value) (below : List Frame) (meth : Method) (c : Code) (D : va_G) (cy : Nat → ClassId) (ad : Nat → Nat) (P : MP) (V : MV) (I : MI) (J : MJ) (A : MI) (B : MJ) (Af : Nat → Prop) (res : Int32 × Int32 × Int32 × Int32 × Int32 × (Nat → Int32) × (Nat → Int32) × (Nat → Int32) × (Nat → Int32) × (Nat → Int32) × (Nat → Int32)) (k : Int32 → Int32 → Int32 → Int32 → Int32 → (Nat → Int32) → (Nat → Int32) → (Nat → Int32) → (Nat → Int32) → (Nat → Int32) → (Nat → Int32) → Int32 → Option (Int32 × Int32 × Int32 × Int32 × Int32 × (Nat → Int32) × (Nat → Int32) × (Nat → Int32) × (Nat → Int32) × (Nat → Int32) × (Nat → Int32))) : Prop := ∀ (d_street : Int32) (d_lasting : Int32) (d_bestCost : Int32) (d_seized : Int32) (t_law_waiting : Int32) (d_row : (Nat → Int32)) (d_leastFrom : (Nat → Int32)) (d_lawful : (Nat → Int32)) (d_best : (Nat → Int32)) (t_law_stack : (Nat → Int32)) (s_inside : (Nat → Int32)) (v4 : Int32) (H : Heap) (locs : List Loc) (ls : Array Slot), wd D (dn cy LY_X2X6X4 ad P V (gp I [(0, 3, d_street), (0, 4, d_lasting), (0, 5, d_bestCost), (0, 7, d_seized), (17, 2, t_law_waiting)]) (gp J []) (gm A [(1, d_row), (2, d_leastFrom), (3, d_lawful), (4, d_best), (19, t_law_stack), (22, s_inside)]) (gm B [])) Af s.heap H locs → lv_has ls 6 [(0, .ref (ad 0)), (1, .ref (ad 5)), (2, .ref (ad 20)), (4, .int v4)] → k d_street d_lasting d_bestCost d_seized t_law_waiting d_row d_leastFrom d_lawful d_best t_law_stack s_inside v4 = some res → W p l e rmX2_search s m args below meth c H locs 0 0 (ZQ below D cy (dn cy LY_X2X6X4 ad P V (gp I [(0, 3, res.1), (0, 4, res.2.1), (0, 5, res.2.2.1), (0, 7, res.2.2.2.1), (17, 2, res.2.2.2.2.1)]) (gp J []) (gm A [(1, res.2.2.2.2.2.1), (2, res.2.2.2.2.2.2.1), (3, res.2.2.2.2.2.2.2.1), (4, res.2.2.2.2.2.2.2.2.1), (19, res.2.2.2.2.2.2.2.2.2.1), (22, res.2.2.2.2.2.2.2.2.2.2)]) (gm B [])) none Af args s) (F0 m 58 ls [])
def fX2_search_117 (t_colds : Int32) (t_holes : Int32) (t_guests : Int32) (t_wantedBits : Int32) (t_law_length : Int32) (s_seized : Int32) (s_date : Int32) (t_cold : (Nat → Int32)) (t_holeFlags : (Nat → Int32)) (t_burns : (Nat → Int32)) (t_kinds : (Nat → Int32)) (t_guestFlags : (Nat → Int32)) (t_foes : (Nat → Int32)) (t_law_code : (Nat → Int32)) (s_coal : (Nat → Int32)) (k76 : Int32 → Int32 → Int32 → Int32 → Int32 → (Nat → Int32) → (Nat → Int32) → (Nat → Int32) → (Nat → Int32) → (Nat → Int32) → (Nat → Int32) → Int32 → Int32 → Option (Int32 × Int32 × Int32 × Int32 × Int32 × (Nat → Int32) × (Nat → Int32) × (Nat → Int32) × (Nat → Int32) × (Nat → Int32) × (Nat → Int32))) (d_street : Int32) (d_lasting : Int32) (d_bestCost : Int32) (d_seized : Int32) (t_law_waiting : Int32) (d_row : (Nat → Int32)) (d_leastFrom : (Nat → Int32)) (d_lawful : (Nat → Int32)) (d_best : (Nat → Int32)) (t_law_stack : (Nat → Int32)) (s_inside : (Nat → Int32)) (v4 : Int32) (v5 : Int32) (x0 : Int32) (x1 : Int32) (x2 : Int32) : Option (Int32 × Int32 × Int32 × Int32 × Int32 × (Nat → Int32) × (Nat → Int32) × (Nat → Int32) × (Nat → Int32) × (Nat → Int32) × (Nat → Int32)) := bif inb x2 6 then (k76 d_street d_lasting d_bestCost d_seized t_law_waiting d_row (upd d_leastFrom (Int32.toNatClampNeg x2) (x1 + x0)) d_lawful d_best t_law_stack s_inside v4 (v5 + (-1))) else none
set_option maxHeartbeats 4000000 in
set_option maxRecDepth 100000 in
theorem tX2_search_117 {p : Program} {l : Launch} {e : Env} {s : State} {m : MethodId} {args : Array Value} {below : List Frame} {meth : Method} {c : Code} {D : va_G} {cy : Nat → ClassId} {ad : Nat → Nat} {P : MP} {V : MV} {I : MI} {J : MJ} {A : MI} {B : MJ} {Af : Nat → Prop} {res : Int32 × Int32 × Int32 × Int32 × Int32 × (Nat → Int32) × (Nat → Int32) × (Nat → Int32) × (Nat → Int32) × (Nat → Int32) × (Nat → Int32)} (C0 : CX p s m args meth c cX2_search 6 none RX2) (hK : va_K D vwCl (tyG cy) s) (hN : NWs s) (hA : ∀ q, s.heap.size ≤ q → Af q) {k76 : Int32 → Int32 → Int32 → Int32 → Int32 → (Nat → Int32) → (Nat → Int32) → (Nat → Int32) → (Nat → Int32) → (Nat → Int32) → (Nat → Int32) → Int32 → Int32 → Option (Int32 × Int32 × Int32 × Int32 × Int32 × (Nat → Int32) × (Nat → Int32) × (Nat → Int32) × (Nat → Int32) × (Nat → Int32) × (Nat → Int32))} (hk76 : SX2_search_76 p l e s m args below meth c D cy ad P V I J A B Af res k76) : SX2_search_117 p l e s m args below meth c D cy ad P V I J A B Af res (fX2_search_117 (I 5 4) (I 5 13) (I 5 14) (I 5 17) (I 17 4) (I 20 2) (I 20 3) (A 9) (A 10) (A 12) (A 14) (A 15) (A 16) (A 18) (A 21) k76) := by
  intro d_street d_lasting d_bestCost d_seized t_law_waiting d_row d_leastFrom d_lawful d_best t_law_stack s_inside v4 v5 x0 x1 x2 H locs ls hW hl hf
  unfold fX2_search_117 at hf
  refine lv_iadd C0.1 C0.2.1 dX2_search_117 ?_
  obtain ⟨hb1, hf⟩ := g_some hf
  refine s_iast (f := (upd d_leastFrom (Int32.toNatClampNeg x2) (x1 + x0))) C0 hK hW 2 LY_X2X6X4_2 hb1 rfl rfl dX2_search_118 (fun H locs hW => ?_)
  have hW : wd D (dn cy LY_X2X6X4 ad P V (gp I [(0, 3, d_street), (0, 4, d_lasting), (0, 5, d_bestCost), (0, 7, d_seized), (17, 2, t_law_waiting)]) (gp J []) (gm A [(1, d_row), (2, (upd d_leastFrom (Int32.toNatClampNeg x2) (x1 + x0))), (3, d_lawful), (4, d_best), (19, t_law_stack), (22, s_inside)]) (gm B [])) Af s.heap H locs := hW
  refine lv_iinc (v := (v5 + (-1))) (lv' := [(5, .int (v5 + (-1))), (0, .ref (ad 0)), (1, .ref (ad 5)), (2, .ref (ad 20)), (4, .int v4)]) C0.1 C0.2.1 dX2_search_119 hl (k := 4) rfl (congrArg (fun z => _ + z) kI_m1) (by decide) rfl (fun ls hl => ?_)
  refine lv_goto (tgt := 76) C0.1 C0.2.1 dX2_search_122 (by decide) ?_
  exact hk76 d_street d_lasting d_bestCost d_seized t_law_waiting d_row (upd d_leastFrom (Int32.toNatClampNeg x2) (x1 + x0)) d_lawful d_best t_law_stack s_inside v4 (v5 + (-1)) H locs ls hW (lv_sub hl [1, 2, 3, 4, 0] rfl) hf
def fX2_search_76 (t_colds : Int32) (t_holes : Int32) (t_guests : Int32) (t_wantedBits : Int32) (t_law_length : Int32) (s_seized : Int32) (s_date : Int32) (t_cold : (Nat → Int32)) (t_holeFlags : (Nat → Int32)) (t_burns : (Nat → Int32)) (t_kinds : (Nat → Int32)) (t_guestFlags : (Nat → Int32)) (t_foes : (Nat → Int32)) (t_law_code : (Nat → Int32)) (s_coal : (Nat → Int32)) (k76 : Int32 → Int32 → Int32 → Int32 → Int32 → (Nat → Int32) → (Nat → Int32) → (Nat → Int32) → (Nat → Int32) → (Nat → Int32) → (Nat → Int32) → Int32 → Int32 → Option (Int32 × Int32 × Int32 × Int32 × Int32 × (Nat → Int32) × (Nat → Int32) × (Nat → Int32) × (Nat → Int32) × (Nat → Int32) × (Nat → Int32))) (d_street : Int32) (d_lasting : Int32) (d_bestCost : Int32) (d_seized : Int32) (t_law_waiting : Int32) (d_row : (Nat → Int32)) (d_leastFrom : (Nat → Int32)) (d_lawful : (Nat → Int32)) (d_best : (Nat → Int32)) (t_law_stack : (Nat → Int32)) (s_inside : (Nat → Int32)) (v4 : Int32) (v5 : Int32) : Option (Int32 × Int32 × Int32 × Int32 × Int32 × (Nat → Int32) × (Nat → Int32) × (Nat → Int32) × (Nat → Int32) × (Nat → Int32) × (Nat → Int32)) := if v5 < 0 then (Option.bind (fX2_lodge 8 d_street d_lasting t_holes t_guests d_leastFrom d_lawful t_holeFlags t_kinds t_guestFlags t_foes s_coal 2147483647 d_row d_best s_inside 0 0) fun y2 => (Option.bind (fJ6_bitCount_0f7a4 v4) fun y3 => (some (d_street, d_lasting, y2.1, (y3 + (y2.1 / 16)), t_law_waiting, y2.2.1, d_leastFrom, d_lawful, y2.2.2.1, t_law_stack, y2.2.2.2)))) else (bif inb (v5 + 1) 6 then (Option.bind (fX2_isLodged d_street v5) fun y5 => (if y5 = 0 then (fX2_search_117 t_colds t_holes t_guests t_wantedBits t_law_length s_seized s_date t_cold t_holeFlags t_burns t_kinds t_guestFlags t_foes t_law_code s_coal k76 d_street d_lasting d_bestCost d_seized t_law_waiting d_row d_leastFrom d_lawful d_best t_law_stack s_inside v4 v5 0 (d_leastFrom (Int32.toNatClampNeg (v5 + 1))) v5) else (Option.bind (fX2_leastCost d_lasting t_holes d_lawful t_holeFlags t_kinds t_guestFlags s_inside v5) fun y7 => (fX2_search_117 t_colds t_holes t_guests t_wantedBits t_law_length s_seized s_date t_cold t_holeFlags t_burns t_kinds t_guestFlags t_foes t_law_code s_coal k76 d_street d_lasting d_bestCost d_seized t_law_waiting d_row d_leastFrom d_lawful d_best t_law_stack s_inside v4 v5 y7 (d_leastFrom (Int32.toNatClampNeg (v5 + 1))) v5)))) else none)
set_option maxHeartbeats 4000000 in
set_option maxRecDepth 100000 in
theorem tX2_search_76 {p : Program} {l : Launch} {e : Env} {s : State} {m : MethodId} {args : Array Value} {below : List Frame} {meth : Method} {c : Code} {D : va_G} {cy : Nat → ClassId} {ad : Nat → Nat} {P : MP} {V : MV} {I : MI} {J : MJ} {A : MI} {B : MJ} {Af : Nat → Prop} {res : Int32 × Int32 × Int32 × Int32 × Int32 × (Nat → Int32) × (Nat → Int32) × (Nat → Int32) × (Nat → Int32) × (Nat → Int32) × (Nat → Int32)} (C0 : CX p s m args meth c cX2_search 6 none RX2) (hK : va_K D vwCl (tyG cy) s) (hN : NWs s) (hA : ∀ q, s.heap.size ≤ q → Af q) {k76 : Int32 → Int32 → Int32 → Int32 → Int32 → (Nat → Int32) → (Nat → Int32) → (Nat → Int32) → (Nat → Int32) → (Nat → Int32) → (Nat → Int32) → Int32 → Int32 → Option (Int32 × Int32 × Int32 × Int32 × Int32 × (Nat → Int32) × (Nat → Int32) × (Nat → Int32) × (Nat → Int32) × (Nat → Int32) × (Nat → Int32))} (hk76 : SX2_search_76 p l e s m args below meth c D cy ad P V I J A B Af res k76) : SX2_search_76 p l e s m args below meth c D cy ad P V I J A B Af res (fX2_search_76 (I 5 4) (I 5 13) (I 5 14) (I 5 17) (I 17 4) (I 20 2) (I 20 3) (A 9) (A 10) (A 12) (A 14) (A 15) (A 16) (A 18) (A 21) k76) := by
  intro d_street d_lasting d_bestCost d_seized t_law_waiting d_row d_leastFrom d_lawful d_best t_law_stack s_inside v4 v5 H locs ls hW hl hf
  unfold fX2_search_76 at hf
  refine lv_iload C0.1 C0.2.1 dX2_search_76 (lv_at hl 4 rfl) ?_
  refine lv_if_lt (tgt := 125) C0.1 C0.2.1 dX2_search_78 (by decide) (fun hc1 => ?_) (fun hc1 => ?_)
  · have hf := ite_t hc1 hf
    refine lv_aload_n C0.1 C0.2.1 dX2_search_125 rfl (lv_at hl 0 rfl) ?_
    refine lv_ldc (v := 2147483647) C0.1 C0.2.1 C0.2.2.2.2.1 (C0.2.2.2.2.2.1 _ uw_848) dX2_search_126 ?_
    refine s_putI C0 hK hW 0 5 LY_X2X6X4_0 rfl fg_X2_71 fp_X2_5 rfl dX2_search_128 (fun H locs hW => ?_)
    have hW : wd D (dn cy LY_X2X6X4 ad P V (gp I [(0, 3, d_street), (0, 4, d_lasting), (0, 5, 2147483647), (0, 7, d_seized), (17, 2, t_law_waiting)]) (gp J []) (gm A [(1, d_row), (2, d_leastFrom), (3, d_lawful), (4, d_best), (19, t_law_stack), (22, s_inside)]) (gm B [])) Af s.heap H locs := hW
    refine lv_aload_n C0.1 C0.2.1 dX2_search_131 rfl (lv_at hl 0 rfl) ?_
    refine lv_aload_n C0.1 C0.2.1 dX2_search_132 rfl (lv_at hl 1 rfl) ?_
    refine lv_aload_n C0.1 C0.2.1 dX2_search_133 rfl (lv_at hl 2 rfl) ?_
    refine lv_iconst (v := 0) C0.1 C0.2.1 dX2_search_134 kI_0 ?_
    refine lv_iconst (v := 0) C0.1 C0.2.1 dX2_search_135 kI_0 ?_
    obtain ⟨y2, hy2, hf⟩ := b_some hf
    refine c_Sv C0 hK hN hl.1 hW hA (KX2_lodge 8 l D cy  ad P V (gp I [(0, 3, d_street), (0, 4, d_lasting), (0, 5, 2147483647), (0, 7, d_seized), (17, 2, t_law_waiting)]) (gp J []) (gm A [(1, d_row), (2, d_leastFrom), (3, d_lawful), (4, d_best), (19, t_law_stack), (22, s_inside)]) (gm B []) 0 0 hy2) (JN_id rfl rfl rfl rfl) ⟨uw_849, uw_850, uw_9, uw_851⟩ rfl rfl hd_X2_lodge ⟨rfl, rfl⟩ rfl rfl rfl dX2_search_136 ⟨Nat.zero_le _, Nat.zero_le _⟩ (fun H locs hW => ?_)
    have hW : wd D (dn cy LY_X2X6X4 ad P V (gp I [(0, 3, d_street), (0, 4, d_lasting), (0, 5, y2.1), (0, 7, d_seized), (17, 2, t_law_waiting)]) (gp J []) (gm A [(1, y2.2.1), (2, d_leastFrom), (3, d_lawful), (4, y2.2.2.1), (19, t_law_stack), (22, y2.2.2.2)]) (gm B [])) Af s.heap H locs := hW
    refine lv_aload_n C0.1 C0.2.1 dX2_search_139 rfl (lv_at hl 0 rfl) ?_
    refine lv_iload C0.1 C0.2.1 dX2_search_140 (lv_at hl 3 rfl) ?_
    obtain ⟨y3, hy3, hf⟩ := b_some hf
    refine c_Si C0 hK hN hl.1 hW hA (KJ6_bitCount_0f7a4 l D cy  (fun q => ad (pl_LY_X2X6X4_LY_0_.getD q 0)) (fun q => P (pl_LY_X2X6X4_LY_0_.getD q 0)) (fun q => Vx LY_X2X6X4 ad V (pl_LY_X2X6X4_LY_0_.getD q 0)) (fun q => gp I [(0, 3, d_street), (0, 4, d_lasting), (0, 5, y2.1), (0, 7, d_seized), (17, 2, t_law_waiting)] (pl_LY_X2X6X4_LY_0_.getD q 0)) (fun q => gp J [] (pl_LY_X2X6X4_LY_0_.getD q 0)) (fun q => gm A [(1, y2.2.1), (2, d_leastFrom), (3, d_lawful), (4, y2.2.2.1), (19, t_law_stack), (22, y2.2.2.2)] (pl_LY_X2X6X4_LY_0_.getD q 0)) (fun q => gm B [] (pl_LY_X2X6X4_LY_0_.getD q 0)) v4 hy3) (JN_subC (pl := pl_LY_X2X6X4_LY_0_) sb_LY_X2X6X4_LY_0_ rfl rfl rfl rfl rfl rfl rfl rfl rfl) ⟨uw_846, uw_644, uw_15, uw_645⟩ rfl rfl hd_J6_bitCount_0f7a4 ⟨rfl, rfl⟩ rfl rfl rfl dX2_search_142 ⟨Nat.zero_le _, Nat.zero_le _⟩ (fun H locs hW => ?_)
    have hW : wd D (dn cy LY_X2X6X4 ad P V (gp I [(0, 3, d_street), (0, 4, d_lasting), (0, 5, y2.1), (0, 7, d_seized), (17, 2, t_law_waiting)]) (gp J []) (gm A [(1, y2.2.1), (2, d_leastFrom), (3, d_lawful), (4, y2.2.2.1), (19, t_law_stack), (22, y2.2.2.2)]) (gm B [])) Af s.heap H locs := hW
    refine lv_aload_n C0.1 C0.2.1 dX2_search_145 rfl (lv_at hl 0 rfl) ?_
    refine s_get (v := .int y2.1) C0 hK hW 0 5 LY_X2X6X4_0 rfl fg_X2_71 rfl dX2_search_146 ?_
    refine lv_bipush (v := 16) C0.1 C0.2.1 dX2_search_149 kB_16 ?_
    refine lv_idiv C0.1 C0.2.1 dX2_search_151 (by decide) ?_
    refine lv_iadd C0.1 C0.2.1 dX2_search_152 ?_
    refine s_putI C0 hK hW 0 7 LY_X2X6X4_0 rfl fg_X2_82 fp_X2_7 rfl dX2_search_153 (fun H locs hW => ?_)
    have hW : wd D (dn cy LY_X2X6X4 ad P V (gp I [(0, 3, d_street), (0, 4, d_lasting), (0, 5, y2.1), (0, 7, (y3 + (y2.1 / 16))), (17, 2, t_law_waiting)]) (gp J []) (gm A [(1, y2.2.1), (2, d_leastFrom), (3, d_lawful), (4, y2.2.2.1), (19, t_law_stack), (22, y2.2.2.2)]) (gm B [])) Af s.heap H locs := hW
    obtain rfl := Option.some.inj hf
    exact r_void C0 hK hW dX2_search_156
  · have hf := ite_f hc1 hf
    refine lv_aload_n C0.1 C0.2.1 dX2_search_81 rfl (lv_at hl 0 rfl) ?_
    refine s_get (v := .ref (ad 2)) C0 hK hW 0 1 LY_X2X6X4_0 rfl fg_X2_15 rfl dX2_search_82 ?_
    refine lv_iload C0.1 C0.2.1 dX2_search_85 (lv_at hl 4 rfl) ?_
    refine lv_aload_n C0.1 C0.2.1 dX2_search_87 rfl (lv_at hl 0 rfl) ?_
    refine s_get (v := .ref (ad 2)) C0 hK hW 0 1 LY_X2X6X4_0 rfl fg_X2_15 rfl dX2_search_88 ?_
    refine lv_iload C0.1 C0.2.1 dX2_search_91 (lv_at hl 4 rfl) ?_
    refine lv_iconst (v := 1) C0.1 C0.2.1 dX2_search_93 kI_1 ?_
    refine lv_iadd C0.1 C0.2.1 dX2_search_94 ?_
    obtain ⟨hb4, hf⟩ := g_some hf
    refine s_iald (v := (d_leastFrom (Int32.toNatClampNeg (v5 + 1)))) C0 hK hW 2 LY_X2X6X4_2 hb4 rfl dX2_search_95 ?_
    refine lv_aload_n C0.1 C0.2.1 dX2_search_96 rfl (lv_at hl 0 rfl) ?_
    refine lv_iload C0.1 C0.2.1 dX2_search_97 (lv_at hl 4 rfl) ?_
    obtain ⟨y5, hy5, hf⟩ := b_some hf
    refine c_Vi C0 hK hN hl.1 hW hA (KX2_isLodged l D cy  (fun q => ad (pl_LY_X2X6X4_LY_X2_0_1_2_3_4.getD q 0)) (fun q => P (pl_LY_X2X6X4_LY_X2_0_1_2_3_4.getD q 0)) (fun q => Vx LY_X2X6X4 ad V (pl_LY_X2X6X4_LY_X2_0_1_2_3_4.getD q 0)) (fun q => gp I [(0, 3, d_street), (0, 4, d_lasting), (0, 5, d_bestCost), (0, 7, d_seized), (17, 2, t_law_waiting)] (pl_LY_X2X6X4_LY_X2_0_1_2_3_4.getD q 0)) (fun q => gp J [] (pl_LY_X2X6X4_LY_X2_0_1_2_3_4.getD q 0)) (fun q => gm A [(1, d_row), (2, d_leastFrom), (3, d_lawful), (4, d_best), (19, t_law_stack), (22, s_inside)] (pl_LY_X2X6X4_LY_X2_0_1_2_3_4.getD q 0)) (fun q => gm B [] (pl_LY_X2X6X4_LY_X2_0_1_2_3_4.getD q 0)) v5 hy5) (JN_subC (pl := pl_LY_X2X6X4_LY_X2_0_1_2_3_4) sb_LY_X2X6X4_LY_X2_0_1_2_3_4 rfl rfl rfl rfl rfl rfl rfl rfl rfl) (Uw_V uw_830 uw_832 us_26 uw_9 uw_833) rfl rfl hd_X2_isLodged ⟨rfl, rfl⟩ rfl (dn_some LY_X2X6X4_0) rfl rfl rfl dX2_search_99 ⟨Nat.zero_le _, Nat.zero_le _⟩ (fun H locs hW => ?_)
    have hW : wd D (dn cy LY_X2X6X4 ad P V (gp I [(0, 3, d_street), (0, 4, d_lasting), (0, 5, d_bestCost), (0, 7, d_seized), (17, 2, t_law_waiting)]) (gp J []) (gm A [(1, d_row), (2, d_leastFrom), (3, d_lawful), (4, d_best), (19, t_law_stack), (22, s_inside)]) (gm B [])) Af s.heap H locs := hW
    refine lv_if_eq (tgt := 116) C0.1 C0.2.1 dX2_search_102 (by decide) (fun hc6 => ?_) (fun hc6 => ?_)
    · have hf := ite_t hc6 hf
      refine lv_iconst (v := 0) C0.1 C0.2.1 dX2_search_116 kI_0 ?_
      exact tX2_search_117 C0 hK hN hA hk76 d_street d_lasting d_bestCost d_seized t_law_waiting d_row d_leastFrom d_lawful d_best t_law_stack s_inside v4 v5 0 (d_leastFrom (Int32.toNatClampNeg (v5 + 1))) v5 H locs ls hW hl hf
    · have hf := ite_f hc6 hf
      refine lv_aload_n C0.1 C0.2.1 dX2_search_105 rfl (lv_at hl 0 rfl) ?_
      refine lv_aload_n C0.1 C0.2.1 dX2_search_106 rfl (lv_at hl 1 rfl) ?_
      refine lv_aload_n C0.1 C0.2.1 dX2_search_107 rfl (lv_at hl 2 rfl) ?_
      refine lv_iload C0.1 C0.2.1 dX2_search_108 (lv_at hl 4 rfl) ?_
      obtain ⟨y7, hy7, hf⟩ := b_some hf
      refine c_Vi C0 hK hN hl.1 hW hA (KX2_leastCost l D cy  ad P V (gp I [(0, 3, d_street), (0, 4, d_lasting), (0, 5, d_bestCost), (0, 7, d_seized), (17, 2, t_law_waiting)]) (gp J []) (gm A [(1, d_row), (2, d_leastFrom), (3, d_lawful), (4, d_best), (19, t_law_stack), (22, s_inside)]) (gm B []) v5 hy7) (JN_id rfl rfl rfl rfl) (Uw_V uw_834 uw_836 us_27 uw_9 uw_837) rfl rfl hd_X2_leastCost ⟨rfl, rfl⟩ rfl (dn_some LY_X2X6X4_0) rfl rfl rfl dX2_search_110 ⟨Nat.zero_le _, Nat.zero_le _⟩ (fun H locs hW => ?_)
      have hW : wd D (dn cy LY_X2X6X4 ad P V (gp I [(0, 3, d_street), (0, 4, d_lasting), (0, 5, d_bestCost), (0, 7, d_seized), (17, 2, t_law_waiting)]) (gp J []) (gm A [(1, d_row), (2, d_leastFrom), (3, d_lawful), (4, d_best), (19, t_law_stack), (22, s_inside)]) (gm B [])) Af s.heap H locs := hW
      refine lv_goto (tgt := 117) C0.1 C0.2.1 dX2_search_113 (by decide) ?_
      exact tX2_search_117 C0 hK hN hA hk76 d_street d_lasting d_bestCost d_seized t_law_waiting d_row d_leastFrom d_lawful d_best t_law_stack s_inside v4 v5 y7 (d_leastFrom (Int32.toNatClampNeg (v5 + 1))) v5 H locs ls hW hl hf
theorem TX2_search_76 {p : Program} {l : Launch} {e : Env} {s : State} {m : MethodId} {args : Array Value} {below : List Frame} {meth : Method} {c : Code} {D : va_G} {cy : Nat → ClassId} {ad : Nat → Nat} {P : MP} {V : MV} {I : MI} {J : MJ} {A : MI} {B : MJ} {Af : Nat → Prop} {res : Int32 × Int32 × Int32 × Int32 × Int32 × (Nat → Int32) × (Nat → Int32) × (Nat → Int32) × (Nat → Int32) × (Nat → Int32) × (Nat → Int32)} (C0 : CX p s m args meth c cX2_search 6 none RX2) (hK : va_K D vwCl (tyG cy) s) (hN : NWs s) (hA : ∀ q, s.heap.size ≤ q → Af q) : ∀ n, SX2_search_76 p l e s m args below meth c D cy ad P V I J A B Af res (itr (fun kk => fX2_search_76 (I 5 4) (I 5 13) (I 5 14) (I 5 17) (I 17 4) (I 20 2) (I 20 3) (A 9) (A 10) (A 12) (A 14) (A 15) (A 16) (A 18) (A 21) kk) (fun _ _ _ _ _ _ _ _ _ _ _ _ _ => none) n) := by
  intro n
  induction n with
  | zero => intro d_street d_lasting d_bestCost d_seized t_law_waiting d_row d_leastFrom d_lawful d_best t_law_stack s_inside v4 v5 H locs ls hW hl hf; exact (nomatch (show (none : Option (Int32 × Int32 × Int32 × Int32 × Int32 × (Nat → Int32) × (Nat → Int32) × (Nat → Int32) × (Nat → Int32) × (Nat → Int32) × (Nat → Int32))) = some res from hf))
  | succ n ih => exact tX2_search_76 C0 hK hN hA  ih
def fX2_search_58 (t_colds : Int32) (t_holes : Int32) (t_guests : Int32) (t_wantedBits : Int32) (t_law_length : Int32) (s_seized : Int32) (s_date : Int32) (t_cold : (Nat → Int32)) (t_holeFlags : (Nat → Int32)) (t_burns : (Nat → Int32)) (t_kinds : (Nat → Int32)) (t_guestFlags : (Nat → Int32)) (t_foes : (Nat → Int32)) (t_law_code : (Nat → Int32)) (s_coal : (Nat → Int32)) (d_street : Int32) (d_lasting : Int32) (d_bestCost : Int32) (d_seized : Int32) (t_law_waiting : Int32) (d_row : (Nat → Int32)) (d_leastFrom : (Nat → Int32)) (d_lawful : (Nat → Int32)) (d_best : (Nat → Int32)) (t_law_stack : (Nat → Int32)) (s_inside : (Nat → Int32)) (v4 : Int32) : Option (Int32 × Int32 × Int32 × Int32 × Int32 × (Nat → Int32) × (Nat → Int32) × (Nat → Int32) × (Nat → Int32) × (Nat → Int32) × (Nat → Int32)) := bif inb t_guests 6 then (itr (fun kk => fX2_search_76 t_colds t_holes t_guests t_wantedBits t_law_length s_seized s_date t_cold t_holeFlags t_burns t_kinds t_guestFlags t_foes t_law_code s_coal kk) (fun _ _ _ _ _ _ _ _ _ _ _ _ _ => none) FU d_street d_lasting d_bestCost d_seized t_law_waiting d_row (upd d_leastFrom (Int32.toNatClampNeg t_guests) 0) d_lawful d_best t_law_stack s_inside v4 (t_guests - 1)) else none
set_option maxHeartbeats 4000000 in
set_option maxRecDepth 100000 in
theorem tX2_search_58 {p : Program} {l : Launch} {e : Env} {s : State} {m : MethodId} {args : Array Value} {below : List Frame} {meth : Method} {c : Code} {D : va_G} {cy : Nat → ClassId} {ad : Nat → Nat} {P : MP} {V : MV} {I : MI} {J : MJ} {A : MI} {B : MJ} {Af : Nat → Prop} {res : Int32 × Int32 × Int32 × Int32 × Int32 × (Nat → Int32) × (Nat → Int32) × (Nat → Int32) × (Nat → Int32) × (Nat → Int32) × (Nat → Int32)} (C0 : CX p s m args meth c cX2_search 6 none RX2) (hK : va_K D vwCl (tyG cy) s) (hN : NWs s) (hA : ∀ q, s.heap.size ≤ q → Af q) : SX2_search_58 p l e s m args below meth c D cy ad P V I J A B Af res (fX2_search_58 (I 5 4) (I 5 13) (I 5 14) (I 5 17) (I 17 4) (I 20 2) (I 20 3) (A 9) (A 10) (A 12) (A 14) (A 15) (A 16) (A 18) (A 21)) := by
  intro d_street d_lasting d_bestCost d_seized t_law_waiting d_row d_leastFrom d_lawful d_best t_law_stack s_inside v4 H locs ls hW hl hf
  unfold fX2_search_58 at hf
  refine lv_aload_n C0.1 C0.2.1 dX2_search_58 rfl (lv_at hl 0 rfl) ?_
  refine s_get (v := .ref (ad 2)) C0 hK hW 0 1 LY_X2X6X4_0 rfl fg_X2_15 rfl dX2_search_59 ?_
  refine lv_aload_n C0.1 C0.2.1 dX2_search_62 rfl (lv_at hl 1 rfl) ?_
  refine s_get (v := .int (I 5 14)) C0 hK hW 5 14 LY_X2X6X4_5 rfl fg_X2_57 rfl dX2_search_63 ?_
  refine lv_iconst (v := 0) C0.1 C0.2.1 dX2_search_66 kI_0 ?_
  obtain ⟨hb1, hf⟩ := g_some hf
  refine s_iast (f := (upd d_leastFrom (Int32.toNatClampNeg (I 5 14)) 0)) C0 hK hW 2 LY_X2X6X4_2 hb1 rfl rfl dX2_search_67 (fun H locs hW => ?_)
  have hW : wd D (dn cy LY_X2X6X4 ad P V (gp I [(0, 3, d_street), (0, 4, d_lasting), (0, 5, d_bestCost), (0, 7, d_seized), (17, 2, t_law_waiting)]) (gp J []) (gm A [(1, d_row), (2, (upd d_leastFrom (Int32.toNatClampNeg (I 5 14)) 0)), (3, d_lawful), (4, d_best), (19, t_law_stack), (22, s_inside)]) (gm B [])) Af s.heap H locs := hW
  refine lv_aload_n C0.1 C0.2.1 dX2_search_68 rfl (lv_at hl 1 rfl) ?_
  refine s_get (v := .int (I 5 14)) C0 hK hW 5 14 LY_X2X6X4_5 rfl fg_X2_57 rfl dX2_search_69 ?_
  refine lv_iconst (v := 1) C0.1 C0.2.1 dX2_search_72 kI_1 ?_
  refine lv_isub C0.1 C0.2.1 dX2_search_73 ?_
  refine lv_istore (lv' := [(5, .int ((I 5 14) - 1)), (0, .ref (ad 0)), (1, .ref (ad 5)), (2, .ref (ad 20)), (4, .int v4)]) C0.1 C0.2.1 dX2_search_74 hl (by decide) rfl (fun ls hl => ?_)
  exact TX2_search_76 C0 hK hN hA  FU d_street d_lasting d_bestCost d_seized t_law_waiting d_row (upd d_leastFrom (Int32.toNatClampNeg (I 5 14)) 0) d_lawful d_best t_law_stack s_inside v4 ((I 5 14) - 1) H locs ls hW (lv_sub hl [1, 2, 3, 4, 0] rfl) hf
def fX2_search (t_colds : Int32) (t_holes : Int32) (t_guests : Int32) (t_wantedBits : Int32) (t_law_length : Int32) (s_seized : Int32) (s_date : Int32) (t_cold : (Nat → Int32)) (t_holeFlags : (Nat → Int32)) (t_burns : (Nat → Int32)) (t_kinds : (Nat → Int32)) (t_guestFlags : (Nat → Int32)) (t_foes : (Nat → Int32)) (t_law_code : (Nat → Int32)) (s_coal : (Nat → Int32)) (d_street : Int32) (d_lasting : Int32) (d_bestCost : Int32) (d_seized : Int32) (t_law_waiting : Int32) (d_row : (Nat → Int32)) (d_leastFrom : (Nat → Int32)) (d_lawful : (Nat → Int32)) (d_best : (Nat → Int32)) (t_law_stack : (Nat → Int32)) (s_inside : (Nat → Int32)) (v3 : Int32) : Option (Int32 × Int32 × Int32 × Int32 × Int32 × (Nat → Int32) × (Nat → Int32) × (Nat → Int32) × (Nat → Int32) × (Nat → Int32) × (Nat → Int32)) := Option.bind (fX4_streetBits s_seized t_holes t_guests s_inside) fun y1 => (Option.bind (fX6_coldOver t_colds t_cold s_date v3) fun y2 => (Option.bind (fX4_lastingBits t_holes s_coal t_burns y2) fun y3 => (Option.bind (fX4_seizedIfLasting s_seized t_holes t_guests t_wantedBits s_inside y3) fun y4 => (if y1 = 0 then (fX2_search_58 t_colds t_holes t_guests t_wantedBits t_law_length s_seized s_date t_cold t_holeFlags t_burns t_kinds t_guestFlags t_foes t_law_code s_coal y1 y3 d_bestCost d_seized t_law_waiting d_row d_leastFrom d_lawful d_best t_law_stack s_inside (y4 &&& (y1 ^^^ (-1)))) else (Option.bind (fX2_learnLaw t_holes t_guests t_law_length s_date t_holeFlags t_law_code s_coal t_law_waiting d_lawful t_law_stack) fun y6 => (fX2_search_58 t_colds t_holes t_guests t_wantedBits t_law_length s_seized s_date t_cold t_holeFlags t_burns t_kinds t_guestFlags t_foes t_law_code s_coal y1 y3 d_bestCost d_seized y6.1 d_row d_leastFrom y6.2.1 d_best y6.2.2 s_inside (y4 &&& (y1 ^^^ (-1)))))))))
set_option maxHeartbeats 4000000 in
set_option maxRecDepth 100000 in
theorem KX2_search (l : Launch) (D : va_G) (cy : Nat → ClassId) (ad : Nat → Nat) (P : MP) (V : MV) (I : MI) (J : MJ) (A : MI) (B : MJ) (v3 : Int32) {res : Int32 × Int32 × Int32 × Int32 × Int32 × (Nat → Int32) × (Nat → Int32) × (Nat → Int32) × (Nat → Int32) × (Nat → Int32) × (Nat → Int32)} (hf : fX2_search (I 5 4) (I 5 13) (I 5 14) (I 5 17) (I 17 4) (I 20 2) (I 20 3) (A 9) (A 10) (A 12) (A 14) (A 15) (A 16) (A 18) (A 21) (I 0 3) (I 0 4) (I 0 5) (I 0 7) (I 17 2) (A 1) (A 2) (A 3) (A 4) (A 19) (A 22) v3 = some res) : CG l yX2_search cX2_search 6 none rmX2_search D cy (dn cy LY_X2X6X4 ad P V I J A B) [.ref (ad 0), .ref (ad 5), .ref (ad 20), .int v3] none (dn cy LY_X2X6X4 ad P V (gp I [(0, 3, res.1), (0, 4, res.2.1), (0, 5, res.2.2.1), (0, 7, res.2.2.2.1), (17, 2, res.2.2.2.2.1)]) (gp J []) (gm A [(1, res.2.2.2.2.2.1), (2, res.2.2.2.2.2.2.1), (3, res.2.2.2.2.2.2.2.1), (4, res.2.2.2.2.2.2.2.2.1), (19, res.2.2.2.2.2.2.2.2.2.1), (22, res.2.2.2.2.2.2.2.2.2.2)]) (gm B [])) := by
  refine CG.of (own := RX2) (by decide) rfl rfl ?_
  intro p e s m below meth c ls Af C0 hK hN hA hW hl
  have hW : wd D (dn cy LY_X2X6X4 ad P V (gp I [(0, 3, (I 0 3)), (0, 4, (I 0 4)), (0, 5, (I 0 5)), (0, 7, (I 0 7)), (17, 2, (I 17 2))]) (gp J []) (gm A [(1, (A 1)), (2, (A 2)), (3, (A 3)), (4, (A 4)), (19, (A 19)), (22, (A 22))]) (gm B [])) Af s.heap s.heap [] := wd_sel [(0, 3), (0, 4), (0, 5), (0, 7), (17, 2)] [] [1, 2, 3, 4, 19, 22] [] hW
  have hl : lv_has ls 6 [(0, .ref (ad 0)), (1, .ref (ad 5)), (2, .ref (ad 20)), (3, .int v3)] := hl
  unfold fX2_search at hf
  refine lv_aload_n C0.1 C0.2.1 dX2_search_0 rfl (lv_at hl 0 rfl) ?_
  refine lv_aload_n C0.1 C0.2.1 dX2_search_1 rfl (lv_at hl 2 rfl) ?_
  refine lv_aload_n C0.1 C0.2.1 dX2_search_2 rfl (lv_at hl 1 rfl) ?_
  obtain ⟨y1, hy1, hf⟩ := b_some hf
  refine c_Vi C0 hK hN hl.1 hW hA (KX4_streetBits l D cy  (fun q => ad (pl_LY_X2X6X4_LY_X4X6_20_21_72255155.getD q 0)) (fun q => P (pl_LY_X2X6X4_LY_X4X6_20_21_72255155.getD q 0)) (fun q => Vx LY_X2X6X4 ad V (pl_LY_X2X6X4_LY_X4X6_20_21_72255155.getD q 0)) (fun q => gp I [(0, 3, (I 0 3)), (0, 4, (I 0 4)), (0, 5, (I 0 5)), (0, 7, (I 0 7)), (17, 2, (I 17 2))] (pl_LY_X2X6X4_LY_X4X6_20_21_72255155.getD q 0)) (fun q => gp J [] (pl_LY_X2X6X4_LY_X4X6_20_21_72255155.getD q 0)) (fun q => gm A [(1, (A 1)), (2, (A 2)), (3, (A 3)), (4, (A 4)), (19, (A 19)), (22, (A 22))] (pl_LY_X2X6X4_LY_X4X6_20_21_72255155.getD q 0)) (fun q => gm B [] (pl_LY_X2X6X4_LY_X4X6_20_21_72255155.getD q 0))  hy1) (JN_subC (pl := pl_LY_X2X6X4_LY_X4X6_20_21_72255155) sb_LY_X2X6X4_LY_X4X6_20_21_72255155 rfl rfl rfl rfl rfl rfl rfl rfl rfl) (Uw_V uw_815 uw_678 uw_679 uw_7 uw_680) rfl rfl hd_X4_streetBits ⟨rfl, rfl⟩ rfl (dn_some LY_X2X6X4_20) rfl rfl rfl dX2_search_3 ⟨Nat.zero_le _, Nat.zero_le _⟩ (fun H locs hW => ?_)
  have hW : wd D (dn cy LY_X2X6X4 ad P V (gp I [(0, 3, (I 0 3)), (0, 4, (I 0 4)), (0, 5, (I 0 5)), (0, 7, (I 0 7)), (17, 2, (I 17 2))]) (gp J []) (gm A [(1, (A 1)), (2, (A 2)), (3, (A 3)), (4, (A 4)), (19, (A 19)), (22, (A 22))]) (gm B [])) Af s.heap H locs := hW
  refine s_putI C0 hK hW 0 3 LY_X2X6X4_0 rfl fg_X2_30 fp_X2_3 rfl dX2_search_6 (fun H locs hW => ?_)
  have hW : wd D (dn cy LY_X2X6X4 ad P V (gp I [(0, 3, y1), (0, 4, (I 0 4)), (0, 5, (I 0 5)), (0, 7, (I 0 7)), (17, 2, (I 17 2))]) (gp J []) (gm A [(1, (A 1)), (2, (A 2)), (3, (A 3)), (4, (A 4)), (19, (A 19)), (22, (A 22))]) (gm B [])) Af s.heap H locs := hW
  refine lv_aload_n C0.1 C0.2.1 dX2_search_9 rfl (lv_at hl 0 rfl) ?_
  refine lv_aload_n C0.1 C0.2.1 dX2_search_10 rfl (lv_at hl 2 rfl) ?_
  refine lv_aload_n C0.1 C0.2.1 dX2_search_11 rfl (lv_at hl 1 rfl) ?_
  refine lv_aload_n C0.1 C0.2.1 dX2_search_12 rfl (lv_at hl 1 rfl) ?_
  refine lv_aload_n C0.1 C0.2.1 dX2_search_13 rfl (lv_at hl 2 rfl) ?_
  refine s_get (v := .int (I 20 3)) C0 hK hW 20 3 LY_X2X6X4_20 rfl fg_X2_34 rfl dX2_search_14 ?_
  refine lv_iload_n C0.1 C0.2.1 dX2_search_17 rfl (lv_at hl 3 rfl) ?_
  obtain ⟨y2, hy2, hf⟩ := b_some hf
  refine c_Vi C0 hK hN hl.1 hW hA (KX6_coldOver l D cy  (fun q => ad (pl_LY_X2X6X4_LY_X6_5_6_76939655.getD q 0)) (fun q => P (pl_LY_X2X6X4_LY_X6_5_6_76939655.getD q 0)) (fun q => Vx LY_X2X6X4 ad V (pl_LY_X2X6X4_LY_X6_5_6_76939655.getD q 0)) (fun q => gp I [(0, 3, y1), (0, 4, (I 0 4)), (0, 5, (I 0 5)), (0, 7, (I 0 7)), (17, 2, (I 17 2))] (pl_LY_X2X6X4_LY_X6_5_6_76939655.getD q 0)) (fun q => gp J [] (pl_LY_X2X6X4_LY_X6_5_6_76939655.getD q 0)) (fun q => gm A [(1, (A 1)), (2, (A 2)), (3, (A 3)), (4, (A 4)), (19, (A 19)), (22, (A 22))] (pl_LY_X2X6X4_LY_X6_5_6_76939655.getD q 0)) (fun q => gm B [] (pl_LY_X2X6X4_LY_X6_5_6_76939655.getD q 0)) (I 20 3) v3 hy2) (JN_subC (pl := pl_LY_X2X6X4_LY_X6_5_6_76939655) sb_LY_X2X6X4_LY_X6_5_6_76939655 rfl rfl rfl rfl rfl rfl rfl rfl rfl) (Uw_V uw_816 uw_803 uw_804 uw_10 uw_805) rfl rfl hd_X6_coldOver ⟨rfl, rfl⟩ rfl (dn_some LY_X2X6X4_5) rfl rfl rfl dX2_search_18 ⟨Nat.zero_le _, Nat.zero_le _⟩ (fun H locs hW => ?_)
  have hW : wd D (dn cy LY_X2X6X4 ad P V (gp I [(0, 3, y1), (0, 4, (I 0 4)), (0, 5, (I 0 5)), (0, 7, (I 0 7)), (17, 2, (I 17 2))]) (gp J []) (gm A [(1, (A 1)), (2, (A 2)), (3, (A 3)), (4, (A 4)), (19, (A 19)), (22, (A 22))]) (gm B [])) Af s.heap H locs := hW
  obtain ⟨y3, hy3, hf⟩ := b_some hf
  refine c_Vi C0 hK hN hl.1 hW hA (KX4_lastingBits l D cy  (fun q => ad (pl_LY_X2X6X4_LY_X4X6_20_21_72255155.getD q 0)) (fun q => P (pl_LY_X2X6X4_LY_X4X6_20_21_72255155.getD q 0)) (fun q => Vx LY_X2X6X4 ad V (pl_LY_X2X6X4_LY_X4X6_20_21_72255155.getD q 0)) (fun q => gp I [(0, 3, y1), (0, 4, (I 0 4)), (0, 5, (I 0 5)), (0, 7, (I 0 7)), (17, 2, (I 17 2))] (pl_LY_X2X6X4_LY_X4X6_20_21_72255155.getD q 0)) (fun q => gp J [] (pl_LY_X2X6X4_LY_X4X6_20_21_72255155.getD q 0)) (fun q => gm A [(1, (A 1)), (2, (A 2)), (3, (A 3)), (4, (A 4)), (19, (A 19)), (22, (A 22))] (pl_LY_X2X6X4_LY_X4X6_20_21_72255155.getD q 0)) (fun q => gm B [] (pl_LY_X2X6X4_LY_X4X6_20_21_72255155.getD q 0)) y2 hy3) (JN_subC (pl := pl_LY_X2X6X4_LY_X4X6_20_21_72255155) sb_LY_X2X6X4_LY_X4X6_20_21_72255155 rfl rfl rfl rfl rfl rfl rfl rfl rfl) (Uw_V uw_817 uw_818 uw_819 uw_7 uw_820) rfl rfl hd_X4_lastingBits ⟨rfl, rfl⟩ rfl (dn_some LY_X2X6X4_20) rfl rfl rfl dX2_search_21 ⟨Nat.zero_le _, Nat.zero_le _⟩ (fun H locs hW => ?_)
  have hW : wd D (dn cy LY_X2X6X4 ad P V (gp I [(0, 3, y1), (0, 4, (I 0 4)), (0, 5, (I 0 5)), (0, 7, (I 0 7)), (17, 2, (I 17 2))]) (gp J []) (gm A [(1, (A 1)), (2, (A 2)), (3, (A 3)), (4, (A 4)), (19, (A 19)), (22, (A 22))]) (gm B [])) Af s.heap H locs := hW
  refine s_putI C0 hK hW 0 4 LY_X2X6X4_0 rfl fg_X2_47 fp_X2_4 rfl dX2_search_24 (fun H locs hW => ?_)
  have hW : wd D (dn cy LY_X2X6X4 ad P V (gp I [(0, 3, y1), (0, 4, y3), (0, 5, (I 0 5)), (0, 7, (I 0 7)), (17, 2, (I 17 2))]) (gp J []) (gm A [(1, (A 1)), (2, (A 2)), (3, (A 3)), (4, (A 4)), (19, (A 19)), (22, (A 22))]) (gm B [])) Af s.heap H locs := hW
  refine lv_aload_n C0.1 C0.2.1 dX2_search_27 rfl (lv_at hl 2 rfl) ?_
  refine lv_aload_n C0.1 C0.2.1 dX2_search_28 rfl (lv_at hl 1 rfl) ?_
  refine lv_aload_n C0.1 C0.2.1 dX2_search_29 rfl (lv_at hl 0 rfl) ?_
  refine s_get (v := .int y3) C0 hK hW 0 4 LY_X2X6X4_0 rfl fg_X2_47 rfl dX2_search_30 ?_
  obtain ⟨y4, hy4, hf⟩ := b_some hf
  refine c_Vi C0 hK hN hl.1 hW hA (KX4_seizedIfLasting l D cy  (fun q => ad (pl_LY_X2X6X4_LY_X4X6_20_21_72255155.getD q 0)) (fun q => P (pl_LY_X2X6X4_LY_X4X6_20_21_72255155.getD q 0)) (fun q => Vx LY_X2X6X4 ad V (pl_LY_X2X6X4_LY_X4X6_20_21_72255155.getD q 0)) (fun q => gp I [(0, 3, y1), (0, 4, y3), (0, 5, (I 0 5)), (0, 7, (I 0 7)), (17, 2, (I 17 2))] (pl_LY_X2X6X4_LY_X4X6_20_21_72255155.getD q 0)) (fun q => gp J [] (pl_LY_X2X6X4_LY_X4X6_20_21_72255155.getD q 0)) (fun q => gm A [(1, (A 1)), (2, (A 2)), (3, (A 3)), (4, (A 4)), (19, (A 19)), (22, (A 22))] (pl_LY_X2X6X4_LY_X4X6_20_21_72255155.getD q 0)) (fun q => gm B [] (pl_LY_X2X6X4_LY_X4X6_20_21_72255155.getD q 0)) y3 hy4) (JN_subC (pl := pl_LY_X2X6X4_LY_X4X6_20_21_72255155) sb_LY_X2X6X4_LY_X4X6_20_21_72255155 rfl rfl rfl rfl rfl rfl rfl rfl rfl) (Uw_V uw_821 uw_822 uw_823 uw_7 uw_824) rfl rfl hd_X4_seizedIfLasting ⟨rfl, rfl⟩ rfl (dn_some LY_X2X6X4_20) rfl rfl rfl dX2_search_33 ⟨Nat.zero_le _, Nat.zero_le _⟩ (fun H locs hW => ?_)
  have hW : wd D (dn cy LY_X2X6X4 ad P V (gp I [(0, 3, y1), (0, 4, y3), (0, 5, (I 0 5)), (0, 7, (I 0 7)), (17, 2, (I 17 2))]) (gp J []) (gm A [(1, (A 1)), (2, (A 2)), (3, (A 3)), (4, (A 4)), (19, (A 19)), (22, (A 22))]) (gm B [])) Af s.heap H locs := hW
  refine lv_aload_n C0.1 C0.2.1 dX2_search_36 rfl (lv_at hl 0 rfl) ?_
  refine s_get (v := .int y1) C0 hK hW 0 3 LY_X2X6X4_0 rfl fg_X2_30 rfl dX2_search_37 ?_
  refine lv_iconst (v := (-1)) C0.1 C0.2.1 dX2_search_40 kI_m1 ?_
  refine lv_ixor C0.1 C0.2.1 dX2_search_41 ?_
  refine lv_iand C0.1 C0.2.1 dX2_search_42 ?_
  refine lv_istore (lv' := [(4, .int (y4 &&& (y1 ^^^ (-1)))), (0, .ref (ad 0)), (1, .ref (ad 5)), (2, .ref (ad 20)), (3, .int v3)]) C0.1 C0.2.1 dX2_search_43 hl (by decide) rfl (fun ls hl => ?_)
  refine lv_aload_n C0.1 C0.2.1 dX2_search_45 rfl (lv_at hl 1 rfl) ?_
  refine s_get (v := .int y1) C0 hK hW 0 3 LY_X2X6X4_0 rfl fg_X2_30 rfl dX2_search_46 ?_
  refine lv_if_eq (tgt := 58) C0.1 C0.2.1 dX2_search_49 (by decide) (fun hc5 => ?_) (fun hc5 => ?_)
  · have hf := ite_t hc5 hf
    exact tX2_search_58 C0 hK hN hA  y1 y3 (I 0 5) (I 0 7) (I 17 2) (A 1) (A 2) (A 3) (A 4) (A 19) (A 22) (y4 &&& (y1 ^^^ (-1))) _ _ ls hW (lv_sub hl [1, 2, 3, 0] rfl) hf
  · have hf := ite_f hc5 hf
    refine lv_aload_n C0.1 C0.2.1 dX2_search_52 rfl (lv_at hl 1 rfl) ?_
    refine lv_aload_n C0.1 C0.2.1 dX2_search_53 rfl (lv_at hl 2 rfl) ?_
    refine lv_aload_n C0.1 C0.2.1 dX2_search_54 rfl (lv_at hl 3 rfl) ?_
    obtain ⟨y6, hy6, hf⟩ := b_some hf
    refine c_Vv C0 hK hN hl.1 hW hA (KX2_learnLaw l D cy  ad P V (gp I [(0, 3, y1), (0, 4, y3), (0, 5, (I 0 5)), (0, 7, (I 0 7)), (17, 2, (I 17 2))]) (gp J []) (gm A [(1, (A 1)), (2, (A 2)), (3, (A 3)), (4, (A 4)), (19, (A 19)), (22, (A 22))]) (gm B [])  hy6) (JN_id rfl rfl rfl rfl) (Uw_V uw_825 uw_827 us_25 uw_9 uw_828) rfl rfl hd_X2_learnLaw ⟨rfl, rfl⟩ rfl (dn_some LY_X2X6X4_0) rfl rfl rfl dX2_search_55 ⟨Nat.zero_le _, Nat.zero_le _⟩ (fun H locs hW => ?_)
    have hW : wd D (dn cy LY_X2X6X4 ad P V (gp I [(0, 3, y1), (0, 4, y3), (0, 5, (I 0 5)), (0, 7, (I 0 7)), (17, 2, y6.1)]) (gp J []) (gm A [(1, (A 1)), (2, (A 2)), (3, y6.2.1), (4, (A 4)), (19, y6.2.2), (22, (A 22))]) (gm B [])) Af s.heap H locs := hW
    exact tX2_search_58 C0 hK hN hA  y1 y3 (I 0 5) (I 0 7) y6.1 (A 1) (A 2) y6.2.1 (A 4) y6.2.2 (A 22) (y4 &&& (y1 ^^^ (-1))) _ _ ls hW (lv_sub hl [1, 2, 3, 0] rfl) hf
-- X4_copyFrom
def rmX4_copyFrom : Room := { frames := 1, cells := 0, slots := 0, locals := 21 }
def SX4_copyFrom_2 (p : Program) (l : Launch) (e : Env) (s : State) (m : MethodId) (args : Array Value) (below : List Frame) (meth : Method) (c : Code) (D : va_G) (cy : Nat → ClassId) (ad : Nat → Nat) (P : MP) (V : MV) (I : MI) (J : MJ) (A : MI) (B : MJ) (Af : Nat → Prop) (res : Int32 × Int32 × Int32 × (Nat → Int32) × (Nat → Int32)) (k : Int32 → Int32 → Int32 → (Nat → Int32) → (Nat → Int32) → Int32 → Option (Int32 × Int32 × Int32 × (Nat → Int32) × (Nat → Int32))) : Prop := ∀ (s_seized : Int32) (s_date : Int32) (s_brought : Int32) (s_coal : (Nat → Int32)) (s_inside : (Nat → Int32)) (v2 : Int32) (H : Heap) (locs : List Loc) (ls : Array Slot), wd D (dn cy LY_X4X4 ad P V (gp I [(0, 2, s_seized), (0, 3, s_date), (0, 4, s_brought)]) (gp J []) (gm A [(1, s_coal), (2, s_inside)]) (gm B [])) Af s.heap H locs → lv_has ls 3 [(0, .ref (ad 0)), (1, .ref (ad 3)), (2, .int v2)] → k s_seized s_date s_brought s_coal s_inside v2 = some res → W p l e rmX4_copyFrom s m args below meth c H locs 0 0 (ZQ below D cy (dn cy LY_X4X4 ad P V (gp I [(0, 2, res.1), (0, 3, res.2.1), (0, 4, res.2.2.1)]) (gp J []) (gm A [(1, res.2.2.2.1), (2, res.2.2.2.2)]) (gm B [])) none Af args s) (F0 m 2 ls [])
def fX4_copyFrom_2 (s2_seized : Int32) (s2_date : Int32) (s2_brought : Int32) (s2_coal : (Nat → Int32)) (s2_inside : (Nat → Int32)) (k2 : Int32 → Int32 → Int32 → (Nat → Int32) → (Nat → Int32) → Int32 → Option (Int32 × Int32 × Int32 × (Nat → Int32) × (Nat → Int32))) (s_seized : Int32) (s_date : Int32) (s_brought : Int32) (s_coal : (Nat → Int32)) (s_inside : (Nat → Int32)) (v2 : Int32) : Option (Int32 × Int32 × Int32 × (Nat → Int32) × (Nat → Int32)) := if 5 ≤ v2 then (some (s2_seized, s2_date, s2_brought, s_coal, s_inside)) else (bif inb v2 5 then (bif inb v2 5 then (bif inb v2 5 then (bif inb v2 5 then (k2 s_seized s_date s_brought (upd s_coal (Int32.toNatClampNeg v2) (s2_coal (Int32.toNatClampNeg v2))) (upd s_inside (Int32.toNatClampNeg v2) (s2_inside (Int32.toNatClampNeg v2))) (v2 + 1)) else none) else none) else none) else none)
set_option maxHeartbeats 4000000 in
set_option maxRecDepth 100000 in
theorem tX4_copyFrom_2 {p : Program} {l : Launch} {e : Env} {s : State} {m : MethodId} {args : Array Value} {below : List Frame} {meth : Method} {c : Code} {D : va_G} {cy : Nat → ClassId} {ad : Nat → Nat} {P : MP} {V : MV} {I : MI} {J : MJ} {A : MI} {B : MJ} {Af : Nat → Prop} {res : Int32 × Int32 × Int32 × (Nat → Int32) × (Nat → Int32)} (C0 : CX p s m args meth c cX4_copyFrom 3 none RX4) (hK : va_K D vwCl (tyG cy) s) (hN : NWs s) (hA : ∀ q, s.heap.size ≤ q → Af q) {k2 : Int32 → Int32 → Int32 → (Nat → Int32) → (Nat → Int32) → Int32 → Option (Int32 × Int32 × Int32 × (Nat → Int32) × (Nat → Int32))} (hk2 : SX4_copyFrom_2 p l e s m args below meth c D cy ad P V I J A B Af res k2) : SX4_copyFrom_2 p l e s m args below meth c D cy ad P V I J A B Af res (fX4_copyFrom_2 (I 3 2) (I 3 3) (I 3 4) (A 4) (A 5) k2) := by
  intro s_seized s_date s_brought s_coal s_inside v2 H locs ls hW hl hf
  unfold fX4_copyFrom_2 at hf
  refine lv_iload_n C0.1 C0.2.1 dX4_copyFrom_2 rfl (lv_at hl 2 rfl) ?_
  refine lv_iconst (v := 5) C0.1 C0.2.1 dX4_copyFrom_3 kI_5 ?_
  refine lv_icmp_ge (tgt := 37) C0.1 C0.2.1 dX4_copyFrom_4 (by decide) (fun hc1 => ?_) (fun hc1 => ?_)
  · have hf := ite_t hc1 hf
    refine lv_aload_n C0.1 C0.2.1 dX4_copyFrom_37 rfl (lv_at hl 0 rfl) ?_
    refine lv_aload_n C0.1 C0.2.1 dX4_copyFrom_38 rfl (lv_at hl 1 rfl) ?_
    refine s_get (v := .int (I 3 2)) C0 hK hW 3 2 LY_X4X4_3 rfl fg_X4_23 rfl dX4_copyFrom_39 ?_
    refine s_putI C0 hK hW 0 2 LY_X4X4_0 rfl fg_X4_23 fp_X4_2 rfl dX4_copyFrom_42 (fun H locs hW => ?_)
    have hW : wd D (dn cy LY_X4X4 ad P V (gp I [(0, 2, (I 3 2)), (0, 3, s_date), (0, 4, s_brought)]) (gp J []) (gm A [(1, s_coal), (2, s_inside)]) (gm B [])) Af s.heap H locs := hW
    refine lv_aload_n C0.1 C0.2.1 dX4_copyFrom_45 rfl (lv_at hl 0 rfl) ?_
    refine lv_aload_n C0.1 C0.2.1 dX4_copyFrom_46 rfl (lv_at hl 1 rfl) ?_
    refine s_get (v := .int (I 3 3)) C0 hK hW 3 3 LY_X4X4_3 rfl fg_X4_27 rfl dX4_copyFrom_47 ?_
    refine s_putI C0 hK hW 0 3 LY_X4X4_0 rfl fg_X4_27 fp_X4_3 rfl dX4_copyFrom_50 (fun H locs hW => ?_)
    have hW : wd D (dn cy LY_X4X4 ad P V (gp I [(0, 2, (I 3 2)), (0, 3, (I 3 3)), (0, 4, s_brought)]) (gp J []) (gm A [(1, s_coal), (2, s_inside)]) (gm B [])) Af s.heap H locs := hW
    refine lv_aload_n C0.1 C0.2.1 dX4_copyFrom_53 rfl (lv_at hl 0 rfl) ?_
    refine lv_aload_n C0.1 C0.2.1 dX4_copyFrom_54 rfl (lv_at hl 1 rfl) ?_
    refine s_get (v := .int (I 3 4)) C0 hK hW 3 4 LY_X4X4_3 rfl fg_X4_30 rfl dX4_copyFrom_55 ?_
    refine s_putI C0 hK hW 0 4 LY_X4X4_0 rfl fg_X4_30 fp_X4_4 rfl dX4_copyFrom_58 (fun H locs hW => ?_)
    have hW : wd D (dn cy LY_X4X4 ad P V (gp I [(0, 2, (I 3 2)), (0, 3, (I 3 3)), (0, 4, (I 3 4))]) (gp J []) (gm A [(1, s_coal), (2, s_inside)]) (gm B [])) Af s.heap H locs := hW
    obtain rfl := Option.some.inj hf
    exact r_void C0 hK hW dX4_copyFrom_61
  · have hf := ite_f hc1 hf
    refine lv_aload_n C0.1 C0.2.1 dX4_copyFrom_7 rfl (lv_at hl 0 rfl) ?_
    refine s_get (v := .ref (ad 1)) C0 hK hW 0 0 LY_X4X4_0 rfl fg_X4_9 rfl dX4_copyFrom_8 ?_
    refine lv_iload_n C0.1 C0.2.1 dX4_copyFrom_11 rfl (lv_at hl 2 rfl) ?_
    refine lv_aload_n C0.1 C0.2.1 dX4_copyFrom_12 rfl (lv_at hl 1 rfl) ?_
    refine s_get (v := .ref (ad 4)) C0 hK hW 3 0 LY_X4X4_3 rfl fg_X4_9 rfl dX4_copyFrom_13 ?_
    refine lv_iload_n C0.1 C0.2.1 dX4_copyFrom_16 rfl (lv_at hl 2 rfl) ?_
    obtain ⟨hb2, hf⟩ := g_some hf
    refine s_iald (v := ((A 4) (Int32.toNatClampNeg v2))) C0 hK hW 4 LY_X4X4_4 hb2 rfl dX4_copyFrom_17 ?_
    obtain ⟨hb3, hf⟩ := g_some hf
    refine s_iast (f := (upd s_coal (Int32.toNatClampNeg v2) ((A 4) (Int32.toNatClampNeg v2)))) C0 hK hW 1 LY_X4X4_1 hb3 rfl rfl dX4_copyFrom_18 (fun H locs hW => ?_)
    have hW : wd D (dn cy LY_X4X4 ad P V (gp I [(0, 2, s_seized), (0, 3, s_date), (0, 4, s_brought)]) (gp J []) (gm A [(1, (upd s_coal (Int32.toNatClampNeg v2) ((A 4) (Int32.toNatClampNeg v2)))), (2, s_inside)]) (gm B [])) Af s.heap H locs := hW
    refine lv_aload_n C0.1 C0.2.1 dX4_copyFrom_19 rfl (lv_at hl 0 rfl) ?_
    refine s_get (v := .ref (ad 2)) C0 hK hW 0 1 LY_X4X4_0 rfl fg_X4_15 rfl dX4_copyFrom_20 ?_
    refine lv_iload_n C0.1 C0.2.1 dX4_copyFrom_23 rfl (lv_at hl 2 rfl) ?_
    refine lv_aload_n C0.1 C0.2.1 dX4_copyFrom_24 rfl (lv_at hl 1 rfl) ?_
    refine s_get (v := .ref (ad 5)) C0 hK hW 3 1 LY_X4X4_3 rfl fg_X4_15 rfl dX4_copyFrom_25 ?_
    refine lv_iload_n C0.1 C0.2.1 dX4_copyFrom_28 rfl (lv_at hl 2 rfl) ?_
    obtain ⟨hb4, hf⟩ := g_some hf
    refine s_iald (v := ((A 5) (Int32.toNatClampNeg v2))) C0 hK hW 5 LY_X4X4_5 hb4 rfl dX4_copyFrom_29 ?_
    obtain ⟨hb5, hf⟩ := g_some hf
    refine s_iast (f := (upd s_inside (Int32.toNatClampNeg v2) ((A 5) (Int32.toNatClampNeg v2)))) C0 hK hW 2 LY_X4X4_2 hb5 rfl rfl dX4_copyFrom_30 (fun H locs hW => ?_)
    have hW : wd D (dn cy LY_X4X4 ad P V (gp I [(0, 2, s_seized), (0, 3, s_date), (0, 4, s_brought)]) (gp J []) (gm A [(1, (upd s_coal (Int32.toNatClampNeg v2) ((A 4) (Int32.toNatClampNeg v2)))), (2, (upd s_inside (Int32.toNatClampNeg v2) ((A 5) (Int32.toNatClampNeg v2))))]) (gm B [])) Af s.heap H locs := hW
    refine lv_iinc (v := (v2 + 1)) (lv' := [(2, .int (v2 + 1)), (0, .ref (ad 0)), (1, .ref (ad 3))]) C0.1 C0.2.1 dX4_copyFrom_31 hl (k := 2) rfl (congrArg (fun z => _ + z) kI_1) (by decide) rfl (fun ls hl => ?_)
    refine lv_goto (tgt := 2) C0.1 C0.2.1 dX4_copyFrom_34 (by decide) ?_
    exact hk2 s_seized s_date s_brought (upd s_coal (Int32.toNatClampNeg v2) ((A 4) (Int32.toNatClampNeg v2))) (upd s_inside (Int32.toNatClampNeg v2) ((A 5) (Int32.toNatClampNeg v2))) (v2 + 1) H locs ls hW (lv_sub hl [1, 2, 0] rfl) hf
theorem TX4_copyFrom_2 {p : Program} {l : Launch} {e : Env} {s : State} {m : MethodId} {args : Array Value} {below : List Frame} {meth : Method} {c : Code} {D : va_G} {cy : Nat → ClassId} {ad : Nat → Nat} {P : MP} {V : MV} {I : MI} {J : MJ} {A : MI} {B : MJ} {Af : Nat → Prop} {res : Int32 × Int32 × Int32 × (Nat → Int32) × (Nat → Int32)} (C0 : CX p s m args meth c cX4_copyFrom 3 none RX4) (hK : va_K D vwCl (tyG cy) s) (hN : NWs s) (hA : ∀ q, s.heap.size ≤ q → Af q) : ∀ n, SX4_copyFrom_2 p l e s m args below meth c D cy ad P V I J A B Af res (itr (fun kk => fX4_copyFrom_2 (I 3 2) (I 3 3) (I 3 4) (A 4) (A 5) kk) (fun _ _ _ _ _ _ => none) n) := by
  intro n
  induction n with
  | zero => intro s_seized s_date s_brought s_coal s_inside v2 H locs ls hW hl hf; exact (nomatch (show (none : Option (Int32 × Int32 × Int32 × (Nat → Int32) × (Nat → Int32))) = some res from hf))
  | succ n ih => exact tX4_copyFrom_2 C0 hK hN hA  ih
def fX4_copyFrom (s2_seized : Int32) (s2_date : Int32) (s2_brought : Int32) (s2_coal : (Nat → Int32)) (s2_inside : (Nat → Int32)) (s_seized : Int32) (s_date : Int32) (s_brought : Int32) (s_coal : (Nat → Int32)) (s_inside : (Nat → Int32)) : Option (Int32 × Int32 × Int32 × (Nat → Int32) × (Nat → Int32)) := itr (fun kk => fX4_copyFrom_2 s2_seized s2_date s2_brought s2_coal s2_inside kk) (fun _ _ _ _ _ _ => none) FU s_seized s_date s_brought s_coal s_inside 0
set_option maxHeartbeats 4000000 in
set_option maxRecDepth 100000 in
theorem KX4_copyFrom (l : Launch) (D : va_G) (cy : Nat → ClassId) (ad : Nat → Nat) (P : MP) (V : MV) (I : MI) (J : MJ) (A : MI) (B : MJ) {res : Int32 × Int32 × Int32 × (Nat → Int32) × (Nat → Int32)} (hf : fX4_copyFrom (I 3 2) (I 3 3) (I 3 4) (A 4) (A 5) (I 0 2) (I 0 3) (I 0 4) (A 1) (A 2) = some res) : CG l yX4_copyFrom cX4_copyFrom 3 none rmX4_copyFrom D cy (dn cy LY_X4X4 ad P V I J A B) [.ref (ad 0), .ref (ad 3)] none (dn cy LY_X4X4 ad P V (gp I [(0, 2, res.1), (0, 3, res.2.1), (0, 4, res.2.2.1)]) (gp J []) (gm A [(1, res.2.2.2.1), (2, res.2.2.2.2)]) (gm B [])) := by
  refine CG.of (own := RX4) (by decide) rfl rfl ?_
  intro p e s m below meth c ls Af C0 hK hN hA hW hl
  have hW : wd D (dn cy LY_X4X4 ad P V (gp I [(0, 2, (I 0 2)), (0, 3, (I 0 3)), (0, 4, (I 0 4))]) (gp J []) (gm A [(1, (A 1)), (2, (A 2))]) (gm B [])) Af s.heap s.heap [] := wd_sel [(0, 2), (0, 3), (0, 4)] [] [1, 2] [] hW
  have hl : lv_has ls 3 [(0, .ref (ad 0)), (1, .ref (ad 3))] := hl
  unfold fX4_copyFrom at hf
  refine lv_iconst (v := 0) C0.1 C0.2.1 dX4_copyFrom_0 kI_0 ?_
  refine lv_istore_n (lv' := [(2, .int 0), (0, .ref (ad 0)), (1, .ref (ad 3))]) C0.1 C0.2.1 dX4_copyFrom_1 rfl hl (by decide) rfl (fun ls hl => ?_)
  exact TX4_copyFrom_2 C0 hK hN hA  FU (I 0 2) (I 0 3) (I 0 4) (A 1) (A 2) 0 _ _ ls hW (lv_sub hl [1, 2, 0] rfl) hf
-- X7_copyFrom
def rmX7_copyFrom : Room := { frames := 1, cells := 0, slots := 0, locals := 21 }
def SX7_copyFrom_2 (p : Program) (l : Launch) (e : Env) (s : State) (m : MethodId) (args : Array Value) (below : List Frame) (meth : Method) (c : Code) (D : va_G) (cy : Nat → ClassId) (ad : Nat → Nat) (P : MP) (V : MV) (I : MI) (J : MJ) (A : MI) (B : MJ) (Af : Nat → Prop) (res : Int32 × (Nat → Int32) × (Nat → Int32) × (Nat → Int32)) (k : Int32 → (Nat → Int32) → (Nat → Int32) → (Nat → Int32) → Int32 → Option (Int32 × (Nat → Int32) × (Nat → Int32) × (Nat → Int32))) : Prop := ∀ (v_lines : Int32) (v_guests : (Nat → Int32)) (v_holes : (Nat → Int32)) (v_verbs : (Nat → Int32)) (v2 : Int32) (H : Heap) (locs : List Loc) (ls : Array Slot), wd D (dn cy LY_X7X7 ad P V (gp I [(0, 3, v_lines)]) (gp J []) (gm A [(1, v_guests), (2, v_holes), (3, v_verbs)]) (gm B [])) Af s.heap H locs → lv_has ls 3 [(0, .ref (ad 0)), (1, .ref (ad 4)), (2, .int v2)] → k v_lines v_guests v_holes v_verbs v2 = some res → W p l e rmX7_copyFrom s m args below meth c H locs 0 0 (ZQ below D cy (dn cy LY_X7X7 ad P V (gp I [(0, 3, res.1)]) (gp J []) (gm A [(1, res.2.1), (2, res.2.2.1), (3, res.2.2.2)]) (gm B [])) none Af args s) (F0 m 2 ls [])
def fX7_copyFrom_2 (v2_lines : Int32) (v2_guests : (Nat → Int32)) (v2_holes : (Nat → Int32)) (v2_verbs : (Nat → Int32)) (k2 : Int32 → (Nat → Int32) → (Nat → Int32) → (Nat → Int32) → Int32 → Option (Int32 × (Nat → Int32) × (Nat → Int32) × (Nat → Int32))) (v_lines : Int32) (v_guests : (Nat → Int32)) (v_holes : (Nat → Int32)) (v_verbs : (Nat → Int32)) (v2 : Int32) : Option (Int32 × (Nat → Int32) × (Nat → Int32) × (Nat → Int32)) := if 40 ≤ v2 then (some (v2_lines, v_guests, v_holes, v_verbs)) else (bif inb v2 40 then (bif inb v2 40 then (bif inb v2 40 then (bif inb v2 40 then (bif inb v2 40 then (bif inb v2 40 then (k2 v_lines (upd v_guests (Int32.toNatClampNeg v2) (vp_nar .byte (v2_guests (Int32.toNatClampNeg v2)))) (upd v_holes (Int32.toNatClampNeg v2) (vp_nar .byte (v2_holes (Int32.toNatClampNeg v2)))) (upd v_verbs (Int32.toNatClampNeg v2) (v2_verbs (Int32.toNatClampNeg v2))) (v2 + 1)) else none) else none) else none) else none) else none) else none)
set_option maxHeartbeats 4000000 in
set_option maxRecDepth 100000 in
theorem tX7_copyFrom_2 {p : Program} {l : Launch} {e : Env} {s : State} {m : MethodId} {args : Array Value} {below : List Frame} {meth : Method} {c : Code} {D : va_G} {cy : Nat → ClassId} {ad : Nat → Nat} {P : MP} {V : MV} {I : MI} {J : MJ} {A : MI} {B : MJ} {Af : Nat → Prop} {res : Int32 × (Nat → Int32) × (Nat → Int32) × (Nat → Int32)} (C0 : CX p s m args meth c cX7_copyFrom 3 none RX7) (hK : va_K D vwCl (tyG cy) s) (hN : NWs s) (hA : ∀ q, s.heap.size ≤ q → Af q) {k2 : Int32 → (Nat → Int32) → (Nat → Int32) → (Nat → Int32) → Int32 → Option (Int32 × (Nat → Int32) × (Nat → Int32) × (Nat → Int32))} (hk2 : SX7_copyFrom_2 p l e s m args below meth c D cy ad P V I J A B Af res k2) : SX7_copyFrom_2 p l e s m args below meth c D cy ad P V I J A B Af res (fX7_copyFrom_2 (I 4 3) (A 5) (A 6) (A 7) k2) := by
  intro v_lines v_guests v_holes v_verbs v2 H locs ls hW hl hf
  unfold fX7_copyFrom_2 at hf
  refine lv_iload_n C0.1 C0.2.1 dX7_copyFrom_2 rfl (lv_at hl 2 rfl) ?_
  refine lv_bipush (v := 40) C0.1 C0.2.1 dX7_copyFrom_3 kB_40 ?_
  refine lv_icmp_ge (tgt := 50) C0.1 C0.2.1 dX7_copyFrom_5 (by decide) (fun hc1 => ?_) (fun hc1 => ?_)
  · have hf := ite_t hc1 hf
    refine lv_aload_n C0.1 C0.2.1 dX7_copyFrom_50 rfl (lv_at hl 0 rfl) ?_
    refine lv_aload_n C0.1 C0.2.1 dX7_copyFrom_51 rfl (lv_at hl 1 rfl) ?_
    refine s_get (v := .int (I 4 3)) C0 hK hW 4 3 LY_X7X7_4 rfl fg_X7_22 rfl dX7_copyFrom_52 ?_
    refine s_putI C0 hK hW 0 3 LY_X7X7_0 rfl fg_X7_22 fp_X7_3 rfl dX7_copyFrom_55 (fun H locs hW => ?_)
    have hW : wd D (dn cy LY_X7X7 ad P V (gp I [(0, 3, (I 4 3))]) (gp J []) (gm A [(1, v_guests), (2, v_holes), (3, v_verbs)]) (gm B [])) Af s.heap H locs := hW
    obtain rfl := Option.some.inj hf
    exact r_void C0 hK hW dX7_copyFrom_58
  · have hf := ite_f hc1 hf
    refine lv_aload_n C0.1 C0.2.1 dX7_copyFrom_8 rfl (lv_at hl 0 rfl) ?_
    refine s_get (v := .ref (ad 1)) C0 hK hW 0 0 LY_X7X7_0 rfl fg_X7_9 rfl dX7_copyFrom_9 ?_
    refine lv_iload_n C0.1 C0.2.1 dX7_copyFrom_12 rfl (lv_at hl 2 rfl) ?_
    refine lv_aload_n C0.1 C0.2.1 dX7_copyFrom_13 rfl (lv_at hl 1 rfl) ?_
    refine s_get (v := .ref (ad 5)) C0 hK hW 4 0 LY_X7X7_4 rfl fg_X7_9 rfl dX7_copyFrom_14 ?_
    refine lv_iload_n C0.1 C0.2.1 dX7_copyFrom_17 rfl (lv_at hl 2 rfl) ?_
    obtain ⟨hb2, hf⟩ := g_some hf
    refine s_bald (v := ((A 5) (Int32.toNatClampNeg v2))) C0 hK hW 5 LY_X7X7_5 hb2 rfl dX7_copyFrom_18 ?_
    obtain ⟨hb3, hf⟩ := g_some hf
    refine s_bast (f := (upd v_guests (Int32.toNatClampNeg v2) (vp_nar .byte ((A 5) (Int32.toNatClampNeg v2))))) C0 hK hW 1 LY_X7X7_1 hb3 rfl rfl dX7_copyFrom_19 (fun H locs hW => ?_)
    have hW : wd D (dn cy LY_X7X7 ad P V (gp I [(0, 3, v_lines)]) (gp J []) (gm A [(1, (upd v_guests (Int32.toNatClampNeg v2) (vp_nar .byte ((A 5) (Int32.toNatClampNeg v2))))), (2, v_holes), (3, v_verbs)]) (gm B [])) Af s.heap H locs := hW
    refine lv_aload_n C0.1 C0.2.1 dX7_copyFrom_20 rfl (lv_at hl 0 rfl) ?_
    refine s_get (v := .ref (ad 2)) C0 hK hW 0 1 LY_X7X7_0 rfl fg_X7_15 rfl dX7_copyFrom_21 ?_
    refine lv_iload_n C0.1 C0.2.1 dX7_copyFrom_24 rfl (lv_at hl 2 rfl) ?_
    refine lv_aload_n C0.1 C0.2.1 dX7_copyFrom_25 rfl (lv_at hl 1 rfl) ?_
    refine s_get (v := .ref (ad 6)) C0 hK hW 4 1 LY_X7X7_4 rfl fg_X7_15 rfl dX7_copyFrom_26 ?_
    refine lv_iload_n C0.1 C0.2.1 dX7_copyFrom_29 rfl (lv_at hl 2 rfl) ?_
    obtain ⟨hb4, hf⟩ := g_some hf
    refine s_bald (v := ((A 6) (Int32.toNatClampNeg v2))) C0 hK hW 6 LY_X7X7_6 hb4 rfl dX7_copyFrom_30 ?_
    obtain ⟨hb5, hf⟩ := g_some hf
    refine s_bast (f := (upd v_holes (Int32.toNatClampNeg v2) (vp_nar .byte ((A 6) (Int32.toNatClampNeg v2))))) C0 hK hW 2 LY_X7X7_2 hb5 rfl rfl dX7_copyFrom_31 (fun H locs hW => ?_)
    have hW : wd D (dn cy LY_X7X7 ad P V (gp I [(0, 3, v_lines)]) (gp J []) (gm A [(1, (upd v_guests (Int32.toNatClampNeg v2) (vp_nar .byte ((A 5) (Int32.toNatClampNeg v2))))), (2, (upd v_holes (Int32.toNatClampNeg v2) (vp_nar .byte ((A 6) (Int32.toNatClampNeg v2))))), (3, v_verbs)]) (gm B [])) Af s.heap H locs := hW
    refine lv_aload_n C0.1 C0.2.1 dX7_copyFrom_32 rfl (lv_at hl 0 rfl) ?_
    refine s_get (v := .ref (ad 3)) C0 hK hW 0 2 LY_X7X7_0 rfl fg_X7_18 rfl dX7_copyFrom_33 ?_
    refine lv_iload_n C0.1 C0.2.1 dX7_copyFrom_36 rfl (lv_at hl 2 rfl) ?_
    refine lv_aload_n C0.1 C0.2.1 dX7_copyFrom_37 rfl (lv_at hl 1 rfl) ?_
    refine s_get (v := .ref (ad 7)) C0 hK hW 4 2 LY_X7X7_4 rfl fg_X7_18 rfl dX7_copyFrom_38 ?_
    refine lv_iload_n C0.1 C0.2.1 dX7_copyFrom_41 rfl (lv_at hl 2 rfl) ?_
    obtain ⟨hb6, hf⟩ := g_some hf
    refine s_iald (v := ((A 7) (Int32.toNatClampNeg v2))) C0 hK hW 7 LY_X7X7_7 hb6 rfl dX7_copyFrom_42 ?_
    obtain ⟨hb7, hf⟩ := g_some hf
    refine s_iast (f := (upd v_verbs (Int32.toNatClampNeg v2) ((A 7) (Int32.toNatClampNeg v2)))) C0 hK hW 3 LY_X7X7_3 hb7 rfl rfl dX7_copyFrom_43 (fun H locs hW => ?_)
    have hW : wd D (dn cy LY_X7X7 ad P V (gp I [(0, 3, v_lines)]) (gp J []) (gm A [(1, (upd v_guests (Int32.toNatClampNeg v2) (vp_nar .byte ((A 5) (Int32.toNatClampNeg v2))))), (2, (upd v_holes (Int32.toNatClampNeg v2) (vp_nar .byte ((A 6) (Int32.toNatClampNeg v2))))), (3, (upd v_verbs (Int32.toNatClampNeg v2) ((A 7) (Int32.toNatClampNeg v2))))]) (gm B [])) Af s.heap H locs := hW
    refine lv_iinc (v := (v2 + 1)) (lv' := [(2, .int (v2 + 1)), (0, .ref (ad 0)), (1, .ref (ad 4))]) C0.1 C0.2.1 dX7_copyFrom_44 hl (k := 2) rfl (congrArg (fun z => _ + z) kI_1) (by decide) rfl (fun ls hl => ?_)
    refine lv_goto (tgt := 2) C0.1 C0.2.1 dX7_copyFrom_47 (by decide) ?_
    exact hk2 v_lines (upd v_guests (Int32.toNatClampNeg v2) (vp_nar .byte ((A 5) (Int32.toNatClampNeg v2)))) (upd v_holes (Int32.toNatClampNeg v2) (vp_nar .byte ((A 6) (Int32.toNatClampNeg v2)))) (upd v_verbs (Int32.toNatClampNeg v2) ((A 7) (Int32.toNatClampNeg v2))) (v2 + 1) H locs ls hW (lv_sub hl [1, 2, 0] rfl) hf
theorem TX7_copyFrom_2 {p : Program} {l : Launch} {e : Env} {s : State} {m : MethodId} {args : Array Value} {below : List Frame} {meth : Method} {c : Code} {D : va_G} {cy : Nat → ClassId} {ad : Nat → Nat} {P : MP} {V : MV} {I : MI} {J : MJ} {A : MI} {B : MJ} {Af : Nat → Prop} {res : Int32 × (Nat → Int32) × (Nat → Int32) × (Nat → Int32)} (C0 : CX p s m args meth c cX7_copyFrom 3 none RX7) (hK : va_K D vwCl (tyG cy) s) (hN : NWs s) (hA : ∀ q, s.heap.size ≤ q → Af q) : ∀ n, SX7_copyFrom_2 p l e s m args below meth c D cy ad P V I J A B Af res (itr (fun kk => fX7_copyFrom_2 (I 4 3) (A 5) (A 6) (A 7) kk) (fun _ _ _ _ _ => none) n) := by
  intro n
  induction n with
  | zero => intro v_lines v_guests v_holes v_verbs v2 H locs ls hW hl hf; exact (nomatch (show (none : Option (Int32 × (Nat → Int32) × (Nat → Int32) × (Nat → Int32))) = some res from hf))
  | succ n ih => exact tX7_copyFrom_2 C0 hK hN hA  ih
def fX7_copyFrom (v2_lines : Int32) (v2_guests : (Nat → Int32)) (v2_holes : (Nat → Int32)) (v2_verbs : (Nat → Int32)) (v_lines : Int32) (v_guests : (Nat → Int32)) (v_holes : (Nat → Int32)) (v_verbs : (Nat → Int32)) : Option (Int32 × (Nat → Int32) × (Nat → Int32) × (Nat → Int32)) := itr (fun kk => fX7_copyFrom_2 v2_lines v2_guests v2_holes v2_verbs kk) (fun _ _ _ _ _ => none) FU v_lines v_guests v_holes v_verbs 0
set_option maxHeartbeats 4000000 in
set_option maxRecDepth 100000 in
theorem KX7_copyFrom (l : Launch) (D : va_G) (cy : Nat → ClassId) (ad : Nat → Nat) (P : MP) (V : MV) (I : MI) (J : MJ) (A : MI) (B : MJ) {res : Int32 × (Nat → Int32) × (Nat → Int32) × (Nat → Int32)} (hf : fX7_copyFrom (I 4 3) (A 5) (A 6) (A 7) (I 0 3) (A 1) (A 2) (A 3) = some res) : CG l yX7_copyFrom cX7_copyFrom 3 none rmX7_copyFrom D cy (dn cy LY_X7X7 ad P V I J A B) [.ref (ad 0), .ref (ad 4)] none (dn cy LY_X7X7 ad P V (gp I [(0, 3, res.1)]) (gp J []) (gm A [(1, res.2.1), (2, res.2.2.1), (3, res.2.2.2)]) (gm B [])) := by
  refine CG.of (own := RX7) (by decide) rfl rfl ?_
  intro p e s m below meth c ls Af C0 hK hN hA hW hl
  have hW : wd D (dn cy LY_X7X7 ad P V (gp I [(0, 3, (I 0 3))]) (gp J []) (gm A [(1, (A 1)), (2, (A 2)), (3, (A 3))]) (gm B [])) Af s.heap s.heap [] := wd_sel [(0, 3)] [] [1, 2, 3] [] hW
  have hl : lv_has ls 3 [(0, .ref (ad 0)), (1, .ref (ad 4))] := hl
  unfold fX7_copyFrom at hf
  refine lv_iconst (v := 0) C0.1 C0.2.1 dX7_copyFrom_0 kI_0 ?_
  refine lv_istore_n (lv' := [(2, .int 0), (0, .ref (ad 0)), (1, .ref (ad 4))]) C0.1 C0.2.1 dX7_copyFrom_1 rfl hl (by decide) rfl (fun ls hl => ?_)
  exact TX7_copyFrom_2 C0 hK hN hA  FU (I 0 3) (A 1) (A 2) (A 3) 0 _ _ ls hW (lv_sub hl [1, 2, 0] rfl) hf
-- X3_keep
def rmX3_keep : Room := { frames := 2, cells := 0, slots := 0, locals := 43 }
def fX3_keep (s_seized : Int32) (s_date : Int32) (s_brought : Int32) (v_lines : Int32) (h_size : Int32) (s_coal : (Nat → Int32)) (s_inside : (Nat → Int32)) (v_guests : (Nat → Int32)) (v_holes : (Nat → Int32)) (v_verbs : (Nat → Int32)) (h_days : (Nat → Int32)) (h_isSome : (Nat → Int32)) (k_isLaid : Int32) (k_state_seized : Int32) (k_state_date : Int32) (k_state_brought : Int32) (k_winter_lines : Int32) (k_heard_size : Int32) (k_state_coal : (Nat → Int32)) (k_state_inside : (Nat → Int32)) (k_winter_guests : (Nat → Int32)) (k_winter_holes : (Nat → Int32)) (k_winter_verbs : (Nat → Int32)) (k_heard_days : (Nat → Int32)) (k_heard_isSome : (Nat → Int32)) : Option (Int32 × Int32 × Int32 × Int32 × Int32 × Int32 × (Nat → Int32) × (Nat → Int32) × (Nat → Int32) × (Nat → Int32) × (Nat → Int32) × (Nat → Int32) × (Nat → Int32)) := Option.bind (fX4_copyFrom s_seized s_date s_brought s_coal s_inside k_state_seized k_state_date k_state_brought k_state_coal k_state_inside) fun y1 => (Option.bind (fX7_copyFrom v_lines v_guests v_holes v_verbs k_winter_lines k_winter_guests k_winter_holes k_winter_verbs) fun y2 => (Option.bind (fX0_copyFrom h_size h_days h_isSome k_heard_size k_heard_days k_heard_isSome) fun y3 => (some (1, y1.1, y1.2.1, y1.2.2.1, y2.1, y3.1, y1.2.2.2.1, y1.2.2.2.2, y2.2.1, y2.2.2.1, y2.2.2.2, y3.2.1, y3.2.2))))
set_option maxHeartbeats 4000000 in
set_option maxRecDepth 100000 in
theorem KX3_keep (l : Launch) (D : va_G) (cy : Nat → ClassId) (ad : Nat → Nat) (P : MP) (V : MV) (I : MI) (J : MJ) (A : MI) (B : MJ) {res : Int32 × Int32 × Int32 × Int32 × Int32 × Int32 × (Nat → Int32) × (Nat → Int32) × (Nat → Int32) × (Nat → Int32) × (Nat → Int32) × (Nat → Int32) × (Nat → Int32)} (hf : fX3_keep (I 11 2) (I 11 3) (I 11 4) (I 14 3) (I 18 2) (A 12) (A 13) (A 15) (A 16) (A 17) (A 19) (A 20) (I 0 3) (I 1 2) (I 1 3) (I 1 4) (I 4 3) (I 8 2) (A 2) (A 3) (A 5) (A 6) (A 7) (A 9) (A 10) = some res) : CG l yX3_keep cX3_keep 4 none rmX3_keep D cy (dn cy LY_X3X4X7X0 ad P V I J A B) [.ref (ad 0), .ref (ad 11), .ref (ad 14), .ref (ad 18)] none (dn cy LY_X3X4X7X0 ad P V (gp I [(0, 3, res.1), (1, 2, res.2.1), (1, 3, res.2.2.1), (1, 4, res.2.2.2.1), (4, 3, res.2.2.2.2.1), (8, 2, res.2.2.2.2.2.1)]) (gp J []) (gm A [(2, res.2.2.2.2.2.2.1), (3, res.2.2.2.2.2.2.2.1), (5, res.2.2.2.2.2.2.2.2.1), (6, res.2.2.2.2.2.2.2.2.2.1), (7, res.2.2.2.2.2.2.2.2.2.2.1), (9, res.2.2.2.2.2.2.2.2.2.2.2.1), (10, res.2.2.2.2.2.2.2.2.2.2.2.2)]) (gm B [])) := by
  refine CG.of (own := RX3) (by decide) rfl rfl ?_
  intro p e s m below meth c ls Af C0 hK hN hA hW hl
  have hW : wd D (dn cy LY_X3X4X7X0 ad P V (gp I [(0, 3, (I 0 3)), (1, 2, (I 1 2)), (1, 3, (I 1 3)), (1, 4, (I 1 4)), (4, 3, (I 4 3)), (8, 2, (I 8 2))]) (gp J []) (gm A [(2, (A 2)), (3, (A 3)), (5, (A 5)), (6, (A 6)), (7, (A 7)), (9, (A 9)), (10, (A 10))]) (gm B [])) Af s.heap s.heap [] := wd_sel [(0, 3), (1, 2), (1, 3), (1, 4), (4, 3), (8, 2)] [] [2, 3, 5, 6, 7, 9, 10] [] hW
  have hl : lv_has ls 4 [(0, .ref (ad 0)), (1, .ref (ad 11)), (2, .ref (ad 14)), (3, .ref (ad 18))] := hl
  unfold fX3_keep at hf
  refine lv_aload_n C0.1 C0.2.1 dX3_keep_0 rfl (lv_at hl 0 rfl) ?_
  refine s_get (v := .ref (ad 1)) C0 hK hW 0 0 LY_X3X4X7X0_0 rfl fg_X3_10 rfl dX3_keep_1 ?_
  refine lv_aload_n C0.1 C0.2.1 dX3_keep_4 rfl (lv_at hl 1 rfl) ?_
  obtain ⟨y1, hy1, hf⟩ := b_some hf
  refine c_Vv C0 hK hN hl.1 hW hA (KX4_copyFrom l D cy  (fun q => ad (pl_LY_X3X4X7X0_LY_X4X4_1_2_3_11_12_13.getD q 0)) (fun q => P (pl_LY_X3X4X7X0_LY_X4X4_1_2_3_11_12_13.getD q 0)) (fun q => Vx LY_X3X4X7X0 ad V (pl_LY_X3X4X7X0_LY_X4X4_1_2_3_11_12_13.getD q 0)) (fun q => gp I [(0, 3, (I 0 3)), (1, 2, (I 1 2)), (1, 3, (I 1 3)), (1, 4, (I 1 4)), (4, 3, (I 4 3)), (8, 2, (I 8 2))] (pl_LY_X3X4X7X0_LY_X4X4_1_2_3_11_12_13.getD q 0)) (fun q => gp J [] (pl_LY_X3X4X7X0_LY_X4X4_1_2_3_11_12_13.getD q 0)) (fun q => gm A [(2, (A 2)), (3, (A 3)), (5, (A 5)), (6, (A 6)), (7, (A 7)), (9, (A 9)), (10, (A 10))] (pl_LY_X3X4X7X0_LY_X4X4_1_2_3_11_12_13.getD q 0)) (fun q => gm B [] (pl_LY_X3X4X7X0_LY_X4X4_1_2_3_11_12_13.getD q 0))  hy1) (JN_subC (pl := pl_LY_X3X4X7X0_LY_X4X4_1_2_3_11_12_13) sb_LY_X3X4X7X0_LY_X4X4_1_2_3_11_12_13 rfl rfl rfl rfl rfl rfl rfl rfl rfl) (Uw_V uw_955 uw_696 uw_697 uw_7 uw_698) rfl rfl hd_X4_copyFrom ⟨rfl, rfl⟩ rfl (dn_some LY_X3X4X7X0_1) rfl rfl rfl dX3_keep_5 ⟨Nat.zero_le _, Nat.zero_le _⟩ (fun H locs hW => ?_)
  have hW : wd D (dn cy LY_X3X4X7X0 ad P V (gp I [(0, 3, (I 0 3)), (1, 2, y1.1), (1, 3, y1.2.1), (1, 4, y1.2.2.1), (4, 3, (I 4 3)), (8, 2, (I 8 2))]) (gp J []) (gm A [(2, y1.2.2.2.1), (3, y1.2.2.2.2), (5, (A 5)), (6, (A 6)), (7, (A 7)), (9, (A 9)), (10, (A 10))]) (gm B [])) Af s.heap H locs := hW
  refine lv_aload_n C0.1 C0.2.1 dX3_keep_8 rfl (lv_at hl 0 rfl) ?_
  refine s_get (v := .ref (ad 4)) C0 hK hW 0 1 LY_X3X4X7X0_0 rfl fg_X3_19 rfl dX3_keep_9 ?_
  refine lv_aload_n C0.1 C0.2.1 dX3_keep_12 rfl (lv_at hl 2 rfl) ?_
  obtain ⟨y2, hy2, hf⟩ := b_some hf
  refine c_Vv C0 hK hN hl.1 hW hA (KX7_copyFrom l D cy  (fun q => ad (pl_LY_X3X4X7X0_LY_X7X7_4_5_3177325.getD q 0)) (fun q => P (pl_LY_X3X4X7X0_LY_X7X7_4_5_3177325.getD q 0)) (fun q => Vx LY_X3X4X7X0 ad V (pl_LY_X3X4X7X0_LY_X7X7_4_5_3177325.getD q 0)) (fun q => gp I [(0, 3, (I 0 3)), (1, 2, y1.1), (1, 3, y1.2.1), (1, 4, y1.2.2.1), (4, 3, (I 4 3)), (8, 2, (I 8 2))] (pl_LY_X3X4X7X0_LY_X7X7_4_5_3177325.getD q 0)) (fun q => gp J [] (pl_LY_X3X4X7X0_LY_X7X7_4_5_3177325.getD q 0)) (fun q => gm A [(2, y1.2.2.2.1), (3, y1.2.2.2.2), (5, (A 5)), (6, (A 6)), (7, (A 7)), (9, (A 9)), (10, (A 10))] (pl_LY_X3X4X7X0_LY_X7X7_4_5_3177325.getD q 0)) (fun q => gm B [] (pl_LY_X3X4X7X0_LY_X7X7_4_5_3177325.getD q 0))  hy2) (JN_subC (pl := pl_LY_X3X4X7X0_LY_X7X7_4_5_3177325) sb_LY_X3X4X7X0_LY_X7X7_4_5_3177325 rfl rfl rfl rfl rfl rfl rfl rfl rfl) (Uw_V uw_956 uw_957 uw_958 uw_12 uw_959) rfl rfl hd_X7_copyFrom ⟨rfl, rfl⟩ rfl (dn_some LY_X3X4X7X0_4) rfl rfl rfl dX3_keep_13 ⟨Nat.zero_le _, Nat.zero_le _⟩ (fun H locs hW => ?_)
  have hW : wd D (dn cy LY_X3X4X7X0 ad P V (gp I [(0, 3, (I 0 3)), (1, 2, y1.1), (1, 3, y1.2.1), (1, 4, y1.2.2.1), (4, 3, y2.1), (8, 2, (I 8 2))]) (gp J []) (gm A [(2, y1.2.2.2.1), (3, y1.2.2.2.2), (5, y2.2.1), (6, y2.2.2.1), (7, y2.2.2.2), (9, (A 9)), (10, (A 10))]) (gm B [])) Af s.heap H locs := hW
  refine lv_aload_n C0.1 C0.2.1 dX3_keep_16 rfl (lv_at hl 0 rfl) ?_
  refine s_get (v := .ref (ad 8)) C0 hK hW 0 2 LY_X3X4X7X0_0 rfl fg_X3_26 rfl dX3_keep_17 ?_
  refine lv_aload_n C0.1 C0.2.1 dX3_keep_20 rfl (lv_at hl 3 rfl) ?_
  obtain ⟨y3, hy3, hf⟩ := b_some hf
  refine c_Vv C0 hK hN hl.1 hW hA (KX0_copyFrom l D cy  (fun q => ad (pl_LY_X3X4X7X0_LY_X0X0_8_9_10_18_19_20.getD q 0)) (fun q => P (pl_LY_X3X4X7X0_LY_X0X0_8_9_10_18_19_20.getD q 0)) (fun q => Vx LY_X3X4X7X0 ad V (pl_LY_X3X4X7X0_LY_X0X0_8_9_10_18_19_20.getD q 0)) (fun q => gp I [(0, 3, (I 0 3)), (1, 2, y1.1), (1, 3, y1.2.1), (1, 4, y1.2.2.1), (4, 3, y2.1), (8, 2, (I 8 2))] (pl_LY_X3X4X7X0_LY_X0X0_8_9_10_18_19_20.getD q 0)) (fun q => gp J [] (pl_LY_X3X4X7X0_LY_X0X0_8_9_10_18_19_20.getD q 0)) (fun q => gm A [(2, y1.2.2.2.1), (3, y1.2.2.2.2), (5, y2.2.1), (6, y2.2.2.1), (7, y2.2.2.2), (9, (A 9)), (10, (A 10))] (pl_LY_X3X4X7X0_LY_X0X0_8_9_10_18_19_20.getD q 0)) (fun q => gm B [] (pl_LY_X3X4X7X0_LY_X0X0_8_9_10_18_19_20.getD q 0))  hy3) (JN_subC (pl := pl_LY_X3X4X7X0_LY_X0X0_8_9_10_18_19_20) sb_LY_X3X4X7X0_LY_X0X0_8_9_10_18_19_20 rfl rfl rfl rfl rfl rfl rfl rfl rfl) (Uw_V uw_960 uw_961 uw_962 uw_8 uw_963) rfl rfl hd_X0_copyFrom ⟨rfl, rfl⟩ rfl (dn_some LY_X3X4X7X0_8) rfl rfl rfl dX3_keep_21 ⟨Nat.zero_le _, Nat.zero_le _⟩ (fun H locs hW => ?_)
  have hW : wd D (dn cy LY_X3X4X7X0 ad P V (gp I [(0, 3, (I 0 3)), (1, 2, y1.1), (1, 3, y1.2.1), (1, 4, y1.2.2.1), (4, 3, y2.1), (8, 2, y3.1)]) (gp J []) (gm A [(2, y1.2.2.2.1), (3, y1.2.2.2.2), (5, y2.2.1), (6, y2.2.2.1), (7, y2.2.2.2), (9, y3.2.1), (10, y3.2.2)]) (gm B [])) Af s.heap H locs := hW
  refine lv_aload_n C0.1 C0.2.1 dX3_keep_24 rfl (lv_at hl 0 rfl) ?_
  refine lv_iconst (v := 1) C0.1 C0.2.1 dX3_keep_25 kI_1 ?_
  refine s_putZ C0 hK hW 0 3 LY_X3X4X7X0_0 rfl fg_X3_40 fp_X3_3 rfl rfl rfl dX3_keep_26 (fun H locs hW => ?_)
  have hW : wd D (dn cy LY_X3X4X7X0 ad P V (gp I [(0, 3, 1), (1, 2, y1.1), (1, 3, y1.2.1), (1, 4, y1.2.2.1), (4, 3, y2.1), (8, 2, y3.1)]) (gp J []) (gm A [(2, y1.2.2.2.1), (3, y1.2.2.2.2), (5, y2.2.1), (6, y2.2.2.1), (7, y2.2.2.2), (9, y3.2.1), (10, y3.2.2)]) (gm B [])) Af s.heap H locs := hW
  obtain rfl := Option.some.inj hf
  exact r_void C0 hK hW dX3_keep_29
-- X3_giveBack
def rmX3_giveBack : Room := { frames := 2, cells := 0, slots := 0, locals := 43 }
def fX3_giveBack (k_state_seized : Int32) (k_state_date : Int32) (k_state_brought : Int32) (k_winter_lines : Int32) (k_heard_size : Int32) (k_state_coal : (Nat → Int32)) (k_state_inside : (Nat → Int32)) (k_winter_guests : (Nat → Int32)) (k_winter_holes : (Nat → Int32)) (k_winter_verbs : (Nat → Int32)) (k_heard_days : (Nat → Int32)) (k_heard_isSome : (Nat → Int32)) (s_seized : Int32) (s_date : Int32) (s_brought : Int32) (v_lines : Int32) (h_size : Int32) (s_coal : (Nat → Int32)) (s_inside : (Nat → Int32)) (v_guests : (Nat → Int32)) (v_holes : (Nat → Int32)) (v_verbs : (Nat → Int32)) (h_days : (Nat → Int32)) (h_isSome : (Nat → Int32)) : Option (Int32 × Int32 × Int32 × Int32 × Int32 × (Nat → Int32) × (Nat → Int32) × (Nat → Int32) × (Nat → Int32) × (Nat → Int32) × (Nat → Int32) × (Nat → Int32)) := Option.bind (fX4_copyFrom k_state_seized k_state_date k_state_brought k_state_coal k_state_inside s_seized s_date s_brought s_coal s_inside) fun y1 => (Option.bind (fX7_copyFrom k_winter_lines k_winter_guests k_winter_holes k_winter_verbs v_lines v_guests v_holes v_verbs) fun y2 => (Option.bind (fX0_copyFrom k_heard_size k_heard_days k_heard_isSome h_size h_days h_isSome) fun y3 => (some (y1.1, y1.2.1, y1.2.2.1, y2.1, y3.1, y1.2.2.2.1, y1.2.2.2.2, y2.2.1, y2.2.2.1, y2.2.2.2, y3.2.1, y3.2.2))))
set_option maxHeartbeats 4000000 in
set_option maxRecDepth 100000 in
theorem KX3_giveBack (l : Launch) (D : va_G) (cy : Nat → ClassId) (ad : Nat → Nat) (P : MP) (V : MV) (I : MI) (J : MJ) (A : MI) (B : MJ) {res : Int32 × Int32 × Int32 × Int32 × Int32 × (Nat → Int32) × (Nat → Int32) × (Nat → Int32) × (Nat → Int32) × (Nat → Int32) × (Nat → Int32) × (Nat → Int32)} (hf : fX3_giveBack (I 1 2) (I 1 3) (I 1 4) (I 4 3) (I 8 2) (A 2) (A 3) (A 5) (A 6) (A 7) (A 9) (A 10) (I 11 2) (I 11 3) (I 11 4) (I 14 3) (I 18 2) (A 12) (A 13) (A 15) (A 16) (A 17) (A 19) (A 20) = some res) : CG l yX3_giveBack cX3_giveBack 4 none rmX3_giveBack D cy (dn cy LY_X3X4X7X0 ad P V I J A B) [.ref (ad 0), .ref (ad 11), .ref (ad 14), .ref (ad 18)] none (dn cy LY_X3X4X7X0 ad P V (gp I [(11, 2, res.1), (11, 3, res.2.1), (11, 4, res.2.2.1), (14, 3, res.2.2.2.1), (18, 2, res.2.2.2.2.1)]) (gp J []) (gm A [(12, res.2.2.2.2.2.1), (13, res.2.2.2.2.2.2.1), (15, res.2.2.2.2.2.2.2.1), (16, res.2.2.2.2.2.2.2.2.1), (17, res.2.2.2.2.2.2.2.2.2.1), (19, res.2.2.2.2.2.2.2.2.2.2.1), (20, res.2.2.2.2.2.2.2.2.2.2.2)]) (gm B [])) := by
  refine CG.of (own := RX3) (by decide) rfl rfl ?_
  intro p e s m below meth c ls Af C0 hK hN hA hW hl
  have hW : wd D (dn cy LY_X3X4X7X0 ad P V (gp I [(11, 2, (I 11 2)), (11, 3, (I 11 3)), (11, 4, (I 11 4)), (14, 3, (I 14 3)), (18, 2, (I 18 2))]) (gp J []) (gm A [(12, (A 12)), (13, (A 13)), (15, (A 15)), (16, (A 16)), (17, (A 17)), (19, (A 19)), (20, (A 20))]) (gm B [])) Af s.heap s.heap [] := wd_sel [(11, 2), (11, 3), (11, 4), (14, 3), (18, 2)] [] [12, 13, 15, 16, 17, 19, 20] [] hW
  have hl : lv_has ls 4 [(0, .ref (ad 0)), (1, .ref (ad 11)), (2, .ref (ad 14)), (3, .ref (ad 18))] := hl
  unfold fX3_giveBack at hf
  refine lv_aload_n C0.1 C0.2.1 dX3_giveBack_0 rfl (lv_at hl 1 rfl) ?_
  refine lv_aload_n C0.1 C0.2.1 dX3_giveBack_1 rfl (lv_at hl 0 rfl) ?_
  refine s_get (v := .ref (ad 1)) C0 hK hW 0 0 LY_X3X4X7X0_0 rfl fg_X3_10 rfl dX3_giveBack_2 ?_
  obtain ⟨y1, hy1, hf⟩ := b_some hf
  refine c_Vv C0 hK hN hl.1 hW hA (KX4_copyFrom l D cy  (fun q => ad (pl_LY_X3X4X7X0_LY_X4X4_11_12_13_1_2_3.getD q 0)) (fun q => P (pl_LY_X3X4X7X0_LY_X4X4_11_12_13_1_2_3.getD q 0)) (fun q => Vx LY_X3X4X7X0 ad V (pl_LY_X3X4X7X0_LY_X4X4_11_12_13_1_2_3.getD q 0)) (fun q => gp I [(11, 2, (I 11 2)), (11, 3, (I 11 3)), (11, 4, (I 11 4)), (14, 3, (I 14 3)), (18, 2, (I 18 2))] (pl_LY_X3X4X7X0_LY_X4X4_11_12_13_1_2_3.getD q 0)) (fun q => gp J [] (pl_LY_X3X4X7X0_LY_X4X4_11_12_13_1_2_3.getD q 0)) (fun q => gm A [(12, (A 12)), (13, (A 13)), (15, (A 15)), (16, (A 16)), (17, (A 17)), (19, (A 19)), (20, (A 20))] (pl_LY_X3X4X7X0_LY_X4X4_11_12_13_1_2_3.getD q 0)) (fun q => gm B [] (pl_LY_X3X4X7X0_LY_X4X4_11_12_13_1_2_3.getD q 0))  hy1) (JN_subC (pl := pl_LY_X3X4X7X0_LY_X4X4_11_12_13_1_2_3) sb_LY_X3X4X7X0_LY_X4X4_11_12_13_1_2_3 rfl rfl rfl rfl rfl rfl rfl rfl rfl) (Uw_V uw_955 uw_696 uw_697 uw_7 uw_698) rfl rfl hd_X4_copyFrom ⟨rfl, rfl⟩ rfl (dn_some LY_X3X4X7X0_11) rfl rfl rfl dX3_giveBack_5 ⟨Nat.zero_le _, Nat.zero_le _⟩ (fun H locs hW => ?_)
  have hW : wd D (dn cy LY_X3X4X7X0 ad P V (gp I [(11, 2, y1.1), (11, 3, y1.2.1), (11, 4, y1.2.2.1), (14, 3, (I 14 3)), (18, 2, (I 18 2))]) (gp J []) (gm A [(12, y1.2.2.2.1), (13, y1.2.2.2.2), (15, (A 15)), (16, (A 16)), (17, (A 17)), (19, (A 19)), (20, (A 20))]) (gm B [])) Af s.heap H locs := hW
  refine lv_aload_n C0.1 C0.2.1 dX3_giveBack_8 rfl (lv_at hl 2 rfl) ?_
  refine lv_aload_n C0.1 C0.2.1 dX3_giveBack_9 rfl (lv_at hl 0 rfl) ?_
  refine s_get (v := .ref (ad 4)) C0 hK hW 0 1 LY_X3X4X7X0_0 rfl fg_X3_19 rfl dX3_giveBack_10 ?_
  obtain ⟨y2, hy2, hf⟩ := b_some hf
  refine c_Vv C0 hK hN hl.1 hW hA (KX7_copyFrom l D cy  (fun q => ad (pl_LY_X3X4X7X0_LY_X7X7_14_15_23041770.getD q 0)) (fun q => P (pl_LY_X3X4X7X0_LY_X7X7_14_15_23041770.getD q 0)) (fun q => Vx LY_X3X4X7X0 ad V (pl_LY_X3X4X7X0_LY_X7X7_14_15_23041770.getD q 0)) (fun q => gp I [(11, 2, y1.1), (11, 3, y1.2.1), (11, 4, y1.2.2.1), (14, 3, (I 14 3)), (18, 2, (I 18 2))] (pl_LY_X3X4X7X0_LY_X7X7_14_15_23041770.getD q 0)) (fun q => gp J [] (pl_LY_X3X4X7X0_LY_X7X7_14_15_23041770.getD q 0)) (fun q => gm A [(12, y1.2.2.2.1), (13, y1.2.2.2.2), (15, (A 15)), (16, (A 16)), (17, (A 17)), (19, (A 19)), (20, (A 20))] (pl_LY_X3X4X7X0_LY_X7X7_14_15_23041770.getD q 0)) (fun q => gm B [] (pl_LY_X3X4X7X0_LY_X7X7_14_15_23041770.getD q 0))  hy2) (JN_subC (pl := pl_LY_X3X4X7X0_LY_X7X7_14_15_23041770) sb_LY_X3X4X7X0_LY_X7X7_14_15_23041770 rfl rfl rfl rfl rfl rfl rfl rfl rfl) (Uw_V uw_956 uw_957 uw_958 uw_12 uw_959) rfl rfl hd_X7_copyFrom ⟨rfl, rfl⟩ rfl (dn_some LY_X3X4X7X0_14) rfl rfl rfl dX3_giveBack_13 ⟨Nat.zero_le _, Nat.zero_le _⟩ (fun H locs hW => ?_)
  have hW : wd D (dn cy LY_X3X4X7X0 ad P V (gp I [(11, 2, y1.1), (11, 3, y1.2.1), (11, 4, y1.2.2.1), (14, 3, y2.1), (18, 2, (I 18 2))]) (gp J []) (gm A [(12, y1.2.2.2.1), (13, y1.2.2.2.2), (15, y2.2.1), (16, y2.2.2.1), (17, y2.2.2.2), (19, (A 19)), (20, (A 20))]) (gm B [])) Af s.heap H locs := hW
  refine lv_aload_n C0.1 C0.2.1 dX3_giveBack_16 rfl (lv_at hl 3 rfl) ?_
  refine lv_aload_n C0.1 C0.2.1 dX3_giveBack_17 rfl (lv_at hl 0 rfl) ?_
  refine s_get (v := .ref (ad 8)) C0 hK hW 0 2 LY_X3X4X7X0_0 rfl fg_X3_26 rfl dX3_giveBack_18 ?_
  obtain ⟨y3, hy3, hf⟩ := b_some hf
  refine c_Vv C0 hK hN hl.1 hW hA (KX0_copyFrom l D cy  (fun q => ad (pl_LY_X3X4X7X0_LY_X0X0_18_19_20_8_9_10.getD q 0)) (fun q => P (pl_LY_X3X4X7X0_LY_X0X0_18_19_20_8_9_10.getD q 0)) (fun q => Vx LY_X3X4X7X0 ad V (pl_LY_X3X4X7X0_LY_X0X0_18_19_20_8_9_10.getD q 0)) (fun q => gp I [(11, 2, y1.1), (11, 3, y1.2.1), (11, 4, y1.2.2.1), (14, 3, y2.1), (18, 2, (I 18 2))] (pl_LY_X3X4X7X0_LY_X0X0_18_19_20_8_9_10.getD q 0)) (fun q => gp J [] (pl_LY_X3X4X7X0_LY_X0X0_18_19_20_8_9_10.getD q 0)) (fun q => gm A [(12, y1.2.2.2.1), (13, y1.2.2.2.2), (15, y2.2.1), (16, y2.2.2.1), (17, y2.2.2.2), (19, (A 19)), (20, (A 20))] (pl_LY_X3X4X7X0_LY_X0X0_18_19_20_8_9_10.getD q 0)) (fun q => gm B [] (pl_LY_X3X4X7X0_LY_X0X0_18_19_20_8_9_10.getD q 0))  hy3) (JN_subC (pl := pl_LY_X3X4X7X0_LY_X0X0_18_19_20_8_9_10) sb_LY_X3X4X7X0_LY_X0X0_18_19_20_8_9_10 rfl rfl rfl rfl rfl rfl rfl rfl rfl) (Uw_V uw_960 uw_961 uw_962 uw_8 uw_963) rfl rfl hd_X0_copyFrom ⟨rfl, rfl⟩ rfl (dn_some LY_X3X4X7X0_18) rfl rfl rfl dX3_giveBack_21 ⟨Nat.zero_le _, Nat.zero_le _⟩ (fun H locs hW => ?_)
  have hW : wd D (dn cy LY_X3X4X7X0 ad P V (gp I [(11, 2, y1.1), (11, 3, y1.2.1), (11, 4, y1.2.2.1), (14, 3, y2.1), (18, 2, y3.1)]) (gp J []) (gm A [(12, y1.2.2.2.1), (13, y1.2.2.2.2), (15, y2.2.1), (16, y2.2.2.1), (17, y2.2.2.2), (19, y3.2.1), (20, y3.2.2)]) (gm B [])) Af s.heap H locs := hW
  obtain rfl := Option.some.inj hf
  exact r_void C0 hK hW dX3_giveBack_24
-- X4_beginAt
def rmX4_beginAt : Room := { frames := 1, cells := 0, slots := 0, locals := 21 }
def SX4_beginAt_2 (p : Program) (l : Launch) (e : Env) (s : State) (m : MethodId) (args : Array Value) (below : List Frame) (meth : Method) (c : Code) (D : va_G) (cy : Nat → ClassId) (ad : Nat → Nat) (P : MP) (V : MV) (I : MI) (J : MJ) (A : MI) (B : MJ) (Af : Nat → Prop) (res : Int32 × Int32 × Int32 × (Nat → Int32) × (Nat → Int32)) (k : Int32 → Int32 → Int32 → (Nat → Int32) → (Nat → Int32) → Int32 → Option (Int32 × Int32 × Int32 × (Nat → Int32) × (Nat → Int32))) : Prop := ∀ (s_seized : Int32) (s_date : Int32) (s_brought : Int32) (s_coal : (Nat → Int32)) (s_inside : (Nat → Int32)) (v2 : Int32) (H : Heap) (locs : List Loc) (ls : Array Slot), wd D (dn cy LY_X4X6 ad P V (gp I [(0, 2, s_seized), (0, 3, s_date), (0, 4, s_brought)]) (gp J []) (gm A [(1, s_coal), (2, s_inside)]) (gm B [])) Af s.heap H locs → lv_has ls 3 [(0, .ref (ad 0)), (1, .ref (ad 3)), (2, .int v2)] → k s_seized s_date s_brought s_coal s_inside v2 = some res → W p l e rmX4_beginAt s m args below meth c H locs 0 0 (ZQ below D cy (dn cy LY_X4X6 ad P V (gp I [(0, 2, res.1), (0, 3, res.2.1), (0, 4, res.2.2.1)]) (gp J []) (gm A [(1, res.2.2.2.1), (2, res.2.2.2.2)]) (gm B [])) none Af args s) (F0 m 2 ls [])
def fX4_beginAt_2 (t_coalTold : (Nat → Int32)) (k2 : Int32 → Int32 → Int32 → (Nat → Int32) → (Nat → Int32) → Int32 → Option (Int32 × Int32 × Int32 × (Nat → Int32) × (Nat → Int32))) (s_seized : Int32) (s_date : Int32) (s_brought : Int32) (s_coal : (Nat → Int32)) (s_inside : (Nat → Int32)) (v2 : Int32) : Option (Int32 × Int32 × Int32 × (Nat → Int32) × (Nat → Int32)) := if 5 ≤ v2 then (some (0, 0, 0, s_coal, s_inside)) else (bif inb v2 5 then (bif inb v2 5 then (bif inb v2 5 then (k2 s_seized s_date s_brought (upd s_coal (Int32.toNatClampNeg v2) (t_coalTold (Int32.toNatClampNeg v2))) (upd s_inside (Int32.toNatClampNeg v2) 0) (v2 + 1)) else none) else none) else none)
set_option maxHeartbeats 4000000 in
set_option maxRecDepth 100000 in
theorem tX4_beginAt_2 {p : Program} {l : Launch} {e : Env} {s : State} {m : MethodId} {args : Array Value} {below : List Frame} {meth : Method} {c : Code} {D : va_G} {cy : Nat → ClassId} {ad : Nat → Nat} {P : MP} {V : MV} {I : MI} {J : MJ} {A : MI} {B : MJ} {Af : Nat → Prop} {res : Int32 × Int32 × Int32 × (Nat → Int32) × (Nat → Int32)} (C0 : CX p s m args meth c cX4_beginAt 3 none RX4) (hK : va_K D vwCl (tyG cy) s) (hN : NWs s) (hA : ∀ q, s.heap.size ≤ q → Af q) {k2 : Int32 → Int32 → Int32 → (Nat → Int32) → (Nat → Int32) → Int32 → Option (Int32 × Int32 × Int32 × (Nat → Int32) × (Nat → Int32))} (hk2 : SX4_beginAt_2 p l e s m args below meth c D cy ad P V I J A B Af res k2) : SX4_beginAt_2 p l e s m args below meth c D cy ad P V I J A B Af res (fX4_beginAt_2 (A 9) k2) := by
  intro s_seized s_date s_brought s_coal s_inside v2 H locs ls hW hl hf
  unfold fX4_beginAt_2 at hf
  refine lv_iload_n C0.1 C0.2.1 dX4_beginAt_2 rfl (lv_at hl 2 rfl) ?_
  refine lv_iconst (v := 5) C0.1 C0.2.1 dX4_beginAt_3 kI_5 ?_
  refine lv_icmp_ge (tgt := 32) C0.1 C0.2.1 dX4_beginAt_4 (by decide) (fun hc1 => ?_) (fun hc1 => ?_)
  · have hf := ite_t hc1 hf
    refine lv_aload_n C0.1 C0.2.1 dX4_beginAt_32 rfl (lv_at hl 0 rfl) ?_
    refine lv_iconst (v := 0) C0.1 C0.2.1 dX4_beginAt_33 kI_0 ?_
    refine s_putI C0 hK hW 0 2 LY_X4X6_0 rfl fg_X4_23 fp_X4_2 rfl dX4_beginAt_34 (fun H locs hW => ?_)
    have hW : wd D (dn cy LY_X4X6 ad P V (gp I [(0, 2, 0), (0, 3, s_date), (0, 4, s_brought)]) (gp J []) (gm A [(1, s_coal), (2, s_inside)]) (gm B [])) Af s.heap H locs := hW
    refine lv_aload_n C0.1 C0.2.1 dX4_beginAt_37 rfl (lv_at hl 0 rfl) ?_
    refine lv_iconst (v := 0) C0.1 C0.2.1 dX4_beginAt_38 kI_0 ?_
    refine s_putI C0 hK hW 0 3 LY_X4X6_0 rfl fg_X4_27 fp_X4_3 rfl dX4_beginAt_39 (fun H locs hW => ?_)
    have hW : wd D (dn cy LY_X4X6 ad P V (gp I [(0, 2, 0), (0, 3, 0), (0, 4, s_brought)]) (gp J []) (gm A [(1, s_coal), (2, s_inside)]) (gm B [])) Af s.heap H locs := hW
    refine lv_aload_n C0.1 C0.2.1 dX4_beginAt_42 rfl (lv_at hl 0 rfl) ?_
    refine lv_iconst (v := 0) C0.1 C0.2.1 dX4_beginAt_43 kI_0 ?_
    refine s_putI C0 hK hW 0 4 LY_X4X6_0 rfl fg_X4_30 fp_X4_4 rfl dX4_beginAt_44 (fun H locs hW => ?_)
    have hW : wd D (dn cy LY_X4X6 ad P V (gp I [(0, 2, 0), (0, 3, 0), (0, 4, 0)]) (gp J []) (gm A [(1, s_coal), (2, s_inside)]) (gm B [])) Af s.heap H locs := hW
    obtain rfl := Option.some.inj hf
    exact r_void C0 hK hW dX4_beginAt_47
  · have hf := ite_f hc1 hf
    refine lv_aload_n C0.1 C0.2.1 dX4_beginAt_7 rfl (lv_at hl 0 rfl) ?_
    refine s_get (v := .ref (ad 1)) C0 hK hW 0 0 LY_X4X6_0 rfl fg_X4_9 rfl dX4_beginAt_8 ?_
    refine lv_iload_n C0.1 C0.2.1 dX4_beginAt_11 rfl (lv_at hl 2 rfl) ?_
    refine lv_aload_n C0.1 C0.2.1 dX4_beginAt_12 rfl (lv_at hl 1 rfl) ?_
    refine s_get (v := .ref (ad 9)) C0 hK hW 3 6 LY_X4X6_3 rfl fg_X4_18 rfl dX4_beginAt_13 ?_
    refine lv_iload_n C0.1 C0.2.1 dX4_beginAt_16 rfl (lv_at hl 2 rfl) ?_
    obtain ⟨hb2, hf⟩ := g_some hf
    refine s_iald (v := ((A 9) (Int32.toNatClampNeg v2))) C0 hK hW 9 LY_X4X6_9 hb2 rfl dX4_beginAt_17 ?_
    obtain ⟨hb3, hf⟩ := g_some hf
    refine s_iast (f := (upd s_coal (Int32.toNatClampNeg v2) ((A 9) (Int32.toNatClampNeg v2)))) C0 hK hW 1 LY_X4X6_1 hb3 rfl rfl dX4_beginAt_18 (fun H locs hW => ?_)
    have hW : wd D (dn cy LY_X4X6 ad P V (gp I [(0, 2, s_seized), (0, 3, s_date), (0, 4, s_brought)]) (gp J []) (gm A [(1, (upd s_coal (Int32.toNatClampNeg v2) ((A 9) (Int32.toNatClampNeg v2)))), (2, s_inside)]) (gm B [])) Af s.heap H locs := hW
    refine lv_aload_n C0.1 C0.2.1 dX4_beginAt_19 rfl (lv_at hl 0 rfl) ?_
    refine s_get (v := .ref (ad 2)) C0 hK hW 0 1 LY_X4X6_0 rfl fg_X4_15 rfl dX4_beginAt_20 ?_
    refine lv_iload_n C0.1 C0.2.1 dX4_beginAt_23 rfl (lv_at hl 2 rfl) ?_
    refine lv_iconst (v := 0) C0.1 C0.2.1 dX4_beginAt_24 kI_0 ?_
    obtain ⟨hb4, hf⟩ := g_some hf
    refine s_iast (f := (upd s_inside (Int32.toNatClampNeg v2) 0)) C0 hK hW 2 LY_X4X6_2 hb4 rfl rfl dX4_beginAt_25 (fun H locs hW => ?_)
    have hW : wd D (dn cy LY_X4X6 ad P V (gp I [(0, 2, s_seized), (0, 3, s_date), (0, 4, s_brought)]) (gp J []) (gm A [(1, (upd s_coal (Int32.toNatClampNeg v2) ((A 9) (Int32.toNatClampNeg v2)))), (2, (upd s_inside (Int32.toNatClampNeg v2) 0))]) (gm B [])) Af s.heap H locs := hW
    refine lv_iinc (v := (v2 + 1)) (lv' := [(2, .int (v2 + 1)), (0, .ref (ad 0)), (1, .ref (ad 3))]) C0.1 C0.2.1 dX4_beginAt_26 hl (k := 2) rfl (congrArg (fun z => _ + z) kI_1) (by decide) rfl (fun ls hl => ?_)
    refine lv_goto (tgt := 2) C0.1 C0.2.1 dX4_beginAt_29 (by decide) ?_
    exact hk2 s_seized s_date s_brought (upd s_coal (Int32.toNatClampNeg v2) ((A 9) (Int32.toNatClampNeg v2))) (upd s_inside (Int32.toNatClampNeg v2) 0) (v2 + 1) H locs ls hW (lv_sub hl [1, 2, 0] rfl) hf
theorem TX4_beginAt_2 {p : Program} {l : Launch} {e : Env} {s : State} {m : MethodId} {args : Array Value} {below : List Frame} {meth : Method} {c : Code} {D : va_G} {cy : Nat → ClassId} {ad : Nat → Nat} {P : MP} {V : MV} {I : MI} {J : MJ} {A : MI} {B : MJ} {Af : Nat → Prop} {res : Int32 × Int32 × Int32 × (Nat → Int32) × (Nat → Int32)} (C0 : CX p s m args meth c cX4_beginAt 3 none RX4) (hK : va_K D vwCl (tyG cy) s) (hN : NWs s) (hA : ∀ q, s.heap.size ≤ q → Af q) : ∀ n, SX4_beginAt_2 p l e s m args below meth c D cy ad P V I J A B Af res (itr (fun kk => fX4_beginAt_2 (A 9) kk) (fun _ _ _ _ _ _ => none) n) := by
  intro n
  induction n with
  | zero => intro s_seized s_date s_brought s_coal s_inside v2 H locs ls hW hl hf; exact (nomatch (show (none : Option (Int32 × Int32 × Int32 × (Nat → Int32) × (Nat → Int32))) = some res from hf))
  | succ n ih => exact tX4_beginAt_2 C0 hK hN hA  ih
def fX4_beginAt (t_coalTold : (Nat → Int32)) (s_seized : Int32) (s_date : Int32) (s_brought : Int32) (s_coal : (Nat → Int32)) (s_inside : (Nat → Int32)) : Option (Int32 × Int32 × Int32 × (Nat → Int32) × (Nat → Int32)) := itr (fun kk => fX4_beginAt_2 t_coalTold kk) (fun _ _ _ _ _ _ => none) FU s_seized s_date s_brought s_coal s_inside 0
set_option maxHeartbeats 4000000 in
set_option maxRecDepth 100000 in
theorem KX4_beginAt (l : Launch) (D : va_G) (cy : Nat → ClassId) (ad : Nat → Nat) (P : MP) (V : MV) (I : MI) (J : MJ) (A : MI) (B : MJ) {res : Int32 × Int32 × Int32 × (Nat → Int32) × (Nat → Int32)} (hf : fX4_beginAt (A 9) (I 0 2) (I 0 3) (I 0 4) (A 1) (A 2) = some res) : CG l yX4_beginAt cX4_beginAt 3 none rmX4_beginAt D cy (dn cy LY_X4X6 ad P V I J A B) [.ref (ad 0), .ref (ad 3)] none (dn cy LY_X4X6 ad P V (gp I [(0, 2, res.1), (0, 3, res.2.1), (0, 4, res.2.2.1)]) (gp J []) (gm A [(1, res.2.2.2.1), (2, res.2.2.2.2)]) (gm B [])) := by
  refine CG.of (own := RX4) (by decide) rfl rfl ?_
  intro p e s m below meth c ls Af C0 hK hN hA hW hl
  have hW : wd D (dn cy LY_X4X6 ad P V (gp I [(0, 2, (I 0 2)), (0, 3, (I 0 3)), (0, 4, (I 0 4))]) (gp J []) (gm A [(1, (A 1)), (2, (A 2))]) (gm B [])) Af s.heap s.heap [] := wd_sel [(0, 2), (0, 3), (0, 4)] [] [1, 2] [] hW
  have hl : lv_has ls 3 [(0, .ref (ad 0)), (1, .ref (ad 3))] := hl
  unfold fX4_beginAt at hf
  refine lv_iconst (v := 0) C0.1 C0.2.1 dX4_beginAt_0 kI_0 ?_
  refine lv_istore_n (lv' := [(2, .int 0), (0, .ref (ad 0)), (1, .ref (ad 3))]) C0.1 C0.2.1 dX4_beginAt_1 rfl hl (by decide) rfl (fun ls hl => ?_)
  exact TX4_beginAt_2 C0 hK hN hA  FU (I 0 2) (I 0 3) (I 0 4) (A 1) (A 2) 0 _ _ ls hW (lv_sub hl [1, 2, 0] rfl) hf
-- X4_placeOf
def rmX4_placeOf : Room := { frames := 1, cells := 0, slots := 0, locals := 21 }
def SX4_placeOf_2 (p : Program) (l : Launch) (e : Env) (s : State) (m : MethodId) (args : Array Value) (below : List Frame) (meth : Method) (c : Code) (D : va_G) (cy : Nat → ClassId) (ad : Nat → Nat) (P : MP) (V : MV) (I : MI) (J : MJ) (A : MI) (B : MJ) (Af : Nat → Prop) (res : Int32) (k : Int32 → Int32 → Option (Int32)) : Prop := ∀ (v1 : Int32) (v2 : Int32) (H : Heap) (locs : List Loc) (ls : Array Slot), wd D (dn cy LY_X4 ad P V (gp I []) (gp J []) (gm A []) (gm B [])) Af s.heap H locs → lv_has ls 3 [(0, .ref (ad 0)), (1, .int v1), (2, .int v2)] → k v1 v2 = some res → W p l e rmX4_placeOf s m args below meth c H locs 0 0 (ZQ below D cy (dn cy LY_X4 ad P V (gp I []) (gp J []) (gm A []) (gm B [])) (some (.int res)) Af args s) (F0 m 2 ls [])
def fX4_placeOf_2 (s_inside : (Nat → Int32)) (k2 : Int32 → Int32 → Option (Int32)) (v1 : Int32) (v2 : Int32) : Option (Int32) := if 5 ≤ v2 then (some ((-1))) else (bif inb v2 5 then (if (((s_inside (Int32.toNatClampNeg v2)) >>> (v1 &&& 31)) &&& 1) = 0 then (k2 v1 (v2 + 1)) else (some (v2))) else none)
set_option maxHeartbeats 4000000 in
set_option maxRecDepth 100000 in
theorem tX4_placeOf_2 {p : Program} {l : Launch} {e : Env} {s : State} {m : MethodId} {args : Array Value} {below : List Frame} {meth : Method} {c : Code} {D : va_G} {cy : Nat → ClassId} {ad : Nat → Nat} {P : MP} {V : MV} {I : MI} {J : MJ} {A : MI} {B : MJ} {Af : Nat → Prop} {res : Int32} (C0 : CX p s m args meth c cX4_placeOf 3 (some .int) RX4) (hK : va_K D vwCl (tyG cy) s) (hN : NWs s) (hA : ∀ q, s.heap.size ≤ q → Af q) {k2 : Int32 → Int32 → Option (Int32)} (hk2 : SX4_placeOf_2 p l e s m args below meth c D cy ad P V I J A B Af res k2) : SX4_placeOf_2 p l e s m args below meth c D cy ad P V I J A B Af res (fX4_placeOf_2 (A 2) k2) := by
  intro v1 v2 H locs ls hW hl hf
  unfold fX4_placeOf_2 at hf
  refine lv_iload_n C0.1 C0.2.1 dX4_placeOf_2 rfl (lv_at hl 2 rfl) ?_
  refine lv_iconst (v := 5) C0.1 C0.2.1 dX4_placeOf_3 kI_5 ?_
  refine lv_icmp_ge (tgt := 28) C0.1 C0.2.1 dX4_placeOf_4 (by decide) (fun hc1 => ?_) (fun hc1 => ?_)
  · have hf := ite_t hc1 hf
    refine lv_iconst (v := (-1)) C0.1 C0.2.1 dX4_placeOf_28 kI_m1 ?_
    obtain rfl := Option.some.inj hf
    exact r_int C0 hK hW dX4_placeOf_29
  · have hf := ite_f hc1 hf
    refine lv_aload_n C0.1 C0.2.1 dX4_placeOf_7 rfl (lv_at hl 0 rfl) ?_
    refine s_get (v := .ref (ad 2)) C0 hK hW 0 1 LY_X4_0 rfl fg_X4_15 rfl dX4_placeOf_8 ?_
    refine lv_iload_n C0.1 C0.2.1 dX4_placeOf_11 rfl (lv_at hl 2 rfl) ?_
    obtain ⟨hb2, hf⟩ := g_some hf
    refine s_iald (v := ((A 2) (Int32.toNatClampNeg v2))) C0 hK hW 2 LY_X4_2 hb2 rfl dX4_placeOf_12 ?_
    refine lv_iload_n C0.1 C0.2.1 dX4_placeOf_13 rfl (lv_at hl 1 rfl) ?_
    refine lv_ishr C0.1 C0.2.1 dX4_placeOf_14 ?_
    refine lv_iconst (v := 1) C0.1 C0.2.1 dX4_placeOf_15 kI_1 ?_
    refine lv_iand C0.1 C0.2.1 dX4_placeOf_16 ?_
    refine lv_if_eq (tgt := 22) C0.1 C0.2.1 dX4_placeOf_17 (by decide) (fun hc3 => ?_) (fun hc3 => ?_)
    · have hf := ite_t hc3 hf
      refine lv_iinc (v := (v2 + 1)) (lv' := [(2, .int (v2 + 1)), (0, .ref (ad 0)), (1, .int v1)]) C0.1 C0.2.1 dX4_placeOf_22 hl (k := 2) rfl (congrArg (fun z => _ + z) kI_1) (by decide) rfl (fun ls hl => ?_)
      refine lv_goto (tgt := 2) C0.1 C0.2.1 dX4_placeOf_25 (by decide) ?_
      exact hk2 v1 (v2 + 1) H locs ls hW (lv_sub hl [1, 2, 0] rfl) hf
    · have hf := ite_f hc3 hf
      refine lv_iload_n C0.1 C0.2.1 dX4_placeOf_20 rfl (lv_at hl 2 rfl) ?_
      obtain rfl := Option.some.inj hf
      exact r_int C0 hK hW dX4_placeOf_21
theorem TX4_placeOf_2 {p : Program} {l : Launch} {e : Env} {s : State} {m : MethodId} {args : Array Value} {below : List Frame} {meth : Method} {c : Code} {D : va_G} {cy : Nat → ClassId} {ad : Nat → Nat} {P : MP} {V : MV} {I : MI} {J : MJ} {A : MI} {B : MJ} {Af : Nat → Prop} {res : Int32} (C0 : CX p s m args meth c cX4_placeOf 3 (some .int) RX4) (hK : va_K D vwCl (tyG cy) s) (hN : NWs s) (hA : ∀ q, s.heap.size ≤ q → Af q) : ∀ n, SX4_placeOf_2 p l e s m args below meth c D cy ad P V I J A B Af res (itr (fun kk => fX4_placeOf_2 (A 2) kk) (fun _ _ => none) n) := by
  intro n
  induction n with
  | zero => intro v1 v2 H locs ls hW hl hf; exact (nomatch (show (none : Option (Int32)) = some res from hf))
  | succ n ih => exact tX4_placeOf_2 C0 hK hN hA  ih
def fX4_placeOf (s_inside : (Nat → Int32)) (v1 : Int32) : Option (Int32) := itr (fun kk => fX4_placeOf_2 s_inside kk) (fun _ _ => none) FU v1 0
set_option maxHeartbeats 4000000 in
set_option maxRecDepth 100000 in
theorem KX4_placeOf (l : Launch) (D : va_G) (cy : Nat → ClassId) (ad : Nat → Nat) (P : MP) (V : MV) (I : MI) (J : MJ) (A : MI) (B : MJ) (v1 : Int32) {res : Int32} (hf : fX4_placeOf (A 2) v1 = some res) : CG l yX4_placeOf cX4_placeOf 3 (some .int) rmX4_placeOf D cy (dn cy LY_X4 ad P V I J A B) [.ref (ad 0), .int v1] (some (.int res)) (dn cy LY_X4 ad P V (gp I []) (gp J []) (gm A []) (gm B [])) := by
  refine CG.of (own := RX4) (by decide) rfl rfl ?_
  intro p e s m below meth c ls Af C0 hK hN hA hW hl
  have hW : wd D (dn cy LY_X4 ad P V (gp I []) (gp J []) (gm A []) (gm B [])) Af s.heap s.heap [] := wd_sel [] [] [] [] hW
  have hl : lv_has ls 3 [(0, .ref (ad 0)), (1, .int v1)] := hl
  unfold fX4_placeOf at hf
  refine lv_iconst (v := 0) C0.1 C0.2.1 dX4_placeOf_0 kI_0 ?_
  refine lv_istore_n (lv' := [(2, .int 0), (0, .ref (ad 0)), (1, .int v1)]) C0.1 C0.2.1 dX4_placeOf_1 rfl hl (by decide) rfl (fun ls hl => ?_)
  exact TX4_placeOf_2 C0 hK hN hA  FU v1 0 _ _ ls hW (lv_sub hl [1, 2, 0] rfl) hf
-- X4_foesBits
def rmX4_foesBits : Room := { frames := 2, cells := 0, slots := 0, locals := 44 }
def fX4_foesBits (s_seized : Int32) (t_holes : Int32) (t_guests : Int32) (s_inside : (Nat → Int32)) (t_foes : (Nat → Int32)) (v2 : Int32) : Option (Int32) := if ((s_seized >>> (v2 &&& 31)) &&& 1) = 0 then (Option.bind (fX4_placeOf s_inside v2) fun y2 => (bif inb v2 5 then (if y2 = (-1) then (Option.bind (fX4_streetBits s_seized t_holes t_guests s_inside) fun y6 => (some (((t_foes (Int32.toNatClampNeg v2)) &&& y6)))) else (bif inb y2 5 then (some (((t_foes (Int32.toNatClampNeg v2)) &&& (s_inside (Int32.toNatClampNeg y2))))) else none)) else none)) else (some (0))
set_option maxHeartbeats 4000000 in
set_option maxRecDepth 100000 in
theorem KX4_foesBits (l : Launch) (D : va_G) (cy : Nat → ClassId) (ad : Nat → Nat) (P : MP) (V : MV) (I : MI) (J : MJ) (A : MI) (B : MJ) (v2 : Int32) {res : Int32} (hf : fX4_foesBits (I 0 2) (I 3 13) (I 3 14) (A 2) (A 14) v2 = some res) : CG l yX4_foesBits cX4_foesBits 4 (some .int) rmX4_foesBits D cy (dn cy LY_X4X6 ad P V I J A B) [.ref (ad 0), .ref (ad 3), .int v2] (some (.int res)) (dn cy LY_X4X6 ad P V (gp I []) (gp J []) (gm A []) (gm B [])) := by
  refine CG.of (own := RX4) (by decide) rfl rfl ?_
  intro p e s m below meth c ls Af C0 hK hN hA hW hl
  have hW : wd D (dn cy LY_X4X6 ad P V (gp I []) (gp J []) (gm A []) (gm B [])) Af s.heap s.heap [] := wd_sel [] [] [] [] hW
  have hl : lv_has ls 4 [(0, .ref (ad 0)), (1, .ref (ad 3)), (2, .int v2)] := hl
  unfold fX4_foesBits at hf
  refine lv_aload_n C0.1 C0.2.1 dX4_foesBits_0 rfl (lv_at hl 0 rfl) ?_
  refine s_get (v := .int (I 0 2)) C0 hK hW 0 2 LY_X4X6_0 rfl fg_X4_23 rfl dX4_foesBits_1 ?_
  refine lv_iload_n C0.1 C0.2.1 dX4_foesBits_4 rfl (lv_at hl 2 rfl) ?_
  refine lv_ishr C0.1 C0.2.1 dX4_foesBits_5 ?_
  refine lv_iconst (v := 1) C0.1 C0.2.1 dX4_foesBits_6 kI_1 ?_
  refine lv_iand C0.1 C0.2.1 dX4_foesBits_7 ?_
  refine lv_if_eq (tgt := 13) C0.1 C0.2.1 dX4_foesBits_8 (by decide) (fun hc1 => ?_) (fun hc1 => ?_)
  · have hf := ite_t hc1 hf
    refine lv_aload_n C0.1 C0.2.1 dX4_foesBits_13 rfl (lv_at hl 0 rfl) ?_
    refine lv_iload_n C0.1 C0.2.1 dX4_foesBits_14 rfl (lv_at hl 2 rfl) ?_
    obtain ⟨y2, hy2, hf⟩ := b_some hf
    refine c_Vi C0 hK hN hl.1 hW hA (KX4_placeOf l D cy  (fun q => ad (pl_LY_X4X6_LY_X4_0_1_2.getD q 0)) (fun q => P (pl_LY_X4X6_LY_X4_0_1_2.getD q 0)) (fun q => Vx LY_X4X6 ad V (pl_LY_X4X6_LY_X4_0_1_2.getD q 0)) (fun q => gp I [] (pl_LY_X4X6_LY_X4_0_1_2.getD q 0)) (fun q => gp J [] (pl_LY_X4X6_LY_X4_0_1_2.getD q 0)) (fun q => gm A [] (pl_LY_X4X6_LY_X4_0_1_2.getD q 0)) (fun q => gm B [] (pl_LY_X4X6_LY_X4_0_1_2.getD q 0)) v2 hy2) (JN_subC (pl := pl_LY_X4X6_LY_X4_0_1_2) sb_LY_X4X6_LY_X4_0_1_2 rfl rfl rfl rfl rfl rfl rfl rfl rfl) (Uw_V uw_676 uw_669 uw_670 uw_7 uw_671) rfl rfl hd_X4_placeOf ⟨rfl, rfl⟩ rfl (dn_some LY_X4X6_0) rfl rfl rfl dX4_foesBits_15 ⟨Nat.zero_le _, Nat.zero_le _⟩ (fun H locs hW => ?_)
    have hW : wd D (dn cy LY_X4X6 ad P V (gp I []) (gp J []) (gm A []) (gm B [])) Af s.heap H locs := hW
    refine lv_istore_n (lv' := [(3, .int y2), (0, .ref (ad 0)), (1, .ref (ad 3)), (2, .int v2)]) C0.1 C0.2.1 dX4_foesBits_18 rfl hl (by decide) rfl (fun ls hl => ?_)
    refine lv_aload_n C0.1 C0.2.1 dX4_foesBits_19 rfl (lv_at hl 2 rfl) ?_
    refine s_get (v := .ref (ad 14)) C0 hK hW 3 11 LY_X4X6_3 rfl fg_X4_43 rfl dX4_foesBits_20 ?_
    refine lv_iload_n C0.1 C0.2.1 dX4_foesBits_23 rfl (lv_at hl 3 rfl) ?_
    obtain ⟨hb3, hf⟩ := g_some hf
    refine s_iald (v := ((A 14) (Int32.toNatClampNeg v2))) C0 hK hW 14 LY_X4X6_14 hb3 rfl dX4_foesBits_24 ?_
    refine lv_iload_n C0.1 C0.2.1 dX4_foesBits_25 rfl (lv_at hl 0 rfl) ?_
    refine lv_iconst (v := (-1)) C0.1 C0.2.1 dX4_foesBits_26 kI_m1 ?_
    refine lv_icmp_ne (tgt := 38) C0.1 C0.2.1 dX4_foesBits_27 (by decide) (fun hc4 => ?_) (fun hc4 => ?_)
    · have hf := ite_f hc4 hf
      refine lv_aload_n C0.1 C0.2.1 dX4_foesBits_38 rfl (lv_at hl 1 rfl) ?_
      refine s_get (v := .ref (ad 2)) C0 hK hW 0 1 LY_X4X6_0 rfl fg_X4_15 rfl dX4_foesBits_39 ?_
      refine lv_iload_n C0.1 C0.2.1 dX4_foesBits_42 rfl (lv_at hl 0 rfl) ?_
      obtain ⟨hb5, hf⟩ := g_some hf
      refine s_iald (v := ((A 2) (Int32.toNatClampNeg y2))) C0 hK hW 2 LY_X4X6_2 hb5 rfl dX4_foesBits_43 ?_
      refine lv_iand C0.1 C0.2.1 dX4_foesBits_44 ?_
      obtain rfl := Option.some.inj hf
      exact r_int C0 hK hW dX4_foesBits_45
    · have hf := ite_t hc4 hf
      refine lv_aload_n C0.1 C0.2.1 dX4_foesBits_30 rfl (lv_at hl 1 rfl) ?_
      refine lv_aload_n C0.1 C0.2.1 dX4_foesBits_31 rfl (lv_at hl 2 rfl) ?_
      obtain ⟨y6, hy6, hf⟩ := b_some hf
      refine c_Vi C0 hK hN hl.1 hW hA (KX4_streetBits l D cy  ad P V (gp I []) (gp J []) (gm A []) (gm B [])  hy6) (JN_id rfl rfl rfl rfl) (Uw_V uw_677 uw_678 uw_679 uw_7 uw_680) rfl rfl hd_X4_streetBits ⟨rfl, rfl⟩ rfl (dn_some LY_X4X6_0) rfl rfl rfl dX4_foesBits_32 ⟨Nat.zero_le _, Nat.zero_le _⟩ (fun H locs hW => ?_)
      have hW : wd D (dn cy LY_X4X6 ad P V (gp I []) (gp J []) (gm A []) (gm B [])) Af s.heap H locs := hW
      refine lv_goto (tgt := 44) C0.1 C0.2.1 dX4_foesBits_35 (by decide) ?_
      refine lv_iand C0.1 C0.2.1 dX4_foesBits_44 ?_
      obtain rfl := Option.some.inj hf
      exact r_int C0 hK hW dX4_foesBits_45
  · have hf := ite_f hc1 hf
    refine lv_iconst (v := 0) C0.1 C0.2.1 dX4_foesBits_11 kI_0 ?_
    obtain rfl := Option.some.inj hf
    exact r_int C0 hK hW dX4_foesBits_12
-- X4_allCoal
def rmX4_allCoal : Room := { frames := 1, cells := 0, slots := 0, locals := 21 }
def SX4_allCoal_4 (p : Program) (l : Launch) (e : Env) (s : State) (m : MethodId) (args : Array Value) (below : List Frame) (meth : Method) (c : Code) (D : va_G) (cy : Nat → ClassId) (ad : Nat → Nat) (P : MP) (V : MV) (I : MI) (J : MJ) (A : MI) (B : MJ) (Af : Nat → Prop) (res : Int32) (k : Int32 → Int32 → Option (Int32)) : Prop := ∀ (v2 : Int32) (v3 : Int32) (H : Heap) (locs : List Loc) (ls : Array Slot), wd D (dn cy LY_X4X6 ad P V (gp I []) (gp J []) (gm A []) (gm B [])) Af s.heap H locs → lv_has ls 4 [(0, .ref (ad 0)), (1, .ref (ad 3)), (2, .int v2), (3, .int v3)] → k v2 v3 = some res → W p l e rmX4_allCoal s m args below meth c H locs 0 0 (ZQ below D cy (dn cy LY_X4X6 ad P V (gp I []) (gp J []) (gm A []) (gm B [])) (some (.int res)) Af args s) (F0 m 4 ls [])
def fX4_allCoal_4 (t_holes : Int32) (s_coal : (Nat → Int32)) (k4 : Int32 → Int32 → Option (Int32)) (v2 : Int32) (v3 : Int32) : Option (Int32) := if t_holes ≤ v3 then (some (v2)) else (bif inb v3 5 then (k4 (v2 + (s_coal (Int32.toNatClampNeg v3))) (v3 + 1)) else none)
set_option maxHeartbeats 4000000 in
set_option maxRecDepth 100000 in
theorem tX4_allCoal_4 {p : Program} {l : Launch} {e : Env} {s : State} {m : MethodId} {args : Array Value} {below : List Frame} {meth : Method} {c : Code} {D : va_G} {cy : Nat → ClassId} {ad : Nat → Nat} {P : MP} {V : MV} {I : MI} {J : MJ} {A : MI} {B : MJ} {Af : Nat → Prop} {res : Int32} (C0 : CX p s m args meth c cX4_allCoal 4 (some .int) RX4) (hK : va_K D vwCl (tyG cy) s) (hN : NWs s) (hA : ∀ q, s.heap.size ≤ q → Af q) {k4 : Int32 → Int32 → Option (Int32)} (hk4 : SX4_allCoal_4 p l e s m args below meth c D cy ad P V I J A B Af res k4) : SX4_allCoal_4 p l e s m args below meth c D cy ad P V I J A B Af res (fX4_allCoal_4 (I 3 13) (A 1) k4) := by
  intro v2 v3 H locs ls hW hl hf
  unfold fX4_allCoal_4 at hf
  refine lv_iload_n C0.1 C0.2.1 dX4_allCoal_4 rfl (lv_at hl 3 rfl) ?_
  refine lv_aload_n C0.1 C0.2.1 dX4_allCoal_5 rfl (lv_at hl 1 rfl) ?_
  refine s_get (v := .int (I 3 13)) C0 hK hW 3 13 LY_X4X6_3 rfl fg_X4_33 rfl dX4_allCoal_6 ?_
  refine lv_icmp_ge (tgt := 27) C0.1 C0.2.1 dX4_allCoal_9 (by decide) (fun hc1 => ?_) (fun hc1 => ?_)
  · have hf := ite_t hc1 hf
    refine lv_iload_n C0.1 C0.2.1 dX4_allCoal_27 rfl (lv_at hl 2 rfl) ?_
    obtain rfl := Option.some.inj hf
    exact r_int C0 hK hW dX4_allCoal_28
  · have hf := ite_f hc1 hf
    refine lv_iload_n C0.1 C0.2.1 dX4_allCoal_12 rfl (lv_at hl 2 rfl) ?_
    refine lv_aload_n C0.1 C0.2.1 dX4_allCoal_13 rfl (lv_at hl 0 rfl) ?_
    refine s_get (v := .ref (ad 1)) C0 hK hW 0 0 LY_X4X6_0 rfl fg_X4_9 rfl dX4_allCoal_14 ?_
    refine lv_iload_n C0.1 C0.2.1 dX4_allCoal_17 rfl (lv_at hl 3 rfl) ?_
    obtain ⟨hb2, hf⟩ := g_some hf
    refine s_iald (v := ((A 1) (Int32.toNatClampNeg v3))) C0 hK hW 1 LY_X4X6_1 hb2 rfl dX4_allCoal_18 ?_
    refine lv_iadd C0.1 C0.2.1 dX4_allCoal_19 ?_
    refine lv_istore_n (lv' := [(2, .int (v2 + ((A 1) (Int32.toNatClampNeg v3)))), (0, .ref (ad 0)), (1, .ref (ad 3)), (3, .int v3)]) C0.1 C0.2.1 dX4_allCoal_20 rfl hl (by decide) rfl (fun ls hl => ?_)
    refine lv_iinc (v := (v3 + 1)) (lv' := [(3, .int (v3 + 1)), (2, .int (v2 + ((A 1) (Int32.toNatClampNeg v3)))), (0, .ref (ad 0)), (1, .ref (ad 3))]) C0.1 C0.2.1 dX4_allCoal_21 hl (k := 3) rfl (congrArg (fun z => _ + z) kI_1) (by decide) rfl (fun ls hl => ?_)
    refine lv_goto (tgt := 4) C0.1 C0.2.1 dX4_allCoal_24 (by decide) ?_
    exact hk4 (v2 + ((A 1) (Int32.toNatClampNeg v3))) (v3 + 1) H locs ls hW (lv_sub hl [2, 3, 1, 0] rfl) hf
theorem TX4_allCoal_4 {p : Program} {l : Launch} {e : Env} {s : State} {m : MethodId} {args : Array Value} {below : List Frame} {meth : Method} {c : Code} {D : va_G} {cy : Nat → ClassId} {ad : Nat → Nat} {P : MP} {V : MV} {I : MI} {J : MJ} {A : MI} {B : MJ} {Af : Nat → Prop} {res : Int32} (C0 : CX p s m args meth c cX4_allCoal 4 (some .int) RX4) (hK : va_K D vwCl (tyG cy) s) (hN : NWs s) (hA : ∀ q, s.heap.size ≤ q → Af q) : ∀ n, SX4_allCoal_4 p l e s m args below meth c D cy ad P V I J A B Af res (itr (fun kk => fX4_allCoal_4 (I 3 13) (A 1) kk) (fun _ _ => none) n) := by
  intro n
  induction n with
  | zero => intro v2 v3 H locs ls hW hl hf; exact (nomatch (show (none : Option (Int32)) = some res from hf))
  | succ n ih => exact tX4_allCoal_4 C0 hK hN hA  ih
def fX4_allCoal (t_holes : Int32) (s_coal : (Nat → Int32)) : Option (Int32) := itr (fun kk => fX4_allCoal_4 t_holes s_coal kk) (fun _ _ => none) FU 0 0
set_option maxHeartbeats 4000000 in
set_option maxRecDepth 100000 in
theorem KX4_allCoal (l : Launch) (D : va_G) (cy : Nat → ClassId) (ad : Nat → Nat) (P : MP) (V : MV) (I : MI) (J : MJ) (A : MI) (B : MJ) {res : Int32} (hf : fX4_allCoal (I 3 13) (A 1) = some res) : CG l yX4_allCoal cX4_allCoal 4 (some .int) rmX4_allCoal D cy (dn cy LY_X4X6 ad P V I J A B) [.ref (ad 0), .ref (ad 3)] (some (.int res)) (dn cy LY_X4X6 ad P V (gp I []) (gp J []) (gm A []) (gm B [])) := by
  refine CG.of (own := RX4) (by decide) rfl rfl ?_
  intro p e s m below meth c ls Af C0 hK hN hA hW hl
  have hW : wd D (dn cy LY_X4X6 ad P V (gp I []) (gp J []) (gm A []) (gm B [])) Af s.heap s.heap [] := wd_sel [] [] [] [] hW
  have hl : lv_has ls 4 [(0, .ref (ad 0)), (1, .ref (ad 3))] := hl
  unfold fX4_allCoal at hf
  refine lv_iconst (v := 0) C0.1 C0.2.1 dX4_allCoal_0 kI_0 ?_
  refine lv_istore_n (lv' := [(2, .int 0), (0, .ref (ad 0)), (1, .ref (ad 3))]) C0.1 C0.2.1 dX4_allCoal_1 rfl hl (by decide) rfl (fun ls hl => ?_)
  refine lv_iconst (v := 0) C0.1 C0.2.1 dX4_allCoal_2 kI_0 ?_
  refine lv_istore_n (lv' := [(3, .int 0), (2, .int 0), (0, .ref (ad 0)), (1, .ref (ad 3))]) C0.1 C0.2.1 dX4_allCoal_3 rfl hl (by decide) rfl (fun ls hl => ?_)
  exact TX4_allCoal_4 C0 hK hN hA  FU 0 0 _ _ ls hW (lv_sub hl [2, 3, 1, 0] rfl) hf
-- X4_takes
def rmX4_takes : Room := { frames := 4, cells := 0, slots := 0, locals := 93 }
def fX4_takes (s_date : Int32) (t_law_length : Int32) (s_coal : (Nat → Int32)) (s_inside : (Nat → Int32)) (t_holeFlags : (Nat → Int32)) (t_kinds : (Nat → Int32)) (t_guestFlags : (Nat → Int32)) (t_foes : (Nat → Int32)) (t_law_code : (Nat → Int32)) (t_law_waiting : Int32) (t_law_stack : (Nat → Int32)) (v2 : Int32) (v3 : Int32) : Option (Int32 × Int32 × (Nat → Int32)) := bif inb v3 5 then (if (t_kinds (Int32.toNatClampNeg v3)) = 146 then (some (1, t_law_waiting, t_law_stack)) else (Option.bind (fX4_isPeaceful s_coal s_inside t_foes v2 v3) fun y3 => (if y3 = 0 then (some (0, t_law_waiting, t_law_stack)) else (if (t_kinds (Int32.toNatClampNeg v3)) = 145 then (some (1, t_law_waiting, t_law_stack)) else (bif inb v2 5 then (Option.bind (fJ6_bitCount_0f7a4 (s_inside (Int32.toNatClampNeg v2))) fun y7 => (bif inb v3 5 then (Option.bind (fX4_isLawful s_date t_law_length s_coal t_holeFlags t_law_code t_law_waiting t_law_stack v2 y7 (t_guestFlags (Int32.toNatClampNeg v3))) fun y9 => (if y9.1 = 0 then (some (0, y9.2.1, y9.2.2)) else (some (1, y9.2.1, y9.2.2)))) else none)) else none))))) else none
set_option maxHeartbeats 4000000 in
set_option maxRecDepth 100000 in
theorem KX4_takes (l : Launch) (D : va_G) (cy : Nat → ClassId) (ad : Nat → Nat) (P : MP) (V : MV) (I : MI) (J : MJ) (A : MI) (B : MJ) (v2 : Int32) (v3 : Int32) {res : Int32 × Int32 × (Nat → Int32)} (hf : fX4_takes (I 0 3) (I 15 4) (A 1) (A 2) (A 8) (A 12) (A 13) (A 14) (A 16) (I 15 2) (A 17) v2 v3 = some res) : CG l yX4_takes cX4_takes 5 (some .boolean) rmX4_takes D cy (dn cy LY_X4X6 ad P V I J A B) [.ref (ad 0), .ref (ad 3), .int v2, .int v3] (some (.int res.1)) (dn cy LY_X4X6 ad P V (gp I [(15, 2, res.2.1)]) (gp J []) (gm A [(17, res.2.2)]) (gm B [])) := by
  refine CG.of (own := RX4) (by decide) rfl rfl ?_
  intro p e s m below meth c ls Af C0 hK hN hA hW hl
  have hW : wd D (dn cy LY_X4X6 ad P V (gp I [(15, 2, (I 15 2))]) (gp J []) (gm A [(17, (A 17))]) (gm B [])) Af s.heap s.heap [] := wd_sel [(15, 2)] [] [17] [] hW
  have hl : lv_has ls 5 [(0, .ref (ad 0)), (1, .ref (ad 3)), (2, .int v2), (3, .int v3)] := hl
  unfold fX4_takes at hf
  refine lv_aload_n C0.1 C0.2.1 dX4_takes_0 rfl (lv_at hl 1 rfl) ?_
  refine s_get (v := .ref (ad 12)) C0 hK hW 3 9 LY_X4X6_3 rfl fg_X4_50 rfl dX4_takes_1 ?_
  refine lv_iload_n C0.1 C0.2.1 dX4_takes_4 rfl (lv_at hl 3 rfl) ?_
  obtain ⟨hb1, hf⟩ := g_some hf
  refine s_iald (v := ((A 12) (Int32.toNatClampNeg v3))) C0 hK hW 12 LY_X4X6_12 hb1 rfl dX4_takes_5 ?_
  refine lv_istore (lv' := [(4, .int ((A 12) (Int32.toNatClampNeg v3))), (0, .ref (ad 0)), (1, .ref (ad 3)), (2, .int v2), (3, .int v3)]) C0.1 C0.2.1 dX4_takes_6 hl (by decide) rfl (fun ls hl => ?_)
  refine lv_iload C0.1 C0.2.1 dX4_takes_8 (lv_at hl 0 rfl) ?_
  refine lv_sipush (v := 146) C0.1 C0.2.1 dX4_takes_10 kS_146 ?_
  refine lv_icmp_eq (tgt := 58) C0.1 C0.2.1 dX4_takes_13 (by decide) (fun hc2 => ?_) (fun hc2 => ?_)
  · have hf := ite_t hc2 hf
    refine lv_iconst (v := 1) C0.1 C0.2.1 dX4_takes_58 kI_1 ?_
    refine lv_goto (tgt := 63) C0.1 C0.2.1 dX4_takes_59 (by decide) ?_
    obtain rfl := Option.some.inj hf
    exact r_bool C0 hK hW (v' := 1) rfl dX4_takes_63
  · have hf := ite_f hc2 hf
    refine lv_aload_n C0.1 C0.2.1 dX4_takes_16 rfl (lv_at hl 1 rfl) ?_
    refine lv_aload_n C0.1 C0.2.1 dX4_takes_17 rfl (lv_at hl 2 rfl) ?_
    refine lv_iload_n C0.1 C0.2.1 dX4_takes_18 rfl (lv_at hl 3 rfl) ?_
    refine lv_iload_n C0.1 C0.2.1 dX4_takes_19 rfl (lv_at hl 4 rfl) ?_
    obtain ⟨y3, hy3, hf⟩ := b_some hf
    refine c_Vi C0 hK hN hl.1 hW hA (KX4_isPeaceful l D cy  ad P V (gp I [(15, 2, (I 15 2))]) (gp J []) (gm A [(17, (A 17))]) (gm B []) v2 v3 hy3) (JN_id rfl rfl rfl rfl) (Uw_V uw_639 uw_640 uw_641 uw_7 uw_642) rfl rfl hd_X4_isPeaceful ⟨rfl, rfl⟩ rfl (dn_some LY_X4X6_0) rfl rfl rfl dX4_takes_20 ⟨Nat.zero_le _, Nat.zero_le _⟩ (fun H locs hW => ?_)
    have hW : wd D (dn cy LY_X4X6 ad P V (gp I [(15, 2, (I 15 2))]) (gp J []) (gm A [(17, (A 17))]) (gm B [])) Af s.heap H locs := hW
    refine lv_if_eq (tgt := 62) C0.1 C0.2.1 dX4_takes_23 (by decide) (fun hc4 => ?_) (fun hc4 => ?_)
    · have hf := ite_t hc4 hf
      refine lv_iconst (v := 0) C0.1 C0.2.1 dX4_takes_62 kI_0 ?_
      obtain rfl := Option.some.inj hf
      exact r_bool C0 hK hW (v' := 0) rfl dX4_takes_63
    · have hf := ite_f hc4 hf
      refine lv_iload C0.1 C0.2.1 dX4_takes_26 (lv_at hl 0 rfl) ?_
      refine lv_sipush (v := 145) C0.1 C0.2.1 dX4_takes_28 kS_145 ?_
      refine lv_icmp_eq (tgt := 58) C0.1 C0.2.1 dX4_takes_31 (by decide) (fun hc5 => ?_) (fun hc5 => ?_)
      · have hf := ite_t hc5 hf
        refine lv_iconst (v := 1) C0.1 C0.2.1 dX4_takes_58 kI_1 ?_
        refine lv_goto (tgt := 63) C0.1 C0.2.1 dX4_takes_59 (by decide) ?_
        obtain rfl := Option.some.inj hf
        exact r_bool C0 hK hW (v' := 1) rfl dX4_takes_63
      · have hf := ite_f hc5 hf
        refine lv_aload_n C0.1 C0.2.1 dX4_takes_34 rfl (lv_at hl 1 rfl) ?_
        refine lv_aload_n C0.1 C0.2.1 dX4_takes_35 rfl (lv_at hl 2 rfl) ?_
        refine lv_iload_n C0.1 C0.2.1 dX4_takes_36 rfl (lv_at hl 3 rfl) ?_
        refine lv_aload_n C0.1 C0.2.1 dX4_takes_37 rfl (lv_at hl 1 rfl) ?_
        refine s_get (v := .ref (ad 2)) C0 hK hW 0 1 LY_X4X6_0 rfl fg_X4_15 rfl dX4_takes_38 ?_
        refine lv_iload_n C0.1 C0.2.1 dX4_takes_41 rfl (lv_at hl 3 rfl) ?_
        obtain ⟨hb6, hf⟩ := g_some hf
        refine s_iald (v := ((A 2) (Int32.toNatClampNeg v2))) C0 hK hW 2 LY_X4X6_2 hb6 rfl dX4_takes_42 ?_
        obtain ⟨y7, hy7, hf⟩ := b_some hf
        refine c_Si C0 hK hN hl.1 hW hA (KJ6_bitCount_0f7a4 l D cy  (fun q => ad (pl_LY_X4X6_LY_0_.getD q 0)) (fun q => P (pl_LY_X4X6_LY_0_.getD q 0)) (fun q => Vx LY_X4X6 ad V (pl_LY_X4X6_LY_0_.getD q 0)) (fun q => gp I [(15, 2, (I 15 2))] (pl_LY_X4X6_LY_0_.getD q 0)) (fun q => gp J [] (pl_LY_X4X6_LY_0_.getD q 0)) (fun q => gm A [(17, (A 17))] (pl_LY_X4X6_LY_0_.getD q 0)) (fun q => gm B [] (pl_LY_X4X6_LY_0_.getD q 0)) ((A 2) (Int32.toNatClampNeg v2)) hy7) (JN_subC (pl := pl_LY_X4X6_LY_0_) sb_LY_X4X6_LY_0_ rfl rfl rfl rfl rfl rfl rfl rfl rfl) ⟨uw_643, uw_644, uw_15, uw_645⟩ rfl rfl hd_J6_bitCount_0f7a4 ⟨rfl, rfl⟩ rfl rfl rfl dX4_takes_43 ⟨Nat.zero_le _, Nat.zero_le _⟩ (fun H locs hW => ?_)
        have hW : wd D (dn cy LY_X4X6 ad P V (gp I [(15, 2, (I 15 2))]) (gp J []) (gm A [(17, (A 17))]) (gm B [])) Af s.heap H locs := hW
        refine lv_aload_n C0.1 C0.2.1 dX4_takes_46 rfl (lv_at hl 2 rfl) ?_
        refine s_get (v := .ref (ad 13)) C0 hK hW 3 10 LY_X4X6_3 rfl fg_X4_62 rfl dX4_takes_47 ?_
        refine lv_iload_n C0.1 C0.2.1 dX4_takes_50 rfl (lv_at hl 4 rfl) ?_
        obtain ⟨hb8, hf⟩ := g_some hf
        refine s_iald (v := ((A 13) (Int32.toNatClampNeg v3))) C0 hK hW 13 LY_X4X6_13 hb8 rfl dX4_takes_51 ?_
        obtain ⟨y9, hy9, hf⟩ := b_some hf
        refine c_Vi C0 hK hN hl.1 hW hA (KX4_isLawful l D cy  ad P V (gp I [(15, 2, (I 15 2))]) (gp J []) (gm A [(17, (A 17))]) (gm B []) v2 y7 ((A 13) (Int32.toNatClampNeg v3)) hy9) (JN_id rfl rfl rfl rfl) (Uw_V uw_649 uw_650 uw_651 uw_7 uw_652) rfl rfl hd_X4_isLawful ⟨rfl, rfl⟩ rfl (dn_some LY_X4X6_0) rfl rfl rfl dX4_takes_52 ⟨Nat.zero_le _, Nat.zero_le _⟩ (fun H locs hW => ?_)
        have hW : wd D (dn cy LY_X4X6 ad P V (gp I [(15, 2, y9.2.1)]) (gp J []) (gm A [(17, y9.2.2)]) (gm B [])) Af s.heap H locs := hW
        refine lv_if_eq (tgt := 62) C0.1 C0.2.1 dX4_takes_55 (by decide) (fun hc10 => ?_) (fun hc10 => ?_)
        · have hf := ite_t hc10 hf
          refine lv_iconst (v := 0) C0.1 C0.2.1 dX4_takes_62 kI_0 ?_
          obtain rfl := Option.some.inj hf
          exact r_bool C0 hK hW (v' := 0) rfl dX4_takes_63
        · have hf := ite_f hc10 hf
          refine lv_iconst (v := 1) C0.1 C0.2.1 dX4_takes_58 kI_1 ?_
          refine lv_goto (tgt := 63) C0.1 C0.2.1 dX4_takes_59 (by decide) ?_
          obtain rfl := Option.some.inj hf
          exact r_bool C0 hK hW (v' := 1) rfl dX4_takes_63
