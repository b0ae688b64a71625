-- X1_readFrom
def rmX1_readFrom : Room := { frames := 5, cells := 0, slots := 0, locals := 106 }
def SX1_readFrom_92 (p : Program) (l : Launch) (e : Env) (s : State) (m : MethodId) (args : Array Value) (below : List Frame) (meth : Method) (c : Code) (D : va_G) (cy : Nat → ClassId) (ad : Nat → Nat) (P : MP) (V : MV) (I : MI) (J : MJ) (A : MI) (B : MJ) (Af : Nat → Prop) (res : Int32 × Int32 × Int32 × Int32 × Int32 × Int32 × Int32 × Int32 × Int32 × Int64 × (Nat → Int32) × (Nat → Int32)) (k : Int32 → Int32 → Int32 → Int32 → Int32 → Int32 → Int32 → Int32 → Int32 → Int64 → (Nat → Int32) → (Nat → Int32) → Int32 → Option (Int32 × Int32 × Int32 × Int32 × Int32 × Int32 × Int32 × Int32 × Int32 × Int64 × (Nat → Int32) × (Nat → Int32))) : Prop := ∀ (w_waiting : Int32) (w_nested : Int32) (w_length : Int32) (p_behind : Int32) (p_place : Int32) (p_takenPlace : Int32) (p_token : Int32) (p_number : Int32) (p_fault : Int32) (p_name : Int64) (w_code : (Nat → Int32)) (w_stack : (Nat → Int32)) (v3 : Int32) (H : Heap) (locs : List Loc) (ls : Array Slot), wd D (dn cy LY_X1X5 ad P V (gp I [(0, 2, w_waiting), (0, 3, w_nested), (0, 4, w_length), (3, 2, p_behind), (3, 3, p_place), (3, 4, p_takenPlace), (3, 7, p_token), (3, 8, p_number), (3, 9, p_fault)]) (gp J [(3, 5, p_name)]) (gm A [(1, w_code), (2, w_stack)]) (gm B [])) Af s.heap H locs → lv_has ls 4 [(0, .ref (ad 0)), (1, .ref (ad 3)), (3, .int v3)] → k w_waiting w_nested w_length p_behind p_place p_takenPlace p_token p_number p_fault p_name w_code w_stack v3 = some res → W p l e rmX1_readFrom s m args below meth c H locs 0 0 (ZQ below D cy (dn cy LY_X1X5 ad P V (gp I [(0, 2, res.1), (0, 3, res.2.1), (0, 4, res.2.2.1), (3, 2, res.2.2.2.1), (3, 3, res.2.2.2.2.1), (3, 4, res.2.2.2.2.2.1), (3, 7, res.2.2.2.2.2.2.1), (3, 8, res.2.2.2.2.2.2.2.1), (3, 9, res.2.2.2.2.2.2.2.2.1)]) (gp J [(3, 5, res.2.2.2.2.2.2.2.2.2.1)]) (gm A [(1, res.2.2.2.2.2.2.2.2.2.2.1), (2, res.2.2.2.2.2.2.2.2.2.2.2)]) (gm B [])) none Af args s) (F0 m 92 ls [])
def SX1_readFrom_105 (p : Program) (l : Launch) (e : Env) (s : State) (m : MethodId) (args : Array Value) (below : List Frame) (meth : Method) (c : Code) (D : va_G) (cy : Nat → ClassId) (ad : Nat → Nat) (P : MP) (V : MV) (I : MI) (J : MJ) (A : MI) (B : MJ) (Af : Nat → Prop) (res : Int32 × Int32 × Int32 × Int32 × Int32 × Int32 × Int32 × Int32 × Int32 × Int64 × (Nat → Int32) × (Nat → Int32)) (k : Int32 → Int32 → Int32 → Int32 → Int32 → Int32 → Int32 → Int32 → Int32 → Int64 → (Nat → Int32) → (Nat → Int32) → Option (Int32 × Int32 × Int32 × Int32 × Int32 × Int32 × Int32 × Int32 × Int32 × Int64 × (Nat → Int32) × (Nat → Int32))) : Prop := ∀ (w_waiting : Int32) (w_nested : Int32) (w_length : Int32) (p_behind : Int32) (p_place : Int32) (p_takenPlace : Int32) (p_token : Int32) (p_number : Int32) (p_fault : Int32) (p_name : Int64) (w_code : (Nat → Int32)) (w_stack : (Nat → Int32)) (H : Heap) (locs : List Loc) (ls : Array Slot), wd D (dn cy LY_X1X5 ad P V (gp I [(0, 2, w_waiting), (0, 3, w_nested), (0, 4, w_length), (3, 2, p_behind), (3, 3, p_place), (3, 4, p_takenPlace), (3, 7, p_token), (3, 8, p_number), (3, 9, p_fault)]) (gp J [(3, 5, p_name)]) (gm A [(1, w_code), (2, w_stack)]) (gm B [])) Af s.heap H locs → lv_has ls 4 [(0, .ref (ad 0))] → k w_waiting w_nested w_length p_behind p_place p_takenPlace p_token p_number p_fault p_name w_code w_stack = some res → W p l e rmX1_readFrom s m args below meth c H locs 0 0 (ZQ below D cy (dn cy LY_X1X5 ad P V (gp I [(0, 2, res.1), (0, 3, res.2.1), (0, 4, res.2.2.1), (3, 2, res.2.2.2.1), (3, 3, res.2.2.2.2.1), (3, 4, res.2.2.2.2.2.1), (3, 7, res.2.2.2.2.2.2.1), (3, 8, res.2.2.2.2.2.2.2.1), (3, 9, res.2.2.2.2.2.2.2.2.1)]) (gp J [(3, 5, res.2.2.2.2.2.2.2.2.2.1)]) (gm A [(1, res.2.2.2.2.2.2.2.2.2.2.1), (2, res.2.2.2.2.2.2.2.2.2.2.2)]) (gm B [])) none Af args s) (F0 m 105 ls [])
def SX1_readFrom_73 (p : Program) (l : Launch) (e : Env) (s : State) (m : MethodId) (args : Array Value) (below : List Frame) (meth : Method) (c : Code) (D : va_G) (cy : Nat → ClassId) (ad : Nat → Nat) (P : MP) (V : MV) (I : MI) (J : MJ) (A : MI) (B : MJ) (Af : Nat → Prop) (res : Int32 × Int32 × Int32 × Int32 × Int32 × Int32 × Int32 × Int32 × Int32 × Int64 × (Nat → Int32) × (Nat → Int32)) (k : Int32 → Int32 → Int32 → Int32 → Int32 → Int32 → Int32 → Int32 → Int32 → Int64 → (Nat → Int32) → (Nat → Int32) → Int32 → Option (Int32 × Int32 × Int32 × Int32 × Int32 × Int32 × Int32 × Int32 × Int32 × Int64 × (Nat → Int32) × (Nat → Int32))) : Prop := ∀ (w_waiting : Int32) (w_nested : Int32) (w_length : Int32) (p_behind : Int32) (p_place : Int32) (p_takenPlace : Int32) (p_token : Int32) (p_number : Int32) (p_fault : Int32) (p_name : Int64) (w_code : (Nat → Int32)) (w_stack : (Nat → Int32)) (v3 : Int32) (H : Heap) (locs : List Loc) (ls : Array Slot), wd D (dn cy LY_X1X5 ad P V (gp I [(0, 2, w_waiting), (0, 3, w_nested), (0, 4, w_length), (3, 2, p_behind), (3, 3, p_place), (3, 4, p_takenPlace), (3, 7, p_token), (3, 8, p_number), (3, 9, p_fault)]) (gp J [(3, 5, p_name)]) (gm A [(1, w_code), (2, w_stack)]) (gm B [])) Af s.heap H locs → lv_has ls 4 [(0, .ref (ad 0)), (1, .ref (ad 3)), (3, .int v3)] → k w_waiting w_nested w_length p_behind p_place p_takenPlace p_token p_number p_fault p_name w_code w_stack v3 = some res → W p l e rmX1_readFrom s m args below meth c H locs 0 0 (ZQ below D cy (dn cy LY_X1X5 ad P V (gp I [(0, 2, res.1), (0, 3, res.2.1), (0, 4, res.2.2.1), (3, 2, res.2.2.2.1), (3, 3, res.2.2.2.2.1), (3, 4, res.2.2.2.2.2.1), (3, 7, res.2.2.2.2.2.2.1), (3, 8, res.2.2.2.2.2.2.2.1), (3, 9, res.2.2.2.2.2.2.2.2.1)]) (gp J [(3, 5, res.2.2.2.2.2.2.2.2.2.1)]) (gm A [(1, res.2.2.2.2.2.2.2.2.2.2.1), (2, res.2.2.2.2.2.2.2.2.2.2.2)]) (gm B [])) none Af args s) (F0 m 73 ls [])
def SX1_readFrom_14 (p : Program) (l : Launch) (e : Env) (s : State) (m : MethodId) (args : Array Value) (below : List Frame) (meth : Method) (c : Code) (D : va_G) (cy : Nat → ClassId) (ad : Nat → Nat) (P : MP) (V : MV) (I : MI) (J : MJ) (A : MI) (B : MJ) (Af : Nat → Prop) (res : Int32 × Int32 × Int32 × Int32 × Int32 × Int32 × Int32 × Int32 × Int32 × Int64 × (Nat → Int32) × (Nat → Int32)) (k : Int32 → Int32 → Int32 → Int32 → Int32 → Int32 → Int32 → Int32 → Int32 → Int64 → (Nat → Int32) → (Nat → Int32) → Int32 → Int32 → Option (Int32 × Int32 × Int32 × Int32 × Int32 × Int32 × Int32 × Int32 × Int32 × Int64 × (Nat → Int32) × (Nat → Int32))) : Prop := ∀ (w_waiting : Int32) (w_nested : Int32) (w_length : Int32) (p_behind : Int32) (p_place : Int32) (p_takenPlace : Int32) (p_token : Int32) (p_number : Int32) (p_fault : Int32) (p_name : Int64) (w_code : (Nat → Int32)) (w_stack : (Nat → Int32)) (v2 : Int32) (v3 : Int32) (H : Heap) (locs : List Loc) (ls : Array Slot), wd D (dn cy LY_X1X5 ad P V (gp I [(0, 2, w_waiting), (0, 3, w_nested), (0, 4, w_length), (3, 2, p_behind), (3, 3, p_place), (3, 4, p_takenPlace), (3, 7, p_token), (3, 8, p_number), (3, 9, p_fault)]) (gp J [(3, 5, p_name)]) (gm A [(1, w_code), (2, w_stack)]) (gm B [])) Af s.heap H locs → lv_has ls 4 [(0, .ref (ad 0)), (1, .ref (ad 3)), (2, .int v2), (3, .int v3)] → k w_waiting w_nested w_length p_behind p_place p_takenPlace p_token p_number p_fault p_name w_code w_stack v2 v3 = some res → W p l e rmX1_readFrom s m args below meth c H locs 0 0 (ZQ below D cy (dn cy LY_X1X5 ad P V (gp I [(0, 2, res.1), (0, 3, res.2.1), (0, 4, res.2.2.1), (3, 2, res.2.2.2.1), (3, 3, res.2.2.2.2.1), (3, 4, res.2.2.2.2.2.1), (3, 7, res.2.2.2.2.2.2.1), (3, 8, res.2.2.2.2.2.2.2.1), (3, 9, res.2.2.2.2.2.2.2.2.1)]) (gp J [(3, 5, res.2.2.2.2.2.2.2.2.2.1)]) (gm A [(1, res.2.2.2.2.2.2.2.2.2.2.1), (2, res.2.2.2.2.2.2.2.2.2.2.2)]) (gm B [])) none Af args s) (F0 m 14 ls [])
def fX1_readFrom_92 (p_length : Int32) (p_signs : (Nat → Int32)) (p_words : (Nat → Int64)) (k14 : Int32 → Int32 → Int32 → Int32 → Int32 → Int32 → Int32 → Int32 → Int32 → Int64 → (Nat → Int32) → (Nat → Int32) → Int32 → Int32 → Option (Int32 × Int32 × Int32 × Int32 × Int32 × Int32 × Int32 × Int32 × Int32 × Int64 × (Nat → Int32) × (Nat → Int32))) (w_waiting : Int32) (w_nested : Int32) (w_length : Int32) (p_behind : Int32) (p_place : Int32) (p_takenPlace : Int32) (p_token : Int32) (p_number : Int32) (p_fault : Int32) (p_name : Int64) (w_code : (Nat → Int32)) (w_stack : (Nat → Int32)) (v3 : Int32) : Option (Int32 × Int32 × Int32 × Int32 × Int32 × Int32 × Int32 × Int32 × Int32 × Int64 × (Nat → Int32) × (Nat → Int32)) := Option.bind (fX1_readOperator p_length p_signs p_words w_waiting w_length p_behind p_place p_takenPlace p_token p_number p_fault p_name w_code w_stack) fun y1 => (k14 y1.1 w_nested y1.2.1 y1.2.2.1 y1.2.2.2.1 y1.2.2.2.2.1 y1.2.2.2.2.2.1 y1.2.2.2.2.2.2.1 y1.2.2.2.2.2.2.2.1 y1.2.2.2.2.2.2.2.2.1 y1.2.2.2.2.2.2.2.2.2.1 y1.2.2.2.2.2.2.2.2.2.2 1 (v3 + 1))
set_option maxHeartbeats 4000000 in
set_option maxRecDepth 100000 in
theorem tX1_readFrom_92 {p : Program} {l : Launch} {e : Env} {s : State} {m : MethodId} {args : Array Value} {below : List Frame} {meth : Method} {c : Code} {D : va_G} {cy : Nat → ClassId} {ad : Nat → Nat} {P : MP} {V : MV} {I : MI} {J : MJ} {A : MI} {B : MJ} {Af : Nat → Prop} {res : Int32 × Int32 × Int32 × Int32 × Int32 × Int32 × Int32 × Int32 × Int32 × Int64 × (Nat → Int32) × (Nat → Int32)} (C0 : CX p s m args meth c cX1_readFrom 4 none RX1) (hK : va_K D vwCl (tyG cy) s) (hN : NWs s) (hA : ∀ q, s.heap.size ≤ q → Af q) {k14 : Int32 → Int32 → Int32 → Int32 → Int32 → Int32 → Int32 → Int32 → Int32 → Int64 → (Nat → Int32) → (Nat → Int32) → Int32 → Int32 → Option (Int32 × Int32 × Int32 × Int32 × Int32 × Int32 × Int32 × Int32 × Int32 × Int64 × (Nat → Int32) × (Nat → Int32))} (hk14 : SX1_readFrom_14 p l e s m args below meth c D cy ad P V I J A B Af res k14) : SX1_readFrom_92 p l e s m args below meth c D cy ad P V I J A B Af res (fX1_readFrom_92 (I 3 6) (A 4) (B 5) k14) := by
  intro w_waiting w_nested w_length p_behind p_place p_takenPlace p_token p_number p_fault p_name w_code w_stack v3 H locs ls hW hl hf
  unfold fX1_readFrom_92 at hf
  refine lv_aload_n C0.1 C0.2.1 dX1_readFrom_92 rfl (lv_at hl 0 rfl) ?_
  refine lv_aload_n C0.1 C0.2.1 dX1_readFrom_93 rfl (lv_at hl 1 rfl) ?_
  obtain ⟨y1, hy1, hf⟩ := b_some hf
  refine c_Vv C0 hK hN hl.1 hW hA (KX1_readOperator l D cy  ad P V (gp I [(0, 2, w_waiting), (0, 3, w_nested), (0, 4, w_length), (3, 2, p_behind), (3, 3, p_place), (3, 4, p_takenPlace), (3, 7, p_token), (3, 8, p_number), (3, 9, p_fault)]) (gp J [(3, 5, p_name)]) (gm A [(1, w_code), (2, w_stack)]) (gm B [])  hy1) (JN_id rfl rfl rfl rfl) (Uw_V uw_592 uw_594 us_21 uw_11 uw_595) rfl rfl hd_X1_readOperator ⟨rfl, rfl⟩ rfl (dn_some LY_X1X5_0) rfl rfl rfl dX1_readFrom_94 ⟨Nat.zero_le _, Nat.zero_le _⟩ (fun H locs hW => ?_)
  have hW : wd D (dn cy LY_X1X5 ad P V (gp I [(0, 2, y1.1), (0, 3, w_nested), (0, 4, y1.2.1), (3, 2, y1.2.2.1), (3, 3, y1.2.2.2.1), (3, 4, y1.2.2.2.2.1), (3, 7, y1.2.2.2.2.2.1), (3, 8, y1.2.2.2.2.2.2.1), (3, 9, y1.2.2.2.2.2.2.2.1)]) (gp J [(3, 5, y1.2.2.2.2.2.2.2.2.1)]) (gm A [(1, y1.2.2.2.2.2.2.2.2.2.1), (2, y1.2.2.2.2.2.2.2.2.2.2)]) (gm B [])) Af s.heap H locs := hW
  refine lv_iconst (v := 1) C0.1 C0.2.1 dX1_readFrom_97 kI_1 ?_
  refine lv_istore_n (lv' := [(2, .int 1), (0, .ref (ad 0)), (1, .ref (ad 3)), (3, .int v3)]) C0.1 C0.2.1 dX1_readFrom_98 rfl hl (by decide) rfl (fun ls hl => ?_)
  refine lv_iinc (v := (v3 + 1)) (lv' := [(3, .int (v3 + 1)), (2, .int 1), (0, .ref (ad 0)), (1, .ref (ad 3))]) C0.1 C0.2.1 dX1_readFrom_99 hl (k := 3) rfl (congrArg (fun z => _ + z) kI_1) (by decide) rfl (fun ls hl => ?_)
  refine lv_goto (tgt := 14) C0.1 C0.2.1 dX1_readFrom_102 (by decide) ?_
  exact hk14 y1.1 w_nested y1.2.1 y1.2.2.1 y1.2.2.2.1 y1.2.2.2.2.1 y1.2.2.2.2.2.1 y1.2.2.2.2.2.2.1 y1.2.2.2.2.2.2.2.1 y1.2.2.2.2.2.2.2.2.1 y1.2.2.2.2.2.2.2.2.2.1 y1.2.2.2.2.2.2.2.2.2.2 1 (v3 + 1) H locs ls hW (lv_sub hl [2, 3, 1, 0] rfl) hf
def fX1_readFrom_105 (p_length : Int32) (p_signs : (Nat → Int32)) (p_words : (Nat → Int64)) (w_waiting : Int32) (w_nested : Int32) (w_length : Int32) (p_behind : Int32) (p_place : Int32) (p_takenPlace : Int32) (p_token : Int32) (p_number : Int32) (p_fault : Int32) (p_name : Int64) (w_code : (Nat → Int32)) (w_stack : (Nat → Int32)) : Option (Int32 × Int32 × Int32 × Int32 × Int32 × Int32 × Int32 × Int32 × Int32 × Int64 × (Nat → Int32) × (Nat → Int32)) := Option.bind (fX1_emitDownTo w_stack w_waiting w_length w_code 1) fun y1 => (some (y1.1, w_nested, y1.2.1, p_behind, p_place, p_takenPlace, p_token, p_number, p_fault, p_name, y1.2.2, w_stack))
set_option maxHeartbeats 4000000 in
set_option maxRecDepth 100000 in
theorem tX1_readFrom_105 {p : Program} {l : Launch} {e : Env} {s : State} {m : MethodId} {args : Array Value} {below : List Frame} {meth : Method} {c : Code} {D : va_G} {cy : Nat → ClassId} {ad : Nat → Nat} {P : MP} {V : MV} {I : MI} {J : MJ} {A : MI} {B : MJ} {Af : Nat → Prop} {res : Int32 × Int32 × Int32 × Int32 × Int32 × Int32 × Int32 × Int32 × Int32 × Int64 × (Nat → Int32) × (Nat → Int32)} (C0 : CX p s m args meth c cX1_readFrom 4 none RX1) (hK : va_K D vwCl (tyG cy) s) (hN : NWs s) (hA : ∀ q, s.heap.size ≤ q → Af q) : SX1_readFrom_105 p l e s m args below meth c D cy ad P V I J A B Af res (fX1_readFrom_105 (I 3 6) (A 4) (B 5)) := by
  intro w_waiting w_nested w_length p_behind p_place p_takenPlace p_token p_number p_fault p_name w_code w_stack H locs ls hW hl hf
  unfold fX1_readFrom_105 at hf
  refine lv_aload_n C0.1 C0.2.1 dX1_readFrom_105 rfl (lv_at hl 0 rfl) ?_
  refine lv_iconst (v := 1) C0.1 C0.2.1 dX1_readFrom_106 kI_1 ?_
  obtain ⟨y1, hy1, hf⟩ := b_some hf
  refine c_Vv C0 hK hN hl.1 hW hA (KX1_emitDownTo l D cy  (fun q => ad (pl_LY_X1X5_LY_X1_0_1_2.getD q 0)) (fun q => P (pl_LY_X1X5_LY_X1_0_1_2.getD q 0)) (fun q => Vx LY_X1X5 ad V (pl_LY_X1X5_LY_X1_0_1_2.getD q 0)) (fun q => gp I [(0, 2, w_waiting), (0, 3, w_nested), (0, 4, w_length), (3, 2, p_behind), (3, 3, p_place), (3, 4, p_takenPlace), (3, 7, p_token), (3, 8, p_number), (3, 9, p_fault)] (pl_LY_X1X5_LY_X1_0_1_2.getD q 0)) (fun q => gp J [(3, 5, p_name)] (pl_LY_X1X5_LY_X1_0_1_2.getD q 0)) (fun q => gm A [(1, w_code), (2, w_stack)] (pl_LY_X1X5_LY_X1_0_1_2.getD q 0)) (fun q => gm B [] (pl_LY_X1X5_LY_X1_0_1_2.getD q 0)) 1 hy1) (JN_subC (pl := pl_LY_X1X5_LY_X1_0_1_2) sb_LY_X1X5_LY_X1_0_1_2 rfl rfl rfl rfl rfl rfl rfl rfl rfl) (Uw_V uw_581 uw_583 us_19 uw_11 uw_584) rfl rfl hd_X1_emitDownTo ⟨rfl, rfl⟩ rfl (dn_some LY_X1X5_0) rfl rfl rfl dX1_readFrom_107 ⟨Nat.zero_le _, Nat.zero_le _⟩ (fun H locs hW => ?_)
  have hW : wd D (dn cy LY_X1X5 ad P V (gp I [(0, 2, y1.1), (0, 3, w_nested), (0, 4, y1.2.1), (3, 2, p_behind), (3, 3, p_place), (3, 4, p_takenPlace), (3, 7, p_token), (3, 8, p_number), (3, 9, p_fault)]) (gp J [(3, 5, p_name)]) (gm A [(1, y1.2.2), (2, w_stack)]) (gm B [])) Af s.heap H locs := hW
  obtain rfl := Option.some.inj hf
  exact r_void C0 hK hW dX1_readFrom_110
def fX1_readFrom_73 (p_length : Int32) (p_signs : (Nat → Int32)) (p_words : (Nat → Int64)) (k14 : Int32 → Int32 → Int32 → Int32 → Int32 → Int32 → Int32 → Int32 → Int32 → Int64 → (Nat → Int32) → (Nat → Int32) → Int32 → Int32 → Option (Int32 × Int32 × Int32 × Int32 × Int32 × Int32 × Int32 × Int32 × Int32 × Int64 × (Nat → Int32) × (Nat → Int32))) (w_waiting : Int32) (w_nested : Int32) (w_length : Int32) (p_behind : Int32) (p_place : Int32) (p_takenPlace : Int32) (p_token : Int32) (p_number : Int32) (p_fault : Int32) (p_name : Int64) (w_code : (Nat → Int32)) (w_stack : (Nat → Int32)) (v3 : Int32) : Option (Int32 × Int32 × Int32 × Int32 × Int32 × Int32 × Int32 × Int32 × Int32 × Int64 × (Nat → Int32) × (Nat → Int32)) := if p_token = 59 then (if w_nested = 0 then (fX1_readFrom_105 p_length p_signs p_words w_waiting w_nested w_length p_behind p_place p_takenPlace p_token p_number p_fault p_name w_code w_stack) else (fX1_readFrom_92 p_length p_signs p_words k14 w_waiting w_nested w_length p_behind p_place p_takenPlace p_token p_number p_fault p_name w_code w_stack v3)) else (fX1_readFrom_92 p_length p_signs p_words k14 w_waiting w_nested w_length p_behind p_place p_takenPlace p_token p_number p_fault p_name w_code w_stack v3)
set_option maxHeartbeats 4000000 in
set_option maxRecDepth 100000 in
theorem tX1_readFrom_73 {p : Program} {l : Launch} {e : Env} {s : State} {m : MethodId} {args : Array Value} {below : List Frame} {meth : Method} {c : Code} {D : va_G} {cy : Nat → ClassId} {ad : Nat → Nat} {P : MP} {V : MV} {I : MI} {J : MJ} {A : MI} {B : MJ} {Af : Nat → Prop} {res : Int32 × Int32 × Int32 × Int32 × Int32 × Int32 × Int32 × Int32 × Int32 × Int64 × (Nat → Int32) × (Nat → Int32)} (C0 : CX p s m args meth c cX1_readFrom 4 none RX1) (hK : va_K D vwCl (tyG cy) s) (hN : NWs s) (hA : ∀ q, s.heap.size ≤ q → Af q) {k14 : Int32 → Int32 → Int32 → Int32 → Int32 → Int32 → Int32 → Int32 → Int32 → Int64 → (Nat → Int32) → (Nat → Int32) → Int32 → Int32 → Option (Int32 × Int32 × Int32 × Int32 × Int32 × Int32 × Int32 × Int32 × Int32 × Int64 × (Nat → Int32) × (Nat → Int32))} (hk14 : SX1_readFrom_14 p l e s m args below meth c D cy ad P V I J A B Af res k14) : SX1_readFrom_73 p l e s m args below meth c D cy ad P V I J A B Af res (fX1_readFrom_73 (I 3 6) (A 4) (B 5) k14) := by
  intro w_waiting w_nested w_length p_behind p_place p_takenPlace p_token p_number p_fault p_name w_code w_stack v3 H locs ls hW hl hf
  unfold fX1_readFrom_73 at hf
  refine lv_aload_n C0.1 C0.2.1 dX1_readFrom_73 rfl (lv_at hl 1 rfl) ?_
  refine s_get (v := .int p_token) C0 hK hW 3 7 LY_X1X5_3 rfl fg_X1_34 rfl dX1_readFrom_74 ?_
  refine lv_bipush (v := 59) C0.1 C0.2.1 dX1_readFrom_77 kB_59 ?_
  refine lv_icmp_ne (tgt := 92) C0.1 C0.2.1 dX1_readFrom_79 (by decide) (fun hc1 => ?_) (fun hc1 => ?_)
  · have hf := ite_f hc1 hf
    exact tX1_readFrom_92 C0 hK hN hA hk14 w_waiting w_nested w_length p_behind p_place p_takenPlace p_token p_number p_fault p_name w_code w_stack v3 H locs ls hW hl hf
  · have hf := ite_t hc1 hf
    refine lv_aload_n C0.1 C0.2.1 dX1_readFrom_82 rfl (lv_at hl 0 rfl) ?_
    refine s_get (v := .int w_nested) C0 hK hW 0 3 LY_X1X5_0 rfl fg_X1_22 rfl dX1_readFrom_83 ?_
    refine lv_if_ne (tgt := 92) C0.1 C0.2.1 dX1_readFrom_86 (by decide) (fun hc2 => ?_) (fun hc2 => ?_)
    · have hf := ite_f hc2 hf
      exact tX1_readFrom_92 C0 hK hN hA hk14 w_waiting w_nested w_length p_behind p_place p_takenPlace p_token p_number p_fault p_name w_code w_stack v3 H locs ls hW hl hf
    · have hf := ite_t hc2 hf
      refine lv_goto (tgt := 105) C0.1 C0.2.1 dX1_readFrom_89 (by decide) ?_
      exact tX1_readFrom_105 C0 hK hN hA  w_waiting w_nested w_length p_behind p_place p_takenPlace p_token p_number p_fault p_name w_code w_stack H locs ls hW (lv_sub hl [0] rfl) hf
def fX1_readFrom_14 (p_length : Int32) (p_signs : (Nat → Int32)) (p_words : (Nat → Int64)) (k14 : Int32 → Int32 → Int32 → Int32 → Int32 → Int32 → Int32 → Int32 → Int32 → Int64 → (Nat → Int32) → (Nat → Int32) → Int32 → Int32 → Option (Int32 × Int32 × Int32 × Int32 × Int32 × Int32 × Int32 × Int32 × Int32 × Int64 × (Nat → Int32) × (Nat → Int32))) (w_waiting : Int32) (w_nested : Int32) (w_length : Int32) (p_behind : Int32) (p_place : Int32) (p_takenPlace : Int32) (p_token : Int32) (p_number : Int32) (p_fault : Int32) (p_name : Int64) (w_code : (Nat → Int32)) (w_stack : (Nat → Int32)) (v2 : Int32) (v3 : Int32) : Option (Int32 × Int32 × Int32 × Int32 × Int32 × Int32 × Int32 × Int32 × Int32 × Int64 × (Nat → Int32) × (Nat → Int32)) := if 1000 < v3 then (fX1_readFrom_105 p_length p_signs p_words w_waiting w_nested w_length p_behind p_place p_takenPlace p_token p_number p_fault p_name w_code w_stack) else (if p_fault = 0 then (if v2 = 0 then (if p_token = 41 then (if w_nested ≤ 0 then (fX1_readFrom_73 p_length p_signs p_words k14 w_waiting w_nested w_length p_behind p_place p_takenPlace p_token p_number p_fault p_name w_code w_stack v3) else (Option.bind (fX1_closeBracket p_length w_stack p_signs p_words w_waiting w_nested w_length p_behind p_place p_takenPlace p_token p_number p_name w_code) fun y6 => (k14 y6.1 y6.2.1 y6.2.2.1 y6.2.2.2.1 y6.2.2.2.2.1 y6.2.2.2.2.2.1 y6.2.2.2.2.2.2.1 y6.2.2.2.2.2.2.2.1 p_fault y6.2.2.2.2.2.2.2.2.1 y6.2.2.2.2.2.2.2.2.2 w_stack v2 (v3 + 1)))) else (fX1_readFrom_73 p_length p_signs p_words k14 w_waiting w_nested w_length p_behind p_place p_takenPlace p_token p_number p_fault p_name w_code w_stack v3)) else (Option.bind (fX1_readPart p_length p_signs p_words w_waiting w_nested w_length p_behind p_place p_takenPlace p_token p_number p_fault p_name w_code w_stack) fun y7 => (if y7.1 = 0 then (k14 y7.2.1 y7.2.2.1 y7.2.2.2.1 y7.2.2.2.2.1 y7.2.2.2.2.2.1 y7.2.2.2.2.2.2.1 y7.2.2.2.2.2.2.2.1 y7.2.2.2.2.2.2.2.2.1 y7.2.2.2.2.2.2.2.2.2.1 y7.2.2.2.2.2.2.2.2.2.2.1 y7.2.2.2.2.2.2.2.2.2.2.2.1 y7.2.2.2.2.2.2.2.2.2.2.2.2 1 (v3 + 1)) else (k14 y7.2.1 y7.2.2.1 y7.2.2.2.1 y7.2.2.2.2.1 y7.2.2.2.2.2.1 y7.2.2.2.2.2.2.1 y7.2.2.2.2.2.2.2.1 y7.2.2.2.2.2.2.2.2.1 y7.2.2.2.2.2.2.2.2.2.1 y7.2.2.2.2.2.2.2.2.2.2.1 y7.2.2.2.2.2.2.2.2.2.2.2.1 y7.2.2.2.2.2.2.2.2.2.2.2.2 0 (v3 + 1))))) else (fX1_readFrom_105 p_length p_signs p_words w_waiting w_nested w_length p_behind p_place p_takenPlace p_token p_number p_fault p_name w_code w_stack))
set_option maxHeartbeats 4000000 in
set_option maxRecDepth 100000 in
theorem tX1_readFrom_14 {p : Program} {l : Launch} {e : Env} {s : State} {m : MethodId} {args : Array Value} {below : List Frame} {meth : Method} {c : Code} {D : va_G} {cy : Nat → ClassId} {ad : Nat → Nat} {P : MP} {V : MV} {I : MI} {J : MJ} {A : MI} {B : MJ} {Af : Nat → Prop} {res : Int32 × Int32 × Int32 × Int32 × Int32 × Int32 × Int32 × Int32 × Int32 × Int64 × (Nat → Int32) × (Nat → Int32)} (C0 : CX p s m args meth c cX1_readFrom 4 none RX1) (hK : va_K D vwCl (tyG cy) s) (hN : NWs s) (hA : ∀ q, s.heap.size ≤ q → Af q) {k14 : Int32 → Int32 → Int32 → Int32 → Int32 → Int32 → Int32 → Int32 → Int32 → Int64 → (Nat → Int32) → (Nat → Int32) → Int32 → Int32 → Option (Int32 × Int32 × Int32 × Int32 × Int32 × Int32 × Int32 × Int32 × Int32 × Int64 × (Nat → Int32) × (Nat → Int32))} (hk14 : SX1_readFrom_14 p l e s m args below meth c D cy ad P V I J A B Af res k14) : SX1_readFrom_14 p l e s m args below meth c D cy ad P V I J A B Af res (fX1_readFrom_14 (I 3 6) (A 4) (B 5) k14) := by
  intro w_waiting w_nested w_length p_behind p_place p_takenPlace p_token p_number p_fault p_name w_code w_stack v2 v3 H locs ls hW hl hf
  unfold fX1_readFrom_14 at hf
  refine lv_iload_n C0.1 C0.2.1 dX1_readFrom_14 rfl (lv_at hl 3 rfl) ?_
  refine lv_sipush (v := 1000) C0.1 C0.2.1 dX1_readFrom_15 kS_1000 ?_
  refine lv_icmp_gt (tgt := 105) C0.1 C0.2.1 dX1_readFrom_18 (by decide) (fun hc1 => ?_) (fun hc1 => ?_)
  · have hf := ite_t hc1 hf
    exact tX1_readFrom_105 C0 hK hN hA  w_waiting w_nested w_length p_behind p_place p_takenPlace p_token p_number p_fault p_name w_code w_stack H locs ls hW (lv_sub hl [0] rfl) hf
  · have hf := ite_f hc1 hf
    refine lv_aload_n C0.1 C0.2.1 dX1_readFrom_21 rfl (lv_at hl 1 rfl) ?_
    refine s_get (v := .int p_fault) C0 hK hW 3 9 LY_X1X5_3 rfl fg_X1_25 rfl dX1_readFrom_22 ?_
    refine lv_if_ne (tgt := 105) C0.1 C0.2.1 dX1_readFrom_25 (by decide) (fun hc2 => ?_) (fun hc2 => ?_)
    · have hf := ite_f hc2 hf
      exact tX1_readFrom_105 C0 hK hN hA  w_waiting w_nested w_length p_behind p_place p_takenPlace p_token p_number p_fault p_name w_code w_stack H locs ls hW (lv_sub hl [0] rfl) hf
    · have hf := ite_t hc2 hf
      refine lv_iload_n C0.1 C0.2.1 dX1_readFrom_28 rfl (lv_at hl 2 rfl) ?_
      refine lv_if_eq (tgt := 49) C0.1 C0.2.1 dX1_readFrom_29 (by decide) (fun hc3 => ?_) (fun hc3 => ?_)
      · have hf := ite_t hc3 hf
        refine lv_aload_n C0.1 C0.2.1 dX1_readFrom_49 rfl (lv_at hl 1 rfl) ?_
        refine s_get (v := .int p_token) C0 hK hW 3 7 LY_X1X5_3 rfl fg_X1_34 rfl dX1_readFrom_50 ?_
        refine lv_bipush (v := 41) C0.1 C0.2.1 dX1_readFrom_53 kB_41 ?_
        refine lv_icmp_ne (tgt := 73) C0.1 C0.2.1 dX1_readFrom_55 (by decide) (fun hc4 => ?_) (fun hc4 => ?_)
        · have hf := ite_f hc4 hf
          exact tX1_readFrom_73 C0 hK hN hA hk14 w_waiting w_nested w_length p_behind p_place p_takenPlace p_token p_number p_fault p_name w_code w_stack v3 H locs ls hW (lv_sub hl [0, 1, 3] rfl) hf
        · have hf := ite_t hc4 hf
          refine lv_aload_n C0.1 C0.2.1 dX1_readFrom_58 rfl (lv_at hl 0 rfl) ?_
          refine s_get (v := .int w_nested) C0 hK hW 0 3 LY_X1X5_0 rfl fg_X1_22 rfl dX1_readFrom_59 ?_
          refine lv_if_le (tgt := 73) C0.1 C0.2.1 dX1_readFrom_62 (by decide) (fun hc5 => ?_) (fun hc5 => ?_)
          · have hf := ite_t hc5 hf
            exact tX1_readFrom_73 C0 hK hN hA hk14 w_waiting w_nested w_length p_behind p_place p_takenPlace p_token p_number p_fault p_name w_code w_stack v3 H locs ls hW (lv_sub hl [0, 1, 3] rfl) hf
          · have hf := ite_f hc5 hf
            refine lv_aload_n C0.1 C0.2.1 dX1_readFrom_65 rfl (lv_at hl 0 rfl) ?_
            refine lv_aload_n C0.1 C0.2.1 dX1_readFrom_66 rfl (lv_at hl 1 rfl) ?_
            obtain ⟨y6, hy6, hf⟩ := b_some hf
            refine c_Vv C0 hK hN hl.1 hW hA (KX1_closeBracket l D cy  ad P V (gp I [(0, 2, w_waiting), (0, 3, w_nested), (0, 4, w_length), (3, 2, p_behind), (3, 3, p_place), (3, 4, p_takenPlace), (3, 7, p_token), (3, 8, p_number), (3, 9, p_fault)]) (gp J [(3, 5, p_name)]) (gm A [(1, w_code), (2, w_stack)]) (gm B [])  hy6) (JN_id rfl rfl rfl rfl) (Uw_V uw_577 uw_579 us_18 uw_11 uw_580) rfl rfl hd_X1_closeBracket ⟨rfl, rfl⟩ rfl (dn_some LY_X1X5_0) rfl rfl rfl dX1_readFrom_67 ⟨Nat.zero_le _, Nat.zero_le _⟩ (fun H locs hW => ?_)
            have hW : wd D (dn cy LY_X1X5 ad P V (gp I [(0, 2, y6.1), (0, 3, y6.2.1), (0, 4, y6.2.2.1), (3, 2, y6.2.2.2.1), (3, 3, y6.2.2.2.2.1), (3, 4, y6.2.2.2.2.2.1), (3, 7, y6.2.2.2.2.2.2.1), (3, 8, y6.2.2.2.2.2.2.2.1), (3, 9, p_fault)]) (gp J [(3, 5, y6.2.2.2.2.2.2.2.2.1)]) (gm A [(1, y6.2.2.2.2.2.2.2.2.2), (2, w_stack)]) (gm B [])) Af s.heap H locs := hW
            refine lv_goto (tgt := 99) C0.1 C0.2.1 dX1_readFrom_70 (by decide) ?_
            refine lv_iinc (v := (v3 + 1)) (lv' := [(3, .int (v3 + 1)), (0, .ref (ad 0)), (1, .ref (ad 3)), (2, .int v2)]) C0.1 C0.2.1 dX1_readFrom_99 hl (k := 3) rfl (congrArg (fun z => _ + z) kI_1) (by decide) rfl (fun ls hl => ?_)
            refine lv_goto (tgt := 14) C0.1 C0.2.1 dX1_readFrom_102 (by decide) ?_
            exact hk14 y6.1 y6.2.1 y6.2.2.1 y6.2.2.2.1 y6.2.2.2.2.1 y6.2.2.2.2.2.1 y6.2.2.2.2.2.2.1 y6.2.2.2.2.2.2.2.1 p_fault y6.2.2.2.2.2.2.2.2.1 y6.2.2.2.2.2.2.2.2.2 w_stack v2 (v3 + 1) H locs ls hW (lv_sub hl [1, 2, 3, 0] rfl) hf
      · have hf := ite_f hc3 hf
        refine lv_aload_n C0.1 C0.2.1 dX1_readFrom_32 rfl (lv_at hl 0 rfl) ?_
        refine lv_aload_n C0.1 C0.2.1 dX1_readFrom_33 rfl (lv_at hl 1 rfl) ?_
        obtain ⟨y7, hy7, hf⟩ := b_some hf
        refine c_Vi C0 hK hN hl.1 hW hA (KX1_readPart l D cy  ad P V (gp I [(0, 2, w_waiting), (0, 3, w_nested), (0, 4, w_length), (3, 2, p_behind), (3, 3, p_place), (3, 4, p_takenPlace), (3, 7, p_token), (3, 8, p_number), (3, 9, p_fault)]) (gp J [(3, 5, p_name)]) (gm A [(1, w_code), (2, w_stack)]) (gm B [])  hy7) (JN_id rfl rfl rfl rfl) (Uw_V uw_558 uw_560 us_14 uw_11 uw_561) rfl rfl hd_X1_readPart ⟨rfl, rfl⟩ rfl (dn_some LY_X1X5_0) rfl rfl rfl dX1_readFrom_34 ⟨Nat.zero_le _, Nat.zero_le _⟩ (fun H locs hW => ?_)
        have hW : wd D (dn cy LY_X1X5 ad P V (gp I [(0, 2, y7.2.1), (0, 3, y7.2.2.1), (0, 4, y7.2.2.2.1), (3, 2, y7.2.2.2.2.1), (3, 3, y7.2.2.2.2.2.1), (3, 4, y7.2.2.2.2.2.2.1), (3, 7, y7.2.2.2.2.2.2.2.1), (3, 8, y7.2.2.2.2.2.2.2.2.1), (3, 9, y7.2.2.2.2.2.2.2.2.2.1)]) (gp J [(3, 5, y7.2.2.2.2.2.2.2.2.2.2.1)]) (gm A [(1, y7.2.2.2.2.2.2.2.2.2.2.2.1), (2, y7.2.2.2.2.2.2.2.2.2.2.2.2)]) (gm B [])) Af s.heap H locs := hW
        refine lv_if_ne (tgt := 44) C0.1 C0.2.1 dX1_readFrom_37 (by decide) (fun hc8 => ?_) (fun hc8 => ?_)
        · have hf := ite_f hc8 hf
          refine lv_iconst (v := 0) C0.1 C0.2.1 dX1_readFrom_44 kI_0 ?_
          refine lv_istore_n (lv' := [(2, .int 0), (0, .ref (ad 0)), (1, .ref (ad 3)), (3, .int v3)]) C0.1 C0.2.1 dX1_readFrom_45 rfl hl (by decide) rfl (fun ls hl => ?_)
          refine lv_goto (tgt := 99) C0.1 C0.2.1 dX1_readFrom_46 (by decide) ?_
          refine lv_iinc (v := (v3 + 1)) (lv' := [(3, .int (v3 + 1)), (2, .int 0), (0, .ref (ad 0)), (1, .ref (ad 3))]) C0.1 C0.2.1 dX1_readFrom_99 hl (k := 3) rfl (congrArg (fun z => _ + z) kI_1) (by decide) rfl (fun ls hl => ?_)
          refine lv_goto (tgt := 14) C0.1 C0.2.1 dX1_readFrom_102 (by decide) ?_
          exact hk14 y7.2.1 y7.2.2.1 y7.2.2.2.1 y7.2.2.2.2.1 y7.2.2.2.2.2.1 y7.2.2.2.2.2.2.1 y7.2.2.2.2.2.2.2.1 y7.2.2.2.2.2.2.2.2.1 y7.2.2.2.2.2.2.2.2.2.1 y7.2.2.2.2.2.2.2.2.2.2.1 y7.2.2.2.2.2.2.2.2.2.2.2.1 y7.2.2.2.2.2.2.2.2.2.2.2.2 0 (v3 + 1) H locs ls hW (lv_sub hl [2, 3, 1, 0] rfl) hf
        · have hf := ite_t hc8 hf
          refine lv_iconst (v := 1) C0.1 C0.2.1 dX1_readFrom_40 kI_1 ?_
          refine lv_goto (tgt := 45) C0.1 C0.2.1 dX1_readFrom_41 (by decide) ?_
          refine lv_istore_n (lv' := [(2, .int 1), (0, .ref (ad 0)), (1, .ref (ad 3)), (3, .int v3)]) C0.1 C0.2.1 dX1_readFrom_45 rfl hl (by decide) rfl (fun ls hl => ?_)
          refine lv_goto (tgt := 99) C0.1 C0.2.1 dX1_readFrom_46 (by decide) ?_
          refine lv_iinc (v := (v3 + 1)) (lv' := [(3, .int (v3 + 1)), (2, .int 1), (0, .ref (ad 0)), (1, .ref (ad 3))]) C0.1 C0.2.1 dX1_readFrom_99 hl (k := 3) rfl (congrArg (fun z => _ + z) kI_1) (by decide) rfl (fun ls hl => ?_)
          refine lv_goto (tgt := 14) C0.1 C0.2.1 dX1_readFrom_102 (by decide) ?_
          exact hk14 y7.2.1 y7.2.2.1 y7.2.2.2.1 y7.2.2.2.2.1 y7.2.2.2.2.2.1 y7.2.2.2.2.2.2.1 y7.2.2.2.2.2.2.2.1 y7.2.2.2.2.2.2.2.2.1 y7.2.2.2.2.2.2.2.2.2.1 y7.2.2.2.2.2.2.2.2.2.2.1 y7.2.2.2.2.2.2.2.2.2.2.2.1 y7.2.2.2.2.2.2.2.2.2.2.2.2 1 (v3 + 1) H locs ls hW (lv_sub hl [2, 3, 1, 0] rfl) hf
theorem TX1_readFrom_14 {p : Program} {l : Launch} {e : Env} {s : State} {m : MethodId} {args : Array Value} {below : List Frame} {meth : Method} {c : Code} {D : va_G} {cy : Nat → ClassId} {ad : Nat → Nat} {P : MP} {V : MV} {I : MI} {J : MJ} {A : MI} {B : MJ} {Af : Nat → Prop} {res : Int32 × Int32 × Int32 × Int32 × Int32 × Int32 × Int32 × Int32 × Int32 × Int64 × (Nat → Int32) × (Nat → Int32)} (C0 : CX p s m args meth c cX1_readFrom 4 none RX1) (hK : va_K D vwCl (tyG cy) s) (hN : NWs s) (hA : ∀ q, s.heap.size ≤ q → Af q) : ∀ n, SX1_readFrom_14 p l e s m args below meth c D cy ad P V I J A B Af res (itr (fun kk => fX1_readFrom_14 (I 3 6) (A 4) (B 5) kk) (fun _ _ _ _ _ _ _ _ _ _ _ _ _ _ => none) n) := by
  intro n
  induction n with
  | zero => intro w_waiting w_nested w_length p_behind p_place p_takenPlace p_token p_number p_fault p_name w_code w_stack v2 v3 H locs ls hW hl hf; exact (nomatch (show (none : Option (Int32 × Int32 × Int32 × Int32 × Int32 × Int32 × Int32 × Int32 × Int32 × Int64 × (Nat → Int32) × (Nat → Int32))) = some res from hf))
  | succ n ih => exact tX1_readFrom_14 C0 hK hN hA  ih
def fX1_readFrom (p_length : Int32) (p_signs : (Nat → Int32)) (p_words : (Nat → Int64)) (w_waiting : Int32) (w_nested : Int32) (w_length : Int32) (p_behind : Int32) (p_place : Int32) (p_takenPlace : Int32) (p_token : Int32) (p_number : Int32) (p_fault : Int32) (p_name : Int64) (w_code : (Nat → Int32)) (w_stack : (Nat → Int32)) : Option (Int32 × Int32 × Int32 × Int32 × Int32 × Int32 × Int32 × Int32 × Int32 × Int64 × (Nat → Int32) × (Nat → Int32)) := itr (fun kk => fX1_readFrom_14 p_length p_signs p_words kk) (fun _ _ _ _ _ _ _ _ _ _ _ _ _ _ => none) FU 0 0 w_length p_behind p_place p_takenPlace p_token p_number p_fault p_name w_code w_stack 1 0
set_option maxHeartbeats 4000000 in
set_option maxRecDepth 100000 in
theorem KX1_readFrom (l : Launch) (D : va_G) (cy : Nat → ClassId) (ad : Nat → Nat) (P : MP) (V : MV) (I : MI) (J : MJ) (A : MI) (B : MJ) {res : Int32 × Int32 × Int32 × Int32 × Int32 × Int32 × Int32 × Int32 × Int32 × Int64 × (Nat → Int32) × (Nat → Int32)} (hf : fX1_readFrom (I 3 6) (A 4) (B 5) (I 0 2) (I 0 3) (I 0 4) (I 3 2) (I 3 3) (I 3 4) (I 3 7) (I 3 8) (I 3 9) (J 3 5) (A 1) (A 2) = some res) : CG l yX1_readFrom cX1_readFrom 4 none rmX1_readFrom D cy (dn cy LY_X1X5 ad P V I J A B) [.ref (ad 0), .ref (ad 3)] none (dn cy LY_X1X5 ad P V (gp I [(0, 2, res.1), (0, 3, res.2.1), (0, 4, res.2.2.1), (3, 2, res.2.2.2.1), (3, 3, res.2.2.2.2.1), (3, 4, res.2.2.2.2.2.1), (3, 7, res.2.2.2.2.2.2.1), (3, 8, res.2.2.2.2.2.2.2.1), (3, 9, res.2.2.2.2.2.2.2.2.1)]) (gp J [(3, 5, res.2.2.2.2.2.2.2.2.2.1)]) (gm A [(1, res.2.2.2.2.2.2.2.2.2.2.1), (2, res.2.2.2.2.2.2.2.2.2.2.2)]) (gm B [])) := by
  refine CG.of (own := RX1) (by decide) rfl rfl ?_
  intro p e s m below meth c ls Af C0 hK hN hA hW hl
  have hW : wd D (dn cy LY_X1X5 ad P V (gp I [(0, 2, (I 0 2)), (0, 3, (I 0 3)), (0, 4, (I 0 4)), (3, 2, (I 3 2)), (3, 3, (I 3 3)), (3, 4, (I 3 4)), (3, 7, (I 3 7)), (3, 8, (I 3 8)), (3, 9, (I 3 9))]) (gp J [(3, 5, (J 3 5))]) (gm A [(1, (A 1)), (2, (A 2))]) (gm B [])) Af s.heap s.heap [] := wd_sel [(0, 2), (0, 3), (0, 4), (3, 2), (3, 3), (3, 4), (3, 7), (3, 8), (3, 9)] [(3, 5)] [1, 2] [] hW
  have hl : lv_has ls 4 [(0, .ref (ad 0)), (1, .ref (ad 3))] := hl
  unfold fX1_readFrom at hf
  refine lv_aload_n C0.1 C0.2.1 dX1_readFrom_0 rfl (lv_at hl 0 rfl) ?_
  refine lv_iconst (v := 0) C0.1 C0.2.1 dX1_readFrom_1 kI_0 ?_
  refine s_putI C0 hK hW 0 2 LY_X1X5_0 rfl fg_X1_18 fp_X1_2 rfl dX1_readFrom_2 (fun H locs hW => ?_)
  have hW : wd D (dn cy LY_X1X5 ad P V (gp I [(0, 2, 0), (0, 3, (I 0 3)), (0, 4, (I 0 4)), (3, 2, (I 3 2)), (3, 3, (I 3 3)), (3, 4, (I 3 4)), (3, 7, (I 3 7)), (3, 8, (I 3 8)), (3, 9, (I 3 9))]) (gp J [(3, 5, (J 3 5))]) (gm A [(1, (A 1)), (2, (A 2))]) (gm B [])) Af s.heap H locs := hW
  refine lv_aload_n C0.1 C0.2.1 dX1_readFrom_5 rfl (lv_at hl 0 rfl) ?_
  refine lv_iconst (v := 0) C0.1 C0.2.1 dX1_readFrom_6 kI_0 ?_
  refine s_putI C0 hK hW 0 3 LY_X1X5_0 rfl fg_X1_22 fp_X1_3 rfl dX1_readFrom_7 (fun H locs hW => ?_)
  have hW : wd D (dn cy LY_X1X5 ad P V (gp I [(0, 2, 0), (0, 3, 0), (0, 4, (I 0 4)), (3, 2, (I 3 2)), (3, 3, (I 3 3)), (3, 4, (I 3 4)), (3, 7, (I 3 7)), (3, 8, (I 3 8)), (3, 9, (I 3 9))]) (gp J [(3, 5, (J 3 5))]) (gm A [(1, (A 1)), (2, (A 2))]) (gm B [])) Af s.heap H locs := hW
  refine lv_iconst (v := 1) C0.1 C0.2.1 dX1_readFrom_10 kI_1 ?_
  refine lv_istore_n (lv' := [(2, .int 1), (0, .ref (ad 0)), (1, .ref (ad 3))]) C0.1 C0.2.1 dX1_readFrom_11 rfl hl (by decide) rfl (fun ls hl => ?_)
  refine lv_iconst (v := 0) C0.1 C0.2.1 dX1_readFrom_12 kI_0 ?_
  refine lv_istore_n (lv' := [(3, .int 0), (2, .int 1), (0, .ref (ad 0)), (1, .ref (ad 3))]) C0.1 C0.2.1 dX1_readFrom_13 rfl hl (by decide) rfl (fun ls hl => ?_)
  exact TX1_readFrom_14 C0 hK hN hA  FU 0 0 (I 0 4) (I 3 2) (I 3 3) (I 3 4) (I 3 7) (I 3 8) (I 3 9) (J 3 5) (A 1) (A 2) 1 0 _ _ ls hW (lv_sub hl [2, 3, 1, 0] rfl) hf
-- X1_joined
def rmX1_joined : Room := { frames := 1, cells := 0, slots := 0, locals := 21 }
def fX1_joined (v0 : Int32) (v1 : Int32) (v2 : Int32) : Option (Int32) := if Int32.toInt v0 = 42 then (some ((v2 * v1))) else (if Int32.toInt v0 = 43 then (some ((v2 + v1))) else (if Int32.toInt v0 = 45 then (some ((v2 - v1))) else (if Int32.toInt v0 = 60 then (if v1 ≤ v2 then (some (0)) else (some (1))) else (if Int32.toInt v0 = 61 then (if v2 = v1 then (some (1)) else (some (0))) else (if Int32.toInt v0 = 148 then (if v2 = 0 then (some (0)) else (if v1 = 0 then (some (0)) else (some (1)))) else (if v2 = 0 then (if v1 = 0 then (some (0)) else (some (1))) else (some (1))))))))
set_option maxHeartbeats 4000000 in
set_option maxRecDepth 100000 in
theorem KX1_joined (l : Launch) (D : va_G) (cy : Nat → ClassId) (ad : Nat → Nat) (P : MP) (V : MV) (I : MI) (J : MJ) (A : MI) (B : MJ) (v0 : Int32) (v1 : Int32) (v2 : Int32) {res : Int32} (hf : fX1_joined v0 v1 v2 = some res) : CG l yX1_joined cX1_joined 3 (some .int) rmX1_joined D cy (dn cy LY_0 ad P V I J A B) [.int v0, .int v1, .int v2] (some (.int res)) (dn cy LY_0 ad P V (gp I []) (gp J []) (gm A []) (gm B [])) := by
  refine CG.of (own := RX1) (by decide) rfl rfl ?_
  intro p e s m below meth c ls Af C0 hK hN hA hW hl
  have hW : wd D (dn cy LY_0 ad P V (gp I []) (gp J []) (gm A []) (gm B [])) Af s.heap s.heap [] := wd_sel [] [] [] [] hW
  have hl : lv_has ls 3 [(0, .int v0), (1, .int v1), (2, .int v2)] := hl
  unfold fX1_joined at hf
  refine lv_iload_n C0.1 C0.2.1 dX1_joined_0 rfl (lv_at hl 0 rfl) ?_
  by_cases hc1 : Int32.toInt v0 = 42
  · have hf := ite_t hc1 hf
    refine lv_lookup (tgt := 60) (off := 59) C0.1 C0.2.1 dX1_joined_1 (by decide) (by rw [hc1]; decide) (by decide) ?_
    refine lv_iload_n C0.1 C0.2.1 dX1_joined_60 rfl (lv_at hl 2 rfl) ?_
    refine lv_iload_n C0.1 C0.2.1 dX1_joined_61 rfl (lv_at hl 1 rfl) ?_
    refine lv_imul C0.1 C0.2.1 dX1_joined_62 ?_
    obtain rfl := Option.some.inj hf
    exact r_int C0 hK hW dX1_joined_63
  · have hf := ite_f hc1 hf
    by_cases hc2 : Int32.toInt v0 = 43
    · have hf := ite_t hc2 hf
      refine lv_lookup (tgt := 64) (off := 63) C0.1 C0.2.1 dX1_joined_1 (by decide) (by rw [hc2]; decide) (by decide) ?_
      refine lv_iload_n C0.1 C0.2.1 dX1_joined_64 rfl (lv_at hl 2 rfl) ?_
      refine lv_iload_n C0.1 C0.2.1 dX1_joined_65 rfl (lv_at hl 1 rfl) ?_
      refine lv_iadd C0.1 C0.2.1 dX1_joined_66 ?_
      obtain rfl := Option.some.inj hf
      exact r_int C0 hK hW dX1_joined_67
    · have hf := ite_f hc2 hf
      by_cases hc3 : Int32.toInt v0 = 45
      · have hf := ite_t hc3 hf
        refine lv_lookup (tgt := 68) (off := 67) C0.1 C0.2.1 dX1_joined_1 (by decide) (by rw [hc3]; decide) (by decide) ?_
        refine lv_iload_n C0.1 C0.2.1 dX1_joined_68 rfl (lv_at hl 2 rfl) ?_
        refine lv_iload_n C0.1 C0.2.1 dX1_joined_69 rfl (lv_at hl 1 rfl) ?_
        refine lv_isub C0.1 C0.2.1 dX1_joined_70 ?_
        obtain rfl := Option.some.inj hf
        exact r_int C0 hK hW dX1_joined_71
      · have hf := ite_f hc3 hf
        by_cases hc4 : Int32.toInt v0 = 60
        · have hf := ite_t hc4 hf
          refine lv_lookup (tgt := 72) (off := 71) C0.1 C0.2.1 dX1_joined_1 (by decide) (by rw [hc4]; decide) (by decide) ?_
          refine lv_iload_n C0.1 C0.2.1 dX1_joined_72 rfl (lv_at hl 2 rfl) ?_
          refine lv_iload_n C0.1 C0.2.1 dX1_joined_73 rfl (lv_at hl 1 rfl) ?_
          refine lv_icmp_ge (tgt := 81) C0.1 C0.2.1 dX1_joined_74 (by decide) (fun hc5 => ?_) (fun hc5 => ?_)
          · have hf := ite_t hc5 hf
            refine lv_iconst (v := 0) C0.1 C0.2.1 dX1_joined_81 kI_0 ?_
            obtain rfl := Option.some.inj hf
            exact r_int C0 hK hW dX1_joined_82
          · have hf := ite_f hc5 hf
            refine lv_iconst (v := 1) C0.1 C0.2.1 dX1_joined_77 kI_1 ?_
            refine lv_goto (tgt := 82) C0.1 C0.2.1 dX1_joined_78 (by decide) ?_
            obtain rfl := Option.some.inj hf
            exact r_int C0 hK hW dX1_joined_82
        · have hf := ite_f hc4 hf
          by_cases hc6 : Int32.toInt v0 = 61
          · have hf := ite_t hc6 hf
            refine lv_lookup (tgt := 83) (off := 82) C0.1 C0.2.1 dX1_joined_1 (by decide) (by rw [hc6]; decide) (by decide) ?_
            refine lv_iload_n C0.1 C0.2.1 dX1_joined_83 rfl (lv_at hl 2 rfl) ?_
            refine lv_iload_n C0.1 C0.2.1 dX1_joined_84 rfl (lv_at hl 1 rfl) ?_
            refine lv_icmp_ne (tgt := 92) C0.1 C0.2.1 dX1_joined_85 (by decide) (fun hc7 => ?_) (fun hc7 => ?_)
            · have hf := ite_f hc7 hf
              refine lv_iconst (v := 0) C0.1 C0.2.1 dX1_joined_92 kI_0 ?_
              obtain rfl := Option.some.inj hf
              exact r_int C0 hK hW dX1_joined_93
            · have hf := ite_t hc7 hf
              refine lv_iconst (v := 1) C0.1 C0.2.1 dX1_joined_88 kI_1 ?_
              refine lv_goto (tgt := 93) C0.1 C0.2.1 dX1_joined_89 (by decide) ?_
              obtain rfl := Option.some.inj hf
              exact r_int C0 hK hW dX1_joined_93
          · have hf := ite_f hc6 hf
            by_cases hc8 : Int32.toInt v0 = 148
            · have hf := ite_t hc8 hf
              refine lv_lookup (tgt := 94) (off := 93) C0.1 C0.2.1 dX1_joined_1 (by decide) (by rw [hc8]; decide) (by decide) ?_
              refine lv_iload_n C0.1 C0.2.1 dX1_joined_94 rfl (lv_at hl 2 rfl) ?_
              refine lv_if_eq (tgt := 106) C0.1 C0.2.1 dX1_joined_95 (by decide) (fun hc9 => ?_) (fun hc9 => ?_)
              · have hf := ite_t hc9 hf
                refine lv_iconst (v := 0) C0.1 C0.2.1 dX1_joined_106 kI_0 ?_
                obtain rfl := Option.some.inj hf
                exact r_int C0 hK hW dX1_joined_107
              · have hf := ite_f hc9 hf
                refine lv_iload_n C0.1 C0.2.1 dX1_joined_98 rfl (lv_at hl 1 rfl) ?_
                refine lv_if_eq (tgt := 106) C0.1 C0.2.1 dX1_joined_99 (by decide) (fun hc10 => ?_) (fun hc10 => ?_)
                · have hf := ite_t hc10 hf
                  refine lv_iconst (v := 0) C0.1 C0.2.1 dX1_joined_106 kI_0 ?_
                  obtain rfl := Option.some.inj hf
                  exact r_int C0 hK hW dX1_joined_107
                · have hf := ite_f hc10 hf
                  refine lv_iconst (v := 1) C0.1 C0.2.1 dX1_joined_102 kI_1 ?_
                  refine lv_goto (tgt := 107) C0.1 C0.2.1 dX1_joined_103 (by decide) ?_
                  obtain rfl := Option.some.inj hf
                  exact r_int C0 hK hW dX1_joined_107
            · have hf := ite_f hc8 hf
              refine lv_lookup (tgt := 108) (off := 107) C0.1 C0.2.1 dX1_joined_1 (by decide) (by simp [Op.lookupswitch.offset, Ne.symm hc1, Ne.symm hc2, Ne.symm hc3, Ne.symm hc4, Ne.symm hc6, Ne.symm hc8]) (by decide) ?_
              refine lv_iload_n C0.1 C0.2.1 dX1_joined_108 rfl (lv_at hl 2 rfl) ?_
              refine lv_if_ne (tgt := 116) C0.1 C0.2.1 dX1_joined_109 (by decide) (fun hc11 => ?_) (fun hc11 => ?_)
              · have hf := ite_f hc11 hf
                refine lv_iconst (v := 1) C0.1 C0.2.1 dX1_joined_116 kI_1 ?_
                refine lv_goto (tgt := 121) C0.1 C0.2.1 dX1_joined_117 (by decide) ?_
                obtain rfl := Option.some.inj hf
                exact r_int C0 hK hW dX1_joined_121
              · have hf := ite_t hc11 hf
                refine lv_iload_n C0.1 C0.2.1 dX1_joined_112 rfl (lv_at hl 1 rfl) ?_
                refine lv_if_eq (tgt := 120) C0.1 C0.2.1 dX1_joined_113 (by decide) (fun hc12 => ?_) (fun hc12 => ?_)
                · have hf := ite_t hc12 hf
                  refine lv_iconst (v := 0) C0.1 C0.2.1 dX1_joined_120 kI_0 ?_
                  obtain rfl := Option.some.inj hf
                  exact r_int C0 hK hW dX1_joined_121
                · have hf := ite_f hc12 hf
                  refine lv_iconst (v := 1) C0.1 C0.2.1 dX1_joined_116 kI_1 ?_
                  refine lv_goto (tgt := 121) C0.1 C0.2.1 dX1_joined_117 (by decide) ?_
                  obtain rfl := Option.some.inj hf
                  exact r_int C0 hK hW dX1_joined_121
-- X1_allows
def rmX1_allows : Room := { frames := 2, cells := 0, slots := 0, locals := 43 }
def SX1_allows_142 (p : Program) (l : Launch) (e : Env) (s : State) (m : MethodId) (args : Array Value) (below : List Frame) (meth : Method) (c : Code) (D : va_G) (cy : Nat → ClassId) (ad : Nat → Nat) (P : MP) (V : MV) (I : MI) (J : MJ) (A : MI) (B : MJ) (Af : Nat → Prop) (res : Int32 × Int32 × (Nat → Int32)) (k : Int32 → (Nat → Int32) → Int32 → Int32 → Int32 → Int32 → Int32 → Int32 → Option (Int32 × Int32 × (Nat → Int32))) : Prop := ∀ (w_waiting : Int32) (w_stack : (Nat → Int32)) (v1 : Int32) (v2 : Int32) (v3 : Int32) (v4 : Int32) (v5 : Int32) (x0 : Int32) (H : Heap) (locs : List Loc) (ls : Array Slot), wd D (dn cy LY_X1 ad P V (gp I [(0, 2, w_waiting)]) (gp J []) (gm A [(2, w_stack)]) (gm B [])) Af s.heap H locs → lv_has ls 7 [(0, .ref (ad 0)), (1, .int v1), (2, .int v2), (3, .int v3), (4, .int v4), (5, .int v5)] → k w_waiting w_stack v1 v2 v3 v4 v5 x0 = some res → W p l e rmX1_allows s m args below meth c H locs 0 0 (ZQ below D cy (dn cy LY_X1 ad P V (gp I [(0, 2, res.2.1)]) (gp J []) (gm A [(2, res.2.2)]) (gm B [])) (some (.int res.1)) Af args s) (F0 m 142 ls [.int x0, .ref (ad 0)])
def SX1_allows_177 (p : Program) (l : Launch) (e : Env) (s : State) (m : MethodId) (args : Array Value) (below : List Frame) (meth : Method) (c : Code) (D : va_G) (cy : Nat → ClassId) (ad : Nat → Nat) (P : MP) (V : MV) (I : MI) (J : MJ) (A : MI) (B : MJ) (Af : Nat → Prop) (res : Int32 × Int32 × (Nat → Int32)) (k : Int32 → (Nat → Int32) → Int32 → Int32 → Int32 → Int32 → Int32 → Int32 → Option (Int32 × Int32 × (Nat → Int32))) : Prop := ∀ (w_waiting : Int32) (w_stack : (Nat → Int32)) (v1 : Int32) (v2 : Int32) (v3 : Int32) (v4 : Int32) (v5 : Int32) (x0 : Int32) (H : Heap) (locs : List Loc) (ls : Array Slot), wd D (dn cy LY_X1 ad P V (gp I [(0, 2, w_waiting)]) (gp J []) (gm A [(2, w_stack)]) (gm B [])) Af s.heap H locs → lv_has ls 7 [(0, .ref (ad 0)), (1, .int v1), (2, .int v2), (3, .int v3), (4, .int v4), (5, .int v5)] → k w_waiting w_stack v1 v2 v3 v4 v5 x0 = some res → W p l e rmX1_allows s m args below meth c H locs 0 0 (ZQ below D cy (dn cy LY_X1 ad P V (gp I [(0, 2, res.2.1)]) (gp J []) (gm A [(2, res.2.2)]) (gm B [])) (some (.int res.1)) Af args s) (F0 m 177 ls [.int x0, .ref (ad 0)])
def SX1_allows_148 (p : Program) (l : Launch) (e : Env) (s : State) (m : MethodId) (args : Array Value) (below : List Frame) (meth : Method) (c : Code) (D : va_G) (cy : Nat → ClassId) (ad : Nat → Nat) (P : MP) (V : MV) (I : MI) (J : MJ) (A : MI) (B : MJ) (Af : Nat → Prop) (res : Int32 × Int32 × (Nat → Int32)) (k : Int32 → (Nat → Int32) → Int32 → Int32 → Int32 → Int32 → Int32 → Int32 → Option (Int32 × Int32 × (Nat → Int32))) : Prop := ∀ (w_waiting : Int32) (w_stack : (Nat → Int32)) (v1 : Int32) (v2 : Int32) (v3 : Int32) (v4 : Int32) (v5 : Int32) (v6 : Int32) (H : Heap) (locs : List Loc) (ls : Array Slot), wd D (dn cy LY_X1 ad P V (gp I [(0, 2, w_waiting)]) (gp J []) (gm A [(2, w_stack)]) (gm B [])) Af s.heap H locs → lv_has ls 7 [(0, .ref (ad 0)), (1, .int v1), (2, .int v2), (3, .int v3), (4, .int v4), (5, .int v5), (6, .int v6)] → k w_waiting w_stack v1 v2 v3 v4 v5 v6 = some res → W p l e rmX1_allows s m args below meth c H locs 0 0 (ZQ below D cy (dn cy LY_X1 ad P V (gp I [(0, 2, res.2.1)]) (gp J []) (gm A [(2, res.2.2)]) (gm B [])) (some (.int res.1)) Af args s) (F0 m 148 ls [])
def SX1_allows_28 (p : Program) (l : Launch) (e : Env) (s : State) (m : MethodId) (args : Array Value) (below : List Frame) (meth : Method) (c : Code) (D : va_G) (cy : Nat → ClassId) (ad : Nat → Nat) (P : MP) (V : MV) (I : MI) (J : MJ) (A : MI) (B : MJ) (Af : Nat → Prop) (res : Int32 × Int32 × (Nat → Int32)) (k : Int32 → (Nat → Int32) → Int32 → Int32 → Int32 → Int32 → Int32 → Option (Int32 × Int32 × (Nat → Int32))) : Prop := ∀ (w_waiting : Int32) (w_stack : (Nat → Int32)) (v1 : Int32) (v2 : Int32) (v3 : Int32) (v4 : Int32) (v5 : Int32) (H : Heap) (locs : List Loc) (ls : Array Slot), wd D (dn cy LY_X1 ad P V (gp I [(0, 2, w_waiting)]) (gp J []) (gm A [(2, w_stack)]) (gm B [])) Af s.heap H locs → lv_has ls 7 [(0, .ref (ad 0)), (1, .int v1), (2, .int v2), (3, .int v3), (4, .int v4), (5, .int v5)] → k w_waiting w_stack v1 v2 v3 v4 v5 = some res → W p l e rmX1_allows s m args below meth c H locs 0 0 (ZQ below D cy (dn cy LY_X1 ad P V (gp I [(0, 2, res.2.1)]) (gp J []) (gm A [(2, res.2.2)]) (gm B [])) (some (.int res.1)) Af args s) (F0 m 28 ls [])
def fX1_allows_142 (w_length : Int32) (w_code : (Nat → Int32)) (k28 : Int32 → (Nat → Int32) → Int32 → Int32 → Int32 → Int32 → Int32 → Option (Int32 × Int32 × (Nat → Int32))) (w_waiting : Int32) (w_stack : (Nat → Int32)) (v1 : Int32) (v2 : Int32) (v3 : Int32) (v4 : Int32) (v5 : Int32) (x0 : Int32) : Option (Int32 × Int32 × (Nat → Int32)) := Option.bind (fX1_push w_waiting w_stack x0) fun y1 => (k28 y1.1 y1.2 v1 v2 v3 v4 (v5 + 1))
set_option maxHeartbeats 4000000 in
set_option maxRecDepth 100000 in
theorem tX1_allows_142 {p : Program} {l : Launch} {e : Env} {s : State} {m : MethodId} {args : Array Value} {below : List Frame} {meth : Method} {c : Code} {D : va_G} {cy : Nat → ClassId} {ad : Nat → Nat} {P : MP} {V : MV} {I : MI} {J : MJ} {A : MI} {B : MJ} {Af : Nat → Prop} {res : Int32 × Int32 × (Nat → Int32)} (C0 : CX p s m args meth c cX1_allows 7 (some .boolean) RX1) (hK : va_K D vwCl (tyG cy) s) (hN : NWs s) (hA : ∀ q, s.heap.size ≤ q → Af q) {k28 : Int32 → (Nat → Int32) → Int32 → Int32 → Int32 → Int32 → Int32 → Option (Int32 × Int32 × (Nat → Int32))} (hk28 : SX1_allows_28 p l e s m args below meth c D cy ad P V I J A B Af res k28) : SX1_allows_142 p l e s m args below meth c D cy ad P V I J A B Af res (fX1_allows_142 (I 0 4) (A 1) k28) := by
  intro w_waiting w_stack v1 v2 v3 v4 v5 x0 H locs ls hW hl hf
  unfold fX1_allows_142 at hf
  obtain ⟨y1, hy1, hf⟩ := b_some hf
  refine c_Vv C0 hK hN hl.1 hW hA (KX1_push l D cy  ad P V (gp I [(0, 2, w_waiting)]) (gp J []) (gm A [(2, w_stack)]) (gm B []) x0 hy1) (JN_id rfl rfl rfl rfl) (Uw_V uw_572 uw_574 us_17 uw_11 uw_575) rfl rfl hd_X1_push ⟨rfl, rfl⟩ rfl (dn_some LY_X1_0) rfl rfl rfl dX1_allows_142 ⟨Nat.zero_le _, Nat.zero_le _⟩ (fun H locs hW => ?_)
  have hW : wd D (dn cy LY_X1 ad P V (gp I [(0, 2, y1.1)]) (gp J []) (gm A [(2, y1.2)]) (gm B [])) Af s.heap H locs := hW
  refine lv_goto (tgt := 180) C0.1 C0.2.1 dX1_allows_145 (by decide) ?_
  refine lv_iinc (v := (v5 + 1)) (lv' := [(5, .int (v5 + 1)), (0, .ref (ad 0)), (1, .int v1), (2, .int v2), (3, .int v3), (4, .int v4)]) C0.1 C0.2.1 dX1_allows_180 hl (k := 5) rfl (congrArg (fun z => _ + z) kI_1) (by decide) rfl (fun ls hl => ?_)
  refine lv_goto (tgt := 28) C0.1 C0.2.1 dX1_allows_183 (by decide) ?_
  exact hk28 y1.1 y1.2 v1 v2 v3 v4 (v5 + 1) H locs ls hW (lv_sub hl [1, 2, 3, 4, 5, 0] rfl) hf
def fX1_allows_177 (w_length : Int32) (w_code : (Nat → Int32)) (k28 : Int32 → (Nat → Int32) → Int32 → Int32 → Int32 → Int32 → Int32 → Option (Int32 × Int32 × (Nat → Int32))) (w_waiting : Int32) (w_stack : (Nat → Int32)) (v1 : Int32) (v2 : Int32) (v3 : Int32) (v4 : Int32) (v5 : Int32) (x0 : Int32) : Option (Int32 × Int32 × (Nat → Int32)) := Option.bind (fX1_push w_waiting w_stack x0) fun y1 => (k28 y1.1 y1.2 v1 v2 v3 v4 (v5 + 1))
set_option maxHeartbeats 4000000 in
set_option maxRecDepth 100000 in
theorem tX1_allows_177 {p : Program} {l : Launch} {e : Env} {s : State} {m : MethodId} {args : Array Value} {below : List Frame} {meth : Method} {c : Code} {D : va_G} {cy : Nat → ClassId} {ad : Nat → Nat} {P : MP} {V : MV} {I : MI} {J : MJ} {A : MI} {B : MJ} {Af : Nat → Prop} {res : Int32 × Int32 × (Nat → Int32)} (C0 : CX p s m args meth c cX1_allows 7 (some .boolean) RX1) (hK : va_K D vwCl (tyG cy) s) (hN : NWs s) (hA : ∀ q, s.heap.size ≤ q → Af q) {k28 : Int32 → (Nat → Int32) → Int32 → Int32 → Int32 → Int32 → Int32 → Option (Int32 × Int32 × (Nat → Int32))} (hk28 : SX1_allows_28 p l e s m args below meth c D cy ad P V I J A B Af res k28) : SX1_allows_177 p l e s m args below meth c D cy ad P V I J A B Af res (fX1_allows_177 (I 0 4) (A 1) k28) := by
  intro w_waiting w_stack v1 v2 v3 v4 v5 x0 H locs ls hW hl hf
  unfold fX1_allows_177 at hf
  obtain ⟨y1, hy1, hf⟩ := b_some hf
  refine c_Vv C0 hK hN hl.1 hW hA (KX1_push l D cy  ad P V (gp I [(0, 2, w_waiting)]) (gp J []) (gm A [(2, w_stack)]) (gm B []) x0 hy1) (JN_id rfl rfl rfl rfl) (Uw_V uw_572 uw_574 us_17 uw_11 uw_575) rfl rfl hd_X1_push ⟨rfl, rfl⟩ rfl (dn_some LY_X1_0) rfl rfl rfl dX1_allows_177 ⟨Nat.zero_le _, Nat.zero_le _⟩ (fun H locs hW => ?_)
  have hW : wd D (dn cy LY_X1 ad P V (gp I [(0, 2, y1.1)]) (gp J []) (gm A [(2, y1.2)]) (gm B [])) Af s.heap H locs := hW
  refine lv_iinc (v := (v5 + 1)) (lv' := [(5, .int (v5 + 1)), (0, .ref (ad 0)), (1, .int v1), (2, .int v2), (3, .int v3), (4, .int v4)]) C0.1 C0.2.1 dX1_allows_180 hl (k := 5) rfl (congrArg (fun z => _ + z) kI_1) (by decide) rfl (fun ls hl => ?_)
  refine lv_goto (tgt := 28) C0.1 C0.2.1 dX1_allows_183 (by decide) ?_
  exact hk28 y1.1 y1.2 v1 v2 v3 v4 (v5 + 1) H locs ls hW (lv_sub hl [1, 2, 3, 4, 5, 0] rfl) hf
def fX1_allows_148 (w_length : Int32) (w_code : (Nat → Int32)) (k28 : Int32 → (Nat → Int32) → Int32 → Int32 → Int32 → Int32 → Int32 → Option (Int32 × Int32 × (Nat → Int32))) (w_waiting : Int32) (w_stack : (Nat → Int32)) (v1 : Int32) (v2 : Int32) (v3 : Int32) (v4 : Int32) (v5 : Int32) (v6 : Int32) : Option (Int32 × Int32 × (Nat → Int32)) := if 0 ≤ v6 then (Option.bind (fX1_pop w_stack w_waiting) fun y2 => (Option.bind (fX1_pop w_stack y2.2) fun y3 => (Option.bind (fX1_joined v6 y2.1 y3.1) fun y4 => (fX1_allows_177 w_length w_code k28 y3.2 w_stack v1 v2 v3 v4 v5 y4)))) else (bif inb v5 1000 then (fX1_allows_177 w_length w_code k28 w_waiting w_stack v1 v2 v3 v4 v5 (w_code (Int32.toNatClampNeg v5))) else none)
set_option maxHeartbeats 4000000 in
set_option maxRecDepth 100000 in
theorem tX1_allows_148 {p : Program} {l : Launch} {e : Env} {s : State} {m : MethodId} {args : Array Value} {below : List Frame} {meth : Method} {c : Code} {D : va_G} {cy : Nat → ClassId} {ad : Nat → Nat} {P : MP} {V : MV} {I : MI} {J : MJ} {A : MI} {B : MJ} {Af : Nat → Prop} {res : Int32 × Int32 × (Nat → Int32)} (C0 : CX p s m args meth c cX1_allows 7 (some .boolean) RX1) (hK : va_K D vwCl (tyG cy) s) (hN : NWs s) (hA : ∀ q, s.heap.size ≤ q → Af q) {k28 : Int32 → (Nat → Int32) → Int32 → Int32 → Int32 → Int32 → Int32 → Option (Int32 × Int32 × (Nat → Int32))} (hk28 : SX1_allows_28 p l e s m args below meth c D cy ad P V I J A B Af res k28) : SX1_allows_148 p l e s m args below meth c D cy ad P V I J A B Af res (fX1_allows_148 (I 0 4) (A 1) k28) := by
  intro w_waiting w_stack v1 v2 v3 v4 v5 v6 H locs ls hW hl hf
  unfold fX1_allows_148 at hf
  refine lv_aload_n C0.1 C0.2.1 dX1_allows_148 rfl (lv_at hl 0 rfl) ?_
  refine lv_iload C0.1 C0.2.1 dX1_allows_149 (lv_at hl 6 rfl) ?_
  refine lv_if_ge (tgt := 164) C0.1 C0.2.1 dX1_allows_151 (by decide) (fun hc1 => ?_) (fun hc1 => ?_)
  · have hf := ite_t hc1 hf
    refine lv_iload C0.1 C0.2.1 dX1_allows_164 (lv_at hl 6 rfl) ?_
    refine lv_aload_n C0.1 C0.2.1 dX1_allows_166 rfl (lv_at hl 0 rfl) ?_
    obtain ⟨y2, hy2, hf⟩ := b_some hf
    refine c_Vi C0 hK hN hl.1 hW hA (KX1_pop l D cy  ad P V (gp I [(0, 2, w_waiting)]) (gp J []) (gm A [(2, w_stack)]) (gm B [])  hy2) (JN_id rfl rfl rfl rfl) (Uw_V uw_588 uw_590 us_20 uw_11 uw_591) rfl rfl hd_X1_pop ⟨rfl, rfl⟩ rfl (dn_some LY_X1_0) rfl rfl rfl dX1_allows_167 ⟨Nat.zero_le _, Nat.zero_le _⟩ (fun H locs hW => ?_)
    have hW : wd D (dn cy LY_X1 ad P V (gp I [(0, 2, y2.2)]) (gp J []) (gm A [(2, w_stack)]) (gm B [])) Af s.heap H locs := hW
    refine lv_aload_n C0.1 C0.2.1 dX1_allows_170 rfl (lv_at hl 0 rfl) ?_
    obtain ⟨y3, hy3, hf⟩ := b_some hf
    refine c_Vi C0 hK hN hl.1 hW hA (KX1_pop l D cy  ad P V (gp I [(0, 2, y2.2)]) (gp J []) (gm A [(2, w_stack)]) (gm B [])  hy3) (JN_id rfl rfl rfl rfl) (Uw_V uw_588 uw_590 us_20 uw_11 uw_591) rfl rfl hd_X1_pop ⟨rfl, rfl⟩ rfl (dn_some LY_X1_0) rfl rfl rfl dX1_allows_171 ⟨Nat.zero_le _, Nat.zero_le _⟩ (fun H locs hW => ?_)
    have hW : wd D (dn cy LY_X1 ad P V (gp I [(0, 2, y3.2)]) (gp J []) (gm A [(2, w_stack)]) (gm B [])) Af s.heap H locs := hW
    obtain ⟨y4, hy4, hf⟩ := b_some hf
    refine c_Si C0 hK hN hl.1 hW hA (KX1_joined l D cy  (fun q => ad (pl_LY_X1_LY_0_.getD q 0)) (fun q => P (pl_LY_X1_LY_0_.getD q 0)) (fun q => Vx LY_X1 ad V (pl_LY_X1_LY_0_.getD q 0)) (fun q => gp I [(0, 2, y3.2)] (pl_LY_X1_LY_0_.getD q 0)) (fun q => gp J [] (pl_LY_X1_LY_0_.getD q 0)) (fun q => gm A [(2, w_stack)] (pl_LY_X1_LY_0_.getD q 0)) (fun q => gm B [] (pl_LY_X1_LY_0_.getD q 0)) v6 y2.1 y3.1 hy4) (JN_subC (pl := pl_LY_X1_LY_0_) sb_LY_X1_LY_0_ rfl rfl rfl rfl rfl rfl rfl rfl rfl) ⟨uw_657, uw_658, uw_11, uw_659⟩ rfl rfl hd_X1_joined ⟨rfl, rfl⟩ rfl rfl rfl dX1_allows_174 ⟨Nat.zero_le _, Nat.zero_le _⟩ (fun H locs hW => ?_)
    have hW : wd D (dn cy LY_X1 ad P V (gp I [(0, 2, y3.2)]) (gp J []) (gm A [(2, w_stack)]) (gm B [])) Af s.heap H locs := hW
    exact tX1_allows_177 C0 hK hN hA hk28 y3.2 w_stack v1 v2 v3 v4 v5 y4 H locs ls hW (lv_sub hl [0, 1, 2, 3, 4, 5] rfl) hf
  · have hf := ite_f hc1 hf
    refine lv_aload_n C0.1 C0.2.1 dX1_allows_154 rfl (lv_at hl 0 rfl) ?_
    refine s_get (v := .ref (ad 1)) C0 hK hW 0 0 LY_X1_0 rfl fg_X1_9 rfl dX1_allows_155 ?_
    refine lv_iload C0.1 C0.2.1 dX1_allows_158 (lv_at hl 5 rfl) ?_
    obtain ⟨hb5, hf⟩ := g_some hf
    refine s_iald (v := ((A 1) (Int32.toNatClampNeg v5))) C0 hK hW 1 LY_X1_1 hb5 rfl dX1_allows_160 ?_
    refine lv_goto (tgt := 177) C0.1 C0.2.1 dX1_allows_161 (by decide) ?_
    exact tX1_allows_177 C0 hK hN hA hk28 w_waiting w_stack v1 v2 v3 v4 v5 ((A 1) (Int32.toNatClampNeg v5)) H locs ls hW (lv_sub hl [0, 1, 2, 3, 4, 5] rfl) hf
def fX1_allows_28 (w_length : Int32) (w_code : (Nat → Int32)) (k28 : Int32 → (Nat → Int32) → Int32 → Int32 → Int32 → Int32 → Int32 → Option (Int32 × Int32 × (Nat → Int32))) (w_waiting : Int32) (w_stack : (Nat → Int32)) (v1 : Int32) (v2 : Int32) (v3 : Int32) (v4 : Int32) (v5 : Int32) : Option (Int32 × Int32 × (Nat → Int32)) := if w_length ≤ v5 then (Option.bind (fX1_pop w_stack w_waiting) fun y2 => (if y2.1 = 0 then (some (0, y2.2, w_stack)) else (some (1, y2.2, w_stack)))) else (bif inb v5 1000 then (if Int32.toInt ((w_code (Int32.toNatClampNeg v5)) - 10000) = 147 then (Option.bind (fX1_pop w_stack w_waiting) fun y6 => (if y6.1 = 0 then (fX1_allows_142 w_length w_code k28 y6.2 w_stack v1 v2 v3 v4 v5 1) else (fX1_allows_142 w_length w_code k28 y6.2 w_stack v1 v2 v3 v4 v5 0))) else (if Int32.toInt ((w_code (Int32.toNatClampNeg v5)) - 10000) = 150 then (Option.bind (fX1_push w_waiting w_stack v1) fun y9 => (k28 y9.1 y9.2 v1 v2 v3 v4 (v5 + 1))) else (if Int32.toInt ((w_code (Int32.toNatClampNeg v5)) - 10000) = 151 then (Option.bind (fX1_push w_waiting w_stack v2) fun y11 => (k28 y11.1 y11.2 v1 v2 v3 v4 (v5 + 1))) else (if Int32.toInt ((w_code (Int32.toNatClampNeg v5)) - 10000) = 152 then (Option.bind (fX1_push w_waiting w_stack v3) fun y13 => (k28 y13.1 y13.2 v1 v2 v3 v4 (v5 + 1))) else (if Int32.toInt ((w_code (Int32.toNatClampNeg v5)) - 10000) = 153 then (Option.bind (fX1_push w_waiting w_stack v4) fun y15 => (k28 y15.1 y15.2 v1 v2 v3 v4 (v5 + 1))) else (fX1_allows_148 w_length w_code k28 w_waiting w_stack v1 v2 v3 v4 v5 ((w_code (Int32.toNatClampNeg v5)) - 10000))))))) else none)
set_option maxHeartbeats 4000000 in
set_option maxRecDepth 100000 in
theorem tX1_allows_28 {p : Program} {l : Launch} {e : Env} {s : State} {m : MethodId} {args : Array Value} {below : List Frame} {meth : Method} {c : Code} {D : va_G} {cy : Nat → ClassId} {ad : Nat → Nat} {P : MP} {V : MV} {I : MI} {J : MJ} {A : MI} {B : MJ} {Af : Nat → Prop} {res : Int32 × Int32 × (Nat → Int32)} (C0 : CX p s m args meth c cX1_allows 7 (some .boolean) RX1) (hK : va_K D vwCl (tyG cy) s) (hN : NWs s) (hA : ∀ q, s.heap.size ≤ q → Af q) {k28 : Int32 → (Nat → Int32) → Int32 → Int32 → Int32 → Int32 → Int32 → Option (Int32 × Int32 × (Nat → Int32))} (hk28 : SX1_allows_28 p l e s m args below meth c D cy ad P V I J A B Af res k28) : SX1_allows_28 p l e s m args below meth c D cy ad P V I J A B Af res (fX1_allows_28 (I 0 4) (A 1) k28) := by
  intro w_waiting w_stack v1 v2 v3 v4 v5 H locs ls hW hl hf
  unfold fX1_allows_28 at hf
  refine lv_iload C0.1 C0.2.1 dX1_allows_28 (lv_at hl 5 rfl) ?_
  refine lv_aload_n C0.1 C0.2.1 dX1_allows_30 rfl (lv_at hl 0 rfl) ?_
  refine s_get (v := .int (I 0 4)) C0 hK hW 0 4 LY_X1_0 rfl fg_X1_78 rfl dX1_allows_31 ?_
  refine lv_icmp_ge (tgt := 186) C0.1 C0.2.1 dX1_allows_34 (by decide) (fun hc1 => ?_) (fun hc1 => ?_)
  · have hf := ite_t hc1 hf
    refine lv_aload_n C0.1 C0.2.1 dX1_allows_186 rfl (lv_at hl 0 rfl) ?_
    obtain ⟨y2, hy2, hf⟩ := b_some hf
    refine c_Vi C0 hK hN hl.1 hW hA (KX1_pop l D cy  ad P V (gp I [(0, 2, w_waiting)]) (gp J []) (gm A [(2, w_stack)]) (gm B [])  hy2) (JN_id rfl rfl rfl rfl) (Uw_V uw_588 uw_590 us_20 uw_11 uw_591) rfl rfl hd_X1_pop ⟨rfl, rfl⟩ rfl (dn_some LY_X1_0) rfl rfl rfl dX1_allows_187 ⟨Nat.zero_le _, Nat.zero_le _⟩ (fun H locs hW => ?_)
    have hW : wd D (dn cy LY_X1 ad P V (gp I [(0, 2, y2.2)]) (gp J []) (gm A [(2, w_stack)]) (gm B [])) Af s.heap H locs := hW
    refine lv_if_eq (tgt := 197) C0.1 C0.2.1 dX1_allows_190 (by decide) (fun hc3 => ?_) (fun hc3 => ?_)
    · have hf := ite_t hc3 hf
      refine lv_iconst (v := 0) C0.1 C0.2.1 dX1_allows_197 kI_0 ?_
      obtain rfl := Option.some.inj hf
      exact r_bool C0 hK hW (v' := 0) rfl dX1_allows_198
    · have hf := ite_f hc3 hf
      refine lv_iconst (v := 1) C0.1 C0.2.1 dX1_allows_193 kI_1 ?_
      refine lv_goto (tgt := 198) C0.1 C0.2.1 dX1_allows_194 (by decide) ?_
      obtain rfl := Option.some.inj hf
      exact r_bool C0 hK hW (v' := 1) rfl dX1_allows_198
  · have hf := ite_f hc1 hf
    refine lv_aload_n C0.1 C0.2.1 dX1_allows_37 rfl (lv_at hl 0 rfl) ?_
    refine s_get (v := .ref (ad 1)) C0 hK hW 0 0 LY_X1_0 rfl fg_X1_9 rfl dX1_allows_38 ?_
    refine lv_iload C0.1 C0.2.1 dX1_allows_41 (lv_at hl 5 rfl) ?_
    obtain ⟨hb4, hf⟩ := g_some hf
    refine s_iald (v := ((A 1) (Int32.toNatClampNeg v5))) C0 hK hW 1 LY_X1_1 hb4 rfl dX1_allows_43 ?_
    refine lv_sipush (v := 10000) C0.1 C0.2.1 dX1_allows_44 kS_10000 ?_
    refine lv_isub C0.1 C0.2.1 dX1_allows_47 ?_
    refine lv_istore (lv' := [(6, .int (((A 1) (Int32.toNatClampNeg v5)) - 10000)), (0, .ref (ad 0)), (1, .int v1), (2, .int v2), (3, .int v3), (4, .int v4), (5, .int v5)]) C0.1 C0.2.1 dX1_allows_48 hl (by decide) rfl (fun ls hl => ?_)
    refine lv_iload C0.1 C0.2.1 dX1_allows_50 (lv_at hl 0 rfl) ?_
    by_cases hc5 : Int32.toInt (((A 1) (Int32.toNatClampNeg v5)) - 10000) = 147
    · have hf := ite_t hc5 hf
      refine lv_tableIn (tgt := 129) (off := 77) C0.1 C0.2.1 dX1_allows_52 (by omega) (by omega) (by rw [hc5]; rfl) (by decide) ?_
      refine lv_aload_n C0.1 C0.2.1 dX1_allows_129 rfl (lv_at hl 1 rfl) ?_
      refine lv_aload_n C0.1 C0.2.1 dX1_allows_130 rfl (lv_at hl 1 rfl) ?_
      obtain ⟨y6, hy6, hf⟩ := b_some hf
      refine c_Vi C0 hK hN hl.1 hW hA (KX1_pop l D cy  ad P V (gp I [(0, 2, w_waiting)]) (gp J []) (gm A [(2, w_stack)]) (gm B [])  hy6) (JN_id rfl rfl rfl rfl) (Uw_V uw_588 uw_590 us_20 uw_11 uw_591) rfl rfl hd_X1_pop ⟨rfl, rfl⟩ rfl (dn_some LY_X1_0) rfl rfl rfl dX1_allows_131 ⟨Nat.zero_le _, Nat.zero_le _⟩ (fun H locs hW => ?_)
      have hW : wd D (dn cy LY_X1 ad P V (gp I [(0, 2, y6.2)]) (gp J []) (gm A [(2, w_stack)]) (gm B [])) Af s.heap H locs := hW
      refine lv_if_ne (tgt := 141) C0.1 C0.2.1 dX1_allows_134 (by decide) (fun hc7 => ?_) (fun hc7 => ?_)
      · have hf := ite_f hc7 hf
        refine lv_iconst (v := 0) C0.1 C0.2.1 dX1_allows_141 kI_0 ?_
        exact tX1_allows_142 C0 hK hN hA hk28 y6.2 w_stack v1 v2 v3 v4 v5 0 H locs ls hW (lv_sub hl [1, 2, 3, 4, 5, 6] rfl) hf
      · have hf := ite_t hc7 hf
        refine lv_iconst (v := 1) C0.1 C0.2.1 dX1_allows_137 kI_1 ?_
        refine lv_goto (tgt := 142) C0.1 C0.2.1 dX1_allows_138 (by decide) ?_
        exact tX1_allows_142 C0 hK hN hA hk28 y6.2 w_stack v1 v2 v3 v4 v5 1 H locs ls hW (lv_sub hl [1, 2, 3, 4, 5, 6] rfl) hf
    · have hf := ite_f hc5 hf
      by_cases hc8 : Int32.toInt (((A 1) (Int32.toNatClampNeg v5)) - 10000) = 150
      · have hf := ite_t hc8 hf
        refine lv_tableIn (tgt := 96) (off := 44) C0.1 C0.2.1 dX1_allows_52 (by omega) (by omega) (by rw [hc8]; rfl) (by decide) ?_
        refine lv_aload_n C0.1 C0.2.1 dX1_allows_96 rfl (lv_at hl 1 rfl) ?_
        refine lv_iload_n C0.1 C0.2.1 dX1_allows_97 rfl (lv_at hl 2 rfl) ?_
        obtain ⟨y9, hy9, hf⟩ := b_some hf
        refine c_Vv C0 hK hN hl.1 hW hA (KX1_push l D cy  ad P V (gp I [(0, 2, w_waiting)]) (gp J []) (gm A [(2, w_stack)]) (gm B []) v1 hy9) (JN_id rfl rfl rfl rfl) (Uw_V uw_572 uw_574 us_17 uw_11 uw_575) rfl rfl hd_X1_push ⟨rfl, rfl⟩ rfl (dn_some LY_X1_0) rfl rfl rfl dX1_allows_98 ⟨Nat.zero_le _, Nat.zero_le _⟩ (fun H locs hW => ?_)
        have hW : wd D (dn cy LY_X1 ad P V (gp I [(0, 2, y9.1)]) (gp J []) (gm A [(2, y9.2)]) (gm B [])) Af s.heap H locs := hW
        refine lv_goto (tgt := 180) C0.1 C0.2.1 dX1_allows_101 (by decide) ?_
        refine lv_iinc (v := (v5 + 1)) (lv' := [(5, .int (v5 + 1)), (6, .int (((A 1) (Int32.toNatClampNeg v5)) - 10000)), (0, .ref (ad 0)), (1, .int v1), (2, .int v2), (3, .int v3), (4, .int v4)]) C0.1 C0.2.1 dX1_allows_180 hl (k := 6) rfl (congrArg (fun z => _ + z) kI_1) (by decide) rfl (fun ls hl => ?_)
        refine lv_goto (tgt := 28) C0.1 C0.2.1 dX1_allows_183 (by decide) ?_
        exact hk28 y9.1 y9.2 v1 v2 v3 v4 (v5 + 1) H locs ls hW (lv_sub hl [2, 3, 4, 5, 6, 0] rfl) hf
      · have hf := ite_f hc8 hf
        by_cases hc10 : Int32.toInt (((A 1) (Int32.toNatClampNeg v5)) - 10000) = 151
        · have hf := ite_t hc10 hf
          refine lv_tableIn (tgt := 104) (off := 52) C0.1 C0.2.1 dX1_allows_52 (by omega) (by omega) (by rw [hc10]; rfl) (by decide) ?_
          refine lv_aload_n C0.1 C0.2.1 dX1_allows_104 rfl (lv_at hl 1 rfl) ?_
          refine lv_iload_n C0.1 C0.2.1 dX1_allows_105 rfl (lv_at hl 3 rfl) ?_
          obtain ⟨y11, hy11, hf⟩ := b_some hf
          refine c_Vv C0 hK hN hl.1 hW hA (KX1_push l D cy  ad P V (gp I [(0, 2, w_waiting)]) (gp J []) (gm A [(2, w_stack)]) (gm B []) v2 hy11) (JN_id rfl rfl rfl rfl) (Uw_V uw_572 uw_574 us_17 uw_11 uw_575) rfl rfl hd_X1_push ⟨rfl, rfl⟩ rfl (dn_some LY_X1_0) rfl rfl rfl dX1_allows_106 ⟨Nat.zero_le _, Nat.zero_le _⟩ (fun H locs hW => ?_)
          have hW : wd D (dn cy LY_X1 ad P V (gp I [(0, 2, y11.1)]) (gp J []) (gm A [(2, y11.2)]) (gm B [])) Af s.heap H locs := hW
          refine lv_goto (tgt := 180) C0.1 C0.2.1 dX1_allows_109 (by decide) ?_
          refine lv_iinc (v := (v5 + 1)) (lv' := [(5, .int (v5 + 1)), (6, .int (((A 1) (Int32.toNatClampNeg v5)) - 10000)), (0, .ref (ad 0)), (1, .int v1), (2, .int v2), (3, .int v3), (4, .int v4)]) C0.1 C0.2.1 dX1_allows_180 hl (k := 6) rfl (congrArg (fun z => _ + z) kI_1) (by decide) rfl (fun ls hl => ?_)
          refine lv_goto (tgt := 28) C0.1 C0.2.1 dX1_allows_183 (by decide) ?_
          exact hk28 y11.1 y11.2 v1 v2 v3 v4 (v5 + 1) H locs ls hW (lv_sub hl [2, 3, 4, 5, 6, 0] rfl) hf
        · have hf := ite_f hc10 hf
          by_cases hc12 : Int32.toInt (((A 1) (Int32.toNatClampNeg v5)) - 10000) = 152
          · have hf := ite_t hc12 hf
            refine lv_tableIn (tgt := 112) (off := 60) C0.1 C0.2.1 dX1_allows_52 (by omega) (by omega) (by rw [hc12]; rfl) (by decide) ?_
            refine lv_aload_n C0.1 C0.2.1 dX1_allows_112 rfl (lv_at hl 1 rfl) ?_
            refine lv_iload_n C0.1 C0.2.1 dX1_allows_113 rfl (lv_at hl 4 rfl) ?_
            obtain ⟨y13, hy13, hf⟩ := b_some hf
            refine c_Vv C0 hK hN hl.1 hW hA (KX1_push l D cy  ad P V (gp I [(0, 2, w_waiting)]) (gp J []) (gm A [(2, w_stack)]) (gm B []) v3 hy13) (JN_id rfl rfl rfl rfl) (Uw_V uw_572 uw_574 us_17 uw_11 uw_575) rfl rfl hd_X1_push ⟨rfl, rfl⟩ rfl (dn_some LY_X1_0) rfl rfl rfl dX1_allows_114 ⟨Nat.zero_le _, Nat.zero_le _⟩ (fun H locs hW => ?_)
            have hW : wd D (dn cy LY_X1 ad P V (gp I [(0, 2, y13.1)]) (gp J []) (gm A [(2, y13.2)]) (gm B [])) Af s.heap H locs := hW
            refine lv_goto (tgt := 180) C0.1 C0.2.1 dX1_allows_117 (by decide) ?_
            refine lv_iinc (v := (v5 + 1)) (lv' := [(5, .int (v5 + 1)), (6, .int (((A 1) (Int32.toNatClampNeg v5)) - 10000)), (0, .ref (ad 0)), (1, .int v1), (2, .int v2), (3, .int v3), (4, .int v4)]) C0.1 C0.2.1 dX1_allows_180 hl (k := 6) rfl (congrArg (fun z => _ + z) kI_1) (by decide) rfl (fun ls hl => ?_)
            refine lv_goto (tgt := 28) C0.1 C0.2.1 dX1_allows_183 (by decide) ?_
            exact hk28 y13.1 y13.2 v1 v2 v3 v4 (v5 + 1) H locs ls hW (lv_sub hl [2, 3, 4, 5, 6, 0] rfl) hf
          · have hf := ite_f hc12 hf
            by_cases hc14 : Int32.toInt (((A 1) (Int32.toNatClampNeg v5)) - 10000) = 153
            · have hf := ite_t hc14 hf
              refine lv_tableIn (tgt := 120) (off := 68) C0.1 C0.2.1 dX1_allows_52 (by omega) (by omega) (by rw [hc14]; rfl) (by decide) ?_
              refine lv_aload_n C0.1 C0.2.1 dX1_allows_120 rfl (lv_at hl 1 rfl) ?_
              refine lv_iload C0.1 C0.2.1 dX1_allows_121 (lv_at hl 5 rfl) ?_
              obtain ⟨y15, hy15, hf⟩ := b_some hf
              refine c_Vv C0 hK hN hl.1 hW hA (KX1_push l D cy  ad P V (gp I [(0, 2, w_waiting)]) (gp J []) (gm A [(2, w_stack)]) (gm B []) v4 hy15) (JN_id rfl rfl rfl rfl) (Uw_V uw_572 uw_574 us_17 uw_11 uw_575) rfl rfl hd_X1_push ⟨rfl, rfl⟩ rfl (dn_some LY_X1_0) rfl rfl rfl dX1_allows_123 ⟨Nat.zero_le _, Nat.zero_le _⟩ (fun H locs hW => ?_)
              have hW : wd D (dn cy LY_X1 ad P V (gp I [(0, 2, y15.1)]) (gp J []) (gm A [(2, y15.2)]) (gm B [])) Af s.heap H locs := hW
              refine lv_goto (tgt := 180) C0.1 C0.2.1 dX1_allows_126 (by decide) ?_
              refine lv_iinc (v := (v5 + 1)) (lv' := [(5, .int (v5 + 1)), (6, .int (((A 1) (Int32.toNatClampNeg v5)) - 10000)), (0, .ref (ad 0)), (1, .int v1), (2, .int v2), (3, .int v3), (4, .int v4)]) C0.1 C0.2.1 dX1_allows_180 hl (k := 6) rfl (congrArg (fun z => _ + z) kI_1) (by decide) rfl (fun ls hl => ?_)
              refine lv_goto (tgt := 28) C0.1 C0.2.1 dX1_allows_183 (by decide) ?_
              exact hk28 y15.1 y15.2 v1 v2 v3 v4 (v5 + 1) H locs ls hW (lv_sub hl [2, 3, 4, 5, 6, 0] rfl) hf
            · have hf := ite_f hc14 hf
              by_cases hout : (Int32.toInt (((A 1) (Int32.toNatClampNeg v5)) - 10000) < 147 ∨ 153 < Int32.toInt (((A 1) (Int32.toNatClampNeg v5)) - 10000))
              · refine lv_tableOut (tgt := 148) C0.1 C0.2.1 dX1_allows_52 hout (by decide) ?_
                exact tX1_allows_148 C0 hK hN hA hk28 w_waiting w_stack v1 v2 v3 v4 v5 (((A 1) (Int32.toNatClampNeg v5)) - 10000) H locs ls hW (lv_sub hl [1, 2, 3, 4, 5, 6, 0] rfl) hf
              · have hmid : Int32.toInt (((A 1) (Int32.toNatClampNeg v5)) - 10000) = 148 ∨ Int32.toInt (((A 1) (Int32.toNatClampNeg v5)) - 10000) = 149 := by omega
                rcases hmid with hm | hm
                · refine lv_tableIn (tgt := 148) (off := 96) C0.1 C0.2.1 dX1_allows_52 (by omega) (by omega) (by rw [hm]; rfl) (by decide) ?_
                  exact tX1_allows_148 C0 hK hN hA hk28 w_waiting w_stack v1 v2 v3 v4 v5 (((A 1) (Int32.toNatClampNeg v5)) - 10000) H locs ls hW (lv_sub hl [1, 2, 3, 4, 5, 6, 0] rfl) hf
                · refine lv_tableIn (tgt := 148) (off := 96) C0.1 C0.2.1 dX1_allows_52 (by omega) (by omega) (by rw [hm]; rfl) (by decide) ?_
                  exact tX1_allows_148 C0 hK hN hA hk28 w_waiting w_stack v1 v2 v3 v4 v5 (((A 1) (Int32.toNatClampNeg v5)) - 10000) H locs ls hW (lv_sub hl [1, 2, 3, 4, 5, 6, 0] rfl) hf
theorem TX1_allows_28 {p : Program} {l : Launch} {e : Env} {s : State} {m : MethodId} {args : Array Value} {below : List Frame} {meth : Method} {c : Code} {D : va_G} {cy : Nat → ClassId} {ad : Nat → Nat} {P : MP} {V : MV} {I : MI} {J : MJ} {A : MI} {B : MJ} {Af : Nat → Prop} {res : Int32 × Int32 × (Nat → Int32)} (C0 : CX p s m args meth c cX1_allows 7 (some .boolean) RX1) (hK : va_K D vwCl (tyG cy) s) (hN : NWs s) (hA : ∀ q, s.heap.size ≤ q → Af q) : ∀ n, SX1_allows_28 p l e s m args below meth c D cy ad P V I J A B Af res (itr (fun kk => fX1_allows_28 (I 0 4) (A 1) kk) (fun _ _ _ _ _ _ _ => none) n) := by
  intro n
  induction n with
  | zero => intro w_waiting w_stack v1 v2 v3 v4 v5 H locs ls hW hl hf; exact (nomatch (show (none : Option (Int32 × Int32 × (Nat → Int32))) = some res from hf))
  | succ n ih => exact tX1_allows_28 C0 hK hN hA  ih
def fX1_allows (w_length : Int32) (w_code : (Nat → Int32)) (w_waiting : Int32) (w_stack : (Nat → Int32)) (v1 : Int32) (v2 : Int32) (v3 : Int32) (v4 : Int32) : Option (Int32 × Int32 × (Nat → Int32)) := if w_length = 0 then (if v1 ≤ (v2 * 4) then (some (0, w_waiting, w_stack)) else (some (1, w_waiting, w_stack))) else (itr (fun kk => fX1_allows_28 w_length w_code kk) (fun _ _ _ _ _ _ _ => none) FU 0 w_stack v1 v2 v3 v4 0)
set_option maxHeartbeats 4000000 in
set_option maxRecDepth 100000 in
theorem KX1_allows (l : Launch) (D : va_G) (cy : Nat → ClassId) (ad : Nat → Nat) (P : MP) (V : MV) (I : MI) (J : MJ) (A : MI) (B : MJ) (v1 : Int32) (v2 : Int32) (v3 : Int32) (v4 : Int32) {res : Int32 × Int32 × (Nat → Int32)} (hf : fX1_allows (I 0 4) (A 1) (I 0 2) (A 2) v1 v2 v3 v4 = some res) : CG l yX1_allows cX1_allows 7 (some .boolean) rmX1_allows D cy (dn cy LY_X1 ad P V I J A B) [.ref (ad 0), .int v1, .int v2, .int v3, .int v4] (some (.int res.1)) (dn cy LY_X1 ad P V (gp I [(0, 2, res.2.1)]) (gp J []) (gm A [(2, res.2.2)]) (gm B [])) := by
  refine CG.of (own := RX1) (by decide) rfl rfl ?_
  intro p e s m below meth c ls Af C0 hK hN hA hW hl
  have hW : wd D (dn cy LY_X1 ad P V (gp I [(0, 2, (I 0 2))]) (gp J []) (gm A [(2, (A 2))]) (gm B [])) Af s.heap s.heap [] := wd_sel [(0, 2)] [] [2] [] hW
  have hl : lv_has ls 7 [(0, .ref (ad 0)), (1, .int v1), (2, .int v2), (3, .int v3), (4, .int v4)] := hl
  unfold fX1_allows at hf
  refine lv_aload_n C0.1 C0.2.1 dX1_allows_0 rfl (lv_at hl 0 rfl) ?_
  refine s_get (v := .int (I 0 4)) C0 hK hW 0 4 LY_X1_0 rfl fg_X1_78 rfl dX1_allows_1 ?_
  refine lv_if_ne (tgt := 20) C0.1 C0.2.1 dX1_allows_4 (by decide) (fun hc1 => ?_) (fun hc1 => ?_)
  · have hf := ite_f hc1 hf
    refine lv_aload_n C0.1 C0.2.1 dX1_allows_20 rfl (lv_at hl 0 rfl) ?_
    refine lv_iconst (v := 0) C0.1 C0.2.1 dX1_allows_21 kI_0 ?_
    refine s_putI C0 hK hW 0 2 LY_X1_0 rfl fg_X1_18 fp_X1_2 rfl dX1_allows_22 (fun H locs hW => ?_)
    have hW : wd D (dn cy LY_X1 ad P V (gp I [(0, 2, 0)]) (gp J []) (gm A [(2, (A 2))]) (gm B [])) Af s.heap H locs := hW
    refine lv_iconst (v := 0) C0.1 C0.2.1 dX1_allows_25 kI_0 ?_
    refine lv_istore (lv' := [(5, .int 0), (0, .ref (ad 0)), (1, .int v1), (2, .int v2), (3, .int v3), (4, .int v4)]) C0.1 C0.2.1 dX1_allows_26 hl (by decide) rfl (fun ls hl => ?_)
    exact TX1_allows_28 C0 hK hN hA  FU 0 (A 2) v1 v2 v3 v4 0 _ _ ls hW (lv_sub hl [1, 2, 3, 4, 5, 0] rfl) hf
  · have hf := ite_t hc1 hf
    refine lv_iload_n C0.1 C0.2.1 dX1_allows_7 rfl (lv_at hl 2 rfl) ?_
    refine lv_iconst (v := 4) C0.1 C0.2.1 dX1_allows_8 kI_4 ?_
    refine lv_imul C0.1 C0.2.1 dX1_allows_9 ?_
    refine lv_iload_n C0.1 C0.2.1 dX1_allows_10 rfl (lv_at hl 1 rfl) ?_
    refine lv_icmp_ge (tgt := 18) C0.1 C0.2.1 dX1_allows_11 (by decide) (fun hc2 => ?_) (fun hc2 => ?_)
    · have hf := ite_t hc2 hf
      refine lv_iconst (v := 0) C0.1 C0.2.1 dX1_allows_18 kI_0 ?_
      obtain rfl := Option.some.inj hf
      exact r_bool C0 hK hW (v' := 0) rfl dX1_allows_19
    · have hf := ite_f hc2 hf
      refine lv_iconst (v := 1) C0.1 C0.2.1 dX1_allows_14 kI_1 ?_
      refine lv_goto (tgt := 19) C0.1 C0.2.1 dX1_allows_15 (by decide) ?_
      obtain rfl := Option.some.inj hf
      exact r_bool C0 hK hW (v' := 1) rfl dX1_allows_19
-- X4_streetBits
def rmX4_streetBits : Room := { frames := 1, cells := 0, slots := 0, locals := 21 }
def SX4_streetBits_4 (p : Program) (l : Launch) (e : Env) (s : State) (m : MethodId) (args : Array Value) (below : List Frame) (meth : Method) (c : Code) (D : va_G) (cy : Nat → ClassId) (ad : Nat → Nat) (P : MP) (V : MV) (I : MI) (J : MJ) (A : MI) (B : MJ) (Af : Nat → Prop) (res : Int32) (k : Int32 → Int32 → Option (Int32)) : Prop := ∀ (v2 : Int32) (v3 : Int32) (H : Heap) (locs : List Loc) (ls : Array Slot), wd D (dn cy LY_X4X6 ad P V (gp I []) (gp J []) (gm A []) (gm B [])) Af s.heap H locs → lv_has ls 4 [(0, .ref (ad 0)), (1, .ref (ad 3)), (2, .int v2), (3, .int v3)] → k v2 v3 = some res → W p l e rmX4_streetBits s m args below meth c H locs 0 0 (ZQ below D cy (dn cy LY_X4X6 ad P V (gp I []) (gp J []) (gm A []) (gm B [])) (some (.int res)) Af args s) (F0 m 4 ls [])
def fX4_streetBits_4 (s_seized : Int32) (t_holes : Int32) (t_guests : Int32) (s_inside : (Nat → Int32)) (k4 : Int32 → Int32 → Option (Int32)) (v2 : Int32) (v3 : Int32) : Option (Int32) := if t_holes ≤ v3 then (some (((((1 <<< (t_guests &&& 31)) - 1) &&& (v2 ^^^ (-1))) &&& (s_seized ^^^ (-1))))) else (bif inb v3 5 then (k4 (v2 ||| (s_inside (Int32.toNatClampNeg v3))) (v3 + 1)) else none)
set_option maxHeartbeats 4000000 in
set_option maxRecDepth 100000 in
theorem tX4_streetBits_4 {p : Program} {l : Launch} {e : Env} {s : State} {m : MethodId} {args : Array Value} {below : List Frame} {meth : Method} {c : Code} {D : va_G} {cy : Nat → ClassId} {ad : Nat → Nat} {P : MP} {V : MV} {I : MI} {J : MJ} {A : MI} {B : MJ} {Af : Nat → Prop} {res : Int32} (C0 : CX p s m args meth c cX4_streetBits 4 (some .int) RX4) (hK : va_K D vwCl (tyG cy) s) (hN : NWs s) (hA : ∀ q, s.heap.size ≤ q → Af q) {k4 : Int32 → Int32 → Option (Int32)} (hk4 : SX4_streetBits_4 p l e s m args below meth c D cy ad P V I J A B Af res k4) : SX4_streetBits_4 p l e s m args below meth c D cy ad P V I J A B Af res (fX4_streetBits_4 (I 0 2) (I 3 13) (I 3 14) (A 2) k4) := by
  intro v2 v3 H locs ls hW hl hf
  unfold fX4_streetBits_4 at hf
  refine lv_iload_n C0.1 C0.2.1 dX4_streetBits_4 rfl (lv_at hl 3 rfl) ?_
  refine lv_aload_n C0.1 C0.2.1 dX4_streetBits_5 rfl (lv_at hl 1 rfl) ?_
  refine s_get (v := .int (I 3 13)) C0 hK hW 3 13 LY_X4X6_3 rfl fg_X4_33 rfl dX4_streetBits_6 ?_
  refine lv_icmp_ge (tgt := 27) C0.1 C0.2.1 dX4_streetBits_9 (by decide) (fun hc1 => ?_) (fun hc1 => ?_)
  · have hf := ite_t hc1 hf
    refine lv_iconst (v := 1) C0.1 C0.2.1 dX4_streetBits_27 kI_1 ?_
    refine lv_aload_n C0.1 C0.2.1 dX4_streetBits_28 rfl (lv_at hl 1 rfl) ?_
    refine s_get (v := .int (I 3 14)) C0 hK hW 3 14 LY_X4X6_3 rfl fg_X4_36 rfl dX4_streetBits_29 ?_
    refine lv_ishl C0.1 C0.2.1 dX4_streetBits_32 ?_
    refine lv_iconst (v := 1) C0.1 C0.2.1 dX4_streetBits_33 kI_1 ?_
    refine lv_isub C0.1 C0.2.1 dX4_streetBits_34 ?_
    refine lv_iload_n C0.1 C0.2.1 dX4_streetBits_35 rfl (lv_at hl 2 rfl) ?_
    refine lv_iconst (v := (-1)) C0.1 C0.2.1 dX4_streetBits_36 kI_m1 ?_
    refine lv_ixor C0.1 C0.2.1 dX4_streetBits_37 ?_
    refine lv_iand C0.1 C0.2.1 dX4_streetBits_38 ?_
    refine lv_aload_n C0.1 C0.2.1 dX4_streetBits_39 rfl (lv_at hl 0 rfl) ?_
    refine s_get (v := .int (I 0 2)) C0 hK hW 0 2 LY_X4X6_0 rfl fg_X4_23 rfl dX4_streetBits_40 ?_
    refine lv_iconst (v := (-1)) C0.1 C0.2.1 dX4_streetBits_43 kI_m1 ?_
    refine lv_ixor C0.1 C0.2.1 dX4_streetBits_44 ?_
    refine lv_iand C0.1 C0.2.1 dX4_streetBits_45 ?_
    obtain rfl := Option.some.inj hf
    exact r_int C0 hK hW dX4_streetBits_46
  · have hf := ite_f hc1 hf
    refine lv_iload_n C0.1 C0.2.1 dX4_streetBits_12 rfl (lv_at hl 2 rfl) ?_
    refine lv_aload_n C0.1 C0.2.1 dX4_streetBits_13 rfl (lv_at hl 0 rfl) ?_
    refine s_get (v := .ref (ad 2)) C0 hK hW 0 1 LY_X4X6_0 rfl fg_X4_15 rfl dX4_streetBits_14 ?_
    refine lv_iload_n C0.1 C0.2.1 dX4_streetBits_17 rfl (lv_at hl 3 rfl) ?_
    obtain ⟨hb2, hf⟩ := g_some hf
    refine s_iald (v := ((A 2) (Int32.toNatClampNeg v3))) C0 hK hW 2 LY_X4X6_2 hb2 rfl dX4_streetBits_18 ?_
    refine lv_ior C0.1 C0.2.1 dX4_streetBits_19 ?_
    refine lv_istore_n (lv' := [(2, .int (v2 ||| ((A 2) (Int32.toNatClampNeg v3)))), (0, .ref (ad 0)), (1, .ref (ad 3)), (3, .int v3)]) C0.1 C0.2.1 dX4_streetBits_20 rfl hl (by decide) rfl (fun ls hl => ?_)
    refine lv_iinc (v := (v3 + 1)) (lv' := [(3, .int (v3 + 1)), (2, .int (v2 ||| ((A 2) (Int32.toNatClampNeg v3)))), (0, .ref (ad 0)), (1, .ref (ad 3))]) C0.1 C0.2.1 dX4_streetBits_21 hl (k := 3) rfl (congrArg (fun z => _ + z) kI_1) (by decide) rfl (fun ls hl => ?_)
    refine lv_goto (tgt := 4) C0.1 C0.2.1 dX4_streetBits_24 (by decide) ?_
    exact hk4 (v2 ||| ((A 2) (Int32.toNatClampNeg v3))) (v3 + 1) H locs ls hW (lv_sub hl [2, 3, 1, 0] rfl) hf
theorem TX4_streetBits_4 {p : Program} {l : Launch} {e : Env} {s : State} {m : MethodId} {args : Array Value} {below : List Frame} {meth : Method} {c : Code} {D : va_G} {cy : Nat → ClassId} {ad : Nat → Nat} {P : MP} {V : MV} {I : MI} {J : MJ} {A : MI} {B : MJ} {Af : Nat → Prop} {res : Int32} (C0 : CX p s m args meth c cX4_streetBits 4 (some .int) RX4) (hK : va_K D vwCl (tyG cy) s) (hN : NWs s) (hA : ∀ q, s.heap.size ≤ q → Af q) : ∀ n, SX4_streetBits_4 p l e s m args below meth c D cy ad P V I J A B Af res (itr (fun kk => fX4_streetBits_4 (I 0 2) (I 3 13) (I 3 14) (A 2) kk) (fun _ _ => none) n) := by
  intro n
  induction n with
  | zero => intro v2 v3 H locs ls hW hl hf; exact (nomatch (show (none : Option (Int32)) = some res from hf))
  | succ n ih => exact tX4_streetBits_4 C0 hK hN hA  ih
def fX4_streetBits (s_seized : Int32) (t_holes : Int32) (t_guests : Int32) (s_inside : (Nat → Int32)) : Option (Int32) := itr (fun kk => fX4_streetBits_4 s_seized t_holes t_guests s_inside kk) (fun _ _ => none) FU 0 0
set_option maxHeartbeats 4000000 in
set_option maxRecDepth 100000 in
theorem KX4_streetBits (l : Launch) (D : va_G) (cy : Nat → ClassId) (ad : Nat → Nat) (P : MP) (V : MV) (I : MI) (J : MJ) (A : MI) (B : MJ) {res : Int32} (hf : fX4_streetBits (I 0 2) (I 3 13) (I 3 14) (A 2) = some res) : CG l yX4_streetBits cX4_streetBits 4 (some .int) rmX4_streetBits D cy (dn cy LY_X4X6 ad P V I J A B) [.ref (ad 0), .ref (ad 3)] (some (.int res)) (dn cy LY_X4X6 ad P V (gp I []) (gp J []) (gm A []) (gm B [])) := by
  refine CG.of (own := RX4) (by decide) rfl rfl ?_
  intro p e s m below meth c ls Af C0 hK hN hA hW hl
  have hW : wd D (dn cy LY_X4X6 ad P V (gp I []) (gp J []) (gm A []) (gm B [])) Af s.heap s.heap [] := wd_sel [] [] [] [] hW
  have hl : lv_has ls 4 [(0, .ref (ad 0)), (1, .ref (ad 3))] := hl
  unfold fX4_streetBits at hf
  refine lv_iconst (v := 0) C0.1 C0.2.1 dX4_streetBits_0 kI_0 ?_
  refine lv_istore_n (lv' := [(2, .int 0), (0, .ref (ad 0)), (1, .ref (ad 3))]) C0.1 C0.2.1 dX4_streetBits_1 rfl hl (by decide) rfl (fun ls hl => ?_)
  refine lv_iconst (v := 0) C0.1 C0.2.1 dX4_streetBits_2 kI_0 ?_
  refine lv_istore_n (lv' := [(3, .int 0), (2, .int 0), (0, .ref (ad 0)), (1, .ref (ad 3))]) C0.1 C0.2.1 dX4_streetBits_3 rfl hl (by decide) rfl (fun ls hl => ?_)
  exact TX4_streetBits_4 C0 hK hN hA  FU 0 0 _ _ ls hW (lv_sub hl [2, 3, 1, 0] rfl) hf
-- X4_lastingBits
def rmX4_lastingBits : Room := { frames := 1, cells := 0, slots := 0, locals := 21 }
def SX4_lastingBits_5 (p : Program) (l : Launch) (e : Env) (s : State) (m : MethodId) (args : Array Value) (below : List Frame) (meth : Method) (c : Code) (D : va_G) (cy : Nat → ClassId) (ad : Nat → Nat) (P : MP) (V : MV) (I : MI) (J : MJ) (A : MI) (B : MJ) (Af : Nat → Prop) (res : Int32) (k : Int32 → Int32 → Int32 → Option (Int32)) : Prop := ∀ (v2 : Int32) (v3 : Int32) (v4 : Int32) (H : Heap) (locs : List Loc) (ls : Array Slot), wd D (dn cy LY_X4X6 ad P V (gp I []) (gp J []) (gm A []) (gm B [])) Af s.heap H locs → lv_has ls 5 [(0, .ref (ad 0)), (1, .ref (ad 3)), (2, .int v2), (3, .int v3), (4, .int v4)] → k v2 v3 v4 = some res → W p l e rmX4_lastingBits s m args below meth c H locs 0 0 (ZQ below D cy (dn cy LY_X4X6 ad P V (gp I []) (gp J []) (gm A []) (gm B [])) (some (.int res)) Af args s) (F0 m 5 ls [])
def fX4_lastingBits_5 (t_holes : Int32) (s_coal : (Nat → Int32)) (t_burns : (Nat → Int32)) (k5 : Int32 → Int32 → Int32 → Option (Int32)) (v2 : Int32) (v3 : Int32) (v4 : Int32) : Option (Int32) := if t_holes ≤ v4 then (some (v3)) else (bif inb v4 5 then (bif inb v4 5 then (if (s_coal (Int32.toNatClampNeg v4)) ≤ ((t_burns (Int32.toNatClampNeg v4)) * v2) then (k5 v2 (v3 ||| 0) (v4 + 1)) else (k5 v2 (v3 ||| (1 <<< (v4 &&& 31))) (v4 + 1))) else none) else none)
set_option maxHeartbeats 4000000 in
set_option maxRecDepth 100000 in
theorem tX4_lastingBits_5 {p : Program} {l : Launch} {e : Env} {s : State} {m : MethodId} {args : Array Value} {below : List Frame} {meth : Method} {c : Code} {D : va_G} {cy : Nat → ClassId} {ad : Nat → Nat} {P : MP} {V : MV} {I : MI} {J : MJ} {A : MI} {B : MJ} {Af : Nat → Prop} {res : Int32} (C0 : CX p s m args meth c cX4_lastingBits 5 (some .int) RX4) (hK : va_K D vwCl (tyG cy) s) (hN : NWs s) (hA : ∀ q, s.heap.size ≤ q → Af q) {k5 : Int32 → Int32 → Int32 → Option (Int32)} (hk5 : SX4_lastingBits_5 p l e s m args below meth c D cy ad P V I J A B Af res k5) : SX4_lastingBits_5 p l e s m args below meth c D cy ad P V I J A B Af res (fX4_lastingBits_5 (I 3 13) (A 1) (A 10) k5) := by
  intro v2 v3 v4 H locs ls hW hl hf
  unfold fX4_lastingBits_5 at hf
  refine lv_iload C0.1 C0.2.1 dX4_lastingBits_5 (lv_at hl 4 rfl) ?_
  refine lv_aload_n C0.1 C0.2.1 dX4_lastingBits_7 rfl (lv_at hl 1 rfl) ?_
  refine s_get (v := .int (I 3 13)) C0 hK hW 3 13 LY_X4X6_3 rfl fg_X4_33 rfl dX4_lastingBits_8 ?_
  refine lv_icmp_ge (tgt := 50) C0.1 C0.2.1 dX4_lastingBits_11 (by decide) (fun hc1 => ?_) (fun hc1 => ?_)
  · have hf := ite_t hc1 hf
    refine lv_iload_n C0.1 C0.2.1 dX4_lastingBits_50 rfl (lv_at hl 3 rfl) ?_
    obtain rfl := Option.some.inj hf
    exact r_int C0 hK hW dX4_lastingBits_51
  · have hf := ite_f hc1 hf
    refine lv_iload_n C0.1 C0.2.1 dX4_lastingBits_14 rfl (lv_at hl 3 rfl) ?_
    refine lv_aload_n C0.1 C0.2.1 dX4_lastingBits_15 rfl (lv_at hl 0 rfl) ?_
    refine s_get (v := .ref (ad 1)) C0 hK hW 0 0 LY_X4X6_0 rfl fg_X4_9 rfl dX4_lastingBits_16 ?_
    refine lv_iload C0.1 C0.2.1 dX4_lastingBits_19 (lv_at hl 4 rfl) ?_
    obtain ⟨hb2, hf⟩ := g_some hf
    refine s_iald (v := ((A 1) (Int32.toNatClampNeg v4))) C0 hK hW 1 LY_X4X6_1 hb2 rfl dX4_lastingBits_21 ?_
    refine lv_aload_n C0.1 C0.2.1 dX4_lastingBits_22 rfl (lv_at hl 1 rfl) ?_
    refine s_get (v := .ref (ad 10)) C0 hK hW 3 7 LY_X4X6_3 rfl fg_X4_111 rfl dX4_lastingBits_23 ?_
    refine lv_iload C0.1 C0.2.1 dX4_lastingBits_26 (lv_at hl 4 rfl) ?_
    obtain ⟨hb3, hf⟩ := g_some hf
    refine s_iald (v := ((A 10) (Int32.toNatClampNeg v4))) C0 hK hW 10 LY_X4X6_10 hb3 rfl dX4_lastingBits_28 ?_
    refine lv_iload_n C0.1 C0.2.1 dX4_lastingBits_29 rfl (lv_at hl 2 rfl) ?_
    refine lv_imul C0.1 C0.2.1 dX4_lastingBits_30 ?_
    refine lv_icmp_le (tgt := 41) C0.1 C0.2.1 dX4_lastingBits_31 (by decide) (fun hc4 => ?_) (fun hc4 => ?_)
    · have hf := ite_t hc4 hf
      refine lv_iconst (v := 0) C0.1 C0.2.1 dX4_lastingBits_41 kI_0 ?_
      refine lv_ior C0.1 C0.2.1 dX4_lastingBits_42 ?_
      refine lv_istore_n (lv' := [(3, .int (v3 ||| 0)), (0, .ref (ad 0)), (1, .ref (ad 3)), (2, .int v2), (4, .int v4)]) C0.1 C0.2.1 dX4_lastingBits_43 rfl hl (by decide) rfl (fun ls hl => ?_)
      refine lv_iinc (v := (v4 + 1)) (lv' := [(4, .int (v4 + 1)), (3, .int (v3 ||| 0)), (0, .ref (ad 0)), (1, .ref (ad 3)), (2, .int v2)]) C0.1 C0.2.1 dX4_lastingBits_44 hl (k := 4) rfl (congrArg (fun z => _ + z) kI_1) (by decide) rfl (fun ls hl => ?_)
      refine lv_goto (tgt := 5) C0.1 C0.2.1 dX4_lastingBits_47 (by decide) ?_
      exact hk5 v2 (v3 ||| 0) (v4 + 1) H locs ls hW (lv_sub hl [2, 3, 4, 1, 0] rfl) hf
    · have hf := ite_f hc4 hf
      refine lv_iconst (v := 1) C0.1 C0.2.1 dX4_lastingBits_34 kI_1 ?_
      refine lv_iload C0.1 C0.2.1 dX4_lastingBits_35 (lv_at hl 4 rfl) ?_
      refine lv_ishl C0.1 C0.2.1 dX4_lastingBits_37 ?_
      refine lv_goto (tgt := 42) C0.1 C0.2.1 dX4_lastingBits_38 (by decide) ?_
      refine lv_ior C0.1 C0.2.1 dX4_lastingBits_42 ?_
      refine lv_istore_n (lv' := [(3, .int (v3 ||| (1 <<< (v4 &&& 31)))), (0, .ref (ad 0)), (1, .ref (ad 3)), (2, .int v2), (4, .int v4)]) C0.1 C0.2.1 dX4_lastingBits_43 rfl hl (by decide) rfl (fun ls hl => ?_)
      refine lv_iinc (v := (v4 + 1)) (lv' := [(4, .int (v4 + 1)), (3, .int (v3 ||| (1 <<< (v4 &&& 31)))), (0, .ref (ad 0)), (1, .ref (ad 3)), (2, .int v2)]) C0.1 C0.2.1 dX4_lastingBits_44 hl (k := 4) rfl (congrArg (fun z => _ + z) kI_1) (by decide) rfl (fun ls hl => ?_)
      refine lv_goto (tgt := 5) C0.1 C0.2.1 dX4_lastingBits_47 (by decide) ?_
      exact hk5 v2 (v3 ||| (1 <<< (v4 &&& 31))) (v4 + 1) H locs ls hW (lv_sub hl [2, 3, 4, 1, 0] rfl) hf
theorem TX4_lastingBits_5 {p : Program} {l : Launch} {e : Env} {s : State} {m : MethodId} {args : Array Value} {below : List Frame} {meth : Method} {c : Code} {D : va_G} {cy : Nat → ClassId} {ad : Nat → Nat} {P : MP} {V : MV} {I : MI} {J : MJ} {A : MI} {B : MJ} {Af : Nat → Prop} {res : Int32} (C0 : CX p s m args meth c cX4_lastingBits 5 (some .int) RX4) (hK : va_K D vwCl (tyG cy) s) (hN : NWs s) (hA : ∀ q, s.heap.size ≤ q → Af q) : ∀ n, SX4_lastingBits_5 p l e s m args below meth c D cy ad P V I J A B Af res (itr (fun kk => fX4_lastingBits_5 (I 3 13) (A 1) (A 10) kk) (fun _ _ _ => none) n) := by
  intro n
  induction n with
  | zero => intro v2 v3 v4 H locs ls hW hl hf; exact (nomatch (show (none : Option (Int32)) = some res from hf))
  | succ n ih => exact tX4_lastingBits_5 C0 hK hN hA  ih
def fX4_lastingBits (t_holes : Int32) (s_coal : (Nat → Int32)) (t_burns : (Nat → Int32)) (v2 : Int32) : Option (Int32) := itr (fun kk => fX4_lastingBits_5 t_holes s_coal t_burns kk) (fun _ _ _ => none) FU v2 0 0
set_option maxHeartbeats 4000000 in
set_option maxRecDepth 100000 in
theorem KX4_lastingBits (l : Launch) (D : va_G) (cy : Nat → ClassId) (ad : Nat → Nat) (P : MP) (V : MV) (I : MI) (J : MJ) (A : MI) (B : MJ) (v2 : Int32) {res : Int32} (hf : fX4_lastingBits (I 3 13) (A 1) (A 10) v2 = some res) : CG l yX4_lastingBits cX4_lastingBits 5 (some .int) rmX4_lastingBits D cy (dn cy LY_X4X6 ad P V I J A B) [.ref (ad 0), .ref (ad 3), .int v2] (some (.int res)) (dn cy LY_X4X6 ad P V (gp I []) (gp J []) (gm A []) (gm B [])) := by
  refine CG.of (own := RX4) (by decide) rfl rfl ?_
  intro p e s m below meth c ls Af C0 hK hN hA hW hl
  have hW : wd D (dn cy LY_X4X6 ad P V (gp I []) (gp J []) (gm A []) (gm B [])) Af s.heap s.heap [] := wd_sel [] [] [] [] hW
  have hl : lv_has ls 5 [(0, .ref (ad 0)), (1, .ref (ad 3)), (2, .int v2)] := hl
  unfold fX4_lastingBits at hf
  refine lv_iconst (v := 0) C0.1 C0.2.1 dX4_lastingBits_0 kI_0 ?_
  refine lv_istore_n (lv' := [(3, .int 0), (0, .ref (ad 0)), (1, .ref (ad 3)), (2, .int v2)]) C0.1 C0.2.1 dX4_lastingBits_1 rfl hl (by decide) rfl (fun ls hl => ?_)
  refine lv_iconst (v := 0) C0.1 C0.2.1 dX4_lastingBits_2 kI_0 ?_
  refine lv_istore (lv' := [(4, .int 0), (3, .int 0), (0, .ref (ad 0)), (1, .ref (ad 3)), (2, .int v2)]) C0.1 C0.2.1 dX4_lastingBits_3 hl (by decide) rfl (fun ls hl => ?_)
  exact TX4_lastingBits_5 C0 hK hN hA  FU v2 0 0 _ _ ls hW (lv_sub hl [2, 3, 4, 1, 0] rfl) hf
-- X4_seizedIfLasting
def rmX4_seizedIfLasting : Room := { frames := 2, cells := 0, slots := 0, locals := 44 }
def SX4_seizedIfLasting_9 (p : Program) (l : Launch) (e : Env) (s : State) (m : MethodId) (args : Array Value) (below : List Frame) (meth : Method) (c : Code) (D : va_G) (cy : Nat → ClassId) (ad : Nat → Nat) (P : MP) (V : MV) (I : MI) (J : MJ) (A : MI) (B : MJ) (Af : Nat → Prop) (res : Int32) (k : Int32 → Int32 → Int32 → Option (Int32)) : Prop := ∀ (v2 : Int32) (v3 : Int32) (v4 : Int32) (H : Heap) (locs : List Loc) (ls : Array Slot), wd D (dn cy LY_X4X6 ad P V (gp I []) (gp J []) (gm A []) (gm B [])) Af s.heap H locs → lv_has ls 5 [(0, .ref (ad 0)), (1, .ref (ad 3)), (2, .int v2), (3, .int v3), (4, .int v4)] → k v2 v3 v4 = some res → W p l e rmX4_seizedIfLasting s m args below meth c H locs 0 0 (ZQ below D cy (dn cy LY_X4X6 ad P V (gp I []) (gp J []) (gm A []) (gm B [])) (some (.int res)) Af args s) (F0 m 9 ls [])
def fX4_seizedIfLasting_9 (s_seized : Int32) (t_holes : Int32) (t_guests : Int32) (t_wantedBits : Int32) (s_inside : (Nat → Int32)) (k9 : Int32 → Int32 → Int32 → Option (Int32)) (v2 : Int32) (v3 : Int32) (v4 : Int32) : Option (Int32) := if t_holes ≤ v4 then (some ((s_seized ||| (v3 &&& t_wantedBits)))) else (if ((v2 >>> (v4 &&& 31)) &&& 1) = 0 then (bif inb v4 5 then (k9 v2 (v3 ||| (s_inside (Int32.toNatClampNeg v4))) (v4 + 1)) else none) else (k9 v2 (v3 ||| 0) (v4 + 1)))
set_option maxHeartbeats 4000000 in
set_option maxRecDepth 100000 in
theorem tX4_seizedIfLasting_9 {p : Program} {l : Launch} {e : Env} {s : State} {m : MethodId} {args : Array Value} {below : List Frame} {meth : Method} {c : Code} {D : va_G} {cy : Nat → ClassId} {ad : Nat → Nat} {P : MP} {V : MV} {I : MI} {J : MJ} {A : MI} {B : MJ} {Af : Nat → Prop} {res : Int32} (C0 : CX p s m args meth c cX4_seizedIfLasting 5 (some .int) RX4) (hK : va_K D vwCl (tyG cy) s) (hN : NWs s) (hA : ∀ q, s.heap.size ≤ q → Af q) {k9 : Int32 → Int32 → Int32 → Option (Int32)} (hk9 : SX4_seizedIfLasting_9 p l e s m args below meth c D cy ad P V I J A B Af res k9) : SX4_seizedIfLasting_9 p l e s m args below meth c D cy ad P V I J A B Af res (fX4_seizedIfLasting_9 (I 0 2) (I 3 13) (I 3 14) (I 3 17) (A 2) k9) := by
  intro v2 v3 v4 H locs ls hW hl hf
  unfold fX4_seizedIfLasting_9 at hf
  refine lv_iload C0.1 C0.2.1 dX4_seizedIfLasting_9 (lv_at hl 4 rfl) ?_
  refine lv_aload_n C0.1 C0.2.1 dX4_seizedIfLasting_11 rfl (lv_at hl 1 rfl) ?_
  refine s_get (v := .int (I 3 13)) C0 hK hW 3 13 LY_X4X6_3 rfl fg_X4_33 rfl dX4_seizedIfLasting_12 ?_
  refine lv_icmp_ge (tgt := 47) C0.1 C0.2.1 dX4_seizedIfLasting_15 (by decide) (fun hc1 => ?_) (fun hc1 => ?_)
  · have hf := ite_t hc1 hf
    refine lv_aload_n C0.1 C0.2.1 dX4_seizedIfLasting_47 rfl (lv_at hl 0 rfl) ?_
    refine s_get (v := .int (I 0 2)) C0 hK hW 0 2 LY_X4X6_0 rfl fg_X4_23 rfl dX4_seizedIfLasting_48 ?_
    refine lv_iload_n C0.1 C0.2.1 dX4_seizedIfLasting_51 rfl (lv_at hl 3 rfl) ?_
    refine lv_aload_n C0.1 C0.2.1 dX4_seizedIfLasting_52 rfl (lv_at hl 1 rfl) ?_
    refine s_get (v := .int (I 3 17)) C0 hK hW 3 17 LY_X4X6_3 rfl fg_X4_120 rfl dX4_seizedIfLasting_53 ?_
    refine lv_iand C0.1 C0.2.1 dX4_seizedIfLasting_56 ?_
    refine lv_ior C0.1 C0.2.1 dX4_seizedIfLasting_57 ?_
    obtain rfl := Option.some.inj hf
    exact r_int C0 hK hW dX4_seizedIfLasting_58
  · have hf := ite_f hc1 hf
    refine lv_iload_n C0.1 C0.2.1 dX4_seizedIfLasting_18 rfl (lv_at hl 3 rfl) ?_
    refine lv_iload_n C0.1 C0.2.1 dX4_seizedIfLasting_19 rfl (lv_at hl 2 rfl) ?_
    refine lv_iload C0.1 C0.2.1 dX4_seizedIfLasting_20 (lv_at hl 4 rfl) ?_
    refine lv_ishr C0.1 C0.2.1 dX4_seizedIfLasting_22 ?_
    refine lv_iconst (v := 1) C0.1 C0.2.1 dX4_seizedIfLasting_23 kI_1 ?_
    refine lv_iand C0.1 C0.2.1 dX4_seizedIfLasting_24 ?_
    refine lv_if_ne (tgt := 38) C0.1 C0.2.1 dX4_seizedIfLasting_25 (by decide) (fun hc2 => ?_) (fun hc2 => ?_)
    · have hf := ite_f hc2 hf
      refine lv_iconst (v := 0) C0.1 C0.2.1 dX4_seizedIfLasting_38 kI_0 ?_
      refine lv_ior C0.1 C0.2.1 dX4_seizedIfLasting_39 ?_
      refine lv_istore_n (lv' := [(3, .int (v3 ||| 0)), (0, .ref (ad 0)), (1, .ref (ad 3)), (2, .int v2), (4, .int v4)]) C0.1 C0.2.1 dX4_seizedIfLasting_40 rfl hl (by decide) rfl (fun ls hl => ?_)
      refine lv_iinc (v := (v4 + 1)) (lv' := [(4, .int (v4 + 1)), (3, .int (v3 ||| 0)), (0, .ref (ad 0)), (1, .ref (ad 3)), (2, .int v2)]) C0.1 C0.2.1 dX4_seizedIfLasting_41 hl (k := 4) rfl (congrArg (fun z => _ + z) kI_1) (by decide) rfl (fun ls hl => ?_)
      refine lv_goto (tgt := 9) C0.1 C0.2.1 dX4_seizedIfLasting_44 (by decide) ?_
      exact hk9 v2 (v3 ||| 0) (v4 + 1) H locs ls hW (lv_sub hl [2, 3, 4, 1, 0] rfl) hf
    · have hf := ite_t hc2 hf
      refine lv_aload_n C0.1 C0.2.1 dX4_seizedIfLasting_28 rfl (lv_at hl 0 rfl) ?_
      refine s_get (v := .ref (ad 2)) C0 hK hW 0 1 LY_X4X6_0 rfl fg_X4_15 rfl dX4_seizedIfLasting_29 ?_
      refine lv_iload C0.1 C0.2.1 dX4_seizedIfLasting_32 (lv_at hl 4 rfl) ?_
      obtain ⟨hb3, hf⟩ := g_some hf
      refine s_iald (v := ((A 2) (Int32.toNatClampNeg v4))) C0 hK hW 2 LY_X4X6_2 hb3 rfl dX4_seizedIfLasting_34 ?_
      refine lv_goto (tgt := 39) C0.1 C0.2.1 dX4_seizedIfLasting_35 (by decide) ?_
      refine lv_ior C0.1 C0.2.1 dX4_seizedIfLasting_39 ?_
      refine lv_istore_n (lv' := [(3, .int (v3 ||| ((A 2) (Int32.toNatClampNeg v4)))), (0, .ref (ad 0)), (1, .ref (ad 3)), (2, .int v2), (4, .int v4)]) C0.1 C0.2.1 dX4_seizedIfLasting_40 rfl hl (by decide) rfl (fun ls hl => ?_)
      refine lv_iinc (v := (v4 + 1)) (lv' := [(4, .int (v4 + 1)), (3, .int (v3 ||| ((A 2) (Int32.toNatClampNeg v4)))), (0, .ref (ad 0)), (1, .ref (ad 3)), (2, .int v2)]) C0.1 C0.2.1 dX4_seizedIfLasting_41 hl (k := 4) rfl (congrArg (fun z => _ + z) kI_1) (by decide) rfl (fun ls hl => ?_)
      refine lv_goto (tgt := 9) C0.1 C0.2.1 dX4_seizedIfLasting_44 (by decide) ?_
      exact hk9 v2 (v3 ||| ((A 2) (Int32.toNatClampNeg v4))) (v4 + 1) H locs ls hW (lv_sub hl [2, 3, 4, 1, 0] rfl) hf
theorem TX4_seizedIfLasting_9 {p : Program} {l : Launch} {e : Env} {s : State} {m : MethodId} {args : Array Value} {below : List Frame} {meth : Method} {c : Code} {D : va_G} {cy : Nat → ClassId} {ad : Nat → Nat} {P : MP} {V : MV} {I : MI} {J : MJ} {A : MI} {B : MJ} {Af : Nat → Prop} {res : Int32} (C0 : CX p s m args meth c cX4_seizedIfLasting 5 (some .int) RX4) (hK : va_K D vwCl (tyG cy) s) (hN : NWs s) (hA : ∀ q, s.heap.size ≤ q → Af q) : ∀ n, SX4_seizedIfLasting_9 p l e s m args below meth c D cy ad P V I J A B Af res (itr (fun kk => fX4_seizedIfLasting_9 (I 0 2) (I 3 13) (I 3 14) (I 3 17) (A 2) kk) (fun _ _ _ => none) n) := by
  intro n
  induction n with
  | zero => intro v2 v3 v4 H locs ls hW hl hf; exact (nomatch (show (none : Option (Int32)) = some res from hf))
  | succ n ih => exact tX4_seizedIfLasting_9 C0 hK hN hA  ih
def fX4_seizedIfLasting (s_seized : Int32) (t_holes : Int32) (t_guests : Int32) (t_wantedBits : Int32) (s_inside : (Nat → Int32)) (v2 : Int32) : Option (Int32) := Option.bind (fX4_streetBits s_seized t_holes t_guests s_inside) fun y1 => (itr (fun kk => fX4_seizedIfLasting_9 s_seized t_holes t_guests t_wantedBits s_inside kk) (fun _ _ _ => none) FU v2 y1 0)
set_option maxHeartbeats 4000000 in
set_option maxRecDepth 100000 in
theorem KX4_seizedIfLasting (l : Launch) (D : va_G) (cy : Nat → ClassId) (ad : Nat → Nat) (P : MP) (V : MV) (I : MI) (J : MJ) (A : MI) (B : MJ) (v2 : Int32) {res : Int32} (hf : fX4_seizedIfLasting (I 0 2) (I 3 13) (I 3 14) (I 3 17) (A 2) v2 = some res) : CG l yX4_seizedIfLasting cX4_seizedIfLasting 5 (some .int) rmX4_seizedIfLasting D cy (dn cy LY_X4X6 ad P V I J A B) [.ref (ad 0), .ref (ad 3), .int v2] (some (.int res)) (dn cy LY_X4X6 ad P V (gp I []) (gp J []) (gm A []) (gm B [])) := by
  refine CG.of (own := RX4) (by decide) rfl rfl ?_
  intro p e s m below meth c ls Af C0 hK hN hA hW hl
  have hW : wd D (dn cy LY_X4X6 ad P V (gp I []) (gp J []) (gm A []) (gm B [])) Af s.heap s.heap [] := wd_sel [] [] [] [] hW
  have hl : lv_has ls 5 [(0, .ref (ad 0)), (1, .ref (ad 3)), (2, .int v2)] := hl
  unfold fX4_seizedIfLasting at hf
  refine lv_aload_n C0.1 C0.2.1 dX4_seizedIfLasting_0 rfl (lv_at hl 0 rfl) ?_
  refine lv_aload_n C0.1 C0.2.1 dX4_seizedIfLasting_1 rfl (lv_at hl 1 rfl) ?_
  obtain ⟨y1, hy1, hf⟩ := b_some hf
  refine c_Vi C0 hK hN hl.1 hW hA (KX4_streetBits l D cy  ad P V (gp I []) (gp J []) (gm A []) (gm B [])  hy1) (JN_id rfl rfl rfl rfl) (Uw_V uw_677 uw_678 uw_679 uw_7 uw_680) rfl rfl hd_X4_streetBits ⟨rfl, rfl⟩ rfl (dn_some LY_X4X6_0) rfl rfl rfl dX4_seizedIfLasting_2 ⟨Nat.zero_le _, Nat.zero_le _⟩ (fun H locs hW => ?_)
  have hW : wd D (dn cy LY_X4X6 ad P V (gp I []) (gp J []) (gm A []) (gm B [])) Af s.heap H locs := hW
  refine lv_istore_n (lv' := [(3, .int y1), (0, .ref (ad 0)), (1, .ref (ad 3)), (2, .int v2)]) C0.1 C0.2.1 dX4_seizedIfLasting_5 rfl hl (by decide) rfl (fun ls hl => ?_)
  refine lv_iconst (v := 0) C0.1 C0.2.1 dX4_seizedIfLasting_6 kI_0 ?_
  refine lv_istore (lv' := [(4, .int 0), (3, .int y1), (0, .ref (ad 0)), (1, .ref (ad 3)), (2, .int v2)]) C0.1 C0.2.1 dX4_seizedIfLasting_7 hl (by decide) rfl (fun ls hl => ?_)
  exact TX4_seizedIfLasting_9 C0 hK hN hA  FU v2 y1 0 _ _ ls hW (lv_sub hl [2, 3, 4, 1, 0] rfl) hf
-- X4_isLawful
def rmX4_isLawful : Room := { frames := 3, cells := 0, slots := 0, locals := 69 }
def SX4_isLawful_27 (p : Program) (l : Launch) (e : Env) (s : State) (m : MethodId) (args : Array Value) (below : List Frame) (meth : Method) (c : Code) (D : va_G) (cy : Nat → ClassId) (ad : Nat → Nat) (P : MP) (V : MV) (I : MI) (J : MJ) (A : MI) (B : MJ) (Af : Nat → Prop) (res : Int32 × Int32 × (Nat → Int32)) (k : Int32 → (Nat → Int32) → Int32 → Int32 → Int32 → Option (Int32 × Int32 × (Nat → Int32))) : Prop := ∀ (t_law_waiting : Int32) (t_law_stack : (Nat → Int32)) (x0 : Int32) (x1 : Int32) (x2 : Int32) (H : Heap) (locs : List Loc) (ls : Array Slot), wd D (dn cy LY_X4X6 ad P V (gp I [(15, 2, t_law_waiting)]) (gp J []) (gm A [(17, t_law_stack)]) (gm B [])) Af s.heap H locs → lv_has ls 5 [(0, .ref (ad 0))] → k t_law_waiting t_law_stack x0 x1 x2 = some res → W p l e rmX4_isLawful s m args below meth c H locs 0 0 (ZQ below D cy (dn cy LY_X4X6 ad P V (gp I [(15, 2, res.2.1)]) (gp J []) (gm A [(17, res.2.2)]) (gm B [])) (some (.int res.1)) Af args s) (F0 m 27 ls [.int x0, .int x1, .int x2, .ref (ad 15)])
def fX4_isLawful_27 (s_date : Int32) (t_law_length : Int32) (s_coal : (Nat → Int32)) (t_holeFlags : (Nat → Int32)) (t_law_code : (Nat → Int32)) (t_law_waiting : Int32) (t_law_stack : (Nat → Int32)) (x0 : Int32) (x1 : Int32) (x2 : Int32) : Option (Int32 × Int32 × (Nat → Int32)) := Option.bind (fX1_allows t_law_length t_law_code t_law_waiting t_law_stack x2 x1 x0 s_date) fun y1 => (some ((vp_nar .boolean y1.1), y1.2.1, y1.2.2))
set_option maxHeartbeats 4000000 in
set_option maxRecDepth 100000 in
theorem tX4_isLawful_27 {p : Program} {l : Launch} {e : Env} {s : State} {m : MethodId} {args : Array Value} {below : List Frame} {meth : Method} {c : Code} {D : va_G} {cy : Nat → ClassId} {ad : Nat → Nat} {P : MP} {V : MV} {I : MI} {J : MJ} {A : MI} {B : MJ} {Af : Nat → Prop} {res : Int32 × Int32 × (Nat → Int32)} (C0 : CX p s m args meth c cX4_isLawful 5 (some .boolean) RX4) (hK : va_K D vwCl (tyG cy) s) (hN : NWs s) (hA : ∀ q, s.heap.size ≤ q → Af q) : SX4_isLawful_27 p l e s m args below meth c D cy ad P V I J A B Af res (fX4_isLawful_27 (I 0 3) (I 15 4) (A 1) (A 8) (A 16)) := by
  intro t_law_waiting t_law_stack x0 x1 x2 H locs ls hW hl hf
  unfold fX4_isLawful_27 at hf
  refine lv_aload_n C0.1 C0.2.1 dX4_isLawful_27 rfl (lv_at hl 0 rfl) ?_
  refine s_get (v := .int (I 0 3)) C0 hK hW 0 3 LY_X4X6_0 rfl fg_X4_27 rfl dX4_isLawful_28 ?_
  obtain ⟨y1, hy1, hf⟩ := b_some hf
  refine c_Vi C0 hK hN hl.1 hW hA (KX1_allows l D cy  (fun q => ad (pl_LY_X4X6_LY_X1_15_16_17.getD q 0)) (fun q => P (pl_LY_X4X6_LY_X1_15_16_17.getD q 0)) (fun q => Vx LY_X4X6 ad V (pl_LY_X4X6_LY_X1_15_16_17.getD q 0)) (fun q => gp I [(15, 2, t_law_waiting)] (pl_LY_X4X6_LY_X1_15_16_17.getD q 0)) (fun q => gp J [] (pl_LY_X4X6_LY_X1_15_16_17.getD q 0)) (fun q => gm A [(17, t_law_stack)] (pl_LY_X4X6_LY_X1_15_16_17.getD q 0)) (fun q => gm B [] (pl_LY_X4X6_LY_X1_15_16_17.getD q 0)) x2 x1 x0 (I 0 3) hy1) (JN_subC (pl := pl_LY_X4X6_LY_X1_15_16_17) sb_LY_X4X6_LY_X1_15_16_17 rfl rfl rfl rfl rfl rfl rfl rfl rfl) (Uw_V uw_653 uw_654 uw_655 uw_11 uw_656) rfl rfl hd_X1_allows ⟨rfl, rfl⟩ rfl (dn_some LY_X4X6_15) rfl rfl rfl dX4_isLawful_31 ⟨Nat.zero_le _, Nat.zero_le _⟩ (fun H locs hW => ?_)
  have hW : wd D (dn cy LY_X4X6 ad P V (gp I [(15, 2, y1.2.1)]) (gp J []) (gm A [(17, y1.2.2)]) (gm B [])) Af s.heap H locs := hW
  obtain rfl := Option.some.inj hf
  exact r_bool C0 hK hW (v' := (vp_nar .boolean y1.1)) rfl dX4_isLawful_34
def fX4_isLawful (s_date : Int32) (t_law_length : Int32) (s_coal : (Nat → Int32)) (t_holeFlags : (Nat → Int32)) (t_law_code : (Nat → Int32)) (t_law_waiting : Int32) (t_law_stack : (Nat → Int32)) (v2 : Int32) (v3 : Int32) (v4 : Int32) : Option (Int32 × Int32 × (Nat → Int32)) := bif inb v2 5 then (bif inb v2 5 then (if (t_holeFlags (Int32.toNatClampNeg v2)) = v4 then (fX4_isLawful_27 s_date t_law_length s_coal t_holeFlags t_law_code t_law_waiting t_law_stack 1 v3 (s_coal (Int32.toNatClampNeg v2))) else (fX4_isLawful_27 s_date t_law_length s_coal t_holeFlags t_law_code t_law_waiting t_law_stack 0 v3 (s_coal (Int32.toNatClampNeg v2)))) else none) else none
set_option maxHeartbeats 4000000 in
set_option maxRecDepth 100000 in
theorem KX4_isLawful (l : Launch) (D : va_G) (cy : Nat → ClassId) (ad : Nat → Nat) (P : MP) (V : MV) (I : MI) (J : MJ) (A : MI) (B : MJ) (v2 : Int32) (v3 : Int32) (v4 : Int32) {res : Int32 × Int32 × (Nat → Int32)} (hf : fX4_isLawful (I 0 3) (I 15 4) (A 1) (A 8) (A 16) (I 15 2) (A 17) v2 v3 v4 = some res) : CG l yX4_isLawful cX4_isLawful 5 (some .boolean) rmX4_isLawful D cy (dn cy LY_X4X6 ad P V I J A B) [.ref (ad 0), .ref (ad 3), .int v2, .int v3, .int v4] (some (.int res.1)) (dn cy LY_X4X6 ad P V (gp I [(15, 2, res.2.1)]) (gp J []) (gm A [(17, res.2.2)]) (gm B [])) := by
  refine CG.of (own := RX4) (by decide) rfl rfl ?_
  intro p e s m below meth c ls Af C0 hK hN hA hW hl
  have hW : wd D (dn cy LY_X4X6 ad P V (gp I [(15, 2, (I 15 2))]) (gp J []) (gm A [(17, (A 17))]) (gm B [])) Af s.heap s.heap [] := wd_sel [(15, 2)] [] [17] [] hW
  have hl : lv_has ls 5 [(0, .ref (ad 0)), (1, .ref (ad 3)), (2, .int v2), (3, .int v3), (4, .int v4)] := hl
  unfold fX4_isLawful at hf
  refine lv_aload_n C0.1 C0.2.1 dX4_isLawful_0 rfl (lv_at hl 1 rfl) ?_
  refine s_get (v := .ref (ad 15)) C0 hK hW 3 12 LY_X4X6_3 rfl fg_X4_69 rfl dX4_isLawful_1 ?_
  refine lv_aload_n C0.1 C0.2.1 dX4_isLawful_4 rfl (lv_at hl 0 rfl) ?_
  refine s_get (v := .ref (ad 1)) C0 hK hW 0 0 LY_X4X6_0 rfl fg_X4_9 rfl dX4_isLawful_5 ?_
  refine lv_iload_n C0.1 C0.2.1 dX4_isLawful_8 rfl (lv_at hl 2 rfl) ?_
  obtain ⟨hb1, hf⟩ := g_some hf
  refine s_iald (v := ((A 1) (Int32.toNatClampNeg v2))) C0 hK hW 1 LY_X4X6_1 hb1 rfl dX4_isLawful_9 ?_
  refine lv_iload_n C0.1 C0.2.1 dX4_isLawful_10 rfl (lv_at hl 3 rfl) ?_
  refine lv_aload_n C0.1 C0.2.1 dX4_isLawful_11 rfl (lv_at hl 1 rfl) ?_
  refine s_get (v := .ref (ad 8)) C0 hK hW 3 5 LY_X4X6_3 rfl fg_X4_73 rfl dX4_isLawful_12 ?_
  refine lv_iload_n C0.1 C0.2.1 dX4_isLawful_15 rfl (lv_at hl 2 rfl) ?_
  obtain ⟨hb2, hf⟩ := g_some hf
  refine s_iald (v := ((A 8) (Int32.toNatClampNeg v2))) C0 hK hW 8 LY_X4X6_8 hb2 rfl dX4_isLawful_16 ?_
  refine lv_iload C0.1 C0.2.1 dX4_isLawful_17 (lv_at hl 4 rfl) ?_
  refine lv_icmp_ne (tgt := 26) C0.1 C0.2.1 dX4_isLawful_19 (by decide) (fun hc3 => ?_) (fun hc3 => ?_)
  · have hf := ite_f hc3 hf
    refine lv_iconst (v := 0) C0.1 C0.2.1 dX4_isLawful_26 kI_0 ?_
    exact tX4_isLawful_27 C0 hK hN hA  (I 15 2) (A 17) 0 v3 ((A 1) (Int32.toNatClampNeg v2)) _ _ ls hW (lv_sub hl [0] rfl) hf
  · have hf := ite_t hc3 hf
    refine lv_iconst (v := 1) C0.1 C0.2.1 dX4_isLawful_22 kI_1 ?_
    refine lv_goto (tgt := 27) C0.1 C0.2.1 dX4_isLawful_23 (by decide) ?_
    exact tX4_isLawful_27 C0 hK hN hA  (I 15 2) (A 17) 1 v3 ((A 1) (Int32.toNatClampNeg v2)) _ _ ls hW (lv_sub hl [0] rfl) hf
-- X2_learnLaw
def rmX2_learnLaw : Room := { frames := 4, cells := 0, slots := 0, locals := 93 }
def SX2_learnLaw_113 (p : Program) (l : Launch) (e : Env) (s : State) (m : MethodId) (args : Array Value) (below : List Frame) (meth : Method) (c : Code) (D : va_G) (cy : Nat → ClassId) (ad : Nat → Nat) (P : MP) (V : MV) (I : MI) (J : MJ) (A : MI) (B : MJ) (Af : Nat → Prop) (res : Int32 × (Nat → Int32) × (Nat → Int32)) (k : Int32 → (Nat → Int32) → (Nat → Int32) → Int32 → Int32 → Int32 → Int32 → Int32 → Option (Int32 × (Nat → Int32) × (Nat → Int32))) : Prop := ∀ (t_law_waiting : Int32) (d_lawful : (Nat → Int32)) (t_law_stack : (Nat → Int32)) (v3 : Int32) (v4 : Int32) (x0 : Int32) (x1 : Int32) (x2 : Int32) (H : Heap) (locs : List Loc) (ls : Array Slot), wd D (dn cy LY_X2X6X4 ad P V (gp I [(17, 2, t_law_waiting)]) (gp J []) (gm A [(3, d_lawful), (19, t_law_stack)]) (gm B [])) Af s.heap H locs → lv_has ls 6 [(0, .ref (ad 0)), (1, .ref (ad 5)), (2, .ref (ad 20)), (3, .int v3), (4, .int v4)] → k t_law_waiting d_lawful t_law_stack v3 v4 x0 x1 x2 = some res → W p l e rmX2_learnLaw s m args below meth c H locs 0 0 (ZQ below D cy (dn cy LY_X2X6X4 ad P V (gp I [(17, 2, res.1)]) (gp J []) (gm A [(3, res.2.1), (19, res.2.2)]) (gm B [])) none Af args s) (F0 m 113 ls [.int x0, .int x1, .int x2, .ref (ad 3)])
def SX2_learnLaw_79 (p : Program) (l : Launch) (e : Env) (s : State) (m : MethodId) (args : Array Value) (below : List Frame) (meth : Method) (c : Code) (D : va_G) (cy : Nat → ClassId) (ad : Nat → Nat) (P : MP) (V : MV) (I : MI) (J : MJ) (A : MI) (B : MJ) (Af : Nat → Prop) (res : Int32 × (Nat → Int32) × (Nat → Int32)) (k : Int32 → (Nat → Int32) → (Nat → Int32) → Int32 → Int32 → Int32 → Int32 → Int32 → Int32 → Option (Int32 × (Nat → Int32) × (Nat → Int32))) : Prop := ∀ (t_law_waiting : Int32) (d_lawful : (Nat → Int32)) (t_law_stack : (Nat → Int32)) (v3 : Int32) (v4 : Int32) (v5 : Int32) (x0 : Int32) (x1 : Int32) (x2 : Int32) (H : Heap) (locs : List Loc) (ls : Array Slot), wd D (dn cy LY_X2X6X4 ad P V (gp I [(17, 2, t_law_waiting)]) (gp J []) (gm A [(3, d_lawful), (19, t_law_stack)]) (gm B [])) Af s.heap H locs → lv_has ls 6 [(0, .ref (ad 0)), (1, .ref (ad 5)), (2, .ref (ad 20)), (3, .int v3), (4, .int v4), (5, .int v5)] → k t_law_waiting d_lawful t_law_stack v3 v4 v5 x0 x1 x2 = some res → W p l e rmX2_learnLaw s m args below meth c H locs 0 0 (ZQ below D cy (dn cy LY_X2X6X4 ad P V (gp I [(17, 2, res.1)]) (gp J []) (gm A [(3, res.2.1), (19, res.2.2)]) (gm B [])) none Af args s) (F0 m 79 ls [.int x0, .int x1, .int x2, .ref (ad 3)])
def SX2_learnLaw_33 (p : Program) (l : Launch) (e : Env) (s : State) (m : MethodId) (args : Array Value) (below : List Frame) (meth : Method) (c : Code) (D : va_G) (cy : Nat → ClassId) (ad : Nat → Nat) (P : MP) (V : MV) (I : MI) (J : MJ) (A : MI) (B : MJ) (Af : Nat → Prop) (res : Int32 × (Nat → Int32) × (Nat → Int32)) (k : Int32 → (Nat → Int32) → (Nat → Int32) → Int32 → Int32 → Option (Int32 × (Nat → Int32) × (Nat → Int32))) : Prop := ∀ (t_law_waiting : Int32) (d_lawful : (Nat → Int32)) (t_law_stack : (Nat → Int32)) (v3 : Int32) (v4 : Int32) (H : Heap) (locs : List Loc) (ls : Array Slot), wd D (dn cy LY_X2X6X4 ad P V (gp I [(17, 2, t_law_waiting)]) (gp J []) (gm A [(3, d_lawful), (19, t_law_stack)]) (gm B [])) Af s.heap H locs → lv_has ls 6 [(0, .ref (ad 0)), (1, .ref (ad 5)), (2, .ref (ad 20)), (3, .int v3), (4, .int v4)] → k t_law_waiting d_lawful t_law_stack v3 v4 = some res → W p l e rmX2_learnLaw s m args below meth c H locs 0 0 (ZQ below D cy (dn cy LY_X2X6X4 ad P V (gp I [(17, 2, res.1)]) (gp J []) (gm A [(3, res.2.1), (19, res.2.2)]) (gm B [])) none Af args s) (F0 m 33 ls [])
def SX2_learnLaw_2 (p : Program) (l : Launch) (e : Env) (s : State) (m : MethodId) (args : Array Value) (below : List Frame) (meth : Method) (c : Code) (D : va_G) (cy : Nat → ClassId) (ad : Nat → Nat) (P : MP) (V : MV) (I : MI) (J : MJ) (A : MI) (B : MJ) (Af : Nat → Prop) (res : Int32 × (Nat → Int32) × (Nat → Int32)) (k : Int32 → (Nat → Int32) → (Nat → Int32) → Int32 → Option (Int32 × (Nat → Int32) × (Nat → Int32))) : Prop := ∀ (t_law_waiting : Int32) (d_lawful : (Nat → Int32)) (t_law_stack : (Nat → Int32)) (v3 : Int32) (H : Heap) (locs : List Loc) (ls : Array Slot), wd D (dn cy LY_X2X6X4 ad P V (gp I [(17, 2, t_law_waiting)]) (gp J []) (gm A [(3, d_lawful), (19, t_law_stack)]) (gm B [])) Af s.heap H locs → lv_has ls 6 [(0, .ref (ad 0)), (1, .ref (ad 5)), (2, .ref (ad 20)), (3, .int v3)] → k t_law_waiting d_lawful t_law_stack v3 = some res → W p l e rmX2_learnLaw s m args below meth c H locs 0 0 (ZQ below D cy (dn cy LY_X2X6X4 ad P V (gp I [(17, 2, res.1)]) (gp J []) (gm A [(3, res.2.1), (19, res.2.2)]) (gm B [])) none Af args s) (F0 m 2 ls [])
def fX2_learnLaw_113 (t_holes : Int32) (t_guests : Int32) (t_law_length : Int32) (s_date : Int32) (t_holeFlags : (Nat → Int32)) (t_law_code : (Nat → Int32)) (s_coal : (Nat → Int32)) (k2 : Int32 → (Nat → Int32) → (Nat → Int32) → Int32 → Option (Int32 × (Nat → Int32) × (Nat → Int32))) (k33 : Int32 → (Nat → Int32) → (Nat → Int32) → Int32 → Int32 → Option (Int32 × (Nat → Int32) × (Nat → Int32))) (t_law_waiting : Int32) (d_lawful : (Nat → Int32)) (t_law_stack : (Nat → Int32)) (v3 : Int32) (v4 : Int32) (x0 : Int32) (x1 : Int32) (x2 : Int32) : Option (Int32 × (Nat → Int32) × (Nat → Int32)) := bif inb x2 10 then (k33 t_law_waiting (upd d_lawful (Int32.toNatClampNeg x2) (x1 ||| x0)) t_law_stack v3 (v4 + 1)) else none
set_option maxHeartbeats 4000000 in
set_option maxRecDepth 100000 in
theorem tX2_learnLaw_113 {p : Program} {l : Launch} {e : Env} {s : State} {m : MethodId} {args : Array Value} {below : List Frame} {meth : Method} {c : Code} {D : va_G} {cy : Nat → ClassId} {ad : Nat → Nat} {P : MP} {V : MV} {I : MI} {J : MJ} {A : MI} {B : MJ} {Af : Nat → Prop} {res : Int32 × (Nat → Int32) × (Nat → Int32)} (C0 : CX p s m args meth c cX2_learnLaw 6 none RX2) (hK : va_K D vwCl (tyG cy) s) (hN : NWs s) (hA : ∀ q, s.heap.size ≤ q → Af q) {k2 : Int32 → (Nat → Int32) → (Nat → Int32) → Int32 → Option (Int32 × (Nat → Int32) × (Nat → Int32))} (hk2 : SX2_learnLaw_2 p l e s m args below meth c D cy ad P V I J A B Af res k2) {k33 : Int32 → (Nat → Int32) → (Nat → Int32) → Int32 → Int32 → Option (Int32 × (Nat → Int32) × (Nat → Int32))} (hk33 : SX2_learnLaw_33 p l e s m args below meth c D cy ad P V I J A B Af res k33) : SX2_learnLaw_113 p l e s m args below meth c D cy ad P V I J A B Af res (fX2_learnLaw_113 (I 5 13) (I 5 14) (I 17 4) (I 20 3) (A 10) (A 18) (A 21) k2 k33) := by
  intro t_law_waiting d_lawful t_law_stack v3 v4 x0 x1 x2 H locs ls hW hl hf
  unfold fX2_learnLaw_113 at hf
  refine lv_ior C0.1 C0.2.1 dX2_learnLaw_113 ?_
  obtain ⟨hb1, hf⟩ := g_some hf
  refine s_iast (f := (upd d_lawful (Int32.toNatClampNeg x2) (x1 ||| x0))) C0 hK hW 3 LY_X2X6X4_3 hb1 rfl rfl dX2_learnLaw_114 (fun H locs hW => ?_)
  have hW : wd D (dn cy LY_X2X6X4 ad P V (gp I [(17, 2, t_law_waiting)]) (gp J []) (gm A [(3, (upd d_lawful (Int32.toNatClampNeg x2) (x1 ||| x0))), (19, t_law_stack)]) (gm B [])) Af s.heap H locs := hW
  refine lv_iinc (v := (v4 + 1)) (lv' := [(4, .int (v4 + 1)), (0, .ref (ad 0)), (1, .ref (ad 5)), (2, .ref (ad 20)), (3, .int v3)]) C0.1 C0.2.1 dX2_learnLaw_115 hl (k := 4) rfl (congrArg (fun z => _ + z) kI_1) (by decide) rfl (fun ls hl => ?_)
  refine lv_goto (tgt := 33) C0.1 C0.2.1 dX2_learnLaw_118 (by decide) ?_
  exact hk33 t_law_waiting (upd d_lawful (Int32.toNatClampNeg x2) (x1 ||| x0)) t_law_stack v3 (v4 + 1) H locs ls hW (lv_sub hl [1, 2, 3, 4, 0] rfl) hf
def fX2_learnLaw_79 (t_holes : Int32) (t_guests : Int32) (t_law_length : Int32) (s_date : Int32) (t_holeFlags : (Nat → Int32)) (t_law_code : (Nat → Int32)) (s_coal : (Nat → Int32)) (k2 : Int32 → (Nat → Int32) → (Nat → Int32) → Int32 → Option (Int32 × (Nat → Int32) × (Nat → Int32))) (k33 : Int32 → (Nat → Int32) → (Nat → Int32) → Int32 → Int32 → Option (Int32 × (Nat → Int32) × (Nat → Int32))) (t_law_waiting : Int32) (d_lawful : (Nat → Int32)) (t_law_stack : (Nat → Int32)) (v3 : Int32) (v4 : Int32) (v5 : Int32) (x0 : Int32) (x1 : Int32) (x2 : Int32) : Option (Int32 × (Nat → Int32) × (Nat → Int32)) := bif inb x2 10 then (bif inb ((v3 * 2) + 1) 10 then (Option.bind (fX4_isLawful s_date t_law_length s_coal t_holeFlags t_law_code t_law_waiting t_law_stack v3 v4 v5) fun y3 => (if y3.1 = 0 then (fX2_learnLaw_113 t_holes t_guests t_law_length s_date t_holeFlags t_law_code s_coal k2 k33 y3.2.1 (upd d_lawful (Int32.toNatClampNeg x2) (x1 ||| x0)) y3.2.2 v3 v4 0 ((upd d_lawful (Int32.toNatClampNeg x2) (x1 ||| x0)) (Int32.toNatClampNeg ((v3 * 2) + 1))) ((v3 * 2) + 1)) else (fX2_learnLaw_113 t_holes t_guests t_law_length s_date t_holeFlags t_law_code s_coal k2 k33 y3.2.1 (upd d_lawful (Int32.toNatClampNeg x2) (x1 ||| x0)) y3.2.2 v3 v4 (1 <<< (v4 &&& 31)) ((upd d_lawful (Int32.toNatClampNeg x2) (x1 ||| x0)) (Int32.toNatClampNeg ((v3 * 2) + 1))) ((v3 * 2) + 1)))) else none) else none
set_option maxHeartbeats 4000000 in
set_option maxRecDepth 100000 in
theorem tX2_learnLaw_79 {p : Program} {l : Launch} {e : Env} {s : State} {m : MethodId} {args : Array Value} {below : List Frame} {meth : Method} {c : Code} {D : va_G} {cy : Nat → ClassId} {ad : Nat → Nat} {P : MP} {V : MV} {I : MI} {J : MJ} {A : MI} {B : MJ} {Af : Nat → Prop} {res : Int32 × (Nat → Int32) × (Nat → Int32)} (C0 : CX p s m args meth c cX2_learnLaw 6 none RX2) (hK : va_K D vwCl (tyG cy) s) (hN : NWs s) (hA : ∀ q, s.heap.size ≤ q → Af q) {k2 : Int32 → (Nat → Int32) → (Nat → Int32) → Int32 → Option (Int32 × (Nat → Int32) × (Nat → Int32))} (hk2 : SX2_learnLaw_2 p l e s m args below meth c D cy ad P V I J A B Af res k2) {k33 : Int32 → (Nat → Int32) → (Nat → Int32) → Int32 → Int32 → Option (Int32 × (Nat → Int32) × (Nat → Int32))} (hk33 : SX2_learnLaw_33 p l e s m args below meth c D cy ad P V I J A B Af res k33) : SX2_learnLaw_79 p l e s m args below meth c D cy ad P V I J A B Af res (fX2_learnLaw_79 (I 5 13) (I 5 14) (I 17 4) (I 20 3) (A 10) (A 18) (A 21) k2 k33) := by
  intro t_law_waiting d_lawful t_law_stack v3 v4 v5 x0 x1 x2 H locs ls hW hl hf
  unfold fX2_learnLaw_79 at hf
  refine lv_ior C0.1 C0.2.1 dX2_learnLaw_79 ?_
  obtain ⟨hb1, hf⟩ := g_some hf
  refine s_iast (f := (upd d_lawful (Int32.toNatClampNeg x2) (x1 ||| x0))) C0 hK hW 3 LY_X2X6X4_3 hb1 rfl rfl dX2_learnLaw_80 (fun H locs hW => ?_)
  have hW : wd D (dn cy LY_X2X6X4 ad P V (gp I [(17, 2, t_law_waiting)]) (gp J []) (gm A [(3, (upd d_lawful (Int32.toNatClampNeg x2) (x1 ||| x0))), (19, t_law_stack)]) (gm B [])) Af s.heap H locs := hW
  refine lv_aload_n C0.1 C0.2.1 dX2_learnLaw_81 rfl (lv_at hl 0 rfl) ?_
  refine s_get (v := .ref (ad 3)) C0 hK hW 0 2 LY_X2X6X4_0 rfl fg_X2_18 rfl dX2_learnLaw_82 ?_
  refine lv_iload_n C0.1 C0.2.1 dX2_learnLaw_85 rfl (lv_at hl 3 rfl) ?_
  refine lv_iconst (v := 2) C0.1 C0.2.1 dX2_learnLaw_86 kI_2 ?_
  refine lv_imul C0.1 C0.2.1 dX2_learnLaw_87 ?_
  refine lv_iconst (v := 1) C0.1 C0.2.1 dX2_learnLaw_88 kI_1 ?_
  refine lv_iadd C0.1 C0.2.1 dX2_learnLaw_89 ?_
  refine lv_dup2_11 C0.1 C0.2.1 dX2_learnLaw_90 rfl rfl ?_
  obtain ⟨hb2, hf⟩ := g_some hf
  refine s_iald (v := ((upd d_lawful (Int32.toNatClampNeg x2) (x1 ||| x0)) (Int32.toNatClampNeg ((v3 * 2) + 1)))) C0 hK hW 3 LY_X2X6X4_3 hb2 rfl dX2_learnLaw_91 ?_
  refine lv_aload_n C0.1 C0.2.1 dX2_learnLaw_92 rfl (lv_at hl 2 rfl) ?_
  refine lv_aload_n C0.1 C0.2.1 dX2_learnLaw_93 rfl (lv_at hl 1 rfl) ?_
  refine lv_iload_n C0.1 C0.2.1 dX2_learnLaw_94 rfl (lv_at hl 3 rfl) ?_
  refine lv_iload C0.1 C0.2.1 dX2_learnLaw_95 (lv_at hl 4 rfl) ?_
  refine lv_iload C0.1 C0.2.1 dX2_learnLaw_97 (lv_at hl 5 rfl) ?_
  obtain ⟨y3, hy3, hf⟩ := b_some hf
  refine c_Vi C0 hK hN hl.1 hW hA (KX4_isLawful l D cy  (fun q => ad (pl_LY_X2X6X4_LY_X4X6_20_21_72255155.getD q 0)) (fun q => P (pl_LY_X2X6X4_LY_X4X6_20_21_72255155.getD q 0)) (fun q => Vx LY_X2X6X4 ad V (pl_LY_X2X6X4_LY_X4X6_20_21_72255155.getD q 0)) (fun q => gp I [(17, 2, t_law_waiting)] (pl_LY_X2X6X4_LY_X4X6_20_21_72255155.getD q 0)) (fun q => gp J [] (pl_LY_X2X6X4_LY_X4X6_20_21_72255155.getD q 0)) (fun q => gm A [(3, (upd d_lawful (Int32.toNatClampNeg x2) (x1 ||| x0))), (19, t_law_stack)] (pl_LY_X2X6X4_LY_X4X6_20_21_72255155.getD q 0)) (fun q => gm B [] (pl_LY_X2X6X4_LY_X4X6_20_21_72255155.getD q 0)) v3 v4 v5 hy3) (JN_subC (pl := pl_LY_X2X6X4_LY_X4X6_20_21_72255155) sb_LY_X2X6X4_LY_X4X6_20_21_72255155 rfl rfl rfl rfl rfl rfl rfl rfl rfl) (Uw_V uw_829 uw_650 uw_651 uw_7 uw_652) rfl rfl hd_X4_isLawful ⟨rfl, rfl⟩ rfl (dn_some LY_X2X6X4_20) rfl rfl rfl dX2_learnLaw_99 ⟨Nat.zero_le _, Nat.zero_le _⟩ (fun H locs hW => ?_)
  have hW : wd D (dn cy LY_X2X6X4 ad P V (gp I [(17, 2, y3.2.1)]) (gp J []) (gm A [(3, (upd d_lawful (Int32.toNatClampNeg x2) (x1 ||| x0))), (19, y3.2.2)]) (gm B [])) Af s.heap H locs := hW
  refine lv_if_eq (tgt := 112) C0.1 C0.2.1 dX2_learnLaw_102 (by decide) (fun hc4 => ?_) (fun hc4 => ?_)
  · have hf := ite_t hc4 hf
    refine lv_iconst (v := 0) C0.1 C0.2.1 dX2_learnLaw_112 kI_0 ?_
    exact tX2_learnLaw_113 C0 hK hN hA hk2 hk33 y3.2.1 (upd d_lawful (Int32.toNatClampNeg x2) (x1 ||| x0)) y3.2.2 v3 v4 0 ((upd d_lawful (Int32.toNatClampNeg x2) (x1 ||| x0)) (Int32.toNatClampNeg ((v3 * 2) + 1))) ((v3 * 2) + 1) H locs ls hW (lv_sub hl [0, 1, 2, 3, 4] rfl) hf
  · have hf := ite_f hc4 hf
    refine lv_iconst (v := 1) C0.1 C0.2.1 dX2_learnLaw_105 kI_1 ?_
    refine lv_iload C0.1 C0.2.1 dX2_learnLaw_106 (lv_at hl 4 rfl) ?_
    refine lv_ishl C0.1 C0.2.1 dX2_learnLaw_108 ?_
    refine lv_goto (tgt := 113) C0.1 C0.2.1 dX2_learnLaw_109 (by decide) ?_
    exact tX2_learnLaw_113 C0 hK hN hA hk2 hk33 y3.2.1 (upd d_lawful (Int32.toNatClampNeg x2) (x1 ||| x0)) y3.2.2 v3 v4 (1 <<< (v4 &&& 31)) ((upd d_lawful (Int32.toNatClampNeg x2) (x1 ||| x0)) (Int32.toNatClampNeg ((v3 * 2) + 1))) ((v3 * 2) + 1) H locs ls hW (lv_sub hl [0, 1, 2, 3, 4] rfl) hf
def fX2_learnLaw_33 (t_holes : Int32) (t_guests : Int32) (t_law_length : Int32) (s_date : Int32) (t_holeFlags : (Nat → Int32)) (t_law_code : (Nat → Int32)) (s_coal : (Nat → Int32)) (k2 : Int32 → (Nat → Int32) → (Nat → Int32) → Int32 → Option (Int32 × (Nat → Int32) × (Nat → Int32))) (k33 : Int32 → (Nat → Int32) → (Nat → Int32) → Int32 → Int32 → Option (Int32 × (Nat → Int32) × (Nat → Int32))) (t_law_waiting : Int32) (d_lawful : (Nat → Int32)) (t_law_stack : (Nat → Int32)) (v3 : Int32) (v4 : Int32) : Option (Int32 × (Nat → Int32) × (Nat → Int32)) := if t_guests ≤ v4 then (k2 t_law_waiting d_lawful t_law_stack (v3 + 1)) else (bif inb v3 5 then (bif inb (v3 * 2) 10 then (Option.bind (fX4_isLawful s_date t_law_length s_coal t_holeFlags t_law_code t_law_waiting t_law_stack v3 v4 (-1)) fun y4 => (if y4.1 = 0 then (fX2_learnLaw_79 t_holes t_guests t_law_length s_date t_holeFlags t_law_code s_coal k2 k33 y4.2.1 d_lawful y4.2.2 v3 v4 (t_holeFlags (Int32.toNatClampNeg v3)) 0 (d_lawful (Int32.toNatClampNeg (v3 * 2))) (v3 * 2)) else (fX2_learnLaw_79 t_holes t_guests t_law_length s_date t_holeFlags t_law_code s_coal k2 k33 y4.2.1 d_lawful y4.2.2 v3 v4 (t_holeFlags (Int32.toNatClampNeg v3)) (1 <<< (v4 &&& 31)) (d_lawful (Int32.toNatClampNeg (v3 * 2))) (v3 * 2)))) else none) else none)
set_option maxHeartbeats 4000000 in
set_option maxRecDepth 100000 in
theorem tX2_learnLaw_33 {p : Program} {l : Launch} {e : Env} {s : State} {m : MethodId} {args : Array Value} {below : List Frame} {meth : Method} {c : Code} {D : va_G} {cy : Nat → ClassId} {ad : Nat → Nat} {P : MP} {V : MV} {I : MI} {J : MJ} {A : MI} {B : MJ} {Af : Nat → Prop} {res : Int32 × (Nat → Int32) × (Nat → Int32)} (C0 : CX p s m args meth c cX2_learnLaw 6 none RX2) (hK : va_K D vwCl (tyG cy) s) (hN : NWs s) (hA : ∀ q, s.heap.size ≤ q → Af q) {k2 : Int32 → (Nat → Int32) → (Nat → Int32) → Int32 → Option (Int32 × (Nat → Int32) × (Nat → Int32))} (hk2 : SX2_learnLaw_2 p l e s m args below meth c D cy ad P V I J A B Af res k2) {k33 : Int32 → (Nat → Int32) → (Nat → Int32) → Int32 → Int32 → Option (Int32 × (Nat → Int32) × (Nat → Int32))} (hk33 : SX2_learnLaw_33 p l e s m args below meth c D cy ad P V I J A B Af res k33) : SX2_learnLaw_33 p l e s m args below meth c D cy ad P V I J A B Af res (fX2_learnLaw_33 (I 5 13) (I 5 14) (I 17 4) (I 20 3) (A 10) (A 18) (A 21) k2 k33) := by
  intro t_law_waiting d_lawful t_law_stack v3 v4 H locs ls hW hl hf
  unfold fX2_learnLaw_33 at hf
  refine lv_iload C0.1 C0.2.1 dX2_learnLaw_33 (lv_at hl 4 rfl) ?_
  refine lv_aload_n C0.1 C0.2.1 dX2_learnLaw_35 rfl (lv_at hl 1 rfl) ?_
  refine s_get (v := .int (I 5 14)) C0 hK hW 5 14 LY_X2X6X4_5 rfl fg_X2_57 rfl dX2_learnLaw_36 ?_
  refine lv_icmp_ge (tgt := 121) C0.1 C0.2.1 dX2_learnLaw_39 (by decide) (fun hc1 => ?_) (fun hc1 => ?_)
  · have hf := ite_t hc1 hf
    refine lv_iinc (v := (v3 + 1)) (lv' := [(3, .int (v3 + 1)), (0, .ref (ad 0)), (1, .ref (ad 5)), (2, .ref (ad 20)), (4, .int v4)]) C0.1 C0.2.1 dX2_learnLaw_121 hl (k := 3) rfl (congrArg (fun z => _ + z) kI_1) (by decide) rfl (fun ls hl => ?_)
    refine lv_goto (tgt := 2) C0.1 C0.2.1 dX2_learnLaw_124 (by decide) ?_
    exact hk2 t_law_waiting d_lawful t_law_stack (v3 + 1) H locs ls hW (lv_sub hl [1, 2, 3, 0] rfl) hf
  · have hf := ite_f hc1 hf
    refine lv_aload_n C0.1 C0.2.1 dX2_learnLaw_42 rfl (lv_at hl 1 rfl) ?_
    refine s_get (v := .ref (ad 10)) C0 hK hW 5 5 LY_X2X6X4_5 rfl fg_X2_88 rfl dX2_learnLaw_43 ?_
    refine lv_iload_n C0.1 C0.2.1 dX2_learnLaw_46 rfl (lv_at hl 3 rfl) ?_
    obtain ⟨hb2, hf⟩ := g_some hf
    refine s_iald (v := ((A 10) (Int32.toNatClampNeg v3))) C0 hK hW 10 LY_X2X6X4_10 hb2 rfl dX2_learnLaw_47 ?_
    refine lv_istore (lv' := [(5, .int ((A 10) (Int32.toNatClampNeg v3))), (0, .ref (ad 0)), (1, .ref (ad 5)), (2, .ref (ad 20)), (3, .int v3), (4, .int v4)]) C0.1 C0.2.1 dX2_learnLaw_48 hl (by decide) rfl (fun ls hl => ?_)
    refine lv_aload_n C0.1 C0.2.1 dX2_learnLaw_50 rfl (lv_at hl 1 rfl) ?_
    refine s_get (v := .ref (ad 3)) C0 hK hW 0 2 LY_X2X6X4_0 rfl fg_X2_18 rfl dX2_learnLaw_51 ?_
    refine lv_iload_n C0.1 C0.2.1 dX2_learnLaw_54 rfl (lv_at hl 4 rfl) ?_
    refine lv_iconst (v := 2) C0.1 C0.2.1 dX2_learnLaw_55 kI_2 ?_
    refine lv_imul C0.1 C0.2.1 dX2_learnLaw_56 ?_
    refine lv_dup2_11 C0.1 C0.2.1 dX2_learnLaw_57 rfl rfl ?_
    obtain ⟨hb3, hf⟩ := g_some hf
    refine s_iald (v := (d_lawful (Int32.toNatClampNeg (v3 * 2)))) C0 hK hW 3 LY_X2X6X4_3 hb3 rfl dX2_learnLaw_58 ?_
    refine lv_aload_n C0.1 C0.2.1 dX2_learnLaw_59 rfl (lv_at hl 3 rfl) ?_
    refine lv_aload_n C0.1 C0.2.1 dX2_learnLaw_60 rfl (lv_at hl 2 rfl) ?_
    refine lv_iload_n C0.1 C0.2.1 dX2_learnLaw_61 rfl (lv_at hl 4 rfl) ?_
    refine lv_iload C0.1 C0.2.1 dX2_learnLaw_62 (lv_at hl 5 rfl) ?_
    refine lv_iconst (v := (-1)) C0.1 C0.2.1 dX2_learnLaw_64 kI_m1 ?_
    obtain ⟨y4, hy4, hf⟩ := b_some hf
    refine c_Vi C0 hK hN hl.1 hW hA (KX4_isLawful l D cy  (fun q => ad (pl_LY_X2X6X4_LY_X4X6_20_21_72255155.getD q 0)) (fun q => P (pl_LY_X2X6X4_LY_X4X6_20_21_72255155.getD q 0)) (fun q => Vx LY_X2X6X4 ad V (pl_LY_X2X6X4_LY_X4X6_20_21_72255155.getD q 0)) (fun q => gp I [(17, 2, t_law_waiting)] (pl_LY_X2X6X4_LY_X4X6_20_21_72255155.getD q 0)) (fun q => gp J [] (pl_LY_X2X6X4_LY_X4X6_20_21_72255155.getD q 0)) (fun q => gm A [(3, d_lawful), (19, t_law_stack)] (pl_LY_X2X6X4_LY_X4X6_20_21_72255155.getD q 0)) (fun q => gm B [] (pl_LY_X2X6X4_LY_X4X6_20_21_72255155.getD q 0)) v3 v4 (-1) hy4) (JN_subC (pl := pl_LY_X2X6X4_LY_X4X6_20_21_72255155) sb_LY_X2X6X4_LY_X4X6_20_21_72255155 rfl rfl rfl rfl rfl rfl rfl rfl rfl) (Uw_V uw_829 uw_650 uw_651 uw_7 uw_652) rfl rfl hd_X4_isLawful ⟨rfl, rfl⟩ rfl (dn_some LY_X2X6X4_20) rfl rfl rfl dX2_learnLaw_65 ⟨Nat.zero_le _, Nat.zero_le _⟩ (fun H locs hW => ?_)
    have hW : wd D (dn cy LY_X2X6X4 ad P V (gp I [(17, 2, y4.2.1)]) (gp J []) (gm A [(3, d_lawful), (19, y4.2.2)]) (gm B [])) Af s.heap H locs := hW
    refine lv_if_eq (tgt := 78) C0.1 C0.2.1 dX2_learnLaw_68 (by decide) (fun hc5 => ?_) (fun hc5 => ?_)
    · have hf := ite_t hc5 hf
      refine lv_iconst (v := 0) C0.1 C0.2.1 dX2_learnLaw_78 kI_0 ?_
      exact tX2_learnLaw_79 C0 hK hN hA hk2 hk33 y4.2.1 d_lawful y4.2.2 v3 v4 ((A 10) (Int32.toNatClampNeg v3)) 0 (d_lawful (Int32.toNatClampNeg (v3 * 2))) (v3 * 2) H locs ls hW (lv_sub hl [1, 2, 3, 4, 5, 0] rfl) hf
    · have hf := ite_f hc5 hf
      refine lv_iconst (v := 1) C0.1 C0.2.1 dX2_learnLaw_71 kI_1 ?_
      refine lv_iload C0.1 C0.2.1 dX2_learnLaw_72 (lv_at hl 5 rfl) ?_
      refine lv_ishl C0.1 C0.2.1 dX2_learnLaw_74 ?_
      refine lv_goto (tgt := 79) C0.1 C0.2.1 dX2_learnLaw_75 (by decide) ?_
      exact tX2_learnLaw_79 C0 hK hN hA hk2 hk33 y4.2.1 d_lawful y4.2.2 v3 v4 ((A 10) (Int32.toNatClampNeg v3)) (1 <<< (v4 &&& 31)) (d_lawful (Int32.toNatClampNeg (v3 * 2))) (v3 * 2) H locs ls hW (lv_sub hl [1, 2, 3, 4, 5, 0] rfl) hf
theorem TX2_learnLaw_33 {p : Program} {l : Launch} {e : Env} {s : State} {m : MethodId} {args : Array Value} {below : List Frame} {meth : Method} {c : Code} {D : va_G} {cy : Nat → ClassId} {ad : Nat → Nat} {P : MP} {V : MV} {I : MI} {J : MJ} {A : MI} {B : MJ} {Af : Nat → Prop} {res : Int32 × (Nat → Int32) × (Nat → Int32)} (C0 : CX p s m args meth c cX2_learnLaw 6 none RX2) (hK : va_K D vwCl (tyG cy) s) (hN : NWs s) (hA : ∀ q, s.heap.size ≤ q → Af q) {k2 : Int32 → (Nat → Int32) → (Nat → Int32) → Int32 → Option (Int32 × (Nat → Int32) × (Nat → Int32))} (hk2 : SX2_learnLaw_2 p l e s m args below meth c D cy ad P V I J A B Af res k2) : ∀ n, SX2_learnLaw_33 p l e s m args below meth c D cy ad P V I J A B Af res (itr (fun kk => fX2_learnLaw_33 (I 5 13) (I 5 14) (I 17 4) (I 20 3) (A 10) (A 18) (A 21) k2 kk) (fun _ _ _ _ _ => none) n) := by
  intro n
  induction n with
  | zero => intro t_law_waiting d_lawful t_law_stack v3 v4 H locs ls hW hl hf; exact (nomatch (show (none : Option (Int32 × (Nat → Int32) × (Nat → Int32))) = some res from hf))
  | succ n ih => exact tX2_learnLaw_33 C0 hK hN hA hk2 ih
def fX2_learnLaw_2 (t_holes : Int32) (t_guests : Int32) (t_law_length : Int32) (s_date : Int32) (t_holeFlags : (Nat → Int32)) (t_law_code : (Nat → Int32)) (s_coal : (Nat → Int32)) (k2 : Int32 → (Nat → Int32) → (Nat → Int32) → Int32 → Option (Int32 × (Nat → Int32) × (Nat → Int32))) (t_law_waiting : Int32) (d_lawful : (Nat → Int32)) (t_law_stack : (Nat → Int32)) (v3 : Int32) : Option (Int32 × (Nat → Int32) × (Nat → Int32)) := if t_holes ≤ v3 then (some (t_law_waiting, d_lawful, t_law_stack)) else (bif inb (v3 * 2) 10 then (bif inb ((v3 * 2) + 1) 10 then (itr (fun kk => fX2_learnLaw_33 t_holes t_guests t_law_length s_date t_holeFlags t_law_code s_coal k2 kk) (fun _ _ _ _ _ => none) FU t_law_waiting (upd (upd d_lawful (Int32.toNatClampNeg (v3 * 2)) 0) (Int32.toNatClampNeg ((v3 * 2) + 1)) 0) t_law_stack v3 0) else none) else none)
set_option maxHeartbeats 4000000 in
set_option maxRecDepth 100000 in
theorem tX2_learnLaw_2 {p : Program} {l : Launch} {e : Env} {s : State} {m : MethodId} {args : Array Value} {below : List Frame} {meth : Method} {c : Code} {D : va_G} {cy : Nat → ClassId} {ad : Nat → Nat} {P : MP} {V : MV} {I : MI} {J : MJ} {A : MI} {B : MJ} {Af : Nat → Prop} {res : Int32 × (Nat → Int32) × (Nat → Int32)} (C0 : CX p s m args meth c cX2_learnLaw 6 none RX2) (hK : va_K D vwCl (tyG cy) s) (hN : NWs s) (hA : ∀ q, s.heap.size ≤ q → Af q) {k2 : Int32 → (Nat → Int32) → (Nat → Int32) → Int32 → Option (Int32 × (Nat → Int32) × (Nat → Int32))} (hk2 : SX2_learnLaw_2 p l e s m args below meth c D cy ad P V I J A B Af res k2) : SX2_learnLaw_2 p l e s m args below meth c D cy ad P V I J A B Af res (fX2_learnLaw_2 (I 5 13) (I 5 14) (I 17 4) (I 20 3) (A 10) (A 18) (A 21) k2) := by
  intro t_law_waiting d_lawful t_law_stack v3 H locs ls hW hl hf
  unfold fX2_learnLaw_2 at hf
  refine lv_iload_n C0.1 C0.2.1 dX2_learnLaw_2 rfl (lv_at hl 3 rfl) ?_
  refine lv_aload_n C0.1 C0.2.1 dX2_learnLaw_3 rfl (lv_at hl 1 rfl) ?_
  refine s_get (v := .int (I 5 13)) C0 hK hW 5 13 LY_X2X6X4_5 rfl fg_X2_85 rfl dX2_learnLaw_4 ?_
  refine lv_icmp_ge (tgt := 127) C0.1 C0.2.1 dX2_learnLaw_7 (by decide) (fun hc1 => ?_) (fun hc1 => ?_)
  · have hf := ite_t hc1 hf
    obtain rfl := Option.some.inj hf
    exact r_void C0 hK hW dX2_learnLaw_127
  · have hf := ite_f hc1 hf
    refine lv_aload_n C0.1 C0.2.1 dX2_learnLaw_10 rfl (lv_at hl 0 rfl) ?_
    refine s_get (v := .ref (ad 3)) C0 hK hW 0 2 LY_X2X6X4_0 rfl fg_X2_18 rfl dX2_learnLaw_11 ?_
    refine lv_iload_n C0.1 C0.2.1 dX2_learnLaw_14 rfl (lv_at hl 3 rfl) ?_
    refine lv_iconst (v := 2) C0.1 C0.2.1 dX2_learnLaw_15 kI_2 ?_
    refine lv_imul C0.1 C0.2.1 dX2_learnLaw_16 ?_
    refine lv_iconst (v := 0) C0.1 C0.2.1 dX2_learnLaw_17 kI_0 ?_
    obtain ⟨hb2, hf⟩ := g_some hf
    refine s_iast (f := (upd d_lawful (Int32.toNatClampNeg (v3 * 2)) 0)) C0 hK hW 3 LY_X2X6X4_3 hb2 rfl rfl dX2_learnLaw_18 (fun H locs hW => ?_)
    have hW : wd D (dn cy LY_X2X6X4 ad P V (gp I [(17, 2, t_law_waiting)]) (gp J []) (gm A [(3, (upd d_lawful (Int32.toNatClampNeg (v3 * 2)) 0)), (19, t_law_stack)]) (gm B [])) Af s.heap H locs := hW
    refine lv_aload_n C0.1 C0.2.1 dX2_learnLaw_19 rfl (lv_at hl 0 rfl) ?_
    refine s_get (v := .ref (ad 3)) C0 hK hW 0 2 LY_X2X6X4_0 rfl fg_X2_18 rfl dX2_learnLaw_20 ?_
    refine lv_iload_n C0.1 C0.2.1 dX2_learnLaw_23 rfl (lv_at hl 3 rfl) ?_
    refine lv_iconst (v := 2) C0.1 C0.2.1 dX2_learnLaw_24 kI_2 ?_
    refine lv_imul C0.1 C0.2.1 dX2_learnLaw_25 ?_
    refine lv_iconst (v := 1) C0.1 C0.2.1 dX2_learnLaw_26 kI_1 ?_
    refine lv_iadd C0.1 C0.2.1 dX2_learnLaw_27 ?_
    refine lv_iconst (v := 0) C0.1 C0.2.1 dX2_learnLaw_28 kI_0 ?_
    obtain ⟨hb3, hf⟩ := g_some hf
    refine s_iast (f := (upd (upd d_lawful (Int32.toNatClampNeg (v3 * 2)) 0) (Int32.toNatClampNeg ((v3 * 2) + 1)) 0)) C0 hK hW 3 LY_X2X6X4_3 hb3 rfl rfl dX2_learnLaw_29 (fun H locs hW => ?_)
    have hW : wd D (dn cy LY_X2X6X4 ad P V (gp I [(17, 2, t_law_waiting)]) (gp J []) (gm A [(3, (upd (upd d_lawful (Int32.toNatClampNeg (v3 * 2)) 0) (Int32.toNatClampNeg ((v3 * 2) + 1)) 0)), (19, t_law_stack)]) (gm B [])) Af s.heap H locs := hW
    refine lv_iconst (v := 0) C0.1 C0.2.1 dX2_learnLaw_30 kI_0 ?_
    refine lv_istore (lv' := [(4, .int 0), (0, .ref (ad 0)), (1, .ref (ad 5)), (2, .ref (ad 20)), (3, .int v3)]) C0.1 C0.2.1 dX2_learnLaw_31 hl (by decide) rfl (fun ls hl => ?_)
    exact TX2_learnLaw_33 C0 hK hN hA hk2 FU t_law_waiting (upd (upd d_lawful (Int32.toNatClampNeg (v3 * 2)) 0) (Int32.toNatClampNeg ((v3 * 2) + 1)) 0) t_law_stack v3 0 H locs ls hW (lv_sub hl [1, 2, 3, 4, 0] rfl) hf
theorem TX2_learnLaw_2 {p : Program} {l : Launch} {e : Env} {s : State} {m : MethodId} {args : Array Value} {below : List Frame} {meth : Method} {c : Code} {D : va_G} {cy : Nat → ClassId} {ad : Nat → Nat} {P : MP} {V : MV} {I : MI} {J : MJ} {A : MI} {B : MJ} {Af : Nat → Prop} {res : Int32 × (Nat → Int32) × (Nat → Int32)} (C0 : CX p s m args meth c cX2_learnLaw 6 none RX2) (hK : va_K D vwCl (tyG cy) s) (hN : NWs s) (hA : ∀ q, s.heap.size ≤ q → Af q) : ∀ n, SX2_learnLaw_2 p l e s m args below meth c D cy ad P V I J A B Af res (itr (fun kk => fX2_learnLaw_2 (I 5 13) (I 5 14) (I 17 4) (I 20 3) (A 10) (A 18) (A 21) kk) (fun _ _ _ _ => none) n) := by
  intro n
  induction n with
  | zero => intro t_law_waiting d_lawful t_law_stack v3 H locs ls hW hl hf; exact (nomatch (show (none : Option (Int32 × (Nat → Int32) × (Nat → Int32))) = some res from hf))
  | succ n ih => exact tX2_learnLaw_2 C0 hK hN hA  ih
def fX2_learnLaw (t_holes : Int32) (t_guests : Int32) (t_law_length : Int32) (s_date : Int32) (t_holeFlags : (Nat → Int32)) (t_law_code : (Nat → Int32)) (s_coal : (Nat → Int32)) (t_law_waiting : Int32) (d_lawful : (Nat → Int32)) (t_law_stack : (Nat → Int32)) : Option (Int32 × (Nat → Int32) × (Nat → Int32)) := itr (fun kk => fX2_learnLaw_2 t_holes t_guests t_law_length s_date t_holeFlags t_law_code s_coal kk) (fun _ _ _ _ => none) FU t_law_waiting d_lawful t_law_stack 0
set_option maxHeartbeats 4000000 in
set_option maxRecDepth 100000 in
theorem KX2_learnLaw (l : Launch) (D : va_G) (cy : Nat → ClassId) (ad : Nat → Nat) (P : MP) (V : MV) (I : MI) (J : MJ) (A : MI) (B : MJ) {res : Int32 × (Nat → Int32) × (Nat → Int32)} (hf : fX2_learnLaw (I 5 13) (I 5 14) (I 17 4) (I 20 3) (A 10) (A 18) (A 21) (I 17 2) (A 3) (A 19) = some res) : CG l yX2_learnLaw cX2_learnLaw 6 none rmX2_learnLaw D cy (dn cy LY_X2X6X4 ad P V I J A B) [.ref (ad 0), .ref (ad 5), .ref (ad 20)] none (dn cy LY_X2X6X4 ad P V (gp I [(17, 2, res.1)]) (gp J []) (gm A [(3, res.2.1), (19, res.2.2)]) (gm B [])) := by
  refine CG.of (own := RX2) (by decide) rfl rfl ?_
  intro p e s m below meth c ls Af C0 hK hN hA hW hl
  have hW : wd D (dn cy LY_X2X6X4 ad P V (gp I [(17, 2, (I 17 2))]) (gp J []) (gm A [(3, (A 3)), (19, (A 19))]) (gm B [])) Af s.heap s.heap [] := wd_sel [(17, 2)] [] [3, 19] [] hW
  have hl : lv_has ls 6 [(0, .ref (ad 0)), (1, .ref (ad 5)), (2, .ref (ad 20))] := hl
  unfold fX2_learnLaw at hf
  refine lv_iconst (v := 0) C0.1 C0.2.1 dX2_learnLaw_0 kI_0 ?_
  refine lv_istore_n (lv' := [(3, .int 0), (0, .ref (ad 0)), (1, .ref (ad 5)), (2, .ref (ad 20))]) C0.1 C0.2.1 dX2_learnLaw_1 rfl hl (by decide) rfl (fun ls hl => ?_)
  exact TX2_learnLaw_2 C0 hK hN hA  FU (I 17 2) (A 3) (A 19) 0 _ _ ls hW (lv_sub hl [1, 2, 3, 0] rfl) hf
