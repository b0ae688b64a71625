-- X9_mark
def rmX9_mark : Room := { frames := 2, cells := 0, slots := 0, locals := 45 }
def SX9_mark_59 (p : Program) (l : Launch) (e : Env) (s : State) (m : MethodId) (args : Array Value) (below : List Frame) (meth : Method) (c : Code) (D : va_G) (cy : Nat → ClassId) (ad : Nat → Nat) (P : MP) (V : MV) (I : MI) (J : MJ) (A : MI) (B : MJ) (Af : Nat → Prop) (res : Int32 × Int32 × Int32 × (Nat → Int32) × (Nat → Int32) × (Nat → Int32) × (Nat → Int32) × (Nat → Int32) × (Nat → Int32) × (Nat → Int32) × (Nat → Int32) × (Nat → Int32) × (Nat → Int32)) (k : Int32 → Int32 → (Nat → Int32) → (Nat → Int32) → (Nat → Int32) → (Nat → Int32) → (Nat → Int32) → (Nat → Int32) → (Nat → Int32) → (Nat → Int32) → (Nat → Int32) → (Nat → Int32) → Int32 → Int32 → Int32 → Int32 → Option (Int32 × Int32 × Int32 × (Nat → Int32) × (Nat → Int32) × (Nat → Int32) × (Nat → Int32) × (Nat → Int32) × (Nat → Int32) × (Nat → Int32) × (Nat → Int32) × (Nat → Int32) × (Nat → Int32))) : Prop := ∀ (m_thrown : Int32) (m_done : Int32) (m_lines : (Nat → Int32)) (m_lineWhat : (Nat → Int32)) (m_lineA : (Nat → Int32)) (m_lineB : (Nat → Int32)) (m_heards : (Nat → Int32)) (m_heardDays : (Nat → Int32)) (m_heardSome : (Nat → Int32)) (m_s : (Nat → Int32)) (m_marked : (Nat → Int32)) (m_isLaid : (Nat → Int32)) (v1 : Int32) (v2 : Int32) (v3 : Int32) (x0 : Int32) (H : Heap) (locs : List Loc) (ls : Array Slot), wd D (dn cy LY_X9 ad P V (gp I [(0, 0, m_thrown), (0, 53, m_done)]) (gp J []) (gm A [(28, m_lines), (29, m_lineWhat), (30, m_lineA), (31, m_lineB), (32, m_heards), (33, m_heardDays), (34, m_heardSome), (35, m_s), (38, m_marked), (40, m_isLaid)]) (gm B [])) Af s.heap H locs → lv_has ls 5 [(0, .ref (ad 0)), (1, .int v1), (2, .int v2), (3, .int v3)] → k m_thrown m_done m_lines m_lineWhat m_lineA m_lineB m_heards m_heardDays m_heardSome m_s m_marked m_isLaid v1 v2 v3 x0 = some res → W p l e rmX9_mark s m args below meth c H locs 0 0 (ZQ below D cy (dn cy LY_X9 ad P V (gp I [(0, 0, res.2.1), (0, 53, res.2.2.1)]) (gp J []) (gm A [(28, res.2.2.2.1), (29, res.2.2.2.2.1), (30, res.2.2.2.2.2.1), (31, res.2.2.2.2.2.2.1), (32, res.2.2.2.2.2.2.2.1), (33, res.2.2.2.2.2.2.2.2.1), (34, res.2.2.2.2.2.2.2.2.2.1), (35, res.2.2.2.2.2.2.2.2.2.2.1), (38, res.2.2.2.2.2.2.2.2.2.2.2.1), (40, res.2.2.2.2.2.2.2.2.2.2.2.2)]) (gm B [])) (some (.int res.1)) Af args s) (F0 m 59 ls [.int x0])
def SX9_mark_47 (p : Program) (l : Launch) (e : Env) (s : State) (m : MethodId) (args : Array Value) (below : List Frame) (meth : Method) (c : Code) (D : va_G) (cy : Nat → ClassId) (ad : Nat → Nat) (P : MP) (V : MV) (I : MI) (J : MJ) (A : MI) (B : MJ) (Af : Nat → Prop) (res : Int32 × Int32 × Int32 × (Nat → Int32) × (Nat → Int32) × (Nat → Int32) × (Nat → Int32) × (Nat → Int32) × (Nat → Int32) × (Nat → Int32) × (Nat → Int32) × (Nat → Int32) × (Nat → Int32)) (k : Int32 → Int32 → (Nat → Int32) → (Nat → Int32) → (Nat → Int32) → (Nat → Int32) → (Nat → Int32) → (Nat → Int32) → (Nat → Int32) → (Nat → Int32) → (Nat → Int32) → (Nat → Int32) → Int32 → Int32 → Int32 → Option (Int32 × Int32 × Int32 × (Nat → Int32) × (Nat → Int32) × (Nat → Int32) × (Nat → Int32) × (Nat → Int32) × (Nat → Int32) × (Nat → Int32) × (Nat → Int32) × (Nat → Int32) × (Nat → Int32))) : Prop := ∀ (m_thrown : Int32) (m_done : Int32) (m_lines : (Nat → Int32)) (m_lineWhat : (Nat → Int32)) (m_lineA : (Nat → Int32)) (m_lineB : (Nat → Int32)) (m_heards : (Nat → Int32)) (m_heardDays : (Nat → Int32)) (m_heardSome : (Nat → Int32)) (m_s : (Nat → Int32)) (m_marked : (Nat → Int32)) (m_isLaid : (Nat → Int32)) (v1 : Int32) (v2 : Int32) (x0 : Int32) (H : Heap) (locs : List Loc) (ls : Array Slot), wd D (dn cy LY_X9 ad P V (gp I [(0, 0, m_thrown), (0, 53, m_done)]) (gp J []) (gm A [(28, m_lines), (29, m_lineWhat), (30, m_lineA), (31, m_lineB), (32, m_heards), (33, m_heardDays), (34, m_heardSome), (35, m_s), (38, m_marked), (40, m_isLaid)]) (gm B [])) Af s.heap H locs → lv_has ls 5 [(0, .ref (ad 0)), (1, .int v1), (2, .int v2)] → k m_thrown m_done m_lines m_lineWhat m_lineA m_lineB m_heards m_heardDays m_heardSome m_s m_marked m_isLaid v1 v2 x0 = some res → W p l e rmX9_mark s m args below meth c H locs 0 0 (ZQ below D cy (dn cy LY_X9 ad P V (gp I [(0, 0, res.2.1), (0, 53, res.2.2.1)]) (gp J []) (gm A [(28, res.2.2.2.1), (29, res.2.2.2.2.1), (30, res.2.2.2.2.2.1), (31, res.2.2.2.2.2.2.1), (32, res.2.2.2.2.2.2.2.1), (33, res.2.2.2.2.2.2.2.2.1), (34, res.2.2.2.2.2.2.2.2.2.1), (35, res.2.2.2.2.2.2.2.2.2.2.1), (38, res.2.2.2.2.2.2.2.2.2.2.2.1), (40, res.2.2.2.2.2.2.2.2.2.2.2.2)]) (gm B [])) (some (.int res.1)) Af args s) (F0 m 47 ls [.int x0])
def SX9_mark_29 (p : Program) (l : Launch) (e : Env) (s : State) (m : MethodId) (args : Array Value) (below : List Frame) (meth : Method) (c : Code) (D : va_G) (cy : Nat → ClassId) (ad : Nat → Nat) (P : MP) (V : MV) (I : MI) (J : MJ) (A : MI) (B : MJ) (Af : Nat → Prop) (res : Int32 × Int32 × Int32 × (Nat → Int32) × (Nat → Int32) × (Nat → Int32) × (Nat → Int32) × (Nat → Int32) × (Nat → Int32) × (Nat → Int32) × (Nat → Int32) × (Nat → Int32) × (Nat → Int32)) (k : Int32 → Int32 → (Nat → Int32) → (Nat → Int32) → (Nat → Int32) → (Nat → Int32) → (Nat → Int32) → (Nat → Int32) → (Nat → Int32) → (Nat → Int32) → (Nat → Int32) → (Nat → Int32) → Int32 → Int32 → Option (Int32 × Int32 × Int32 × (Nat → Int32) × (Nat → Int32) × (Nat → Int32) × (Nat → Int32) × (Nat → Int32) × (Nat → Int32) × (Nat → Int32) × (Nat → Int32) × (Nat → Int32) × (Nat → Int32))) : Prop := ∀ (m_thrown : Int32) (m_done : Int32) (m_lines : (Nat → Int32)) (m_lineWhat : (Nat → Int32)) (m_lineA : (Nat → Int32)) (m_lineB : (Nat → Int32)) (m_heards : (Nat → Int32)) (m_heardDays : (Nat → Int32)) (m_heardSome : (Nat → Int32)) (m_s : (Nat → Int32)) (m_marked : (Nat → Int32)) (m_isLaid : (Nat → Int32)) (v1 : Int32) (v2 : Int32) (H : Heap) (locs : List Loc) (ls : Array Slot), wd D (dn cy LY_X9 ad P V (gp I [(0, 0, m_thrown), (0, 53, m_done)]) (gp J []) (gm A [(28, m_lines), (29, m_lineWhat), (30, m_lineA), (31, m_lineB), (32, m_heards), (33, m_heardDays), (34, m_heardSome), (35, m_s), (38, m_marked), (40, m_isLaid)]) (gm B [])) Af s.heap H locs → lv_has ls 5 [(0, .ref (ad 0)), (1, .int v1), (2, .int v2)] → k m_thrown m_done m_lines m_lineWhat m_lineA m_lineB m_heards m_heardDays m_heardSome m_s m_marked m_isLaid v1 v2 = some res → W p l e rmX9_mark s m args below meth c H locs 0 0 (ZQ below D cy (dn cy LY_X9 ad P V (gp I [(0, 0, res.2.1), (0, 53, res.2.2.1)]) (gp J []) (gm A [(28, res.2.2.2.1), (29, res.2.2.2.2.1), (30, res.2.2.2.2.2.1), (31, res.2.2.2.2.2.2.1), (32, res.2.2.2.2.2.2.2.1), (33, res.2.2.2.2.2.2.2.2.1), (34, res.2.2.2.2.2.2.2.2.2.1), (35, res.2.2.2.2.2.2.2.2.2.2.1), (38, res.2.2.2.2.2.2.2.2.2.2.2.1), (40, res.2.2.2.2.2.2.2.2.2.2.2.2)]) (gm B [])) (some (.int res.1)) Af args s) (F0 m 29 ls [])
def fX9_mark_59 (m_thrown : Int32) (m_done : Int32) (m_lines : (Nat → Int32)) (m_lineWhat : (Nat → Int32)) (m_lineA : (Nat → Int32)) (m_lineB : (Nat → Int32)) (m_heards : (Nat → Int32)) (m_heardDays : (Nat → Int32)) (m_heardSome : (Nat → Int32)) (m_s : (Nat → Int32)) (m_marked : (Nat → Int32)) (m_isLaid : (Nat → Int32)) (v1 : Int32) (v2 : Int32) (v3 : Int32) (x0 : Int32) : Option (Int32 × Int32 × Int32 × (Nat → Int32) × (Nat → Int32) × (Nat → Int32) × (Nat → Int32) × (Nat → Int32) × (Nat → Int32) × (Nat → Int32) × (Nat → Int32) × (Nat → Int32) × (Nat → Int32)) := Option.bind (fX9_laysLines m_lines m_lineWhat m_lineA m_lineB v3 x0) fun y1 => (Option.bind (fX9_laysHeard m_heards m_heardDays m_heardSome v3 x0) fun y2 => (if v2 = 0 then (Option.bind (fX9_copies 13 52 m_s m_marked 0 (13 * v1)) fun y4 => (some (1, m_thrown, m_done, y1.1, y1.2.1, y1.2.2.1, y1.2.2.2, y2.1, y2.2.1, y2.2.2, m_s, y4, m_isLaid))) else (Option.bind (fX9_copies 52 13 m_marked m_s (13 * v1) 0) fun y5 => (some (1, m_thrown, 0, y1.1, y1.2.1, y1.2.2.1, y1.2.2.2, y2.1, y2.2.1, y2.2.2, y5, m_marked, m_isLaid)))))
set_option maxHeartbeats 4000000 in
set_option maxRecDepth 100000 in
theorem tX9_mark_59 {p : Program} {l : Launch} {e : Env} {s : State} {m : MethodId} {args : Array Value} {below : List Frame} {meth : Method} {c : Code} {D : va_G} {cy : Nat → ClassId} {ad : Nat → Nat} {P : MP} {V : MV} {I : MI} {J : MJ} {A : MI} {B : MJ} {Af : Nat → Prop} {res : Int32 × Int32 × Int32 × (Nat → Int32) × (Nat → Int32) × (Nat → Int32) × (Nat → Int32) × (Nat → Int32) × (Nat → Int32) × (Nat → Int32) × (Nat → Int32) × (Nat → Int32) × (Nat → Int32)} (C0 : CX p s m args meth c cX9_mark 5 (some .boolean) RX9) (hK : va_K D vwCl (tyG cy) s) (hN : NWs s) (hA : ∀ q, s.heap.size ≤ q → Af q) : SX9_mark_59 p l e s m args below meth c D cy ad P V I J A B Af res (fX9_mark_59 ) := by
  intro m_thrown m_done m_lines m_lineWhat m_lineA m_lineB m_heards m_heardDays m_heardSome m_s m_marked m_isLaid v1 v2 v3 x0 H locs ls hW hl hf
  unfold fX9_mark_59 at hf
  refine lv_istore (lv' := [(4, .int x0), (0, .ref (ad 0)), (1, .int v1), (2, .int v2), (3, .int v3)]) C0.1 C0.2.1 dX9_mark_59 hl (by decide) rfl (fun ls hl => ?_)
  refine lv_aload_n C0.1 C0.2.1 dX9_mark_61 rfl (lv_at hl 1 rfl) ?_
  refine lv_iload_n C0.1 C0.2.1 dX9_mark_62 rfl (lv_at hl 4 rfl) ?_
  refine lv_iload C0.1 C0.2.1 dX9_mark_63 (lv_at hl 0 rfl) ?_
  obtain ⟨y1, hy1, hf⟩ := b_some hf
  refine c_Vv C0 hK hN hl.1 hW hA (KX9_laysLines l D cy  ad P V (gp I [(0, 0, m_thrown), (0, 53, m_done)]) (gp J []) (gm A [(28, m_lines), (29, m_lineWhat), (30, m_lineA), (31, m_lineB), (32, m_heards), (33, m_heardDays), (34, m_heardSome), (35, m_s), (38, m_marked), (40, m_isLaid)]) (gm B []) v3 x0 hy1) (JN_id rfl rfl rfl rfl) (Uw_V uw_1412 uw_1414 us_65 uw_14 uw_1415) rfl rfl hd_X9_laysLines ⟨rfl, rfl⟩ rfl (dn_some LY_X9_0) rfl rfl rfl dX9_mark_65 ⟨Nat.zero_le _, Nat.zero_le _⟩ (fun H locs hW => ?_)
  have hW : wd D (dn cy LY_X9 ad P V (gp I [(0, 0, m_thrown), (0, 53, m_done)]) (gp J []) (gm A [(28, y1.1), (29, y1.2.1), (30, y1.2.2.1), (31, y1.2.2.2), (32, m_heards), (33, m_heardDays), (34, m_heardSome), (35, m_s), (38, m_marked), (40, m_isLaid)]) (gm B [])) Af s.heap H locs := hW
  refine lv_aload_n C0.1 C0.2.1 dX9_mark_68 rfl (lv_at hl 1 rfl) ?_
  refine lv_iload_n C0.1 C0.2.1 dX9_mark_69 rfl (lv_at hl 4 rfl) ?_
  refine lv_iload C0.1 C0.2.1 dX9_mark_70 (lv_at hl 0 rfl) ?_
  obtain ⟨y2, hy2, hf⟩ := b_some hf
  refine c_Vv C0 hK hN hl.1 hW hA (KX9_laysHeard l D cy  ad P V (gp I [(0, 0, m_thrown), (0, 53, m_done)]) (gp J []) (gm A [(28, y1.1), (29, y1.2.1), (30, y1.2.2.1), (31, y1.2.2.2), (32, m_heards), (33, m_heardDays), (34, m_heardSome), (35, m_s), (38, m_marked), (40, m_isLaid)]) (gm B []) v3 x0 hy2) (JN_id rfl rfl rfl rfl) (Uw_V uw_1656 uw_1658 us_97 uw_14 uw_1659) rfl rfl hd_X9_laysHeard ⟨rfl, rfl⟩ rfl (dn_some LY_X9_0) rfl rfl rfl dX9_mark_72 ⟨Nat.zero_le _, Nat.zero_le _⟩ (fun H locs hW => ?_)
  have hW : wd D (dn cy LY_X9 ad P V (gp I [(0, 0, m_thrown), (0, 53, m_done)]) (gp J []) (gm A [(28, y1.1), (29, y1.2.1), (30, y1.2.2.1), (31, y1.2.2.2), (32, y2.1), (33, y2.2.1), (34, y2.2.2), (35, m_s), (38, m_marked), (40, m_isLaid)]) (gm B [])) Af s.heap H locs := hW
  refine lv_iload_n C0.1 C0.2.1 dX9_mark_75 rfl (lv_at hl 3 rfl) ?_
  refine lv_if_eq (tgt := 103) C0.1 C0.2.1 dX9_mark_76 (by decide) (fun hc3 => ?_) (fun hc3 => ?_)
  · have hf := ite_t hc3 hf
    refine lv_aload_n C0.1 C0.2.1 dX9_mark_103 rfl (lv_at hl 1 rfl) ?_
    refine s_get (v := .ref (ad 35)) C0 hK hW 0 47 LY_X9_0 rfl fg_X9_114 rfl dX9_mark_104 ?_
    refine lv_iconst (v := 0) C0.1 C0.2.1 dX9_mark_107 kI_0 ?_
    refine lv_aload_n C0.1 C0.2.1 dX9_mark_108 rfl (lv_at hl 1 rfl) ?_
    refine s_get (v := .ref (ad 38)) C0 hK hW 0 50 LY_X9_0 rfl fg_X9_123 rfl dX9_mark_109 ?_
    refine lv_bipush (v := 13) C0.1 C0.2.1 dX9_mark_112 kB_13 ?_
    refine lv_iload_n C0.1 C0.2.1 dX9_mark_114 rfl (lv_at hl 2 rfl) ?_
    refine lv_imul C0.1 C0.2.1 dX9_mark_115 ?_
    obtain ⟨y4, hy4, hf⟩ := b_some hf
    refine c_Sv C0 hK hN hl.1 hW hA (KX9_copies l D cy 13 52 (fun q => ad (pl_LY_X9_LY_aIaI_35_38.getD q 0)) (fun q => P (pl_LY_X9_LY_aIaI_35_38.getD q 0)) (fun q => Vx LY_X9 ad V (pl_LY_X9_LY_aIaI_35_38.getD q 0)) (fun q => gp I [(0, 0, m_thrown), (0, 53, m_done)] (pl_LY_X9_LY_aIaI_35_38.getD q 0)) (fun q => gp J [] (pl_LY_X9_LY_aIaI_35_38.getD q 0)) (fun q => gm A [(28, y1.1), (29, y1.2.1), (30, y1.2.2.1), (31, y1.2.2.2), (32, y2.1), (33, y2.2.1), (34, y2.2.2), (35, m_s), (38, m_marked), (40, m_isLaid)] (pl_LY_X9_LY_aIaI_35_38.getD q 0)) (fun q => gm B [] (pl_LY_X9_LY_aIaI_35_38.getD q 0)) 0 (13 * v1) hy4) (JN_subC (pl := pl_LY_X9_LY_aIaI_35_38) sb_LY_X9_LY_aIaI_35_38 rfl rfl rfl rfl rfl rfl rfl rfl rfl) ⟨uw_1495, uw_1496, uw_14, uw_1497⟩ rfl rfl hd_X9_copies ⟨rfl, rfl⟩ rfl rfl rfl dX9_mark_116 ⟨Nat.zero_le _, Nat.zero_le _⟩ (fun H locs hW => ?_)
    have hW : wd D (dn cy LY_X9 ad P V (gp I [(0, 0, m_thrown), (0, 53, m_done)]) (gp J []) (gm A [(28, y1.1), (29, y1.2.1), (30, y1.2.2.1), (31, y1.2.2.2), (32, y2.1), (33, y2.2.1), (34, y2.2.2), (35, m_s), (38, y4), (40, m_isLaid)]) (gm B [])) Af s.heap H locs := hW
    refine lv_iconst (v := 1) C0.1 C0.2.1 dX9_mark_119 kI_1 ?_
    obtain rfl := Option.some.inj hf
    exact r_bool C0 hK hW (v' := 1) rfl dX9_mark_120
  · have hf := ite_f hc3 hf
    refine lv_aload_n C0.1 C0.2.1 dX9_mark_79 rfl (lv_at hl 1 rfl) ?_
    refine s_get (v := .ref (ad 38)) C0 hK hW 0 50 LY_X9_0 rfl fg_X9_123 rfl dX9_mark_80 ?_
    refine lv_bipush (v := 13) C0.1 C0.2.1 dX9_mark_83 kB_13 ?_
    refine lv_iload_n C0.1 C0.2.1 dX9_mark_85 rfl (lv_at hl 2 rfl) ?_
    refine lv_imul C0.1 C0.2.1 dX9_mark_86 ?_
    refine lv_aload_n C0.1 C0.2.1 dX9_mark_87 rfl (lv_at hl 1 rfl) ?_
    refine s_get (v := .ref (ad 35)) C0 hK hW 0 47 LY_X9_0 rfl fg_X9_114 rfl dX9_mark_88 ?_
    refine lv_iconst (v := 0) C0.1 C0.2.1 dX9_mark_91 kI_0 ?_
    obtain ⟨y5, hy5, hf⟩ := b_some hf
    refine c_Sv C0 hK hN hl.1 hW hA (KX9_copies l D cy 52 13 (fun q => ad (pl_LY_X9_LY_aIaI_38_35.getD q 0)) (fun q => P (pl_LY_X9_LY_aIaI_38_35.getD q 0)) (fun q => Vx LY_X9 ad V (pl_LY_X9_LY_aIaI_38_35.getD q 0)) (fun q => gp I [(0, 0, m_thrown), (0, 53, m_done)] (pl_LY_X9_LY_aIaI_38_35.getD q 0)) (fun q => gp J [] (pl_LY_X9_LY_aIaI_38_35.getD q 0)) (fun q => gm A [(28, y1.1), (29, y1.2.1), (30, y1.2.2.1), (31, y1.2.2.2), (32, y2.1), (33, y2.2.1), (34, y2.2.2), (35, m_s), (38, m_marked), (40, m_isLaid)] (pl_LY_X9_LY_aIaI_38_35.getD q 0)) (fun q => gm B [] (pl_LY_X9_LY_aIaI_38_35.getD q 0)) (13 * v1) 0 hy5) (JN_subC (pl := pl_LY_X9_LY_aIaI_38_35) sb_LY_X9_LY_aIaI_38_35 rfl rfl rfl rfl rfl rfl rfl rfl rfl) ⟨uw_1495, uw_1496, uw_14, uw_1497⟩ rfl rfl hd_X9_copies ⟨rfl, rfl⟩ rfl rfl rfl dX9_mark_92 ⟨Nat.zero_le _, Nat.zero_le _⟩ (fun H locs hW => ?_)
    have hW : wd D (dn cy LY_X9 ad P V (gp I [(0, 0, m_thrown), (0, 53, m_done)]) (gp J []) (gm A [(28, y1.1), (29, y1.2.1), (30, y1.2.2.1), (31, y1.2.2.2), (32, y2.1), (33, y2.2.1), (34, y2.2.2), (35, y5), (38, m_marked), (40, m_isLaid)]) (gm B [])) Af s.heap H locs := hW
    refine lv_aload_n C0.1 C0.2.1 dX9_mark_95 rfl (lv_at hl 1 rfl) ?_
    refine lv_iconst (v := 0) C0.1 C0.2.1 dX9_mark_96 kI_0 ?_
    refine s_putI C0 hK hW 0 53 LY_X9_0 rfl fg_X9_354 fp_X9_53 rfl dX9_mark_97 (fun H locs hW => ?_)
    have hW : wd D (dn cy LY_X9 ad P V (gp I [(0, 0, m_thrown), (0, 53, 0)]) (gp J []) (gm A [(28, y1.1), (29, y1.2.1), (30, y1.2.2.1), (31, y1.2.2.2), (32, y2.1), (33, y2.2.1), (34, y2.2.2), (35, y5), (38, m_marked), (40, m_isLaid)]) (gm B [])) Af s.heap H locs := hW
    refine lv_goto (tgt := 119) C0.1 C0.2.1 dX9_mark_100 (by decide) ?_
    refine lv_iconst (v := 1) C0.1 C0.2.1 dX9_mark_119 kI_1 ?_
    obtain rfl := Option.some.inj hf
    exact r_bool C0 hK hW (v' := 1) rfl dX9_mark_120
def fX9_mark_47 (m_thrown : Int32) (m_done : Int32) (m_lines : (Nat → Int32)) (m_lineWhat : (Nat → Int32)) (m_lineA : (Nat → Int32)) (m_lineB : (Nat → Int32)) (m_heards : (Nat → Int32)) (m_heardDays : (Nat → Int32)) (m_heardSome : (Nat → Int32)) (m_s : (Nat → Int32)) (m_marked : (Nat → Int32)) (m_isLaid : (Nat → Int32)) (v1 : Int32) (v2 : Int32) (x0 : Int32) : Option (Int32 × Int32 × Int32 × (Nat → Int32) × (Nat → Int32) × (Nat → Int32) × (Nat → Int32) × (Nat → Int32) × (Nat → Int32) × (Nat → Int32) × (Nat → Int32) × (Nat → Int32) × (Nat → Int32)) := if v2 = 0 then (fX9_mark_59 m_thrown m_done m_lines m_lineWhat m_lineA m_lineB m_heards m_heardDays m_heardSome m_s m_marked m_isLaid v1 v2 x0 (1 + v1)) else (fX9_mark_59 m_thrown m_done m_lines m_lineWhat m_lineA m_lineB m_heards m_heardDays m_heardSome m_s m_marked m_isLaid v1 v2 x0 0)
set_option maxHeartbeats 4000000 in
set_option maxRecDepth 100000 in
theorem tX9_mark_47 {p : Program} {l : Launch} {e : Env} {s : State} {m : MethodId} {args : Array Value} {below : List Frame} {meth : Method} {c : Code} {D : va_G} {cy : Nat → ClassId} {ad : Nat → Nat} {P : MP} {V : MV} {I : MI} {J : MJ} {A : MI} {B : MJ} {Af : Nat → Prop} {res : Int32 × Int32 × Int32 × (Nat → Int32) × (Nat → Int32) × (Nat → Int32) × (Nat → Int32) × (Nat → Int32) × (Nat → Int32) × (Nat → Int32) × (Nat → Int32) × (Nat → Int32) × (Nat → Int32)} (C0 : CX p s m args meth c cX9_mark 5 (some .boolean) RX9) (hK : va_K D vwCl (tyG cy) s) (hN : NWs s) (hA : ∀ q, s.heap.size ≤ q → Af q) : SX9_mark_47 p l e s m args below meth c D cy ad P V I J A B Af res (fX9_mark_47 ) := by
  intro m_thrown m_done m_lines m_lineWhat m_lineA m_lineB m_heards m_heardDays m_heardSome m_s m_marked m_isLaid v1 v2 x0 H locs ls hW hl hf
  unfold fX9_mark_47 at hf
  refine lv_istore_n (lv' := [(3, .int x0), (0, .ref (ad 0)), (1, .int v1), (2, .int v2)]) C0.1 C0.2.1 dX9_mark_47 rfl hl (by decide) rfl (fun ls hl => ?_)
  refine lv_iload_n C0.1 C0.2.1 dX9_mark_48 rfl (lv_at hl 3 rfl) ?_
  refine lv_if_eq (tgt := 56) C0.1 C0.2.1 dX9_mark_49 (by decide) (fun hc1 => ?_) (fun hc1 => ?_)
  · have hf := ite_t hc1 hf
    refine lv_iconst (v := 1) C0.1 C0.2.1 dX9_mark_56 kI_1 ?_
    refine lv_iload_n C0.1 C0.2.1 dX9_mark_57 rfl (lv_at hl 2 rfl) ?_
    refine lv_iadd C0.1 C0.2.1 dX9_mark_58 ?_
    exact tX9_mark_59 C0 hK hN hA  m_thrown m_done m_lines m_lineWhat m_lineA m_lineB m_heards m_heardDays m_heardSome m_s m_marked m_isLaid v1 v2 x0 (1 + v1) H locs ls hW (lv_sub hl [1, 2, 3, 0] rfl) hf
  · have hf := ite_f hc1 hf
    refine lv_iconst (v := 0) C0.1 C0.2.1 dX9_mark_52 kI_0 ?_
    refine lv_goto (tgt := 59) C0.1 C0.2.1 dX9_mark_53 (by decide) ?_
    exact tX9_mark_59 C0 hK hN hA  m_thrown m_done m_lines m_lineWhat m_lineA m_lineB m_heards m_heardDays m_heardSome m_s m_marked m_isLaid v1 v2 x0 0 H locs ls hW (lv_sub hl [1, 2, 3, 0] rfl) hf
def fX9_mark_29 (m_thrown : Int32) (m_done : Int32) (m_lines : (Nat → Int32)) (m_lineWhat : (Nat → Int32)) (m_lineA : (Nat → Int32)) (m_lineB : (Nat → Int32)) (m_heards : (Nat → Int32)) (m_heardDays : (Nat → Int32)) (m_heardSome : (Nat → Int32)) (m_s : (Nat → Int32)) (m_marked : (Nat → Int32)) (m_isLaid : (Nat → Int32)) (v1 : Int32) (v2 : Int32) : Option (Int32 × Int32 × Int32 × (Nat → Int32) × (Nat → Int32) × (Nat → Int32) × (Nat → Int32) × (Nat → Int32) × (Nat → Int32) × (Nat → Int32) × (Nat → Int32) × (Nat → Int32) × (Nat → Int32)) := bif inb v1 4 then (if v2 = 0 then (fX9_mark_47 m_thrown m_done m_lines m_lineWhat m_lineA m_lineB m_heards m_heardDays m_heardSome m_s m_marked (upd m_isLaid (Int32.toNatClampNeg v1) (vp_nar .boolean 1)) v1 v2 0) else (fX9_mark_47 m_thrown m_done m_lines m_lineWhat m_lineA m_lineB m_heards m_heardDays m_heardSome m_s m_marked (upd m_isLaid (Int32.toNatClampNeg v1) (vp_nar .boolean 1)) v1 v2 (1 + v1))) else none
set_option maxHeartbeats 4000000 in
set_option maxRecDepth 100000 in
theorem tX9_mark_29 {p : Program} {l : Launch} {e : Env} {s : State} {m : MethodId} {args : Array Value} {below : List Frame} {meth : Method} {c : Code} {D : va_G} {cy : Nat → ClassId} {ad : Nat → Nat} {P : MP} {V : MV} {I : MI} {J : MJ} {A : MI} {B : MJ} {Af : Nat → Prop} {res : Int32 × Int32 × Int32 × (Nat → Int32) × (Nat → Int32) × (Nat → Int32) × (Nat → Int32) × (Nat → Int32) × (Nat → Int32) × (Nat → Int32) × (Nat → Int32) × (Nat → Int32) × (Nat → Int32)} (C0 : CX p s m args meth c cX9_mark 5 (some .boolean) RX9) (hK : va_K D vwCl (tyG cy) s) (hN : NWs s) (hA : ∀ q, s.heap.size ≤ q → Af q) : SX9_mark_29 p l e s m args below meth c D cy ad P V I J A B Af res (fX9_mark_29 ) := by
  intro m_thrown m_done m_lines m_lineWhat m_lineA m_lineB m_heards m_heardDays m_heardSome m_s m_marked m_isLaid v1 v2 H locs ls hW hl hf
  unfold fX9_mark_29 at hf
  refine lv_aload_n C0.1 C0.2.1 dX9_mark_29 rfl (lv_at hl 0 rfl) ?_
  refine s_get (v := .ref (ad 40)) C0 hK hW 0 52 LY_X9_0 rfl fg_X9_129 rfl dX9_mark_30 ?_
  refine lv_iload_n C0.1 C0.2.1 dX9_mark_33 rfl (lv_at hl 1 rfl) ?_
  refine lv_iconst (v := 1) C0.1 C0.2.1 dX9_mark_34 kI_1 ?_
  obtain ⟨hb1, hf⟩ := g_some hf
  refine s_zast (f := (upd m_isLaid (Int32.toNatClampNeg v1) (vp_nar .boolean 1))) C0 hK hW 40 LY_X9_40 hb1 rfl rfl dX9_mark_35 (fun H locs hW => ?_)
  have hW : wd D (dn cy LY_X9 ad P V (gp I [(0, 0, m_thrown), (0, 53, m_done)]) (gp J []) (gm A [(28, m_lines), (29, m_lineWhat), (30, m_lineA), (31, m_lineB), (32, m_heards), (33, m_heardDays), (34, m_heardSome), (35, m_s), (38, m_marked), (40, (upd m_isLaid (Int32.toNatClampNeg v1) (vp_nar .boolean 1)))]) (gm B [])) Af s.heap H locs := hW
  refine lv_iload_n C0.1 C0.2.1 dX9_mark_36 rfl (lv_at hl 2 rfl) ?_
  refine lv_if_eq (tgt := 46) C0.1 C0.2.1 dX9_mark_37 (by decide) (fun hc2 => ?_) (fun hc2 => ?_)
  · have hf := ite_t hc2 hf
    refine lv_iconst (v := 0) C0.1 C0.2.1 dX9_mark_46 kI_0 ?_
    exact tX9_mark_47 C0 hK hN hA  m_thrown m_done m_lines m_lineWhat m_lineA m_lineB m_heards m_heardDays m_heardSome m_s m_marked (upd m_isLaid (Int32.toNatClampNeg v1) (vp_nar .boolean 1)) v1 v2 0 H locs ls hW hl hf
  · have hf := ite_f hc2 hf
    refine lv_iconst (v := 1) C0.1 C0.2.1 dX9_mark_40 kI_1 ?_
    refine lv_iload_n C0.1 C0.2.1 dX9_mark_41 rfl (lv_at hl 1 rfl) ?_
    refine lv_iadd C0.1 C0.2.1 dX9_mark_42 ?_
    refine lv_goto (tgt := 47) C0.1 C0.2.1 dX9_mark_43 (by decide) ?_
    exact tX9_mark_47 C0 hK hN hA  m_thrown m_done m_lines m_lineWhat m_lineA m_lineB m_heards m_heardDays m_heardSome m_s m_marked (upd m_isLaid (Int32.toNatClampNeg v1) (vp_nar .boolean 1)) v1 v2 (1 + v1) H locs ls hW hl hf
def fX9_mark (m_thrown : Int32) (m_done : Int32) (m_lines : (Nat → Int32)) (m_lineWhat : (Nat → Int32)) (m_lineA : (Nat → Int32)) (m_lineB : (Nat → Int32)) (m_heards : (Nat → Int32)) (m_heardDays : (Nat → Int32)) (m_heardSome : (Nat → Int32)) (m_s : (Nat → Int32)) (m_marked : (Nat → Int32)) (m_isLaid : (Nat → Int32)) (v1 : Int32) (v2 : Int32) : Option (Int32 × Int32 × Int32 × (Nat → Int32) × (Nat → Int32) × (Nat → Int32) × (Nat → Int32) × (Nat → Int32) × (Nat → Int32) × (Nat → Int32) × (Nat → Int32) × (Nat → Int32) × (Nat → Int32)) := Option.bind (fX9_within v1 0 3) fun y1 => (if y1 = 0 then (some (0, 0, m_done, m_lines, m_lineWhat, m_lineA, m_lineB, m_heards, m_heardDays, m_heardSome, m_s, m_marked, m_isLaid)) else (if v2 = 0 then (fX9_mark_29 0 m_done m_lines m_lineWhat m_lineA m_lineB m_heards m_heardDays m_heardSome m_s m_marked m_isLaid v1 v2) else (bif inb v1 4 then (if (m_isLaid (Int32.toNatClampNeg v1)) = 0 then (some (0, 0, m_done, m_lines, m_lineWhat, m_lineA, m_lineB, m_heards, m_heardDays, m_heardSome, m_s, m_marked, m_isLaid)) else (fX9_mark_29 0 m_done m_lines m_lineWhat m_lineA m_lineB m_heards m_heardDays m_heardSome m_s m_marked m_isLaid v1 v2)) else none)))
set_option maxHeartbeats 4000000 in
set_option maxRecDepth 100000 in
theorem KX9_mark (l : Launch) (D : va_G) (cy : Nat → ClassId) (ad : Nat → Nat) (P : MP) (V : MV) (I : MI) (J : MJ) (A : MI) (B : MJ) (v1 : Int32) (v2 : Int32) {res : Int32 × Int32 × Int32 × (Nat → Int32) × (Nat → Int32) × (Nat → Int32) × (Nat → Int32) × (Nat → Int32) × (Nat → Int32) × (Nat → Int32) × (Nat → Int32) × (Nat → Int32) × (Nat → Int32)} (hf : fX9_mark (I 0 0) (I 0 53) (A 28) (A 29) (A 30) (A 31) (A 32) (A 33) (A 34) (A 35) (A 38) (A 40) v1 v2 = some res) : CG l yX9_mark cX9_mark 5 (some .boolean) rmX9_mark D cy (dn cy LY_X9 ad P V I J A B) [.ref (ad 0), .int v1, .int v2] (some (.int res.1)) (dn cy LY_X9 ad P V (gp I [(0, 0, res.2.1), (0, 53, res.2.2.1)]) (gp J []) (gm A [(28, res.2.2.2.1), (29, res.2.2.2.2.1), (30, res.2.2.2.2.2.1), (31, res.2.2.2.2.2.2.1), (32, res.2.2.2.2.2.2.2.1), (33, res.2.2.2.2.2.2.2.2.1), (34, res.2.2.2.2.2.2.2.2.2.1), (35, res.2.2.2.2.2.2.2.2.2.2.1), (38, res.2.2.2.2.2.2.2.2.2.2.2.1), (40, res.2.2.2.2.2.2.2.2.2.2.2.2)]) (gm B [])) := by
  refine CG.of (own := RX9) (by decide) rfl rfl ?_
  intro p e s m below meth c ls Af C0 hK hN hA hW hl
  have hW : wd D (dn cy LY_X9 ad P V (gp I [(0, 0, (I 0 0)), (0, 53, (I 0 53))]) (gp J []) (gm A [(28, (A 28)), (29, (A 29)), (30, (A 30)), (31, (A 31)), (32, (A 32)), (33, (A 33)), (34, (A 34)), (35, (A 35)), (38, (A 38)), (40, (A 40))]) (gm B [])) Af s.heap s.heap [] := wd_sel [(0, 0), (0, 53)] [] [28, 29, 30, 31, 32, 33, 34, 35, 38, 40] [] hW
  have hl : lv_has ls 5 [(0, .ref (ad 0)), (1, .int v1), (2, .int v2)] := hl
  unfold fX9_mark at hf
  refine lv_aload_n C0.1 C0.2.1 dX9_mark_0 rfl (lv_at hl 0 rfl) ?_
  refine lv_iconst (v := 0) C0.1 C0.2.1 dX9_mark_1 kI_0 ?_
  refine s_putI C0 hK hW 0 0 LY_X9_0 rfl fg_X9_142 fp_X9_0 rfl dX9_mark_2 (fun H locs hW => ?_)
  have hW : wd D (dn cy LY_X9 ad P V (gp I [(0, 0, 0), (0, 53, (I 0 53))]) (gp J []) (gm A [(28, (A 28)), (29, (A 29)), (30, (A 30)), (31, (A 31)), (32, (A 32)), (33, (A 33)), (34, (A 34)), (35, (A 35)), (38, (A 38)), (40, (A 40))]) (gm B [])) Af s.heap H locs := hW
  refine lv_iload_n C0.1 C0.2.1 dX9_mark_5 rfl (lv_at hl 1 rfl) ?_
  refine lv_iconst (v := 0) C0.1 C0.2.1 dX9_mark_6 kI_0 ?_
  refine lv_iconst (v := 3) C0.1 C0.2.1 dX9_mark_7 kI_3 ?_
  obtain ⟨y1, hy1, hf⟩ := b_some hf
  refine c_Si C0 hK hN hl.1 hW hA (KX9_within l D cy  (fun q => ad (pl_LY_X9_LY_0_.getD q 0)) (fun q => P (pl_LY_X9_LY_0_.getD q 0)) (fun q => Vx LY_X9 ad V (pl_LY_X9_LY_0_.getD q 0)) (fun q => gp I [(0, 0, 0), (0, 53, (I 0 53))] (pl_LY_X9_LY_0_.getD q 0)) (fun q => gp J [] (pl_LY_X9_LY_0_.getD q 0)) (fun q => gm A [(28, (A 28)), (29, (A 29)), (30, (A 30)), (31, (A 31)), (32, (A 32)), (33, (A 33)), (34, (A 34)), (35, (A 35)), (38, (A 38)), (40, (A 40))] (pl_LY_X9_LY_0_.getD q 0)) (fun q => gm B [] (pl_LY_X9_LY_0_.getD q 0)) v1 0 3 hy1) (JN_subC (pl := pl_LY_X9_LY_0_) sb_LY_X9_LY_0_ rfl rfl rfl rfl rfl rfl rfl rfl rfl) ⟨uw_1331, uw_1332, uw_14, uw_1333⟩ rfl rfl hd_X9_within ⟨rfl, rfl⟩ rfl rfl rfl dX9_mark_8 ⟨Nat.zero_le _, Nat.zero_le _⟩ (fun H locs hW => ?_)
  have hW : wd D (dn cy LY_X9 ad P V (gp I [(0, 0, 0), (0, 53, (I 0 53))]) (gp J []) (gm A [(28, (A 28)), (29, (A 29)), (30, (A 30)), (31, (A 31)), (32, (A 32)), (33, (A 33)), (34, (A 34)), (35, (A 35)), (38, (A 38)), (40, (A 40))]) (gm B [])) Af s.heap H locs := hW
  refine lv_if_eq (tgt := 27) C0.1 C0.2.1 dX9_mark_11 (by decide) (fun hc2 => ?_) (fun hc2 => ?_)
  · have hf := ite_t hc2 hf
    refine lv_iconst (v := 0) C0.1 C0.2.1 dX9_mark_27 kI_0 ?_
    obtain rfl := Option.some.inj hf
    exact r_bool C0 hK hW (v' := 0) rfl dX9_mark_28
  · have hf := ite_f hc2 hf
    refine lv_iload_n C0.1 C0.2.1 dX9_mark_14 rfl (lv_at hl 2 rfl) ?_
    refine lv_if_eq (tgt := 29) C0.1 C0.2.1 dX9_mark_15 (by decide) (fun hc3 => ?_) (fun hc3 => ?_)
    · have hf := ite_t hc3 hf
      exact tX9_mark_29 C0 hK hN hA  0 (I 0 53) (A 28) (A 29) (A 30) (A 31) (A 32) (A 33) (A 34) (A 35) (A 38) (A 40) v1 v2 _ _ ls hW hl hf
    · have hf := ite_f hc3 hf
      refine lv_aload_n C0.1 C0.2.1 dX9_mark_18 rfl (lv_at hl 0 rfl) ?_
      refine s_get (v := .ref (ad 40)) C0 hK hW 0 52 LY_X9_0 rfl fg_X9_129 rfl dX9_mark_19 ?_
      refine lv_iload_n C0.1 C0.2.1 dX9_mark_22 rfl (lv_at hl 1 rfl) ?_
      obtain ⟨hb4, hf⟩ := g_some hf
      refine s_zald (v := ((A 40) (Int32.toNatClampNeg v1))) C0 hK hW 40 LY_X9_40 hb4 rfl dX9_mark_23 ?_
      refine lv_if_ne (tgt := 29) C0.1 C0.2.1 dX9_mark_24 (by decide) (fun hc5 => ?_) (fun hc5 => ?_)
      · have hf := ite_f hc5 hf
        exact tX9_mark_29 C0 hK hN hA  0 (I 0 53) (A 28) (A 29) (A 30) (A 31) (A 32) (A 33) (A 34) (A 35) (A 38) (A 40) v1 v2 _ _ ls hW hl hf
      · have hf := ite_t hc5 hf
        refine lv_iconst (v := 0) C0.1 C0.2.1 dX9_mark_27 kI_0 ?_
        obtain rfl := Option.some.inj hf
        exact r_bool C0 hK hW (v' := 0) rfl dX9_mark_28
-- X9_count
def rmX9_count : Room := { frames := 4, cells := 0, slots := 0, locals := 85 }
def fX9_count (m_taped : Int32) (m_done : Int32) (m_terrace : (Nat → Int32)) (m_cold : (Nat → Int32)) (m_lines : (Nat → Int32)) (m_heards : (Nat → Int32)) (m_s : (Nat → Int32)) (m_thrown : Int32) (v1 : Int32) : Option (Int32 × Int32) := Option.bind (fX9_within v1 0 12) fun y1 => (if y1 = 0 then (some ((-1), 0)) else (if 3 ≤ v1 then (if 6 ≤ v1 then (if 9 ≤ v1 then (if 11 ≤ v1 then (if v1 = 11 then (some (m_done, 0)) else (some (m_taped, 0))) else (if v1 = 9 then (some ((m_lines 0), 0)) else (some ((m_heards 0), 0)))) else (if v1 = 6 then (Option.bind (fX9_outsiders m_terrace m_s) fun y11 => (some (y11, 0))) else (if v1 = 7 then (some ((m_s 1), 0)) else (some ((m_s 2), 0))))) else (if v1 = 3 then (some ((m_s 0), 0)) else (if v1 = 4 then (Option.bind (fX9_coldOf m_terrace m_cold (m_s 0)) fun y15 => (some (y15, 0))) else (Option.bind (fX9_allCoal m_s) fun y14 => (some (y14, 0)))))) else (bif inb v1 8 then (some ((m_terrace (Int32.toNatClampNeg v1)), 0)) else none)))
set_option maxHeartbeats 4000000 in
set_option maxRecDepth 100000 in
theorem KX9_count (l : Launch) (D : va_G) (cy : Nat → ClassId) (ad : Nat → Nat) (P : MP) (V : MV) (I : MI) (J : MJ) (A : MI) (B : MJ) (v1 : Int32) {res : Int32 × Int32} (hf : fX9_count (I 0 1) (I 0 53) (A 2) (A 12) (A 28) (A 32) (A 35) (I 0 0) v1 = some res) : CG l yX9_count cX9_count 2 (some .int) rmX9_count D cy (dn cy LY_X9 ad P V I J A B) [.ref (ad 0), .int v1] (some (.int res.1)) (dn cy LY_X9 ad P V (gp I [(0, 0, res.2)]) (gp J []) (gm A []) (gm B [])) := by
  refine CG.of (own := RX9) (by decide) rfl rfl ?_
  intro p e s m below meth c ls Af C0 hK hN hA hW hl
  have hW : wd D (dn cy LY_X9 ad P V (gp I [(0, 0, (I 0 0))]) (gp J []) (gm A []) (gm B [])) Af s.heap s.heap [] := wd_sel [(0, 0)] [] [] [] hW
  have hl : lv_has ls 2 [(0, .ref (ad 0)), (1, .int v1)] := hl
  unfold fX9_count at hf
  refine lv_aload_n C0.1 C0.2.1 dX9_count_0 rfl (lv_at hl 0 rfl) ?_
  refine lv_iconst (v := 0) C0.1 C0.2.1 dX9_count_1 kI_0 ?_
  refine s_putI C0 hK hW 0 0 LY_X9_0 rfl fg_X9_142 fp_X9_0 rfl dX9_count_2 (fun H locs hW => ?_)
  have hW : wd D (dn cy LY_X9 ad P V (gp I [(0, 0, 0)]) (gp J []) (gm A []) (gm B [])) Af s.heap H locs := hW
  refine lv_iload_n C0.1 C0.2.1 dX9_count_5 rfl (lv_at hl 1 rfl) ?_
  refine lv_iconst (v := 0) C0.1 C0.2.1 dX9_count_6 kI_0 ?_
  refine lv_bipush (v := 12) C0.1 C0.2.1 dX9_count_7 kB_12 ?_
  obtain ⟨y1, hy1, hf⟩ := b_some hf
  refine c_Si C0 hK hN hl.1 hW hA (KX9_within l D cy  (fun q => ad (pl_LY_X9_LY_0_.getD q 0)) (fun q => P (pl_LY_X9_LY_0_.getD q 0)) (fun q => Vx LY_X9 ad V (pl_LY_X9_LY_0_.getD q 0)) (fun q => gp I [(0, 0, 0)] (pl_LY_X9_LY_0_.getD q 0)) (fun q => gp J [] (pl_LY_X9_LY_0_.getD q 0)) (fun q => gm A [] (pl_LY_X9_LY_0_.getD q 0)) (fun q => gm B [] (pl_LY_X9_LY_0_.getD q 0)) v1 0 12 hy1) (JN_subC (pl := pl_LY_X9_LY_0_) sb_LY_X9_LY_0_ rfl rfl rfl rfl rfl rfl rfl rfl rfl) ⟨uw_1331, uw_1332, uw_14, uw_1333⟩ rfl rfl hd_X9_within ⟨rfl, rfl⟩ rfl rfl rfl dX9_count_9 ⟨Nat.zero_le _, Nat.zero_le _⟩ (fun H locs hW => ?_)
  have hW : wd D (dn cy LY_X9 ad P V (gp I [(0, 0, 0)]) (gp J []) (gm A []) (gm B [])) Af s.heap H locs := hW
  refine lv_if_ne (tgt := 17) C0.1 C0.2.1 dX9_count_12 (by decide) (fun hc2 => ?_) (fun hc2 => ?_)
  · have hf := ite_f hc2 hf
    refine lv_iload_n C0.1 C0.2.1 dX9_count_17 rfl (lv_at hl 1 rfl) ?_
    refine lv_iconst (v := 3) C0.1 C0.2.1 dX9_count_18 kI_3 ?_
    refine lv_icmp_ge (tgt := 29) C0.1 C0.2.1 dX9_count_19 (by decide) (fun hc3 => ?_) (fun hc3 => ?_)
    · have hf := ite_t hc3 hf
      refine lv_iload_n C0.1 C0.2.1 dX9_count_29 rfl (lv_at hl 1 rfl) ?_
      refine lv_bipush (v := 6) C0.1 C0.2.1 dX9_count_30 kB_6 ?_
      refine lv_icmp_ge (tgt := 72) C0.1 C0.2.1 dX9_count_32 (by decide) (fun hc4 => ?_) (fun hc4 => ?_)
      · have hf := ite_t hc4 hf
        refine lv_iload_n C0.1 C0.2.1 dX9_count_72 rfl (lv_at hl 1 rfl) ?_
        refine lv_bipush (v := 9) C0.1 C0.2.1 dX9_count_73 kB_9 ?_
        refine lv_icmp_ge (tgt := 113) C0.1 C0.2.1 dX9_count_75 (by decide) (fun hc5 => ?_) (fun hc5 => ?_)
        · have hf := ite_t hc5 hf
          refine lv_iload_n C0.1 C0.2.1 dX9_count_113 rfl (lv_at hl 1 rfl) ?_
          refine lv_bipush (v := 11) C0.1 C0.2.1 dX9_count_114 kB_11 ?_
          refine lv_icmp_ge (tgt := 141) C0.1 C0.2.1 dX9_count_116 (by decide) (fun hc6 => ?_) (fun hc6 => ?_)
          · have hf := ite_t hc6 hf
            refine lv_iload_n C0.1 C0.2.1 dX9_count_141 rfl (lv_at hl 1 rfl) ?_
            refine lv_bipush (v := 11) C0.1 C0.2.1 dX9_count_142 kB_11 ?_
            refine lv_icmp_ne (tgt := 154) C0.1 C0.2.1 dX9_count_144 (by decide) (fun hc7 => ?_) (fun hc7 => ?_)
            · have hf := ite_f hc7 hf
              refine lv_aload_n C0.1 C0.2.1 dX9_count_154 rfl (lv_at hl 0 rfl) ?_
              refine s_get (v := .int (I 0 1)) C0 hK hW 0 1 LY_X9_0 rfl fg_X9_148 rfl dX9_count_155 ?_
              obtain rfl := Option.some.inj hf
              exact r_int C0 hK hW dX9_count_158
            · have hf := ite_t hc7 hf
              refine lv_aload_n C0.1 C0.2.1 dX9_count_147 rfl (lv_at hl 0 rfl) ?_
              refine s_get (v := .int (I 0 53)) C0 hK hW 0 53 LY_X9_0 rfl fg_X9_354 rfl dX9_count_148 ?_
              refine lv_goto (tgt := 158) C0.1 C0.2.1 dX9_count_151 (by decide) ?_
              obtain rfl := Option.some.inj hf
              exact r_int C0 hK hW dX9_count_158
          · have hf := ite_f hc6 hf
            refine lv_iload_n C0.1 C0.2.1 dX9_count_119 rfl (lv_at hl 1 rfl) ?_
            refine lv_bipush (v := 9) C0.1 C0.2.1 dX9_count_120 kB_9 ?_
            refine lv_icmp_ne (tgt := 134) C0.1 C0.2.1 dX9_count_122 (by decide) (fun hc8 => ?_) (fun hc8 => ?_)
            · have hf := ite_f hc8 hf
              refine lv_aload_n C0.1 C0.2.1 dX9_count_134 rfl (lv_at hl 0 rfl) ?_
              refine s_get (v := .ref (ad 32)) C0 hK hW 0 44 LY_X9_0 rfl fg_X9_105 rfl dX9_count_135 ?_
              refine lv_iconst (v := 0) C0.1 C0.2.1 dX9_count_138 kI_0 ?_
              refine s_iald (v := ((A 32) 0)) C0 hK hW 32 LY_X9_32 rfl (congrArg _ tc_0) dX9_count_139 ?_
              obtain rfl := Option.some.inj hf
              exact r_int C0 hK hW dX9_count_140
            · have hf := ite_t hc8 hf
              refine lv_aload_n C0.1 C0.2.1 dX9_count_125 rfl (lv_at hl 0 rfl) ?_
              refine s_get (v := .ref (ad 28)) C0 hK hW 0 40 LY_X9_0 rfl fg_X9_93 rfl dX9_count_126 ?_
              refine lv_iconst (v := 0) C0.1 C0.2.1 dX9_count_129 kI_0 ?_
              refine s_iald (v := ((A 28) 0)) C0 hK hW 28 LY_X9_28 rfl (congrArg _ tc_0) dX9_count_130 ?_
              refine lv_goto (tgt := 140) C0.1 C0.2.1 dX9_count_131 (by decide) ?_
              obtain rfl := Option.some.inj hf
              exact r_int C0 hK hW dX9_count_140
        · have hf := ite_f hc5 hf
          refine lv_iload_n C0.1 C0.2.1 dX9_count_78 rfl (lv_at hl 1 rfl) ?_
          refine lv_bipush (v := 6) C0.1 C0.2.1 dX9_count_79 kB_6 ?_
          refine lv_icmp_ne (tgt := 91) C0.1 C0.2.1 dX9_count_81 (by decide) (fun hc9 => ?_) (fun hc9 => ?_)
          · have hf := ite_f hc9 hf
            refine lv_iload_n C0.1 C0.2.1 dX9_count_91 rfl (lv_at hl 1 rfl) ?_
            refine lv_bipush (v := 7) C0.1 C0.2.1 dX9_count_92 kB_7 ?_
            refine lv_icmp_ne (tgt := 106) C0.1 C0.2.1 dX9_count_94 (by decide) (fun hc10 => ?_) (fun hc10 => ?_)
            · have hf := ite_f hc10 hf
              refine lv_aload_n C0.1 C0.2.1 dX9_count_106 rfl (lv_at hl 0 rfl) ?_
              refine s_get (v := .ref (ad 35)) C0 hK hW 0 47 LY_X9_0 rfl fg_X9_114 rfl dX9_count_107 ?_
              refine lv_iconst (v := 2) C0.1 C0.2.1 dX9_count_110 kI_2 ?_
              refine s_iald (v := ((A 35) 2)) C0 hK hW 35 LY_X9_35 rfl (congrArg _ tc_2) dX9_count_111 ?_
              obtain rfl := Option.some.inj hf
              exact r_int C0 hK hW dX9_count_112
            · have hf := ite_t hc10 hf
              refine lv_aload_n C0.1 C0.2.1 dX9_count_97 rfl (lv_at hl 0 rfl) ?_
              refine s_get (v := .ref (ad 35)) C0 hK hW 0 47 LY_X9_0 rfl fg_X9_114 rfl dX9_count_98 ?_
              refine lv_iconst (v := 1) C0.1 C0.2.1 dX9_count_101 kI_1 ?_
              refine s_iald (v := ((A 35) 1)) C0 hK hW 35 LY_X9_35 rfl (congrArg _ tc_1) dX9_count_102 ?_
              refine lv_goto (tgt := 112) C0.1 C0.2.1 dX9_count_103 (by decide) ?_
              obtain rfl := Option.some.inj hf
              exact r_int C0 hK hW dX9_count_112
          · have hf := ite_t hc9 hf
            refine lv_aload_n C0.1 C0.2.1 dX9_count_84 rfl (lv_at hl 0 rfl) ?_
            obtain ⟨y11, hy11, hf⟩ := b_some hf
            refine c_Vi C0 hK hN hl.1 hW hA (KX9_outsiders l D cy  ad P V (gp I [(0, 0, 0)]) (gp J []) (gm A []) (gm B [])  hy11) (JN_id rfl rfl rfl rfl) (Uw_V uw_1475 uw_1477 us_78 uw_14 uw_1478) rfl rfl hd_X9_outsiders ⟨rfl, rfl⟩ rfl (dn_some LY_X9_0) rfl rfl rfl dX9_count_85 ⟨Nat.zero_le _, Nat.zero_le _⟩ (fun H locs hW => ?_)
            have hW : wd D (dn cy LY_X9 ad P V (gp I [(0, 0, 0)]) (gp J []) (gm A []) (gm B [])) Af s.heap H locs := hW
            refine lv_goto (tgt := 112) C0.1 C0.2.1 dX9_count_88 (by decide) ?_
            obtain rfl := Option.some.inj hf
            exact r_int C0 hK hW dX9_count_112
      · have hf := ite_f hc4 hf
        refine lv_iload_n C0.1 C0.2.1 dX9_count_35 rfl (lv_at hl 1 rfl) ?_
        refine lv_iconst (v := 3) C0.1 C0.2.1 dX9_count_36 kI_3 ?_
        refine lv_icmp_ne (tgt := 49) C0.1 C0.2.1 dX9_count_37 (by decide) (fun hc12 => ?_) (fun hc12 => ?_)
        · have hf := ite_f hc12 hf
          refine lv_iload_n C0.1 C0.2.1 dX9_count_49 rfl (lv_at hl 1 rfl) ?_
          refine lv_iconst (v := 4) C0.1 C0.2.1 dX9_count_50 kI_4 ?_
          refine lv_icmp_ne (tgt := 67) C0.1 C0.2.1 dX9_count_51 (by decide) (fun hc13 => ?_) (fun hc13 => ?_)
          · have hf := ite_f hc13 hf
            refine lv_aload_n C0.1 C0.2.1 dX9_count_67 rfl (lv_at hl 0 rfl) ?_
            obtain ⟨y14, hy14, hf⟩ := b_some hf
            refine c_Vi C0 hK hN hl.1 hW hA (KX9_allCoal l D cy  ad P V (gp I [(0, 0, 0)]) (gp J []) (gm A []) (gm B [])  hy14) (JN_id rfl rfl rfl rfl) (Uw_V uw_1648 uw_1650 us_96 uw_14 uw_1651) rfl rfl hd_X9_allCoal ⟨rfl, rfl⟩ rfl (dn_some LY_X9_0) rfl rfl rfl dX9_count_68 ⟨Nat.zero_le _, Nat.zero_le _⟩ (fun H locs hW => ?_)
            have hW : wd D (dn cy LY_X9 ad P V (gp I [(0, 0, 0)]) (gp J []) (gm A []) (gm B [])) Af s.heap H locs := hW
            obtain rfl := Option.some.inj hf
            exact r_int C0 hK hW dX9_count_71
          · have hf := ite_t hc13 hf
            refine lv_aload_n C0.1 C0.2.1 dX9_count_54 rfl (lv_at hl 0 rfl) ?_
            refine lv_aload_n C0.1 C0.2.1 dX9_count_55 rfl (lv_at hl 0 rfl) ?_
            refine s_get (v := .ref (ad 35)) C0 hK hW 0 47 LY_X9_0 rfl fg_X9_114 rfl dX9_count_56 ?_
            refine lv_iconst (v := 0) C0.1 C0.2.1 dX9_count_59 kI_0 ?_
            refine s_iald (v := ((A 35) 0)) C0 hK hW 35 LY_X9_35 rfl (congrArg _ tc_0) dX9_count_60 ?_
            obtain ⟨y15, hy15, hf⟩ := b_some hf
            refine c_Vi C0 hK hN hl.1 hW hA (KX9_coldOf l D cy  ad P V (gp I [(0, 0, 0)]) (gp J []) (gm A []) (gm B []) ((A 35) 0) hy15) (JN_id rfl rfl rfl rfl) (Uw_V uw_1527 uw_1529 us_85 uw_14 uw_1530) rfl rfl hd_X9_coldOf ⟨rfl, rfl⟩ rfl (dn_some LY_X9_0) rfl rfl rfl dX9_count_61 ⟨Nat.zero_le _, Nat.zero_le _⟩ (fun H locs hW => ?_)
            have hW : wd D (dn cy LY_X9 ad P V (gp I [(0, 0, 0)]) (gp J []) (gm A []) (gm B [])) Af s.heap H locs := hW
            refine lv_goto (tgt := 71) C0.1 C0.2.1 dX9_count_64 (by decide) ?_
            obtain rfl := Option.some.inj hf
            exact r_int C0 hK hW dX9_count_71
        · have hf := ite_t hc12 hf
          refine lv_aload_n C0.1 C0.2.1 dX9_count_40 rfl (lv_at hl 0 rfl) ?_
          refine s_get (v := .ref (ad 35)) C0 hK hW 0 47 LY_X9_0 rfl fg_X9_114 rfl dX9_count_41 ?_
          refine lv_iconst (v := 0) C0.1 C0.2.1 dX9_count_44 kI_0 ?_
          refine s_iald (v := ((A 35) 0)) C0 hK hW 35 LY_X9_35 rfl (congrArg _ tc_0) dX9_count_45 ?_
          refine lv_goto (tgt := 71) C0.1 C0.2.1 dX9_count_46 (by decide) ?_
          obtain rfl := Option.some.inj hf
          exact r_int C0 hK hW dX9_count_71
    · have hf := ite_f hc3 hf
      refine lv_aload_n C0.1 C0.2.1 dX9_count_22 rfl (lv_at hl 0 rfl) ?_
      refine s_get (v := .ref (ad 2)) C0 hK hW 0 10 LY_X9_0 rfl fg_X9_13 rfl dX9_count_23 ?_
      refine lv_iload_n C0.1 C0.2.1 dX9_count_26 rfl (lv_at hl 1 rfl) ?_
      obtain ⟨hb16, hf⟩ := g_some hf
      refine s_iald (v := ((A 2) (Int32.toNatClampNeg v1))) C0 hK hW 2 LY_X9_2 hb16 rfl dX9_count_27 ?_
      obtain rfl := Option.some.inj hf
      exact r_int C0 hK hW dX9_count_28
  · have hf := ite_t hc2 hf
    refine lv_iconst (v := (-1)) C0.1 C0.2.1 dX9_count_15 kI_m1 ?_
    obtain rfl := Option.some.inj hf
    exact r_int C0 hK hW dX9_count_16
