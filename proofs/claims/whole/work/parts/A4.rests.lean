-- X8_rests
def rmX8_restsT : Room := { frames := 6, cells := 1, slots := 6, locals := 81 }
def SX8_restsT_36 (p : Program) (l : Launch) (e : Env) (s : State) (m : MethodId) (args : Array Value) (below : List Frame) (meth : Method) (c : Code) (D : va_G) (cy : Nat → ClassId) (ad : Nat → Nat) (P : MP) (V : MV) (I : MI) (J : MJ) (A : MI) (B : MJ) (Af : Nat → Prop) (res : Unit) (k : Option (Unit)) : Prop := ∀ (H : Heap) (locs : List Loc) (ls : Array Slot), wd D (dn cy LY_X8 ad P V (gp I []) (gp J []) (gm A []) (gm B [])) Af s.heap H locs → lv_has ls 9 [] → k = some res → W p l e rmX8_restsT s m args below meth c H locs 0 0 (TQ below D cy (dn cy LY_X8 ad P V (gp I []) (gp J []) (gm A []) (gm B [])) Af args s) (F0 m 36 ls [])
def SX8_restsT_106 (p : Program) (l : Launch) (e : Env) (s : State) (m : MethodId) (args : Array Value) (below : List Frame) (meth : Method) (c : Code) (D : va_G) (cy : Nat → ClassId) (ad : Nat → Nat) (P : MP) (V : MV) (I : MI) (J : MJ) (A : MI) (B : MJ) (Af : Nat → Prop) (res : Unit) (k : Int32 → Int32 → Int32 → Int32 → Int32 → Int32 → Int32 → Int32 → Option (Unit)) : Prop := ∀ (v1 : Int32) (v2 : Int32) (v3 : Int32) (v4 : Int32) (v5 : Int32) (v6 : Int32) (x0 : Int32) (x1 : Int32) (H : Heap) (locs : List Loc) (ls : Array Slot), wd D (dn cy LY_X8 ad P V (gp I []) (gp J []) (gm A []) (gm B [])) Af s.heap H locs → lv_has ls 9 [(1, .int v1), (2, .int v2), (3, .int v3), (4, .int v4), (5, .int v5), (6, .int v6)] → k v1 v2 v3 v4 v5 v6 x0 x1 = some res → W p l e rmX8_restsT s m args below meth c H locs 0 0 (TQ below D cy (dn cy LY_X8 ad P V (gp I []) (gp J []) (gm A []) (gm B [])) Af args s) (F0 m 106 ls [.int x0, .int x1])
def SX8_restsT_84 (p : Program) (l : Launch) (e : Env) (s : State) (m : MethodId) (args : Array Value) (below : List Frame) (meth : Method) (c : Code) (D : va_G) (cy : Nat → ClassId) (ad : Nat → Nat) (P : MP) (V : MV) (I : MI) (J : MJ) (A : MI) (B : MJ) (Af : Nat → Prop) (res : Unit) (k : Int32 → Int32 → Int32 → Int32 → Int32 → Int32 → Int32 → Int32 → Int32 → Int32 → Option (Unit)) : Prop := ∀ (v1 : Int32) (v2 : Int32) (v3 : Int32) (v4 : Int32) (v5 : Int32) (v6 : Int32) (v7 : Int32) (v8 : Int32) (x0 : Int32) (x1 : Int32) (H : Heap) (locs : List Loc) (ls : Array Slot), wd D (dn cy LY_X8 ad P V (gp I []) (gp J []) (gm A []) (gm B [])) Af s.heap H locs → lv_has ls 9 [(1, .int v1), (2, .int v2), (3, .int v3), (4, .int v4), (5, .int v5), (6, .int v6), (7, .int v7), (8, .int v8)] → k v1 v2 v3 v4 v5 v6 v7 v8 x0 x1 = some res → W p l e rmX8_restsT s m args below meth c H locs 0 0 (TQ below D cy (dn cy LY_X8 ad P V (gp I []) (gp J []) (gm A []) (gm B [])) Af args s) (F0 m 84 ls [.int x0, .int x1])
def SX8_restsT_50 (p : Program) (l : Launch) (e : Env) (s : State) (m : MethodId) (args : Array Value) (below : List Frame) (meth : Method) (c : Code) (D : va_G) (cy : Nat → ClassId) (ad : Nat → Nat) (P : MP) (V : MV) (I : MI) (J : MJ) (A : MI) (B : MJ) (Af : Nat → Prop) (res : Unit) (k : Int32 → Int32 → Int32 → Int32 → Int32 → Int32 → Option (Unit)) : Prop := ∀ (v1 : Int32) (v2 : Int32) (v3 : Int32) (v4 : Int32) (v5 : Int32) (v6 : Int32) (H : Heap) (locs : List Loc) (ls : Array Slot), wd D (dn cy LY_X8 ad P V (gp I []) (gp J []) (gm A []) (gm B [])) Af s.heap H locs → lv_has ls 9 [(1, .int v1), (2, .int v2), (3, .int v3), (4, .int v4), (5, .int v5), (6, .int v6)] → k v1 v2 v3 v4 v5 v6 = some res → W p l e rmX8_restsT s m args below meth c H locs 0 0 (TQ below D cy (dn cy LY_X8 ad P V (gp I []) (gp J []) (gm A []) (gm B [])) Af args s) (F0 m 50 ls [])
def fX8_restsT_36 : Option (Unit) := some ()
set_option maxHeartbeats 4000000 in
set_option maxRecDepth 100000 in
theorem tX8_restsT_36 {p : Program} {l : Launch} {e : Env} {s : State} {m : MethodId} {args : Array Value} {below : List Frame} {meth : Method} {c : Code} {D : va_G} {cy : Nat → ClassId} {ad : Nat → Nat} {P : MP} {V : MV} {I : MI} {J : MJ} {A : MI} {B : MJ} {Af : Nat → Prop} {res : Unit} (C0 : CX p s m args meth c cX8_rests 9 (some .int) RX8) (hK : va_K D vwCl (tyG cy) s) (hN : NWs s) (h0 : l.stackTraces = false) (hX : XWs s) (hZ : ZSs Af s s.heap) (hex : ∀ x ∈ c.exceptionTable.toList, False) (hA : ∀ q, s.heap.size ≤ q → Af q) : SX8_restsT_36 p l e s m args below meth c D cy ad P V I J A B Af res (fX8_restsT_36 ) := by
  intro H locs ls hW hl hf
  unfold fX8_restsT_36 at hf
  exact thr_end h0 C0 hK hX hZ hex hW hl.1 (by decide) dX8_rests_36 dX8_rests_39 dX8_rests_40 dX8_rests_43
def fX8_restsT_106 (k50 : Int32 → Int32 → Int32 → Int32 → Int32 → Int32 → Option (Unit)) (v1 : Int32) (v2 : Int32) (v3 : Int32) (v4 : Int32) (v5 : Int32) (v6 : Int32) (x0 : Int32) (x1 : Int32) : Option (Unit) := Option.bind (fX8_isContent x1 x0) fun y1 => (if y1 = 0 then (k50 v1 v2 v3 v4 v5 (v6 + 1)) else (if v5 = v4 then (none) else (k50 v1 v2 v3 v4 (v5 + 1) (v6 + 1))))
set_option maxHeartbeats 4000000 in
set_option maxRecDepth 100000 in
theorem tX8_restsT_106 {p : Program} {l : Launch} {e : Env} {s : State} {m : MethodId} {args : Array Value} {below : List Frame} {meth : Method} {c : Code} {D : va_G} {cy : Nat → ClassId} {ad : Nat → Nat} {P : MP} {V : MV} {I : MI} {J : MJ} {A : MI} {B : MJ} {Af : Nat → Prop} {res : Unit} (C0 : CX p s m args meth c cX8_rests 9 (some .int) RX8) (hK : va_K D vwCl (tyG cy) s) (hN : NWs s) (h0 : l.stackTraces = false) (hX : XWs s) (hZ : ZSs Af s s.heap) (hex : ∀ x ∈ c.exceptionTable.toList, False) (hA : ∀ q, s.heap.size ≤ q → Af q) {k50 : Int32 → Int32 → Int32 → Int32 → Int32 → Int32 → Option (Unit)} (hk50 : SX8_restsT_50 p l e s m args below meth c D cy ad P V I J A B Af res k50) : SX8_restsT_106 p l e s m args below meth c D cy ad P V I J A B Af res (fX8_restsT_106 k50) := by
  intro v1 v2 v3 v4 v5 v6 x0 x1 H locs ls hW hl hf
  unfold fX8_restsT_106 at hf
  obtain ⟨y1, hy1, hf⟩ := b_some hf
  refine c_Si C0 hK hN hl.1 hW hA (KX8_isContent l D cy  (fun q => ad (pl_LY_X8_LY_0_.getD q 0)) (fun q => P (pl_LY_X8_LY_0_.getD q 0)) (fun q => Vx LY_X8 ad V (pl_LY_X8_LY_0_.getD q 0)) (fun q => gp I [] (pl_LY_X8_LY_0_.getD q 0)) (fun q => gp J [] (pl_LY_X8_LY_0_.getD q 0)) (fun q => gm A [] (pl_LY_X8_LY_0_.getD q 0)) (fun q => gm B [] (pl_LY_X8_LY_0_.getD q 0)) x1 x0 hy1) (JN_subC (pl := pl_LY_X8_LY_0_) sb_LY_X8_LY_0_ rfl rfl rfl rfl rfl rfl rfl rfl rfl) ⟨uw_1042, uw_1043, uw_1, uw_1044⟩ rfl rfl hd_X8_isContent ⟨rfl, rfl⟩ rfl rfl rfl dX8_rests_106 ⟨Nat.zero_le _, Nat.zero_le _⟩ (fun H locs hW => ?_)
  have hW : wd D (dn cy LY_X8 ad P V (gp I []) (gp J []) (gm A []) (gm B [])) Af s.heap H locs := hW
  refine lv_if_eq (tgt := 125) C0.1 C0.2.1 dX8_rests_109 (by decide) (fun hc2 => ?_) (fun hc2 => ?_)
  · have hf := ite_t hc2 hf
    refine lv_iinc (v := (v6 + 1)) (lv' := [(6, .int (v6 + 1)), (1, .int v1), (2, .int v2), (3, .int v3), (4, .int v4), (5, .int v5)]) C0.1 C0.2.1 dX8_rests_125 hl (k := 5) rfl (congrArg (fun z => _ + z) kI_1) (by decide) rfl (fun ls hl => ?_)
    refine lv_goto (tgt := 50) C0.1 C0.2.1 dX8_rests_128 (by decide) ?_
    exact hk50 v1 v2 v3 v4 v5 (v6 + 1) H locs ls hW (lv_sub hl [1, 2, 3, 4, 5, 0] rfl) hf
  · have hf := ite_f hc2 hf
    refine lv_iload C0.1 C0.2.1 dX8_rests_112 (lv_at hl 4 rfl) ?_
    refine lv_iload C0.1 C0.2.1 dX8_rests_114 (lv_at hl 3 rfl) ?_
    refine lv_icmp_ne (tgt := 122) C0.1 C0.2.1 dX8_rests_116 (by decide) (fun hc3 => ?_) (fun hc3 => ?_)
    · have hf := ite_f hc3 hf
      refine lv_iinc (v := (v5 + 1)) (lv' := [(5, .int (v5 + 1)), (1, .int v1), (2, .int v2), (3, .int v3), (4, .int v4), (6, .int v6)]) C0.1 C0.2.1 dX8_rests_122 hl (k := 4) rfl (congrArg (fun z => _ + z) kI_1) (by decide) rfl (fun ls hl => ?_)
      refine lv_iinc (v := (v6 + 1)) (lv' := [(6, .int (v6 + 1)), (5, .int (v5 + 1)), (1, .int v1), (2, .int v2), (3, .int v3), (4, .int v4)]) C0.1 C0.2.1 dX8_rests_125 hl (k := 5) rfl (congrArg (fun z => _ + z) kI_1) (by decide) rfl (fun ls hl => ?_)
      refine lv_goto (tgt := 50) C0.1 C0.2.1 dX8_rests_128 (by decide) ?_
      exact hk50 v1 v2 v3 v4 (v5 + 1) (v6 + 1) H locs ls hW (lv_sub hl [2, 3, 4, 5, 1, 0] rfl) hf
    · have hf := ite_t hc3 hf
      refine lv_iload C0.1 C0.2.1 dX8_rests_119 (lv_at hl 5 rfl) ?_
      exact (nomatch (show (none : Option (Unit)) = some res from hf))
def fX8_restsT_84 (k50 : Int32 → Int32 → Int32 → Int32 → Int32 → Int32 → Option (Unit)) (v1 : Int32) (v2 : Int32) (v3 : Int32) (v4 : Int32) (v5 : Int32) (v6 : Int32) (v7 : Int32) (v8 : Int32) (x0 : Int32) (x1 : Int32) : Option (Unit) := Option.bind (fX8_isContent x1 x0) fun y1 => (if y1 = 0 then (k50 v1 v2 v3 v4 v5 (v6 + 1)) else (if v7 = 1 then (fX8_restsT_106 k50 v1 v2 v3 v4 v5 v6 (v1 - v3) v8) else (fX8_restsT_106 k50 v1 v2 v3 v4 v5 v6 (-v2) v8)))
set_option maxHeartbeats 4000000 in
set_option maxRecDepth 100000 in
theorem tX8_restsT_84 {p : Program} {l : Launch} {e : Env} {s : State} {m : MethodId} {args : Array Value} {below : List Frame} {meth : Method} {c : Code} {D : va_G} {cy : Nat → ClassId} {ad : Nat → Nat} {P : MP} {V : MV} {I : MI} {J : MJ} {A : MI} {B : MJ} {Af : Nat → Prop} {res : Unit} (C0 : CX p s m args meth c cX8_rests 9 (some .int) RX8) (hK : va_K D vwCl (tyG cy) s) (hN : NWs s) (h0 : l.stackTraces = false) (hX : XWs s) (hZ : ZSs Af s s.heap) (hex : ∀ x ∈ c.exceptionTable.toList, False) (hA : ∀ q, s.heap.size ≤ q → Af q) {k50 : Int32 → Int32 → Int32 → Int32 → Int32 → Int32 → Option (Unit)} (hk50 : SX8_restsT_50 p l e s m args below meth c D cy ad P V I J A B Af res k50) : SX8_restsT_84 p l e s m args below meth c D cy ad P V I J A B Af res (fX8_restsT_84 k50) := by
  intro v1 v2 v3 v4 v5 v6 v7 v8 x0 x1 H locs ls hW hl hf
  unfold fX8_restsT_84 at hf
  obtain ⟨y1, hy1, hf⟩ := b_some hf
  refine c_Si C0 hK hN hl.1 hW hA (KX8_isContent l D cy  (fun q => ad (pl_LY_X8_LY_0_.getD q 0)) (fun q => P (pl_LY_X8_LY_0_.getD q 0)) (fun q => Vx LY_X8 ad V (pl_LY_X8_LY_0_.getD q 0)) (fun q => gp I [] (pl_LY_X8_LY_0_.getD q 0)) (fun q => gp J [] (pl_LY_X8_LY_0_.getD q 0)) (fun q => gm A [] (pl_LY_X8_LY_0_.getD q 0)) (fun q => gm B [] (pl_LY_X8_LY_0_.getD q 0)) x1 x0 hy1) (JN_subC (pl := pl_LY_X8_LY_0_) sb_LY_X8_LY_0_ rfl rfl rfl rfl rfl rfl rfl rfl rfl) ⟨uw_1042, uw_1043, uw_1, uw_1044⟩ rfl rfl hd_X8_isContent ⟨rfl, rfl⟩ rfl rfl rfl dX8_rests_84 ⟨Nat.zero_le _, Nat.zero_le _⟩ (fun H locs hW => ?_)
  have hW : wd D (dn cy LY_X8 ad P V (gp I []) (gp J []) (gm A []) (gm B [])) Af s.heap H locs := hW
  refine lv_if_eq (tgt := 125) C0.1 C0.2.1 dX8_rests_87 (by decide) (fun hc2 => ?_) (fun hc2 => ?_)
  · have hf := ite_t hc2 hf
    refine lv_iinc (v := (v6 + 1)) (lv' := [(6, .int (v6 + 1)), (1, .int v1), (2, .int v2), (3, .int v3), (4, .int v4), (5, .int v5), (7, .int v7), (8, .int v8)]) C0.1 C0.2.1 dX8_rests_125 hl (k := 5) rfl (congrArg (fun z => _ + z) kI_1) (by decide) rfl (fun ls hl => ?_)
    refine lv_goto (tgt := 50) C0.1 C0.2.1 dX8_rests_128 (by decide) ?_
    exact hk50 v1 v2 v3 v4 v5 (v6 + 1) H locs ls hW (lv_sub hl [1, 2, 3, 4, 5, 0] rfl) hf
  · have hf := ite_f hc2 hf
    refine lv_iload C0.1 C0.2.1 dX8_rests_90 (lv_at hl 7 rfl) ?_
    refine lv_iload C0.1 C0.2.1 dX8_rests_92 (lv_at hl 6 rfl) ?_
    refine lv_iconst (v := 1) C0.1 C0.2.1 dX8_rests_94 kI_1 ?_
    refine lv_icmp_ne (tgt := 104) C0.1 C0.2.1 dX8_rests_95 (by decide) (fun hc3 => ?_) (fun hc3 => ?_)
    · have hf := ite_f hc3 hf
      refine lv_iload_n C0.1 C0.2.1 dX8_rests_104 rfl (lv_at hl 1 rfl) ?_
      refine lv_ineg C0.1 C0.2.1 dX8_rests_105 ?_
      exact tX8_restsT_106 C0 hK hN h0 hX hZ hex hA hk50 v1 v2 v3 v4 v5 v6 (-v2) v8 H locs ls hW (lv_sub hl [0, 1, 2, 3, 4, 5] rfl) hf
    · have hf := ite_t hc3 hf
      refine lv_iload_n C0.1 C0.2.1 dX8_rests_98 rfl (lv_at hl 0 rfl) ?_
      refine lv_iload_n C0.1 C0.2.1 dX8_rests_99 rfl (lv_at hl 2 rfl) ?_
      refine lv_isub C0.1 C0.2.1 dX8_rests_100 ?_
      refine lv_goto (tgt := 106) C0.1 C0.2.1 dX8_rests_101 (by decide) ?_
      exact tX8_restsT_106 C0 hK hN h0 hX hZ hex hA hk50 v1 v2 v3 v4 v5 v6 (v1 - v3) v8 H locs ls hW (lv_sub hl [0, 1, 2, 3, 4, 5] rfl) hf
def fX8_restsT_50 (k50 : Int32 → Int32 → Int32 → Int32 → Int32 → Int32 → Option (Unit)) (v1 : Int32) (v2 : Int32) (v3 : Int32) (v4 : Int32) (v5 : Int32) (v6 : Int32) : Option (Unit) := if 4 ≤ v6 then (if v4 = (-1) then (none) else (some ())) else (if (v6 &&& 1) = 1 then (fX8_restsT_84 k50 v1 v2 v3 v4 v5 v6 (v6 >>> (1 &&& 31)) (v6 &&& 1) (v1 - v3) (v6 >>> (1 &&& 31))) else (fX8_restsT_84 k50 v1 v2 v3 v4 v5 v6 (v6 >>> (1 &&& 31)) (v6 &&& 1) (-v2) (v6 >>> (1 &&& 31))))
set_option maxHeartbeats 4000000 in
set_option maxRecDepth 100000 in
theorem tX8_restsT_50 {p : Program} {l : Launch} {e : Env} {s : State} {m : MethodId} {args : Array Value} {below : List Frame} {meth : Method} {c : Code} {D : va_G} {cy : Nat → ClassId} {ad : Nat → Nat} {P : MP} {V : MV} {I : MI} {J : MJ} {A : MI} {B : MJ} {Af : Nat → Prop} {res : Unit} (C0 : CX p s m args meth c cX8_rests 9 (some .int) RX8) (hK : va_K D vwCl (tyG cy) s) (hN : NWs s) (h0 : l.stackTraces = false) (hX : XWs s) (hZ : ZSs Af s s.heap) (hex : ∀ x ∈ c.exceptionTable.toList, False) (hA : ∀ q, s.heap.size ≤ q → Af q) {k50 : Int32 → Int32 → Int32 → Int32 → Int32 → Int32 → Option (Unit)} (hk50 : SX8_restsT_50 p l e s m args below meth c D cy ad P V I J A B Af res k50) : SX8_restsT_50 p l e s m args below meth c D cy ad P V I J A B Af res (fX8_restsT_50 k50) := by
  intro v1 v2 v3 v4 v5 v6 H locs ls hW hl hf
  unfold fX8_restsT_50 at hf
  refine lv_iload C0.1 C0.2.1 dX8_rests_50 (lv_at hl 5 rfl) ?_
  refine lv_iconst (v := 4) C0.1 C0.2.1 dX8_rests_52 kI_4 ?_
  refine lv_icmp_ge (tgt := 131) C0.1 C0.2.1 dX8_rests_53 (by decide) (fun hc1 => ?_) (fun hc1 => ?_)
  · have hf := ite_t hc1 hf
    refine lv_iload C0.1 C0.2.1 dX8_rests_131 (lv_at hl 3 rfl) ?_
    refine lv_iconst (v := (-1)) C0.1 C0.2.1 dX8_rests_133 kI_m1 ?_
    refine lv_icmp_eq (tgt := 145) C0.1 C0.2.1 dX8_rests_134 (by decide) (fun hc2 => ?_) (fun hc2 => ?_)
    · have hf := ite_t hc2 hf
      refine lv_iload C0.1 C0.2.1 dX8_rests_145 (lv_at hl 4 rfl) ?_
      exact (nomatch (show (none : Option (Unit)) = some res from hf))
    · have hf := ite_f hc2 hf
      exact thr_end h0 C0 hK hX hZ hex hW hl.1 (by decide) dX8_rests_137 dX8_rests_140 dX8_rests_141 dX8_rests_144
  · have hf := ite_f hc1 hf
    refine lv_iload C0.1 C0.2.1 dX8_rests_56 (lv_at hl 5 rfl) ?_
    refine lv_iconst (v := 1) C0.1 C0.2.1 dX8_rests_58 kI_1 ?_
    refine lv_ishr C0.1 C0.2.1 dX8_rests_59 ?_
    refine lv_istore (lv' := [(7, .int (v6 >>> (1 &&& 31))), (1, .int v1), (2, .int v2), (3, .int v3), (4, .int v4), (5, .int v5), (6, .int v6)]) C0.1 C0.2.1 dX8_rests_60 hl (by decide) rfl (fun ls hl => ?_)
    refine lv_iload C0.1 C0.2.1 dX8_rests_62 (lv_at hl 6 rfl) ?_
    refine lv_iconst (v := 1) C0.1 C0.2.1 dX8_rests_64 kI_1 ?_
    refine lv_iand C0.1 C0.2.1 dX8_rests_65 ?_
    refine lv_istore (lv' := [(8, .int (v6 &&& 1)), (7, .int (v6 >>> (1 &&& 31))), (1, .int v1), (2, .int v2), (3, .int v3), (4, .int v4), (5, .int v5), (6, .int v6)]) C0.1 C0.2.1 dX8_rests_66 hl (by decide) rfl (fun ls hl => ?_)
    refine lv_iload C0.1 C0.2.1 dX8_rests_68 (lv_at hl 1 rfl) ?_
    refine lv_iload C0.1 C0.2.1 dX8_rests_70 (lv_at hl 0 rfl) ?_
    refine lv_iconst (v := 1) C0.1 C0.2.1 dX8_rests_72 kI_1 ?_
    refine lv_icmp_ne (tgt := 82) C0.1 C0.2.1 dX8_rests_73 (by decide) (fun hc3 => ?_) (fun hc3 => ?_)
    · have hf := ite_f hc3 hf
      refine lv_iload_n C0.1 C0.2.1 dX8_rests_82 rfl (lv_at hl 3 rfl) ?_
      refine lv_ineg C0.1 C0.2.1 dX8_rests_83 ?_
      exact tX8_restsT_84 C0 hK hN h0 hX hZ hex hA hk50 v1 v2 v3 v4 v5 v6 (v6 >>> (1 &&& 31)) (v6 &&& 1) (-v2) (v6 >>> (1 &&& 31)) H locs ls hW (lv_sub hl [2, 3, 4, 5, 6, 7, 1, 0] rfl) hf
    · have hf := ite_t hc3 hf
      refine lv_iload_n C0.1 C0.2.1 dX8_rests_76 rfl (lv_at hl 2 rfl) ?_
      refine lv_iload_n C0.1 C0.2.1 dX8_rests_77 rfl (lv_at hl 4 rfl) ?_
      refine lv_isub C0.1 C0.2.1 dX8_rests_78 ?_
      refine lv_goto (tgt := 84) C0.1 C0.2.1 dX8_rests_79 (by decide) ?_
      exact tX8_restsT_84 C0 hK hN h0 hX hZ hex hA hk50 v1 v2 v3 v4 v5 v6 (v6 >>> (1 &&& 31)) (v6 &&& 1) (v1 - v3) (v6 >>> (1 &&& 31)) H locs ls hW (lv_sub hl [2, 3, 4, 5, 6, 7, 1, 0] rfl) hf
theorem TX8_restsT_50 {p : Program} {l : Launch} {e : Env} {s : State} {m : MethodId} {args : Array Value} {below : List Frame} {meth : Method} {c : Code} {D : va_G} {cy : Nat → ClassId} {ad : Nat → Nat} {P : MP} {V : MV} {I : MI} {J : MJ} {A : MI} {B : MJ} {Af : Nat → Prop} {res : Unit} (C0 : CX p s m args meth c cX8_rests 9 (some .int) RX8) (hK : va_K D vwCl (tyG cy) s) (hN : NWs s) (h0 : l.stackTraces = false) (hX : XWs s) (hZ : ZSs Af s s.heap) (hex : ∀ x ∈ c.exceptionTable.toList, False) (hA : ∀ q, s.heap.size ≤ q → Af q) : ∀ n, SX8_restsT_50 p l e s m args below meth c D cy ad P V I J A B Af res (itr (fun kk => fX8_restsT_50  kk) (fun _ _ _ _ _ _ => none) n) := by
  intro n
  induction n with
  | zero => intro v1 v2 v3 v4 v5 v6 H locs ls hW hl hf; exact (nomatch (show (none : Option (Unit)) = some res from hf))
  | succ n ih => exact tX8_restsT_50 C0 hK hN h0 hX hZ hex hA  ih
def fX8_restsT (v1 : Int32) (v2 : Int32) (v3 : Int32) (v4 : Int32) : Option (Unit) := Option.bind (fX8_isWithin v1 0 9) fun y1 => (if y1 = 0 then (fX8_restsT_36) else (Option.bind (fX8_isWithin v2 0 9) fun y3 => (if y3 = 0 then (fX8_restsT_36) else (Option.bind (fX8_isWithin v3 0 9) fun y5 => (if y5 = 0 then (fX8_restsT_36) else (if (-1) ≤ v4 then (itr (fun kk => fX8_restsT_50 kk) (fun _ _ _ _ _ _ => none) FU v1 v2 v3 v4 0 0) else (fX8_restsT_36)))))))
set_option maxHeartbeats 4000000 in
set_option maxRecDepth 100000 in
theorem KX8_restsT (l : Launch) (h0 : l.stackTraces = false) (D : va_G) (cy : Nat → ClassId) (ad : Nat → Nat) (P : MP) (V : MV) (I : MI) (J : MJ) (A : MI) (B : MJ) (v1 : Int32) (v2 : Int32) (v3 : Int32) (v4 : Int32) {res : Unit} (hf : fX8_restsT v1 v2 v3 v4 = some res) : TG l yX8_rests cX8_rests 9 (some .int) rmX8_restsT D cy (dn cy LY_X8 ad P V I J A B) [.ref (ad 0), .int v1, .int v2, .int v3, .int v4] := by
  refine TG.of (own := RX8) (by decide) rfl rfl ?_
  intro p e s m below meth c ls Af C0 hK hN hX hZ hex hA hW hl
  have hW : wd D (dn cy LY_X8 ad P V (gp I []) (gp J []) (gm A []) (gm B [])) Af s.heap s.heap [] := wd_sel [] [] [] [] hW
  have hl : lv_has ls 9 [(0, .ref (ad 0)), (1, .int v1), (2, .int v2), (3, .int v3), (4, .int v4)] := hl
  unfold fX8_restsT at hf
  refine lv_iload_n C0.1 C0.2.1 dX8_rests_0 rfl (lv_at hl 1 rfl) ?_
  refine lv_iconst (v := 0) C0.1 C0.2.1 dX8_rests_1 kI_0 ?_
  refine lv_bipush (v := 9) C0.1 C0.2.1 dX8_rests_2 kB_9 ?_
  obtain ⟨y1, hy1, hf⟩ := b_some hf
  refine c_Si C0 hK hN hl.1 hW hA (KX8_isWithin l D cy  (fun q => ad (pl_LY_X8_LY_0_.getD q 0)) (fun q => P (pl_LY_X8_LY_0_.getD q 0)) (fun q => Vx LY_X8 ad V (pl_LY_X8_LY_0_.getD q 0)) (fun q => gp I [] (pl_LY_X8_LY_0_.getD q 0)) (fun q => gp J [] (pl_LY_X8_LY_0_.getD q 0)) (fun q => gm A [] (pl_LY_X8_LY_0_.getD q 0)) (fun q => gm B [] (pl_LY_X8_LY_0_.getD q 0)) v1 0 9 hy1) (JN_subC (pl := pl_LY_X8_LY_0_) sb_LY_X8_LY_0_ rfl rfl rfl rfl rfl rfl rfl rfl rfl) ⟨uw_500, uw_501, uw_1, uw_502⟩ rfl rfl hd_X8_isWithin ⟨rfl, rfl⟩ rfl rfl rfl dX8_rests_4 ⟨Nat.zero_le _, Nat.zero_le _⟩ (fun H locs hW => ?_)
  have hW : wd D (dn cy LY_X8 ad P V (gp I []) (gp J []) (gm A []) (gm B [])) Af s.heap H locs := hW
  refine lv_if_eq (tgt := 36) C0.1 C0.2.1 dX8_rests_7 (by decide) (fun hc2 => ?_) (fun hc2 => ?_)
  · have hf := ite_t hc2 hf
    exact tX8_restsT_36 C0 hK hN h0 hX hZ hex hA  _ _ ls hW (lv_sub hl [] rfl) hf
  · have hf := ite_f hc2 hf
    refine lv_iload_n C0.1 C0.2.1 dX8_rests_10 rfl (lv_at hl 2 rfl) ?_
    refine lv_iconst (v := 0) C0.1 C0.2.1 dX8_rests_11 kI_0 ?_
    refine lv_bipush (v := 9) C0.1 C0.2.1 dX8_rests_12 kB_9 ?_
    obtain ⟨y3, hy3, hf⟩ := b_some hf
    refine c_Si C0 hK hN hl.1 hW hA (KX8_isWithin l D cy  (fun q => ad (pl_LY_X8_LY_0_.getD q 0)) (fun q => P (pl_LY_X8_LY_0_.getD q 0)) (fun q => Vx LY_X8 ad V (pl_LY_X8_LY_0_.getD q 0)) (fun q => gp I [] (pl_LY_X8_LY_0_.getD q 0)) (fun q => gp J [] (pl_LY_X8_LY_0_.getD q 0)) (fun q => gm A [] (pl_LY_X8_LY_0_.getD q 0)) (fun q => gm B [] (pl_LY_X8_LY_0_.getD q 0)) v2 0 9 hy3) (JN_subC (pl := pl_LY_X8_LY_0_) sb_LY_X8_LY_0_ rfl rfl rfl rfl rfl rfl rfl rfl rfl) ⟨uw_500, uw_501, uw_1, uw_502⟩ rfl rfl hd_X8_isWithin ⟨rfl, rfl⟩ rfl rfl rfl dX8_rests_14 ⟨Nat.zero_le _, Nat.zero_le _⟩ (fun H locs hW => ?_)
    have hW : wd D (dn cy LY_X8 ad P V (gp I []) (gp J []) (gm A []) (gm B [])) Af s.heap H locs := hW
    refine lv_if_eq (tgt := 36) C0.1 C0.2.1 dX8_rests_17 (by decide) (fun hc4 => ?_) (fun hc4 => ?_)
    · have hf := ite_t hc4 hf
      exact tX8_restsT_36 C0 hK hN h0 hX hZ hex hA  _ _ ls hW (lv_sub hl [] rfl) hf
    · have hf := ite_f hc4 hf
      refine lv_iload_n C0.1 C0.2.1 dX8_rests_20 rfl (lv_at hl 3 rfl) ?_
      refine lv_iconst (v := 0) C0.1 C0.2.1 dX8_rests_21 kI_0 ?_
      refine lv_bipush (v := 9) C0.1 C0.2.1 dX8_rests_22 kB_9 ?_
      obtain ⟨y5, hy5, hf⟩ := b_some hf
      refine c_Si C0 hK hN hl.1 hW hA (KX8_isWithin l D cy  (fun q => ad (pl_LY_X8_LY_0_.getD q 0)) (fun q => P (pl_LY_X8_LY_0_.getD q 0)) (fun q => Vx LY_X8 ad V (pl_LY_X8_LY_0_.getD q 0)) (fun q => gp I [] (pl_LY_X8_LY_0_.getD q 0)) (fun q => gp J [] (pl_LY_X8_LY_0_.getD q 0)) (fun q => gm A [] (pl_LY_X8_LY_0_.getD q 0)) (fun q => gm B [] (pl_LY_X8_LY_0_.getD q 0)) v3 0 9 hy5) (JN_subC (pl := pl_LY_X8_LY_0_) sb_LY_X8_LY_0_ rfl rfl rfl rfl rfl rfl rfl rfl rfl) ⟨uw_500, uw_501, uw_1, uw_502⟩ rfl rfl hd_X8_isWithin ⟨rfl, rfl⟩ rfl rfl rfl dX8_rests_24 ⟨Nat.zero_le _, Nat.zero_le _⟩ (fun H locs hW => ?_)
      have hW : wd D (dn cy LY_X8 ad P V (gp I []) (gp J []) (gm A []) (gm B [])) Af s.heap H locs := hW
      refine lv_if_eq (tgt := 36) C0.1 C0.2.1 dX8_rests_27 (by decide) (fun hc6 => ?_) (fun hc6 => ?_)
      · have hf := ite_t hc6 hf
        exact tX8_restsT_36 C0 hK hN h0 hX hZ hex hA  _ _ ls hW (lv_sub hl [] rfl) hf
      · have hf := ite_f hc6 hf
        refine lv_iload C0.1 C0.2.1 dX8_rests_30 (lv_at hl 4 rfl) ?_
        refine lv_iconst (v := (-1)) C0.1 C0.2.1 dX8_rests_32 kI_m1 ?_
        refine lv_icmp_ge (tgt := 44) C0.1 C0.2.1 dX8_rests_33 (by decide) (fun hc7 => ?_) (fun hc7 => ?_)
        · have hf := ite_t hc7 hf
          refine lv_iconst (v := 0) C0.1 C0.2.1 dX8_rests_44 kI_0 ?_
          refine lv_istore (lv' := [(5, .int 0), (0, .ref (ad 0)), (1, .int v1), (2, .int v2), (3, .int v3), (4, .int v4)]) C0.1 C0.2.1 dX8_rests_45 hl (by decide) rfl (fun ls hl => ?_)
          refine lv_iconst (v := 0) C0.1 C0.2.1 dX8_rests_47 kI_0 ?_
          refine lv_istore (lv' := [(6, .int 0), (5, .int 0), (0, .ref (ad 0)), (1, .int v1), (2, .int v2), (3, .int v3), (4, .int v4)]) C0.1 C0.2.1 dX8_rests_48 hl (by decide) rfl (fun ls hl => ?_)
          exact TX8_restsT_50 C0 hK hN h0 hX hZ hex hA  FU v1 v2 v3 v4 0 0 _ _ ls hW (lv_sub hl [3, 4, 5, 6, 1, 0] rfl) hf
        · have hf := ite_f hc7 hf
          exact tX8_restsT_36 C0 hK hN h0 hX hZ hex hA  _ _ ls hW (lv_sub hl [] rfl) hf
