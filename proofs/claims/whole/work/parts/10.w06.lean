-- X5_addBytes
def rmX5_addBytes : Room := { frames := 1, cells := 0, slots := 0, locals := 21 }
def SX5_addBytes_38 (p : Program) (l : Launch) (e : Env) (s : State) (m : MethodId) (args : Array Value) (below : List Frame) (meth : Method) (c : Code) (D : va_G) (cy : Nat → ClassId) (ad : Nat → Nat) (P : MP) (V : MV) (I : MI) (J : MJ) (A : MI) (B : MJ) (Af : Nat → Prop) (res : Int32 × (Nat → Int32)) (k : Int32 → (Nat → Int32) → Int64 → Int32 → Int32 → Option (Int32 × (Nat → Int32))) : Prop := ∀ (p_length : Int32) (p_signs : (Nat → Int32)) (v1 : Int64) (v3 : Int32) (v4 : Int32) (H : Heap) (locs : List Loc) (ls : Array Slot), wd D (dn cy LY_X5 ad P V (gp I [(0, 6, p_length)]) (gp J []) (gm A [(1, p_signs)]) (gm B [])) Af s.heap H locs → lv_has ls 5 [(0, .ref (ad 0)), (1, .long v1), (3, .int v3), (4, .int v4)] → k p_length p_signs v1 v3 v4 = some res → W p l e rmX5_addBytes s m args below meth c H locs 0 0 (ZQ below D cy (dn cy LY_X5 ad P V (gp I [(0, 6, res.1)]) (gp J []) (gm A [(1, res.2)]) (gm B [])) none Af args s) (F0 m 38 ls [])
def SX5_addBytes_3 (p : Program) (l : Launch) (e : Env) (s : State) (m : MethodId) (args : Array Value) (below : List Frame) (meth : Method) (c : Code) (D : va_G) (cy : Nat → ClassId) (ad : Nat → Nat) (P : MP) (V : MV) (I : MI) (J : MJ) (A : MI) (B : MJ) (Af : Nat → Prop) (res : Int32 × (Nat → Int32)) (k : Int32 → (Nat → Int32) → Int64 → Int32 → Option (Int32 × (Nat → Int32))) : Prop := ∀ (p_length : Int32) (p_signs : (Nat → Int32)) (v1 : Int64) (v3 : Int32) (H : Heap) (locs : List Loc) (ls : Array Slot), wd D (dn cy LY_X5 ad P V (gp I [(0, 6, p_length)]) (gp J []) (gm A [(1, p_signs)]) (gm B [])) Af s.heap H locs → lv_has ls 5 [(0, .ref (ad 0)), (1, .long v1), (3, .int v3)] → k p_length p_signs v1 v3 = some res → W p l e rmX5_addBytes s m args below meth c H locs 0 0 (ZQ below D cy (dn cy LY_X5 ad P V (gp I [(0, 6, res.1)]) (gp J []) (gm A [(1, res.2)]) (gm B [])) none Af args s) (F0 m 3 ls [])
def fX5_addBytes_38 (k3 : Int32 → (Nat → Int32) → Int64 → Int32 → Option (Int32 × (Nat → Int32))) (p_length : Int32) (p_signs : (Nat → Int32)) (v1 : Int64) (v3 : Int32) (v4 : Int32) : Option (Int32 × (Nat → Int32)) := if 1000 ≤ p_length then (k3 p_length p_signs v1 (v3 + (-8))) else (bif inb p_length 1000 then (k3 (p_length + 1) (upd p_signs (Int32.toNatClampNeg p_length) (vp_nar .byte (i2b_ v4))) v1 (v3 + (-8))) else none)
set_option maxHeartbeats 4000000 in
set_option maxRecDepth 100000 in
theorem tX5_addBytes_38 {p : Program} {l : Launch} {e : Env} {s : State} {m : MethodId} {args : Array Value} {below : List Frame} {meth : Method} {c : Code} {D : va_G} {cy : Nat → ClassId} {ad : Nat → Nat} {P : MP} {V : MV} {I : MI} {J : MJ} {A : MI} {B : MJ} {Af : Nat → Prop} {res : Int32 × (Nat → Int32)} (C0 : CX p s m args meth c cX5_addBytes 5 none RX5) (hK : va_K D vwCl (tyG cy) s) (hN : NWs s) (hA : ∀ q, s.heap.size ≤ q → Af q) {k3 : Int32 → (Nat → Int32) → Int64 → Int32 → Option (Int32 × (Nat → Int32))} (hk3 : SX5_addBytes_3 p l e s m args below meth c D cy ad P V I J A B Af res k3) : SX5_addBytes_38 p l e s m args below meth c D cy ad P V I J A B Af res (fX5_addBytes_38 k3) := by
  intro p_length p_signs v1 v3 v4 H locs ls hW hl hf
  unfold fX5_addBytes_38 at hf
  refine lv_aload_n C0.1 C0.2.1 dX5_addBytes_38 rfl (lv_at hl 0 rfl) ?_
  refine s_get (v := .int p_length) C0 hK hW 0 6 LY_X5_0 rfl fg_X5_33 rfl dX5_addBytes_39 ?_
  refine lv_sipush (v := 1000) C0.1 C0.2.1 dX5_addBytes_42 kS_1000 ?_
  refine lv_icmp_ge (tgt := 70) C0.1 C0.2.1 dX5_addBytes_45 (by decide) (fun hc1 => ?_) (fun hc1 => ?_)
  · have hf := ite_t hc1 hf
    refine lv_iinc (v := (v3 + (-8))) (lv' := [(3, .int (v3 + (-8))), (0, .ref (ad 0)), (1, .long v1), (4, .int v4)]) C0.1 C0.2.1 dX5_addBytes_70 hl (k := 2) rfl (congrArg (fun z => _ + z) kI_m8) (by decide) rfl (fun ls hl => ?_)
    refine lv_goto (tgt := 3) C0.1 C0.2.1 dX5_addBytes_73 (by decide) ?_
    exact hk3 p_length p_signs v1 (v3 + (-8)) H locs ls hW (lv_sub hl [1, 2, 0] rfl) hf
  · have hf := ite_f hc1 hf
    refine lv_aload_n C0.1 C0.2.1 dX5_addBytes_48 rfl (lv_at hl 0 rfl) ?_
    refine s_get (v := .ref (ad 1)) C0 hK hW 0 0 LY_X5_0 rfl fg_X5_9 rfl dX5_addBytes_49 ?_
    refine lv_aload_n C0.1 C0.2.1 dX5_addBytes_52 rfl (lv_at hl 0 rfl) ?_
    refine s_get (v := .int p_length) C0 hK hW 0 6 LY_X5_0 rfl fg_X5_33 rfl dX5_addBytes_53 ?_
    refine lv_iload C0.1 C0.2.1 dX5_addBytes_56 (lv_at hl 3 rfl) ?_
    refine lv_i2b (v := (i2b_ v4)) C0.1 C0.2.1 dX5_addBytes_58 rfl ?_
    obtain ⟨hb2, hf⟩ := g_some hf
    refine s_bast (f := (upd p_signs (Int32.toNatClampNeg p_length) (vp_nar .byte (i2b_ v4)))) C0 hK hW 1 LY_X5_1 hb2 rfl rfl dX5_addBytes_59 (fun H locs hW => ?_)
    have hW : wd D (dn cy LY_X5 ad P V (gp I [(0, 6, p_length)]) (gp J []) (gm A [(1, (upd p_signs (Int32.toNatClampNeg p_length) (vp_nar .byte (i2b_ v4))))]) (gm B [])) Af s.heap H locs := hW
    refine lv_aload_n C0.1 C0.2.1 dX5_addBytes_60 rfl (lv_at hl 0 rfl) ?_
    refine lv_dup C0.1 C0.2.1 dX5_addBytes_61 rfl ?_
    refine s_get (v := .int p_length) C0 hK hW 0 6 LY_X5_0 rfl fg_X5_33 rfl dX5_addBytes_62 ?_
    refine lv_iconst (v := 1) C0.1 C0.2.1 dX5_addBytes_65 kI_1 ?_
    refine lv_iadd C0.1 C0.2.1 dX5_addBytes_66 ?_
    refine s_putI C0 hK hW 0 6 LY_X5_0 rfl fg_X5_33 fp_X5_6 rfl dX5_addBytes_67 (fun H locs hW => ?_)
    have hW : wd D (dn cy LY_X5 ad P V (gp I [(0, 6, (p_length + 1))]) (gp J []) (gm A [(1, (upd p_signs (Int32.toNatClampNeg p_length) (vp_nar .byte (i2b_ v4))))]) (gm B [])) Af s.heap H locs := hW
    refine lv_iinc (v := (v3 + (-8))) (lv' := [(3, .int (v3 + (-8))), (0, .ref (ad 0)), (1, .long v1), (4, .int v4)]) C0.1 C0.2.1 dX5_addBytes_70 hl (k := 2) rfl (congrArg (fun z => _ + z) kI_m8) (by decide) rfl (fun ls hl => ?_)
    refine lv_goto (tgt := 3) C0.1 C0.2.1 dX5_addBytes_73 (by decide) ?_
    exact hk3 (p_length + 1) (upd p_signs (Int32.toNatClampNeg p_length) (vp_nar .byte (i2b_ v4))) v1 (v3 + (-8)) H locs ls hW (lv_sub hl [1, 2, 0] rfl) hf
def fX5_addBytes_3 (k3 : Int32 → (Nat → Int32) → Int64 → Int32 → Option (Int32 × (Nat → Int32))) (p_length : Int32) (p_signs : (Nat → Int32)) (v1 : Int64) (v3 : Int32) : Option (Int32 × (Nat → Int32)) := if v3 < 0 then (some (p_length, p_signs)) else (if (Int64.toInt32 ((lush v1 v3) &&& 255)) = 10 then (fX5_addBytes_38 k3 p_length p_signs v1 v3 (Int64.toInt32 ((lush v1 v3) &&& 255))) else (if (Int64.toInt32 ((lush v1 v3) &&& 255)) < 32 then (k3 p_length p_signs v1 (v3 + (-8))) else (if 126 < (Int64.toInt32 ((lush v1 v3) &&& 255)) then (k3 p_length p_signs v1 (v3 + (-8))) else (fX5_addBytes_38 k3 p_length p_signs v1 v3 (Int64.toInt32 ((lush v1 v3) &&& 255))))))
set_option maxHeartbeats 4000000 in
set_option maxRecDepth 100000 in
theorem tX5_addBytes_3 {p : Program} {l : Launch} {e : Env} {s : State} {m : MethodId} {args : Array Value} {below : List Frame} {meth : Method} {c : Code} {D : va_G} {cy : Nat → ClassId} {ad : Nat → Nat} {P : MP} {V : MV} {I : MI} {J : MJ} {A : MI} {B : MJ} {Af : Nat → Prop} {res : Int32 × (Nat → Int32)} (C0 : CX p s m args meth c cX5_addBytes 5 none RX5) (hK : va_K D vwCl (tyG cy) s) (hN : NWs s) (hA : ∀ q, s.heap.size ≤ q → Af q) {k3 : Int32 → (Nat → Int32) → Int64 → Int32 → Option (Int32 × (Nat → Int32))} (hk3 : SX5_addBytes_3 p l e s m args below meth c D cy ad P V I J A B Af res k3) : SX5_addBytes_3 p l e s m args below meth c D cy ad P V I J A B Af res (fX5_addBytes_3 k3) := by
  intro p_length p_signs v1 v3 H locs ls hW hl hf
  unfold fX5_addBytes_3 at hf
  refine lv_iload_n C0.1 C0.2.1 dX5_addBytes_3 rfl (lv_at hl 2 rfl) ?_
  refine lv_if_lt (tgt := 76) C0.1 C0.2.1 dX5_addBytes_4 (by decide) (fun hc1 => ?_) (fun hc1 => ?_)
  · have hf := ite_t hc1 hf
    obtain rfl := Option.some.inj hf
    exact r_void C0 hK hW dX5_addBytes_76
  · have hf := ite_f hc1 hf
    refine lv_lload_n C0.1 C0.2.1 dX5_addBytes_7 rfl (lv_at hl 1 rfl) ?_
    refine lv_iload_n C0.1 C0.2.1 dX5_addBytes_8 rfl (lv_at hl 2 rfl) ?_
    refine lv_lushr (v := (lush v1 v3)) C0.1 C0.2.1 dX5_addBytes_9 rfl ?_
    refine lv_ldc2 (v := 255) C0.1 C0.2.1 C0.2.2.2.2.1 (C0.2.2.2.2.2.1 _ uw_437) dX5_addBytes_10 ?_
    refine lv_land C0.1 C0.2.1 dX5_addBytes_13 ?_
    refine lv_l2i (v := (Int64.toInt32 ((lush v1 v3) &&& 255))) C0.1 C0.2.1 dX5_addBytes_14 rfl ?_
    refine lv_istore (lv' := [(4, .int (Int64.toInt32 ((lush v1 v3) &&& 255))), (0, .ref (ad 0)), (1, .long v1), (3, .int v3)]) C0.1 C0.2.1 dX5_addBytes_15 hl (by decide) rfl (fun ls hl => ?_)
    refine lv_iload C0.1 C0.2.1 dX5_addBytes_17 (lv_at hl 0 rfl) ?_
    refine lv_bipush (v := 10) C0.1 C0.2.1 dX5_addBytes_19 kB_10 ?_
    refine lv_icmp_eq (tgt := 38) C0.1 C0.2.1 dX5_addBytes_21 (by decide) (fun hc2 => ?_) (fun hc2 => ?_)
    · have hf := ite_t hc2 hf
      exact tX5_addBytes_38 C0 hK hN hA hk3 p_length p_signs v1 v3 (Int64.toInt32 ((lush v1 v3) &&& 255)) H locs ls hW (lv_sub hl [1, 2, 3, 0] rfl) hf
    · have hf := ite_f hc2 hf
      refine lv_iload C0.1 C0.2.1 dX5_addBytes_24 (lv_at hl 0 rfl) ?_
      refine lv_bipush (v := 32) C0.1 C0.2.1 dX5_addBytes_26 kB_32 ?_
      refine lv_icmp_lt (tgt := 70) C0.1 C0.2.1 dX5_addBytes_28 (by decide) (fun hc3 => ?_) (fun hc3 => ?_)
      · have hf := ite_t hc3 hf
        refine lv_iinc (v := (v3 + (-8))) (lv' := [(3, .int (v3 + (-8))), (4, .int (Int64.toInt32 ((lush v1 v3) &&& 255))), (0, .ref (ad 0)), (1, .long v1)]) C0.1 C0.2.1 dX5_addBytes_70 hl (k := 3) rfl (congrArg (fun z => _ + z) kI_m8) (by decide) rfl (fun ls hl => ?_)
        refine lv_goto (tgt := 3) C0.1 C0.2.1 dX5_addBytes_73 (by decide) ?_
        exact hk3 p_length p_signs v1 (v3 + (-8)) H locs ls hW (lv_sub hl [2, 3, 0] rfl) hf
      · have hf := ite_f hc3 hf
        refine lv_iload C0.1 C0.2.1 dX5_addBytes_31 (lv_at hl 0 rfl) ?_
        refine lv_bipush (v := 126) C0.1 C0.2.1 dX5_addBytes_33 kB_126 ?_
        refine lv_icmp_gt (tgt := 70) C0.1 C0.2.1 dX5_addBytes_35 (by decide) (fun hc4 => ?_) (fun hc4 => ?_)
        · have hf := ite_t hc4 hf
          refine lv_iinc (v := (v3 + (-8))) (lv' := [(3, .int (v3 + (-8))), (4, .int (Int64.toInt32 ((lush v1 v3) &&& 255))), (0, .ref (ad 0)), (1, .long v1)]) C0.1 C0.2.1 dX5_addBytes_70 hl (k := 3) rfl (congrArg (fun z => _ + z) kI_m8) (by decide) rfl (fun ls hl => ?_)
          refine lv_goto (tgt := 3) C0.1 C0.2.1 dX5_addBytes_73 (by decide) ?_
          exact hk3 p_length p_signs v1 (v3 + (-8)) H locs ls hW (lv_sub hl [2, 3, 0] rfl) hf
        · have hf := ite_f hc4 hf
          exact tX5_addBytes_38 C0 hK hN hA hk3 p_length p_signs v1 v3 (Int64.toInt32 ((lush v1 v3) &&& 255)) H locs ls hW (lv_sub hl [1, 2, 3, 0] rfl) hf
theorem TX5_addBytes_3 {p : Program} {l : Launch} {e : Env} {s : State} {m : MethodId} {args : Array Value} {below : List Frame} {meth : Method} {c : Code} {D : va_G} {cy : Nat → ClassId} {ad : Nat → Nat} {P : MP} {V : MV} {I : MI} {J : MJ} {A : MI} {B : MJ} {Af : Nat → Prop} {res : Int32 × (Nat → Int32)} (C0 : CX p s m args meth c cX5_addBytes 5 none RX5) (hK : va_K D vwCl (tyG cy) s) (hN : NWs s) (hA : ∀ q, s.heap.size ≤ q → Af q) : ∀ n, SX5_addBytes_3 p l e s m args below meth c D cy ad P V I J A B Af res (itr (fun kk => fX5_addBytes_3  kk) (fun _ _ _ _ => none) n) := by
  intro n
  induction n with
  | zero => intro p_length p_signs v1 v3 H locs ls hW hl hf; exact (nomatch (show (none : Option (Int32 × (Nat → Int32))) = some res from hf))
  | succ n ih => exact tX5_addBytes_3 C0 hK hN hA  ih
def fX5_addBytes (p_length : Int32) (p_signs : (Nat → Int32)) (v1 : Int64) : Option (Int32 × (Nat → Int32)) := itr (fun kk => fX5_addBytes_3 kk) (fun _ _ _ _ => none) FU p_length p_signs v1 56
set_option maxHeartbeats 4000000 in
set_option maxRecDepth 100000 in
theorem KX5_addBytes (l : Launch) (D : va_G) (cy : Nat → ClassId) (ad : Nat → Nat) (P : MP) (V : MV) (I : MI) (J : MJ) (A : MI) (B : MJ) (v1 : Int64) {res : Int32 × (Nat → Int32)} (hf : fX5_addBytes (I 0 6) (A 1) v1 = some res) : CG l yX5_addBytes cX5_addBytes 5 none rmX5_addBytes D cy (dn cy LY_X5 ad P V I J A B) [.ref (ad 0), .long v1] none (dn cy LY_X5 ad P V (gp I [(0, 6, res.1)]) (gp J []) (gm A [(1, res.2)]) (gm B [])) := by
  refine CG.of (own := RX5) (by decide) rfl rfl ?_
  intro p e s m below meth c ls Af C0 hK hN hA hW hl
  have hW : wd D (dn cy LY_X5 ad P V (gp I [(0, 6, (I 0 6))]) (gp J []) (gm A [(1, (A 1))]) (gm B [])) Af s.heap s.heap [] := wd_sel [(0, 6)] [] [1] [] hW
  have hl : lv_has ls 5 [(0, .ref (ad 0)), (1, .long v1)] := hl
  unfold fX5_addBytes at hf
  refine lv_bipush (v := 56) C0.1 C0.2.1 dX5_addBytes_0 kB_56 ?_
  refine lv_istore_n (lv' := [(3, .int 56), (0, .ref (ad 0)), (1, .long v1)]) C0.1 C0.2.1 dX5_addBytes_2 rfl hl (by decide) rfl (fun ls hl => ?_)
  exact TX5_addBytes_3 C0 hK hN hA  FU (I 0 6) (A 1) v1 56 _ _ ls hW (lv_sub hl [1, 2, 0] rfl) hf
-- X5_begin
def rmX5_begin : Room := { frames := 4, cells := 0, slots := 0, locals := 83 }
def fX5_begin (p_length : Int32) (p_signs : (Nat → Int32)) (p_words : (Nat → Int64)) (p_behind : Int32) (p_place : Int32) (p_takenPlace : Int32) (p_token : Int32) (p_number : Int32) (p_fault : Int32) (p_name : Int64) : Option (Int32 × Int32 × Int32 × Int32 × Int32 × Int32 × Int64) := Option.bind (fX5_next p_length p_signs p_words 0 p_place p_takenPlace p_token p_number p_name) fun y1 => (some (y1.1, y1.2.1, y1.2.2.1, y1.2.2.2.1, y1.2.2.2.2.1, 0, y1.2.2.2.2.2))
set_option maxHeartbeats 4000000 in
set_option maxRecDepth 100000 in
theorem KX5_begin (l : Launch) (D : va_G) (cy : Nat → ClassId) (ad : Nat → Nat) (P : MP) (V : MV) (I : MI) (J : MJ) (A : MI) (B : MJ) {res : Int32 × Int32 × Int32 × Int32 × Int32 × Int32 × Int64} (hf : fX5_begin (I 0 6) (A 1) (B 2) (I 0 2) (I 0 3) (I 0 4) (I 0 7) (I 0 8) (I 0 9) (J 0 5) = some res) : CG l yX5_begin cX5_begin 1 none rmX5_begin D cy (dn cy LY_X5 ad P V I J A B) [.ref (ad 0)] none (dn cy LY_X5 ad P V (gp I [(0, 2, res.1), (0, 3, res.2.1), (0, 4, res.2.2.1), (0, 7, res.2.2.2.1), (0, 8, res.2.2.2.2.1), (0, 9, res.2.2.2.2.2.1)]) (gp J [(0, 5, res.2.2.2.2.2.2)]) (gm A []) (gm B [])) := by
  refine CG.of (own := RX5) (by decide) rfl rfl ?_
  intro p e s m below meth c ls Af C0 hK hN hA hW hl
  have hW : wd D (dn cy LY_X5 ad P V (gp I [(0, 2, (I 0 2)), (0, 3, (I 0 3)), (0, 4, (I 0 4)), (0, 7, (I 0 7)), (0, 8, (I 0 8)), (0, 9, (I 0 9))]) (gp J [(0, 5, (J 0 5))]) (gm A []) (gm B [])) Af s.heap s.heap [] := wd_sel [(0, 2), (0, 3), (0, 4), (0, 7), (0, 8), (0, 9)] [(0, 5)] [] [] hW
  have hl : lv_has ls 1 [(0, .ref (ad 0))] := hl
  unfold fX5_begin at hf
  refine lv_aload_n C0.1 C0.2.1 dX5_begin_0 rfl (lv_at hl 0 rfl) ?_
  refine lv_iconst (v := 0) C0.1 C0.2.1 dX5_begin_1 kI_0 ?_
  refine s_putI C0 hK hW 0 2 LY_X5_0 rfl fg_X5_36 fp_X5_2 rfl dX5_begin_2 (fun H locs hW => ?_)
  have hW : wd D (dn cy LY_X5 ad P V (gp I [(0, 2, 0), (0, 3, (I 0 3)), (0, 4, (I 0 4)), (0, 7, (I 0 7)), (0, 8, (I 0 8)), (0, 9, (I 0 9))]) (gp J [(0, 5, (J 0 5))]) (gm A []) (gm B [])) Af s.heap H locs := hW
  refine lv_aload_n C0.1 C0.2.1 dX5_begin_5 rfl (lv_at hl 0 rfl) ?_
  refine lv_iconst (v := 0) C0.1 C0.2.1 dX5_begin_6 kI_0 ?_
  refine s_putI C0 hK hW 0 9 LY_X5_0 rfl fg_X5_39 fp_X5_9 rfl dX5_begin_7 (fun H locs hW => ?_)
  have hW : wd D (dn cy LY_X5 ad P V (gp I [(0, 2, 0), (0, 3, (I 0 3)), (0, 4, (I 0 4)), (0, 7, (I 0 7)), (0, 8, (I 0 8)), (0, 9, 0)]) (gp J [(0, 5, (J 0 5))]) (gm A []) (gm B [])) Af s.heap H locs := hW
  refine lv_aload_n C0.1 C0.2.1 dX5_begin_10 rfl (lv_at hl 0 rfl) ?_
  obtain ⟨y1, hy1, hf⟩ := b_some hf
  refine c_Vv C0 hK hN hl.1 hW hA (KX5_next l D cy  ad P V (gp I [(0, 2, 0), (0, 3, (I 0 3)), (0, 4, (I 0 4)), (0, 7, (I 0 7)), (0, 8, (I 0 8)), (0, 9, 0)]) (gp J [(0, 5, (J 0 5))]) (gm A []) (gm B [])  hy1) (JN_id rfl rfl rfl rfl) (Uw_V uw_454 uw_455 uw_456 uw_2 uw_457) rfl rfl hd_X5_next ⟨rfl, rfl⟩ rfl (dn_some LY_X5_0) rfl rfl rfl dX5_begin_11 ⟨Nat.zero_le _, Nat.zero_le _⟩ (fun H locs hW => ?_)
  have hW : wd D (dn cy LY_X5 ad P V (gp I [(0, 2, y1.1), (0, 3, y1.2.1), (0, 4, y1.2.2.1), (0, 7, y1.2.2.2.1), (0, 8, y1.2.2.2.2.1), (0, 9, 0)]) (gp J [(0, 5, y1.2.2.2.2.2)]) (gm A []) (gm B [])) Af s.heap H locs := hW
  obtain rfl := Option.some.inj hf
  exact r_void C0 hK hW dX5_begin_14
-- X5_isAtEnd
def rmX5_isAtEnd : Room := { frames := 1, cells := 0, slots := 0, locals := 21 }
def fX5_isAtEnd (p_token : Int32) (p_fault : Int32) : Option (Int32) := if p_fault = 0 then (if p_token = 0 then (some (1)) else (some (0))) else (some (1))
set_option maxHeartbeats 4000000 in
set_option maxRecDepth 100000 in
theorem KX5_isAtEnd (l : Launch) (D : va_G) (cy : Nat → ClassId) (ad : Nat → Nat) (P : MP) (V : MV) (I : MI) (J : MJ) (A : MI) (B : MJ) {res : Int32} (hf : fX5_isAtEnd (I 0 7) (I 0 9) = some res) : CG l yX5_isAtEnd cX5_isAtEnd 1 (some .boolean) rmX5_isAtEnd D cy (dn cy LY_X5 ad P V I J A B) [.ref (ad 0)] (some (.int res)) (dn cy LY_X5 ad P V (gp I []) (gp J []) (gm A []) (gm B [])) := by
  refine CG.of (own := RX5) (by decide) rfl rfl ?_
  intro p e s m below meth c ls Af C0 hK hN hA hW hl
  have hW : wd D (dn cy LY_X5 ad P V (gp I []) (gp J []) (gm A []) (gm B [])) Af s.heap s.heap [] := wd_sel [] [] [] [] hW
  have hl : lv_has ls 1 [(0, .ref (ad 0))] := hl
  unfold fX5_isAtEnd at hf
  refine lv_aload_n C0.1 C0.2.1 dX5_isAtEnd_0 rfl (lv_at hl 0 rfl) ?_
  refine s_get (v := .int (I 0 9)) C0 hK hW 0 9 LY_X5_0 rfl fg_X5_39 rfl dX5_isAtEnd_1 ?_
  refine lv_if_ne (tgt := 14) C0.1 C0.2.1 dX5_isAtEnd_4 (by decide) (fun hc1 => ?_) (fun hc1 => ?_)
  · have hf := ite_f hc1 hf
    refine lv_iconst (v := 1) C0.1 C0.2.1 dX5_isAtEnd_14 kI_1 ?_
    refine lv_goto (tgt := 19) C0.1 C0.2.1 dX5_isAtEnd_15 (by decide) ?_
    obtain rfl := Option.some.inj hf
    exact r_bool C0 hK hW (v' := 1) rfl dX5_isAtEnd_19
  · have hf := ite_t hc1 hf
    refine lv_aload_n C0.1 C0.2.1 dX5_isAtEnd_7 rfl (lv_at hl 0 rfl) ?_
    refine s_get (v := .int (I 0 7)) C0 hK hW 0 7 LY_X5_0 rfl fg_X5_45 rfl dX5_isAtEnd_8 ?_
    refine lv_if_ne (tgt := 18) C0.1 C0.2.1 dX5_isAtEnd_11 (by decide) (fun hc2 => ?_) (fun hc2 => ?_)
    · have hf := ite_f hc2 hf
      refine lv_iconst (v := 0) C0.1 C0.2.1 dX5_isAtEnd_18 kI_0 ?_
      obtain rfl := Option.some.inj hf
      exact r_bool C0 hK hW (v' := 0) rfl dX5_isAtEnd_19
    · have hf := ite_t hc2 hf
      refine lv_iconst (v := 1) C0.1 C0.2.1 dX5_isAtEnd_14 kI_1 ?_
      refine lv_goto (tgt := 19) C0.1 C0.2.1 dX5_isAtEnd_15 (by decide) ?_
      obtain rfl := Option.some.inj hf
      exact r_bool C0 hK hW (v' := 1) rfl dX5_isAtEnd_19
-- X5_refuseTaken
def rmX5_refuseTaken : Room := { frames := 1, cells := 0, slots := 0, locals := 21 }
def fX5_refuseTaken (p_takenPlace : Int32) (p_fault : Int32) (v1 : Int32) : Option (Int32) := if p_fault = 0 then (some ((v1 + (16 * p_takenPlace)))) else (some (p_fault))
set_option maxHeartbeats 4000000 in
set_option maxRecDepth 100000 in
theorem KX5_refuseTaken (l : Launch) (D : va_G) (cy : Nat → ClassId) (ad : Nat → Nat) (P : MP) (V : MV) (I : MI) (J : MJ) (A : MI) (B : MJ) (v1 : Int32) {res : Int32} (hf : fX5_refuseTaken (I 0 4) (I 0 9) v1 = some res) : CG l yX5_refuseTaken cX5_refuseTaken 2 none rmX5_refuseTaken D cy (dn cy LY_X5 ad P V I J A B) [.ref (ad 0), .int v1] none (dn cy LY_X5 ad P V (gp I [(0, 9, res)]) (gp J []) (gm A []) (gm B [])) := by
  refine CG.of (own := RX5) (by decide) rfl rfl ?_
  intro p e s m below meth c ls Af C0 hK hN hA hW hl
  have hW : wd D (dn cy LY_X5 ad P V (gp I [(0, 9, (I 0 9))]) (gp J []) (gm A []) (gm B [])) Af s.heap s.heap [] := wd_sel [(0, 9)] [] [] [] hW
  have hl : lv_has ls 2 [(0, .ref (ad 0)), (1, .int v1)] := hl
  unfold fX5_refuseTaken at hf
  refine lv_aload_n C0.1 C0.2.1 dX5_refuseTaken_0 rfl (lv_at hl 0 rfl) ?_
  refine s_get (v := .int (I 0 9)) C0 hK hW 0 9 LY_X5_0 rfl fg_X5_39 rfl dX5_refuseTaken_1 ?_
  refine lv_if_ne (tgt := 20) C0.1 C0.2.1 dX5_refuseTaken_4 (by decide) (fun hc1 => ?_) (fun hc1 => ?_)
  · have hf := ite_f hc1 hf
    obtain rfl := Option.some.inj hf
    exact r_void C0 hK hW dX5_refuseTaken_20
  · have hf := ite_t hc1 hf
    refine lv_aload_n C0.1 C0.2.1 dX5_refuseTaken_7 rfl (lv_at hl 0 rfl) ?_
    refine lv_iload_n C0.1 C0.2.1 dX5_refuseTaken_8 rfl (lv_at hl 1 rfl) ?_
    refine lv_bipush (v := 16) C0.1 C0.2.1 dX5_refuseTaken_9 kB_16 ?_
    refine lv_aload_n C0.1 C0.2.1 dX5_refuseTaken_11 rfl (lv_at hl 0 rfl) ?_
    refine s_get (v := .int (I 0 4)) C0 hK hW 0 4 LY_X5_0 rfl fg_X5_51 rfl dX5_refuseTaken_12 ?_
    refine lv_imul C0.1 C0.2.1 dX5_refuseTaken_15 ?_
    refine lv_iadd C0.1 C0.2.1 dX5_refuseTaken_16 ?_
    refine s_putI C0 hK hW 0 9 LY_X5_0 rfl fg_X5_39 fp_X5_9 rfl dX5_refuseTaken_17 (fun H locs hW => ?_)
    have hW : wd D (dn cy LY_X5 ad P V (gp I [(0, 9, (v1 + (16 * (I 0 4))))]) (gp J []) (gm A []) (gm B [])) Af s.heap H locs := hW
    obtain rfl := Option.some.inj hf
    exact r_void C0 hK hW dX5_refuseTaken_20
-- X5_expect
def rmX5_expect : Room := { frames := 4, cells := 0, slots := 0, locals := 83 }
def SX5_expect_13 (p : Program) (l : Launch) (e : Env) (s : State) (m : MethodId) (args : Array Value) (below : List Frame) (meth : Method) (c : Code) (D : va_G) (cy : Nat → ClassId) (ad : Nat → Nat) (P : MP) (V : MV) (I : MI) (J : MJ) (A : MI) (B : MJ) (Af : Nat → Prop) (res : Int32 × Int32 × Int32 × Int32 × Int32 × Int32 × Int64) (k : Int32 → Int32 → Int32 → Int32 → Int32 → Int32 → Int64 → Option (Int32 × Int32 × Int32 × Int32 × Int32 × Int32 × Int64)) : Prop := ∀ (p_behind : Int32) (p_place : Int32) (p_takenPlace : Int32) (p_token : Int32) (p_number : Int32) (p_fault : Int32) (p_name : Int64) (H : Heap) (locs : List Loc) (ls : Array Slot), wd D (dn cy LY_X5 ad P V (gp I [(0, 2, p_behind), (0, 3, p_place), (0, 4, p_takenPlace), (0, 7, p_token), (0, 8, p_number), (0, 9, p_fault)]) (gp J [(0, 5, p_name)]) (gm A []) (gm B [])) Af s.heap H locs → lv_has ls 2 [(0, .ref (ad 0))] → k p_behind p_place p_takenPlace p_token p_number p_fault p_name = some res → W p l e rmX5_expect s m args below meth c H locs 0 0 (ZQ below D cy (dn cy LY_X5 ad P V (gp I [(0, 2, res.1), (0, 3, res.2.1), (0, 4, res.2.2.1), (0, 7, res.2.2.2.1), (0, 8, res.2.2.2.2.1), (0, 9, res.2.2.2.2.2.1)]) (gp J [(0, 5, res.2.2.2.2.2.2)]) (gm A []) (gm B [])) none Af args s) (F0 m 13 ls [])
def fX5_expect_13 (p_length : Int32) (p_signs : (Nat → Int32)) (p_words : (Nat → Int64)) (p_behind : Int32) (p_place : Int32) (p_takenPlace : Int32) (p_token : Int32) (p_number : Int32) (p_fault : Int32) (p_name : Int64) : Option (Int32 × Int32 × Int32 × Int32 × Int32 × Int32 × Int64) := if p_fault = 0 then (Option.bind (fX5_next p_length p_signs p_words p_behind p_place p_takenPlace p_token p_number p_name) fun y2 => (some (y2.1, y2.2.1, y2.2.2.1, y2.2.2.2.1, y2.2.2.2.2.1, p_fault, y2.2.2.2.2.2))) else (some (p_behind, p_place, p_takenPlace, p_token, p_number, p_fault, p_name))
set_option maxHeartbeats 4000000 in
set_option maxRecDepth 100000 in
theorem tX5_expect_13 {p : Program} {l : Launch} {e : Env} {s : State} {m : MethodId} {args : Array Value} {below : List Frame} {meth : Method} {c : Code} {D : va_G} {cy : Nat → ClassId} {ad : Nat → Nat} {P : MP} {V : MV} {I : MI} {J : MJ} {A : MI} {B : MJ} {Af : Nat → Prop} {res : Int32 × Int32 × Int32 × Int32 × Int32 × Int32 × Int64} (C0 : CX p s m args meth c cX5_expect 2 none RX5) (hK : va_K D vwCl (tyG cy) s) (hN : NWs s) (hA : ∀ q, s.heap.size ≤ q → Af q) : SX5_expect_13 p l e s m args below meth c D cy ad P V I J A B Af res (fX5_expect_13 (I 0 6) (A 1) (B 2)) := by
  intro p_behind p_place p_takenPlace p_token p_number p_fault p_name H locs ls hW hl hf
  unfold fX5_expect_13 at hf
  refine lv_aload_n C0.1 C0.2.1 dX5_expect_13 rfl (lv_at hl 0 rfl) ?_
  refine s_get (v := .int p_fault) C0 hK hW 0 9 LY_X5_0 rfl fg_X5_39 rfl dX5_expect_14 ?_
  refine lv_if_ne (tgt := 24) C0.1 C0.2.1 dX5_expect_17 (by decide) (fun hc1 => ?_) (fun hc1 => ?_)
  · have hf := ite_f hc1 hf
    obtain rfl := Option.some.inj hf
    exact r_void C0 hK hW dX5_expect_24
  · have hf := ite_t hc1 hf
    refine lv_aload_n C0.1 C0.2.1 dX5_expect_20 rfl (lv_at hl 0 rfl) ?_
    obtain ⟨y2, hy2, hf⟩ := b_some hf
    refine c_Vv C0 hK hN hl.1 hW hA (KX5_next l D cy  ad P V (gp I [(0, 2, p_behind), (0, 3, p_place), (0, 4, p_takenPlace), (0, 7, p_token), (0, 8, p_number), (0, 9, p_fault)]) (gp J [(0, 5, p_name)]) (gm A []) (gm B [])  hy2) (JN_id rfl rfl rfl rfl) (Uw_V uw_454 uw_455 uw_456 uw_2 uw_457) rfl rfl hd_X5_next ⟨rfl, rfl⟩ rfl (dn_some LY_X5_0) rfl rfl rfl dX5_expect_21 ⟨Nat.zero_le _, Nat.zero_le _⟩ (fun H locs hW => ?_)
    have hW : wd D (dn cy LY_X5 ad P V (gp I [(0, 2, y2.1), (0, 3, y2.2.1), (0, 4, y2.2.2.1), (0, 7, y2.2.2.2.1), (0, 8, y2.2.2.2.2.1), (0, 9, p_fault)]) (gp J [(0, 5, y2.2.2.2.2.2)]) (gm A []) (gm B [])) Af s.heap H locs := hW
    obtain rfl := Option.some.inj hf
    exact r_void C0 hK hW dX5_expect_24
def fX5_expect (p_length : Int32) (p_signs : (Nat → Int32)) (p_words : (Nat → Int64)) (p_behind : Int32) (p_place : Int32) (p_takenPlace : Int32) (p_token : Int32) (p_number : Int32) (p_fault : Int32) (p_name : Int64) (v1 : Int32) : Option (Int32 × Int32 × Int32 × Int32 × Int32 × Int32 × Int64) := if p_token = v1 then (fX5_expect_13 p_length p_signs p_words p_behind p_place p_takenPlace p_token p_number p_fault p_name) else (Option.bind (fX5_refuse p_place p_fault 1) fun y2 => (fX5_expect_13 p_length p_signs p_words p_behind p_place p_takenPlace p_token p_number y2 p_name))
set_option maxHeartbeats 4000000 in
set_option maxRecDepth 100000 in
theorem KX5_expect (l : Launch) (D : va_G) (cy : Nat → ClassId) (ad : Nat → Nat) (P : MP) (V : MV) (I : MI) (J : MJ) (A : MI) (B : MJ) (v1 : Int32) {res : Int32 × Int32 × Int32 × Int32 × Int32 × Int32 × Int64} (hf : fX5_expect (I 0 6) (A 1) (B 2) (I 0 2) (I 0 3) (I 0 4) (I 0 7) (I 0 8) (I 0 9) (J 0 5) v1 = some res) : CG l yX5_expect cX5_expect 2 none rmX5_expect D cy (dn cy LY_X5 ad P V I J A B) [.ref (ad 0), .int v1] none (dn cy LY_X5 ad P V (gp I [(0, 2, res.1), (0, 3, res.2.1), (0, 4, res.2.2.1), (0, 7, res.2.2.2.1), (0, 8, res.2.2.2.2.1), (0, 9, res.2.2.2.2.2.1)]) (gp J [(0, 5, res.2.2.2.2.2.2)]) (gm A []) (gm B [])) := by
  refine CG.of (own := RX5) (by decide) rfl rfl ?_
  intro p e s m below meth c ls Af C0 hK hN hA hW hl
  have hW : wd D (dn cy LY_X5 ad P V (gp I [(0, 2, (I 0 2)), (0, 3, (I 0 3)), (0, 4, (I 0 4)), (0, 7, (I 0 7)), (0, 8, (I 0 8)), (0, 9, (I 0 9))]) (gp J [(0, 5, (J 0 5))]) (gm A []) (gm B [])) Af s.heap s.heap [] := wd_sel [(0, 2), (0, 3), (0, 4), (0, 7), (0, 8), (0, 9)] [(0, 5)] [] [] hW
  have hl : lv_has ls 2 [(0, .ref (ad 0)), (1, .int v1)] := hl
  unfold fX5_expect at hf
  refine lv_aload_n C0.1 C0.2.1 dX5_expect_0 rfl (lv_at hl 0 rfl) ?_
  refine s_get (v := .int (I 0 7)) C0 hK hW 0 7 LY_X5_0 rfl fg_X5_45 rfl dX5_expect_1 ?_
  refine lv_iload_n C0.1 C0.2.1 dX5_expect_4 rfl (lv_at hl 1 rfl) ?_
  refine lv_icmp_eq (tgt := 13) C0.1 C0.2.1 dX5_expect_5 (by decide) (fun hc1 => ?_) (fun hc1 => ?_)
  · have hf := ite_t hc1 hf
    exact tX5_expect_13 C0 hK hN hA  (I 0 2) (I 0 3) (I 0 4) (I 0 7) (I 0 8) (I 0 9) (J 0 5) _ _ ls hW (lv_sub hl [0] rfl) hf
  · have hf := ite_f hc1 hf
    refine lv_aload_n C0.1 C0.2.1 dX5_expect_8 rfl (lv_at hl 0 rfl) ?_
    refine lv_iconst (v := 1) C0.1 C0.2.1 dX5_expect_9 kI_1 ?_
    obtain ⟨y2, hy2, hf⟩ := b_some hf
    refine c_Vv C0 hK hN hl.1 hW hA (KX5_refuse l D cy  ad P V (gp I [(0, 2, (I 0 2)), (0, 3, (I 0 3)), (0, 4, (I 0 4)), (0, 7, (I 0 7)), (0, 8, (I 0 8)), (0, 9, (I 0 9))]) (gp J [(0, 5, (J 0 5))]) (gm A []) (gm B []) 1 hy2) (JN_id rfl rfl rfl rfl) (Uw_V uw_503 uw_485 uw_486 uw_2 uw_487) rfl rfl hd_X5_refuse ⟨rfl, rfl⟩ rfl (dn_some LY_X5_0) rfl rfl rfl dX5_expect_10 ⟨Nat.zero_le _, Nat.zero_le _⟩ (fun H locs hW => ?_)
    have hW : wd D (dn cy LY_X5 ad P V (gp I [(0, 2, (I 0 2)), (0, 3, (I 0 3)), (0, 4, (I 0 4)), (0, 7, (I 0 7)), (0, 8, (I 0 8)), (0, 9, y2)]) (gp J [(0, 5, (J 0 5))]) (gm A []) (gm B [])) Af s.heap H locs := hW
    exact tX5_expect_13 C0 hK hN hA  (I 0 2) (I 0 3) (I 0 4) (I 0 7) (I 0 8) y2 (J 0 5) _ _ ls hW (lv_sub hl [0] rfl) hf
-- X5_expectNumber
def rmX5_expectNumber : Room := { frames := 5, cells := 0, slots := 0, locals := 104 }
def SX5_expectNumber_31 (p : Program) (l : Launch) (e : Env) (s : State) (m : MethodId) (args : Array Value) (below : List Frame) (meth : Method) (c : Code) (D : va_G) (cy : Nat → ClassId) (ad : Nat → Nat) (P : MP) (V : MV) (I : MI) (J : MJ) (A : MI) (B : MJ) (Af : Nat → Prop) (res : Int32 × Int32 × Int32 × Int32 × Int32 × Int32 × Int32 × Int64) (k : Int32 → Int32 → Int32 → Int32 → Int32 → Int32 → Int64 → Int32 → Int32 → Option (Int32 × Int32 × Int32 × Int32 × Int32 × Int32 × Int32 × Int64)) : Prop := ∀ (p_behind : Int32) (p_place : Int32) (p_takenPlace : Int32) (p_token : Int32) (p_number : Int32) (p_fault : Int32) (p_name : Int64) (v1 : Int32) (v3 : Int32) (H : Heap) (locs : List Loc) (ls : Array Slot), wd D (dn cy LY_X5 ad P V (gp I [(0, 2, p_behind), (0, 3, p_place), (0, 4, p_takenPlace), (0, 7, p_token), (0, 8, p_number), (0, 9, p_fault)]) (gp J [(0, 5, p_name)]) (gm A []) (gm B [])) Af s.heap H locs → lv_has ls 4 [(0, .ref (ad 0)), (1, .int v1), (3, .int v3)] → k p_behind p_place p_takenPlace p_token p_number p_fault p_name v1 v3 = some res → W p l e rmX5_expectNumber s m args below meth c H locs 0 0 (ZQ below D cy (dn cy LY_X5 ad P V (gp I [(0, 2, res.2.1), (0, 3, res.2.2.1), (0, 4, res.2.2.2.1), (0, 7, res.2.2.2.2.1), (0, 8, res.2.2.2.2.2.1), (0, 9, res.2.2.2.2.2.2.1)]) (gp J [(0, 5, res.2.2.2.2.2.2.2)]) (gm A []) (gm B [])) (some (.int res.1)) Af args s) (F0 m 31 ls [])
def fX5_expectNumber_31 (p_length : Int32) (p_signs : (Nat → Int32)) (p_words : (Nat → Int64)) (p_behind : Int32) (p_place : Int32) (p_takenPlace : Int32) (p_token : Int32) (p_number : Int32) (p_fault : Int32) (p_name : Int64) (v1 : Int32) (v3 : Int32) : Option (Int32 × Int32 × Int32 × Int32 × Int32 × Int32 × Int32 × Int64) := if p_fault = 0 then (some (v3, p_behind, p_place, p_takenPlace, p_token, p_number, p_fault, p_name)) else (some (v1, p_behind, p_place, p_takenPlace, p_token, p_number, p_fault, p_name))
set_option maxHeartbeats 4000000 in
set_option maxRecDepth 100000 in
theorem tX5_expectNumber_31 {p : Program} {l : Launch} {e : Env} {s : State} {m : MethodId} {args : Array Value} {below : List Frame} {meth : Method} {c : Code} {D : va_G} {cy : Nat → ClassId} {ad : Nat → Nat} {P : MP} {V : MV} {I : MI} {J : MJ} {A : MI} {B : MJ} {Af : Nat → Prop} {res : Int32 × Int32 × Int32 × Int32 × Int32 × Int32 × Int32 × Int64} (C0 : CX p s m args meth c cX5_expectNumber 4 (some .int) RX5) (hK : va_K D vwCl (tyG cy) s) (hN : NWs s) (hA : ∀ q, s.heap.size ≤ q → Af q) : SX5_expectNumber_31 p l e s m args below meth c D cy ad P V I J A B Af res (fX5_expectNumber_31 (I 0 6) (A 1) (B 2)) := by
  intro p_behind p_place p_takenPlace p_token p_number p_fault p_name v1 v3 H locs ls hW hl hf
  unfold fX5_expectNumber_31 at hf
  refine lv_aload_n C0.1 C0.2.1 dX5_expectNumber_31 rfl (lv_at hl 0 rfl) ?_
  refine s_get (v := .int p_fault) C0 hK hW 0 9 LY_X5_0 rfl fg_X5_39 rfl dX5_expectNumber_32 ?_
  refine lv_if_ne (tgt := 42) C0.1 C0.2.1 dX5_expectNumber_35 (by decide) (fun hc1 => ?_) (fun hc1 => ?_)
  · have hf := ite_f hc1 hf
    refine lv_iload_n C0.1 C0.2.1 dX5_expectNumber_42 rfl (lv_at hl 1 rfl) ?_
    obtain rfl := Option.some.inj hf
    exact r_int C0 hK hW dX5_expectNumber_43
  · have hf := ite_t hc1 hf
    refine lv_iload_n C0.1 C0.2.1 dX5_expectNumber_38 rfl (lv_at hl 2 rfl) ?_
    refine lv_goto (tgt := 43) C0.1 C0.2.1 dX5_expectNumber_39 (by decide) ?_
    obtain rfl := Option.some.inj hf
    exact r_int C0 hK hW dX5_expectNumber_43
def fX5_expectNumber (p_length : Int32) (p_signs : (Nat → Int32)) (p_words : (Nat → Int64)) (p_behind : Int32) (p_place : Int32) (p_takenPlace : Int32) (p_token : Int32) (p_number : Int32) (p_fault : Int32) (p_name : Int64) (v1 : Int32) (v2 : Int32) : Option (Int32 × Int32 × Int32 × Int32 × Int32 × Int32 × Int32 × Int64) := Option.bind (fX5_expect p_length p_signs p_words p_behind p_place p_takenPlace p_token p_number p_fault p_name 2) fun y1 => (if y1.2.2.2.2.2.1 = 0 then (Option.bind (fX8_isWithin p_number v1 v2) fun y3 => (if y3 = 0 then (Option.bind (fX5_refuseTaken y1.2.2.1 y1.2.2.2.2.2.1 4) fun y5 => (fX5_expectNumber_31 p_length p_signs p_words y1.1 y1.2.1 y1.2.2.1 y1.2.2.2.1 y1.2.2.2.2.1 y5 y1.2.2.2.2.2.2 v1 p_number)) else (fX5_expectNumber_31 p_length p_signs p_words y1.1 y1.2.1 y1.2.2.1 y1.2.2.2.1 y1.2.2.2.2.1 y1.2.2.2.2.2.1 y1.2.2.2.2.2.2 v1 p_number))) else (fX5_expectNumber_31 p_length p_signs p_words y1.1 y1.2.1 y1.2.2.1 y1.2.2.2.1 y1.2.2.2.2.1 y1.2.2.2.2.2.1 y1.2.2.2.2.2.2 v1 p_number))
set_option maxHeartbeats 4000000 in
set_option maxRecDepth 100000 in
theorem KX5_expectNumber (l : Launch) (D : va_G) (cy : Nat → ClassId) (ad : Nat → Nat) (P : MP) (V : MV) (I : MI) (J : MJ) (A : MI) (B : MJ) (v1 : Int32) (v2 : Int32) {res : Int32 × Int32 × Int32 × Int32 × Int32 × Int32 × Int32 × Int64} (hf : fX5_expectNumber (I 0 6) (A 1) (B 2) (I 0 2) (I 0 3) (I 0 4) (I 0 7) (I 0 8) (I 0 9) (J 0 5) v1 v2 = some res) : CG l yX5_expectNumber cX5_expectNumber 4 (some .int) rmX5_expectNumber D cy (dn cy LY_X5 ad P V I J A B) [.ref (ad 0), .int v1, .int v2] (some (.int res.1)) (dn cy LY_X5 ad P V (gp I [(0, 2, res.2.1), (0, 3, res.2.2.1), (0, 4, res.2.2.2.1), (0, 7, res.2.2.2.2.1), (0, 8, res.2.2.2.2.2.1), (0, 9, res.2.2.2.2.2.2.1)]) (gp J [(0, 5, res.2.2.2.2.2.2.2)]) (gm A []) (gm B [])) := by
  refine CG.of (own := RX5) (by decide) rfl rfl ?_
  intro p e s m below meth c ls Af C0 hK hN hA hW hl
  have hW : wd D (dn cy LY_X5 ad P V (gp I [(0, 2, (I 0 2)), (0, 3, (I 0 3)), (0, 4, (I 0 4)), (0, 7, (I 0 7)), (0, 8, (I 0 8)), (0, 9, (I 0 9))]) (gp J [(0, 5, (J 0 5))]) (gm A []) (gm B [])) Af s.heap s.heap [] := wd_sel [(0, 2), (0, 3), (0, 4), (0, 7), (0, 8), (0, 9)] [(0, 5)] [] [] hW
  have hl : lv_has ls 4 [(0, .ref (ad 0)), (1, .int v1), (2, .int v2)] := hl
  unfold fX5_expectNumber at hf
  refine lv_aload_n C0.1 C0.2.1 dX5_expectNumber_0 rfl (lv_at hl 0 rfl) ?_
  refine s_get (v := .int (I 0 8)) C0 hK hW 0 8 LY_X5_0 rfl fg_X5_67 rfl dX5_expectNumber_1 ?_
  refine lv_istore_n (lv' := [(3, .int (I 0 8)), (0, .ref (ad 0)), (1, .int v1), (2, .int v2)]) C0.1 C0.2.1 dX5_expectNumber_4 rfl hl (by decide) rfl (fun ls hl => ?_)
  refine lv_aload_n C0.1 C0.2.1 dX5_expectNumber_5 rfl (lv_at hl 1 rfl) ?_
  refine lv_iconst (v := 2) C0.1 C0.2.1 dX5_expectNumber_6 kI_2 ?_
  obtain ⟨y1, hy1, hf⟩ := b_some hf
  refine c_Vv C0 hK hN hl.1 hW hA (KX5_expect l D cy  ad P V (gp I [(0, 2, (I 0 2)), (0, 3, (I 0 3)), (0, 4, (I 0 4)), (0, 7, (I 0 7)), (0, 8, (I 0 8)), (0, 9, (I 0 9))]) (gp J [(0, 5, (J 0 5))]) (gm A []) (gm B []) 2 hy1) (JN_id rfl rfl rfl rfl) (Uw_V uw_519 uw_512 uw_513 uw_2 uw_514) rfl rfl hd_X5_expect ⟨rfl, rfl⟩ rfl (dn_some LY_X5_0) rfl rfl rfl dX5_expectNumber_7 ⟨Nat.zero_le _, Nat.zero_le _⟩ (fun H locs hW => ?_)
  have hW : wd D (dn cy LY_X5 ad P V (gp I [(0, 2, y1.1), (0, 3, y1.2.1), (0, 4, y1.2.2.1), (0, 7, y1.2.2.2.1), (0, 8, y1.2.2.2.2.1), (0, 9, y1.2.2.2.2.2.1)]) (gp J [(0, 5, y1.2.2.2.2.2.2)]) (gm A []) (gm B [])) Af s.heap H locs := hW
  refine lv_aload_n C0.1 C0.2.1 dX5_expectNumber_10 rfl (lv_at hl 1 rfl) ?_
  refine s_get (v := .int y1.2.2.2.2.2.1) C0 hK hW 0 9 LY_X5_0 rfl fg_X5_39 rfl dX5_expectNumber_11 ?_
  refine lv_if_ne (tgt := 31) C0.1 C0.2.1 dX5_expectNumber_14 (by decide) (fun hc2 => ?_) (fun hc2 => ?_)
  · have hf := ite_f hc2 hf
    exact tX5_expectNumber_31 C0 hK hN hA  y1.1 y1.2.1 y1.2.2.1 y1.2.2.2.1 y1.2.2.2.2.1 y1.2.2.2.2.2.1 y1.2.2.2.2.2.2 v1 (I 0 8) _ _ ls hW (lv_sub hl [1, 2, 0] rfl) hf
  · have hf := ite_t hc2 hf
    refine lv_iload_n C0.1 C0.2.1 dX5_expectNumber_17 rfl (lv_at hl 0 rfl) ?_
    refine lv_iload_n C0.1 C0.2.1 dX5_expectNumber_18 rfl (lv_at hl 2 rfl) ?_
    refine lv_iload_n C0.1 C0.2.1 dX5_expectNumber_19 rfl (lv_at hl 3 rfl) ?_
    obtain ⟨y3, hy3, hf⟩ := b_some hf
    refine c_SNi C0 hK hN hl.1 hW hA (KX8_isWithin l D cy  (fun q => ad (pl_LY_X5_LY_0_.getD q 0)) (fun q => P (pl_LY_X5_LY_0_.getD q 0)) (fun q => Vx LY_X5 ad V (pl_LY_X5_LY_0_.getD q 0)) (fun q => gp I [(0, 2, y1.1), (0, 3, y1.2.1), (0, 4, y1.2.2.1), (0, 7, y1.2.2.2.1), (0, 8, y1.2.2.2.2.1), (0, 9, y1.2.2.2.2.2.1)] (pl_LY_X5_LY_0_.getD q 0)) (fun q => gp J [(0, 5, y1.2.2.2.2.2.2)] (pl_LY_X5_LY_0_.getD q 0)) (fun q => gm A [] (pl_LY_X5_LY_0_.getD q 0)) (fun q => gm B [] (pl_LY_X5_LY_0_.getD q 0)) (I 0 8) v1 v2 hy3) (JN_subC (pl := pl_LY_X5_LY_0_) sb_LY_X5_LY_0_ rfl rfl rfl rfl rfl rfl rfl rfl rfl) ⟨un_520, uw_501, uw_1, uw_502⟩ rfl rfl hd_X8_isWithin ⟨rfl, rfl⟩ rfl rfl rfl dX5_expectNumber_20 ⟨Nat.zero_le _, Nat.zero_le _⟩ (fun H locs hW => ?_)
    have hW : wd D (dn cy LY_X5 ad P V (gp I [(0, 2, y1.1), (0, 3, y1.2.1), (0, 4, y1.2.2.1), (0, 7, y1.2.2.2.1), (0, 8, y1.2.2.2.2.1), (0, 9, y1.2.2.2.2.2.1)]) (gp J [(0, 5, y1.2.2.2.2.2.2)]) (gm A []) (gm B [])) Af s.heap H locs := hW
    refine lv_if_ne (tgt := 31) C0.1 C0.2.1 dX5_expectNumber_23 (by decide) (fun hc4 => ?_) (fun hc4 => ?_)
    · have hf := ite_f hc4 hf
      exact tX5_expectNumber_31 C0 hK hN hA  y1.1 y1.2.1 y1.2.2.1 y1.2.2.2.1 y1.2.2.2.2.1 y1.2.2.2.2.2.1 y1.2.2.2.2.2.2 v1 (I 0 8) _ _ ls hW (lv_sub hl [1, 2, 0] rfl) hf
    · have hf := ite_t hc4 hf
      refine lv_aload_n C0.1 C0.2.1 dX5_expectNumber_26 rfl (lv_at hl 1 rfl) ?_
      refine lv_iconst (v := 4) C0.1 C0.2.1 dX5_expectNumber_27 kI_4 ?_
      obtain ⟨y5, hy5, hf⟩ := b_some hf
      refine c_Vv C0 hK hN hl.1 hW hA (KX5_refuseTaken l D cy  ad P V (gp I [(0, 2, y1.1), (0, 3, y1.2.1), (0, 4, y1.2.2.1), (0, 7, y1.2.2.2.1), (0, 8, y1.2.2.2.2.1), (0, 9, y1.2.2.2.2.2.1)]) (gp J [(0, 5, y1.2.2.2.2.2.2)]) (gm A []) (gm B []) 4 hy5) (JN_id rfl rfl rfl rfl) (Uw_V uw_521 uw_508 uw_509 uw_2 uw_510) rfl rfl hd_X5_refuseTaken ⟨rfl, rfl⟩ rfl (dn_some LY_X5_0) rfl rfl rfl dX5_expectNumber_28 ⟨Nat.zero_le _, Nat.zero_le _⟩ (fun H locs hW => ?_)
      have hW : wd D (dn cy LY_X5 ad P V (gp I [(0, 2, y1.1), (0, 3, y1.2.1), (0, 4, y1.2.2.1), (0, 7, y1.2.2.2.1), (0, 8, y1.2.2.2.2.1), (0, 9, y5)]) (gp J [(0, 5, y1.2.2.2.2.2.2)]) (gm A []) (gm B [])) Af s.heap H locs := hW
      exact tX5_expectNumber_31 C0 hK hN hA  y1.1 y1.2.1 y1.2.2.1 y1.2.2.2.1 y1.2.2.2.2.1 y5 y1.2.2.2.2.2.2 v1 (I 0 8) _ _ ls hW (lv_sub hl [1, 2, 0] rfl) hf
-- X5_expectName
def rmX5_expectName : Room := { frames := 4, cells := 0, slots := 0, locals := 83 }
def SX5_expectName_28 (p : Program) (l : Launch) (e : Env) (s : State) (m : MethodId) (args : Array Value) (below : List Frame) (meth : Method) (c : Code) (D : va_G) (cy : Nat → ClassId) (ad : Nat → Nat) (P : MP) (V : MV) (I : MI) (J : MJ) (A : MI) (B : MJ) (Af : Nat → Prop) (res : Int64 × Int32 × Int32 × Int32 × Int32 × Int32 × Int32 × Int64) (k : Int32 → Int32 → Int32 → Int32 → Int32 → Int32 → Int64 → Int64 → Option (Int64 × Int32 × Int32 × Int32 × Int32 × Int32 × Int32 × Int64)) : Prop := ∀ (p_behind : Int32) (p_place : Int32) (p_takenPlace : Int32) (p_token : Int32) (p_number : Int32) (p_fault : Int32) (p_name : Int64) (v1 : Int64) (H : Heap) (locs : List Loc) (ls : Array Slot), wd D (dn cy LY_X5 ad P V (gp I [(0, 2, p_behind), (0, 3, p_place), (0, 4, p_takenPlace), (0, 7, p_token), (0, 8, p_number), (0, 9, p_fault)]) (gp J [(0, 5, p_name)]) (gm A []) (gm B [])) Af s.heap H locs → lv_has ls 3 [(0, .ref (ad 0)), (1, .long v1)] → k p_behind p_place p_takenPlace p_token p_number p_fault p_name v1 = some res → W p l e rmX5_expectName s m args below meth c H locs 0 0 (ZQ below D cy (dn cy LY_X5 ad P V (gp I [(0, 2, res.2.1), (0, 3, res.2.2.1), (0, 4, res.2.2.2.1), (0, 7, res.2.2.2.2.1), (0, 8, res.2.2.2.2.2.1), (0, 9, res.2.2.2.2.2.2.1)]) (gp J [(0, 5, res.2.2.2.2.2.2.2)]) (gm A []) (gm B [])) (some (.long res.1)) Af args s) (F0 m 28 ls [])
def fX5_expectName_28 (p_length : Int32) (p_signs : (Nat → Int32)) (p_words : (Nat → Int64)) (p_behind : Int32) (p_place : Int32) (p_takenPlace : Int32) (p_token : Int32) (p_number : Int32) (p_fault : Int32) (p_name : Int64) (v1 : Int64) : Option (Int64 × Int32 × Int32 × Int32 × Int32 × Int32 × Int32 × Int64) := if p_fault = 0 then (Option.bind (fX5_next p_length p_signs p_words p_behind p_place p_takenPlace p_token p_number p_name) fun y2 => (some (v1, y2.1, y2.2.1, y2.2.2.1, y2.2.2.2.1, y2.2.2.2.2.1, p_fault, y2.2.2.2.2.2))) else (some (0, p_behind, p_place, p_takenPlace, p_token, p_number, p_fault, p_name))
set_option maxHeartbeats 4000000 in
set_option maxRecDepth 100000 in
theorem tX5_expectName_28 {p : Program} {l : Launch} {e : Env} {s : State} {m : MethodId} {args : Array Value} {below : List Frame} {meth : Method} {c : Code} {D : va_G} {cy : Nat → ClassId} {ad : Nat → Nat} {P : MP} {V : MV} {I : MI} {J : MJ} {A : MI} {B : MJ} {Af : Nat → Prop} {res : Int64 × Int32 × Int32 × Int32 × Int32 × Int32 × Int32 × Int64} (C0 : CX p s m args meth c cX5_expectName 3 (some .long) RX5) (hK : va_K D vwCl (tyG cy) s) (hN : NWs s) (hA : ∀ q, s.heap.size ≤ q → Af q) : SX5_expectName_28 p l e s m args below meth c D cy ad P V I J A B Af res (fX5_expectName_28 (I 0 6) (A 1) (B 2)) := by
  intro p_behind p_place p_takenPlace p_token p_number p_fault p_name v1 H locs ls hW hl hf
  unfold fX5_expectName_28 at hf
  refine lv_aload_n C0.1 C0.2.1 dX5_expectName_28 rfl (lv_at hl 0 rfl) ?_
  refine s_get (v := .int p_fault) C0 hK hW 0 9 LY_X5_0 rfl fg_X5_39 rfl dX5_expectName_29 ?_
  refine lv_if_eq (tgt := 37) C0.1 C0.2.1 dX5_expectName_32 (by decide) (fun hc1 => ?_) (fun hc1 => ?_)
  · have hf := ite_t hc1 hf
    refine lv_aload_n C0.1 C0.2.1 dX5_expectName_37 rfl (lv_at hl 0 rfl) ?_
    obtain ⟨y2, hy2, hf⟩ := b_some hf
    refine c_Vv C0 hK hN hl.1 hW hA (KX5_next l D cy  ad P V (gp I [(0, 2, p_behind), (0, 3, p_place), (0, 4, p_takenPlace), (0, 7, p_token), (0, 8, p_number), (0, 9, p_fault)]) (gp J [(0, 5, p_name)]) (gm A []) (gm B [])  hy2) (JN_id rfl rfl rfl rfl) (Uw_V uw_454 uw_455 uw_456 uw_2 uw_457) rfl rfl hd_X5_next ⟨rfl, rfl⟩ rfl (dn_some LY_X5_0) rfl rfl rfl dX5_expectName_38 ⟨Nat.zero_le _, Nat.zero_le _⟩ (fun H locs hW => ?_)
    have hW : wd D (dn cy LY_X5 ad P V (gp I [(0, 2, y2.1), (0, 3, y2.2.1), (0, 4, y2.2.2.1), (0, 7, y2.2.2.2.1), (0, 8, y2.2.2.2.2.1), (0, 9, p_fault)]) (gp J [(0, 5, y2.2.2.2.2.2)]) (gm A []) (gm B [])) Af s.heap H locs := hW
    refine lv_lload_n C0.1 C0.2.1 dX5_expectName_41 rfl (lv_at hl 1 rfl) ?_
    obtain rfl := Option.some.inj hf
    exact r_long C0 hK hW dX5_expectName_42
  · have hf := ite_f hc1 hf
    refine lv_lconst (v := 0) C0.1 C0.2.1 dX5_expectName_35 (by decide) ?_
    obtain rfl := Option.some.inj hf
    exact r_long C0 hK hW dX5_expectName_36
def fX5_expectName (p_length : Int32) (p_signs : (Nat → Int32)) (p_words : (Nat → Int64)) (p_behind : Int32) (p_place : Int32) (p_takenPlace : Int32) (p_token : Int32) (p_number : Int32) (p_fault : Int32) (p_name : Int64) : Option (Int64 × Int32 × Int32 × Int32 × Int32 × Int32 × Int32 × Int64) := if p_token = 3 then (fX5_expectName_28 p_length p_signs p_words p_behind p_place p_takenPlace p_token p_number p_fault p_name p_name) else (Option.bind (fX8_isFact p_token) fun y2 => (if y2 = 0 then (Option.bind (fX5_refuse p_place p_fault 1) fun y4 => (fX5_expectName_28 p_length p_signs p_words p_behind p_place p_takenPlace p_token p_number y4 p_name p_name)) else (fX5_expectName_28 p_length p_signs p_words p_behind p_place p_takenPlace p_token p_number p_fault p_name p_name)))
set_option maxHeartbeats 4000000 in
set_option maxRecDepth 100000 in
theorem KX5_expectName (l : Launch) (D : va_G) (cy : Nat → ClassId) (ad : Nat → Nat) (P : MP) (V : MV) (I : MI) (J : MJ) (A : MI) (B : MJ) {res : Int64 × Int32 × Int32 × Int32 × Int32 × Int32 × Int32 × Int64} (hf : fX5_expectName (I 0 6) (A 1) (B 2) (I 0 2) (I 0 3) (I 0 4) (I 0 7) (I 0 8) (I 0 9) (J 0 5) = some res) : CG l yX5_expectName cX5_expectName 3 (some .long) rmX5_expectName D cy (dn cy LY_X5 ad P V I J A B) [.ref (ad 0)] (some (.long res.1)) (dn cy LY_X5 ad P V (gp I [(0, 2, res.2.1), (0, 3, res.2.2.1), (0, 4, res.2.2.2.1), (0, 7, res.2.2.2.2.1), (0, 8, res.2.2.2.2.2.1), (0, 9, res.2.2.2.2.2.2.1)]) (gp J [(0, 5, res.2.2.2.2.2.2.2)]) (gm A []) (gm B [])) := by
  refine CG.of (own := RX5) (by decide) rfl rfl ?_
  intro p e s m below meth c ls Af C0 hK hN hA hW hl
  have hW : wd D (dn cy LY_X5 ad P V (gp I [(0, 2, (I 0 2)), (0, 3, (I 0 3)), (0, 4, (I 0 4)), (0, 7, (I 0 7)), (0, 8, (I 0 8)), (0, 9, (I 0 9))]) (gp J [(0, 5, (J 0 5))]) (gm A []) (gm B [])) Af s.heap s.heap [] := wd_sel [(0, 2), (0, 3), (0, 4), (0, 7), (0, 8), (0, 9)] [(0, 5)] [] [] hW
  have hl : lv_has ls 3 [(0, .ref (ad 0))] := hl
  unfold fX5_expectName at hf
  refine lv_aload_n C0.1 C0.2.1 dX5_expectName_0 rfl (lv_at hl 0 rfl) ?_
  refine s_get (v := .long (J 0 5)) C0 hK hW 0 5 LY_X5_0 rfl fg_X5_70 rfl dX5_expectName_1 ?_
  refine lv_lstore_n (lv' := [(1, .long (J 0 5)), (0, .ref (ad 0))]) C0.1 C0.2.1 dX5_expectName_4 rfl hl (by decide) rfl (fun ls hl => ?_)
  refine lv_aload_n C0.1 C0.2.1 dX5_expectName_5 rfl (lv_at hl 1 rfl) ?_
  refine s_get (v := .int (I 0 7)) C0 hK hW 0 7 LY_X5_0 rfl fg_X5_45 rfl dX5_expectName_6 ?_
  refine lv_iconst (v := 3) C0.1 C0.2.1 dX5_expectName_9 kI_3 ?_
  refine lv_icmp_eq (tgt := 28) C0.1 C0.2.1 dX5_expectName_10 (by decide) (fun hc1 => ?_) (fun hc1 => ?_)
  · have hf := ite_t hc1 hf
    exact tX5_expectName_28 C0 hK hN hA  (I 0 2) (I 0 3) (I 0 4) (I 0 7) (I 0 8) (I 0 9) (J 0 5) (J 0 5) _ _ ls hW (lv_sub hl [1, 0] rfl) hf
  · have hf := ite_f hc1 hf
    refine lv_aload_n C0.1 C0.2.1 dX5_expectName_13 rfl (lv_at hl 1 rfl) ?_
    refine s_get (v := .int (I 0 7)) C0 hK hW 0 7 LY_X5_0 rfl fg_X5_45 rfl dX5_expectName_14 ?_
    obtain ⟨y2, hy2, hf⟩ := b_some hf
    refine c_SNi C0 hK hN hl.1 hW hA (KX8_isFact l D cy  (fun q => ad (pl_LY_X5_LY_0_.getD q 0)) (fun q => P (pl_LY_X5_LY_0_.getD q 0)) (fun q => Vx LY_X5 ad V (pl_LY_X5_LY_0_.getD q 0)) (fun q => gp I [(0, 2, (I 0 2)), (0, 3, (I 0 3)), (0, 4, (I 0 4)), (0, 7, (I 0 7)), (0, 8, (I 0 8)), (0, 9, (I 0 9))] (pl_LY_X5_LY_0_.getD q 0)) (fun q => gp J [(0, 5, (J 0 5))] (pl_LY_X5_LY_0_.getD q 0)) (fun q => gm A [] (pl_LY_X5_LY_0_.getD q 0)) (fun q => gm B [] (pl_LY_X5_LY_0_.getD q 0)) (I 0 7) hy2) (JN_subC (pl := pl_LY_X5_LY_0_) sb_LY_X5_LY_0_ rfl rfl rfl rfl rfl rfl rfl rfl rfl) ⟨un_497, uw_498, uw_1, uw_499⟩ rfl rfl hd_X8_isFact ⟨rfl, rfl⟩ rfl rfl rfl dX5_expectName_17 ⟨Nat.zero_le _, Nat.zero_le _⟩ (fun H locs hW => ?_)
    have hW : wd D (dn cy LY_X5 ad P V (gp I [(0, 2, (I 0 2)), (0, 3, (I 0 3)), (0, 4, (I 0 4)), (0, 7, (I 0 7)), (0, 8, (I 0 8)), (0, 9, (I 0 9))]) (gp J [(0, 5, (J 0 5))]) (gm A []) (gm B [])) Af s.heap H locs := hW
    refine lv_if_ne (tgt := 28) C0.1 C0.2.1 dX5_expectName_20 (by decide) (fun hc3 => ?_) (fun hc3 => ?_)
    · have hf := ite_f hc3 hf
      exact tX5_expectName_28 C0 hK hN hA  (I 0 2) (I 0 3) (I 0 4) (I 0 7) (I 0 8) (I 0 9) (J 0 5) (J 0 5) _ _ ls hW (lv_sub hl [1, 0] rfl) hf
    · have hf := ite_t hc3 hf
      refine lv_aload_n C0.1 C0.2.1 dX5_expectName_23 rfl (lv_at hl 1 rfl) ?_
      refine lv_iconst (v := 1) C0.1 C0.2.1 dX5_expectName_24 kI_1 ?_
      obtain ⟨y4, hy4, hf⟩ := b_some hf
      refine c_Vv C0 hK hN hl.1 hW hA (KX5_refuse l D cy  ad P V (gp I [(0, 2, (I 0 2)), (0, 3, (I 0 3)), (0, 4, (I 0 4)), (0, 7, (I 0 7)), (0, 8, (I 0 8)), (0, 9, (I 0 9))]) (gp J [(0, 5, (J 0 5))]) (gm A []) (gm B []) 1 hy4) (JN_id rfl rfl rfl rfl) (Uw_V uw_503 uw_485 uw_486 uw_2 uw_487) rfl rfl hd_X5_refuse ⟨rfl, rfl⟩ rfl (dn_some LY_X5_0) rfl rfl rfl dX5_expectName_25 ⟨Nat.zero_le _, Nat.zero_le _⟩ (fun H locs hW => ?_)
      have hW : wd D (dn cy LY_X5 ad P V (gp I [(0, 2, (I 0 2)), (0, 3, (I 0 3)), (0, 4, (I 0 4)), (0, 7, (I 0 7)), (0, 8, (I 0 8)), (0, 9, y4)]) (gp J [(0, 5, (J 0 5))]) (gm A []) (gm B [])) Af s.heap H locs := hW
      exact tX5_expectName_28 C0 hK hN hA  (I 0 2) (I 0 3) (I 0 4) (I 0 7) (I 0 8) y4 (J 0 5) (J 0 5) _ _ ls hW (lv_sub hl [1, 0] rfl) hf
-- X6_bitsOfKind
def rmX6_bitsOfKind : Room := { frames := 1, cells := 0, slots := 0, locals := 21 }
def SX6_bitsOfKind_4 (p : Program) (l : Launch) (e : Env) (s : State) (m : MethodId) (args : Array Value) (below : List Frame) (meth : Method) (c : Code) (D : va_G) (cy : Nat → ClassId) (ad : Nat → Nat) (P : MP) (V : MV) (I : MI) (J : MJ) (A : MI) (B : MJ) (Af : Nat → Prop) (res : Int32) (k : Int32 → Int32 → Int32 → Option (Int32)) : Prop := ∀ (v1 : Int32) (v2 : Int32) (v3 : Int32) (H : Heap) (locs : List Loc) (ls : Array Slot), wd D (dn cy LY_X6 ad P V (gp I []) (gp J []) (gm A []) (gm B [])) Af s.heap H locs → lv_has ls 4 [(0, .ref (ad 0)), (1, .int v1), (2, .int v2), (3, .int v3)] → k v1 v2 v3 = some res → W p l e rmX6_bitsOfKind s m args below meth c H locs 0 0 (ZQ below D cy (dn cy LY_X6 ad P V (gp I []) (gp J []) (gm A []) (gm B [])) (some (.int res)) Af args s) (F0 m 4 ls [])
def fX6_bitsOfKind_4 (t_guests : Int32) (t_kinds : (Nat → Int32)) (k4 : Int32 → Int32 → Int32 → Option (Int32)) (v1 : Int32) (v2 : Int32) (v3 : Int32) : Option (Int32) := if t_guests ≤ v3 then (some (v2)) else (bif inb v3 5 then (if (t_kinds (Int32.toNatClampNeg v3)) = v1 then (k4 v1 (v2 ||| (1 <<< (v3 &&& 31))) (v3 + 1)) else (k4 v1 (v2 ||| 0) (v3 + 1))) else none)
set_option maxHeartbeats 4000000 in
set_option maxRecDepth 100000 in
theorem tX6_bitsOfKind_4 {p : Program} {l : Launch} {e : Env} {s : State} {m : MethodId} {args : Array Value} {below : List Frame} {meth : Method} {c : Code} {D : va_G} {cy : Nat → ClassId} {ad : Nat → Nat} {P : MP} {V : MV} {I : MI} {J : MJ} {A : MI} {B : MJ} {Af : Nat → Prop} {res : Int32} (C0 : CX p s m args meth c cX6_bitsOfKind 4 (some .int) RX6) (hK : va_K D vwCl (tyG cy) s) (hN : NWs s) (hA : ∀ q, s.heap.size ≤ q → Af q) {k4 : Int32 → Int32 → Int32 → Option (Int32)} (hk4 : SX6_bitsOfKind_4 p l e s m args below meth c D cy ad P V I J A B Af res k4) : SX6_bitsOfKind_4 p l e s m args below meth c D cy ad P V I J A B Af res (fX6_bitsOfKind_4 (I 0 14) (A 9) k4) := by
  intro v1 v2 v3 H locs ls hW hl hf
  unfold fX6_bitsOfKind_4 at hf
  refine lv_iload_n C0.1 C0.2.1 dX6_bitsOfKind_4 rfl (lv_at hl 3 rfl) ?_
  refine lv_aload_n C0.1 C0.2.1 dX6_bitsOfKind_5 rfl (lv_at hl 0 rfl) ?_
  refine s_get (v := .int (I 0 14)) C0 hK hW 0 14 LY_X6_0 rfl fg_X6_110 rfl dX6_bitsOfKind_6 ?_
  refine lv_icmp_ge (tgt := 38) C0.1 C0.2.1 dX6_bitsOfKind_9 (by decide) (fun hc1 => ?_) (fun hc1 => ?_)
  · have hf := ite_t hc1 hf
    refine lv_iload_n C0.1 C0.2.1 dX6_bitsOfKind_38 rfl (lv_at hl 2 rfl) ?_
    obtain rfl := Option.some.inj hf
    exact r_int C0 hK hW dX6_bitsOfKind_39
  · have hf := ite_f hc1 hf
    refine lv_iload_n C0.1 C0.2.1 dX6_bitsOfKind_12 rfl (lv_at hl 2 rfl) ?_
    refine lv_aload_n C0.1 C0.2.1 dX6_bitsOfKind_13 rfl (lv_at hl 0 rfl) ?_
    refine s_get (v := .ref (ad 9)) C0 hK hW 0 9 LY_X6_0 rfl fg_X6_37 rfl dX6_bitsOfKind_14 ?_
    refine lv_iload_n C0.1 C0.2.1 dX6_bitsOfKind_17 rfl (lv_at hl 3 rfl) ?_
    obtain ⟨hb2, hf⟩ := g_some hf
    refine s_iald (v := ((A 9) (Int32.toNatClampNeg v3))) C0 hK hW 9 LY_X6_9 hb2 rfl dX6_bitsOfKind_18 ?_
    refine lv_iload_n C0.1 C0.2.1 dX6_bitsOfKind_19 rfl (lv_at hl 1 rfl) ?_
    refine lv_icmp_ne (tgt := 29) C0.1 C0.2.1 dX6_bitsOfKind_20 (by decide) (fun hc3 => ?_) (fun hc3 => ?_)
    · have hf := ite_f hc3 hf
      refine lv_iconst (v := 0) C0.1 C0.2.1 dX6_bitsOfKind_29 kI_0 ?_
      refine lv_ior C0.1 C0.2.1 dX6_bitsOfKind_30 ?_
      refine lv_istore_n (lv' := [(2, .int (v2 ||| 0)), (0, .ref (ad 0)), (1, .int v1), (3, .int v3)]) C0.1 C0.2.1 dX6_bitsOfKind_31 rfl hl (by decide) rfl (fun ls hl => ?_)
      refine lv_iinc (v := (v3 + 1)) (lv' := [(3, .int (v3 + 1)), (2, .int (v2 ||| 0)), (0, .ref (ad 0)), (1, .int v1)]) C0.1 C0.2.1 dX6_bitsOfKind_32 hl (k := 3) rfl (congrArg (fun z => _ + z) kI_1) (by decide) rfl (fun ls hl => ?_)
      refine lv_goto (tgt := 4) C0.1 C0.2.1 dX6_bitsOfKind_35 (by decide) ?_
      exact hk4 v1 (v2 ||| 0) (v3 + 1) H locs ls hW (lv_sub hl [2, 3, 1, 0] rfl) hf
    · have hf := ite_t hc3 hf
      refine lv_iconst (v := 1) C0.1 C0.2.1 dX6_bitsOfKind_23 kI_1 ?_
      refine lv_iload_n C0.1 C0.2.1 dX6_bitsOfKind_24 rfl (lv_at hl 3 rfl) ?_
      refine lv_ishl C0.1 C0.2.1 dX6_bitsOfKind_25 ?_
      refine lv_goto (tgt := 30) C0.1 C0.2.1 dX6_bitsOfKind_26 (by decide) ?_
      refine lv_ior C0.1 C0.2.1 dX6_bitsOfKind_30 ?_
      refine lv_istore_n (lv' := [(2, .int (v2 ||| (1 <<< (v3 &&& 31)))), (0, .ref (ad 0)), (1, .int v1), (3, .int v3)]) C0.1 C0.2.1 dX6_bitsOfKind_31 rfl hl (by decide) rfl (fun ls hl => ?_)
      refine lv_iinc (v := (v3 + 1)) (lv' := [(3, .int (v3 + 1)), (2, .int (v2 ||| (1 <<< (v3 &&& 31)))), (0, .ref (ad 0)), (1, .int v1)]) C0.1 C0.2.1 dX6_bitsOfKind_32 hl (k := 3) rfl (congrArg (fun z => _ + z) kI_1) (by decide) rfl (fun ls hl => ?_)
      refine lv_goto (tgt := 4) C0.1 C0.2.1 dX6_bitsOfKind_35 (by decide) ?_
      exact hk4 v1 (v2 ||| (1 <<< (v3 &&& 31))) (v3 + 1) H locs ls hW (lv_sub hl [2, 3, 1, 0] rfl) hf
theorem TX6_bitsOfKind_4 {p : Program} {l : Launch} {e : Env} {s : State} {m : MethodId} {args : Array Value} {below : List Frame} {meth : Method} {c : Code} {D : va_G} {cy : Nat → ClassId} {ad : Nat → Nat} {P : MP} {V : MV} {I : MI} {J : MJ} {A : MI} {B : MJ} {Af : Nat → Prop} {res : Int32} (C0 : CX p s m args meth c cX6_bitsOfKind 4 (some .int) RX6) (hK : va_K D vwCl (tyG cy) s) (hN : NWs s) (hA : ∀ q, s.heap.size ≤ q → Af q) : ∀ n, SX6_bitsOfKind_4 p l e s m args below meth c D cy ad P V I J A B Af res (itr (fun kk => fX6_bitsOfKind_4 (I 0 14) (A 9) kk) (fun _ _ _ => none) n) := by
  intro n
  induction n with
  | zero => intro v1 v2 v3 H locs ls hW hl hf; exact (nomatch (show (none : Option (Int32)) = some res from hf))
  | succ n ih => exact tX6_bitsOfKind_4 C0 hK hN hA  ih
def fX6_bitsOfKind (t_guests : Int32) (t_kinds : (Nat → Int32)) (v1 : Int32) : Option (Int32) := itr (fun kk => fX6_bitsOfKind_4 t_guests t_kinds kk) (fun _ _ _ => none) FU v1 0 0
set_option maxHeartbeats 4000000 in
set_option maxRecDepth 100000 in
theorem KX6_bitsOfKind (l : Launch) (D : va_G) (cy : Nat → ClassId) (ad : Nat → Nat) (P : MP) (V : MV) (I : MI) (J : MJ) (A : MI) (B : MJ) (v1 : Int32) {res : Int32} (hf : fX6_bitsOfKind (I 0 14) (A 9) v1 = some res) : CG l yX6_bitsOfKind cX6_bitsOfKind 4 (some .int) rmX6_bitsOfKind D cy (dn cy LY_X6 ad P V I J A B) [.ref (ad 0), .int v1] (some (.int res)) (dn cy LY_X6 ad P V (gp I []) (gp J []) (gm A []) (gm B [])) := by
  refine CG.of (own := RX6) (by decide) rfl rfl ?_
  intro p e s m below meth c ls Af C0 hK hN hA hW hl
  have hW : wd D (dn cy LY_X6 ad P V (gp I []) (gp J []) (gm A []) (gm B [])) Af s.heap s.heap [] := wd_sel [] [] [] [] hW
  have hl : lv_has ls 4 [(0, .ref (ad 0)), (1, .int v1)] := hl
  unfold fX6_bitsOfKind at hf
  refine lv_iconst (v := 0) C0.1 C0.2.1 dX6_bitsOfKind_0 kI_0 ?_
  refine lv_istore_n (lv' := [(2, .int 0), (0, .ref (ad 0)), (1, .int v1)]) C0.1 C0.2.1 dX6_bitsOfKind_1 rfl hl (by decide) rfl (fun ls hl => ?_)
  refine lv_iconst (v := 0) C0.1 C0.2.1 dX6_bitsOfKind_2 kI_0 ?_
  refine lv_istore_n (lv' := [(3, .int 0), (2, .int 0), (0, .ref (ad 0)), (1, .int v1)]) C0.1 C0.2.1 dX6_bitsOfKind_3 rfl hl (by decide) rfl (fun ls hl => ?_)
  exact TX6_bitsOfKind_4 C0 hK hN hA  FU v1 0 0 _ _ ls hW (lv_sub hl [2, 3, 1, 0] rfl) hf
-- X6_settle
def rmX6_settle : Room := { frames := 2, cells := 0, slots := 0, locals := 44 }
def SX6_settle_53 (p : Program) (l : Launch) (e : Env) (s : State) (m : MethodId) (args : Array Value) (below : List Frame) (meth : Method) (c : Code) (D : va_G) (cy : Nat → ClassId) (ad : Nat → Nat) (P : MP) (V : MV) (I : MI) (J : MJ) (A : MI) (B : MJ) (Af : Nat → Prop) (res : Int32 × Int32 × Int32 × (Nat → Int32)) (k : Int32 → Int32 → Int32 → (Nat → Int32) → Int32 → Int32 → Option (Int32 × Int32 × Int32 × (Nat → Int32))) : Prop := ∀ (t_sack : Int32) (t_catBits : Int32) (t_wantedBits : Int32) (t_foes : (Nat → Int32)) (v1 : Int32) (v2 : Int32) (H : Heap) (locs : List Loc) (ls : Array Slot), wd D (dn cy LY_X6 ad P V (gp I [(0, 15, t_sack), (0, 16, t_catBits), (0, 17, t_wantedBits)]) (gp J []) (gm A [(11, t_foes)]) (gm B [])) Af s.heap H locs → lv_has ls 3 [(0, .ref (ad 0)), (1, .int v1), (2, .int v2)] → k t_sack t_catBits t_wantedBits t_foes v1 v2 = some res → W p l e rmX6_settle s m args below meth c H locs 0 0 (ZQ below D cy (dn cy LY_X6 ad P V (gp I [(0, 15, res.1), (0, 16, res.2.1), (0, 17, res.2.2.1)]) (gp J []) (gm A [(11, res.2.2.2)]) (gm B [])) none Af args s) (F0 m 53 ls [])
def SX6_settle_36 (p : Program) (l : Launch) (e : Env) (s : State) (m : MethodId) (args : Array Value) (below : List Frame) (meth : Method) (c : Code) (D : va_G) (cy : Nat → ClassId) (ad : Nat → Nat) (P : MP) (V : MV) (I : MI) (J : MJ) (A : MI) (B : MJ) (Af : Nat → Prop) (res : Int32 × Int32 × Int32 × (Nat → Int32)) (k : Int32 → Int32 → Int32 → (Nat → Int32) → Int32 → Option (Int32 × Int32 × Int32 × (Nat → Int32))) : Prop := ∀ (t_sack : Int32) (t_catBits : Int32) (t_wantedBits : Int32) (t_foes : (Nat → Int32)) (v1 : Int32) (H : Heap) (locs : List Loc) (ls : Array Slot), wd D (dn cy LY_X6 ad P V (gp I [(0, 15, t_sack), (0, 16, t_catBits), (0, 17, t_wantedBits)]) (gp J []) (gm A [(11, t_foes)]) (gm B [])) Af s.heap H locs → lv_has ls 3 [(0, .ref (ad 0)), (1, .int v1)] → k t_sack t_catBits t_wantedBits t_foes v1 = some res → W p l e rmX6_settle s m args below meth c H locs 0 0 (ZQ below D cy (dn cy LY_X6 ad P V (gp I [(0, 15, res.1), (0, 16, res.2.1), (0, 17, res.2.2.1)]) (gp J []) (gm A [(11, res.2.2.2)]) (gm B [])) none Af args s) (F0 m 36 ls [])
def SX6_settle_12 (p : Program) (l : Launch) (e : Env) (s : State) (m : MethodId) (args : Array Value) (below : List Frame) (meth : Method) (c : Code) (D : va_G) (cy : Nat → ClassId) (ad : Nat → Nat) (P : MP) (V : MV) (I : MI) (J : MJ) (A : MI) (B : MJ) (Af : Nat → Prop) (res : Int32 × Int32 × Int32 × (Nat → Int32)) (k : Int32 → Int32 → Int32 → (Nat → Int32) → Option (Int32 × Int32 × Int32 × (Nat → Int32))) : Prop := ∀ (t_sack : Int32) (t_catBits : Int32) (t_wantedBits : Int32) (t_foes : (Nat → Int32)) (H : Heap) (locs : List Loc) (ls : Array Slot), wd D (dn cy LY_X6 ad P V (gp I [(0, 15, t_sack), (0, 16, t_catBits), (0, 17, t_wantedBits)]) (gp J []) (gm A [(11, t_foes)]) (gm B [])) Af s.heap H locs → lv_has ls 3 [(0, .ref (ad 0))] → k t_sack t_catBits t_wantedBits t_foes = some res → W p l e rmX6_settle s m args below meth c H locs 0 0 (ZQ below D cy (dn cy LY_X6 ad P V (gp I [(0, 15, res.1), (0, 16, res.2.1), (0, 17, res.2.2.1)]) (gp J []) (gm A [(11, res.2.2.2)]) (gm B [])) none Af args s) (F0 m 12 ls [])
def fX6_settle_53 (t_guests : Int32) (t_flagsAtWar : (Nat → Int32)) (t_kinds : (Nat → Int32)) (t_guestFlags : (Nat → Int32)) (k36 : Int32 → Int32 → Int32 → (Nat → Int32) → Int32 → Option (Int32 × Int32 × Int32 × (Nat → Int32))) (k53 : Int32 → Int32 → Int32 → (Nat → Int32) → Int32 → Int32 → Option (Int32 × Int32 × Int32 × (Nat → Int32))) (t_sack : Int32) (t_catBits : Int32) (t_wantedBits : Int32) (t_foes : (Nat → Int32)) (v1 : Int32) (v2 : Int32) : Option (Int32 × Int32 × Int32 × (Nat → Int32)) := if t_guests ≤ v2 then (k36 t_sack t_catBits t_wantedBits t_foes (v1 + 1)) else (bif inb v1 5 then (bif inb v1 5 then (bif inb (t_guestFlags (Int32.toNatClampNeg v1)) 10 then (bif inb v2 5 then (bif inb v1 5 then (k53 t_sack t_catBits t_wantedBits (upd t_foes (Int32.toNatClampNeg v1) ((t_foes (Int32.toNatClampNeg v1)) ||| ((((t_flagsAtWar (Int32.toNatClampNeg (t_guestFlags (Int32.toNatClampNeg v1)))) >>> ((t_guestFlags (Int32.toNatClampNeg v2)) &&& 31)) &&& 1) <<< (v2 &&& 31)))) v1 (v2 + 1)) else none) else none) else none) else none) else none)
set_option maxHeartbeats 4000000 in
set_option maxRecDepth 100000 in
theorem tX6_settle_53 {p : Program} {l : Launch} {e : Env} {s : State} {m : MethodId} {args : Array Value} {below : List Frame} {meth : Method} {c : Code} {D : va_G} {cy : Nat → ClassId} {ad : Nat → Nat} {P : MP} {V : MV} {I : MI} {J : MJ} {A : MI} {B : MJ} {Af : Nat → Prop} {res : Int32 × Int32 × Int32 × (Nat → Int32)} (C0 : CX p s m args meth c cX6_settle 3 none RX6) (hK : va_K D vwCl (tyG cy) s) (hN : NWs s) (hA : ∀ q, s.heap.size ≤ q → Af q) {k36 : Int32 → Int32 → Int32 → (Nat → Int32) → Int32 → Option (Int32 × Int32 × Int32 × (Nat → Int32))} (hk36 : SX6_settle_36 p l e s m args below meth c D cy ad P V I J A B Af res k36) {k53 : Int32 → Int32 → Int32 → (Nat → Int32) → Int32 → Int32 → Option (Int32 × Int32 × Int32 × (Nat → Int32))} (hk53 : SX6_settle_53 p l e s m args below meth c D cy ad P V I J A B Af res k53) : SX6_settle_53 p l e s m args below meth c D cy ad P V I J A B Af res (fX6_settle_53 (I 0 14) (A 3) (A 9) (A 10) k36 k53) := by
  intro t_sack t_catBits t_wantedBits t_foes v1 v2 H locs ls hW hl hf
  unfold fX6_settle_53 at hf
  refine lv_iload_n C0.1 C0.2.1 dX6_settle_53 rfl (lv_at hl 2 rfl) ?_
  refine lv_aload_n C0.1 C0.2.1 dX6_settle_54 rfl (lv_at hl 0 rfl) ?_
  refine s_get (v := .int (I 0 14)) C0 hK hW 0 14 LY_X6_0 rfl fg_X6_110 rfl dX6_settle_55 ?_
  refine lv_icmp_ge (tgt := 98) C0.1 C0.2.1 dX6_settle_58 (by decide) (fun hc1 => ?_) (fun hc1 => ?_)
  · have hf := ite_t hc1 hf
    refine lv_iinc (v := (v1 + 1)) (lv' := [(1, .int (v1 + 1)), (0, .ref (ad 0)), (2, .int v2)]) C0.1 C0.2.1 dX6_settle_98 hl (k := 1) rfl (congrArg (fun z => _ + z) kI_1) (by decide) rfl (fun ls hl => ?_)
    refine lv_goto (tgt := 36) C0.1 C0.2.1 dX6_settle_101 (by decide) ?_
    exact hk36 t_sack t_catBits t_wantedBits t_foes (v1 + 1) H locs ls hW (lv_sub hl [1, 0] rfl) hf
  · have hf := ite_f hc1 hf
    refine lv_aload_n C0.1 C0.2.1 dX6_settle_61 rfl (lv_at hl 0 rfl) ?_
    refine s_get (v := .ref (ad 11)) C0 hK hW 0 11 LY_X6_0 rfl fg_X6_43 rfl dX6_settle_62 ?_
    refine lv_iload_n C0.1 C0.2.1 dX6_settle_65 rfl (lv_at hl 1 rfl) ?_
    refine lv_dup2_11 C0.1 C0.2.1 dX6_settle_66 rfl rfl ?_
    obtain ⟨hb2, hf⟩ := g_some hf
    refine s_iald (v := (t_foes (Int32.toNatClampNeg v1))) C0 hK hW 11 LY_X6_11 hb2 rfl dX6_settle_67 ?_
    refine lv_aload_n C0.1 C0.2.1 dX6_settle_68 rfl (lv_at hl 0 rfl) ?_
    refine s_get (v := .ref (ad 3)) C0 hK hW 0 2 LY_X6_0 rfl fg_X6_18 rfl dX6_settle_69 ?_
    refine lv_aload_n C0.1 C0.2.1 dX6_settle_72 rfl (lv_at hl 0 rfl) ?_
    refine s_get (v := .ref (ad 10)) C0 hK hW 0 10 LY_X6_0 rfl fg_X6_40 rfl dX6_settle_73 ?_
    refine lv_iload_n C0.1 C0.2.1 dX6_settle_76 rfl (lv_at hl 1 rfl) ?_
    obtain ⟨hb3, hf⟩ := g_some hf
    refine s_iald (v := ((A 10) (Int32.toNatClampNeg v1))) C0 hK hW 10 LY_X6_10 hb3 rfl dX6_settle_77 ?_
    obtain ⟨hb4, hf⟩ := g_some hf
    refine s_iald (v := ((A 3) (Int32.toNatClampNeg ((A 10) (Int32.toNatClampNeg v1))))) C0 hK hW 3 LY_X6_3 hb4 rfl dX6_settle_78 ?_
    refine lv_aload_n C0.1 C0.2.1 dX6_settle_79 rfl (lv_at hl 0 rfl) ?_
    refine s_get (v := .ref (ad 10)) C0 hK hW 0 10 LY_X6_0 rfl fg_X6_40 rfl dX6_settle_80 ?_
    refine lv_iload_n C0.1 C0.2.1 dX6_settle_83 rfl (lv_at hl 2 rfl) ?_
    obtain ⟨hb5, hf⟩ := g_some hf
    refine s_iald (v := ((A 10) (Int32.toNatClampNeg v2))) C0 hK hW 10 LY_X6_10 hb5 rfl dX6_settle_84 ?_
    refine lv_ishr C0.1 C0.2.1 dX6_settle_85 ?_
    refine lv_iconst (v := 1) C0.1 C0.2.1 dX6_settle_86 kI_1 ?_
    refine lv_iand C0.1 C0.2.1 dX6_settle_87 ?_
    refine lv_iload_n C0.1 C0.2.1 dX6_settle_88 rfl (lv_at hl 2 rfl) ?_
    refine lv_ishl C0.1 C0.2.1 dX6_settle_89 ?_
    refine lv_ior C0.1 C0.2.1 dX6_settle_90 ?_
    obtain ⟨hb6, hf⟩ := g_some hf
    refine s_iast (f := (upd t_foes (Int32.toNatClampNeg v1) ((t_foes (Int32.toNatClampNeg v1)) ||| (((((A 3) (Int32.toNatClampNeg ((A 10) (Int32.toNatClampNeg v1)))) >>> (((A 10) (Int32.toNatClampNeg v2)) &&& 31)) &&& 1) <<< (v2 &&& 31))))) C0 hK hW 11 LY_X6_11 hb6 rfl rfl dX6_settle_91 (fun H locs hW => ?_)
    have hW : wd D (dn cy LY_X6 ad P V (gp I [(0, 15, t_sack), (0, 16, t_catBits), (0, 17, t_wantedBits)]) (gp J []) (gm A [(11, (upd t_foes (Int32.toNatClampNeg v1) ((t_foes (Int32.toNatClampNeg v1)) ||| (((((A 3) (Int32.toNatClampNeg ((A 10) (Int32.toNatClampNeg v1)))) >>> (((A 10) (Int32.toNatClampNeg v2)) &&& 31)) &&& 1) <<< (v2 &&& 31)))))]) (gm B [])) Af s.heap H locs := hW
    refine lv_iinc (v := (v2 + 1)) (lv' := [(2, .int (v2 + 1)), (0, .ref (ad 0)), (1, .int v1)]) C0.1 C0.2.1 dX6_settle_92 hl (k := 2) rfl (congrArg (fun z => _ + z) kI_1) (by decide) rfl (fun ls hl => ?_)
    refine lv_goto (tgt := 53) C0.1 C0.2.1 dX6_settle_95 (by decide) ?_
    exact hk53 t_sack t_catBits t_wantedBits (upd t_foes (Int32.toNatClampNeg v1) ((t_foes (Int32.toNatClampNeg v1)) ||| (((((A 3) (Int32.toNatClampNeg ((A 10) (Int32.toNatClampNeg v1)))) >>> (((A 10) (Int32.toNatClampNeg v2)) &&& 31)) &&& 1) <<< (v2 &&& 31)))) v1 (v2 + 1) H locs ls hW (lv_sub hl [1, 2, 0] rfl) hf
theorem TX6_settle_53 {p : Program} {l : Launch} {e : Env} {s : State} {m : MethodId} {args : Array Value} {below : List Frame} {meth : Method} {c : Code} {D : va_G} {cy : Nat → ClassId} {ad : Nat → Nat} {P : MP} {V : MV} {I : MI} {J : MJ} {A : MI} {B : MJ} {Af : Nat → Prop} {res : Int32 × Int32 × Int32 × (Nat → Int32)} (C0 : CX p s m args meth c cX6_settle 3 none RX6) (hK : va_K D vwCl (tyG cy) s) (hN : NWs s) (hA : ∀ q, s.heap.size ≤ q → Af q) {k36 : Int32 → Int32 → Int32 → (Nat → Int32) → Int32 → Option (Int32 × Int32 × Int32 × (Nat → Int32))} (hk36 : SX6_settle_36 p l e s m args below meth c D cy ad P V I J A B Af res k36) : ∀ n, SX6_settle_53 p l e s m args below meth c D cy ad P V I J A B Af res (itr (fun kk => fX6_settle_53 (I 0 14) (A 3) (A 9) (A 10) k36 kk) (fun _ _ _ _ _ _ => none) n) := by
  intro n
  induction n with
  | zero => intro t_sack t_catBits t_wantedBits t_foes v1 v2 H locs ls hW hl hf; exact (nomatch (show (none : Option (Int32 × Int32 × Int32 × (Nat → Int32))) = some res from hf))
  | succ n ih => exact tX6_settle_53 C0 hK hN hA hk36 ih
def fX6_settle_36 (t_guests : Int32) (t_flagsAtWar : (Nat → Int32)) (t_kinds : (Nat → Int32)) (t_guestFlags : (Nat → Int32)) (k36 : Int32 → Int32 → Int32 → (Nat → Int32) → Int32 → Option (Int32 × Int32 × Int32 × (Nat → Int32))) (t_sack : Int32) (t_catBits : Int32) (t_wantedBits : Int32) (t_foes : (Nat → Int32)) (v1 : Int32) : Option (Int32 × Int32 × Int32 × (Nat → Int32)) := if t_guests ≤ v1 then (some (t_sack, t_catBits, t_wantedBits, t_foes)) else (bif inb v1 5 then (itr (fun kk => fX6_settle_53 t_guests t_flagsAtWar t_kinds t_guestFlags k36 kk) (fun _ _ _ _ _ _ => none) FU t_sack t_catBits t_wantedBits (upd t_foes (Int32.toNatClampNeg v1) 0) v1 0) else none)
set_option maxHeartbeats 4000000 in
set_option maxRecDepth 100000 in
theorem tX6_settle_36 {p : Program} {l : Launch} {e : Env} {s : State} {m : MethodId} {args : Array Value} {below : List Frame} {meth : Method} {c : Code} {D : va_G} {cy : Nat → ClassId} {ad : Nat → Nat} {P : MP} {V : MV} {I : MI} {J : MJ} {A : MI} {B : MJ} {Af : Nat → Prop} {res : Int32 × Int32 × Int32 × (Nat → Int32)} (C0 : CX p s m args meth c cX6_settle 3 none RX6) (hK : va_K D vwCl (tyG cy) s) (hN : NWs s) (hA : ∀ q, s.heap.size ≤ q → Af q) {k36 : Int32 → Int32 → Int32 → (Nat → Int32) → Int32 → Option (Int32 × Int32 × Int32 × (Nat → Int32))} (hk36 : SX6_settle_36 p l e s m args below meth c D cy ad P V I J A B Af res k36) : SX6_settle_36 p l e s m args below meth c D cy ad P V I J A B Af res (fX6_settle_36 (I 0 14) (A 3) (A 9) (A 10) k36) := by
  intro t_sack t_catBits t_wantedBits t_foes v1 H locs ls hW hl hf
  unfold fX6_settle_36 at hf
  refine lv_iload_n C0.1 C0.2.1 dX6_settle_36 rfl (lv_at hl 1 rfl) ?_
  refine lv_aload_n C0.1 C0.2.1 dX6_settle_37 rfl (lv_at hl 0 rfl) ?_
  refine s_get (v := .int (I 0 14)) C0 hK hW 0 14 LY_X6_0 rfl fg_X6_110 rfl dX6_settle_38 ?_
  refine lv_icmp_ge (tgt := 104) C0.1 C0.2.1 dX6_settle_41 (by decide) (fun hc1 => ?_) (fun hc1 => ?_)
  · have hf := ite_t hc1 hf
    obtain rfl := Option.some.inj hf
    exact r_void C0 hK hW dX6_settle_104
  · have hf := ite_f hc1 hf
    refine lv_aload_n C0.1 C0.2.1 dX6_settle_44 rfl (lv_at hl 0 rfl) ?_
    refine s_get (v := .ref (ad 11)) C0 hK hW 0 11 LY_X6_0 rfl fg_X6_43 rfl dX6_settle_45 ?_
    refine lv_iload_n C0.1 C0.2.1 dX6_settle_48 rfl (lv_at hl 1 rfl) ?_
    refine lv_iconst (v := 0) C0.1 C0.2.1 dX6_settle_49 kI_0 ?_
    obtain ⟨hb2, hf⟩ := g_some hf
    refine s_iast (f := (upd t_foes (Int32.toNatClampNeg v1) 0)) C0 hK hW 11 LY_X6_11 hb2 rfl rfl dX6_settle_50 (fun H locs hW => ?_)
    have hW : wd D (dn cy LY_X6 ad P V (gp I [(0, 15, t_sack), (0, 16, t_catBits), (0, 17, t_wantedBits)]) (gp J []) (gm A [(11, (upd t_foes (Int32.toNatClampNeg v1) 0))]) (gm B [])) Af s.heap H locs := hW
    refine lv_iconst (v := 0) C0.1 C0.2.1 dX6_settle_51 kI_0 ?_
    refine lv_istore_n (lv' := [(2, .int 0), (0, .ref (ad 0)), (1, .int v1)]) C0.1 C0.2.1 dX6_settle_52 rfl hl (by decide) rfl (fun ls hl => ?_)
    exact TX6_settle_53 C0 hK hN hA hk36 FU t_sack t_catBits t_wantedBits (upd t_foes (Int32.toNatClampNeg v1) 0) v1 0 H locs ls hW (lv_sub hl [1, 2, 0] rfl) hf
theorem TX6_settle_36 {p : Program} {l : Launch} {e : Env} {s : State} {m : MethodId} {args : Array Value} {below : List Frame} {meth : Method} {c : Code} {D : va_G} {cy : Nat → ClassId} {ad : Nat → Nat} {P : MP} {V : MV} {I : MI} {J : MJ} {A : MI} {B : MJ} {Af : Nat → Prop} {res : Int32 × Int32 × Int32 × (Nat → Int32)} (C0 : CX p s m args meth c cX6_settle 3 none RX6) (hK : va_K D vwCl (tyG cy) s) (hN : NWs s) (hA : ∀ q, s.heap.size ≤ q → Af q) : ∀ n, SX6_settle_36 p l e s m args below meth c D cy ad P V I J A B Af res (itr (fun kk => fX6_settle_36 (I 0 14) (A 3) (A 9) (A 10) kk) (fun _ _ _ _ _ => none) n) := by
  intro n
  induction n with
  | zero => intro t_sack t_catBits t_wantedBits t_foes v1 H locs ls hW hl hf; exact (nomatch (show (none : Option (Int32 × Int32 × Int32 × (Nat → Int32))) = some res from hf))
  | succ n ih => exact tX6_settle_36 C0 hK hN hA  ih
def fX6_settle_12 (t_guests : Int32) (t_flagsAtWar : (Nat → Int32)) (t_kinds : (Nat → Int32)) (t_guestFlags : (Nat → Int32)) (t_sack : Int32) (t_catBits : Int32) (t_wantedBits : Int32) (t_foes : (Nat → Int32)) : Option (Int32 × Int32 × Int32 × (Nat → Int32)) := Option.bind (fX6_bitsOfKind t_guests t_kinds 146) fun y1 => (Option.bind (fX6_bitsOfKind t_guests t_kinds 144) fun y2 => (itr (fun kk => fX6_settle_36 t_guests t_flagsAtWar t_kinds t_guestFlags kk) (fun _ _ _ _ _ => none) FU t_sack y1 y2 t_foes 0))
set_option maxHeartbeats 4000000 in
set_option maxRecDepth 100000 in
theorem tX6_settle_12 {p : Program} {l : Launch} {e : Env} {s : State} {m : MethodId} {args : Array Value} {below : List Frame} {meth : Method} {c : Code} {D : va_G} {cy : Nat → ClassId} {ad : Nat → Nat} {P : MP} {V : MV} {I : MI} {J : MJ} {A : MI} {B : MJ} {Af : Nat → Prop} {res : Int32 × Int32 × Int32 × (Nat → Int32)} (C0 : CX p s m args meth c cX6_settle 3 none RX6) (hK : va_K D vwCl (tyG cy) s) (hN : NWs s) (hA : ∀ q, s.heap.size ≤ q → Af q) : SX6_settle_12 p l e s m args below meth c D cy ad P V I J A B Af res (fX6_settle_12 (I 0 14) (A 3) (A 9) (A 10)) := by
  intro t_sack t_catBits t_wantedBits t_foes H locs ls hW hl hf
  unfold fX6_settle_12 at hf
  refine lv_aload_n C0.1 C0.2.1 dX6_settle_12 rfl (lv_at hl 0 rfl) ?_
  refine lv_aload_n C0.1 C0.2.1 dX6_settle_13 rfl (lv_at hl 0 rfl) ?_
  refine lv_sipush (v := 146) C0.1 C0.2.1 dX6_settle_14 kS_146 ?_
  obtain ⟨y1, hy1, hf⟩ := b_some hf
  refine c_Vi C0 hK hN hl.1 hW hA (KX6_bitsOfKind l D cy  ad P V (gp I [(0, 15, t_sack), (0, 16, t_catBits), (0, 17, t_wantedBits)]) (gp J []) (gm A [(11, t_foes)]) (gm B []) 146 hy1) (JN_id rfl rfl rfl rfl) (Uw_V uw_254 uw_256 us_1 uw_10 uw_257) rfl rfl hd_X6_bitsOfKind ⟨rfl, rfl⟩ rfl (dn_some LY_X6_0) rfl rfl rfl dX6_settle_17 ⟨Nat.zero_le _, Nat.zero_le _⟩ (fun H locs hW => ?_)
  have hW : wd D (dn cy LY_X6 ad P V (gp I [(0, 15, t_sack), (0, 16, t_catBits), (0, 17, t_wantedBits)]) (gp J []) (gm A [(11, t_foes)]) (gm B [])) Af s.heap H locs := hW
  refine s_putI C0 hK hW 0 16 LY_X6_0 rfl fg_X6_161 fp_X6_16 rfl dX6_settle_20 (fun H locs hW => ?_)
  have hW : wd D (dn cy LY_X6 ad P V (gp I [(0, 15, t_sack), (0, 16, y1), (0, 17, t_wantedBits)]) (gp J []) (gm A [(11, t_foes)]) (gm B [])) Af s.heap H locs := hW
  refine lv_aload_n C0.1 C0.2.1 dX6_settle_23 rfl (lv_at hl 0 rfl) ?_
  refine lv_aload_n C0.1 C0.2.1 dX6_settle_24 rfl (lv_at hl 0 rfl) ?_
  refine lv_sipush (v := 144) C0.1 C0.2.1 dX6_settle_25 kS_144 ?_
  obtain ⟨y2, hy2, hf⟩ := b_some hf
  refine c_Vi C0 hK hN hl.1 hW hA (KX6_bitsOfKind l D cy  ad P V (gp I [(0, 15, t_sack), (0, 16, y1), (0, 17, t_wantedBits)]) (gp J []) (gm A [(11, t_foes)]) (gm B []) 144 hy2) (JN_id rfl rfl rfl rfl) (Uw_V uw_254 uw_256 us_1 uw_10 uw_257) rfl rfl hd_X6_bitsOfKind ⟨rfl, rfl⟩ rfl (dn_some LY_X6_0) rfl rfl rfl dX6_settle_28 ⟨Nat.zero_le _, Nat.zero_le _⟩ (fun H locs hW => ?_)
  have hW : wd D (dn cy LY_X6 ad P V (gp I [(0, 15, t_sack), (0, 16, y1), (0, 17, t_wantedBits)]) (gp J []) (gm A [(11, t_foes)]) (gm B [])) Af s.heap H locs := hW
  refine s_putI C0 hK hW 0 17 LY_X6_0 rfl fg_X6_164 fp_X6_17 rfl dX6_settle_31 (fun H locs hW => ?_)
  have hW : wd D (dn cy LY_X6 ad P V (gp I [(0, 15, t_sack), (0, 16, y1), (0, 17, y2)]) (gp J []) (gm A [(11, t_foes)]) (gm B [])) Af s.heap H locs := hW
  refine lv_iconst (v := 0) C0.1 C0.2.1 dX6_settle_34 kI_0 ?_
  refine lv_istore_n (lv' := [(1, .int 0), (0, .ref (ad 0))]) C0.1 C0.2.1 dX6_settle_35 rfl hl (by decide) rfl (fun ls hl => ?_)
  exact TX6_settle_36 C0 hK hN hA  FU t_sack y1 y2 t_foes 0 H locs ls hW (lv_sub hl [1, 0] rfl) hf
def fX6_settle (t_guests : Int32) (t_flagsAtWar : (Nat → Int32)) (t_kinds : (Nat → Int32)) (t_guestFlags : (Nat → Int32)) (t_sack : Int32) (t_catBits : Int32) (t_wantedBits : Int32) (t_foes : (Nat → Int32)) : Option (Int32 × Int32 × Int32 × (Nat → Int32)) := if t_sack = 0 then (fX6_settle_12 t_guests t_flagsAtWar t_kinds t_guestFlags 5 t_catBits t_wantedBits t_foes) else (fX6_settle_12 t_guests t_flagsAtWar t_kinds t_guestFlags t_sack t_catBits t_wantedBits t_foes)
set_option maxHeartbeats 4000000 in
set_option maxRecDepth 100000 in
theorem KX6_settle (l : Launch) (D : va_G) (cy : Nat → ClassId) (ad : Nat → Nat) (P : MP) (V : MV) (I : MI) (J : MJ) (A : MI) (B : MJ) {res : Int32 × Int32 × Int32 × (Nat → Int32)} (hf : fX6_settle (I 0 14) (A 3) (A 9) (A 10) (I 0 15) (I 0 16) (I 0 17) (A 11) = some res) : CG l yX6_settle cX6_settle 3 none rmX6_settle D cy (dn cy LY_X6 ad P V I J A B) [.ref (ad 0)] none (dn cy LY_X6 ad P V (gp I [(0, 15, res.1), (0, 16, res.2.1), (0, 17, res.2.2.1)]) (gp J []) (gm A [(11, res.2.2.2)]) (gm B [])) := by
  refine CG.of (own := RX6) (by decide) rfl rfl ?_
  intro p e s m below meth c ls Af C0 hK hN hA hW hl
  have hW : wd D (dn cy LY_X6 ad P V (gp I [(0, 15, (I 0 15)), (0, 16, (I 0 16)), (0, 17, (I 0 17))]) (gp J []) (gm A [(11, (A 11))]) (gm B [])) Af s.heap s.heap [] := wd_sel [(0, 15), (0, 16), (0, 17)] [] [11] [] hW
  have hl : lv_has ls 3 [(0, .ref (ad 0))] := hl
  unfold fX6_settle at hf
  refine lv_aload_n C0.1 C0.2.1 dX6_settle_0 rfl (lv_at hl 0 rfl) ?_
  refine s_get (v := .int (I 0 15)) C0 hK hW 0 15 LY_X6_0 rfl fg_X6_116 rfl dX6_settle_1 ?_
  refine lv_if_ne (tgt := 12) C0.1 C0.2.1 dX6_settle_4 (by decide) (fun hc1 => ?_) (fun hc1 => ?_)
  · have hf := ite_f hc1 hf
    exact tX6_settle_12 C0 hK hN hA  (I 0 15) (I 0 16) (I 0 17) (A 11) _ _ ls hW hl hf
  · have hf := ite_t hc1 hf
    refine lv_aload_n C0.1 C0.2.1 dX6_settle_7 rfl (lv_at hl 0 rfl) ?_
    refine lv_iconst (v := 5) C0.1 C0.2.1 dX6_settle_8 kI_5 ?_
    refine s_putI C0 hK hW 0 15 LY_X6_0 rfl fg_X6_116 fp_X6_15 rfl dX6_settle_9 (fun H locs hW => ?_)
    have hW : wd D (dn cy LY_X6 ad P V (gp I [(0, 15, 5), (0, 16, (I 0 16)), (0, 17, (I 0 17))]) (gp J []) (gm A [(11, (A 11))]) (gm B [])) Af s.heap H locs := hW
    exact tX6_settle_12 C0 hK hN hA  5 (I 0 16) (I 0 17) (A 11) _ _ ls hW hl hf
-- X6_clear
def rmX6_clear : Room := { frames := 1, cells := 0, slots := 0, locals := 21 }
def SX6_clear_22 (p : Program) (l : Launch) (e : Env) (s : State) (m : MethodId) (args : Array Value) (below : List Frame) (meth : Method) (c : Code) (D : va_G) (cy : Nat → ClassId) (ad : Nat → Nat) (P : MP) (V : MV) (I : MI) (J : MJ) (A : MI) (B : MJ) (Af : Nat → Prop) (res : Int32 × Int32 × Int32 × Int32 × Int32 × (Nat → Int32) × (Nat → Int32)) (k : Int32 → Int32 → Int32 → Int32 → Int32 → (Nat → Int32) → (Nat → Int32) → Int32 → Option (Int32 × Int32 × Int32 × Int32 × Int32 × (Nat → Int32) × (Nat → Int32))) : Prop := ∀ (t_colds : Int32) (t_holes : Int32) (t_guests : Int32) (t_sack : Int32) (t_law_length : Int32) (t_flagsAtWar : (Nat → Int32)) (t_beside : (Nat → Int32)) (v1 : Int32) (H : Heap) (locs : List Loc) (ls : Array Slot), wd D (dn cy LY_X6 ad P V (gp I [(0, 4, t_colds), (0, 13, t_holes), (0, 14, t_guests), (0, 15, t_sack), (12, 4, t_law_length)]) (gp J []) (gm A [(3, t_flagsAtWar), (8, t_beside)]) (gm B [])) Af s.heap H locs → lv_has ls 2 [(0, .ref (ad 0)), (1, .int v1)] → k t_colds t_holes t_guests t_sack t_law_length t_flagsAtWar t_beside v1 = some res → W p l e rmX6_clear s m args below meth c H locs 0 0 (ZQ below D cy (dn cy LY_X6 ad P V (gp I [(0, 4, res.1), (0, 13, res.2.1), (0, 14, res.2.2.1), (0, 15, res.2.2.2.1), (12, 4, res.2.2.2.2.1)]) (gp J []) (gm A [(3, res.2.2.2.2.2.1), (8, res.2.2.2.2.2.2)]) (gm B [])) none Af args s) (F0 m 22 ls [])
def SX6_clear_2 (p : Program) (l : Launch) (e : Env) (s : State) (m : MethodId) (args : Array Value) (below : List Frame) (meth : Method) (c : Code) (D : va_G) (cy : Nat → ClassId) (ad : Nat → Nat) (P : MP) (V : MV) (I : MI) (J : MJ) (A : MI) (B : MJ) (Af : Nat → Prop) (res : Int32 × Int32 × Int32 × Int32 × Int32 × (Nat → Int32) × (Nat → Int32)) (k : Int32 → Int32 → Int32 → Int32 → Int32 → (Nat → Int32) → (Nat → Int32) → Int32 → Option (Int32 × Int32 × Int32 × Int32 × Int32 × (Nat → Int32) × (Nat → Int32))) : Prop := ∀ (t_colds : Int32) (t_holes : Int32) (t_guests : Int32) (t_sack : Int32) (t_law_length : Int32) (t_flagsAtWar : (Nat → Int32)) (t_beside : (Nat → Int32)) (v1 : Int32) (H : Heap) (locs : List Loc) (ls : Array Slot), wd D (dn cy LY_X6 ad P V (gp I [(0, 4, t_colds), (0, 13, t_holes), (0, 14, t_guests), (0, 15, t_sack), (12, 4, t_law_length)]) (gp J []) (gm A [(3, t_flagsAtWar), (8, t_beside)]) (gm B [])) Af s.heap H locs → lv_has ls 2 [(0, .ref (ad 0)), (1, .int v1)] → k t_colds t_holes t_guests t_sack t_law_length t_flagsAtWar t_beside v1 = some res → W p l e rmX6_clear s m args below meth c H locs 0 0 (ZQ below D cy (dn cy LY_X6 ad P V (gp I [(0, 4, res.1), (0, 13, res.2.1), (0, 14, res.2.2.1), (0, 15, res.2.2.2.1), (12, 4, res.2.2.2.2.1)]) (gp J []) (gm A [(3, res.2.2.2.2.2.1), (8, res.2.2.2.2.2.2)]) (gm B [])) none Af args s) (F0 m 2 ls [])
def fX6_clear_22 (k22 : Int32 → Int32 → Int32 → Int32 → Int32 → (Nat → Int32) → (Nat → Int32) → Int32 → Option (Int32 × Int32 × Int32 × Int32 × Int32 × (Nat → Int32) × (Nat → Int32))) (t_colds : Int32) (t_holes : Int32) (t_guests : Int32) (t_sack : Int32) (t_law_length : Int32) (t_flagsAtWar : (Nat → Int32)) (t_beside : (Nat → Int32)) (v1 : Int32) : Option (Int32 × Int32 × Int32 × Int32 × Int32 × (Nat → Int32) × (Nat → Int32)) := if 9 < v1 then (some (0, 0, 0, 0, 0, t_flagsAtWar, t_beside)) else (bif inb v1 10 then (k22 t_colds t_holes t_guests t_sack t_law_length (upd t_flagsAtWar (Int32.toNatClampNeg v1) 0) t_beside (v1 + 1)) else none)
set_option maxHeartbeats 4000000 in
set_option maxRecDepth 100000 in
theorem tX6_clear_22 {p : Program} {l : Launch} {e : Env} {s : State} {m : MethodId} {args : Array Value} {below : List Frame} {meth : Method} {c : Code} {D : va_G} {cy : Nat → ClassId} {ad : Nat → Nat} {P : MP} {V : MV} {I : MI} {J : MJ} {A : MI} {B : MJ} {Af : Nat → Prop} {res : Int32 × Int32 × Int32 × Int32 × Int32 × (Nat → Int32) × (Nat → Int32)} (C0 : CX p s m args meth c cX6_clear 2 none RX6) (hK : va_K D vwCl (tyG cy) s) (hN : NWs s) (hA : ∀ q, s.heap.size ≤ q → Af q) {k22 : Int32 → Int32 → Int32 → Int32 → Int32 → (Nat → Int32) → (Nat → Int32) → Int32 → Option (Int32 × Int32 × Int32 × Int32 × Int32 × (Nat → Int32) × (Nat → Int32))} (hk22 : SX6_clear_22 p l e s m args below meth c D cy ad P V I J A B Af res k22) : SX6_clear_22 p l e s m args below meth c D cy ad P V I J A B Af res (fX6_clear_22 k22) := by
  intro t_colds t_holes t_guests t_sack t_law_length t_flagsAtWar t_beside v1 H locs ls hW hl hf
  unfold fX6_clear_22 at hf
  refine lv_iload_n C0.1 C0.2.1 dX6_clear_22 rfl (lv_at hl 1 rfl) ?_
  refine lv_bipush (v := 9) C0.1 C0.2.1 dX6_clear_23 kB_9 ?_
  refine lv_icmp_gt (tgt := 41) C0.1 C0.2.1 dX6_clear_25 (by decide) (fun hc1 => ?_) (fun hc1 => ?_)
  · have hf := ite_t hc1 hf
    refine lv_aload_n C0.1 C0.2.1 dX6_clear_41 rfl (lv_at hl 0 rfl) ?_
    refine lv_iconst (v := 0) C0.1 C0.2.1 dX6_clear_42 kI_0 ?_
    refine s_putI C0 hK hW 0 13 LY_X6_0 rfl fg_X6_107 fp_X6_13 rfl dX6_clear_43 (fun H locs hW => ?_)
    have hW : wd D (dn cy LY_X6 ad P V (gp I [(0, 4, t_colds), (0, 13, 0), (0, 14, t_guests), (0, 15, t_sack), (12, 4, t_law_length)]) (gp J []) (gm A [(3, t_flagsAtWar), (8, t_beside)]) (gm B [])) Af s.heap H locs := hW
    refine lv_aload_n C0.1 C0.2.1 dX6_clear_46 rfl (lv_at hl 0 rfl) ?_
    refine lv_iconst (v := 0) C0.1 C0.2.1 dX6_clear_47 kI_0 ?_
    refine s_putI C0 hK hW 0 14 LY_X6_0 rfl fg_X6_110 fp_X6_14 rfl dX6_clear_48 (fun H locs hW => ?_)
    have hW : wd D (dn cy LY_X6 ad P V (gp I [(0, 4, t_colds), (0, 13, 0), (0, 14, 0), (0, 15, t_sack), (12, 4, t_law_length)]) (gp J []) (gm A [(3, t_flagsAtWar), (8, t_beside)]) (gm B [])) Af s.heap H locs := hW
    refine lv_aload_n C0.1 C0.2.1 dX6_clear_51 rfl (lv_at hl 0 rfl) ?_
    refine lv_iconst (v := 0) C0.1 C0.2.1 dX6_clear_52 kI_0 ?_
    refine s_putI C0 hK hW 0 4 LY_X6_0 rfl fg_X6_113 fp_X6_4 rfl dX6_clear_53 (fun H locs hW => ?_)
    have hW : wd D (dn cy LY_X6 ad P V (gp I [(0, 4, 0), (0, 13, 0), (0, 14, 0), (0, 15, t_sack), (12, 4, t_law_length)]) (gp J []) (gm A [(3, t_flagsAtWar), (8, t_beside)]) (gm B [])) Af s.heap H locs := hW
    refine lv_aload_n C0.1 C0.2.1 dX6_clear_56 rfl (lv_at hl 0 rfl) ?_
    refine lv_iconst (v := 0) C0.1 C0.2.1 dX6_clear_57 kI_0 ?_
    refine s_putI C0 hK hW 0 15 LY_X6_0 rfl fg_X6_116 fp_X6_15 rfl dX6_clear_58 (fun H locs hW => ?_)
    have hW : wd D (dn cy LY_X6 ad P V (gp I [(0, 4, 0), (0, 13, 0), (0, 14, 0), (0, 15, 0), (12, 4, t_law_length)]) (gp J []) (gm A [(3, t_flagsAtWar), (8, t_beside)]) (gm B [])) Af s.heap H locs := hW
    refine lv_aload_n C0.1 C0.2.1 dX6_clear_61 rfl (lv_at hl 0 rfl) ?_
    refine s_get (v := .ref (ad 12)) C0 hK hW 0 12 LY_X6_0 rfl fg_X6_49 rfl dX6_clear_62 ?_
    refine lv_iconst (v := 0) C0.1 C0.2.1 dX6_clear_65 kI_0 ?_
    refine s_putI C0 hK hW 12 4 LY_X6_12 rfl fg_X6_119 fp_X1_4 rfl dX6_clear_66 (fun H locs hW => ?_)
    have hW : wd D (dn cy LY_X6 ad P V (gp I [(0, 4, 0), (0, 13, 0), (0, 14, 0), (0, 15, 0), (12, 4, 0)]) (gp J []) (gm A [(3, t_flagsAtWar), (8, t_beside)]) (gm B [])) Af s.heap H locs := hW
    obtain rfl := Option.some.inj hf
    exact r_void C0 hK hW dX6_clear_69
  · have hf := ite_f hc1 hf
    refine lv_aload_n C0.1 C0.2.1 dX6_clear_28 rfl (lv_at hl 0 rfl) ?_
    refine s_get (v := .ref (ad 3)) C0 hK hW 0 2 LY_X6_0 rfl fg_X6_18 rfl dX6_clear_29 ?_
    refine lv_iload_n C0.1 C0.2.1 dX6_clear_32 rfl (lv_at hl 1 rfl) ?_
    refine lv_iconst (v := 0) C0.1 C0.2.1 dX6_clear_33 kI_0 ?_
    obtain ⟨hb2, hf⟩ := g_some hf
    refine s_iast (f := (upd t_flagsAtWar (Int32.toNatClampNeg v1) 0)) C0 hK hW 3 LY_X6_3 hb2 rfl rfl dX6_clear_34 (fun H locs hW => ?_)
    have hW : wd D (dn cy LY_X6 ad P V (gp I [(0, 4, t_colds), (0, 13, t_holes), (0, 14, t_guests), (0, 15, t_sack), (12, 4, t_law_length)]) (gp J []) (gm A [(3, (upd t_flagsAtWar (Int32.toNatClampNeg v1) 0)), (8, t_beside)]) (gm B [])) Af s.heap H locs := hW
    refine lv_iinc (v := (v1 + 1)) (lv' := [(1, .int (v1 + 1)), (0, .ref (ad 0))]) C0.1 C0.2.1 dX6_clear_35 hl (k := 1) rfl (congrArg (fun z => _ + z) kI_1) (by decide) rfl (fun ls hl => ?_)
    refine lv_goto (tgt := 22) C0.1 C0.2.1 dX6_clear_38 (by decide) ?_
    exact hk22 t_colds t_holes t_guests t_sack t_law_length (upd t_flagsAtWar (Int32.toNatClampNeg v1) 0) t_beside (v1 + 1) H locs ls hW (lv_sub hl [1, 0] rfl) hf
theorem TX6_clear_22 {p : Program} {l : Launch} {e : Env} {s : State} {m : MethodId} {args : Array Value} {below : List Frame} {meth : Method} {c : Code} {D : va_G} {cy : Nat → ClassId} {ad : Nat → Nat} {P : MP} {V : MV} {I : MI} {J : MJ} {A : MI} {B : MJ} {Af : Nat → Prop} {res : Int32 × Int32 × Int32 × Int32 × Int32 × (Nat → Int32) × (Nat → Int32)} (C0 : CX p s m args meth c cX6_clear 2 none RX6) (hK : va_K D vwCl (tyG cy) s) (hN : NWs s) (hA : ∀ q, s.heap.size ≤ q → Af q) : ∀ n, SX6_clear_22 p l e s m args below meth c D cy ad P V I J A B Af res (itr (fun kk => fX6_clear_22  kk) (fun _ _ _ _ _ _ _ _ => none) n) := by
  intro n
  induction n with
  | zero => intro t_colds t_holes t_guests t_sack t_law_length t_flagsAtWar t_beside v1 H locs ls hW hl hf; exact (nomatch (show (none : Option (Int32 × Int32 × Int32 × Int32 × Int32 × (Nat → Int32) × (Nat → Int32))) = some res from hf))
  | succ n ih => exact tX6_clear_22 C0 hK hN hA  ih
def fX6_clear_2 (k2 : Int32 → Int32 → Int32 → Int32 → Int32 → (Nat → Int32) → (Nat → Int32) → Int32 → Option (Int32 × Int32 × Int32 × Int32 × Int32 × (Nat → Int32) × (Nat → Int32))) (t_colds : Int32) (t_holes : Int32) (t_guests : Int32) (t_sack : Int32) (t_law_length : Int32) (t_flagsAtWar : (Nat → Int32)) (t_beside : (Nat → Int32)) (v1 : Int32) : Option (Int32 × Int32 × Int32 × Int32 × Int32 × (Nat → Int32) × (Nat → Int32)) := if 5 ≤ v1 then (itr (fun kk => fX6_clear_22 kk) (fun _ _ _ _ _ _ _ _ => none) FU t_colds t_holes t_guests t_sack t_law_length t_flagsAtWar t_beside 0) else (bif inb v1 5 then (k2 t_colds t_holes t_guests t_sack t_law_length t_flagsAtWar (upd t_beside (Int32.toNatClampNeg v1) 0) (v1 + 1)) else none)
set_option maxHeartbeats 4000000 in
set_option maxRecDepth 100000 in
theorem tX6_clear_2 {p : Program} {l : Launch} {e : Env} {s : State} {m : MethodId} {args : Array Value} {below : List Frame} {meth : Method} {c : Code} {D : va_G} {cy : Nat → ClassId} {ad : Nat → Nat} {P : MP} {V : MV} {I : MI} {J : MJ} {A : MI} {B : MJ} {Af : Nat → Prop} {res : Int32 × Int32 × Int32 × Int32 × Int32 × (Nat → Int32) × (Nat → Int32)} (C0 : CX p s m args meth c cX6_clear 2 none RX6) (hK : va_K D vwCl (tyG cy) s) (hN : NWs s) (hA : ∀ q, s.heap.size ≤ q → Af q) {k2 : Int32 → Int32 → Int32 → Int32 → Int32 → (Nat → Int32) → (Nat → Int32) → Int32 → Option (Int32 × Int32 × Int32 × Int32 × Int32 × (Nat → Int32) × (Nat → Int32))} (hk2 : SX6_clear_2 p l e s m args below meth c D cy ad P V I J A B Af res k2) : SX6_clear_2 p l e s m args below meth c D cy ad P V I J A B Af res (fX6_clear_2 k2) := by
  intro t_colds t_holes t_guests t_sack t_law_length t_flagsAtWar t_beside v1 H locs ls hW hl hf
  unfold fX6_clear_2 at hf
  refine lv_iload_n C0.1 C0.2.1 dX6_clear_2 rfl (lv_at hl 1 rfl) ?_
  refine lv_iconst (v := 5) C0.1 C0.2.1 dX6_clear_3 kI_5 ?_
  refine lv_icmp_ge (tgt := 20) C0.1 C0.2.1 dX6_clear_4 (by decide) (fun hc1 => ?_) (fun hc1 => ?_)
  · have hf := ite_t hc1 hf
    refine lv_iconst (v := 0) C0.1 C0.2.1 dX6_clear_20 kI_0 ?_
    refine lv_istore_n (lv' := [(1, .int 0), (0, .ref (ad 0))]) C0.1 C0.2.1 dX6_clear_21 rfl hl (by decide) rfl (fun ls hl => ?_)
    exact TX6_clear_22 C0 hK hN hA  FU t_colds t_holes t_guests t_sack t_law_length t_flagsAtWar t_beside 0 H locs ls hW (lv_sub hl [1, 0] rfl) hf
  · have hf := ite_f hc1 hf
    refine lv_aload_n C0.1 C0.2.1 dX6_clear_7 rfl (lv_at hl 0 rfl) ?_
    refine s_get (v := .ref (ad 8)) C0 hK hW 0 8 LY_X6_0 rfl fg_X6_34 rfl dX6_clear_8 ?_
    refine lv_iload_n C0.1 C0.2.1 dX6_clear_11 rfl (lv_at hl 1 rfl) ?_
    refine lv_iconst (v := 0) C0.1 C0.2.1 dX6_clear_12 kI_0 ?_
    obtain ⟨hb2, hf⟩ := g_some hf
    refine s_iast (f := (upd t_beside (Int32.toNatClampNeg v1) 0)) C0 hK hW 8 LY_X6_8 hb2 rfl rfl dX6_clear_13 (fun H locs hW => ?_)
    have hW : wd D (dn cy LY_X6 ad P V (gp I [(0, 4, t_colds), (0, 13, t_holes), (0, 14, t_guests), (0, 15, t_sack), (12, 4, t_law_length)]) (gp J []) (gm A [(3, t_flagsAtWar), (8, (upd t_beside (Int32.toNatClampNeg v1) 0))]) (gm B [])) Af s.heap H locs := hW
    refine lv_iinc (v := (v1 + 1)) (lv' := [(1, .int (v1 + 1)), (0, .ref (ad 0))]) C0.1 C0.2.1 dX6_clear_14 hl (k := 1) rfl (congrArg (fun z => _ + z) kI_1) (by decide) rfl (fun ls hl => ?_)
    refine lv_goto (tgt := 2) C0.1 C0.2.1 dX6_clear_17 (by decide) ?_
    exact hk2 t_colds t_holes t_guests t_sack t_law_length t_flagsAtWar (upd t_beside (Int32.toNatClampNeg v1) 0) (v1 + 1) H locs ls hW (lv_sub hl [1, 0] rfl) hf
theorem TX6_clear_2 {p : Program} {l : Launch} {e : Env} {s : State} {m : MethodId} {args : Array Value} {below : List Frame} {meth : Method} {c : Code} {D : va_G} {cy : Nat → ClassId} {ad : Nat → Nat} {P : MP} {V : MV} {I : MI} {J : MJ} {A : MI} {B : MJ} {Af : Nat → Prop} {res : Int32 × Int32 × Int32 × Int32 × Int32 × (Nat → Int32) × (Nat → Int32)} (C0 : CX p s m args meth c cX6_clear 2 none RX6) (hK : va_K D vwCl (tyG cy) s) (hN : NWs s) (hA : ∀ q, s.heap.size ≤ q → Af q) : ∀ n, SX6_clear_2 p l e s m args below meth c D cy ad P V I J A B Af res (itr (fun kk => fX6_clear_2  kk) (fun _ _ _ _ _ _ _ _ => none) n) := by
  intro n
  induction n with
  | zero => intro t_colds t_holes t_guests t_sack t_law_length t_flagsAtWar t_beside v1 H locs ls hW hl hf; exact (nomatch (show (none : Option (Int32 × Int32 × Int32 × Int32 × Int32 × (Nat → Int32) × (Nat → Int32))) = some res from hf))
  | succ n ih => exact tX6_clear_2 C0 hK hN hA  ih
def fX6_clear (t_colds : Int32) (t_holes : Int32) (t_guests : Int32) (t_sack : Int32) (t_law_length : Int32) (t_flagsAtWar : (Nat → Int32)) (t_beside : (Nat → Int32)) : Option (Int32 × Int32 × Int32 × Int32 × Int32 × (Nat → Int32) × (Nat → Int32)) := itr (fun kk => fX6_clear_2 kk) (fun _ _ _ _ _ _ _ _ => none) FU t_colds t_holes t_guests t_sack t_law_length t_flagsAtWar t_beside 0
set_option maxHeartbeats 4000000 in
set_option maxRecDepth 100000 in
theorem KX6_clear (l : Launch) (D : va_G) (cy : Nat → ClassId) (ad : Nat → Nat) (P : MP) (V : MV) (I : MI) (J : MJ) (A : MI) (B : MJ) {res : Int32 × Int32 × Int32 × Int32 × Int32 × (Nat → Int32) × (Nat → Int32)} (hf : fX6_clear (I 0 4) (I 0 13) (I 0 14) (I 0 15) (I 12 4) (A 3) (A 8) = some res) : CG l yX6_clear cX6_clear 2 none rmX6_clear D cy (dn cy LY_X6 ad P V I J A B) [.ref (ad 0)] none (dn cy LY_X6 ad P V (gp I [(0, 4, res.1), (0, 13, res.2.1), (0, 14, res.2.2.1), (0, 15, res.2.2.2.1), (12, 4, res.2.2.2.2.1)]) (gp J []) (gm A [(3, res.2.2.2.2.2.1), (8, res.2.2.2.2.2.2)]) (gm B [])) := by
  refine CG.of (own := RX6) (by decide) rfl rfl ?_
  intro p e s m below meth c ls Af C0 hK hN hA hW hl
  have hW : wd D (dn cy LY_X6 ad P V (gp I [(0, 4, (I 0 4)), (0, 13, (I 0 13)), (0, 14, (I 0 14)), (0, 15, (I 0 15)), (12, 4, (I 12 4))]) (gp J []) (gm A [(3, (A 3)), (8, (A 8))]) (gm B [])) Af s.heap s.heap [] := wd_sel [(0, 4), (0, 13), (0, 14), (0, 15), (12, 4)] [] [3, 8] [] hW
  have hl : lv_has ls 2 [(0, .ref (ad 0))] := hl
  unfold fX6_clear at hf
  refine lv_iconst (v := 0) C0.1 C0.2.1 dX6_clear_0 kI_0 ?_
  refine lv_istore_n (lv' := [(1, .int 0), (0, .ref (ad 0))]) C0.1 C0.2.1 dX6_clear_1 rfl hl (by decide) rfl (fun ls hl => ?_)
  exact TX6_clear_2 C0 hK hN hA  FU (I 0 4) (I 0 13) (I 0 14) (I 0 15) (I 12 4) (A 3) (A 8) 0 _ _ ls hW (lv_sub hl [1, 0] rfl) hf
-- X6_indexOf
def rmX6_indexOf : Room := { frames := 1, cells := 0, slots := 0, locals := 21 }
def SX6_indexOf_3 (p : Program) (l : Launch) (e : Env) (s : State) (m : MethodId) (args : Array Value) (below : List Frame) (meth : Method) (c : Code) (D : va_G) (cy : Nat → ClassId) (n1 : Nat) (ad : Nat → Nat) (P : MP) (V : MV) (I : MI) (J : MJ) (A : MI) (B : MJ) (Af : Nat → Prop) (res : Int32) (k : Int32 → Int64 → Int32 → Option (Int32)) : Prop := ∀ (v1 : Int32) (v2 : Int64) (v4 : Int32) (H : Heap) (locs : List Loc) (ls : Array Slot), wd D (dn cy (LY_aJ n1) ad P V (gp I []) (gp J []) (gm A []) (gm B [])) Af s.heap H locs → lv_has ls 5 [(0, .ref (ad 0)), (1, .int v1), (2, .long v2), (4, .int v4)] → k v1 v2 v4 = some res → W p l e rmX6_indexOf s m args below meth c H locs 0 0 (ZQ below D cy (dn cy (LY_aJ n1) ad P V (gp I []) (gp J []) (gm A []) (gm B [])) (some (.int res)) Af args s) (F0 m 3 ls [])
def fX6_indexOf_3 (n1 : Nat) (a1 : (Nat → Int64)) (k3 : Int32 → Int64 → Int32 → Option (Int32)) (v1 : Int32) (v2 : Int64) (v4 : Int32) : Option (Int32) := if v1 ≤ v4 then (some ((-1))) else (if (Int32.ofNat n1) ≤ v4 then (some ((-1))) else (bif inb v4 n1 then (if (lg_cmp (a1 (Int32.toNatClampNeg v4)) v2) = 0 then (some (v4)) else (k3 v1 v2 (v4 + 1))) else none))
set_option maxHeartbeats 4000000 in
set_option maxRecDepth 100000 in
theorem tX6_indexOf_3 {p : Program} {l : Launch} {e : Env} {s : State} {m : MethodId} {args : Array Value} {below : List Frame} {meth : Method} {c : Code} {D : va_G} {cy : Nat → ClassId} {n1 : Nat} {ad : Nat → Nat} {P : MP} {V : MV} {I : MI} {J : MJ} {A : MI} {B : MJ} {Af : Nat → Prop} {res : Int32} (C0 : CX p s m args meth c cX6_indexOf 5 (some .int) RX6) (hK : va_K D vwCl (tyG cy) s) (hN : NWs s) (hA : ∀ q, s.heap.size ≤ q → Af q) {k3 : Int32 → Int64 → Int32 → Option (Int32)} (hk3 : SX6_indexOf_3 p l e s m args below meth c D cy n1 ad P V I J A B Af res k3) : SX6_indexOf_3 p l e s m args below meth c D cy n1 ad P V I J A B Af res (fX6_indexOf_3 n1 (B 0) k3) := by
  intro v1 v2 v4 H locs ls hW hl hf
  unfold fX6_indexOf_3 at hf
  refine lv_iload C0.1 C0.2.1 dX6_indexOf_3 (lv_at hl 3 rfl) ?_
  refine lv_iload_n C0.1 C0.2.1 dX6_indexOf_5 rfl (lv_at hl 1 rfl) ?_
  refine lv_icmp_ge (tgt := 34) C0.1 C0.2.1 dX6_indexOf_6 (by decide) (fun hc1 => ?_) (fun hc1 => ?_)
  · have hf := ite_t hc1 hf
    refine lv_iconst (v := (-1)) C0.1 C0.2.1 dX6_indexOf_34 kI_m1 ?_
    obtain rfl := Option.some.inj hf
    exact r_int C0 hK hW dX6_indexOf_35
  · have hf := ite_f hc1 hf
    refine lv_iload C0.1 C0.2.1 dX6_indexOf_9 (lv_at hl 3 rfl) ?_
    refine lv_aload_n C0.1 C0.2.1 dX6_indexOf_11 rfl (lv_at hl 0 rfl) ?_
    refine s_alen (v := (Int32.ofNat n1)) C0 hK hW 0 LY_aJ_0 rfl rfl dX6_indexOf_12 ?_
    refine lv_icmp_ge (tgt := 34) C0.1 C0.2.1 dX6_indexOf_13 (by decide) (fun hc2 => ?_) (fun hc2 => ?_)
    · have hf := ite_t hc2 hf
      refine lv_iconst (v := (-1)) C0.1 C0.2.1 dX6_indexOf_34 kI_m1 ?_
      obtain rfl := Option.some.inj hf
      exact r_int C0 hK hW dX6_indexOf_35
    · have hf := ite_f hc2 hf
      refine lv_aload_n C0.1 C0.2.1 dX6_indexOf_16 rfl (lv_at hl 0 rfl) ?_
      refine lv_iload C0.1 C0.2.1 dX6_indexOf_17 (lv_at hl 3 rfl) ?_
      obtain ⟨hb3, hf⟩ := g_some hf
      refine s_lald (v := ((B 0) (Int32.toNatClampNeg v4))) C0 hK hW 0 LY_aJ_0 hb3 rfl dX6_indexOf_19 ?_
      refine lv_lload_n C0.1 C0.2.1 dX6_indexOf_20 rfl (lv_at hl 2 rfl) ?_
      refine W.lcmp C0.1 C0.2.1 dX6_indexOf_21 ?_
      refine lv_if_ne (tgt := 28) C0.1 C0.2.1 dX6_indexOf_22 (by decide) (fun hc4 => ?_) (fun hc4 => ?_)
      · have hf := ite_f hc4 hf
        refine lv_iinc (v := (v4 + 1)) (lv' := [(4, .int (v4 + 1)), (0, .ref (ad 0)), (1, .int v1), (2, .long v2)]) C0.1 C0.2.1 dX6_indexOf_28 hl (k := 3) rfl (congrArg (fun z => _ + z) kI_1) (by decide) rfl (fun ls hl => ?_)
        refine lv_goto (tgt := 3) C0.1 C0.2.1 dX6_indexOf_31 (by decide) ?_
        exact hk3 v1 v2 (v4 + 1) H locs ls hW (lv_sub hl [1, 2, 3, 0] rfl) hf
      · have hf := ite_t hc4 hf
        refine lv_iload C0.1 C0.2.1 dX6_indexOf_25 (lv_at hl 3 rfl) ?_
        obtain rfl := Option.some.inj hf
        exact r_int C0 hK hW dX6_indexOf_27
theorem TX6_indexOf_3 {p : Program} {l : Launch} {e : Env} {s : State} {m : MethodId} {args : Array Value} {below : List Frame} {meth : Method} {c : Code} {D : va_G} {cy : Nat → ClassId} {n1 : Nat} {ad : Nat → Nat} {P : MP} {V : MV} {I : MI} {J : MJ} {A : MI} {B : MJ} {Af : Nat → Prop} {res : Int32} (C0 : CX p s m args meth c cX6_indexOf 5 (some .int) RX6) (hK : va_K D vwCl (tyG cy) s) (hN : NWs s) (hA : ∀ q, s.heap.size ≤ q → Af q) : ∀ n, SX6_indexOf_3 p l e s m args below meth c D cy n1 ad P V I J A B Af res (itr (fun kk => fX6_indexOf_3 n1 (B 0) kk) (fun _ _ _ => none) n) := by
  intro n
  induction n with
  | zero => intro v1 v2 v4 H locs ls hW hl hf; exact (nomatch (show (none : Option (Int32)) = some res from hf))
  | succ n ih => exact tX6_indexOf_3 C0 hK hN hA  ih
def fX6_indexOf (n1 : Nat) (a1 : (Nat → Int64)) (v1 : Int32) (v2 : Int64) : Option (Int32) := itr (fun kk => fX6_indexOf_3 n1 a1 kk) (fun _ _ _ => none) FU v1 v2 0
set_option maxHeartbeats 4000000 in
set_option maxRecDepth 100000 in
theorem KX6_indexOf (l : Launch) (D : va_G) (cy : Nat → ClassId) (n1 : Nat) (ad : Nat → Nat) (P : MP) (V : MV) (I : MI) (J : MJ) (A : MI) (B : MJ) (v1 : Int32) (v2 : Int64) {res : Int32} (hf : fX6_indexOf n1 (B 0) v1 v2 = some res) : CG l yX6_indexOf cX6_indexOf 5 (some .int) rmX6_indexOf D cy (dn cy (LY_aJ n1) ad P V I J A B) [.ref (ad 0), .int v1, .long v2] (some (.int res)) (dn cy (LY_aJ n1) ad P V (gp I []) (gp J []) (gm A []) (gm B [])) := by
  refine CG.of (own := RX6) (by decide) rfl rfl ?_
  intro p e s m below meth c ls Af C0 hK hN hA hW hl
  have hW : wd D (dn cy (LY_aJ n1) ad P V (gp I []) (gp J []) (gm A []) (gm B [])) Af s.heap s.heap [] := wd_sel [] [] [] [] hW
  have hl : lv_has ls 5 [(0, .ref (ad 0)), (1, .int v1), (2, .long v2)] := hl
  unfold fX6_indexOf at hf
  refine lv_iconst (v := 0) C0.1 C0.2.1 dX6_indexOf_0 kI_0 ?_
  refine lv_istore (lv' := [(4, .int 0), (0, .ref (ad 0)), (1, .int v1), (2, .long v2)]) C0.1 C0.2.1 dX6_indexOf_1 hl (by decide) rfl (fun ls hl => ?_)
  exact TX6_indexOf_3 C0 hK hN hA  FU v1 v2 0 _ _ ls hW (lv_sub hl [1, 2, 3, 0] rfl) hf
-- X6_readNewName
def rmX6_readNewName : Room := { frames := 5, cells := 0, slots := 0, locals := 105 }
def SX6_readNewName_37 (p : Program) (l : Launch) (e : Env) (s : State) (m : MethodId) (args : Array Value) (below : List Frame) (meth : Method) (c : Code) (D : va_G) (cy : Nat → ClassId) (ad : Nat → Nat) (P : MP) (V : MV) (I : MI) (J : MJ) (A : MI) (B : MJ) (Af : Nat → Prop) (res : Int64 × Int32 × Int32 × Int32 × Int32 × Int32 × Int32 × Int64) (k : Int32 → Int32 → Int32 → Int32 → Int32 → Int32 → Int64 → Int64 → Option (Int64 × Int32 × Int32 × Int32 × Int32 × Int32 × Int32 × Int64)) : Prop := ∀ (p_behind : Int32) (p_place : Int32) (p_takenPlace : Int32) (p_token : Int32) (p_number : Int32) (p_fault : Int32) (p_name : Int64) (v2 : Int64) (H : Heap) (locs : List Loc) (ls : Array Slot), wd D (dn cy LY_X6X5 ad P V (gp I [(15, 2, p_behind), (15, 3, p_place), (15, 4, p_takenPlace), (15, 7, p_token), (15, 8, p_number), (15, 9, p_fault)]) (gp J [(15, 5, p_name)]) (gm A []) (gm B [])) Af s.heap H locs → lv_has ls 4 [(1, .ref (ad 15)), (2, .long v2)] → k p_behind p_place p_takenPlace p_token p_number p_fault p_name v2 = some res → W p l e rmX6_readNewName s m args below meth c H locs 0 0 (ZQ below D cy (dn cy LY_X6X5 ad P V (gp I [(15, 2, res.2.1), (15, 3, res.2.2.1), (15, 4, res.2.2.2.1), (15, 7, res.2.2.2.2.1), (15, 8, res.2.2.2.2.2.1), (15, 9, res.2.2.2.2.2.2.1)]) (gp J [(15, 5, res.2.2.2.2.2.2.2)]) (gm A []) (gm B [])) (some (.long res.1)) Af args s) (F0 m 37 ls [])
def fX6_readNewName_37 (t_holes : Int32) (t_guests : Int32) (p_length : Int32) (p_signs : (Nat → Int32)) (t_holeNames : (Nat → Int64)) (t_guestNames : (Nat → Int64)) (p_words : (Nat → Int64)) (p_behind : Int32) (p_place : Int32) (p_takenPlace : Int32) (p_token : Int32) (p_number : Int32) (p_fault : Int32) (p_name : Int64) (v2 : Int64) : Option (Int64 × Int32 × Int32 × Int32 × Int32 × Int32 × Int32 × Int64) := Option.bind (fX5_refuseTaken p_takenPlace p_fault 3) fun y1 => (some (v2, p_behind, p_place, p_takenPlace, p_token, p_number, y1, p_name))
set_option maxHeartbeats 4000000 in
set_option maxRecDepth 100000 in
theorem tX6_readNewName_37 {p : Program} {l : Launch} {e : Env} {s : State} {m : MethodId} {args : Array Value} {below : List Frame} {meth : Method} {c : Code} {D : va_G} {cy : Nat → ClassId} {ad : Nat → Nat} {P : MP} {V : MV} {I : MI} {J : MJ} {A : MI} {B : MJ} {Af : Nat → Prop} {res : Int64 × Int32 × Int32 × Int32 × Int32 × Int32 × Int32 × Int64} (C0 : CX p s m args meth c cX6_readNewName 4 (some .long) RX6) (hK : va_K D vwCl (tyG cy) s) (hN : NWs s) (hA : ∀ q, s.heap.size ≤ q → Af q) : SX6_readNewName_37 p l e s m args below meth c D cy ad P V I J A B Af res (fX6_readNewName_37 (I 0 13) (I 0 14) (I 15 6) (A 16) (B 1) (B 2) (B 17)) := by
  intro p_behind p_place p_takenPlace p_token p_number p_fault p_name v2 H locs ls hW hl hf
  unfold fX6_readNewName_37 at hf
  refine lv_aload_n C0.1 C0.2.1 dX6_readNewName_37 rfl (lv_at hl 0 rfl) ?_
  refine lv_iconst (v := 3) C0.1 C0.2.1 dX6_readNewName_38 kI_3 ?_
  obtain ⟨y1, hy1, hf⟩ := b_some hf
  refine c_Vv C0 hK hN hl.1 hW hA (KX5_refuseTaken l D cy  (fun q => ad (pl_LY_X6X5_LY_X5_15_16_17.getD q 0)) (fun q => P (pl_LY_X6X5_LY_X5_15_16_17.getD q 0)) (fun q => Vx LY_X6X5 ad V (pl_LY_X6X5_LY_X5_15_16_17.getD q 0)) (fun q => gp I [(15, 2, p_behind), (15, 3, p_place), (15, 4, p_takenPlace), (15, 7, p_token), (15, 8, p_number), (15, 9, p_fault)] (pl_LY_X6X5_LY_X5_15_16_17.getD q 0)) (fun q => gp J [(15, 5, p_name)] (pl_LY_X6X5_LY_X5_15_16_17.getD q 0)) (fun q => gm A [] (pl_LY_X6X5_LY_X5_15_16_17.getD q 0)) (fun q => gm B [] (pl_LY_X6X5_LY_X5_15_16_17.getD q 0)) 3 hy1) (JN_subC (pl := pl_LY_X6X5_LY_X5_15_16_17) sb_LY_X6X5_LY_X5_15_16_17 rfl rfl rfl rfl rfl rfl rfl rfl rfl) (Uw_V uw_507 uw_508 uw_509 uw_2 uw_510) rfl rfl hd_X5_refuseTaken ⟨rfl, rfl⟩ rfl (dn_some LY_X6X5_15) rfl rfl rfl dX6_readNewName_39 ⟨Nat.zero_le _, Nat.zero_le _⟩ (fun H locs hW => ?_)
  have hW : wd D (dn cy LY_X6X5 ad P V (gp I [(15, 2, p_behind), (15, 3, p_place), (15, 4, p_takenPlace), (15, 7, p_token), (15, 8, p_number), (15, 9, y1)]) (gp J [(15, 5, p_name)]) (gm A []) (gm B [])) Af s.heap H locs := hW
  refine lv_lload_n C0.1 C0.2.1 dX6_readNewName_42 rfl (lv_at hl 1 rfl) ?_
  obtain rfl := Option.some.inj hf
  exact r_long C0 hK hW dX6_readNewName_43
def fX6_readNewName (t_holes : Int32) (t_guests : Int32) (p_length : Int32) (p_signs : (Nat → Int32)) (t_holeNames : (Nat → Int64)) (t_guestNames : (Nat → Int64)) (p_words : (Nat → Int64)) (p_behind : Int32) (p_place : Int32) (p_takenPlace : Int32) (p_token : Int32) (p_number : Int32) (p_fault : Int32) (p_name : Int64) : Option (Int64 × Int32 × Int32 × Int32 × Int32 × Int32 × Int32 × Int64) := Option.bind (fX5_expectName p_length p_signs p_words p_behind p_place p_takenPlace p_token p_number p_fault p_name) fun y1 => (Option.bind (fX6_indexOf 5 t_holeNames t_holes y1.1) fun y2 => (if y2 = (-1) then (Option.bind (fX6_indexOf 5 t_guestNames t_guests y1.1) fun y4 => (if y4 = (-1) then (some (y1.1, y1.2.1, y1.2.2.1, y1.2.2.2.1, y1.2.2.2.2.1, y1.2.2.2.2.2.1, y1.2.2.2.2.2.2.1, y1.2.2.2.2.2.2.2)) else (fX6_readNewName_37 t_holes t_guests p_length p_signs t_holeNames t_guestNames p_words y1.2.1 y1.2.2.1 y1.2.2.2.1 y1.2.2.2.2.1 y1.2.2.2.2.2.1 y1.2.2.2.2.2.2.1 y1.2.2.2.2.2.2.2 y1.1))) else (fX6_readNewName_37 t_holes t_guests p_length p_signs t_holeNames t_guestNames p_words y1.2.1 y1.2.2.1 y1.2.2.2.1 y1.2.2.2.2.1 y1.2.2.2.2.2.1 y1.2.2.2.2.2.2.1 y1.2.2.2.2.2.2.2 y1.1)))
set_option maxHeartbeats 4000000 in
set_option maxRecDepth 100000 in
theorem KX6_readNewName (l : Launch) (D : va_G) (cy : Nat → ClassId) (ad : Nat → Nat) (P : MP) (V : MV) (I : MI) (J : MJ) (A : MI) (B : MJ) {res : Int64 × Int32 × Int32 × Int32 × Int32 × Int32 × Int32 × Int64} (hf : fX6_readNewName (I 0 13) (I 0 14) (I 15 6) (A 16) (B 1) (B 2) (B 17) (I 15 2) (I 15 3) (I 15 4) (I 15 7) (I 15 8) (I 15 9) (J 15 5) = some res) : CG l yX6_readNewName cX6_readNewName 4 (some .long) rmX6_readNewName D cy (dn cy LY_X6X5 ad P V I J A B) [.ref (ad 0), .ref (ad 15)] (some (.long res.1)) (dn cy LY_X6X5 ad P V (gp I [(15, 2, res.2.1), (15, 3, res.2.2.1), (15, 4, res.2.2.2.1), (15, 7, res.2.2.2.2.1), (15, 8, res.2.2.2.2.2.1), (15, 9, res.2.2.2.2.2.2.1)]) (gp J [(15, 5, res.2.2.2.2.2.2.2)]) (gm A []) (gm B [])) := by
  refine CG.of (own := RX6) (by decide) rfl rfl ?_
  intro p e s m below meth c ls Af C0 hK hN hA hW hl
  have hW : wd D (dn cy LY_X6X5 ad P V (gp I [(15, 2, (I 15 2)), (15, 3, (I 15 3)), (15, 4, (I 15 4)), (15, 7, (I 15 7)), (15, 8, (I 15 8)), (15, 9, (I 15 9))]) (gp J [(15, 5, (J 15 5))]) (gm A []) (gm B [])) Af s.heap s.heap [] := wd_sel [(15, 2), (15, 3), (15, 4), (15, 7), (15, 8), (15, 9)] [(15, 5)] [] [] hW
  have hl : lv_has ls 4 [(0, .ref (ad 0)), (1, .ref (ad 15))] := hl
  unfold fX6_readNewName at hf
  refine lv_aload_n C0.1 C0.2.1 dX6_readNewName_0 rfl (lv_at hl 1 rfl) ?_
  obtain ⟨y1, hy1, hf⟩ := b_some hf
  refine c_Vl C0 hK hN hl.1 hW hA (KX5_expectName l D cy  (fun q => ad (pl_LY_X6X5_LY_X5_15_16_17.getD q 0)) (fun q => P (pl_LY_X6X5_LY_X5_15_16_17.getD q 0)) (fun q => Vx LY_X6X5 ad V (pl_LY_X6X5_LY_X5_15_16_17.getD q 0)) (fun q => gp I [(15, 2, (I 15 2)), (15, 3, (I 15 3)), (15, 4, (I 15 4)), (15, 7, (I 15 7)), (15, 8, (I 15 8)), (15, 9, (I 15 9))] (pl_LY_X6X5_LY_X5_15_16_17.getD q 0)) (fun q => gp J [(15, 5, (J 15 5))] (pl_LY_X6X5_LY_X5_15_16_17.getD q 0)) (fun q => gm A [] (pl_LY_X6X5_LY_X5_15_16_17.getD q 0)) (fun q => gm B [] (pl_LY_X6X5_LY_X5_15_16_17.getD q 0))  hy1) (JN_subC (pl := pl_LY_X6X5_LY_X5_15_16_17) sb_LY_X6X5_LY_X5_15_16_17 rfl rfl rfl rfl rfl rfl rfl rfl rfl) (Uw_V uw_493 uw_494 uw_495 uw_2 uw_496) rfl rfl hd_X5_expectName ⟨rfl, rfl⟩ rfl (dn_some LY_X6X5_15) rfl rfl rfl dX6_readNewName_1 ⟨Nat.zero_le _, Nat.zero_le _⟩ (fun H locs hW => ?_)
  have hW : wd D (dn cy LY_X6X5 ad P V (gp I [(15, 2, y1.2.1), (15, 3, y1.2.2.1), (15, 4, y1.2.2.2.1), (15, 7, y1.2.2.2.2.1), (15, 8, y1.2.2.2.2.2.1), (15, 9, y1.2.2.2.2.2.2.1)]) (gp J [(15, 5, y1.2.2.2.2.2.2.2)]) (gm A []) (gm B [])) Af s.heap H locs := hW
  refine lv_lstore_n (lv' := [(2, .long y1.1), (0, .ref (ad 0)), (1, .ref (ad 15))]) C0.1 C0.2.1 dX6_readNewName_4 rfl hl (by decide) rfl (fun ls hl => ?_)
  refine lv_aload_n C0.1 C0.2.1 dX6_readNewName_5 rfl (lv_at hl 1 rfl) ?_
  refine s_get (v := .ref (ad 1)) C0 hK hW 0 0 LY_X6X5_0 rfl fg_X6_9 rfl dX6_readNewName_6 ?_
  refine lv_aload_n C0.1 C0.2.1 dX6_readNewName_9 rfl (lv_at hl 1 rfl) ?_
  refine s_get (v := .int (I 0 13)) C0 hK hW 0 13 LY_X6X5_0 rfl fg_X6_107 rfl dX6_readNewName_10 ?_
  refine lv_lload_n C0.1 C0.2.1 dX6_readNewName_13 rfl (lv_at hl 0 rfl) ?_
  obtain ⟨y2, hy2, hf⟩ := b_some hf
  refine c_Si C0 hK hN hl.1 hW hA (KX6_indexOf l D cy 5 (fun q => ad (pl_LY_X6X5_LY_aJ_1.getD q 0)) (fun q => P (pl_LY_X6X5_LY_aJ_1.getD q 0)) (fun q => Vx LY_X6X5 ad V (pl_LY_X6X5_LY_aJ_1.getD q 0)) (fun q => gp I [(15, 2, y1.2.1), (15, 3, y1.2.2.1), (15, 4, y1.2.2.2.1), (15, 7, y1.2.2.2.2.1), (15, 8, y1.2.2.2.2.2.1), (15, 9, y1.2.2.2.2.2.2.1)] (pl_LY_X6X5_LY_aJ_1.getD q 0)) (fun q => gp J [(15, 5, y1.2.2.2.2.2.2.2)] (pl_LY_X6X5_LY_aJ_1.getD q 0)) (fun q => gm A [] (pl_LY_X6X5_LY_aJ_1.getD q 0)) (fun q => gm B [] (pl_LY_X6X5_LY_aJ_1.getD q 0)) (I 0 13) y1.1 hy2) (JN_subC (pl := pl_LY_X6X5_LY_aJ_1) sb_LY_X6X5_LY_aJ_1 rfl rfl rfl rfl rfl rfl rfl rfl rfl) ⟨uw_504, uw_505, uw_10, uw_506⟩ rfl rfl hd_X6_indexOf ⟨rfl, rfl⟩ rfl rfl rfl dX6_readNewName_14 ⟨Nat.zero_le _, Nat.zero_le _⟩ (fun H locs hW => ?_)
  have hW : wd D (dn cy LY_X6X5 ad P V (gp I [(15, 2, y1.2.1), (15, 3, y1.2.2.1), (15, 4, y1.2.2.2.1), (15, 7, y1.2.2.2.2.1), (15, 8, y1.2.2.2.2.2.1), (15, 9, y1.2.2.2.2.2.2.1)]) (gp J [(15, 5, y1.2.2.2.2.2.2.2)]) (gm A []) (gm B [])) Af s.heap H locs := hW
  refine lv_iconst (v := (-1)) C0.1 C0.2.1 dX6_readNewName_17 kI_m1 ?_
  refine lv_icmp_ne (tgt := 37) C0.1 C0.2.1 dX6_readNewName_18 (by decide) (fun hc3 => ?_) (fun hc3 => ?_)
  · have hf := ite_f hc3 hf
    exact tX6_readNewName_37 C0 hK hN hA  y1.2.1 y1.2.2.1 y1.2.2.2.1 y1.2.2.2.2.1 y1.2.2.2.2.2.1 y1.2.2.2.2.2.2.1 y1.2.2.2.2.2.2.2 y1.1 _ _ ls hW (lv_sub hl [2, 0] rfl) hf
  · have hf := ite_t hc3 hf
    refine lv_aload_n C0.1 C0.2.1 dX6_readNewName_21 rfl (lv_at hl 1 rfl) ?_
    refine s_get (v := .ref (ad 2)) C0 hK hW 0 1 LY_X6X5_0 rfl fg_X6_15 rfl dX6_readNewName_22 ?_
    refine lv_aload_n C0.1 C0.2.1 dX6_readNewName_25 rfl (lv_at hl 1 rfl) ?_
    refine s_get (v := .int (I 0 14)) C0 hK hW 0 14 LY_X6X5_0 rfl fg_X6_110 rfl dX6_readNewName_26 ?_
    refine lv_lload_n C0.1 C0.2.1 dX6_readNewName_29 rfl (lv_at hl 0 rfl) ?_
    obtain ⟨y4, hy4, hf⟩ := b_some hf
    refine c_Si C0 hK hN hl.1 hW hA (KX6_indexOf l D cy 5 (fun q => ad (pl_LY_X6X5_LY_aJ_2.getD q 0)) (fun q => P (pl_LY_X6X5_LY_aJ_2.getD q 0)) (fun q => Vx LY_X6X5 ad V (pl_LY_X6X5_LY_aJ_2.getD q 0)) (fun q => gp I [(15, 2, y1.2.1), (15, 3, y1.2.2.1), (15, 4, y1.2.2.2.1), (15, 7, y1.2.2.2.2.1), (15, 8, y1.2.2.2.2.2.1), (15, 9, y1.2.2.2.2.2.2.1)] (pl_LY_X6X5_LY_aJ_2.getD q 0)) (fun q => gp J [(15, 5, y1.2.2.2.2.2.2.2)] (pl_LY_X6X5_LY_aJ_2.getD q 0)) (fun q => gm A [] (pl_LY_X6X5_LY_aJ_2.getD q 0)) (fun q => gm B [] (pl_LY_X6X5_LY_aJ_2.getD q 0)) (I 0 14) y1.1 hy4) (JN_subC (pl := pl_LY_X6X5_LY_aJ_2) sb_LY_X6X5_LY_aJ_2 rfl rfl rfl rfl rfl rfl rfl rfl rfl) ⟨uw_504, uw_505, uw_10, uw_506⟩ rfl rfl hd_X6_indexOf ⟨rfl, rfl⟩ rfl rfl rfl dX6_readNewName_30 ⟨Nat.zero_le _, Nat.zero_le _⟩ (fun H locs hW => ?_)
    have hW : wd D (dn cy LY_X6X5 ad P V (gp I [(15, 2, y1.2.1), (15, 3, y1.2.2.1), (15, 4, y1.2.2.2.1), (15, 7, y1.2.2.2.2.1), (15, 8, y1.2.2.2.2.2.1), (15, 9, y1.2.2.2.2.2.2.1)]) (gp J [(15, 5, y1.2.2.2.2.2.2.2)]) (gm A []) (gm B [])) Af s.heap H locs := hW
    refine lv_iconst (v := (-1)) C0.1 C0.2.1 dX6_readNewName_33 kI_m1 ?_
    refine lv_icmp_eq (tgt := 42) C0.1 C0.2.1 dX6_readNewName_34 (by decide) (fun hc5 => ?_) (fun hc5 => ?_)
    · have hf := ite_t hc5 hf
      refine lv_lload_n C0.1 C0.2.1 dX6_readNewName_42 rfl (lv_at hl 0 rfl) ?_
      obtain rfl := Option.some.inj hf
      exact r_long C0 hK hW dX6_readNewName_43
    · have hf := ite_f hc5 hf
      exact tX6_readNewName_37 C0 hK hN hA  y1.2.1 y1.2.2.1 y1.2.2.2.1 y1.2.2.2.2.1 y1.2.2.2.2.2.1 y1.2.2.2.2.2.2.1 y1.2.2.2.2.2.2.2 y1.1 _ _ ls hW (lv_sub hl [2, 0] rfl) hf
