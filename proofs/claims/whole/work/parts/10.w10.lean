-- X8_note
def rmX8_note : Room := { frames := 2, cells := 0, slots := 0, locals := 44 }
def SX8_note_31 (p : Program) (l : Launch) (e : Env) (s : State) (m : MethodId) (args : Array Value) (below : List Frame) (meth : Method) (c : Code) (D : va_G) (cy : Nat → ClassId) (ad : Nat → Nat) (P : MP) (V : MV) (I : MI) (J : MJ) (A : MI) (B : MJ) (Af : Nat → Prop) (res : Int32) (k : Int32 → Int32 → Int32 → Option (Int32)) : Prop := ∀ (v2 : Int32) (v3 : Int32) (v4 : Int32) (H : Heap) (locs : List Loc) (ls : Array Slot), wd D (dn cy LY_X8 ad P V (gp I []) (gp J []) (gm A []) (gm B [])) Af s.heap H locs → lv_has ls 5 [(0, .ref (ad 0)), (2, .int v2), (3, .int v3), (4, .int v4)] → k v2 v3 v4 = some res → W p l e rmX8_note s m args below meth c H locs 0 0 (ZQ below D cy (dn cy LY_X8 ad P V (gp I []) (gp J []) (gm A []) (gm B [])) (some (.int res)) Af args s) (F0 m 31 ls [])
def fX8_note_31 (c_told_holes : Int32) (c_told_beside : (Nat → Int32)) (k31 : Int32 → Int32 → Int32 → Option (Int32)) (v2 : Int32) (v3 : Int32) (v4 : Int32) : Option (Int32) := if c_told_holes ≤ v4 then (some ((-1))) else (if ((v3 >>> (v2 &&& 31)) &&& 1) = 0 then (Option.bind (fX6_besideBits c_told_holes c_told_beside v3) fun y3 => (k31 v2 (v3 ||| y3) (v4 + 1))) else (some (v4)))
set_option maxHeartbeats 4000000 in
set_option maxRecDepth 100000 in
theorem tX8_note_31 {p : Program} {l : Launch} {e : Env} {s : State} {m : MethodId} {args : Array Value} {below : List Frame} {meth : Method} {c : Code} {D : va_G} {cy : Nat → ClassId} {ad : Nat → Nat} {P : MP} {V : MV} {I : MI} {J : MJ} {A : MI} {B : MJ} {Af : Nat → Prop} {res : Int32} (C0 : CX p s m args meth c cX8_note 5 (some .int) RX8) (hK : va_K D vwCl (tyG cy) s) (hN : NWs s) (hA : ∀ q, s.heap.size ≤ q → Af q) {k31 : Int32 → Int32 → Int32 → Option (Int32)} (hk31 : SX8_note_31 p l e s m args below meth c D cy ad P V I J A B Af res k31) : SX8_note_31 p l e s m args below meth c D cy ad P V I J A B Af res (fX8_note_31 (I 112 13) (A 120) k31) := by
  intro v2 v3 v4 H locs ls hW hl hf
  unfold fX8_note_31 at hf
  refine lv_iload C0.1 C0.2.1 dX8_note_31 (lv_at hl 3 rfl) ?_
  refine lv_aload_n C0.1 C0.2.1 dX8_note_33 rfl (lv_at hl 0 rfl) ?_
  refine s_get (v := .ref (ad 112)) C0 hK hW 0 7 LY_X8_0 rfl fg_X8_53 rfl dX8_note_34 ?_
  refine s_get (v := .int (I 112 13)) C0 hK hW 112 13 LY_X8_112 rfl fg_X8_193 rfl dX8_note_37 ?_
  refine lv_icmp_ge (tgt := 71) C0.1 C0.2.1 dX8_note_40 (by decide) (fun hc1 => ?_) (fun hc1 => ?_)
  · have hf := ite_t hc1 hf
    refine lv_iconst (v := (-1)) C0.1 C0.2.1 dX8_note_71 kI_m1 ?_
    obtain rfl := Option.some.inj hf
    exact r_int C0 hK hW dX8_note_72
  · have hf := ite_f hc1 hf
    refine lv_iload_n C0.1 C0.2.1 dX8_note_43 rfl (lv_at hl 2 rfl) ?_
    refine lv_iload_n C0.1 C0.2.1 dX8_note_44 rfl (lv_at hl 1 rfl) ?_
    refine lv_ishr C0.1 C0.2.1 dX8_note_45 ?_
    refine lv_iconst (v := 1) C0.1 C0.2.1 dX8_note_46 kI_1 ?_
    refine lv_iand C0.1 C0.2.1 dX8_note_47 ?_
    refine lv_if_eq (tgt := 54) C0.1 C0.2.1 dX8_note_48 (by decide) (fun hc2 => ?_) (fun hc2 => ?_)
    · have hf := ite_t hc2 hf
      refine lv_iload_n C0.1 C0.2.1 dX8_note_54 rfl (lv_at hl 2 rfl) ?_
      refine lv_aload_n C0.1 C0.2.1 dX8_note_55 rfl (lv_at hl 0 rfl) ?_
      refine s_get (v := .ref (ad 112)) C0 hK hW 0 7 LY_X8_0 rfl fg_X8_53 rfl dX8_note_56 ?_
      refine lv_iload_n C0.1 C0.2.1 dX8_note_59 rfl (lv_at hl 2 rfl) ?_
      obtain ⟨y3, hy3, hf⟩ := b_some hf
      refine c_Vi C0 hK hN hl.1 hW hA (KX6_besideBits l D cy  (fun q => ad (pl_LY_X8_LY_X6_112_113_59166342.getD q 0)) (fun q => P (pl_LY_X8_LY_X6_112_113_59166342.getD q 0)) (fun q => Vx LY_X8 ad V (pl_LY_X8_LY_X6_112_113_59166342.getD q 0)) (fun q => gp I [] (pl_LY_X8_LY_X6_112_113_59166342.getD q 0)) (fun q => gp J [] (pl_LY_X8_LY_X6_112_113_59166342.getD q 0)) (fun q => gm A [] (pl_LY_X8_LY_X6_112_113_59166342.getD q 0)) (fun q => gm B [] (pl_LY_X8_LY_X6_112_113_59166342.getD q 0)) v3 hy3) (JN_subC (pl := pl_LY_X8_LY_X6_112_113_59166342) sb_LY_X8_LY_X6_112_113_59166342 rfl rfl rfl rfl rfl rfl rfl rfl rfl) (Uw_V uw_865 uw_866 uw_867 uw_10 uw_868) rfl rfl hd_X6_besideBits ⟨rfl, rfl⟩ rfl (dn_some LY_X8_112) rfl rfl rfl dX8_note_60 ⟨Nat.zero_le _, Nat.zero_le _⟩ (fun H locs hW => ?_)
      have hW : wd D (dn cy LY_X8 ad P V (gp I []) (gp J []) (gm A []) (gm B [])) Af s.heap H locs := hW
      refine lv_ior C0.1 C0.2.1 dX8_note_63 ?_
      refine lv_istore_n (lv' := [(3, .int (v3 ||| y3)), (0, .ref (ad 0)), (2, .int v2), (4, .int v4)]) C0.1 C0.2.1 dX8_note_64 rfl hl (by decide) rfl (fun ls hl => ?_)
      refine lv_iinc (v := (v4 + 1)) (lv' := [(4, .int (v4 + 1)), (3, .int (v3 ||| y3)), (0, .ref (ad 0)), (2, .int v2)]) C0.1 C0.2.1 dX8_note_65 hl (k := 3) rfl (congrArg (fun z => _ + z) kI_1) (by decide) rfl (fun ls hl => ?_)
      refine lv_goto (tgt := 31) C0.1 C0.2.1 dX8_note_68 (by decide) ?_
      exact hk31 v2 (v3 ||| y3) (v4 + 1) H locs ls hW (lv_sub hl [2, 3, 1, 0] rfl) hf
    · have hf := ite_f hc2 hf
      refine lv_iload C0.1 C0.2.1 dX8_note_51 (lv_at hl 3 rfl) ?_
      obtain rfl := Option.some.inj hf
      exact r_int C0 hK hW dX8_note_53
theorem TX8_note_31 {p : Program} {l : Launch} {e : Env} {s : State} {m : MethodId} {args : Array Value} {below : List Frame} {meth : Method} {c : Code} {D : va_G} {cy : Nat → ClassId} {ad : Nat → Nat} {P : MP} {V : MV} {I : MI} {J : MJ} {A : MI} {B : MJ} {Af : Nat → Prop} {res : Int32} (C0 : CX p s m args meth c cX8_note 5 (some .int) RX8) (hK : va_K D vwCl (tyG cy) s) (hN : NWs s) (hA : ∀ q, s.heap.size ≤ q → Af q) : ∀ n, SX8_note_31 p l e s m args below meth c D cy ad P V I J A B Af res (itr (fun kk => fX8_note_31 (I 112 13) (A 120) kk) (fun _ _ _ => none) n) := by
  intro n
  induction n with
  | zero => intro v2 v3 v4 H locs ls hW hl hf; exact (nomatch (show (none : Option (Int32)) = some res from hf))
  | succ n ih => exact tX8_note_31 C0 hK hN hA  ih
def fX8_note (c_told_holes : Int32) (c_told_beside : (Nat → Int32)) (v1 : Int32) (v2 : Int32) : Option (Int32) := Option.bind (fX6_hasHole c_told_holes v1) fun y1 => (if y1 = 0 then (some ((-1))) else (Option.bind (fX6_hasHole c_told_holes v2) fun y3 => (if y3 = 0 then (some ((-1))) else (itr (fun kk => fX8_note_31 c_told_holes c_told_beside kk) (fun _ _ _ => none) FU v2 (1 <<< (v1 &&& 31)) 0))))
set_option maxHeartbeats 4000000 in
set_option maxRecDepth 100000 in
theorem KX8_note (l : Launch) (D : va_G) (cy : Nat → ClassId) (ad : Nat → Nat) (P : MP) (V : MV) (I : MI) (J : MJ) (A : MI) (B : MJ) (v1 : Int32) (v2 : Int32) {res : Int32} (hf : fX8_note (I 112 13) (A 120) v1 v2 = some res) : CG l yX8_note cX8_note 5 (some .int) rmX8_note D cy (dn cy LY_X8 ad P V I J A B) [.ref (ad 0), .int v1, .int v2] (some (.int res)) (dn cy LY_X8 ad P V (gp I []) (gp J []) (gm A []) (gm B [])) := by
  refine CG.of (own := RX8) (by decide) rfl rfl ?_
  intro p e s m below meth c ls Af C0 hK hN hA hW hl
  have hW : wd D (dn cy LY_X8 ad P V (gp I []) (gp J []) (gm A []) (gm B [])) Af s.heap s.heap [] := wd_sel [] [] [] [] hW
  have hl : lv_has ls 5 [(0, .ref (ad 0)), (1, .int v1), (2, .int v2)] := hl
  unfold fX8_note at hf
  refine lv_aload_n C0.1 C0.2.1 dX8_note_0 rfl (lv_at hl 0 rfl) ?_
  refine s_get (v := .ref (ad 112)) C0 hK hW 0 7 LY_X8_0 rfl fg_X8_53 rfl dX8_note_1 ?_
  refine lv_iload_n C0.1 C0.2.1 dX8_note_4 rfl (lv_at hl 1 rfl) ?_
  obtain ⟨y1, hy1, hf⟩ := b_some hf
  refine c_Vi C0 hK hN hl.1 hW hA (KX6_hasHole l D cy  (fun q => ad (pl_LY_X8_LY_X6_112_113_59166342.getD q 0)) (fun q => P (pl_LY_X8_LY_X6_112_113_59166342.getD q 0)) (fun q => Vx LY_X8 ad V (pl_LY_X8_LY_X6_112_113_59166342.getD q 0)) (fun q => gp I [] (pl_LY_X8_LY_X6_112_113_59166342.getD q 0)) (fun q => gp J [] (pl_LY_X8_LY_X6_112_113_59166342.getD q 0)) (fun q => gm A [] (pl_LY_X8_LY_X6_112_113_59166342.getD q 0)) (fun q => gm B [] (pl_LY_X8_LY_X6_112_113_59166342.getD q 0)) v1 hy1) (JN_subC (pl := pl_LY_X8_LY_X6_112_113_59166342) sb_LY_X8_LY_X6_112_113_59166342 rfl rfl rfl rfl rfl rfl rfl rfl rfl) (Uw_V uw_627 uw_628 uw_629 uw_10 uw_630) rfl rfl hd_X6_hasHole ⟨rfl, rfl⟩ rfl (dn_some LY_X8_112) rfl rfl rfl dX8_note_5 ⟨Nat.zero_le _, Nat.zero_le _⟩ (fun H locs hW => ?_)
  have hW : wd D (dn cy LY_X8 ad P V (gp I []) (gp J []) (gm A []) (gm B [])) Af s.heap H locs := hW
  refine lv_if_eq (tgt := 22) C0.1 C0.2.1 dX8_note_8 (by decide) (fun hc2 => ?_) (fun hc2 => ?_)
  · have hf := ite_t hc2 hf
    refine lv_iconst (v := (-1)) C0.1 C0.2.1 dX8_note_22 kI_m1 ?_
    obtain rfl := Option.some.inj hf
    exact r_int C0 hK hW dX8_note_23
  · have hf := ite_f hc2 hf
    refine lv_aload_n C0.1 C0.2.1 dX8_note_11 rfl (lv_at hl 0 rfl) ?_
    refine s_get (v := .ref (ad 112)) C0 hK hW 0 7 LY_X8_0 rfl fg_X8_53 rfl dX8_note_12 ?_
    refine lv_iload_n C0.1 C0.2.1 dX8_note_15 rfl (lv_at hl 2 rfl) ?_
    obtain ⟨y3, hy3, hf⟩ := b_some hf
    refine c_Vi C0 hK hN hl.1 hW hA (KX6_hasHole l D cy  (fun q => ad (pl_LY_X8_LY_X6_112_113_59166342.getD q 0)) (fun q => P (pl_LY_X8_LY_X6_112_113_59166342.getD q 0)) (fun q => Vx LY_X8 ad V (pl_LY_X8_LY_X6_112_113_59166342.getD q 0)) (fun q => gp I [] (pl_LY_X8_LY_X6_112_113_59166342.getD q 0)) (fun q => gp J [] (pl_LY_X8_LY_X6_112_113_59166342.getD q 0)) (fun q => gm A [] (pl_LY_X8_LY_X6_112_113_59166342.getD q 0)) (fun q => gm B [] (pl_LY_X8_LY_X6_112_113_59166342.getD q 0)) v2 hy3) (JN_subC (pl := pl_LY_X8_LY_X6_112_113_59166342) sb_LY_X8_LY_X6_112_113_59166342 rfl rfl rfl rfl rfl rfl rfl rfl rfl) (Uw_V uw_627 uw_628 uw_629 uw_10 uw_630) rfl rfl hd_X6_hasHole ⟨rfl, rfl⟩ rfl (dn_some LY_X8_112) rfl rfl rfl dX8_note_16 ⟨Nat.zero_le _, Nat.zero_le _⟩ (fun H locs hW => ?_)
    have hW : wd D (dn cy LY_X8 ad P V (gp I []) (gp J []) (gm A []) (gm B [])) Af s.heap H locs := hW
    refine lv_if_ne (tgt := 24) C0.1 C0.2.1 dX8_note_19 (by decide) (fun hc4 => ?_) (fun hc4 => ?_)
    · have hf := ite_f hc4 hf
      refine lv_iconst (v := 1) C0.1 C0.2.1 dX8_note_24 kI_1 ?_
      refine lv_iload_n C0.1 C0.2.1 dX8_note_25 rfl (lv_at hl 1 rfl) ?_
      refine lv_ishl C0.1 C0.2.1 dX8_note_26 ?_
      refine lv_istore_n (lv' := [(3, .int (1 <<< (v1 &&& 31))), (0, .ref (ad 0)), (1, .int v1), (2, .int v2)]) C0.1 C0.2.1 dX8_note_27 rfl hl (by decide) rfl (fun ls hl => ?_)
      refine lv_iconst (v := 0) C0.1 C0.2.1 dX8_note_28 kI_0 ?_
      refine lv_istore (lv' := [(4, .int 0), (3, .int (1 <<< (v1 &&& 31))), (0, .ref (ad 0)), (1, .int v1), (2, .int v2)]) C0.1 C0.2.1 dX8_note_29 hl (by decide) rfl (fun ls hl => ?_)
      exact TX8_note_31 C0 hK hN hA  FU v2 (1 <<< (v1 &&& 31)) 0 _ _ ls hW (lv_sub hl [2, 4, 1, 0] rfl) hf
    · have hf := ite_t hc4 hf
      refine lv_iconst (v := (-1)) C0.1 C0.2.1 dX8_note_22 kI_m1 ?_
      obtain rfl := Option.some.inj hf
      exact r_int C0 hK hW dX8_note_23
-- X8_full
def rmX8_full : Room := { frames := 6, cells := 0, slots := 0, locals := 141 }
def SX8_full_16 (p : Program) (l : Launch) (e : Env) (s : State) (m : MethodId) (args : Array Value) (below : List Frame) (meth : Method) (c : Code) (D : va_G) (cy : Nat → ClassId) (ad : Nat → Nat) (P : MP) (V : MV) (I : MI) (J : MJ) (A : MI) (B : MJ) (Af : Nat → Prop) (res : Int32 × Int32 × (Nat → Int32)) (k : Int32 → (Nat → Int32) → Int32 → Int32 → Int32 → Option (Int32 × Int32 × (Nat → Int32))) : Prop := ∀ (c_told_law_waiting : Int32) (c_told_law_stack : (Nat → Int32)) (v1 : Int32) (v2 : Int32) (v3 : Int32) (H : Heap) (locs : List Loc) (ls : Array Slot), wd D (dn cy LY_X8 ad P V (gp I [(124, 2, c_told_law_waiting)]) (gp J []) (gm A [(126, c_told_law_stack)]) (gm B [])) Af s.heap H locs → lv_has ls 4 [(0, .ref (ad 0)), (1, .int v1), (2, .int v2), (3, .int v3)] → k c_told_law_waiting c_told_law_stack v1 v2 v3 = some res → W p l e rmX8_full s m args below meth c H locs 0 0 (ZQ below D cy (dn cy LY_X8 ad P V (gp I [(124, 2, res.2.1)]) (gp J []) (gm A [(126, res.2.2)]) (gm B [])) (some (.int res.1)) Af args s) (F0 m 16 ls [])
def fX8_full_16 (c_now_seized : Int32) (c_now_date : Int32) (c_told_holes : Int32) (c_told_guests : Int32) (c_told_law_length : Int32) (c_now_coal : (Nat → Int32)) (c_now_inside : (Nat → Int32)) (c_told_holeFlags : (Nat → Int32)) (c_told_kinds : (Nat → Int32)) (c_told_guestFlags : (Nat → Int32)) (c_told_foes : (Nat → Int32)) (c_told_law_code : (Nat → Int32)) (k16 : Int32 → (Nat → Int32) → Int32 → Int32 → Int32 → Option (Int32 × Int32 × (Nat → Int32))) (c_told_law_waiting : Int32) (c_told_law_stack : (Nat → Int32)) (v1 : Int32) (v2 : Int32) (v3 : Int32) : Option (Int32 × Int32 × (Nat → Int32)) := if c_told_holes ≤ v3 then (some (v2, c_told_law_waiting, c_told_law_stack)) else (Option.bind (fX4_takenBits c_now_date c_told_guests c_told_law_length c_now_coal c_now_inside c_told_holeFlags c_told_kinds c_told_guestFlags c_told_foes c_told_law_code c_told_law_waiting c_told_law_stack v3) fun y2 => (if (y2.1 &&& v1) = 0 then (k16 y2.2.1 y2.2.2 v1 (v2 ||| (1 <<< (v3 &&& 31))) (v3 + 1)) else (k16 y2.2.1 y2.2.2 v1 v2 (v3 + 1))))
set_option maxHeartbeats 4000000 in
set_option maxRecDepth 100000 in
theorem tX8_full_16 {p : Program} {l : Launch} {e : Env} {s : State} {m : MethodId} {args : Array Value} {below : List Frame} {meth : Method} {c : Code} {D : va_G} {cy : Nat → ClassId} {ad : Nat → Nat} {P : MP} {V : MV} {I : MI} {J : MJ} {A : MI} {B : MJ} {Af : Nat → Prop} {res : Int32 × Int32 × (Nat → Int32)} (C0 : CX p s m args meth c cX8_full 4 (some .int) RX8) (hK : va_K D vwCl (tyG cy) s) (hN : NWs s) (hA : ∀ q, s.heap.size ≤ q → Af q) {k16 : Int32 → (Nat → Int32) → Int32 → Int32 → Int32 → Option (Int32 × Int32 × (Nat → Int32))} (hk16 : SX8_full_16 p l e s m args below meth c D cy ad P V I J A B Af res k16) : SX8_full_16 p l e s m args below meth c D cy ad P V I J A B Af res (fX8_full_16 (I 4 2) (I 4 3) (I 112 13) (I 112 14) (I 124 4) (A 5) (A 6) (A 117) (A 121) (A 122) (A 123) (A 125) k16) := by
  intro c_told_law_waiting c_told_law_stack v1 v2 v3 H locs ls hW hl hf
  unfold fX8_full_16 at hf
  refine lv_iload_n C0.1 C0.2.1 dX8_full_16 rfl (lv_at hl 3 rfl) ?_
  refine lv_aload_n C0.1 C0.2.1 dX8_full_17 rfl (lv_at hl 0 rfl) ?_
  refine s_get (v := .ref (ad 112)) C0 hK hW 0 7 LY_X8_0 rfl fg_X8_53 rfl dX8_full_18 ?_
  refine s_get (v := .int (I 112 13)) C0 hK hW 112 13 LY_X8_112 rfl fg_X8_193 rfl dX8_full_21 ?_
  refine lv_icmp_ge (tgt := 56) C0.1 C0.2.1 dX8_full_24 (by decide) (fun hc1 => ?_) (fun hc1 => ?_)
  · have hf := ite_t hc1 hf
    refine lv_iload_n C0.1 C0.2.1 dX8_full_56 rfl (lv_at hl 2 rfl) ?_
    obtain rfl := Option.some.inj hf
    exact r_int C0 hK hW dX8_full_57
  · have hf := ite_f hc1 hf
    refine lv_aload_n C0.1 C0.2.1 dX8_full_27 rfl (lv_at hl 0 rfl) ?_
    refine s_get (v := .ref (ad 4)) C0 hK hW 0 1 LY_X8_0 rfl fg_X8_19 rfl dX8_full_28 ?_
    refine lv_aload_n C0.1 C0.2.1 dX8_full_31 rfl (lv_at hl 0 rfl) ?_
    refine s_get (v := .ref (ad 112)) C0 hK hW 0 7 LY_X8_0 rfl fg_X8_53 rfl dX8_full_32 ?_
    refine lv_iload_n C0.1 C0.2.1 dX8_full_35 rfl (lv_at hl 3 rfl) ?_
    obtain ⟨y2, hy2, hf⟩ := b_some hf
    refine c_Vi C0 hK hN hl.1 hW hA (KX4_takenBits l D cy  (fun q => ad (pl_LY_X8_LY_X4X6_4_5_5025986.getD q 0)) (fun q => P (pl_LY_X8_LY_X4X6_4_5_5025986.getD q 0)) (fun q => Vx LY_X8 ad V (pl_LY_X8_LY_X4X6_4_5_5025986.getD q 0)) (fun q => gp I [(124, 2, c_told_law_waiting)] (pl_LY_X8_LY_X4X6_4_5_5025986.getD q 0)) (fun q => gp J [] (pl_LY_X8_LY_X4X6_4_5_5025986.getD q 0)) (fun q => gm A [(126, c_told_law_stack)] (pl_LY_X8_LY_X4X6_4_5_5025986.getD q 0)) (fun q => gm B [] (pl_LY_X8_LY_X4X6_4_5_5025986.getD q 0)) v3 hy2) (JN_subC (pl := pl_LY_X8_LY_X4X6_4_5_5025986) sb_LY_X8_LY_X4X6_4_5_5025986 rfl rfl rfl rfl rfl rfl rfl rfl rfl) (Uw_V uw_631 uw_632 uw_633 uw_7 uw_634) rfl rfl hd_X4_takenBits ⟨rfl, rfl⟩ rfl (dn_some LY_X8_4) rfl rfl rfl dX8_full_36 ⟨Nat.zero_le _, Nat.zero_le _⟩ (fun H locs hW => ?_)
    have hW : wd D (dn cy LY_X8 ad P V (gp I [(124, 2, y2.2.1)]) (gp J []) (gm A [(126, y2.2.2)]) (gm B [])) Af s.heap H locs := hW
    refine lv_iload_n C0.1 C0.2.1 dX8_full_39 rfl (lv_at hl 1 rfl) ?_
    refine lv_iand C0.1 C0.2.1 dX8_full_40 ?_
    refine lv_if_ne (tgt := 50) C0.1 C0.2.1 dX8_full_41 (by decide) (fun hc3 => ?_) (fun hc3 => ?_)
    · have hf := ite_f hc3 hf
      refine lv_iinc (v := (v3 + 1)) (lv' := [(3, .int (v3 + 1)), (0, .ref (ad 0)), (1, .int v1), (2, .int v2)]) C0.1 C0.2.1 dX8_full_50 hl (k := 3) rfl (congrArg (fun z => _ + z) kI_1) (by decide) rfl (fun ls hl => ?_)
      refine lv_goto (tgt := 16) C0.1 C0.2.1 dX8_full_53 (by decide) ?_
      exact hk16 y2.2.1 y2.2.2 v1 v2 (v3 + 1) H locs ls hW (lv_sub hl [1, 2, 3, 0] rfl) hf
    · have hf := ite_t hc3 hf
      refine lv_iload_n C0.1 C0.2.1 dX8_full_44 rfl (lv_at hl 2 rfl) ?_
      refine lv_iconst (v := 1) C0.1 C0.2.1 dX8_full_45 kI_1 ?_
      refine lv_iload_n C0.1 C0.2.1 dX8_full_46 rfl (lv_at hl 3 rfl) ?_
      refine lv_ishl C0.1 C0.2.1 dX8_full_47 ?_
      refine lv_ior C0.1 C0.2.1 dX8_full_48 ?_
      refine lv_istore_n (lv' := [(2, .int (v2 ||| (1 <<< (v3 &&& 31)))), (0, .ref (ad 0)), (1, .int v1), (3, .int v3)]) C0.1 C0.2.1 dX8_full_49 rfl hl (by decide) rfl (fun ls hl => ?_)
      refine lv_iinc (v := (v3 + 1)) (lv' := [(3, .int (v3 + 1)), (2, .int (v2 ||| (1 <<< (v3 &&& 31)))), (0, .ref (ad 0)), (1, .int v1)]) C0.1 C0.2.1 dX8_full_50 hl (k := 3) rfl (congrArg (fun z => _ + z) kI_1) (by decide) rfl (fun ls hl => ?_)
      refine lv_goto (tgt := 16) C0.1 C0.2.1 dX8_full_53 (by decide) ?_
      exact hk16 y2.2.1 y2.2.2 v1 (v2 ||| (1 <<< (v3 &&& 31))) (v3 + 1) H locs ls hW (lv_sub hl [2, 3, 1, 0] rfl) hf
theorem TX8_full_16 {p : Program} {l : Launch} {e : Env} {s : State} {m : MethodId} {args : Array Value} {below : List Frame} {meth : Method} {c : Code} {D : va_G} {cy : Nat → ClassId} {ad : Nat → Nat} {P : MP} {V : MV} {I : MI} {J : MJ} {A : MI} {B : MJ} {Af : Nat → Prop} {res : Int32 × Int32 × (Nat → Int32)} (C0 : CX p s m args meth c cX8_full 4 (some .int) RX8) (hK : va_K D vwCl (tyG cy) s) (hN : NWs s) (hA : ∀ q, s.heap.size ≤ q → Af q) : ∀ n, SX8_full_16 p l e s m args below meth c D cy ad P V I J A B Af res (itr (fun kk => fX8_full_16 (I 4 2) (I 4 3) (I 112 13) (I 112 14) (I 124 4) (A 5) (A 6) (A 117) (A 121) (A 122) (A 123) (A 125) kk) (fun _ _ _ _ _ => none) n) := by
  intro n
  induction n with
  | zero => intro c_told_law_waiting c_told_law_stack v1 v2 v3 H locs ls hW hl hf; exact (nomatch (show (none : Option (Int32 × Int32 × (Nat → Int32))) = some res from hf))
  | succ n ih => exact tX8_full_16 C0 hK hN hA  ih
def fX8_full (c_now_seized : Int32) (c_now_date : Int32) (c_told_holes : Int32) (c_told_guests : Int32) (c_told_law_length : Int32) (c_now_coal : (Nat → Int32)) (c_now_inside : (Nat → Int32)) (c_told_holeFlags : (Nat → Int32)) (c_told_kinds : (Nat → Int32)) (c_told_guestFlags : (Nat → Int32)) (c_told_foes : (Nat → Int32)) (c_told_law_code : (Nat → Int32)) (c_told_law_waiting : Int32) (c_told_law_stack : (Nat → Int32)) : Option (Int32 × Int32 × (Nat → Int32)) := Option.bind (fX4_streetBits c_now_seized c_told_holes c_told_guests c_now_inside) fun y1 => (itr (fun kk => fX8_full_16 c_now_seized c_now_date c_told_holes c_told_guests c_told_law_length c_now_coal c_now_inside c_told_holeFlags c_told_kinds c_told_guestFlags c_told_foes c_told_law_code kk) (fun _ _ _ _ _ => none) FU c_told_law_waiting c_told_law_stack y1 0 0)
set_option maxHeartbeats 4000000 in
set_option maxRecDepth 100000 in
theorem KX8_full (l : Launch) (D : va_G) (cy : Nat → ClassId) (ad : Nat → Nat) (P : MP) (V : MV) (I : MI) (J : MJ) (A : MI) (B : MJ) {res : Int32 × Int32 × (Nat → Int32)} (hf : fX8_full (I 4 2) (I 4 3) (I 112 13) (I 112 14) (I 124 4) (A 5) (A 6) (A 117) (A 121) (A 122) (A 123) (A 125) (I 124 2) (A 126) = some res) : CG l yX8_full cX8_full 4 (some .int) rmX8_full D cy (dn cy LY_X8 ad P V I J A B) [.ref (ad 0)] (some (.int res.1)) (dn cy LY_X8 ad P V (gp I [(124, 2, res.2.1)]) (gp J []) (gm A [(126, res.2.2)]) (gm B [])) := by
  refine CG.of (own := RX8) (by decide) rfl rfl ?_
  intro p e s m below meth c ls Af C0 hK hN hA hW hl
  have hW : wd D (dn cy LY_X8 ad P V (gp I [(124, 2, (I 124 2))]) (gp J []) (gm A [(126, (A 126))]) (gm B [])) Af s.heap s.heap [] := wd_sel [(124, 2)] [] [126] [] hW
  have hl : lv_has ls 4 [(0, .ref (ad 0))] := hl
  unfold fX8_full at hf
  refine lv_aload_n C0.1 C0.2.1 dX8_full_0 rfl (lv_at hl 0 rfl) ?_
  refine s_get (v := .ref (ad 4)) C0 hK hW 0 1 LY_X8_0 rfl fg_X8_19 rfl dX8_full_1 ?_
  refine lv_aload_n C0.1 C0.2.1 dX8_full_4 rfl (lv_at hl 0 rfl) ?_
  refine s_get (v := .ref (ad 112)) C0 hK hW 0 7 LY_X8_0 rfl fg_X8_53 rfl dX8_full_5 ?_
  obtain ⟨y1, hy1, hf⟩ := b_some hf
  refine c_Vi C0 hK hN hl.1 hW hA (KX4_streetBits l D cy  (fun q => ad (pl_LY_X8_LY_X4X6_4_5_5025986.getD q 0)) (fun q => P (pl_LY_X8_LY_X4X6_4_5_5025986.getD q 0)) (fun q => Vx LY_X8 ad V (pl_LY_X8_LY_X4X6_4_5_5025986.getD q 0)) (fun q => gp I [(124, 2, (I 124 2))] (pl_LY_X8_LY_X4X6_4_5_5025986.getD q 0)) (fun q => gp J [] (pl_LY_X8_LY_X4X6_4_5_5025986.getD q 0)) (fun q => gm A [(126, (A 126))] (pl_LY_X8_LY_X4X6_4_5_5025986.getD q 0)) (fun q => gm B [] (pl_LY_X8_LY_X4X6_4_5_5025986.getD q 0))  hy1) (JN_subC (pl := pl_LY_X8_LY_X4X6_4_5_5025986) sb_LY_X8_LY_X4X6_4_5_5025986 rfl rfl rfl rfl rfl rfl rfl rfl rfl) (Uw_V uw_792 uw_678 uw_679 uw_7 uw_680) rfl rfl hd_X4_streetBits ⟨rfl, rfl⟩ rfl (dn_some LY_X8_4) rfl rfl rfl dX8_full_8 ⟨Nat.zero_le _, Nat.zero_le _⟩ (fun H locs hW => ?_)
  have hW : wd D (dn cy LY_X8 ad P V (gp I [(124, 2, (I 124 2))]) (gp J []) (gm A [(126, (A 126))]) (gm B [])) Af s.heap H locs := hW
  refine lv_istore_n (lv' := [(1, .int y1), (0, .ref (ad 0))]) C0.1 C0.2.1 dX8_full_11 rfl hl (by decide) rfl (fun ls hl => ?_)
  refine lv_iconst (v := 0) C0.1 C0.2.1 dX8_full_12 kI_0 ?_
  refine lv_istore_n (lv' := [(2, .int 0), (1, .int y1), (0, .ref (ad 0))]) C0.1 C0.2.1 dX8_full_13 rfl hl (by decide) rfl (fun ls hl => ?_)
  refine lv_iconst (v := 0) C0.1 C0.2.1 dX8_full_14 kI_0 ?_
  refine lv_istore_n (lv' := [(3, .int 0), (2, .int 0), (1, .int y1), (0, .ref (ad 0))]) C0.1 C0.2.1 dX8_full_15 rfl hl (by decide) rfl (fun ls hl => ?_)
  exact TX8_full_16 C0 hK hN hA  FU (I 124 2) (A 126) y1 0 0 _ _ ls hW (lv_sub hl [3, 2, 1, 0] rfl) hf
-- X8_pairs
def rmX8_pairs : Room := { frames := 2, cells := 0, slots := 0, locals := 41 }
def SX8_pairs_4 (p : Program) (l : Launch) (e : Env) (s : State) (m : MethodId) (args : Array Value) (below : List Frame) (meth : Method) (c : Code) (D : va_G) (cy : Nat → ClassId) (ad : Nat → Nat) (P : MP) (V : MV) (I : MI) (J : MJ) (A : MI) (B : MJ) (Af : Nat → Prop) (res : Int32) (k : Int32 → Int32 → Option (Int32)) : Prop := ∀ (v1 : Int32) (v2 : Int32) (H : Heap) (locs : List Loc) (ls : Array Slot), wd D (dn cy LY_X8 ad P V (gp I []) (gp J []) (gm A []) (gm B [])) Af s.heap H locs → lv_has ls 3 [(0, .ref (ad 0)), (1, .int v1), (2, .int v2)] → k v1 v2 = some res → W p l e rmX8_pairs s m args below meth c H locs 0 0 (ZQ below D cy (dn cy LY_X8 ad P V (gp I []) (gp J []) (gm A []) (gm B [])) (some (.int res)) Af args s) (F0 m 4 ls [])
def fX8_pairs_4 (c_told_guests : Int32) (c_told_foes : (Nat → Int32)) (k4 : Int32 → Int32 → Option (Int32)) (v1 : Int32) (v2 : Int32) : Option (Int32) := if c_told_guests ≤ v2 then (some ((v1 / 2))) else (bif inb v2 5 then (Option.bind (fJ6_bitCount_0f7a4 (c_told_foes (Int32.toNatClampNeg v2))) fun y3 => (k4 (v1 + y3) (v2 + 1))) else none)
set_option maxHeartbeats 4000000 in
set_option maxRecDepth 100000 in
theorem tX8_pairs_4 {p : Program} {l : Launch} {e : Env} {s : State} {m : MethodId} {args : Array Value} {below : List Frame} {meth : Method} {c : Code} {D : va_G} {cy : Nat → ClassId} {ad : Nat → Nat} {P : MP} {V : MV} {I : MI} {J : MJ} {A : MI} {B : MJ} {Af : Nat → Prop} {res : Int32} (C0 : CX p s m args meth c cX8_pairs 3 (some .int) RX8) (hK : va_K D vwCl (tyG cy) s) (hN : NWs s) (hA : ∀ q, s.heap.size ≤ q → Af q) {k4 : Int32 → Int32 → Option (Int32)} (hk4 : SX8_pairs_4 p l e s m args below meth c D cy ad P V I J A B Af res k4) : SX8_pairs_4 p l e s m args below meth c D cy ad P V I J A B Af res (fX8_pairs_4 (I 112 14) (A 123) k4) := by
  intro v1 v2 H locs ls hW hl hf
  unfold fX8_pairs_4 at hf
  refine lv_iload_n C0.1 C0.2.1 dX8_pairs_4 rfl (lv_at hl 2 rfl) ?_
  refine lv_aload_n C0.1 C0.2.1 dX8_pairs_5 rfl (lv_at hl 0 rfl) ?_
  refine s_get (v := .ref (ad 112)) C0 hK hW 0 7 LY_X8_0 rfl fg_X8_53 rfl dX8_pairs_6 ?_
  refine s_get (v := .int (I 112 14)) C0 hK hW 112 14 LY_X8_112 rfl fg_X8_209 rfl dX8_pairs_9 ?_
  refine lv_icmp_ge (tgt := 36) C0.1 C0.2.1 dX8_pairs_12 (by decide) (fun hc1 => ?_) (fun hc1 => ?_)
  · have hf := ite_t hc1 hf
    refine lv_iload_n C0.1 C0.2.1 dX8_pairs_36 rfl (lv_at hl 1 rfl) ?_
    refine lv_iconst (v := 2) C0.1 C0.2.1 dX8_pairs_37 kI_2 ?_
    refine lv_idiv C0.1 C0.2.1 dX8_pairs_38 (by decide) ?_
    obtain rfl := Option.some.inj hf
    exact r_int C0 hK hW dX8_pairs_39
  · have hf := ite_f hc1 hf
    refine lv_iload_n C0.1 C0.2.1 dX8_pairs_15 rfl (lv_at hl 1 rfl) ?_
    refine lv_aload_n C0.1 C0.2.1 dX8_pairs_16 rfl (lv_at hl 0 rfl) ?_
    refine s_get (v := .ref (ad 112)) C0 hK hW 0 7 LY_X8_0 rfl fg_X8_53 rfl dX8_pairs_17 ?_
    refine s_get (v := .ref (ad 123)) C0 hK hW 112 11 LY_X8_112 rfl fg_X8_223 rfl dX8_pairs_20 ?_
    refine lv_iload_n C0.1 C0.2.1 dX8_pairs_23 rfl (lv_at hl 2 rfl) ?_
    obtain ⟨hb2, hf⟩ := g_some hf
    refine s_iald (v := ((A 123) (Int32.toNatClampNeg v2))) C0 hK hW 123 LY_X8_123 hb2 rfl dX8_pairs_24 ?_
    obtain ⟨y3, hy3, hf⟩ := b_some hf
    refine c_Si C0 hK hN hl.1 hW hA (KJ6_bitCount_0f7a4 l D cy  (fun q => ad (pl_LY_X8_LY_0_.getD q 0)) (fun q => P (pl_LY_X8_LY_0_.getD q 0)) (fun q => Vx LY_X8 ad V (pl_LY_X8_LY_0_.getD q 0)) (fun q => gp I [] (pl_LY_X8_LY_0_.getD q 0)) (fun q => gp J [] (pl_LY_X8_LY_0_.getD q 0)) (fun q => gm A [] (pl_LY_X8_LY_0_.getD q 0)) (fun q => gm B [] (pl_LY_X8_LY_0_.getD q 0)) ((A 123) (Int32.toNatClampNeg v2)) hy3) (JN_subC (pl := pl_LY_X8_LY_0_) sb_LY_X8_LY_0_ rfl rfl rfl rfl rfl rfl rfl rfl rfl) ⟨uw_877, uw_644, uw_15, uw_645⟩ rfl rfl hd_J6_bitCount_0f7a4 ⟨rfl, rfl⟩ rfl rfl rfl dX8_pairs_25 ⟨Nat.zero_le _, Nat.zero_le _⟩ (fun H locs hW => ?_)
    have hW : wd D (dn cy LY_X8 ad P V (gp I []) (gp J []) (gm A []) (gm B [])) Af s.heap H locs := hW
    refine lv_iadd C0.1 C0.2.1 dX8_pairs_28 ?_
    refine lv_istore_n (lv' := [(1, .int (v1 + y3)), (0, .ref (ad 0)), (2, .int v2)]) C0.1 C0.2.1 dX8_pairs_29 rfl hl (by decide) rfl (fun ls hl => ?_)
    refine lv_iinc (v := (v2 + 1)) (lv' := [(2, .int (v2 + 1)), (1, .int (v1 + y3)), (0, .ref (ad 0))]) C0.1 C0.2.1 dX8_pairs_30 hl (k := 2) rfl (congrArg (fun z => _ + z) kI_1) (by decide) rfl (fun ls hl => ?_)
    refine lv_goto (tgt := 4) C0.1 C0.2.1 dX8_pairs_33 (by decide) ?_
    exact hk4 (v1 + y3) (v2 + 1) H locs ls hW (lv_sub hl [2, 1, 0] rfl) hf
theorem TX8_pairs_4 {p : Program} {l : Launch} {e : Env} {s : State} {m : MethodId} {args : Array Value} {below : List Frame} {meth : Method} {c : Code} {D : va_G} {cy : Nat → ClassId} {ad : Nat → Nat} {P : MP} {V : MV} {I : MI} {J : MJ} {A : MI} {B : MJ} {Af : Nat → Prop} {res : Int32} (C0 : CX p s m args meth c cX8_pairs 3 (some .int) RX8) (hK : va_K D vwCl (tyG cy) s) (hN : NWs s) (hA : ∀ q, s.heap.size ≤ q → Af q) : ∀ n, SX8_pairs_4 p l e s m args below meth c D cy ad P V I J A B Af res (itr (fun kk => fX8_pairs_4 (I 112 14) (A 123) kk) (fun _ _ => none) n) := by
  intro n
  induction n with
  | zero => intro v1 v2 H locs ls hW hl hf; exact (nomatch (show (none : Option (Int32)) = some res from hf))
  | succ n ih => exact tX8_pairs_4 C0 hK hN hA  ih
def fX8_pairs (c_told_guests : Int32) (c_told_foes : (Nat → Int32)) : Option (Int32) := itr (fun kk => fX8_pairs_4 c_told_guests c_told_foes kk) (fun _ _ => none) FU 0 0
set_option maxHeartbeats 4000000 in
set_option maxRecDepth 100000 in
theorem KX8_pairs (l : Launch) (D : va_G) (cy : Nat → ClassId) (ad : Nat → Nat) (P : MP) (V : MV) (I : MI) (J : MJ) (A : MI) (B : MJ) {res : Int32} (hf : fX8_pairs (I 112 14) (A 123) = some res) : CG l yX8_pairs cX8_pairs 3 (some .int) rmX8_pairs D cy (dn cy LY_X8 ad P V I J A B) [.ref (ad 0)] (some (.int res)) (dn cy LY_X8 ad P V (gp I []) (gp J []) (gm A []) (gm B [])) := by
  refine CG.of (own := RX8) (by decide) rfl rfl ?_
  intro p e s m below meth c ls Af C0 hK hN hA hW hl
  have hW : wd D (dn cy LY_X8 ad P V (gp I []) (gp J []) (gm A []) (gm B [])) Af s.heap s.heap [] := wd_sel [] [] [] [] hW
  have hl : lv_has ls 3 [(0, .ref (ad 0))] := hl
  unfold fX8_pairs at hf
  refine lv_iconst (v := 0) C0.1 C0.2.1 dX8_pairs_0 kI_0 ?_
  refine lv_istore_n (lv' := [(1, .int 0), (0, .ref (ad 0))]) C0.1 C0.2.1 dX8_pairs_1 rfl hl (by decide) rfl (fun ls hl => ?_)
  refine lv_iconst (v := 0) C0.1 C0.2.1 dX8_pairs_2 kI_0 ?_
  refine lv_istore_n (lv' := [(2, .int 0), (1, .int 0), (0, .ref (ad 0))]) C0.1 C0.2.1 dX8_pairs_3 rfl hl (by decide) rfl (fun ls hl => ?_)
  exact TX8_pairs_4 C0 hK hN hA  FU 0 0 _ _ ls hW (lv_sub hl [2, 1, 0] rfl) hf
-- X8_line
def rmX8_line : Room := { frames := 3, cells := 0, slots := 0, locals := 67 }
def fX8_line (c_now_date : Int32) (c_told_colds : Int32) (c_told_guests : Int32) (c_now_coal : (Nat → Int32)) (c_now_inside : (Nat → Int32)) (c_told_cold : (Nat → Int32)) (c_told_burns : (Nat → Int32)) (c_told_foes : (Nat → Int32)) (v1 : Int32) (v2 : Int32) : Option (Int32) := Option.bind (fX6_areAtWar c_told_guests c_told_foes v1 v2) fun y1 => (if y1 = 0 then (some ((-1))) else (Option.bind (fX4_placeOf c_now_inside v1) fun y3 => (if y3 = (-1) then (some ((-1))) else (Option.bind (fX4_placeOf c_now_inside v2) fun y5 => (if y3 = y5 then (Option.bind (fX4_daysUntilBelow c_now_date c_told_colds c_now_coal c_told_cold c_told_burns y3 20) fun y7 => (some (y7))) else (some ((-1))))))))
set_option maxHeartbeats 4000000 in
set_option maxRecDepth 100000 in
theorem KX8_line (l : Launch) (D : va_G) (cy : Nat → ClassId) (ad : Nat → Nat) (P : MP) (V : MV) (I : MI) (J : MJ) (A : MI) (B : MJ) (v1 : Int32) (v2 : Int32) {res : Int32} (hf : fX8_line (I 4 3) (I 112 4) (I 112 14) (A 5) (A 6) (A 116) (A 119) (A 123) v1 v2 = some res) : CG l yX8_line cX8_line 4 (some .int) rmX8_line D cy (dn cy LY_X8 ad P V I J A B) [.ref (ad 0), .int v1, .int v2] (some (.int res)) (dn cy LY_X8 ad P V (gp I []) (gp J []) (gm A []) (gm B [])) := by
  refine CG.of (own := RX8) (by decide) rfl rfl ?_
  intro p e s m below meth c ls Af C0 hK hN hA hW hl
  have hW : wd D (dn cy LY_X8 ad P V (gp I []) (gp J []) (gm A []) (gm B [])) Af s.heap s.heap [] := wd_sel [] [] [] [] hW
  have hl : lv_has ls 4 [(0, .ref (ad 0)), (1, .int v1), (2, .int v2)] := hl
  unfold fX8_line at hf
  refine lv_aload_n C0.1 C0.2.1 dX8_line_0 rfl (lv_at hl 0 rfl) ?_
  refine s_get (v := .ref (ad 112)) C0 hK hW 0 7 LY_X8_0 rfl fg_X8_53 rfl dX8_line_1 ?_
  refine lv_iload_n C0.1 C0.2.1 dX8_line_4 rfl (lv_at hl 1 rfl) ?_
  refine lv_iload_n C0.1 C0.2.1 dX8_line_5 rfl (lv_at hl 2 rfl) ?_
  obtain ⟨y1, hy1, hf⟩ := b_some hf
  refine c_Vi C0 hK hN hl.1 hW hA (KX6_areAtWar l D cy  (fun q => ad (pl_LY_X8_LY_X6_112_113_59166342.getD q 0)) (fun q => P (pl_LY_X8_LY_X6_112_113_59166342.getD q 0)) (fun q => Vx LY_X8 ad V (pl_LY_X8_LY_X6_112_113_59166342.getD q 0)) (fun q => gp I [] (pl_LY_X8_LY_X6_112_113_59166342.getD q 0)) (fun q => gp J [] (pl_LY_X8_LY_X6_112_113_59166342.getD q 0)) (fun q => gm A [] (pl_LY_X8_LY_X6_112_113_59166342.getD q 0)) (fun q => gm B [] (pl_LY_X8_LY_X6_112_113_59166342.getD q 0)) v1 v2 hy1) (JN_subC (pl := pl_LY_X8_LY_X6_112_113_59166342) sb_LY_X8_LY_X6_112_113_59166342 rfl rfl rfl rfl rfl rfl rfl rfl rfl) (Uw_V uw_882 uw_883 uw_884 uw_10 uw_885) rfl rfl hd_X6_areAtWar ⟨rfl, rfl⟩ rfl (dn_some LY_X8_112) rfl rfl rfl dX8_line_6 ⟨Nat.zero_le _, Nat.zero_le _⟩ (fun H locs hW => ?_)
  have hW : wd D (dn cy LY_X8 ad P V (gp I []) (gp J []) (gm A []) (gm B [])) Af s.heap H locs := hW
  refine lv_if_ne (tgt := 14) C0.1 C0.2.1 dX8_line_9 (by decide) (fun hc2 => ?_) (fun hc2 => ?_)
  · have hf := ite_f hc2 hf
    refine lv_aload_n C0.1 C0.2.1 dX8_line_14 rfl (lv_at hl 0 rfl) ?_
    refine s_get (v := .ref (ad 4)) C0 hK hW 0 1 LY_X8_0 rfl fg_X8_19 rfl dX8_line_15 ?_
    refine lv_iload_n C0.1 C0.2.1 dX8_line_18 rfl (lv_at hl 1 rfl) ?_
    obtain ⟨y3, hy3, hf⟩ := b_some hf
    refine c_Vi C0 hK hN hl.1 hW hA (KX4_placeOf l D cy  (fun q => ad (pl_LY_X8_LY_X4_4_5_6.getD q 0)) (fun q => P (pl_LY_X8_LY_X4_4_5_6.getD q 0)) (fun q => Vx LY_X8 ad V (pl_LY_X8_LY_X4_4_5_6.getD q 0)) (fun q => gp I [] (pl_LY_X8_LY_X4_4_5_6.getD q 0)) (fun q => gp J [] (pl_LY_X8_LY_X4_4_5_6.getD q 0)) (fun q => gm A [] (pl_LY_X8_LY_X4_4_5_6.getD q 0)) (fun q => gm B [] (pl_LY_X8_LY_X4_4_5_6.getD q 0)) v1 hy3) (JN_subC (pl := pl_LY_X8_LY_X4_4_5_6) sb_LY_X8_LY_X4_4_5_6 rfl rfl rfl rfl rfl rfl rfl rfl rfl) (Uw_V uw_668 uw_669 uw_670 uw_7 uw_671) rfl rfl hd_X4_placeOf ⟨rfl, rfl⟩ rfl (dn_some LY_X8_4) rfl rfl rfl dX8_line_19 ⟨Nat.zero_le _, Nat.zero_le _⟩ (fun H locs hW => ?_)
    have hW : wd D (dn cy LY_X8 ad P V (gp I []) (gp J []) (gm A []) (gm B [])) Af s.heap H locs := hW
    refine lv_istore_n (lv' := [(3, .int y3), (0, .ref (ad 0)), (1, .int v1), (2, .int v2)]) C0.1 C0.2.1 dX8_line_22 rfl hl (by decide) rfl (fun ls hl => ?_)
    refine lv_iload_n C0.1 C0.2.1 dX8_line_23 rfl (lv_at hl 0 rfl) ?_
    refine lv_iconst (v := (-1)) C0.1 C0.2.1 dX8_line_24 kI_m1 ?_
    refine lv_icmp_eq (tgt := 40) C0.1 C0.2.1 dX8_line_25 (by decide) (fun hc4 => ?_) (fun hc4 => ?_)
    · have hf := ite_t hc4 hf
      refine lv_iconst (v := (-1)) C0.1 C0.2.1 dX8_line_40 kI_m1 ?_
      obtain rfl := Option.some.inj hf
      exact r_int C0 hK hW dX8_line_41
    · have hf := ite_f hc4 hf
      refine lv_iload_n C0.1 C0.2.1 dX8_line_28 rfl (lv_at hl 0 rfl) ?_
      refine lv_aload_n C0.1 C0.2.1 dX8_line_29 rfl (lv_at hl 1 rfl) ?_
      refine s_get (v := .ref (ad 4)) C0 hK hW 0 1 LY_X8_0 rfl fg_X8_19 rfl dX8_line_30 ?_
      refine lv_iload_n C0.1 C0.2.1 dX8_line_33 rfl (lv_at hl 3 rfl) ?_
      obtain ⟨y5, hy5, hf⟩ := b_some hf
      refine c_Vi C0 hK hN hl.1 hW hA (KX4_placeOf l D cy  (fun q => ad (pl_LY_X8_LY_X4_4_5_6.getD q 0)) (fun q => P (pl_LY_X8_LY_X4_4_5_6.getD q 0)) (fun q => Vx LY_X8 ad V (pl_LY_X8_LY_X4_4_5_6.getD q 0)) (fun q => gp I [] (pl_LY_X8_LY_X4_4_5_6.getD q 0)) (fun q => gp J [] (pl_LY_X8_LY_X4_4_5_6.getD q 0)) (fun q => gm A [] (pl_LY_X8_LY_X4_4_5_6.getD q 0)) (fun q => gm B [] (pl_LY_X8_LY_X4_4_5_6.getD q 0)) v2 hy5) (JN_subC (pl := pl_LY_X8_LY_X4_4_5_6) sb_LY_X8_LY_X4_4_5_6 rfl rfl rfl rfl rfl rfl rfl rfl rfl) (Uw_V uw_668 uw_669 uw_670 uw_7 uw_671) rfl rfl hd_X4_placeOf ⟨rfl, rfl⟩ rfl (dn_some LY_X8_4) rfl rfl rfl dX8_line_34 ⟨Nat.zero_le _, Nat.zero_le _⟩ (fun H locs hW => ?_)
      have hW : wd D (dn cy LY_X8 ad P V (gp I []) (gp J []) (gm A []) (gm B [])) Af s.heap H locs := hW
      refine lv_icmp_eq (tgt := 42) C0.1 C0.2.1 dX8_line_37 (by decide) (fun hc6 => ?_) (fun hc6 => ?_)
      · have hf := ite_t hc6 hf
        refine lv_aload_n C0.1 C0.2.1 dX8_line_42 rfl (lv_at hl 1 rfl) ?_
        refine s_get (v := .ref (ad 4)) C0 hK hW 0 1 LY_X8_0 rfl fg_X8_19 rfl dX8_line_43 ?_
        refine lv_aload_n C0.1 C0.2.1 dX8_line_46 rfl (lv_at hl 1 rfl) ?_
        refine s_get (v := .ref (ad 112)) C0 hK hW 0 7 LY_X8_0 rfl fg_X8_53 rfl dX8_line_47 ?_
        refine lv_iload_n C0.1 C0.2.1 dX8_line_50 rfl (lv_at hl 0 rfl) ?_
        refine lv_bipush (v := 20) C0.1 C0.2.1 dX8_line_51 kB_20 ?_
        obtain ⟨y7, hy7, hf⟩ := b_some hf
        refine c_Vi C0 hK hN hl.1 hW hA (KX4_daysUntilBelow l D cy  (fun q => ad (pl_LY_X8_LY_X4X6_4_5_5025986.getD q 0)) (fun q => P (pl_LY_X8_LY_X4X6_4_5_5025986.getD q 0)) (fun q => Vx LY_X8 ad V (pl_LY_X8_LY_X4X6_4_5_5025986.getD q 0)) (fun q => gp I [] (pl_LY_X8_LY_X4X6_4_5_5025986.getD q 0)) (fun q => gp J [] (pl_LY_X8_LY_X4X6_4_5_5025986.getD q 0)) (fun q => gm A [] (pl_LY_X8_LY_X4X6_4_5_5025986.getD q 0)) (fun q => gm B [] (pl_LY_X8_LY_X4X6_4_5_5025986.getD q 0)) y3 20 hy7) (JN_subC (pl := pl_LY_X8_LY_X4X6_4_5_5025986) sb_LY_X8_LY_X4X6_4_5_5025986 rfl rfl rfl rfl rfl rfl rfl rfl rfl) (Uw_V uw_775 uw_776 uw_777 uw_7 uw_778) rfl rfl hd_X4_daysUntilBelow ⟨rfl, rfl⟩ rfl (dn_some LY_X8_4) rfl rfl rfl dX8_line_53 ⟨Nat.zero_le _, Nat.zero_le _⟩ (fun H locs hW => ?_)
        have hW : wd D (dn cy LY_X8 ad P V (gp I []) (gp J []) (gm A []) (gm B [])) Af s.heap H locs := hW
        obtain rfl := Option.some.inj hf
        exact r_int C0 hK hW dX8_line_56
      · have hf := ite_f hc6 hf
        refine lv_iconst (v := (-1)) C0.1 C0.2.1 dX8_line_40 kI_m1 ?_
        obtain rfl := Option.some.inj hf
        exact r_int C0 hK hW dX8_line_41
  · have hf := ite_t hc2 hf
    refine lv_iconst (v := (-1)) C0.1 C0.2.1 dX8_line_12 kI_m1 ?_
    obtain rfl := Option.some.inj hf
    exact r_int C0 hK hW dX8_line_13
-- X8_hear
def rmX8_hear : Room := { frames := 2, cells := 0, slots := 0, locals := 43 }
def fX8_hear (c_heard_size : Int32) (c_heard_days : (Nat → Int32)) (c_heard_isSome : (Nat → Int32)) (v1 : Int32) (v2 : Int32) : Option (Int32 × Int32 × (Nat → Int32) × (Nat → Int32)) := Option.bind (fX8_isWithin v1 1 30) fun y1 => (if y1 = 0 then (some (0, c_heard_size, c_heard_days, c_heard_isSome)) else (Option.bind (fX0_add c_heard_size c_heard_days c_heard_isSome v1 v2) fun y3 => (if y3.1 = 0 then (some (0, y3.2.1, y3.2.2.1, y3.2.2.2)) else (some (1, y3.2.1, y3.2.2.1, y3.2.2.2)))))
set_option maxHeartbeats 4000000 in
set_option maxRecDepth 100000 in
theorem KX8_hear (l : Launch) (D : va_G) (cy : Nat → ClassId) (ad : Nat → Nat) (P : MP) (V : MV) (I : MI) (J : MJ) (A : MI) (B : MJ) (v1 : Int32) (v2 : Int32) {res : Int32 × Int32 × (Nat → Int32) × (Nat → Int32)} (hf : fX8_hear (I 10 2) (A 11) (A 12) v1 v2 = some res) : CG l yX8_hear cX8_hear 3 (some .boolean) rmX8_hear D cy (dn cy LY_X8 ad P V I J A B) [.ref (ad 0), .int v1, .int v2] (some (.int res.1)) (dn cy LY_X8 ad P V (gp I [(10, 2, res.2.1)]) (gp J []) (gm A [(11, res.2.2.1), (12, res.2.2.2)]) (gm B [])) := by
  refine CG.of (own := RX8) (by decide) rfl rfl ?_
  intro p e s m below meth c ls Af C0 hK hN hA hW hl
  have hW : wd D (dn cy LY_X8 ad P V (gp I [(10, 2, (I 10 2))]) (gp J []) (gm A [(11, (A 11)), (12, (A 12))]) (gm B [])) Af s.heap s.heap [] := wd_sel [(10, 2)] [] [11, 12] [] hW
  have hl : lv_has ls 3 [(0, .ref (ad 0)), (1, .int v1), (2, .int v2)] := hl
  unfold fX8_hear at hf
  refine lv_iload_n C0.1 C0.2.1 dX8_hear_0 rfl (lv_at hl 1 rfl) ?_
  refine lv_iconst (v := 1) C0.1 C0.2.1 dX8_hear_1 kI_1 ?_
  refine lv_bipush (v := 30) C0.1 C0.2.1 dX8_hear_2 kB_30 ?_
  obtain ⟨y1, hy1, hf⟩ := b_some hf
  refine c_Si C0 hK hN hl.1 hW hA (KX8_isWithin l D cy  (fun q => ad (pl_LY_X8_LY_0_.getD q 0)) (fun q => P (pl_LY_X8_LY_0_.getD q 0)) (fun q => Vx LY_X8 ad V (pl_LY_X8_LY_0_.getD q 0)) (fun q => gp I [(10, 2, (I 10 2))] (pl_LY_X8_LY_0_.getD q 0)) (fun q => gp J [] (pl_LY_X8_LY_0_.getD q 0)) (fun q => gm A [(11, (A 11)), (12, (A 12))] (pl_LY_X8_LY_0_.getD q 0)) (fun q => gm B [] (pl_LY_X8_LY_0_.getD q 0)) v1 1 30 hy1) (JN_subC (pl := pl_LY_X8_LY_0_) sb_LY_X8_LY_0_ rfl rfl rfl rfl rfl rfl rfl rfl rfl) ⟨uw_500, uw_501, uw_1, uw_502⟩ rfl rfl hd_X8_isWithin ⟨rfl, rfl⟩ rfl rfl rfl dX8_hear_4 ⟨Nat.zero_le _, Nat.zero_le _⟩ (fun H locs hW => ?_)
  have hW : wd D (dn cy LY_X8 ad P V (gp I [(10, 2, (I 10 2))]) (gp J []) (gm A [(11, (A 11)), (12, (A 12))]) (gm B [])) Af s.heap H locs := hW
  refine lv_if_eq (tgt := 26) C0.1 C0.2.1 dX8_hear_7 (by decide) (fun hc2 => ?_) (fun hc2 => ?_)
  · have hf := ite_t hc2 hf
    refine lv_iconst (v := 0) C0.1 C0.2.1 dX8_hear_26 kI_0 ?_
    obtain rfl := Option.some.inj hf
    exact r_bool C0 hK hW (v' := 0) rfl dX8_hear_27
  · have hf := ite_f hc2 hf
    refine lv_aload_n C0.1 C0.2.1 dX8_hear_10 rfl (lv_at hl 0 rfl) ?_
    refine s_get (v := .ref (ad 10)) C0 hK hW 0 3 LY_X8_0 rfl fg_X8_29 rfl dX8_hear_11 ?_
    refine lv_iload_n C0.1 C0.2.1 dX8_hear_14 rfl (lv_at hl 1 rfl) ?_
    refine lv_iload_n C0.1 C0.2.1 dX8_hear_15 rfl (lv_at hl 2 rfl) ?_
    obtain ⟨y3, hy3, hf⟩ := b_some hf
    refine c_Vi C0 hK hN hl.1 hW hA (KX0_add l D cy  (fun q => ad (pl_LY_X8_LY_X0_10_11_12.getD q 0)) (fun q => P (pl_LY_X8_LY_X0_10_11_12.getD q 0)) (fun q => Vx LY_X8 ad V (pl_LY_X8_LY_X0_10_11_12.getD q 0)) (fun q => gp I [(10, 2, (I 10 2))] (pl_LY_X8_LY_X0_10_11_12.getD q 0)) (fun q => gp J [] (pl_LY_X8_LY_X0_10_11_12.getD q 0)) (fun q => gm A [(11, (A 11)), (12, (A 12))] (pl_LY_X8_LY_X0_10_11_12.getD q 0)) (fun q => gm B [] (pl_LY_X8_LY_X0_10_11_12.getD q 0)) v1 v2 hy3) (JN_subC (pl := pl_LY_X8_LY_X0_10_11_12) sb_LY_X8_LY_X0_10_11_12 rfl rfl rfl rfl rfl rfl rfl rfl rfl) (Uw_V uw_891 uw_892 uw_893 uw_8 uw_894) rfl rfl hd_X0_add ⟨rfl, rfl⟩ rfl (dn_some LY_X8_10) rfl rfl rfl dX8_hear_16 ⟨Nat.zero_le _, Nat.zero_le _⟩ (fun H locs hW => ?_)
    have hW : wd D (dn cy LY_X8 ad P V (gp I [(10, 2, y3.2.1)]) (gp J []) (gm A [(11, y3.2.2.1), (12, y3.2.2.2)]) (gm B [])) Af s.heap H locs := hW
    refine lv_if_eq (tgt := 26) C0.1 C0.2.1 dX8_hear_19 (by decide) (fun hc4 => ?_) (fun hc4 => ?_)
    · have hf := ite_t hc4 hf
      refine lv_iconst (v := 0) C0.1 C0.2.1 dX8_hear_26 kI_0 ?_
      obtain rfl := Option.some.inj hf
      exact r_bool C0 hK hW (v' := 0) rfl dX8_hear_27
    · have hf := ite_f hc4 hf
      refine lv_iconst (v := 1) C0.1 C0.2.1 dX8_hear_22 kI_1 ?_
      refine lv_goto (tgt := 27) C0.1 C0.2.1 dX8_hear_23 (by decide) ?_
      obtain rfl := Option.some.inj hf
      exact r_bool C0 hK hW (v' := 1) rfl dX8_hear_27
-- X8_coals
def rmX8_coals : Room := { frames := 4, cells := 0, slots := 0, locals := 90 }
def fX8_coals (c_now_date : Int32) (c_heard_size : Int32) (c_told_colds : Int32) (c_heard_days : (Nat → Int32)) (c_heard_isSome : (Nat → Int32)) (c_told_cold : (Nat → Int32)) (c_heard_least : Int32) (c_heard_greatest : Int32) (v1 : Int32) : Option (Int32 × Int32 × Int32) := Option.bind (fX0_narrow c_heard_size c_told_colds c_heard_days c_heard_isSome c_told_cold c_heard_least c_heard_greatest c_now_date) fun y1 => (Option.bind (fX0_many y1.1 y1.2) fun y2 => (if Int32.toInt v1 = 0 then (some (y2, y1.1, y1.2)) else (if Int32.toInt v1 = 1 then (if y2 = 0 then (some ((-1), y1.1, y1.2)) else (some (y1.1, y1.1, y1.2))) else (if Int32.toInt v1 = 2 then (if y2 = 0 then (some ((-1), y1.1, y1.2)) else (some (y1.2, y1.1, y1.2))) else (some ((-1), y1.1, y1.2))))))
set_option maxHeartbeats 4000000 in
set_option maxRecDepth 100000 in
theorem KX8_coals (l : Launch) (D : va_G) (cy : Nat → ClassId) (ad : Nat → Nat) (P : MP) (V : MV) (I : MI) (J : MJ) (A : MI) (B : MJ) (v1 : Int32) {res : Int32 × Int32 × Int32} (hf : fX8_coals (I 4 3) (I 10 2) (I 112 4) (A 11) (A 12) (A 116) (I 10 3) (I 10 4) v1 = some res) : CG l yX8_coals cX8_coals 3 (some .int) rmX8_coals D cy (dn cy LY_X8 ad P V I J A B) [.ref (ad 0), .int v1] (some (.int res.1)) (dn cy LY_X8 ad P V (gp I [(10, 3, res.2.1), (10, 4, res.2.2)]) (gp J []) (gm A []) (gm B [])) := by
  refine CG.of (own := RX8) (by decide) rfl rfl ?_
  intro p e s m below meth c ls Af C0 hK hN hA hW hl
  have hW : wd D (dn cy LY_X8 ad P V (gp I [(10, 3, (I 10 3)), (10, 4, (I 10 4))]) (gp J []) (gm A []) (gm B [])) Af s.heap s.heap [] := wd_sel [(10, 3), (10, 4)] [] [] [] hW
  have hl : lv_has ls 3 [(0, .ref (ad 0)), (1, .int v1)] := hl
  unfold fX8_coals at hf
  refine lv_aload_n C0.1 C0.2.1 dX8_coals_0 rfl (lv_at hl 0 rfl) ?_
  refine s_get (v := .ref (ad 10)) C0 hK hW 0 3 LY_X8_0 rfl fg_X8_29 rfl dX8_coals_1 ?_
  refine lv_aload_n C0.1 C0.2.1 dX8_coals_4 rfl (lv_at hl 0 rfl) ?_
  refine s_get (v := .ref (ad 112)) C0 hK hW 0 7 LY_X8_0 rfl fg_X8_53 rfl dX8_coals_5 ?_
  refine lv_aload_n C0.1 C0.2.1 dX8_coals_8 rfl (lv_at hl 0 rfl) ?_
  refine s_get (v := .ref (ad 4)) C0 hK hW 0 1 LY_X8_0 rfl fg_X8_19 rfl dX8_coals_9 ?_
  refine s_get (v := .int (I 4 3)) C0 hK hW 4 3 LY_X8_4 rfl fg_X8_239 rfl dX8_coals_12 ?_
  obtain ⟨y1, hy1, hf⟩ := b_some hf
  refine c_Vv C0 hK hN hl.1 hW hA (KX0_narrow l D cy  (fun q => ad (pl_LY_X8_LY_X0X6_10_11_23595617.getD q 0)) (fun q => P (pl_LY_X8_LY_X0X6_10_11_23595617.getD q 0)) (fun q => Vx LY_X8 ad V (pl_LY_X8_LY_X0X6_10_11_23595617.getD q 0)) (fun q => gp I [(10, 3, (I 10 3)), (10, 4, (I 10 4))] (pl_LY_X8_LY_X0X6_10_11_23595617.getD q 0)) (fun q => gp J [] (pl_LY_X8_LY_X0X6_10_11_23595617.getD q 0)) (fun q => gm A [] (pl_LY_X8_LY_X0X6_10_11_23595617.getD q 0)) (fun q => gm B [] (pl_LY_X8_LY_X0X6_10_11_23595617.getD q 0)) (I 4 3) hy1) (JN_subC (pl := pl_LY_X8_LY_X0X6_10_11_23595617) sb_LY_X8_LY_X0X6_10_11_23595617 rfl rfl rfl rfl rfl rfl rfl rfl rfl) (Uw_V uw_899 uw_900 uw_901 uw_8 uw_902) rfl rfl hd_X0_narrow ⟨rfl, rfl⟩ rfl (dn_some LY_X8_10) rfl rfl rfl dX8_coals_15 ⟨Nat.zero_le _, Nat.zero_le _⟩ (fun H locs hW => ?_)
  have hW : wd D (dn cy LY_X8 ad P V (gp I [(10, 3, y1.1), (10, 4, y1.2)]) (gp J []) (gm A []) (gm B [])) Af s.heap H locs := hW
  refine lv_aload_n C0.1 C0.2.1 dX8_coals_18 rfl (lv_at hl 0 rfl) ?_
  refine s_get (v := .ref (ad 10)) C0 hK hW 0 3 LY_X8_0 rfl fg_X8_29 rfl dX8_coals_19 ?_
  obtain ⟨y2, hy2, hf⟩ := b_some hf
  refine c_Vi C0 hK hN hl.1 hW hA (KX0_many l D cy  (fun q => ad (pl_LY_X8_LY_X0_10_11_12.getD q 0)) (fun q => P (pl_LY_X8_LY_X0_10_11_12.getD q 0)) (fun q => Vx LY_X8 ad V (pl_LY_X8_LY_X0_10_11_12.getD q 0)) (fun q => gp I [(10, 3, y1.1), (10, 4, y1.2)] (pl_LY_X8_LY_X0_10_11_12.getD q 0)) (fun q => gp J [] (pl_LY_X8_LY_X0_10_11_12.getD q 0)) (fun q => gm A [] (pl_LY_X8_LY_X0_10_11_12.getD q 0)) (fun q => gm B [] (pl_LY_X8_LY_X0_10_11_12.getD q 0))  hy2) (JN_subC (pl := pl_LY_X8_LY_X0_10_11_12) sb_LY_X8_LY_X0_10_11_12 rfl rfl rfl rfl rfl rfl rfl rfl rfl) (Uw_V uw_906 uw_907 uw_908 uw_8 uw_909) rfl rfl hd_X0_many ⟨rfl, rfl⟩ rfl (dn_some LY_X8_10) rfl rfl rfl dX8_coals_22 ⟨Nat.zero_le _, Nat.zero_le _⟩ (fun H locs hW => ?_)
  have hW : wd D (dn cy LY_X8 ad P V (gp I [(10, 3, y1.1), (10, 4, y1.2)]) (gp J []) (gm A []) (gm B [])) Af s.heap H locs := hW
  refine lv_istore_n (lv' := [(2, .int y2), (0, .ref (ad 0)), (1, .int v1)]) C0.1 C0.2.1 dX8_coals_25 rfl hl (by decide) rfl (fun ls hl => ?_)
  refine lv_iload_n C0.1 C0.2.1 dX8_coals_26 rfl (lv_at hl 2 rfl) ?_
  by_cases hc3 : Int32.toInt v1 = 0
  · have hf := ite_t hc3 hf
    refine lv_tableIn (tgt := 52) (off := 25) C0.1 C0.2.1 dX8_coals_27 (by omega) (by omega) (by rw [hc3]; rfl) (by decide) ?_
    refine lv_iload_n C0.1 C0.2.1 dX8_coals_52 rfl (lv_at hl 0 rfl) ?_
    obtain rfl := Option.some.inj hf
    exact r_int C0 hK hW dX8_coals_53
  · have hf := ite_f hc3 hf
    by_cases hc4 : Int32.toInt v1 = 1
    · have hf := ite_t hc4 hf
      refine lv_tableIn (tgt := 54) (off := 27) C0.1 C0.2.1 dX8_coals_27 (by omega) (by omega) (by rw [hc4]; rfl) (by decide) ?_
      refine lv_iload_n C0.1 C0.2.1 dX8_coals_54 rfl (lv_at hl 0 rfl) ?_
      refine lv_if_ne (tgt := 62) C0.1 C0.2.1 dX8_coals_55 (by decide) (fun hc5 => ?_) (fun hc5 => ?_)
      · have hf := ite_f hc5 hf
        refine lv_aload_n C0.1 C0.2.1 dX8_coals_62 rfl (lv_at hl 1 rfl) ?_
        refine s_get (v := .ref (ad 10)) C0 hK hW 0 3 LY_X8_0 rfl fg_X8_29 rfl dX8_coals_63 ?_
        refine s_get (v := .int y1.1) C0 hK hW 10 3 LY_X8_10 rfl fg_X8_249 rfl dX8_coals_66 ?_
        obtain rfl := Option.some.inj hf
        exact r_int C0 hK hW dX8_coals_69
      · have hf := ite_t hc5 hf
        refine lv_iconst (v := (-1)) C0.1 C0.2.1 dX8_coals_58 kI_m1 ?_
        refine lv_goto (tgt := 69) C0.1 C0.2.1 dX8_coals_59 (by decide) ?_
        obtain rfl := Option.some.inj hf
        exact r_int C0 hK hW dX8_coals_69
    · have hf := ite_f hc4 hf
      by_cases hc6 : Int32.toInt v1 = 2
      · have hf := ite_t hc6 hf
        refine lv_tableIn (tgt := 70) (off := 43) C0.1 C0.2.1 dX8_coals_27 (by omega) (by omega) (by rw [hc6]; rfl) (by decide) ?_
        refine lv_iload_n C0.1 C0.2.1 dX8_coals_70 rfl (lv_at hl 0 rfl) ?_
        refine lv_if_ne (tgt := 78) C0.1 C0.2.1 dX8_coals_71 (by decide) (fun hc7 => ?_) (fun hc7 => ?_)
        · have hf := ite_f hc7 hf
          refine lv_aload_n C0.1 C0.2.1 dX8_coals_78 rfl (lv_at hl 1 rfl) ?_
          refine s_get (v := .ref (ad 10)) C0 hK hW 0 3 LY_X8_0 rfl fg_X8_29 rfl dX8_coals_79 ?_
          refine s_get (v := .int y1.2) C0 hK hW 10 4 LY_X8_10 rfl fg_X8_252 rfl dX8_coals_82 ?_
          obtain rfl := Option.some.inj hf
          exact r_int C0 hK hW dX8_coals_85
        · have hf := ite_t hc7 hf
          refine lv_iconst (v := (-1)) C0.1 C0.2.1 dX8_coals_74 kI_m1 ?_
          refine lv_goto (tgt := 85) C0.1 C0.2.1 dX8_coals_75 (by decide) ?_
          obtain rfl := Option.some.inj hf
          exact r_int C0 hK hW dX8_coals_85
      · have hf := ite_f hc6 hf
        refine lv_tableOut (tgt := 86) C0.1 C0.2.1 dX8_coals_27 (by omega) (by decide) ?_
        refine lv_iconst (v := (-1)) C0.1 C0.2.1 dX8_coals_86 kI_m1 ?_
        obtain rfl := Option.some.inj hf
        exact r_int C0 hK hW dX8_coals_87
-- X8_ask
def rmX8_ask : Room := { frames := 4, cells := 0, slots := 0, locals := 90 }
def fX8_ask (c_now_date : Int32) (c_heard_size : Int32) (c_told_colds : Int32) (c_heard_days : (Nat → Int32)) (c_heard_isSome : (Nat → Int32)) (c_told_cold : (Nat → Int32)) (c_heard_least : Int32) (c_heard_greatest : Int32) : Option (Int32 × Int32 × Int32) := Option.bind (fX0_narrow c_heard_size c_told_colds c_heard_days c_heard_isSome c_told_cold c_heard_least c_heard_greatest c_now_date) fun y1 => (Option.bind (fX0_bestQuestion y1.1 y1.2 c_told_colds c_told_cold c_now_date) fun y2 => (some (y2, y1.1, y1.2)))
set_option maxHeartbeats 4000000 in
set_option maxRecDepth 100000 in
theorem KX8_ask (l : Launch) (D : va_G) (cy : Nat → ClassId) (ad : Nat → Nat) (P : MP) (V : MV) (I : MI) (J : MJ) (A : MI) (B : MJ) {res : Int32 × Int32 × Int32} (hf : fX8_ask (I 4 3) (I 10 2) (I 112 4) (A 11) (A 12) (A 116) (I 10 3) (I 10 4) = some res) : CG l yX8_ask cX8_ask 1 (some .int) rmX8_ask D cy (dn cy LY_X8 ad P V I J A B) [.ref (ad 0)] (some (.int res.1)) (dn cy LY_X8 ad P V (gp I [(10, 3, res.2.1), (10, 4, res.2.2)]) (gp J []) (gm A []) (gm B [])) := by
  refine CG.of (own := RX8) (by decide) rfl rfl ?_
  intro p e s m below meth c ls Af C0 hK hN hA hW hl
  have hW : wd D (dn cy LY_X8 ad P V (gp I [(10, 3, (I 10 3)), (10, 4, (I 10 4))]) (gp J []) (gm A []) (gm B [])) Af s.heap s.heap [] := wd_sel [(10, 3), (10, 4)] [] [] [] hW
  have hl : lv_has ls 1 [(0, .ref (ad 0))] := hl
  unfold fX8_ask at hf
  refine lv_aload_n C0.1 C0.2.1 dX8_ask_0 rfl (lv_at hl 0 rfl) ?_
  refine s_get (v := .ref (ad 10)) C0 hK hW 0 3 LY_X8_0 rfl fg_X8_29 rfl dX8_ask_1 ?_
  refine lv_aload_n C0.1 C0.2.1 dX8_ask_4 rfl (lv_at hl 0 rfl) ?_
  refine s_get (v := .ref (ad 112)) C0 hK hW 0 7 LY_X8_0 rfl fg_X8_53 rfl dX8_ask_5 ?_
  refine lv_aload_n C0.1 C0.2.1 dX8_ask_8 rfl (lv_at hl 0 rfl) ?_
  refine s_get (v := .ref (ad 4)) C0 hK hW 0 1 LY_X8_0 rfl fg_X8_19 rfl dX8_ask_9 ?_
  refine s_get (v := .int (I 4 3)) C0 hK hW 4 3 LY_X8_4 rfl fg_X8_239 rfl dX8_ask_12 ?_
  obtain ⟨y1, hy1, hf⟩ := b_some hf
  refine c_Vv C0 hK hN hl.1 hW hA (KX0_narrow l D cy  (fun q => ad (pl_LY_X8_LY_X0X6_10_11_23595617.getD q 0)) (fun q => P (pl_LY_X8_LY_X0X6_10_11_23595617.getD q 0)) (fun q => Vx LY_X8 ad V (pl_LY_X8_LY_X0X6_10_11_23595617.getD q 0)) (fun q => gp I [(10, 3, (I 10 3)), (10, 4, (I 10 4))] (pl_LY_X8_LY_X0X6_10_11_23595617.getD q 0)) (fun q => gp J [] (pl_LY_X8_LY_X0X6_10_11_23595617.getD q 0)) (fun q => gm A [] (pl_LY_X8_LY_X0X6_10_11_23595617.getD q 0)) (fun q => gm B [] (pl_LY_X8_LY_X0X6_10_11_23595617.getD q 0)) (I 4 3) hy1) (JN_subC (pl := pl_LY_X8_LY_X0X6_10_11_23595617) sb_LY_X8_LY_X0X6_10_11_23595617 rfl rfl rfl rfl rfl rfl rfl rfl rfl) (Uw_V uw_899 uw_900 uw_901 uw_8 uw_902) rfl rfl hd_X0_narrow ⟨rfl, rfl⟩ rfl (dn_some LY_X8_10) rfl rfl rfl dX8_ask_15 ⟨Nat.zero_le _, Nat.zero_le _⟩ (fun H locs hW => ?_)
  have hW : wd D (dn cy LY_X8 ad P V (gp I [(10, 3, y1.1), (10, 4, y1.2)]) (gp J []) (gm A []) (gm B [])) Af s.heap H locs := hW
  refine lv_aload_n C0.1 C0.2.1 dX8_ask_18 rfl (lv_at hl 0 rfl) ?_
  refine s_get (v := .ref (ad 10)) C0 hK hW 0 3 LY_X8_0 rfl fg_X8_29 rfl dX8_ask_19 ?_
  refine lv_aload_n C0.1 C0.2.1 dX8_ask_22 rfl (lv_at hl 0 rfl) ?_
  refine s_get (v := .ref (ad 112)) C0 hK hW 0 7 LY_X8_0 rfl fg_X8_53 rfl dX8_ask_23 ?_
  refine lv_aload_n C0.1 C0.2.1 dX8_ask_26 rfl (lv_at hl 0 rfl) ?_
  refine s_get (v := .ref (ad 4)) C0 hK hW 0 1 LY_X8_0 rfl fg_X8_19 rfl dX8_ask_27 ?_
  refine s_get (v := .int (I 4 3)) C0 hK hW 4 3 LY_X8_4 rfl fg_X8_239 rfl dX8_ask_30 ?_
  obtain ⟨y2, hy2, hf⟩ := b_some hf
  refine c_Vi C0 hK hN hl.1 hW hA (KX0_bestQuestion l D cy  (fun q => ad (pl_LY_X8_LY_X0X6_10_11_23595617.getD q 0)) (fun q => P (pl_LY_X8_LY_X0X6_10_11_23595617.getD q 0)) (fun q => Vx LY_X8 ad V (pl_LY_X8_LY_X0X6_10_11_23595617.getD q 0)) (fun q => gp I [(10, 3, y1.1), (10, 4, y1.2)] (pl_LY_X8_LY_X0X6_10_11_23595617.getD q 0)) (fun q => gp J [] (pl_LY_X8_LY_X0X6_10_11_23595617.getD q 0)) (fun q => gm A [] (pl_LY_X8_LY_X0X6_10_11_23595617.getD q 0)) (fun q => gm B [] (pl_LY_X8_LY_X0X6_10_11_23595617.getD q 0)) (I 4 3) hy2) (JN_subC (pl := pl_LY_X8_LY_X0X6_10_11_23595617) sb_LY_X8_LY_X0X6_10_11_23595617 rfl rfl rfl rfl rfl rfl rfl rfl rfl) (Uw_V uw_914 uw_915 uw_916 uw_8 uw_917) rfl rfl hd_X0_bestQuestion ⟨rfl, rfl⟩ rfl (dn_some LY_X8_10) rfl rfl rfl dX8_ask_33 ⟨Nat.zero_le _, Nat.zero_le _⟩ (fun H locs hW => ?_)
  have hW : wd D (dn cy LY_X8 ad P V (gp I [(10, 3, y1.1), (10, 4, y1.2)]) (gp J []) (gm A []) (gm B [])) Af s.heap H locs := hW
  obtain rfl := Option.some.inj hf
  exact r_int C0 hK hW dX8_ask_36
-- X8_colder
def rmX8_colder : Room := { frames := 3, cells := 0, slots := 0, locals := 68 }
def fX8_colder (c_now_seized : Int32) (c_now_date : Int32) (c_told_colds : Int32) (c_told_holes : Int32) (c_told_guests : Int32) (c_told_wantedBits : Int32) (c_now_coal : (Nat → Int32)) (c_now_inside : (Nat → Int32)) (c_told_cold : (Nat → Int32)) (c_told_burns : (Nat → Int32)) (v1 : Int32) (v2 : Int32) : Option (Int32) := Option.bind (fX8_isWithin v1 1 30) fun y1 => (if y1 = 0 then (some ((-1))) else (Option.bind (fX8_isWithin v2 0 3) fun y3 => (if y3 = 0 then (some ((-1))) else (Option.bind (fX6_coldOver c_told_colds c_told_cold c_now_date v1) fun y5 => (Option.bind (fX4_lastingBits c_told_holes c_now_coal c_told_burns (y5 + (v1 * v2))) fun y6 => (Option.bind (fX4_seizedIfLasting c_now_seized c_told_holes c_told_guests c_told_wantedBits c_now_inside y6) fun y7 => (some (y7))))))))
set_option maxHeartbeats 4000000 in
set_option maxRecDepth 100000 in
theorem KX8_colder (l : Launch) (D : va_G) (cy : Nat → ClassId) (ad : Nat → Nat) (P : MP) (V : MV) (I : MI) (J : MJ) (A : MI) (B : MJ) (v1 : Int32) (v2 : Int32) {res : Int32} (hf : fX8_colder (I 4 2) (I 4 3) (I 112 4) (I 112 13) (I 112 14) (I 112 17) (A 5) (A 6) (A 116) (A 119) v1 v2 = some res) : CG l yX8_colder cX8_colder 4 (some .int) rmX8_colder D cy (dn cy LY_X8 ad P V I J A B) [.ref (ad 0), .int v1, .int v2] (some (.int res)) (dn cy LY_X8 ad P V (gp I []) (gp J []) (gm A []) (gm B [])) := by
  refine CG.of (own := RX8) (by decide) rfl rfl ?_
  intro p e s m below meth c ls Af C0 hK hN hA hW hl
  have hW : wd D (dn cy LY_X8 ad P V (gp I []) (gp J []) (gm A []) (gm B [])) Af s.heap s.heap [] := wd_sel [] [] [] [] hW
  have hl : lv_has ls 4 [(0, .ref (ad 0)), (1, .int v1), (2, .int v2)] := hl
  unfold fX8_colder at hf
  refine lv_iload_n C0.1 C0.2.1 dX8_colder_0 rfl (lv_at hl 1 rfl) ?_
  refine lv_iconst (v := 1) C0.1 C0.2.1 dX8_colder_1 kI_1 ?_
  refine lv_bipush (v := 30) C0.1 C0.2.1 dX8_colder_2 kB_30 ?_
  obtain ⟨y1, hy1, hf⟩ := b_some hf
  refine c_Si C0 hK hN hl.1 hW hA (KX8_isWithin l D cy  (fun q => ad (pl_LY_X8_LY_0_.getD q 0)) (fun q => P (pl_LY_X8_LY_0_.getD q 0)) (fun q => Vx LY_X8 ad V (pl_LY_X8_LY_0_.getD q 0)) (fun q => gp I [] (pl_LY_X8_LY_0_.getD q 0)) (fun q => gp J [] (pl_LY_X8_LY_0_.getD q 0)) (fun q => gm A [] (pl_LY_X8_LY_0_.getD q 0)) (fun q => gm B [] (pl_LY_X8_LY_0_.getD q 0)) v1 1 30 hy1) (JN_subC (pl := pl_LY_X8_LY_0_) sb_LY_X8_LY_0_ rfl rfl rfl rfl rfl rfl rfl rfl rfl) ⟨uw_500, uw_501, uw_1, uw_502⟩ rfl rfl hd_X8_isWithin ⟨rfl, rfl⟩ rfl rfl rfl dX8_colder_4 ⟨Nat.zero_le _, Nat.zero_le _⟩ (fun H locs hW => ?_)
  have hW : wd D (dn cy LY_X8 ad P V (gp I []) (gp J []) (gm A []) (gm B [])) Af s.heap H locs := hW
  refine lv_if_eq (tgt := 19) C0.1 C0.2.1 dX8_colder_7 (by decide) (fun hc2 => ?_) (fun hc2 => ?_)
  · have hf := ite_t hc2 hf
    refine lv_iconst (v := (-1)) C0.1 C0.2.1 dX8_colder_19 kI_m1 ?_
    obtain rfl := Option.some.inj hf
    exact r_int C0 hK hW dX8_colder_20
  · have hf := ite_f hc2 hf
    refine lv_iload_n C0.1 C0.2.1 dX8_colder_10 rfl (lv_at hl 2 rfl) ?_
    refine lv_iconst (v := 0) C0.1 C0.2.1 dX8_colder_11 kI_0 ?_
    refine lv_iconst (v := 3) C0.1 C0.2.1 dX8_colder_12 kI_3 ?_
    obtain ⟨y3, hy3, hf⟩ := b_some hf
    refine c_Si C0 hK hN hl.1 hW hA (KX8_isWithin l D cy  (fun q => ad (pl_LY_X8_LY_0_.getD q 0)) (fun q => P (pl_LY_X8_LY_0_.getD q 0)) (fun q => Vx LY_X8 ad V (pl_LY_X8_LY_0_.getD q 0)) (fun q => gp I [] (pl_LY_X8_LY_0_.getD q 0)) (fun q => gp J [] (pl_LY_X8_LY_0_.getD q 0)) (fun q => gm A [] (pl_LY_X8_LY_0_.getD q 0)) (fun q => gm B [] (pl_LY_X8_LY_0_.getD q 0)) v2 0 3 hy3) (JN_subC (pl := pl_LY_X8_LY_0_) sb_LY_X8_LY_0_ rfl rfl rfl rfl rfl rfl rfl rfl rfl) ⟨uw_500, uw_501, uw_1, uw_502⟩ rfl rfl hd_X8_isWithin ⟨rfl, rfl⟩ rfl rfl rfl dX8_colder_13 ⟨Nat.zero_le _, Nat.zero_le _⟩ (fun H locs hW => ?_)
    have hW : wd D (dn cy LY_X8 ad P V (gp I []) (gp J []) (gm A []) (gm B [])) Af s.heap H locs := hW
    refine lv_if_ne (tgt := 21) C0.1 C0.2.1 dX8_colder_16 (by decide) (fun hc4 => ?_) (fun hc4 => ?_)
    · have hf := ite_f hc4 hf
      refine lv_aload_n C0.1 C0.2.1 dX8_colder_21 rfl (lv_at hl 0 rfl) ?_
      refine s_get (v := .ref (ad 4)) C0 hK hW 0 1 LY_X8_0 rfl fg_X8_19 rfl dX8_colder_22 ?_
      refine lv_aload_n C0.1 C0.2.1 dX8_colder_25 rfl (lv_at hl 0 rfl) ?_
      refine s_get (v := .ref (ad 112)) C0 hK hW 0 7 LY_X8_0 rfl fg_X8_53 rfl dX8_colder_26 ?_
      refine lv_aload_n C0.1 C0.2.1 dX8_colder_29 rfl (lv_at hl 0 rfl) ?_
      refine s_get (v := .ref (ad 112)) C0 hK hW 0 7 LY_X8_0 rfl fg_X8_53 rfl dX8_colder_30 ?_
      refine lv_aload_n C0.1 C0.2.1 dX8_colder_33 rfl (lv_at hl 0 rfl) ?_
      refine s_get (v := .ref (ad 4)) C0 hK hW 0 1 LY_X8_0 rfl fg_X8_19 rfl dX8_colder_34 ?_
      refine s_get (v := .int (I 4 3)) C0 hK hW 4 3 LY_X8_4 rfl fg_X8_239 rfl dX8_colder_37 ?_
      refine lv_iload_n C0.1 C0.2.1 dX8_colder_40 rfl (lv_at hl 1 rfl) ?_
      obtain ⟨y5, hy5, hf⟩ := b_some hf
      refine c_Vi C0 hK hN hl.1 hW hA (KX6_coldOver l D cy  (fun q => ad (pl_LY_X8_LY_X6_112_113_59166342.getD q 0)) (fun q => P (pl_LY_X8_LY_X6_112_113_59166342.getD q 0)) (fun q => Vx LY_X8 ad V (pl_LY_X8_LY_X6_112_113_59166342.getD q 0)) (fun q => gp I [] (pl_LY_X8_LY_X6_112_113_59166342.getD q 0)) (fun q => gp J [] (pl_LY_X8_LY_X6_112_113_59166342.getD q 0)) (fun q => gm A [] (pl_LY_X8_LY_X6_112_113_59166342.getD q 0)) (fun q => gm B [] (pl_LY_X8_LY_X6_112_113_59166342.getD q 0)) (I 4 3) v1 hy5) (JN_subC (pl := pl_LY_X8_LY_X6_112_113_59166342) sb_LY_X8_LY_X6_112_113_59166342 rfl rfl rfl rfl rfl rfl rfl rfl rfl) (Uw_V uw_924 uw_803 uw_804 uw_10 uw_805) rfl rfl hd_X6_coldOver ⟨rfl, rfl⟩ rfl (dn_some LY_X8_112) rfl rfl rfl dX8_colder_41 ⟨Nat.zero_le _, Nat.zero_le _⟩ (fun H locs hW => ?_)
      have hW : wd D (dn cy LY_X8 ad P V (gp I []) (gp J []) (gm A []) (gm B [])) Af s.heap H locs := hW
      refine lv_iload_n C0.1 C0.2.1 dX8_colder_44 rfl (lv_at hl 1 rfl) ?_
      refine lv_iload_n C0.1 C0.2.1 dX8_colder_45 rfl (lv_at hl 2 rfl) ?_
      refine lv_imul C0.1 C0.2.1 dX8_colder_46 ?_
      refine lv_iadd C0.1 C0.2.1 dX8_colder_47 ?_
      obtain ⟨y6, hy6, hf⟩ := b_some hf
      refine c_Vi C0 hK hN hl.1 hW hA (KX4_lastingBits l D cy  (fun q => ad (pl_LY_X8_LY_X4X6_4_5_5025986.getD q 0)) (fun q => P (pl_LY_X8_LY_X4X6_4_5_5025986.getD q 0)) (fun q => Vx LY_X8 ad V (pl_LY_X8_LY_X4X6_4_5_5025986.getD q 0)) (fun q => gp I [] (pl_LY_X8_LY_X4X6_4_5_5025986.getD q 0)) (fun q => gp J [] (pl_LY_X8_LY_X4X6_4_5_5025986.getD q 0)) (fun q => gm A [] (pl_LY_X8_LY_X4X6_4_5_5025986.getD q 0)) (fun q => gm B [] (pl_LY_X8_LY_X4X6_4_5_5025986.getD q 0)) (y5 + (v1 * v2)) hy6) (JN_subC (pl := pl_LY_X8_LY_X4X6_4_5_5025986) sb_LY_X8_LY_X4X6_4_5_5025986 rfl rfl rfl rfl rfl rfl rfl rfl rfl) (Uw_V uw_925 uw_818 uw_819 uw_7 uw_820) rfl rfl hd_X4_lastingBits ⟨rfl, rfl⟩ rfl (dn_some LY_X8_4) rfl rfl rfl dX8_colder_48 ⟨Nat.zero_le _, Nat.zero_le _⟩ (fun H locs hW => ?_)
      have hW : wd D (dn cy LY_X8 ad P V (gp I []) (gp J []) (gm A []) (gm B [])) Af s.heap H locs := hW
      refine lv_istore_n (lv' := [(3, .int y6), (0, .ref (ad 0)), (1, .int v1), (2, .int v2)]) C0.1 C0.2.1 dX8_colder_51 rfl hl (by decide) rfl (fun ls hl => ?_)
      refine lv_aload_n C0.1 C0.2.1 dX8_colder_52 rfl (lv_at hl 1 rfl) ?_
      refine s_get (v := .ref (ad 4)) C0 hK hW 0 1 LY_X8_0 rfl fg_X8_19 rfl dX8_colder_53 ?_
      refine lv_aload_n C0.1 C0.2.1 dX8_colder_56 rfl (lv_at hl 1 rfl) ?_
      refine s_get (v := .ref (ad 112)) C0 hK hW 0 7 LY_X8_0 rfl fg_X8_53 rfl dX8_colder_57 ?_
      refine lv_iload_n C0.1 C0.2.1 dX8_colder_60 rfl (lv_at hl 0 rfl) ?_
      obtain ⟨y7, hy7, hf⟩ := b_some hf
      refine c_Vi C0 hK hN hl.1 hW hA (KX4_seizedIfLasting l D cy  (fun q => ad (pl_LY_X8_LY_X4X6_4_5_5025986.getD q 0)) (fun q => P (pl_LY_X8_LY_X4X6_4_5_5025986.getD q 0)) (fun q => Vx LY_X8 ad V (pl_LY_X8_LY_X4X6_4_5_5025986.getD q 0)) (fun q => gp I [] (pl_LY_X8_LY_X4X6_4_5_5025986.getD q 0)) (fun q => gp J [] (pl_LY_X8_LY_X4X6_4_5_5025986.getD q 0)) (fun q => gm A [] (pl_LY_X8_LY_X4X6_4_5_5025986.getD q 0)) (fun q => gm B [] (pl_LY_X8_LY_X4X6_4_5_5025986.getD q 0)) y6 hy7) (JN_subC (pl := pl_LY_X8_LY_X4X6_4_5_5025986) sb_LY_X8_LY_X4X6_4_5_5025986 rfl rfl rfl rfl rfl rfl rfl rfl rfl) (Uw_V uw_926 uw_822 uw_823 uw_7 uw_824) rfl rfl hd_X4_seizedIfLasting ⟨rfl, rfl⟩ rfl (dn_some LY_X8_4) rfl rfl rfl dX8_colder_61 ⟨Nat.zero_le _, Nat.zero_le _⟩ (fun H locs hW => ?_)
      have hW : wd D (dn cy LY_X8 ad P V (gp I []) (gp J []) (gm A []) (gm B [])) Af s.heap H locs := hW
      obtain rfl := Option.some.inj hf
      exact r_int C0 hK hW dX8_colder_64
    · have hf := ite_t hc4 hf
      refine lv_iconst (v := (-1)) C0.1 C0.2.1 dX8_colder_19 kI_m1 ?_
      obtain rfl := Option.some.inj hf
      exact r_int C0 hK hW dX8_colder_20
-- X8_isContent
def rmX8_isContent : Room := { frames := 1, cells := 0, slots := 0, locals := 21 }
def fX8_isContent (v0 : Int32) (v1 : Int32) : Option (Int32) := if v0 = 1 then (if v1 < 0 then (some (0)) else (some (1))) else (if 0 < v1 then (some (0)) else (some (1)))
set_option maxHeartbeats 4000000 in
set_option maxRecDepth 100000 in
theorem KX8_isContent (l : Launch) (D : va_G) (cy : Nat → ClassId) (ad : Nat → Nat) (P : MP) (V : MV) (I : MI) (J : MJ) (A : MI) (B : MJ) (v0 : Int32) (v1 : Int32) {res : Int32} (hf : fX8_isContent v0 v1 = some res) : CG l yX8_isContent cX8_isContent 2 (some .boolean) rmX8_isContent D cy (dn cy LY_0 ad P V I J A B) [.int v0, .int v1] (some (.int res)) (dn cy LY_0 ad P V (gp I []) (gp J []) (gm A []) (gm B [])) := by
  refine CG.of (own := RX8) (by decide) rfl rfl ?_
  intro p e s m below meth c ls Af C0 hK hN hA hW hl
  have hW : wd D (dn cy LY_0 ad P V (gp I []) (gp J []) (gm A []) (gm B [])) Af s.heap s.heap [] := wd_sel [] [] [] [] hW
  have hl : lv_has ls 2 [(0, .int v0), (1, .int v1)] := hl
  unfold fX8_isContent at hf
  refine lv_iload_n C0.1 C0.2.1 dX8_isContent_0 rfl (lv_at hl 0 rfl) ?_
  refine lv_iconst (v := 1) C0.1 C0.2.1 dX8_isContent_1 kI_1 ?_
  refine lv_icmp_ne (tgt := 17) C0.1 C0.2.1 dX8_isContent_2 (by decide) (fun hc1 => ?_) (fun hc1 => ?_)
  · have hf := ite_f hc1 hf
    refine lv_iload_n C0.1 C0.2.1 dX8_isContent_17 rfl (lv_at hl 1 rfl) ?_
    refine lv_if_gt (tgt := 25) C0.1 C0.2.1 dX8_isContent_18 (by decide) (fun hc2 => ?_) (fun hc2 => ?_)
    · have hf := ite_t hc2 hf
      refine lv_iconst (v := 0) C0.1 C0.2.1 dX8_isContent_25 kI_0 ?_
      obtain rfl := Option.some.inj hf
      exact r_bool C0 hK hW (v' := 0) rfl dX8_isContent_26
    · have hf := ite_f hc2 hf
      refine lv_iconst (v := 1) C0.1 C0.2.1 dX8_isContent_21 kI_1 ?_
      refine lv_goto (tgt := 26) C0.1 C0.2.1 dX8_isContent_22 (by decide) ?_
      obtain rfl := Option.some.inj hf
      exact r_bool C0 hK hW (v' := 1) rfl dX8_isContent_26
  · have hf := ite_t hc1 hf
    refine lv_iload_n C0.1 C0.2.1 dX8_isContent_5 rfl (lv_at hl 1 rfl) ?_
    refine lv_if_lt (tgt := 13) C0.1 C0.2.1 dX8_isContent_6 (by decide) (fun hc3 => ?_) (fun hc3 => ?_)
    · have hf := ite_t hc3 hf
      refine lv_iconst (v := 0) C0.1 C0.2.1 dX8_isContent_13 kI_0 ?_
      refine lv_goto (tgt := 26) C0.1 C0.2.1 dX8_isContent_14 (by decide) ?_
      obtain rfl := Option.some.inj hf
      exact r_bool C0 hK hW (v' := 0) rfl dX8_isContent_26
    · have hf := ite_f hc3 hf
      refine lv_iconst (v := 1) C0.1 C0.2.1 dX8_isContent_9 kI_1 ?_
      refine lv_goto (tgt := 26) C0.1 C0.2.1 dX8_isContent_10 (by decide) ?_
      obtain rfl := Option.some.inj hf
      exact r_bool C0 hK hW (v' := 1) rfl dX8_isContent_26
-- X8_drawBelow
def rmX8_drawBelow : Room := { frames := 1, cells := 0, slots := 0, locals := 21 }
def fX8_drawBelow (c_drawn : Int64) (v1 : Int32) : Option (Int32 × Int64) := if v1 ≤ 0 then (some (0, (((c_drawn * 1103515245) + 12345) - ((c_drawn * 1103515245) + 12345) / 2147483648 * 2147483648))) else (if (Int32.toInt64 v1) = 0 then none else (some ((Int64.toInt32 (((((c_drawn * 1103515245) + 12345) - ((c_drawn * 1103515245) + 12345) / 2147483648 * 2147483648) / 65536) - ((((c_drawn * 1103515245) + 12345) - ((c_drawn * 1103515245) + 12345) / 2147483648 * 2147483648) / 65536) / (Int32.toInt64 v1) * (Int32.toInt64 v1))), (((c_drawn * 1103515245) + 12345) - ((c_drawn * 1103515245) + 12345) / 2147483648 * 2147483648))))
set_option maxHeartbeats 4000000 in
set_option maxRecDepth 100000 in
theorem KX8_drawBelow (l : Launch) (D : va_G) (cy : Nat → ClassId) (ad : Nat → Nat) (P : MP) (V : MV) (I : MI) (J : MJ) (A : MI) (B : MJ) (v1 : Int32) {res : Int32 × Int64} (hf : fX8_drawBelow (J 0 13) v1 = some res) : CG l yX8_drawBelow cX8_drawBelow 2 (some .int) rmX8_drawBelow D cy (dn cy LY_X8 ad P V I J A B) [.ref (ad 0), .int v1] (some (.int res.1)) (dn cy LY_X8 ad P V (gp I []) (gp J [(0, 13, res.2)]) (gm A []) (gm B [])) := by
  refine CG.of (own := RX8) (by decide) rfl rfl ?_
  intro p e s m below meth c ls Af C0 hK hN hA hW hl
  have hW : wd D (dn cy LY_X8 ad P V (gp I []) (gp J [(0, 13, (J 0 13))]) (gm A []) (gm B [])) Af s.heap s.heap [] := wd_sel [] [(0, 13)] [] [] hW
  have hl : lv_has ls 2 [(0, .ref (ad 0)), (1, .int v1)] := hl
  unfold fX8_drawBelow at hf
  refine lv_aload_n C0.1 C0.2.1 dX8_drawBelow_0 rfl (lv_at hl 0 rfl) ?_
  refine lv_aload_n C0.1 C0.2.1 dX8_drawBelow_1 rfl (lv_at hl 0 rfl) ?_
  refine s_get (v := .long (J 0 13)) C0 hK hW 0 13 LY_X8_0 rfl fg_X8_274 rfl dX8_drawBelow_2 ?_
  refine lv_ldc2 (v := 1103515245) C0.1 C0.2.1 C0.2.2.2.2.1 (C0.2.2.2.2.2.1 _ uw_939) dX8_drawBelow_5 ?_
  refine lv_lmul C0.1 C0.2.1 dX8_drawBelow_8 ?_
  refine lv_ldc2 (v := 12345) C0.1 C0.2.1 C0.2.2.2.2.1 (C0.2.2.2.2.2.1 _ uw_940) dX8_drawBelow_9 ?_
  refine lv_ladd C0.1 C0.2.1 dX8_drawBelow_12 ?_
  refine lv_ldc2 (v := 2147483648) C0.1 C0.2.1 C0.2.2.2.2.1 (C0.2.2.2.2.2.1 _ uw_941) dX8_drawBelow_13 ?_
  refine lv_lrem C0.1 C0.2.1 dX8_drawBelow_16 (by decide) ?_
  refine s_putJ C0 hK hW 0 13 LY_X8_0 rfl fg_X8_274 fp_X8_13 rfl dX8_drawBelow_17 (fun H locs hW => ?_)
  have hW : wd D (dn cy LY_X8 ad P V (gp I []) (gp J [(0, 13, ((((J 0 13) * 1103515245) + 12345) - (((J 0 13) * 1103515245) + 12345) / 2147483648 * 2147483648))]) (gm A []) (gm B [])) Af s.heap H locs := hW
  refine lv_iload_n C0.1 C0.2.1 dX8_drawBelow_20 rfl (lv_at hl 1 rfl) ?_
  refine lv_if_le (tgt := 39) C0.1 C0.2.1 dX8_drawBelow_21 (by decide) (fun hc1 => ?_) (fun hc1 => ?_)
  · have hf := ite_t hc1 hf
    refine lv_iconst (v := 0) C0.1 C0.2.1 dX8_drawBelow_39 kI_0 ?_
    obtain rfl := Option.some.inj hf
    exact r_int C0 hK hW dX8_drawBelow_40
  · have hf := ite_f hc1 hf
    refine lv_aload_n C0.1 C0.2.1 dX8_drawBelow_24 rfl (lv_at hl 0 rfl) ?_
    refine s_get (v := .long ((((J 0 13) * 1103515245) + 12345) - (((J 0 13) * 1103515245) + 12345) / 2147483648 * 2147483648)) C0 hK hW 0 13 LY_X8_0 rfl fg_X8_274 rfl dX8_drawBelow_25 ?_
    refine lv_ldc2 (v := 65536) C0.1 C0.2.1 C0.2.2.2.2.1 (C0.2.2.2.2.2.1 _ uw_942) dX8_drawBelow_28 ?_
    refine lv_ldiv C0.1 C0.2.1 dX8_drawBelow_31 (by decide) ?_
    refine lv_iload_n C0.1 C0.2.1 dX8_drawBelow_32 rfl (lv_at hl 1 rfl) ?_
    refine lv_i2l (v := (Int32.toInt64 v1)) C0.1 C0.2.1 dX8_drawBelow_33 rfl ?_
    obtain ⟨hz2, hf⟩ := z_some hf
    refine lv_lrem C0.1 C0.2.1 dX8_drawBelow_34 hz2 ?_
    refine lv_l2i (v := (Int64.toInt32 ((((((J 0 13) * 1103515245) + 12345) - (((J 0 13) * 1103515245) + 12345) / 2147483648 * 2147483648) / 65536) - (((((J 0 13) * 1103515245) + 12345) - (((J 0 13) * 1103515245) + 12345) / 2147483648 * 2147483648) / 65536) / (Int32.toInt64 v1) * (Int32.toInt64 v1)))) C0.1 C0.2.1 dX8_drawBelow_35 rfl ?_
    refine lv_goto (tgt := 40) C0.1 C0.2.1 dX8_drawBelow_36 (by decide) ?_
    obtain rfl := Option.some.inj hf
    exact r_int C0 hK hW dX8_drawBelow_40
-- X8_goByDraws
def rmX8_goByDraws : Room := { frames := 6, cells := 0, slots := 0, locals := 140 }
def SX8_goByDraws_71 (p : Program) (l : Launch) (e : Env) (s : State) (m : MethodId) (args : Array Value) (below : List Frame) (meth : Method) (c : Code) (D : va_G) (cy : Nat → ClassId) (ad : Nat → Nat) (P : MP) (V : MV) (I : MI) (J : MJ) (A : MI) (B : MJ) (Af : Nat → Prop) (res : Int32 × Int32 × Int32 × Int64 × (Nat → Int32) × (Nat → Int32) × (Nat → Int32)) (k : Int32 → Int32 → Int64 → (Nat → Int32) → (Nat → Int32) → (Nat → Int32) → Int32 → Int32 → Int32 → Option (Int32 × Int32 × Int32 × Int64 × (Nat → Int32) × (Nat → Int32) × (Nat → Int32))) : Prop := ∀ (c_trial_brought : Int32) (c_told_law_waiting : Int32) (c_drawn : Int64) (c_trial_coal : (Nat → Int32)) (c_trial_inside : (Nat → Int32)) (c_told_law_stack : (Nat → Int32)) (v1 : Int32) (v2 : Int32) (v3 : Int32) (H : Heap) (locs : List Loc) (ls : Array Slot), wd D (dn cy LY_X8 ad P V (gp I [(7, 4, c_trial_brought), (124, 2, c_told_law_waiting)]) (gp J [(0, 13, c_drawn)]) (gm A [(8, c_trial_coal), (9, c_trial_inside), (126, c_told_law_stack)]) (gm B [])) Af s.heap H locs → lv_has ls 4 [(0, .ref (ad 0)), (1, .int v1), (2, .int v2), (3, .int v3)] → k c_trial_brought c_told_law_waiting c_drawn c_trial_coal c_trial_inside c_told_law_stack v1 v2 v3 = some res → W p l e rmX8_goByDraws s m args below meth c H locs 0 0 (ZQ below D cy (dn cy LY_X8 ad P V (gp I [(7, 4, res.2.1), (124, 2, res.2.2.1)]) (gp J [(0, 13, res.2.2.2.1)]) (gm A [(8, res.2.2.2.2.1), (9, res.2.2.2.2.2.1), (126, res.2.2.2.2.2.2)]) (gm B [])) (some (.int res.1)) Af args s) (F0 m 71 ls [])
def SX8_goByDraws_16 (p : Program) (l : Launch) (e : Env) (s : State) (m : MethodId) (args : Array Value) (below : List Frame) (meth : Method) (c : Code) (D : va_G) (cy : Nat → ClassId) (ad : Nat → Nat) (P : MP) (V : MV) (I : MI) (J : MJ) (A : MI) (B : MJ) (Af : Nat → Prop) (res : Int32 × Int32 × Int32 × Int64 × (Nat → Int32) × (Nat → Int32) × (Nat → Int32)) (k : Int32 → Int32 → Int64 → (Nat → Int32) → (Nat → Int32) → (Nat → Int32) → Int32 → Int32 → Option (Int32 × Int32 × Int32 × Int64 × (Nat → Int32) × (Nat → Int32) × (Nat → Int32))) : Prop := ∀ (c_trial_brought : Int32) (c_told_law_waiting : Int32) (c_drawn : Int64) (c_trial_coal : (Nat → Int32)) (c_trial_inside : (Nat → Int32)) (c_told_law_stack : (Nat → Int32)) (v1 : Int32) (v2 : Int32) (H : Heap) (locs : List Loc) (ls : Array Slot), wd D (dn cy LY_X8 ad P V (gp I [(7, 4, c_trial_brought), (124, 2, c_told_law_waiting)]) (gp J [(0, 13, c_drawn)]) (gm A [(8, c_trial_coal), (9, c_trial_inside), (126, c_told_law_stack)]) (gm B [])) Af s.heap H locs → lv_has ls 4 [(0, .ref (ad 0)), (1, .int v1), (2, .int v2)] → k c_trial_brought c_told_law_waiting c_drawn c_trial_coal c_trial_inside c_told_law_stack v1 v2 = some res → W p l e rmX8_goByDraws s m args below meth c H locs 0 0 (ZQ below D cy (dn cy LY_X8 ad P V (gp I [(7, 4, res.2.1), (124, 2, res.2.2.1)]) (gp J [(0, 13, res.2.2.2.1)]) (gm A [(8, res.2.2.2.2.1), (9, res.2.2.2.2.2.1), (126, res.2.2.2.2.2.2)]) (gm B [])) (some (.int res.1)) Af args s) (F0 m 16 ls [])
def fX8_goByDraws_71 (c_trial_seized : Int32) (c_trial_date : Int32) (c_told_holes : Int32) (c_told_guests : Int32) (c_told_sack : Int32) (c_told_law_length : Int32) (c_told_holeFlags : (Nat → Int32)) (c_told_beside : (Nat → Int32)) (c_told_kinds : (Nat → Int32)) (c_told_guestFlags : (Nat → Int32)) (c_told_foes : (Nat → Int32)) (c_told_law_code : (Nat → Int32)) (k16 : Int32 → Int32 → Int64 → (Nat → Int32) → (Nat → Int32) → (Nat → Int32) → Int32 → Int32 → Option (Int32 × Int32 × Int32 × Int64 × (Nat → Int32) × (Nat → Int32) × (Nat → Int32))) (c_trial_brought : Int32) (c_told_law_waiting : Int32) (c_drawn : Int64) (c_trial_coal : (Nat → Int32)) (c_trial_inside : (Nat → Int32)) (c_told_law_stack : (Nat → Int32)) (v1 : Int32) (v2 : Int32) (v3 : Int32) : Option (Int32 × Int32 × Int32 × Int64 × (Nat → Int32) × (Nat → Int32) × (Nat → Int32)) := Option.bind (fX4_move c_trial_inside v2 v3) fun y1 => (k16 c_trial_brought c_told_law_waiting c_drawn c_trial_coal y1 c_told_law_stack (v1 + 1) (v2 + 1))
set_option maxHeartbeats 4000000 in
set_option maxRecDepth 100000 in
theorem tX8_goByDraws_71 {p : Program} {l : Launch} {e : Env} {s : State} {m : MethodId} {args : Array Value} {below : List Frame} {meth : Method} {c : Code} {D : va_G} {cy : Nat → ClassId} {ad : Nat → Nat} {P : MP} {V : MV} {I : MI} {J : MJ} {A : MI} {B : MJ} {Af : Nat → Prop} {res : Int32 × Int32 × Int32 × Int64 × (Nat → Int32) × (Nat → Int32) × (Nat → Int32)} (C0 : CX p s m args meth c cX8_goByDraws 4 (some .int) RX8) (hK : va_K D vwCl (tyG cy) s) (hN : NWs s) (hA : ∀ q, s.heap.size ≤ q → Af q) {k16 : Int32 → Int32 → Int64 → (Nat → Int32) → (Nat → Int32) → (Nat → Int32) → Int32 → Int32 → Option (Int32 × Int32 × Int32 × Int64 × (Nat → Int32) × (Nat → Int32) × (Nat → Int32))} (hk16 : SX8_goByDraws_16 p l e s m args below meth c D cy ad P V I J A B Af res k16) : SX8_goByDraws_71 p l e s m args below meth c D cy ad P V I J A B Af res (fX8_goByDraws_71 (I 7 2) (I 7 3) (I 112 13) (I 112 14) (I 112 15) (I 124 4) (A 117) (A 120) (A 121) (A 122) (A 123) (A 125) k16) := by
  intro c_trial_brought c_told_law_waiting c_drawn c_trial_coal c_trial_inside c_told_law_stack v1 v2 v3 H locs ls hW hl hf
  unfold fX8_goByDraws_71 at hf
  refine lv_aload_n C0.1 C0.2.1 dX8_goByDraws_71 rfl (lv_at hl 0 rfl) ?_
  refine s_get (v := .ref (ad 7)) C0 hK hW 0 2 LY_X8_0 rfl fg_X8_23 rfl dX8_goByDraws_72 ?_
  refine lv_iload_n C0.1 C0.2.1 dX8_goByDraws_75 rfl (lv_at hl 2 rfl) ?_
  refine lv_iload_n C0.1 C0.2.1 dX8_goByDraws_76 rfl (lv_at hl 3 rfl) ?_
  obtain ⟨y1, hy1, hf⟩ := b_some hf
  refine c_Vv C0 hK hN hl.1 hW hA (KX4_move l D cy  (fun q => ad (pl_LY_X8_LY_X4_7_8_9.getD q 0)) (fun q => P (pl_LY_X8_LY_X4_7_8_9.getD q 0)) (fun q => Vx LY_X8 ad V (pl_LY_X8_LY_X4_7_8_9.getD q 0)) (fun q => gp I [(7, 4, c_trial_brought), (124, 2, c_told_law_waiting)] (pl_LY_X8_LY_X4_7_8_9.getD q 0)) (fun q => gp J [(0, 13, c_drawn)] (pl_LY_X8_LY_X4_7_8_9.getD q 0)) (fun q => gm A [(8, c_trial_coal), (9, c_trial_inside), (126, c_told_law_stack)] (pl_LY_X8_LY_X4_7_8_9.getD q 0)) (fun q => gm B [] (pl_LY_X8_LY_X4_7_8_9.getD q 0)) v2 v3 hy1) (JN_subC (pl := pl_LY_X8_LY_X4_7_8_9) sb_LY_X8_LY_X4_7_8_9 rfl rfl rfl rfl rfl rfl rfl rfl rfl) (Uw_V uw_702 uw_703 uw_704 uw_7 uw_705) rfl rfl hd_X4_move ⟨rfl, rfl⟩ rfl (dn_some LY_X8_7) rfl rfl rfl dX8_goByDraws_77 ⟨Nat.zero_le _, Nat.zero_le _⟩ (fun H locs hW => ?_)
  have hW : wd D (dn cy LY_X8 ad P V (gp I [(7, 4, c_trial_brought), (124, 2, c_told_law_waiting)]) (gp J [(0, 13, c_drawn)]) (gm A [(8, c_trial_coal), (9, y1), (126, c_told_law_stack)]) (gm B [])) Af s.heap H locs := hW
  refine lv_iinc (v := (v1 + 1)) (lv' := [(1, .int (v1 + 1)), (0, .ref (ad 0)), (2, .int v2), (3, .int v3)]) C0.1 C0.2.1 dX8_goByDraws_80 hl (k := 1) rfl (congrArg (fun z => _ + z) kI_1) (by decide) rfl (fun ls hl => ?_)
  refine lv_iinc (v := (v2 + 1)) (lv' := [(2, .int (v2 + 1)), (1, .int (v1 + 1)), (0, .ref (ad 0)), (3, .int v3)]) C0.1 C0.2.1 dX8_goByDraws_83 hl (k := 2) rfl (congrArg (fun z => _ + z) kI_1) (by decide) rfl (fun ls hl => ?_)
  refine lv_goto (tgt := 16) C0.1 C0.2.1 dX8_goByDraws_86 (by decide) ?_
  exact hk16 c_trial_brought c_told_law_waiting c_drawn c_trial_coal y1 c_told_law_stack (v1 + 1) (v2 + 1) H locs ls hW (lv_sub hl [2, 1, 0] rfl) hf
def fX8_goByDraws_16 (c_trial_seized : Int32) (c_trial_date : Int32) (c_told_holes : Int32) (c_told_guests : Int32) (c_told_sack : Int32) (c_told_law_length : Int32) (c_told_holeFlags : (Nat → Int32)) (c_told_beside : (Nat → Int32)) (c_told_kinds : (Nat → Int32)) (c_told_guestFlags : (Nat → Int32)) (c_told_foes : (Nat → Int32)) (c_told_law_code : (Nat → Int32)) (k16 : Int32 → Int32 → Int64 → (Nat → Int32) → (Nat → Int32) → (Nat → Int32) → Int32 → Int32 → Option (Int32 × Int32 × Int32 × Int64 × (Nat → Int32) × (Nat → Int32) × (Nat → Int32))) (c_trial_brought : Int32) (c_told_law_waiting : Int32) (c_drawn : Int64) (c_trial_coal : (Nat → Int32)) (c_trial_inside : (Nat → Int32)) (c_told_law_stack : (Nat → Int32)) (v1 : Int32) (v2 : Int32) : Option (Int32 × Int32 × Int32 × Int64 × (Nat → Int32) × (Nat → Int32) × (Nat → Int32)) := if c_told_guests ≤ v2 then (Option.bind (fX8_drawBelow c_drawn c_told_holes) fun y2 => (Option.bind (fX4_addSack c_told_sack c_trial_brought c_trial_coal y2.1) fun y3 => (some (v1, y3.1, c_told_law_waiting, y2.2, y3.2, c_trial_inside, c_told_law_stack)))) else (Option.bind (fX8_drawBelow c_drawn c_told_holes) fun y4 => (Option.bind (fX4_canGoDown c_trial_seized c_trial_date c_told_holes c_told_guests c_told_law_length c_trial_coal c_trial_inside c_told_holeFlags c_told_kinds c_told_guestFlags c_told_foes c_told_law_code c_told_law_waiting c_told_law_stack v2 y4.1) fun y5 => (if y5.1 = 0 then (Option.bind (fX4_canGoThrough c_trial_date c_told_holes c_told_guests c_told_law_length c_trial_coal c_trial_inside c_told_holeFlags c_told_beside c_told_kinds c_told_guestFlags c_told_foes c_told_law_code y5.2.1 y5.2.2 v2 y4.1) fun y7 => (if y7.1 = 0 then (k16 c_trial_brought y7.2.1 y4.2 c_trial_coal c_trial_inside y7.2.2 v1 (v2 + 1)) else (fX8_goByDraws_71 c_trial_seized c_trial_date c_told_holes c_told_guests c_told_sack c_told_law_length c_told_holeFlags c_told_beside c_told_kinds c_told_guestFlags c_told_foes c_told_law_code k16 c_trial_brought y7.2.1 y4.2 c_trial_coal c_trial_inside y7.2.2 v1 v2 y4.1))) else (fX8_goByDraws_71 c_trial_seized c_trial_date c_told_holes c_told_guests c_told_sack c_told_law_length c_told_holeFlags c_told_beside c_told_kinds c_told_guestFlags c_told_foes c_told_law_code k16 c_trial_brought y5.2.1 y4.2 c_trial_coal c_trial_inside y5.2.2 v1 v2 y4.1))))
set_option maxHeartbeats 4000000 in
set_option maxRecDepth 100000 in
theorem tX8_goByDraws_16 {p : Program} {l : Launch} {e : Env} {s : State} {m : MethodId} {args : Array Value} {below : List Frame} {meth : Method} {c : Code} {D : va_G} {cy : Nat → ClassId} {ad : Nat → Nat} {P : MP} {V : MV} {I : MI} {J : MJ} {A : MI} {B : MJ} {Af : Nat → Prop} {res : Int32 × Int32 × Int32 × Int64 × (Nat → Int32) × (Nat → Int32) × (Nat → Int32)} (C0 : CX p s m args meth c cX8_goByDraws 4 (some .int) RX8) (hK : va_K D vwCl (tyG cy) s) (hN : NWs s) (hA : ∀ q, s.heap.size ≤ q → Af q) {k16 : Int32 → Int32 → Int64 → (Nat → Int32) → (Nat → Int32) → (Nat → Int32) → Int32 → Int32 → Option (Int32 × Int32 × Int32 × Int64 × (Nat → Int32) × (Nat → Int32) × (Nat → Int32))} (hk16 : SX8_goByDraws_16 p l e s m args below meth c D cy ad P V I J A B Af res k16) : SX8_goByDraws_16 p l e s m args below meth c D cy ad P V I J A B Af res (fX8_goByDraws_16 (I 7 2) (I 7 3) (I 112 13) (I 112 14) (I 112 15) (I 124 4) (A 117) (A 120) (A 121) (A 122) (A 123) (A 125) k16) := by
  intro c_trial_brought c_told_law_waiting c_drawn c_trial_coal c_trial_inside c_told_law_stack v1 v2 H locs ls hW hl hf
  unfold fX8_goByDraws_16 at hf
  refine lv_iload_n C0.1 C0.2.1 dX8_goByDraws_16 rfl (lv_at hl 2 rfl) ?_
  refine lv_aload_n C0.1 C0.2.1 dX8_goByDraws_17 rfl (lv_at hl 0 rfl) ?_
  refine s_get (v := .ref (ad 112)) C0 hK hW 0 7 LY_X8_0 rfl fg_X8_53 rfl dX8_goByDraws_18 ?_
  refine s_get (v := .int (I 112 14)) C0 hK hW 112 14 LY_X8_112 rfl fg_X8_209 rfl dX8_goByDraws_21 ?_
  refine lv_icmp_ge (tgt := 89) C0.1 C0.2.1 dX8_goByDraws_24 (by decide) (fun hc1 => ?_) (fun hc1 => ?_)
  · have hf := ite_t hc1 hf
    refine lv_aload_n C0.1 C0.2.1 dX8_goByDraws_89 rfl (lv_at hl 0 rfl) ?_
    refine s_get (v := .ref (ad 7)) C0 hK hW 0 2 LY_X8_0 rfl fg_X8_23 rfl dX8_goByDraws_90 ?_
    refine lv_aload_n C0.1 C0.2.1 dX8_goByDraws_93 rfl (lv_at hl 0 rfl) ?_
    refine s_get (v := .ref (ad 112)) C0 hK hW 0 7 LY_X8_0 rfl fg_X8_53 rfl dX8_goByDraws_94 ?_
    refine lv_aload_n C0.1 C0.2.1 dX8_goByDraws_97 rfl (lv_at hl 0 rfl) ?_
    refine lv_aload_n C0.1 C0.2.1 dX8_goByDraws_98 rfl (lv_at hl 0 rfl) ?_
    refine s_get (v := .ref (ad 112)) C0 hK hW 0 7 LY_X8_0 rfl fg_X8_53 rfl dX8_goByDraws_99 ?_
    refine s_get (v := .int (I 112 13)) C0 hK hW 112 13 LY_X8_112 rfl fg_X8_193 rfl dX8_goByDraws_102 ?_
    obtain ⟨y2, hy2, hf⟩ := b_some hf
    refine c_Vi C0 hK hN hl.1 hW hA (KX8_drawBelow l D cy  ad P V (gp I [(7, 4, c_trial_brought), (124, 2, c_told_law_waiting)]) (gp J [(0, 13, c_drawn)]) (gm A [(8, c_trial_coal), (9, c_trial_inside), (126, c_told_law_stack)]) (gm B []) (I 112 13) hy2) (JN_id rfl rfl rfl rfl) (Uw_V uw_935 uw_937 us_33 uw_1 uw_938) rfl rfl hd_X8_drawBelow ⟨rfl, rfl⟩ rfl (dn_some LY_X8_0) rfl rfl rfl dX8_goByDraws_105 ⟨Nat.zero_le _, Nat.zero_le _⟩ (fun H locs hW => ?_)
    have hW : wd D (dn cy LY_X8 ad P V (gp I [(7, 4, c_trial_brought), (124, 2, c_told_law_waiting)]) (gp J [(0, 13, y2.2)]) (gm A [(8, c_trial_coal), (9, c_trial_inside), (126, c_told_law_stack)]) (gm B [])) Af s.heap H locs := hW
    obtain ⟨y3, hy3, hf⟩ := b_some hf
    refine c_Vv C0 hK hN hl.1 hW hA (KX4_addSack l D cy  (fun q => ad (pl_LY_X8_LY_X4X6_7_8_21942644.getD q 0)) (fun q => P (pl_LY_X8_LY_X4X6_7_8_21942644.getD q 0)) (fun q => Vx LY_X8 ad V (pl_LY_X8_LY_X4X6_7_8_21942644.getD q 0)) (fun q => gp I [(7, 4, c_trial_brought), (124, 2, c_told_law_waiting)] (pl_LY_X8_LY_X4X6_7_8_21942644.getD q 0)) (fun q => gp J [(0, 13, y2.2)] (pl_LY_X8_LY_X4X6_7_8_21942644.getD q 0)) (fun q => gm A [(8, c_trial_coal), (9, c_trial_inside), (126, c_told_law_stack)] (pl_LY_X8_LY_X4X6_7_8_21942644.getD q 0)) (fun q => gm B [] (pl_LY_X8_LY_X4X6_7_8_21942644.getD q 0)) y2.1 hy3) (JN_subC (pl := pl_LY_X8_LY_X4X6_7_8_21942644) sb_LY_X8_LY_X4X6_7_8_21942644 rfl rfl rfl rfl rfl rfl rfl rfl rfl) (Uw_V uw_727 uw_728 uw_729 uw_7 uw_730) rfl rfl hd_X4_addSack ⟨rfl, rfl⟩ rfl (dn_some LY_X8_7) rfl rfl rfl dX8_goByDraws_108 ⟨Nat.zero_le _, Nat.zero_le _⟩ (fun H locs hW => ?_)
    have hW : wd D (dn cy LY_X8 ad P V (gp I [(7, 4, y3.1), (124, 2, c_told_law_waiting)]) (gp J [(0, 13, y2.2)]) (gm A [(8, y3.2), (9, c_trial_inside), (126, c_told_law_stack)]) (gm B [])) Af s.heap H locs := hW
    refine lv_iload_n C0.1 C0.2.1 dX8_goByDraws_111 rfl (lv_at hl 1 rfl) ?_
    obtain rfl := Option.some.inj hf
    exact r_int C0 hK hW dX8_goByDraws_112
  · have hf := ite_f hc1 hf
    refine lv_aload_n C0.1 C0.2.1 dX8_goByDraws_27 rfl (lv_at hl 0 rfl) ?_
    refine lv_aload_n C0.1 C0.2.1 dX8_goByDraws_28 rfl (lv_at hl 0 rfl) ?_
    refine s_get (v := .ref (ad 112)) C0 hK hW 0 7 LY_X8_0 rfl fg_X8_53 rfl dX8_goByDraws_29 ?_
    refine s_get (v := .int (I 112 13)) C0 hK hW 112 13 LY_X8_112 rfl fg_X8_193 rfl dX8_goByDraws_32 ?_
    obtain ⟨y4, hy4, hf⟩ := b_some hf
    refine c_Vi C0 hK hN hl.1 hW hA (KX8_drawBelow l D cy  ad P V (gp I [(7, 4, c_trial_brought), (124, 2, c_told_law_waiting)]) (gp J [(0, 13, c_drawn)]) (gm A [(8, c_trial_coal), (9, c_trial_inside), (126, c_told_law_stack)]) (gm B []) (I 112 13) hy4) (JN_id rfl rfl rfl rfl) (Uw_V uw_935 uw_937 us_33 uw_1 uw_938) rfl rfl hd_X8_drawBelow ⟨rfl, rfl⟩ rfl (dn_some LY_X8_0) rfl rfl rfl dX8_goByDraws_35 ⟨Nat.zero_le _, Nat.zero_le _⟩ (fun H locs hW => ?_)
    have hW : wd D (dn cy LY_X8 ad P V (gp I [(7, 4, c_trial_brought), (124, 2, c_told_law_waiting)]) (gp J [(0, 13, y4.2)]) (gm A [(8, c_trial_coal), (9, c_trial_inside), (126, c_told_law_stack)]) (gm B [])) Af s.heap H locs := hW
    refine lv_istore_n (lv' := [(3, .int y4.1), (0, .ref (ad 0)), (1, .int v1), (2, .int v2)]) C0.1 C0.2.1 dX8_goByDraws_38 rfl hl (by decide) rfl (fun ls hl => ?_)
    refine lv_aload_n C0.1 C0.2.1 dX8_goByDraws_39 rfl (lv_at hl 1 rfl) ?_
    refine s_get (v := .ref (ad 7)) C0 hK hW 0 2 LY_X8_0 rfl fg_X8_23 rfl dX8_goByDraws_40 ?_
    refine lv_aload_n C0.1 C0.2.1 dX8_goByDraws_43 rfl (lv_at hl 1 rfl) ?_
    refine s_get (v := .ref (ad 112)) C0 hK hW 0 7 LY_X8_0 rfl fg_X8_53 rfl dX8_goByDraws_44 ?_
    refine lv_iload_n C0.1 C0.2.1 dX8_goByDraws_47 rfl (lv_at hl 3 rfl) ?_
    refine lv_iload_n C0.1 C0.2.1 dX8_goByDraws_48 rfl (lv_at hl 0 rfl) ?_
    obtain ⟨y5, hy5, hf⟩ := b_some hf
    refine c_Vi C0 hK hN hl.1 hW hA (KX4_canGoDown l D cy  (fun q => ad (pl_LY_X8_LY_X4X6_7_8_21942644.getD q 0)) (fun q => P (pl_LY_X8_LY_X4X6_7_8_21942644.getD q 0)) (fun q => Vx LY_X8 ad V (pl_LY_X8_LY_X4X6_7_8_21942644.getD q 0)) (fun q => gp I [(7, 4, c_trial_brought), (124, 2, c_told_law_waiting)] (pl_LY_X8_LY_X4X6_7_8_21942644.getD q 0)) (fun q => gp J [(0, 13, y4.2)] (pl_LY_X8_LY_X4X6_7_8_21942644.getD q 0)) (fun q => gm A [(8, c_trial_coal), (9, c_trial_inside), (126, c_told_law_stack)] (pl_LY_X8_LY_X4X6_7_8_21942644.getD q 0)) (fun q => gm B [] (pl_LY_X8_LY_X4X6_7_8_21942644.getD q 0)) v2 y4.1 hy5) (JN_subC (pl := pl_LY_X8_LY_X4X6_7_8_21942644) sb_LY_X8_LY_X4X6_7_8_21942644 rfl rfl rfl rfl rfl rfl rfl rfl rfl) (Uw_V uw_685 uw_686 uw_687 uw_7 uw_688) rfl rfl hd_X4_canGoDown ⟨rfl, rfl⟩ rfl (dn_some LY_X8_7) rfl rfl rfl dX8_goByDraws_49 ⟨Nat.zero_le _, Nat.zero_le _⟩ (fun H locs hW => ?_)
    have hW : wd D (dn cy LY_X8 ad P V (gp I [(7, 4, c_trial_brought), (124, 2, y5.2.1)]) (gp J [(0, 13, y4.2)]) (gm A [(8, c_trial_coal), (9, c_trial_inside), (126, y5.2.2)]) (gm B [])) Af s.heap H locs := hW
    refine lv_if_ne (tgt := 71) C0.1 C0.2.1 dX8_goByDraws_52 (by decide) (fun hc6 => ?_) (fun hc6 => ?_)
    · have hf := ite_f hc6 hf
      exact tX8_goByDraws_71 C0 hK hN hA hk16 c_trial_brought y5.2.1 y4.2 c_trial_coal c_trial_inside y5.2.2 v1 v2 y4.1 H locs ls hW (lv_sub hl [1, 2, 3, 0] rfl) hf
    · have hf := ite_t hc6 hf
      refine lv_aload_n C0.1 C0.2.1 dX8_goByDraws_55 rfl (lv_at hl 1 rfl) ?_
      refine s_get (v := .ref (ad 7)) C0 hK hW 0 2 LY_X8_0 rfl fg_X8_23 rfl dX8_goByDraws_56 ?_
      refine lv_aload_n C0.1 C0.2.1 dX8_goByDraws_59 rfl (lv_at hl 1 rfl) ?_
      refine s_get (v := .ref (ad 112)) C0 hK hW 0 7 LY_X8_0 rfl fg_X8_53 rfl dX8_goByDraws_60 ?_
      refine lv_iload_n C0.1 C0.2.1 dX8_goByDraws_63 rfl (lv_at hl 3 rfl) ?_
      refine lv_iload_n C0.1 C0.2.1 dX8_goByDraws_64 rfl (lv_at hl 0 rfl) ?_
      obtain ⟨y7, hy7, hf⟩ := b_some hf
      refine c_Vi C0 hK hN hl.1 hW hA (KX4_canGoThrough l D cy  (fun q => ad (pl_LY_X8_LY_X4X6_7_8_21942644.getD q 0)) (fun q => P (pl_LY_X8_LY_X4X6_7_8_21942644.getD q 0)) (fun q => Vx LY_X8 ad V (pl_LY_X8_LY_X4X6_7_8_21942644.getD q 0)) (fun q => gp I [(7, 4, c_trial_brought), (124, 2, y5.2.1)] (pl_LY_X8_LY_X4X6_7_8_21942644.getD q 0)) (fun q => gp J [(0, 13, y4.2)] (pl_LY_X8_LY_X4X6_7_8_21942644.getD q 0)) (fun q => gm A [(8, c_trial_coal), (9, c_trial_inside), (126, y5.2.2)] (pl_LY_X8_LY_X4X6_7_8_21942644.getD q 0)) (fun q => gm B [] (pl_LY_X8_LY_X4X6_7_8_21942644.getD q 0)) v2 y4.1 hy7) (JN_subC (pl := pl_LY_X8_LY_X4X6_7_8_21942644) sb_LY_X8_LY_X4X6_7_8_21942644 rfl rfl rfl rfl rfl rfl rfl rfl rfl) (Uw_V uw_718 uw_719 uw_720 uw_7 uw_721) rfl rfl hd_X4_canGoThrough ⟨rfl, rfl⟩ rfl (dn_some LY_X8_7) rfl rfl rfl dX8_goByDraws_65 ⟨Nat.zero_le _, Nat.zero_le _⟩ (fun H locs hW => ?_)
      have hW : wd D (dn cy LY_X8 ad P V (gp I [(7, 4, c_trial_brought), (124, 2, y7.2.1)]) (gp J [(0, 13, y4.2)]) (gm A [(8, c_trial_coal), (9, c_trial_inside), (126, y7.2.2)]) (gm B [])) Af s.heap H locs := hW
      refine lv_if_eq (tgt := 83) C0.1 C0.2.1 dX8_goByDraws_68 (by decide) (fun hc8 => ?_) (fun hc8 => ?_)
      · have hf := ite_t hc8 hf
        refine lv_iinc (v := (v2 + 1)) (lv' := [(2, .int (v2 + 1)), (3, .int y4.1), (0, .ref (ad 0)), (1, .int v1)]) C0.1 C0.2.1 dX8_goByDraws_83 hl (k := 3) rfl (congrArg (fun z => _ + z) kI_1) (by decide) rfl (fun ls hl => ?_)
        refine lv_goto (tgt := 16) C0.1 C0.2.1 dX8_goByDraws_86 (by decide) ?_
        exact hk16 c_trial_brought y7.2.1 y4.2 c_trial_coal c_trial_inside y7.2.2 v1 (v2 + 1) H locs ls hW (lv_sub hl [2, 3, 0] rfl) hf
      · have hf := ite_f hc8 hf
        exact tX8_goByDraws_71 C0 hK hN hA hk16 c_trial_brought y7.2.1 y4.2 c_trial_coal c_trial_inside y7.2.2 v1 v2 y4.1 H locs ls hW (lv_sub hl [1, 2, 3, 0] rfl) hf
theorem TX8_goByDraws_16 {p : Program} {l : Launch} {e : Env} {s : State} {m : MethodId} {args : Array Value} {below : List Frame} {meth : Method} {c : Code} {D : va_G} {cy : Nat → ClassId} {ad : Nat → Nat} {P : MP} {V : MV} {I : MI} {J : MJ} {A : MI} {B : MJ} {Af : Nat → Prop} {res : Int32 × Int32 × Int32 × Int64 × (Nat → Int32) × (Nat → Int32) × (Nat → Int32)} (C0 : CX p s m args meth c cX8_goByDraws 4 (some .int) RX8) (hK : va_K D vwCl (tyG cy) s) (hN : NWs s) (hA : ∀ q, s.heap.size ≤ q → Af q) : ∀ n, SX8_goByDraws_16 p l e s m args below meth c D cy ad P V I J A B Af res (itr (fun kk => fX8_goByDraws_16 (I 7 2) (I 7 3) (I 112 13) (I 112 14) (I 112 15) (I 124 4) (A 117) (A 120) (A 121) (A 122) (A 123) (A 125) kk) (fun _ _ _ _ _ _ _ _ => none) n) := by
  intro n
  induction n with
  | zero => intro c_trial_brought c_told_law_waiting c_drawn c_trial_coal c_trial_inside c_told_law_stack v1 v2 H locs ls hW hl hf; exact (nomatch (show (none : Option (Int32 × Int32 × Int32 × Int64 × (Nat → Int32) × (Nat → Int32) × (Nat → Int32))) = some res from hf))
  | succ n ih => exact tX8_goByDraws_16 C0 hK hN hA  ih
def fX8_goByDraws (c_trial_seized : Int32) (c_trial_date : Int32) (c_told_holes : Int32) (c_told_guests : Int32) (c_told_sack : Int32) (c_told_law_length : Int32) (c_told_holeFlags : (Nat → Int32)) (c_told_beside : (Nat → Int32)) (c_told_kinds : (Nat → Int32)) (c_told_guestFlags : (Nat → Int32)) (c_told_foes : (Nat → Int32)) (c_told_law_code : (Nat → Int32)) (c_trial_brought : Int32) (c_told_law_waiting : Int32) (c_drawn : Int64) (c_trial_coal : (Nat → Int32)) (c_trial_inside : (Nat → Int32)) (c_told_law_stack : (Nat → Int32)) : Option (Int32 × Int32 × Int32 × Int64 × (Nat → Int32) × (Nat → Int32) × (Nat → Int32)) := if c_told_holes = 0 then (some (0, c_trial_brought, c_told_law_waiting, c_drawn, c_trial_coal, c_trial_inside, c_told_law_stack)) else (itr (fun kk => fX8_goByDraws_16 c_trial_seized c_trial_date c_told_holes c_told_guests c_told_sack c_told_law_length c_told_holeFlags c_told_beside c_told_kinds c_told_guestFlags c_told_foes c_told_law_code kk) (fun _ _ _ _ _ _ _ _ => none) FU c_trial_brought c_told_law_waiting c_drawn c_trial_coal c_trial_inside c_told_law_stack 0 0)
set_option maxHeartbeats 4000000 in
set_option maxRecDepth 100000 in
theorem KX8_goByDraws (l : Launch) (D : va_G) (cy : Nat → ClassId) (ad : Nat → Nat) (P : MP) (V : MV) (I : MI) (J : MJ) (A : MI) (B : MJ) {res : Int32 × Int32 × Int32 × Int64 × (Nat → Int32) × (Nat → Int32) × (Nat → Int32)} (hf : fX8_goByDraws (I 7 2) (I 7 3) (I 112 13) (I 112 14) (I 112 15) (I 124 4) (A 117) (A 120) (A 121) (A 122) (A 123) (A 125) (I 7 4) (I 124 2) (J 0 13) (A 8) (A 9) (A 126) = some res) : CG l yX8_goByDraws cX8_goByDraws 4 (some .int) rmX8_goByDraws D cy (dn cy LY_X8 ad P V I J A B) [.ref (ad 0)] (some (.int res.1)) (dn cy LY_X8 ad P V (gp I [(7, 4, res.2.1), (124, 2, res.2.2.1)]) (gp J [(0, 13, res.2.2.2.1)]) (gm A [(8, res.2.2.2.2.1), (9, res.2.2.2.2.2.1), (126, res.2.2.2.2.2.2)]) (gm B [])) := by
  refine CG.of (own := RX8) (by decide) rfl rfl ?_
  intro p e s m below meth c ls Af C0 hK hN hA hW hl
  have hW : wd D (dn cy LY_X8 ad P V (gp I [(7, 4, (I 7 4)), (124, 2, (I 124 2))]) (gp J [(0, 13, (J 0 13))]) (gm A [(8, (A 8)), (9, (A 9)), (126, (A 126))]) (gm B [])) Af s.heap s.heap [] := wd_sel [(7, 4), (124, 2)] [(0, 13)] [8, 9, 126] [] hW
  have hl : lv_has ls 4 [(0, .ref (ad 0))] := hl
  unfold fX8_goByDraws at hf
  refine lv_aload_n C0.1 C0.2.1 dX8_goByDraws_0 rfl (lv_at hl 0 rfl) ?_
  refine s_get (v := .ref (ad 112)) C0 hK hW 0 7 LY_X8_0 rfl fg_X8_53 rfl dX8_goByDraws_1 ?_
  refine s_get (v := .int (I 112 13)) C0 hK hW 112 13 LY_X8_112 rfl fg_X8_193 rfl dX8_goByDraws_4 ?_
  refine lv_if_ne (tgt := 12) C0.1 C0.2.1 dX8_goByDraws_7 (by decide) (fun hc1 => ?_) (fun hc1 => ?_)
  · have hf := ite_f hc1 hf
    refine lv_iconst (v := 0) C0.1 C0.2.1 dX8_goByDraws_12 kI_0 ?_
    refine lv_istore_n (lv' := [(1, .int 0), (0, .ref (ad 0))]) C0.1 C0.2.1 dX8_goByDraws_13 rfl hl (by decide) rfl (fun ls hl => ?_)
    refine lv_iconst (v := 0) C0.1 C0.2.1 dX8_goByDraws_14 kI_0 ?_
    refine lv_istore_n (lv' := [(2, .int 0), (1, .int 0), (0, .ref (ad 0))]) C0.1 C0.2.1 dX8_goByDraws_15 rfl hl (by decide) rfl (fun ls hl => ?_)
    exact TX8_goByDraws_16 C0 hK hN hA  FU (I 7 4) (I 124 2) (J 0 13) (A 8) (A 9) (A 126) 0 0 _ _ ls hW (lv_sub hl [2, 1, 0] rfl) hf
  · have hf := ite_t hc1 hf
    refine lv_iconst (v := 0) C0.1 C0.2.1 dX8_goByDraws_10 kI_0 ?_
    obtain rfl := Option.some.inj hf
    exact r_int C0 hK hW dX8_goByDraws_11
