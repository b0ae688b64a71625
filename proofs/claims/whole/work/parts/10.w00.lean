-- X0_add
def rmX0_add : Room := { frames := 1, cells := 0, slots := 0, locals := 21 }
def fX0_add (h_size : Int32) (h_days : (Nat → Int32)) (h_isSome : (Nat → Int32)) (v1 : Int32) (v2 : Int32) : Option (Int32 × Int32 × (Nat → Int32) × (Nat → Int32)) := if h_size < 8 then (bif inb h_size 8 then (bif inb h_size 8 then (some (1, (h_size + 1), (upd h_days (Int32.toNatClampNeg h_size) v1), (upd h_isSome (Int32.toNatClampNeg h_size) (vp_nar .boolean v2)))) else none) else none) else (some (0, h_size, h_days, h_isSome))
set_option maxHeartbeats 4000000 in
set_option maxRecDepth 100000 in
theorem KX0_add (l : Launch) (D : va_G) (cy : Nat → ClassId) (ad : Nat → Nat) (P : MP) (V : MV) (I : MI) (J : MJ) (A : MI) (B : MJ) (v1 : Int32) (v2 : Int32) {res : Int32 × Int32 × (Nat → Int32) × (Nat → Int32)} (hf : fX0_add (I 0 2) (A 1) (A 2) v1 v2 = some res) : CG l yX0_add cX0_add 3 (some .boolean) rmX0_add D cy (dn cy LY_X0 ad P V I J A B) [.ref (ad 0), .int v1, .int v2] (some (.int res.1)) (dn cy LY_X0 ad P V (gp I [(0, 2, res.2.1)]) (gp J []) (gm A [(1, res.2.2.1), (2, res.2.2.2)]) (gm B [])) := by
  refine CG.of (own := RX0) (by decide) rfl rfl ?_
  intro p e s m below meth c ls Af C0 hK hN hA hW hl
  have hW : wd D (dn cy LY_X0 ad P V (gp I [(0, 2, (I 0 2))]) (gp J []) (gm A [(1, (A 1)), (2, (A 2))]) (gm B [])) Af s.heap s.heap [] := wd_sel [(0, 2)] [] [1, 2] [] hW
  have hl : lv_has ls 3 [(0, .ref (ad 0)), (1, .int v1), (2, .int v2)] := hl
  unfold fX0_add at hf
  refine lv_aload_n C0.1 C0.2.1 dX0_add_0 rfl (lv_at hl 0 rfl) ?_
  refine s_get (v := .int (I 0 2)) C0 hK hW 0 2 LY_X0_0 rfl fg_X0_19 rfl dX0_add_1 ?_
  refine lv_bipush (v := 8) C0.1 C0.2.1 dX0_add_4 kB_8 ?_
  refine lv_icmp_lt (tgt := 11) C0.1 C0.2.1 dX0_add_6 (by decide) (fun hc1 => ?_) (fun hc1 => ?_)
  · have hf := ite_t hc1 hf
    refine lv_aload_n C0.1 C0.2.1 dX0_add_11 rfl (lv_at hl 0 rfl) ?_
    refine s_get (v := .ref (ad 1)) C0 hK hW 0 0 LY_X0_0 rfl fg_X0_9 rfl dX0_add_12 ?_
    refine lv_aload_n C0.1 C0.2.1 dX0_add_15 rfl (lv_at hl 0 rfl) ?_
    refine s_get (v := .int (I 0 2)) C0 hK hW 0 2 LY_X0_0 rfl fg_X0_19 rfl dX0_add_16 ?_
    refine lv_iload_n C0.1 C0.2.1 dX0_add_19 rfl (lv_at hl 1 rfl) ?_
    obtain ⟨hb2, hf⟩ := g_some hf
    refine s_iast (f := (upd (A 1) (Int32.toNatClampNeg (I 0 2)) v1)) C0 hK hW 1 LY_X0_1 hb2 rfl rfl dX0_add_20 (fun H locs hW => ?_)
    have hW : wd D (dn cy LY_X0 ad P V (gp I [(0, 2, (I 0 2))]) (gp J []) (gm A [(1, (upd (A 1) (Int32.toNatClampNeg (I 0 2)) v1)), (2, (A 2))]) (gm B [])) Af s.heap H locs := hW
    refine lv_aload_n C0.1 C0.2.1 dX0_add_21 rfl (lv_at hl 0 rfl) ?_
    refine s_get (v := .ref (ad 2)) C0 hK hW 0 1 LY_X0_0 rfl fg_X0_15 rfl dX0_add_22 ?_
    refine lv_aload_n C0.1 C0.2.1 dX0_add_25 rfl (lv_at hl 0 rfl) ?_
    refine s_get (v := .int (I 0 2)) C0 hK hW 0 2 LY_X0_0 rfl fg_X0_19 rfl dX0_add_26 ?_
    refine lv_iload_n C0.1 C0.2.1 dX0_add_29 rfl (lv_at hl 2 rfl) ?_
    obtain ⟨hb3, hf⟩ := g_some hf
    refine s_zast (f := (upd (A 2) (Int32.toNatClampNeg (I 0 2)) (vp_nar .boolean v2))) C0 hK hW 2 LY_X0_2 hb3 rfl rfl dX0_add_30 (fun H locs hW => ?_)
    have hW : wd D (dn cy LY_X0 ad P V (gp I [(0, 2, (I 0 2))]) (gp J []) (gm A [(1, (upd (A 1) (Int32.toNatClampNeg (I 0 2)) v1)), (2, (upd (A 2) (Int32.toNatClampNeg (I 0 2)) (vp_nar .boolean v2)))]) (gm B [])) Af s.heap H locs := hW
    refine lv_aload_n C0.1 C0.2.1 dX0_add_31 rfl (lv_at hl 0 rfl) ?_
    refine lv_dup C0.1 C0.2.1 dX0_add_32 rfl ?_
    refine s_get (v := .int (I 0 2)) C0 hK hW 0 2 LY_X0_0 rfl fg_X0_19 rfl dX0_add_33 ?_
    refine lv_iconst (v := 1) C0.1 C0.2.1 dX0_add_36 kI_1 ?_
    refine lv_iadd C0.1 C0.2.1 dX0_add_37 ?_
    refine s_putI C0 hK hW 0 2 LY_X0_0 rfl fg_X0_19 fp_X0_2 rfl dX0_add_38 (fun H locs hW => ?_)
    have hW : wd D (dn cy LY_X0 ad P V (gp I [(0, 2, ((I 0 2) + 1))]) (gp J []) (gm A [(1, (upd (A 1) (Int32.toNatClampNeg (I 0 2)) v1)), (2, (upd (A 2) (Int32.toNatClampNeg (I 0 2)) (vp_nar .boolean v2)))]) (gm B [])) Af s.heap H locs := hW
    refine lv_iconst (v := 1) C0.1 C0.2.1 dX0_add_41 kI_1 ?_
    obtain rfl := Option.some.inj hf
    exact r_bool C0 hK hW (v' := 1) rfl dX0_add_42
  · have hf := ite_f hc1 hf
    refine lv_iconst (v := 0) C0.1 C0.2.1 dX0_add_9 kI_0 ?_
    obtain rfl := Option.some.inj hf
    exact r_bool C0 hK hW (v' := 0) rfl dX0_add_10
-- X0_copyFrom
def rmX0_copyFrom : Room := { frames := 1, cells := 0, slots := 0, locals := 21 }
def SX0_copyFrom_2 (p : Program) (l : Launch) (e : Env) (s : State) (m : MethodId) (args : Array Value) (below : List Frame) (meth : Method) (c : Code) (D : va_G) (cy : Nat → ClassId) (ad : Nat → Nat) (P : MP) (V : MV) (I : MI) (J : MJ) (A : MI) (B : MJ) (Af : Nat → Prop) (res : Int32 × (Nat → Int32) × (Nat → Int32)) (k : Int32 → (Nat → Int32) → (Nat → Int32) → Int32 → Option (Int32 × (Nat → Int32) × (Nat → Int32))) : Prop := ∀ (h_size : Int32) (h_days : (Nat → Int32)) (h_isSome : (Nat → Int32)) (v2 : Int32) (H : Heap) (locs : List Loc) (ls : Array Slot), wd D (dn cy LY_X0X0 ad P V (gp I [(0, 2, h_size)]) (gp J []) (gm A [(1, h_days), (2, h_isSome)]) (gm B [])) Af s.heap H locs → lv_has ls 3 [(0, .ref (ad 0)), (1, .ref (ad 3)), (2, .int v2)] → k h_size h_days h_isSome v2 = some res → W p l e rmX0_copyFrom s m args below meth c H locs 0 0 (ZQ below D cy (dn cy LY_X0X0 ad P V (gp I [(0, 2, res.1)]) (gp J []) (gm A [(1, res.2.1), (2, res.2.2)]) (gm B [])) none Af args s) (F0 m 2 ls [])
def fX0_copyFrom_2 (h2_size : Int32) (h2_days : (Nat → Int32)) (h2_isSome : (Nat → Int32)) (k2 : Int32 → (Nat → Int32) → (Nat → Int32) → Int32 → Option (Int32 × (Nat → Int32) × (Nat → Int32))) (h_size : Int32) (h_days : (Nat → Int32)) (h_isSome : (Nat → Int32)) (v2 : Int32) : Option (Int32 × (Nat → Int32) × (Nat → Int32)) := if 8 ≤ v2 then (some (h2_size, h_days, h_isSome)) else (bif inb v2 8 then (bif inb v2 8 then (bif inb v2 8 then (bif inb v2 8 then (k2 h_size (upd h_days (Int32.toNatClampNeg v2) (h2_days (Int32.toNatClampNeg v2))) (upd h_isSome (Int32.toNatClampNeg v2) (vp_nar .boolean (h2_isSome (Int32.toNatClampNeg v2)))) (v2 + 1)) else none) else none) else none) else none)
set_option maxHeartbeats 4000000 in
set_option maxRecDepth 100000 in
theorem tX0_copyFrom_2 {p : Program} {l : Launch} {e : Env} {s : State} {m : MethodId} {args : Array Value} {below : List Frame} {meth : Method} {c : Code} {D : va_G} {cy : Nat → ClassId} {ad : Nat → Nat} {P : MP} {V : MV} {I : MI} {J : MJ} {A : MI} {B : MJ} {Af : Nat → Prop} {res : Int32 × (Nat → Int32) × (Nat → Int32)} (C0 : CX p s m args meth c cX0_copyFrom 3 none RX0) (hK : va_K D vwCl (tyG cy) s) (hN : NWs s) (hA : ∀ q, s.heap.size ≤ q → Af q) {k2 : Int32 → (Nat → Int32) → (Nat → Int32) → Int32 → Option (Int32 × (Nat → Int32) × (Nat → Int32))} (hk2 : SX0_copyFrom_2 p l e s m args below meth c D cy ad P V I J A B Af res k2) : SX0_copyFrom_2 p l e s m args below meth c D cy ad P V I J A B Af res (fX0_copyFrom_2 (I 3 2) (A 4) (A 5) k2) := by
  intro h_size h_days h_isSome v2 H locs ls hW hl hf
  unfold fX0_copyFrom_2 at hf
  refine lv_iload_n C0.1 C0.2.1 dX0_copyFrom_2 rfl (lv_at hl 2 rfl) ?_
  refine lv_bipush (v := 8) C0.1 C0.2.1 dX0_copyFrom_3 kB_8 ?_
  refine lv_icmp_ge (tgt := 38) C0.1 C0.2.1 dX0_copyFrom_5 (by decide) (fun hc1 => ?_) (fun hc1 => ?_)
  · have hf := ite_t hc1 hf
    refine lv_aload_n C0.1 C0.2.1 dX0_copyFrom_38 rfl (lv_at hl 0 rfl) ?_
    refine lv_aload_n C0.1 C0.2.1 dX0_copyFrom_39 rfl (lv_at hl 1 rfl) ?_
    refine s_get (v := .int (I 3 2)) C0 hK hW 3 2 LY_X0X0_3 rfl fg_X0_19 rfl dX0_copyFrom_40 ?_
    refine s_putI C0 hK hW 0 2 LY_X0X0_0 rfl fg_X0_19 fp_X0_2 rfl dX0_copyFrom_43 (fun H locs hW => ?_)
    have hW : wd D (dn cy LY_X0X0 ad P V (gp I [(0, 2, (I 3 2))]) (gp J []) (gm A [(1, h_days), (2, h_isSome)]) (gm B [])) Af s.heap H locs := hW
    obtain rfl := Option.some.inj hf
    exact r_void C0 hK hW dX0_copyFrom_46
  · have hf := ite_f hc1 hf
    refine lv_aload_n C0.1 C0.2.1 dX0_copyFrom_8 rfl (lv_at hl 0 rfl) ?_
    refine s_get (v := .ref (ad 1)) C0 hK hW 0 0 LY_X0X0_0 rfl fg_X0_9 rfl dX0_copyFrom_9 ?_
    refine lv_iload_n C0.1 C0.2.1 dX0_copyFrom_12 rfl (lv_at hl 2 rfl) ?_
    refine lv_aload_n C0.1 C0.2.1 dX0_copyFrom_13 rfl (lv_at hl 1 rfl) ?_
    refine s_get (v := .ref (ad 4)) C0 hK hW 3 0 LY_X0X0_3 rfl fg_X0_9 rfl dX0_copyFrom_14 ?_
    refine lv_iload_n C0.1 C0.2.1 dX0_copyFrom_17 rfl (lv_at hl 2 rfl) ?_
    obtain ⟨hb2, hf⟩ := g_some hf
    refine s_iald (v := ((A 4) (Int32.toNatClampNeg v2))) C0 hK hW 4 LY_X0X0_4 hb2 rfl dX0_copyFrom_18 ?_
    obtain ⟨hb3, hf⟩ := g_some hf
    refine s_iast (f := (upd h_days (Int32.toNatClampNeg v2) ((A 4) (Int32.toNatClampNeg v2)))) C0 hK hW 1 LY_X0X0_1 hb3 rfl rfl dX0_copyFrom_19 (fun H locs hW => ?_)
    have hW : wd D (dn cy LY_X0X0 ad P V (gp I [(0, 2, h_size)]) (gp J []) (gm A [(1, (upd h_days (Int32.toNatClampNeg v2) ((A 4) (Int32.toNatClampNeg v2)))), (2, h_isSome)]) (gm B [])) Af s.heap H locs := hW
    refine lv_aload_n C0.1 C0.2.1 dX0_copyFrom_20 rfl (lv_at hl 0 rfl) ?_
    refine s_get (v := .ref (ad 2)) C0 hK hW 0 1 LY_X0X0_0 rfl fg_X0_15 rfl dX0_copyFrom_21 ?_
    refine lv_iload_n C0.1 C0.2.1 dX0_copyFrom_24 rfl (lv_at hl 2 rfl) ?_
    refine lv_aload_n C0.1 C0.2.1 dX0_copyFrom_25 rfl (lv_at hl 1 rfl) ?_
    refine s_get (v := .ref (ad 5)) C0 hK hW 3 1 LY_X0X0_3 rfl fg_X0_15 rfl dX0_copyFrom_26 ?_
    refine lv_iload_n C0.1 C0.2.1 dX0_copyFrom_29 rfl (lv_at hl 2 rfl) ?_
    obtain ⟨hb4, hf⟩ := g_some hf
    refine s_zald (v := ((A 5) (Int32.toNatClampNeg v2))) C0 hK hW 5 LY_X0X0_5 hb4 rfl dX0_copyFrom_30 ?_
    obtain ⟨hb5, hf⟩ := g_some hf
    refine s_zast (f := (upd h_isSome (Int32.toNatClampNeg v2) (vp_nar .boolean ((A 5) (Int32.toNatClampNeg v2))))) C0 hK hW 2 LY_X0X0_2 hb5 rfl rfl dX0_copyFrom_31 (fun H locs hW => ?_)
    have hW : wd D (dn cy LY_X0X0 ad P V (gp I [(0, 2, h_size)]) (gp J []) (gm A [(1, (upd h_days (Int32.toNatClampNeg v2) ((A 4) (Int32.toNatClampNeg v2)))), (2, (upd h_isSome (Int32.toNatClampNeg v2) (vp_nar .boolean ((A 5) (Int32.toNatClampNeg v2)))))]) (gm B [])) Af s.heap H locs := hW
    refine lv_iinc (v := (v2 + 1)) (lv' := [(2, .int (v2 + 1)), (0, .ref (ad 0)), (1, .ref (ad 3))]) C0.1 C0.2.1 dX0_copyFrom_32 hl (k := 2) rfl (congrArg (fun z => _ + z) kI_1) (by decide) rfl (fun ls hl => ?_)
    refine lv_goto (tgt := 2) C0.1 C0.2.1 dX0_copyFrom_35 (by decide) ?_
    exact hk2 h_size (upd h_days (Int32.toNatClampNeg v2) ((A 4) (Int32.toNatClampNeg v2))) (upd h_isSome (Int32.toNatClampNeg v2) (vp_nar .boolean ((A 5) (Int32.toNatClampNeg v2)))) (v2 + 1) H locs ls hW (lv_sub hl [1, 2, 0] rfl) hf
theorem TX0_copyFrom_2 {p : Program} {l : Launch} {e : Env} {s : State} {m : MethodId} {args : Array Value} {below : List Frame} {meth : Method} {c : Code} {D : va_G} {cy : Nat → ClassId} {ad : Nat → Nat} {P : MP} {V : MV} {I : MI} {J : MJ} {A : MI} {B : MJ} {Af : Nat → Prop} {res : Int32 × (Nat → Int32) × (Nat → Int32)} (C0 : CX p s m args meth c cX0_copyFrom 3 none RX0) (hK : va_K D vwCl (tyG cy) s) (hN : NWs s) (hA : ∀ q, s.heap.size ≤ q → Af q) : ∀ n, SX0_copyFrom_2 p l e s m args below meth c D cy ad P V I J A B Af res (itr (fun kk => fX0_copyFrom_2 (I 3 2) (A 4) (A 5) kk) (fun _ _ _ _ => none) n) := by
  intro n
  induction n with
  | zero => intro h_size h_days h_isSome v2 H locs ls hW hl hf; exact (nomatch (show (none : Option (Int32 × (Nat → Int32) × (Nat → Int32))) = some res from hf))
  | succ n ih => exact tX0_copyFrom_2 C0 hK hN hA  ih
def fX0_copyFrom (h2_size : Int32) (h2_days : (Nat → Int32)) (h2_isSome : (Nat → Int32)) (h_size : Int32) (h_days : (Nat → Int32)) (h_isSome : (Nat → Int32)) : Option (Int32 × (Nat → Int32) × (Nat → Int32)) := itr (fun kk => fX0_copyFrom_2 h2_size h2_days h2_isSome kk) (fun _ _ _ _ => none) FU h_size h_days h_isSome 0
set_option maxHeartbeats 4000000 in
set_option maxRecDepth 100000 in
theorem KX0_copyFrom (l : Launch) (D : va_G) (cy : Nat → ClassId) (ad : Nat → Nat) (P : MP) (V : MV) (I : MI) (J : MJ) (A : MI) (B : MJ) {res : Int32 × (Nat → Int32) × (Nat → Int32)} (hf : fX0_copyFrom (I 3 2) (A 4) (A 5) (I 0 2) (A 1) (A 2) = some res) : CG l yX0_copyFrom cX0_copyFrom 3 none rmX0_copyFrom D cy (dn cy LY_X0X0 ad P V I J A B) [.ref (ad 0), .ref (ad 3)] none (dn cy LY_X0X0 ad P V (gp I [(0, 2, res.1)]) (gp J []) (gm A [(1, res.2.1), (2, res.2.2)]) (gm B [])) := by
  refine CG.of (own := RX0) (by decide) rfl rfl ?_
  intro p e s m below meth c ls Af C0 hK hN hA hW hl
  have hW : wd D (dn cy LY_X0X0 ad P V (gp I [(0, 2, (I 0 2))]) (gp J []) (gm A [(1, (A 1)), (2, (A 2))]) (gm B [])) Af s.heap s.heap [] := wd_sel [(0, 2)] [] [1, 2] [] hW
  have hl : lv_has ls 3 [(0, .ref (ad 0)), (1, .ref (ad 3))] := hl
  unfold fX0_copyFrom at hf
  refine lv_iconst (v := 0) C0.1 C0.2.1 dX0_copyFrom_0 kI_0 ?_
  refine lv_istore_n (lv' := [(2, .int 0), (0, .ref (ad 0)), (1, .ref (ad 3))]) C0.1 C0.2.1 dX0_copyFrom_1 rfl hl (by decide) rfl (fun ls hl => ?_)
  exact TX0_copyFrom_2 C0 hK hN hA  FU (I 0 2) (A 1) (A 2) 0 _ _ ls hW (lv_sub hl [1, 2, 0] rfl) hf
-- X6_coldOf
def rmX6_coldOf : Room := { frames := 1, cells := 0, slots := 0, locals := 21 }
def fX6_coldOf (t_colds : Int32) (t_cold : (Nat → Int32)) (v1 : Int32) : Option (Int32) := if t_colds ≤ 0 then (some (1)) else (if v1 < 0 then (some (1)) else (if t_colds = 0 then none else (bif inb (v1 - v1 / t_colds * t_colds) 12 then (some ((t_cold (Int32.toNatClampNeg (v1 - v1 / t_colds * t_colds))))) else none)))
set_option maxHeartbeats 4000000 in
set_option maxRecDepth 100000 in
theorem KX6_coldOf (l : Launch) (D : va_G) (cy : Nat → ClassId) (ad : Nat → Nat) (P : MP) (V : MV) (I : MI) (J : MJ) (A : MI) (B : MJ) (v1 : Int32) {res : Int32} (hf : fX6_coldOf (I 0 4) (A 4) v1 = some res) : CG l yX6_coldOf cX6_coldOf 2 (some .int) rmX6_coldOf D cy (dn cy LY_X6 ad P V I J A B) [.ref (ad 0), .int v1] (some (.int res)) (dn cy LY_X6 ad P V (gp I []) (gp J []) (gm A []) (gm B [])) := by
  refine CG.of (own := RX6) (by decide) rfl rfl ?_
  intro p e s m below meth c ls Af C0 hK hN hA hW hl
  have hW : wd D (dn cy LY_X6 ad P V (gp I []) (gp J []) (gm A []) (gm B [])) Af s.heap s.heap [] := wd_sel [] [] [] [] hW
  have hl : lv_has ls 2 [(0, .ref (ad 0)), (1, .int v1)] := hl
  unfold fX6_coldOf at hf
  refine lv_aload_n C0.1 C0.2.1 dX6_coldOf_0 rfl (lv_at hl 0 rfl) ?_
  refine s_get (v := .int (I 0 4)) C0 hK hW 0 4 LY_X6_0 rfl fg_X6_113 rfl dX6_coldOf_1 ?_
  refine lv_if_le (tgt := 25) C0.1 C0.2.1 dX6_coldOf_4 (by decide) (fun hc1 => ?_) (fun hc1 => ?_)
  · have hf := ite_t hc1 hf
    refine lv_iconst (v := 1) C0.1 C0.2.1 dX6_coldOf_25 kI_1 ?_
    obtain rfl := Option.some.inj hf
    exact r_int C0 hK hW dX6_coldOf_26
  · have hf := ite_f hc1 hf
    refine lv_iload_n C0.1 C0.2.1 dX6_coldOf_7 rfl (lv_at hl 1 rfl) ?_
    refine lv_if_lt (tgt := 25) C0.1 C0.2.1 dX6_coldOf_8 (by decide) (fun hc2 => ?_) (fun hc2 => ?_)
    · have hf := ite_t hc2 hf
      refine lv_iconst (v := 1) C0.1 C0.2.1 dX6_coldOf_25 kI_1 ?_
      obtain rfl := Option.some.inj hf
      exact r_int C0 hK hW dX6_coldOf_26
    · have hf := ite_f hc2 hf
      refine lv_aload_n C0.1 C0.2.1 dX6_coldOf_11 rfl (lv_at hl 0 rfl) ?_
      refine s_get (v := .ref (ad 4)) C0 hK hW 0 3 LY_X6_0 rfl fg_X6_22 rfl dX6_coldOf_12 ?_
      refine lv_iload_n C0.1 C0.2.1 dX6_coldOf_15 rfl (lv_at hl 1 rfl) ?_
      refine lv_aload_n C0.1 C0.2.1 dX6_coldOf_16 rfl (lv_at hl 0 rfl) ?_
      refine s_get (v := .int (I 0 4)) C0 hK hW 0 4 LY_X6_0 rfl fg_X6_113 rfl dX6_coldOf_17 ?_
      obtain ⟨hz3, hf⟩ := z_some hf
      refine lv_irem C0.1 C0.2.1 dX6_coldOf_20 hz3 ?_
      obtain ⟨hb4, hf⟩ := g_some hf
      refine s_iald (v := ((A 4) (Int32.toNatClampNeg (v1 - v1 / (I 0 4) * (I 0 4))))) C0 hK hW 4 LY_X6_4 hb4 rfl dX6_coldOf_21 ?_
      refine lv_goto (tgt := 26) C0.1 C0.2.1 dX6_coldOf_22 (by decide) ?_
      obtain rfl := Option.some.inj hf
      exact r_int C0 hK hW dX6_coldOf_26
-- X6_coldOver
def rmX6_coldOver : Room := { frames := 2, cells := 0, slots := 0, locals := 42 }
def SX6_coldOver_5 (p : Program) (l : Launch) (e : Env) (s : State) (m : MethodId) (args : Array Value) (below : List Frame) (meth : Method) (c : Code) (D : va_G) (cy : Nat → ClassId) (ad : Nat → Nat) (P : MP) (V : MV) (I : MI) (J : MJ) (A : MI) (B : MJ) (Af : Nat → Prop) (res : Int32) (k : Int32 → Int32 → Int32 → Int32 → Option (Int32)) : Prop := ∀ (v1 : Int32) (v2 : Int32) (v3 : Int32) (v4 : Int32) (H : Heap) (locs : List Loc) (ls : Array Slot), wd D (dn cy LY_X6 ad P V (gp I []) (gp J []) (gm A []) (gm B [])) Af s.heap H locs → lv_has ls 5 [(0, .ref (ad 0)), (1, .int v1), (2, .int v2), (3, .int v3), (4, .int v4)] → k v1 v2 v3 v4 = some res → W p l e rmX6_coldOver s m args below meth c H locs 0 0 (ZQ below D cy (dn cy LY_X6 ad P V (gp I []) (gp J []) (gm A []) (gm B [])) (some (.int res)) Af args s) (F0 m 5 ls [])
def fX6_coldOver_5 (t_colds : Int32) (t_cold : (Nat → Int32)) (k5 : Int32 → Int32 → Int32 → Int32 → Option (Int32)) (v1 : Int32) (v2 : Int32) (v3 : Int32) (v4 : Int32) : Option (Int32) := if v2 ≤ v4 then (some (v3)) else (Option.bind (fX6_coldOf t_colds t_cold (v1 + v4)) fun y2 => (k5 v1 v2 (v3 + y2) (v4 + 1)))
set_option maxHeartbeats 4000000 in
set_option maxRecDepth 100000 in
theorem tX6_coldOver_5 {p : Program} {l : Launch} {e : Env} {s : State} {m : MethodId} {args : Array Value} {below : List Frame} {meth : Method} {c : Code} {D : va_G} {cy : Nat → ClassId} {ad : Nat → Nat} {P : MP} {V : MV} {I : MI} {J : MJ} {A : MI} {B : MJ} {Af : Nat → Prop} {res : Int32} (C0 : CX p s m args meth c cX6_coldOver 5 (some .int) RX6) (hK : va_K D vwCl (tyG cy) s) (hN : NWs s) (hA : ∀ q, s.heap.size ≤ q → Af q) {k5 : Int32 → Int32 → Int32 → Int32 → Option (Int32)} (hk5 : SX6_coldOver_5 p l e s m args below meth c D cy ad P V I J A B Af res k5) : SX6_coldOver_5 p l e s m args below meth c D cy ad P V I J A B Af res (fX6_coldOver_5 (I 0 4) (A 4) k5) := by
  intro v1 v2 v3 v4 H locs ls hW hl hf
  unfold fX6_coldOver_5 at hf
  refine lv_iload C0.1 C0.2.1 dX6_coldOver_5 (lv_at hl 4 rfl) ?_
  refine lv_iload_n C0.1 C0.2.1 dX6_coldOver_7 rfl (lv_at hl 2 rfl) ?_
  refine lv_icmp_ge (tgt := 28) C0.1 C0.2.1 dX6_coldOver_8 (by decide) (fun hc1 => ?_) (fun hc1 => ?_)
  · have hf := ite_t hc1 hf
    refine lv_iload_n C0.1 C0.2.1 dX6_coldOver_28 rfl (lv_at hl 3 rfl) ?_
    obtain rfl := Option.some.inj hf
    exact r_int C0 hK hW dX6_coldOver_29
  · have hf := ite_f hc1 hf
    refine lv_iload_n C0.1 C0.2.1 dX6_coldOver_11 rfl (lv_at hl 3 rfl) ?_
    refine lv_aload_n C0.1 C0.2.1 dX6_coldOver_12 rfl (lv_at hl 0 rfl) ?_
    refine lv_iload_n C0.1 C0.2.1 dX6_coldOver_13 rfl (lv_at hl 1 rfl) ?_
    refine lv_iload C0.1 C0.2.1 dX6_coldOver_14 (lv_at hl 4 rfl) ?_
    refine lv_iadd C0.1 C0.2.1 dX6_coldOver_16 ?_
    obtain ⟨y2, hy2, hf⟩ := b_some hf
    refine c_Vi C0 hK hN hl.1 hW hA (KX6_coldOf l D cy  ad P V (gp I []) (gp J []) (gm A []) (gm B []) (v1 + v4) hy2) (JN_id rfl rfl rfl rfl) (Uw_V uw_806 uw_741 uw_742 uw_10 uw_743) rfl rfl hd_X6_coldOf ⟨rfl, rfl⟩ rfl (dn_some LY_X6_0) rfl rfl rfl dX6_coldOver_17 ⟨Nat.zero_le _, Nat.zero_le _⟩ (fun H locs hW => ?_)
    have hW : wd D (dn cy LY_X6 ad P V (gp I []) (gp J []) (gm A []) (gm B [])) Af s.heap H locs := hW
    refine lv_iadd C0.1 C0.2.1 dX6_coldOver_20 ?_
    refine lv_istore_n (lv' := [(3, .int (v3 + y2)), (0, .ref (ad 0)), (1, .int v1), (2, .int v2), (4, .int v4)]) C0.1 C0.2.1 dX6_coldOver_21 rfl hl (by decide) rfl (fun ls hl => ?_)
    refine lv_iinc (v := (v4 + 1)) (lv' := [(4, .int (v4 + 1)), (3, .int (v3 + y2)), (0, .ref (ad 0)), (1, .int v1), (2, .int v2)]) C0.1 C0.2.1 dX6_coldOver_22 hl (k := 4) rfl (congrArg (fun z => _ + z) kI_1) (by decide) rfl (fun ls hl => ?_)
    refine lv_goto (tgt := 5) C0.1 C0.2.1 dX6_coldOver_25 (by decide) ?_
    exact hk5 v1 v2 (v3 + y2) (v4 + 1) H locs ls hW (lv_sub hl [2, 3, 4, 1, 0] rfl) hf
theorem TX6_coldOver_5 {p : Program} {l : Launch} {e : Env} {s : State} {m : MethodId} {args : Array Value} {below : List Frame} {meth : Method} {c : Code} {D : va_G} {cy : Nat → ClassId} {ad : Nat → Nat} {P : MP} {V : MV} {I : MI} {J : MJ} {A : MI} {B : MJ} {Af : Nat → Prop} {res : Int32} (C0 : CX p s m args meth c cX6_coldOver 5 (some .int) RX6) (hK : va_K D vwCl (tyG cy) s) (hN : NWs s) (hA : ∀ q, s.heap.size ≤ q → Af q) : ∀ n, SX6_coldOver_5 p l e s m args below meth c D cy ad P V I J A B Af res (itr (fun kk => fX6_coldOver_5 (I 0 4) (A 4) kk) (fun _ _ _ _ => none) n) := by
  intro n
  induction n with
  | zero => intro v1 v2 v3 v4 H locs ls hW hl hf; exact (nomatch (show (none : Option (Int32)) = some res from hf))
  | succ n ih => exact tX6_coldOver_5 C0 hK hN hA  ih
def fX6_coldOver (t_colds : Int32) (t_cold : (Nat → Int32)) (v1 : Int32) (v2 : Int32) : Option (Int32) := itr (fun kk => fX6_coldOver_5 t_colds t_cold kk) (fun _ _ _ _ => none) FU v1 v2 0 0
set_option maxHeartbeats 4000000 in
set_option maxRecDepth 100000 in
theorem KX6_coldOver (l : Launch) (D : va_G) (cy : Nat → ClassId) (ad : Nat → Nat) (P : MP) (V : MV) (I : MI) (J : MJ) (A : MI) (B : MJ) (v1 : Int32) (v2 : Int32) {res : Int32} (hf : fX6_coldOver (I 0 4) (A 4) v1 v2 = some res) : CG l yX6_coldOver cX6_coldOver 5 (some .int) rmX6_coldOver D cy (dn cy LY_X6 ad P V I J A B) [.ref (ad 0), .int v1, .int v2] (some (.int res)) (dn cy LY_X6 ad P V (gp I []) (gp J []) (gm A []) (gm B [])) := by
  refine CG.of (own := RX6) (by decide) rfl rfl ?_
  intro p e s m below meth c ls Af C0 hK hN hA hW hl
  have hW : wd D (dn cy LY_X6 ad P V (gp I []) (gp J []) (gm A []) (gm B [])) Af s.heap s.heap [] := wd_sel [] [] [] [] hW
  have hl : lv_has ls 5 [(0, .ref (ad 0)), (1, .int v1), (2, .int v2)] := hl
  unfold fX6_coldOver at hf
  refine lv_iconst (v := 0) C0.1 C0.2.1 dX6_coldOver_0 kI_0 ?_
  refine lv_istore_n (lv' := [(3, .int 0), (0, .ref (ad 0)), (1, .int v1), (2, .int v2)]) C0.1 C0.2.1 dX6_coldOver_1 rfl hl (by decide) rfl (fun ls hl => ?_)
  refine lv_iconst (v := 0) C0.1 C0.2.1 dX6_coldOver_2 kI_0 ?_
  refine lv_istore (lv' := [(4, .int 0), (3, .int 0), (0, .ref (ad 0)), (1, .int v1), (2, .int v2)]) C0.1 C0.2.1 dX6_coldOver_3 hl (by decide) rfl (fun ls hl => ?_)
  exact TX6_coldOver_5 C0 hK hN hA  FU v1 v2 0 0 _ _ ls hW (lv_sub hl [2, 3, 4, 1, 0] rfl) hf
-- X0_narrow
def rmX0_narrow : Room := { frames := 3, cells := 0, slots := 0, locals := 66 }
def SX0_narrow_13 (p : Program) (l : Launch) (e : Env) (s : State) (m : MethodId) (args : Array Value) (below : List Frame) (meth : Method) (c : Code) (D : va_G) (cy : Nat → ClassId) (ad : Nat → Nat) (P : MP) (V : MV) (I : MI) (J : MJ) (A : MI) (B : MJ) (Af : Nat → Prop) (res : Int32 × Int32) (k : Int32 → Int32 → Int32 → Int32 → Option (Int32 × Int32)) : Prop := ∀ (h_least : Int32) (h_greatest : Int32) (v2 : Int32) (v3 : Int32) (H : Heap) (locs : List Loc) (ls : Array Slot), wd D (dn cy LY_X0X6 ad P V (gp I [(0, 3, h_least), (0, 4, h_greatest)]) (gp J []) (gm A []) (gm B [])) Af s.heap H locs → lv_has ls 5 [(0, .ref (ad 0)), (1, .ref (ad 3)), (2, .int v2), (3, .int v3)] → k h_least h_greatest v2 v3 = some res → W p l e rmX0_narrow s m args below meth c H locs 0 0 (ZQ below D cy (dn cy LY_X0X6 ad P V (gp I [(0, 3, res.1), (0, 4, res.2)]) (gp J []) (gm A []) (gm B [])) none Af args s) (F0 m 13 ls [])
def fX0_narrow_13 (h_size : Int32) (t_colds : Int32) (h_days : (Nat → Int32)) (h_isSome : (Nat → Int32)) (t_cold : (Nat → Int32)) (k13 : Int32 → Int32 → Int32 → Int32 → Option (Int32 × Int32)) (h_least : Int32) (h_greatest : Int32) (v2 : Int32) (v3 : Int32) : Option (Int32 × Int32) := if h_size ≤ v3 then (some (h_least, h_greatest)) else (bif inb v3 8 then (Option.bind (fX6_coldOver t_colds t_cold v2 (h_days (Int32.toNatClampNeg v3))) fun y3 => (bif inb v3 8 then (if (h_isSome (Int32.toNatClampNeg v3)) = 0 then (k13 h_least (imin h_greatest (2 * y3)) v2 (v3 + 1)) else (k13 (imax h_least ((2 * y3) + 1)) h_greatest v2 (v3 + 1))) else none)) else none)
set_option maxHeartbeats 4000000 in
set_option maxRecDepth 100000 in
theorem tX0_narrow_13 {p : Program} {l : Launch} {e : Env} {s : State} {m : MethodId} {args : Array Value} {below : List Frame} {meth : Method} {c : Code} {D : va_G} {cy : Nat → ClassId} {ad : Nat → Nat} {P : MP} {V : MV} {I : MI} {J : MJ} {A : MI} {B : MJ} {Af : Nat → Prop} {res : Int32 × Int32} (C0 : CX p s m args meth c cX0_narrow 5 none RX0) (hK : va_K D vwCl (tyG cy) s) (hN : NWs s) (hA : ∀ q, s.heap.size ≤ q → Af q) {k13 : Int32 → Int32 → Int32 → Int32 → Option (Int32 × Int32)} (hk13 : SX0_narrow_13 p l e s m args below meth c D cy ad P V I J A B Af res k13) : SX0_narrow_13 p l e s m args below meth c D cy ad P V I J A B Af res (fX0_narrow_13 (I 0 2) (I 3 4) (A 1) (A 2) (A 7) k13) := by
  intro h_least h_greatest v2 v3 H locs ls hW hl hf
  unfold fX0_narrow_13 at hf
  refine lv_iload_n C0.1 C0.2.1 dX0_narrow_13 rfl (lv_at hl 3 rfl) ?_
  refine lv_aload_n C0.1 C0.2.1 dX0_narrow_14 rfl (lv_at hl 0 rfl) ?_
  refine s_get (v := .int (I 0 2)) C0 hK hW 0 2 LY_X0X6_0 rfl fg_X0_19 rfl dX0_narrow_15 ?_
  refine lv_icmp_ge (tgt := 82) C0.1 C0.2.1 dX0_narrow_18 (by decide) (fun hc1 => ?_) (fun hc1 => ?_)
  · have hf := ite_t hc1 hf
    obtain rfl := Option.some.inj hf
    exact r_void C0 hK hW dX0_narrow_82
  · have hf := ite_f hc1 hf
    refine lv_iconst (v := 2) C0.1 C0.2.1 dX0_narrow_21 kI_2 ?_
    refine lv_aload_n C0.1 C0.2.1 dX0_narrow_22 rfl (lv_at hl 1 rfl) ?_
    refine lv_iload_n C0.1 C0.2.1 dX0_narrow_23 rfl (lv_at hl 2 rfl) ?_
    refine lv_aload_n C0.1 C0.2.1 dX0_narrow_24 rfl (lv_at hl 0 rfl) ?_
    refine s_get (v := .ref (ad 1)) C0 hK hW 0 0 LY_X0X6_0 rfl fg_X0_9 rfl dX0_narrow_25 ?_
    refine lv_iload_n C0.1 C0.2.1 dX0_narrow_28 rfl (lv_at hl 3 rfl) ?_
    obtain ⟨hb2, hf⟩ := g_some hf
    refine s_iald (v := ((A 1) (Int32.toNatClampNeg v3))) C0 hK hW 1 LY_X0X6_1 hb2 rfl dX0_narrow_29 ?_
    obtain ⟨y3, hy3, hf⟩ := b_some hf
    refine c_Vi C0 hK hN hl.1 hW hA (KX6_coldOver l D cy  (fun q => ad (pl_LY_X0X6_LY_X6_3_4_5407097.getD q 0)) (fun q => P (pl_LY_X0X6_LY_X6_3_4_5407097.getD q 0)) (fun q => Vx LY_X0X6 ad V (pl_LY_X0X6_LY_X6_3_4_5407097.getD q 0)) (fun q => gp I [(0, 3, h_least), (0, 4, h_greatest)] (pl_LY_X0X6_LY_X6_3_4_5407097.getD q 0)) (fun q => gp J [] (pl_LY_X0X6_LY_X6_3_4_5407097.getD q 0)) (fun q => gm A [] (pl_LY_X0X6_LY_X6_3_4_5407097.getD q 0)) (fun q => gm B [] (pl_LY_X0X6_LY_X6_3_4_5407097.getD q 0)) v2 ((A 1) (Int32.toNatClampNeg v3)) hy3) (JN_subC (pl := pl_LY_X0X6_LY_X6_3_4_5407097) sb_LY_X0X6_LY_X6_3_4_5407097 rfl rfl rfl rfl rfl rfl rfl rfl rfl) (Uw_V uw_903 uw_803 uw_804 uw_10 uw_805) rfl rfl hd_X6_coldOver ⟨rfl, rfl⟩ rfl (dn_some LY_X0X6_3) rfl rfl rfl dX0_narrow_30 ⟨Nat.zero_le _, Nat.zero_le _⟩ (fun H locs hW => ?_)
    have hW : wd D (dn cy LY_X0X6 ad P V (gp I [(0, 3, h_least), (0, 4, h_greatest)]) (gp J []) (gm A []) (gm B [])) Af s.heap H locs := hW
    refine lv_imul C0.1 C0.2.1 dX0_narrow_33 ?_
    refine lv_istore (lv' := [(4, .int (2 * y3)), (0, .ref (ad 0)), (1, .ref (ad 3)), (2, .int v2), (3, .int v3)]) C0.1 C0.2.1 dX0_narrow_34 hl (by decide) rfl (fun ls hl => ?_)
    refine lv_aload_n C0.1 C0.2.1 dX0_narrow_36 rfl (lv_at hl 1 rfl) ?_
    refine s_get (v := .ref (ad 2)) C0 hK hW 0 1 LY_X0X6_0 rfl fg_X0_15 rfl dX0_narrow_37 ?_
    refine lv_iload_n C0.1 C0.2.1 dX0_narrow_40 rfl (lv_at hl 4 rfl) ?_
    obtain ⟨hb4, hf⟩ := g_some hf
    refine s_zald (v := ((A 2) (Int32.toNatClampNeg v3))) C0 hK hW 2 LY_X0X6_2 hb4 rfl dX0_narrow_41 ?_
    refine lv_if_eq (tgt := 63) C0.1 C0.2.1 dX0_narrow_42 (by decide) (fun hc5 => ?_) (fun hc5 => ?_)
    · have hf := ite_t hc5 hf
      refine lv_aload_n C0.1 C0.2.1 dX0_narrow_63 rfl (lv_at hl 1 rfl) ?_
      refine lv_aload_n C0.1 C0.2.1 dX0_narrow_64 rfl (lv_at hl 1 rfl) ?_
      refine s_get (v := .int h_greatest) C0 hK hW 0 4 LY_X0X6_0 rfl fg_X0_26 rfl dX0_narrow_65 ?_
      refine lv_iload C0.1 C0.2.1 dX0_narrow_68 (lv_at hl 0 rfl) ?_
      refine s_min C0 hl.1 uw_905 uw_700 uw_16 uw_701 (Nat.le_of_ble_eq_true rfl) (Nat.le_of_ble_eq_true rfl) (Nat.zero_le _) (Nat.zero_le _) dX0_narrow_70 ?_
      refine s_putI C0 hK hW 0 4 LY_X0X6_0 rfl fg_X0_26 fp_X0_4 rfl dX0_narrow_73 (fun H locs hW => ?_)
      have hW : wd D (dn cy LY_X0X6 ad P V (gp I [(0, 3, h_least), (0, 4, (imin h_greatest (2 * y3)))]) (gp J []) (gm A []) (gm B [])) Af s.heap H locs := hW
      refine lv_iinc (v := (v3 + 1)) (lv' := [(3, .int (v3 + 1)), (4, .int (2 * y3)), (0, .ref (ad 0)), (1, .ref (ad 3)), (2, .int v2)]) C0.1 C0.2.1 dX0_narrow_76 hl (k := 4) rfl (congrArg (fun z => _ + z) kI_1) (by decide) rfl (fun ls hl => ?_)
      refine lv_goto (tgt := 13) C0.1 C0.2.1 dX0_narrow_79 (by decide) ?_
      exact hk13 h_least (imin h_greatest (2 * y3)) v2 (v3 + 1) H locs ls hW (lv_sub hl [2, 3, 4, 0] rfl) hf
    · have hf := ite_f hc5 hf
      refine lv_aload_n C0.1 C0.2.1 dX0_narrow_45 rfl (lv_at hl 1 rfl) ?_
      refine lv_aload_n C0.1 C0.2.1 dX0_narrow_46 rfl (lv_at hl 1 rfl) ?_
      refine s_get (v := .int h_least) C0 hK hW 0 3 LY_X0X6_0 rfl fg_X0_23 rfl dX0_narrow_47 ?_
      refine lv_iload C0.1 C0.2.1 dX0_narrow_50 (lv_at hl 0 rfl) ?_
      refine lv_iconst (v := 1) C0.1 C0.2.1 dX0_narrow_52 kI_1 ?_
      refine lv_iadd C0.1 C0.2.1 dX0_narrow_53 ?_
      refine s_max C0 hl.1 uw_904 uw_745 uw_16 uw_746 (Nat.le_of_ble_eq_true rfl) (Nat.le_of_ble_eq_true rfl) (Nat.zero_le _) (Nat.zero_le _) dX0_narrow_54 ?_
      refine s_putI C0 hK hW 0 3 LY_X0X6_0 rfl fg_X0_23 fp_X0_3 rfl dX0_narrow_57 (fun H locs hW => ?_)
      have hW : wd D (dn cy LY_X0X6 ad P V (gp I [(0, 3, (imax h_least ((2 * y3) + 1))), (0, 4, h_greatest)]) (gp J []) (gm A []) (gm B [])) Af s.heap H locs := hW
      refine lv_goto (tgt := 76) C0.1 C0.2.1 dX0_narrow_60 (by decide) ?_
      refine lv_iinc (v := (v3 + 1)) (lv' := [(3, .int (v3 + 1)), (4, .int (2 * y3)), (0, .ref (ad 0)), (1, .ref (ad 3)), (2, .int v2)]) C0.1 C0.2.1 dX0_narrow_76 hl (k := 4) rfl (congrArg (fun z => _ + z) kI_1) (by decide) rfl (fun ls hl => ?_)
      refine lv_goto (tgt := 13) C0.1 C0.2.1 dX0_narrow_79 (by decide) ?_
      exact hk13 (imax h_least ((2 * y3) + 1)) h_greatest v2 (v3 + 1) H locs ls hW (lv_sub hl [2, 3, 4, 0] rfl) hf
theorem TX0_narrow_13 {p : Program} {l : Launch} {e : Env} {s : State} {m : MethodId} {args : Array Value} {below : List Frame} {meth : Method} {c : Code} {D : va_G} {cy : Nat → ClassId} {ad : Nat → Nat} {P : MP} {V : MV} {I : MI} {J : MJ} {A : MI} {B : MJ} {Af : Nat → Prop} {res : Int32 × Int32} (C0 : CX p s m args meth c cX0_narrow 5 none RX0) (hK : va_K D vwCl (tyG cy) s) (hN : NWs s) (hA : ∀ q, s.heap.size ≤ q → Af q) : ∀ n, SX0_narrow_13 p l e s m args below meth c D cy ad P V I J A B Af res (itr (fun kk => fX0_narrow_13 (I 0 2) (I 3 4) (A 1) (A 2) (A 7) kk) (fun _ _ _ _ => none) n) := by
  intro n
  induction n with
  | zero => intro h_least h_greatest v2 v3 H locs ls hW hl hf; exact (nomatch (show (none : Option (Int32 × Int32)) = some res from hf))
  | succ n ih => exact tX0_narrow_13 C0 hK hN hA  ih
def fX0_narrow (h_size : Int32) (t_colds : Int32) (h_days : (Nat → Int32)) (h_isSome : (Nat → Int32)) (t_cold : (Nat → Int32)) (h_least : Int32) (h_greatest : Int32) (v2 : Int32) : Option (Int32 × Int32) := itr (fun kk => fX0_narrow_13 h_size t_colds h_days h_isSome t_cold kk) (fun _ _ _ _ => none) FU 0 60 v2 0
set_option maxHeartbeats 4000000 in
set_option maxRecDepth 100000 in
theorem KX0_narrow (l : Launch) (D : va_G) (cy : Nat → ClassId) (ad : Nat → Nat) (P : MP) (V : MV) (I : MI) (J : MJ) (A : MI) (B : MJ) (v2 : Int32) {res : Int32 × Int32} (hf : fX0_narrow (I 0 2) (I 3 4) (A 1) (A 2) (A 7) (I 0 3) (I 0 4) v2 = some res) : CG l yX0_narrow cX0_narrow 5 none rmX0_narrow D cy (dn cy LY_X0X6 ad P V I J A B) [.ref (ad 0), .ref (ad 3), .int v2] none (dn cy LY_X0X6 ad P V (gp I [(0, 3, res.1), (0, 4, res.2)]) (gp J []) (gm A []) (gm B [])) := by
  refine CG.of (own := RX0) (by decide) rfl rfl ?_
  intro p e s m below meth c ls Af C0 hK hN hA hW hl
  have hW : wd D (dn cy LY_X0X6 ad P V (gp I [(0, 3, (I 0 3)), (0, 4, (I 0 4))]) (gp J []) (gm A []) (gm B [])) Af s.heap s.heap [] := wd_sel [(0, 3), (0, 4)] [] [] [] hW
  have hl : lv_has ls 5 [(0, .ref (ad 0)), (1, .ref (ad 3)), (2, .int v2)] := hl
  unfold fX0_narrow at hf
  refine lv_aload_n C0.1 C0.2.1 dX0_narrow_0 rfl (lv_at hl 0 rfl) ?_
  refine lv_iconst (v := 0) C0.1 C0.2.1 dX0_narrow_1 kI_0 ?_
  refine s_putI C0 hK hW 0 3 LY_X0X6_0 rfl fg_X0_23 fp_X0_3 rfl dX0_narrow_2 (fun H locs hW => ?_)
  have hW : wd D (dn cy LY_X0X6 ad P V (gp I [(0, 3, 0), (0, 4, (I 0 4))]) (gp J []) (gm A []) (gm B [])) Af s.heap H locs := hW
  refine lv_aload_n C0.1 C0.2.1 dX0_narrow_5 rfl (lv_at hl 0 rfl) ?_
  refine lv_bipush (v := 60) C0.1 C0.2.1 dX0_narrow_6 kB_60 ?_
  refine s_putI C0 hK hW 0 4 LY_X0X6_0 rfl fg_X0_26 fp_X0_4 rfl dX0_narrow_8 (fun H locs hW => ?_)
  have hW : wd D (dn cy LY_X0X6 ad P V (gp I [(0, 3, 0), (0, 4, 60)]) (gp J []) (gm A []) (gm B [])) Af s.heap H locs := hW
  refine lv_iconst (v := 0) C0.1 C0.2.1 dX0_narrow_11 kI_0 ?_
  refine lv_istore_n (lv' := [(3, .int 0), (0, .ref (ad 0)), (1, .ref (ad 3)), (2, .int v2)]) C0.1 C0.2.1 dX0_narrow_12 rfl hl (by decide) rfl (fun ls hl => ?_)
  exact TX0_narrow_13 C0 hK hN hA  FU 0 60 v2 0 _ _ ls hW (lv_sub hl [1, 2, 3, 0] rfl) hf
-- X0_many
def rmX0_many : Room := { frames := 1, cells := 0, slots := 0, locals := 21 }
def fX0_many (h_least : Int32) (h_greatest : Int32) : Option (Int32) := some ((imax ((h_greatest - h_least) + 1) 0))
set_option maxHeartbeats 4000000 in
set_option maxRecDepth 100000 in
theorem KX0_many (l : Launch) (D : va_G) (cy : Nat → ClassId) (ad : Nat → Nat) (P : MP) (V : MV) (I : MI) (J : MJ) (A : MI) (B : MJ) {res : Int32} (hf : fX0_many (I 0 3) (I 0 4) = some res) : CG l yX0_many cX0_many 1 (some .int) rmX0_many D cy (dn cy LY_X0 ad P V I J A B) [.ref (ad 0)] (some (.int res)) (dn cy LY_X0 ad P V (gp I []) (gp J []) (gm A []) (gm B [])) := by
  refine CG.of (own := RX0) (by decide) rfl rfl ?_
  intro p e s m below meth c ls Af C0 hK hN hA hW hl
  have hW : wd D (dn cy LY_X0 ad P V (gp I []) (gp J []) (gm A []) (gm B [])) Af s.heap s.heap [] := wd_sel [] [] [] [] hW
  have hl : lv_has ls 1 [(0, .ref (ad 0))] := hl
  unfold fX0_many at hf
  refine lv_aload_n C0.1 C0.2.1 dX0_many_0 rfl (lv_at hl 0 rfl) ?_
  refine s_get (v := .int (I 0 4)) C0 hK hW 0 4 LY_X0_0 rfl fg_X0_26 rfl dX0_many_1 ?_
  refine lv_aload_n C0.1 C0.2.1 dX0_many_4 rfl (lv_at hl 0 rfl) ?_
  refine s_get (v := .int (I 0 3)) C0 hK hW 0 3 LY_X0_0 rfl fg_X0_23 rfl dX0_many_5 ?_
  refine lv_isub C0.1 C0.2.1 dX0_many_8 ?_
  refine lv_iconst (v := 1) C0.1 C0.2.1 dX0_many_9 kI_1 ?_
  refine lv_iadd C0.1 C0.2.1 dX0_many_10 ?_
  refine lv_iconst (v := 0) C0.1 C0.2.1 dX0_many_11 kI_0 ?_
  refine s_max C0 hl.1 uw_904 uw_745 uw_16 uw_746 (Nat.le_of_ble_eq_true rfl) (Nat.le_of_ble_eq_true rfl) (Nat.zero_le _) (Nat.zero_le _) dX0_many_12 ?_
  obtain rfl := Option.some.inj hf
  exact r_int C0 hK hW dX0_many_15
-- X0_bestQuestion
def rmX0_bestQuestion : Room := { frames := 2, cells := 0, slots := 0, locals := 42 }
def SX0_bestQuestion_14 (p : Program) (l : Launch) (e : Env) (s : State) (m : MethodId) (args : Array Value) (below : List Frame) (meth : Method) (c : Code) (D : va_G) (cy : Nat → ClassId) (ad : Nat → Nat) (P : MP) (V : MV) (I : MI) (J : MJ) (A : MI) (B : MJ) (Af : Nat → Prop) (res : Int32) (k : Int32 → Int32 → Int32 → Int32 → Int32 → Option (Int32)) : Prop := ∀ (v2 : Int32) (v3 : Int32) (v4 : Int32) (v5 : Int32) (v6 : Int32) (H : Heap) (locs : List Loc) (ls : Array Slot), wd D (dn cy LY_X0X6 ad P V (gp I []) (gp J []) (gm A []) (gm B [])) Af s.heap H locs → lv_has ls 9 [(0, .ref (ad 0)), (1, .ref (ad 3)), (2, .int v2), (3, .int v3), (4, .int v4), (5, .int v5), (6, .int v6)] → k v2 v3 v4 v5 v6 = some res → W p l e rmX0_bestQuestion s m args below meth c H locs 0 0 (ZQ below D cy (dn cy LY_X0X6 ad P V (gp I []) (gp J []) (gm A []) (gm B [])) (some (.int res)) Af args s) (F0 m 14 ls [])
def fX0_bestQuestion_14 (h_least : Int32) (h_greatest : Int32) (t_colds : Int32) (t_cold : (Nat → Int32)) (k14 : Int32 → Int32 → Int32 → Int32 → Int32 → Option (Int32)) (v2 : Int32) (v3 : Int32) (v4 : Int32) (v5 : Int32) (v6 : Int32) : Option (Int32) := if 30 < v6 then (some (v3)) else (Option.bind (fX6_coldOf t_colds t_cold ((v2 + v6) - 1)) fun y2 => (Option.bind (fX0_many h_least h_greatest) fun y3 => (if v4 ≤ (imax (imax (((imin (v5 + (2 * y2)) h_greatest) - h_least) + 1) 0) (y3 - (imax (((imin (v5 + (2 * y2)) h_greatest) - h_least) + 1) 0))) then (k14 v2 v3 v4 (v5 + (2 * y2)) (v6 + 1)) else (k14 v2 v6 (imax (imax (((imin (v5 + (2 * y2)) h_greatest) - h_least) + 1) 0) (y3 - (imax (((imin (v5 + (2 * y2)) h_greatest) - h_least) + 1) 0))) (v5 + (2 * y2)) (v6 + 1)))))
set_option maxHeartbeats 4000000 in
set_option maxRecDepth 100000 in
theorem tX0_bestQuestion_14 {p : Program} {l : Launch} {e : Env} {s : State} {m : MethodId} {args : Array Value} {below : List Frame} {meth : Method} {c : Code} {D : va_G} {cy : Nat → ClassId} {ad : Nat → Nat} {P : MP} {V : MV} {I : MI} {J : MJ} {A : MI} {B : MJ} {Af : Nat → Prop} {res : Int32} (C0 : CX p s m args meth c cX0_bestQuestion 9 (some .int) RX0) (hK : va_K D vwCl (tyG cy) s) (hN : NWs s) (hA : ∀ q, s.heap.size ≤ q → Af q) {k14 : Int32 → Int32 → Int32 → Int32 → Int32 → Option (Int32)} (hk14 : SX0_bestQuestion_14 p l e s m args below meth c D cy ad P V I J A B Af res k14) : SX0_bestQuestion_14 p l e s m args below meth c D cy ad P V I J A B Af res (fX0_bestQuestion_14 (I 0 3) (I 0 4) (I 3 4) (A 7) k14) := by
  intro v2 v3 v4 v5 v6 H locs ls hW hl hf
  unfold fX0_bestQuestion_14 at hf
  refine lv_iload C0.1 C0.2.1 dX0_bestQuestion_14 (lv_at hl 6 rfl) ?_
  refine lv_bipush (v := 30) C0.1 C0.2.1 dX0_bestQuestion_16 kB_30 ?_
  refine lv_icmp_gt (tgt := 94) C0.1 C0.2.1 dX0_bestQuestion_18 (by decide) (fun hc1 => ?_) (fun hc1 => ?_)
  · have hf := ite_t hc1 hf
    refine lv_iload_n C0.1 C0.2.1 dX0_bestQuestion_94 rfl (lv_at hl 3 rfl) ?_
    obtain rfl := Option.some.inj hf
    exact r_int C0 hK hW dX0_bestQuestion_95
  · have hf := ite_f hc1 hf
    refine lv_iload C0.1 C0.2.1 dX0_bestQuestion_21 (lv_at hl 5 rfl) ?_
    refine lv_iconst (v := 2) C0.1 C0.2.1 dX0_bestQuestion_23 kI_2 ?_
    refine lv_aload_n C0.1 C0.2.1 dX0_bestQuestion_24 rfl (lv_at hl 1 rfl) ?_
    refine lv_iload_n C0.1 C0.2.1 dX0_bestQuestion_25 rfl (lv_at hl 2 rfl) ?_
    refine lv_iload C0.1 C0.2.1 dX0_bestQuestion_26 (lv_at hl 6 rfl) ?_
    refine lv_iadd C0.1 C0.2.1 dX0_bestQuestion_28 ?_
    refine lv_iconst (v := 1) C0.1 C0.2.1 dX0_bestQuestion_29 kI_1 ?_
    refine lv_isub C0.1 C0.2.1 dX0_bestQuestion_30 ?_
    obtain ⟨y2, hy2, hf⟩ := b_some hf
    refine c_Vi C0 hK hN hl.1 hW hA (KX6_coldOf l D cy  (fun q => ad (pl_LY_X0X6_LY_X6_3_4_5407097.getD q 0)) (fun q => P (pl_LY_X0X6_LY_X6_3_4_5407097.getD q 0)) (fun q => Vx LY_X0X6 ad V (pl_LY_X0X6_LY_X6_3_4_5407097.getD q 0)) (fun q => gp I [] (pl_LY_X0X6_LY_X6_3_4_5407097.getD q 0)) (fun q => gp J [] (pl_LY_X0X6_LY_X6_3_4_5407097.getD q 0)) (fun q => gm A [] (pl_LY_X0X6_LY_X6_3_4_5407097.getD q 0)) (fun q => gm B [] (pl_LY_X0X6_LY_X6_3_4_5407097.getD q 0)) ((v2 + v6) - 1) hy2) (JN_subC (pl := pl_LY_X0X6_LY_X6_3_4_5407097) sb_LY_X0X6_LY_X6_3_4_5407097 rfl rfl rfl rfl rfl rfl rfl rfl rfl) (Uw_V uw_919 uw_741 uw_742 uw_10 uw_743) rfl rfl hd_X6_coldOf ⟨rfl, rfl⟩ rfl (dn_some LY_X0X6_3) rfl rfl rfl dX0_bestQuestion_31 ⟨Nat.zero_le _, Nat.zero_le _⟩ (fun H locs hW => ?_)
    have hW : wd D (dn cy LY_X0X6 ad P V (gp I []) (gp J []) (gm A []) (gm B [])) Af s.heap H locs := hW
    refine lv_imul C0.1 C0.2.1 dX0_bestQuestion_34 ?_
    refine lv_iadd C0.1 C0.2.1 dX0_bestQuestion_35 ?_
    refine lv_istore (lv' := [(5, .int (v5 + (2 * y2))), (0, .ref (ad 0)), (1, .ref (ad 3)), (2, .int v2), (3, .int v3), (4, .int v4), (6, .int v6)]) C0.1 C0.2.1 dX0_bestQuestion_36 hl (by decide) rfl (fun ls hl => ?_)
    refine lv_iload C0.1 C0.2.1 dX0_bestQuestion_38 (lv_at hl 0 rfl) ?_
    refine lv_aload_n C0.1 C0.2.1 dX0_bestQuestion_40 rfl (lv_at hl 1 rfl) ?_
    refine s_get (v := .int (I 0 4)) C0 hK hW 0 4 LY_X0X6_0 rfl fg_X0_26 rfl dX0_bestQuestion_41 ?_
    refine s_min C0 hl.1 uw_905 uw_700 uw_16 uw_701 (Nat.le_of_ble_eq_true rfl) (Nat.le_of_ble_eq_true rfl) (Nat.zero_le _) (Nat.zero_le _) dX0_bestQuestion_44 ?_
    refine lv_aload_n C0.1 C0.2.1 dX0_bestQuestion_47 rfl (lv_at hl 1 rfl) ?_
    refine s_get (v := .int (I 0 3)) C0 hK hW 0 3 LY_X0X6_0 rfl fg_X0_23 rfl dX0_bestQuestion_48 ?_
    refine lv_isub C0.1 C0.2.1 dX0_bestQuestion_51 ?_
    refine lv_iconst (v := 1) C0.1 C0.2.1 dX0_bestQuestion_52 kI_1 ?_
    refine lv_iadd C0.1 C0.2.1 dX0_bestQuestion_53 ?_
    refine lv_iconst (v := 0) C0.1 C0.2.1 dX0_bestQuestion_54 kI_0 ?_
    refine s_max C0 hl.1 uw_904 uw_745 uw_16 uw_746 (Nat.le_of_ble_eq_true rfl) (Nat.le_of_ble_eq_true rfl) (Nat.zero_le _) (Nat.zero_le _) dX0_bestQuestion_55 ?_
    refine lv_istore (lv' := [(7, .int (imax (((imin (v5 + (2 * y2)) (I 0 4)) - (I 0 3)) + 1) 0)), (5, .int (v5 + (2 * y2))), (0, .ref (ad 0)), (1, .ref (ad 3)), (2, .int v2), (3, .int v3), (4, .int v4), (6, .int v6)]) C0.1 C0.2.1 dX0_bestQuestion_58 hl (by decide) rfl (fun ls hl => ?_)
    refine lv_iload C0.1 C0.2.1 dX0_bestQuestion_60 (lv_at hl 0 rfl) ?_
    refine lv_aload_n C0.1 C0.2.1 dX0_bestQuestion_62 rfl (lv_at hl 2 rfl) ?_
    obtain ⟨y3, hy3, hf⟩ := b_some hf
    refine c_Vi C0 hK hN hl.1 hW hA (KX0_many l D cy  (fun q => ad (pl_LY_X0X6_LY_X0_0_1_2.getD q 0)) (fun q => P (pl_LY_X0X6_LY_X0_0_1_2.getD q 0)) (fun q => Vx LY_X0X6 ad V (pl_LY_X0X6_LY_X0_0_1_2.getD q 0)) (fun q => gp I [] (pl_LY_X0X6_LY_X0_0_1_2.getD q 0)) (fun q => gp J [] (pl_LY_X0X6_LY_X0_0_1_2.getD q 0)) (fun q => gm A [] (pl_LY_X0X6_LY_X0_0_1_2.getD q 0)) (fun q => gm B [] (pl_LY_X0X6_LY_X0_0_1_2.getD q 0))  hy3) (JN_subC (pl := pl_LY_X0X6_LY_X0_0_1_2) sb_LY_X0X6_LY_X0_0_1_2 rfl rfl rfl rfl rfl rfl rfl rfl rfl) (Uw_V uw_918 uw_907 uw_908 uw_8 uw_909) rfl rfl hd_X0_many ⟨rfl, rfl⟩ rfl (dn_some LY_X0X6_0) rfl rfl rfl dX0_bestQuestion_63 ⟨Nat.zero_le _, Nat.zero_le _⟩ (fun H locs hW => ?_)
    have hW : wd D (dn cy LY_X0X6 ad P V (gp I []) (gp J []) (gm A []) (gm B [])) Af s.heap H locs := hW
    refine lv_iload C0.1 C0.2.1 dX0_bestQuestion_66 (lv_at hl 0 rfl) ?_
    refine lv_isub C0.1 C0.2.1 dX0_bestQuestion_68 ?_
    refine s_max C0 hl.1 uw_904 uw_745 uw_16 uw_746 (Nat.le_of_ble_eq_true rfl) (Nat.le_of_ble_eq_true rfl) (Nat.zero_le _) (Nat.zero_le _) dX0_bestQuestion_69 ?_
    refine lv_istore (lv' := [(8, .int (imax (imax (((imin (v5 + (2 * y2)) (I 0 4)) - (I 0 3)) + 1) 0) (y3 - (imax (((imin (v5 + (2 * y2)) (I 0 4)) - (I 0 3)) + 1) 0)))), (7, .int (imax (((imin (v5 + (2 * y2)) (I 0 4)) - (I 0 3)) + 1) 0)), (5, .int (v5 + (2 * y2))), (0, .ref (ad 0)), (1, .ref (ad 3)), (2, .int v2), (3, .int v3), (4, .int v4), (6, .int v6)]) C0.1 C0.2.1 dX0_bestQuestion_72 hl (by decide) rfl (fun ls hl => ?_)
    refine lv_iload C0.1 C0.2.1 dX0_bestQuestion_74 (lv_at hl 0 rfl) ?_
    refine lv_iload C0.1 C0.2.1 dX0_bestQuestion_76 (lv_at hl 7 rfl) ?_
    refine lv_icmp_ge (tgt := 88) C0.1 C0.2.1 dX0_bestQuestion_78 (by decide) (fun hc4 => ?_) (fun hc4 => ?_)
    · have hf := ite_t hc4 hf
      refine lv_iinc (v := (v6 + 1)) (lv' := [(6, .int (v6 + 1)), (8, .int (imax (imax (((imin (v5 + (2 * y2)) (I 0 4)) - (I 0 3)) + 1) 0) (y3 - (imax (((imin (v5 + (2 * y2)) (I 0 4)) - (I 0 3)) + 1) 0)))), (7, .int (imax (((imin (v5 + (2 * y2)) (I 0 4)) - (I 0 3)) + 1) 0)), (5, .int (v5 + (2 * y2))), (0, .ref (ad 0)), (1, .ref (ad 3)), (2, .int v2), (3, .int v3), (4, .int v4)]) C0.1 C0.2.1 dX0_bestQuestion_88 hl (k := 8) rfl (congrArg (fun z => _ + z) kI_1) (by decide) rfl (fun ls hl => ?_)
      refine lv_goto (tgt := 14) C0.1 C0.2.1 dX0_bestQuestion_91 (by decide) ?_
      exact hk14 v2 v3 v4 (v5 + (2 * y2)) (v6 + 1) H locs ls hW (lv_sub hl [4, 5, 6, 7, 8, 3, 0] rfl) hf
    · have hf := ite_f hc4 hf
      refine lv_iload C0.1 C0.2.1 dX0_bestQuestion_81 (lv_at hl 0 rfl) ?_
      refine lv_istore (lv' := [(4, .int (imax (imax (((imin (v5 + (2 * y2)) (I 0 4)) - (I 0 3)) + 1) 0) (y3 - (imax (((imin (v5 + (2 * y2)) (I 0 4)) - (I 0 3)) + 1) 0)))), (8, .int (imax (imax (((imin (v5 + (2 * y2)) (I 0 4)) - (I 0 3)) + 1) 0) (y3 - (imax (((imin (v5 + (2 * y2)) (I 0 4)) - (I 0 3)) + 1) 0)))), (7, .int (imax (((imin (v5 + (2 * y2)) (I 0 4)) - (I 0 3)) + 1) 0)), (5, .int (v5 + (2 * y2))), (0, .ref (ad 0)), (1, .ref (ad 3)), (2, .int v2), (3, .int v3), (6, .int v6)]) C0.1 C0.2.1 dX0_bestQuestion_83 hl (by decide) rfl (fun ls hl => ?_)
      refine lv_iload C0.1 C0.2.1 dX0_bestQuestion_85 (lv_at hl 8 rfl) ?_
      refine lv_istore_n (lv' := [(3, .int v6), (4, .int (imax (imax (((imin (v5 + (2 * y2)) (I 0 4)) - (I 0 3)) + 1) 0) (y3 - (imax (((imin (v5 + (2 * y2)) (I 0 4)) - (I 0 3)) + 1) 0)))), (8, .int (imax (imax (((imin (v5 + (2 * y2)) (I 0 4)) - (I 0 3)) + 1) 0) (y3 - (imax (((imin (v5 + (2 * y2)) (I 0 4)) - (I 0 3)) + 1) 0)))), (7, .int (imax (((imin (v5 + (2 * y2)) (I 0 4)) - (I 0 3)) + 1) 0)), (5, .int (v5 + (2 * y2))), (0, .ref (ad 0)), (1, .ref (ad 3)), (2, .int v2), (6, .int v6)]) C0.1 C0.2.1 dX0_bestQuestion_87 rfl hl (by decide) rfl (fun ls hl => ?_)
      refine lv_iinc (v := (v6 + 1)) (lv' := [(6, .int (v6 + 1)), (3, .int v6), (4, .int (imax (imax (((imin (v5 + (2 * y2)) (I 0 4)) - (I 0 3)) + 1) 0) (y3 - (imax (((imin (v5 + (2 * y2)) (I 0 4)) - (I 0 3)) + 1) 0)))), (8, .int (imax (imax (((imin (v5 + (2 * y2)) (I 0 4)) - (I 0 3)) + 1) 0) (y3 - (imax (((imin (v5 + (2 * y2)) (I 0 4)) - (I 0 3)) + 1) 0)))), (7, .int (imax (((imin (v5 + (2 * y2)) (I 0 4)) - (I 0 3)) + 1) 0)), (5, .int (v5 + (2 * y2))), (0, .ref (ad 0)), (1, .ref (ad 3)), (2, .int v2)]) C0.1 C0.2.1 dX0_bestQuestion_88 hl (k := 8) rfl (congrArg (fun z => _ + z) kI_1) (by decide) rfl (fun ls hl => ?_)
      refine lv_goto (tgt := 14) C0.1 C0.2.1 dX0_bestQuestion_91 (by decide) ?_
      exact hk14 v2 v6 (imax (imax (((imin (v5 + (2 * y2)) (I 0 4)) - (I 0 3)) + 1) 0) (y3 - (imax (((imin (v5 + (2 * y2)) (I 0 4)) - (I 0 3)) + 1) 0))) (v5 + (2 * y2)) (v6 + 1) H locs ls hW (lv_sub hl [6, 7, 8, 1, 2, 5, 0] rfl) hf
theorem TX0_bestQuestion_14 {p : Program} {l : Launch} {e : Env} {s : State} {m : MethodId} {args : Array Value} {below : List Frame} {meth : Method} {c : Code} {D : va_G} {cy : Nat → ClassId} {ad : Nat → Nat} {P : MP} {V : MV} {I : MI} {J : MJ} {A : MI} {B : MJ} {Af : Nat → Prop} {res : Int32} (C0 : CX p s m args meth c cX0_bestQuestion 9 (some .int) RX0) (hK : va_K D vwCl (tyG cy) s) (hN : NWs s) (hA : ∀ q, s.heap.size ≤ q → Af q) : ∀ n, SX0_bestQuestion_14 p l e s m args below meth c D cy ad P V I J A B Af res (itr (fun kk => fX0_bestQuestion_14 (I 0 3) (I 0 4) (I 3 4) (A 7) kk) (fun _ _ _ _ _ => none) n) := by
  intro n
  induction n with
  | zero => intro v2 v3 v4 v5 v6 H locs ls hW hl hf; exact (nomatch (show (none : Option (Int32)) = some res from hf))
  | succ n ih => exact tX0_bestQuestion_14 C0 hK hN hA  ih
def fX0_bestQuestion (h_least : Int32) (h_greatest : Int32) (t_colds : Int32) (t_cold : (Nat → Int32)) (v2 : Int32) : Option (Int32) := Option.bind (fX0_many h_least h_greatest) fun y1 => (itr (fun kk => fX0_bestQuestion_14 h_least h_greatest t_colds t_cold kk) (fun _ _ _ _ _ => none) FU v2 (-1) y1 0 1)
set_option maxHeartbeats 4000000 in
set_option maxRecDepth 100000 in
theorem KX0_bestQuestion (l : Launch) (D : va_G) (cy : Nat → ClassId) (ad : Nat → Nat) (P : MP) (V : MV) (I : MI) (J : MJ) (A : MI) (B : MJ) (v2 : Int32) {res : Int32} (hf : fX0_bestQuestion (I 0 3) (I 0 4) (I 3 4) (A 7) v2 = some res) : CG l yX0_bestQuestion cX0_bestQuestion 9 (some .int) rmX0_bestQuestion D cy (dn cy LY_X0X6 ad P V I J A B) [.ref (ad 0), .ref (ad 3), .int v2] (some (.int res)) (dn cy LY_X0X6 ad P V (gp I []) (gp J []) (gm A []) (gm B [])) := by
  refine CG.of (own := RX0) (by decide) rfl rfl ?_
  intro p e s m below meth c ls Af C0 hK hN hA hW hl
  have hW : wd D (dn cy LY_X0X6 ad P V (gp I []) (gp J []) (gm A []) (gm B [])) Af s.heap s.heap [] := wd_sel [] [] [] [] hW
  have hl : lv_has ls 9 [(0, .ref (ad 0)), (1, .ref (ad 3)), (2, .int v2)] := hl
  unfold fX0_bestQuestion at hf
  refine lv_iconst (v := (-1)) C0.1 C0.2.1 dX0_bestQuestion_0 kI_m1 ?_
  refine lv_istore_n (lv' := [(3, .int (-1)), (0, .ref (ad 0)), (1, .ref (ad 3)), (2, .int v2)]) C0.1 C0.2.1 dX0_bestQuestion_1 rfl hl (by decide) rfl (fun ls hl => ?_)
  refine lv_aload_n C0.1 C0.2.1 dX0_bestQuestion_2 rfl (lv_at hl 1 rfl) ?_
  obtain ⟨y1, hy1, hf⟩ := b_some hf
  refine c_Vi C0 hK hN hl.1 hW hA (KX0_many l D cy  (fun q => ad (pl_LY_X0X6_LY_X0_0_1_2.getD q 0)) (fun q => P (pl_LY_X0X6_LY_X0_0_1_2.getD q 0)) (fun q => Vx LY_X0X6 ad V (pl_LY_X0X6_LY_X0_0_1_2.getD q 0)) (fun q => gp I [] (pl_LY_X0X6_LY_X0_0_1_2.getD q 0)) (fun q => gp J [] (pl_LY_X0X6_LY_X0_0_1_2.getD q 0)) (fun q => gm A [] (pl_LY_X0X6_LY_X0_0_1_2.getD q 0)) (fun q => gm B [] (pl_LY_X0X6_LY_X0_0_1_2.getD q 0))  hy1) (JN_subC (pl := pl_LY_X0X6_LY_X0_0_1_2) sb_LY_X0X6_LY_X0_0_1_2 rfl rfl rfl rfl rfl rfl rfl rfl rfl) (Uw_V uw_918 uw_907 uw_908 uw_8 uw_909) rfl rfl hd_X0_many ⟨rfl, rfl⟩ rfl (dn_some LY_X0X6_0) rfl rfl rfl dX0_bestQuestion_3 ⟨Nat.zero_le _, Nat.zero_le _⟩ (fun H locs hW => ?_)
  have hW : wd D (dn cy LY_X0X6 ad P V (gp I []) (gp J []) (gm A []) (gm B [])) Af s.heap H locs := hW
  refine lv_istore (lv' := [(4, .int y1), (3, .int (-1)), (0, .ref (ad 0)), (1, .ref (ad 3)), (2, .int v2)]) C0.1 C0.2.1 dX0_bestQuestion_6 hl (by decide) rfl (fun ls hl => ?_)
  refine lv_iconst (v := 0) C0.1 C0.2.1 dX0_bestQuestion_8 kI_0 ?_
  refine lv_istore (lv' := [(5, .int 0), (4, .int y1), (3, .int (-1)), (0, .ref (ad 0)), (1, .ref (ad 3)), (2, .int v2)]) C0.1 C0.2.1 dX0_bestQuestion_9 hl (by decide) rfl (fun ls hl => ?_)
  refine lv_iconst (v := 1) C0.1 C0.2.1 dX0_bestQuestion_11 kI_1 ?_
  refine lv_istore (lv' := [(6, .int 1), (5, .int 0), (4, .int y1), (3, .int (-1)), (0, .ref (ad 0)), (1, .ref (ad 3)), (2, .int v2)]) C0.1 C0.2.1 dX0_bestQuestion_12 hl (by decide) rfl (fun ls hl => ?_)
  exact TX0_bestQuestion_14 C0 hK hN hA  FU v2 (-1) y1 0 1 _ _ ls hW (lv_sub hl [4, 5, 6, 3, 2, 1, 0] rfl) hf
-- X8_isWithin
def rmX8_isWithin : Room := { frames := 1, cells := 0, slots := 0, locals := 21 }
def fX8_isWithin (v0 : Int32) (v1 : Int32) (v2 : Int32) : Option (Int32) := if v0 < v1 then (some (0)) else (if v2 < v0 then (some (0)) else (some (1)))
set_option maxHeartbeats 4000000 in
set_option maxRecDepth 100000 in
theorem KX8_isWithin (l : Launch) (D : va_G) (cy : Nat → ClassId) (ad : Nat → Nat) (P : MP) (V : MV) (I : MI) (J : MJ) (A : MI) (B : MJ) (v0 : Int32) (v1 : Int32) (v2 : Int32) {res : Int32} (hf : fX8_isWithin v0 v1 v2 = some res) : CG l yX8_isWithin cX8_isWithin 3 (some .boolean) rmX8_isWithin D cy (dn cy LY_0 ad P V I J A B) [.int v0, .int v1, .int v2] (some (.int res)) (dn cy LY_0 ad P V (gp I []) (gp J []) (gm A []) (gm B [])) := by
  refine CG.of (own := RX8) (by decide) rfl rfl ?_
  intro p e s m below meth c ls Af C0 hK hN hA hW hl
  have hW : wd D (dn cy LY_0 ad P V (gp I []) (gp J []) (gm A []) (gm B [])) Af s.heap s.heap [] := wd_sel [] [] [] [] hW
  have hl : lv_has ls 3 [(0, .int v0), (1, .int v1), (2, .int v2)] := hl
  unfold fX8_isWithin at hf
  refine lv_iload_n C0.1 C0.2.1 dX8_isWithin_0 rfl (lv_at hl 0 rfl) ?_
  refine lv_iload_n C0.1 C0.2.1 dX8_isWithin_1 rfl (lv_at hl 1 rfl) ?_
  refine lv_icmp_lt (tgt := 14) C0.1 C0.2.1 dX8_isWithin_2 (by decide) (fun hc1 => ?_) (fun hc1 => ?_)
  · have hf := ite_t hc1 hf
    refine lv_iconst (v := 0) C0.1 C0.2.1 dX8_isWithin_14 kI_0 ?_
    obtain rfl := Option.some.inj hf
    exact r_bool C0 hK hW (v' := 0) rfl dX8_isWithin_15
  · have hf := ite_f hc1 hf
    refine lv_iload_n C0.1 C0.2.1 dX8_isWithin_5 rfl (lv_at hl 0 rfl) ?_
    refine lv_iload_n C0.1 C0.2.1 dX8_isWithin_6 rfl (lv_at hl 2 rfl) ?_
    refine lv_icmp_gt (tgt := 14) C0.1 C0.2.1 dX8_isWithin_7 (by decide) (fun hc2 => ?_) (fun hc2 => ?_)
    · have hf := ite_t hc2 hf
      refine lv_iconst (v := 0) C0.1 C0.2.1 dX8_isWithin_14 kI_0 ?_
      obtain rfl := Option.some.inj hf
      exact r_bool C0 hK hW (v' := 0) rfl dX8_isWithin_15
    · have hf := ite_f hc2 hf
      refine lv_iconst (v := 1) C0.1 C0.2.1 dX8_isWithin_10 kI_1 ?_
      refine lv_goto (tgt := 15) C0.1 C0.2.1 dX8_isWithin_11 (by decide) ?_
      obtain rfl := Option.some.inj hf
      exact r_bool C0 hK hW (v' := 1) rfl dX8_isWithin_15
-- X8_isFact
def rmX8_isFact : Room := { frames := 2, cells := 0, slots := 0, locals := 43 }
def fX8_isFact (v0 : Int32) : Option (Int32) := Option.bind (fX8_isWithin v0 150 153) fun y1 => (some ((vp_nar .boolean y1)))
set_option maxHeartbeats 4000000 in
set_option maxRecDepth 100000 in
theorem KX8_isFact (l : Launch) (D : va_G) (cy : Nat → ClassId) (ad : Nat → Nat) (P : MP) (V : MV) (I : MI) (J : MJ) (A : MI) (B : MJ) (v0 : Int32) {res : Int32} (hf : fX8_isFact v0 = some res) : CG l yX8_isFact cX8_isFact 1 (some .boolean) rmX8_isFact D cy (dn cy LY_0 ad P V I J A B) [.int v0] (some (.int res)) (dn cy LY_0 ad P V (gp I []) (gp J []) (gm A []) (gm B [])) := by
  refine CG.of (own := RX8) (by decide) rfl rfl ?_
  intro p e s m below meth c ls Af C0 hK hN hA hW hl
  have hW : wd D (dn cy LY_0 ad P V (gp I []) (gp J []) (gm A []) (gm B [])) Af s.heap s.heap [] := wd_sel [] [] [] [] hW
  have hl : lv_has ls 1 [(0, .int v0)] := hl
  unfold fX8_isFact at hf
  refine lv_iload_n C0.1 C0.2.1 dX8_isFact_0 rfl (lv_at hl 0 rfl) ?_
  refine lv_sipush (v := 150) C0.1 C0.2.1 dX8_isFact_1 kS_150 ?_
  refine lv_sipush (v := 153) C0.1 C0.2.1 dX8_isFact_4 kS_153 ?_
  obtain ⟨y1, hy1, hf⟩ := b_some hf
  refine c_Si C0 hK hN hl.1 hW hA (KX8_isWithin l D cy  ad P V (gp I []) (gp J []) (gm A []) (gm B []) v0 150 153 hy1) (JN_id rfl rfl rfl rfl) ⟨uw_500, uw_501, uw_1, uw_502⟩ rfl rfl hd_X8_isWithin ⟨rfl, rfl⟩ rfl rfl rfl dX8_isFact_7 ⟨Nat.zero_le _, Nat.zero_le _⟩ (fun H locs hW => ?_)
  have hW : wd D (dn cy LY_0 ad P V (gp I []) (gp J []) (gm A []) (gm B [])) Af s.heap H locs := hW
  obtain rfl := Option.some.inj hf
  exact r_bool C0 hK hW (v' := (vp_nar .boolean y1)) rfl dX8_isFact_10
-- X5_refuse
def rmX5_refuse : Room := { frames := 1, cells := 0, slots := 0, locals := 21 }
def fX5_refuse (p_place : Int32) (p_fault : Int32) (v1 : Int32) : Option (Int32) := if p_fault = 0 then (some ((v1 + (16 * p_place)))) else (some (p_fault))
set_option maxHeartbeats 4000000 in
set_option maxRecDepth 100000 in
theorem KX5_refuse (l : Launch) (D : va_G) (cy : Nat → ClassId) (ad : Nat → Nat) (P : MP) (V : MV) (I : MI) (J : MJ) (A : MI) (B : MJ) (v1 : Int32) {res : Int32} (hf : fX5_refuse (I 0 3) (I 0 9) v1 = some res) : CG l yX5_refuse cX5_refuse 2 none rmX5_refuse D cy (dn cy LY_X5 ad P V I J A B) [.ref (ad 0), .int v1] none (dn cy LY_X5 ad P V (gp I [(0, 9, res)]) (gp J []) (gm A []) (gm B [])) := by
  refine CG.of (own := RX5) (by decide) rfl rfl ?_
  intro p e s m below meth c ls Af C0 hK hN hA hW hl
  have hW : wd D (dn cy LY_X5 ad P V (gp I [(0, 9, (I 0 9))]) (gp J []) (gm A []) (gm B [])) Af s.heap s.heap [] := wd_sel [(0, 9)] [] [] [] hW
  have hl : lv_has ls 2 [(0, .ref (ad 0)), (1, .int v1)] := hl
  unfold fX5_refuse at hf
  refine lv_aload_n C0.1 C0.2.1 dX5_refuse_0 rfl (lv_at hl 0 rfl) ?_
  refine s_get (v := .int (I 0 9)) C0 hK hW 0 9 LY_X5_0 rfl fg_X5_39 rfl dX5_refuse_1 ?_
  refine lv_if_ne (tgt := 20) C0.1 C0.2.1 dX5_refuse_4 (by decide) (fun hc1 => ?_) (fun hc1 => ?_)
  · have hf := ite_f hc1 hf
    obtain rfl := Option.some.inj hf
    exact r_void C0 hK hW dX5_refuse_20
  · have hf := ite_t hc1 hf
    refine lv_aload_n C0.1 C0.2.1 dX5_refuse_7 rfl (lv_at hl 0 rfl) ?_
    refine lv_iload_n C0.1 C0.2.1 dX5_refuse_8 rfl (lv_at hl 1 rfl) ?_
    refine lv_bipush (v := 16) C0.1 C0.2.1 dX5_refuse_9 kB_16 ?_
    refine lv_aload_n C0.1 C0.2.1 dX5_refuse_11 rfl (lv_at hl 0 rfl) ?_
    refine s_get (v := .int (I 0 3)) C0 hK hW 0 3 LY_X5_0 rfl fg_X5_48 rfl dX5_refuse_12 ?_
    refine lv_imul C0.1 C0.2.1 dX5_refuse_15 ?_
    refine lv_iadd C0.1 C0.2.1 dX5_refuse_16 ?_
    refine s_putI C0 hK hW 0 9 LY_X5_0 rfl fg_X5_39 fp_X5_9 rfl dX5_refuse_17 (fun H locs hW => ?_)
    have hW : wd D (dn cy LY_X5 ad P V (gp I [(0, 9, (v1 + (16 * (I 0 3))))]) (gp J []) (gm A []) (gm B [])) Af s.heap H locs := hW
    obtain rfl := Option.some.inj hf
    exact r_void C0 hK hW dX5_refuse_20
-- X1_emit
def rmX1_emit : Room := { frames := 1, cells := 0, slots := 0, locals := 21 }
def fX1_emit (w_length : Int32) (w_code : (Nat → Int32)) (v1 : Int32) : Option (Int32 × (Nat → Int32)) := if 1000 ≤ w_length then (some (w_length, w_code)) else (bif inb w_length 1000 then (some ((w_length + 1), (upd w_code (Int32.toNatClampNeg w_length) v1))) else none)
set_option maxHeartbeats 4000000 in
set_option maxRecDepth 100000 in
theorem KX1_emit (l : Launch) (D : va_G) (cy : Nat → ClassId) (ad : Nat → Nat) (P : MP) (V : MV) (I : MI) (J : MJ) (A : MI) (B : MJ) (v1 : Int32) {res : Int32 × (Nat → Int32)} (hf : fX1_emit (I 0 4) (A 1) v1 = some res) : CG l yX1_emit cX1_emit 2 none rmX1_emit D cy (dn cy LY_X1 ad P V I J A B) [.ref (ad 0), .int v1] none (dn cy LY_X1 ad P V (gp I [(0, 4, res.1)]) (gp J []) (gm A [(1, res.2)]) (gm B [])) := by
  refine CG.of (own := RX1) (by decide) rfl rfl ?_
  intro p e s m below meth c ls Af C0 hK hN hA hW hl
  have hW : wd D (dn cy LY_X1 ad P V (gp I [(0, 4, (I 0 4))]) (gp J []) (gm A [(1, (A 1))]) (gm B [])) Af s.heap s.heap [] := wd_sel [(0, 4)] [] [1] [] hW
  have hl : lv_has ls 2 [(0, .ref (ad 0)), (1, .int v1)] := hl
  unfold fX1_emit at hf
  refine lv_aload_n C0.1 C0.2.1 dX1_emit_0 rfl (lv_at hl 0 rfl) ?_
  refine s_get (v := .int (I 0 4)) C0 hK hW 0 4 LY_X1_0 rfl fg_X1_78 rfl dX1_emit_1 ?_
  refine lv_sipush (v := 1000) C0.1 C0.2.1 dX1_emit_4 kS_1000 ?_
  refine lv_icmp_ge (tgt := 30) C0.1 C0.2.1 dX1_emit_7 (by decide) (fun hc1 => ?_) (fun hc1 => ?_)
  · have hf := ite_t hc1 hf
    obtain rfl := Option.some.inj hf
    exact r_void C0 hK hW dX1_emit_30
  · have hf := ite_f hc1 hf
    refine lv_aload_n C0.1 C0.2.1 dX1_emit_10 rfl (lv_at hl 0 rfl) ?_
    refine s_get (v := .ref (ad 1)) C0 hK hW 0 0 LY_X1_0 rfl fg_X1_9 rfl dX1_emit_11 ?_
    refine lv_aload_n C0.1 C0.2.1 dX1_emit_14 rfl (lv_at hl 0 rfl) ?_
    refine s_get (v := .int (I 0 4)) C0 hK hW 0 4 LY_X1_0 rfl fg_X1_78 rfl dX1_emit_15 ?_
    refine lv_iload_n C0.1 C0.2.1 dX1_emit_18 rfl (lv_at hl 1 rfl) ?_
    obtain ⟨hb2, hf⟩ := g_some hf
    refine s_iast (f := (upd (A 1) (Int32.toNatClampNeg (I 0 4)) v1)) C0 hK hW 1 LY_X1_1 hb2 rfl rfl dX1_emit_19 (fun H locs hW => ?_)
    have hW : wd D (dn cy LY_X1 ad P V (gp I [(0, 4, (I 0 4))]) (gp J []) (gm A [(1, (upd (A 1) (Int32.toNatClampNeg (I 0 4)) v1))]) (gm B [])) Af s.heap H locs := hW
    refine lv_aload_n C0.1 C0.2.1 dX1_emit_20 rfl (lv_at hl 0 rfl) ?_
    refine lv_dup C0.1 C0.2.1 dX1_emit_21 rfl ?_
    refine s_get (v := .int (I 0 4)) C0 hK hW 0 4 LY_X1_0 rfl fg_X1_78 rfl dX1_emit_22 ?_
    refine lv_iconst (v := 1) C0.1 C0.2.1 dX1_emit_25 kI_1 ?_
    refine lv_iadd C0.1 C0.2.1 dX1_emit_26 ?_
    refine s_putI C0 hK hW 0 4 LY_X1_0 rfl fg_X1_78 fp_X1_4 rfl dX1_emit_27 (fun H locs hW => ?_)
    have hW : wd D (dn cy LY_X1 ad P V (gp I [(0, 4, ((I 0 4) + 1))]) (gp J []) (gm A [(1, (upd (A 1) (Int32.toNatClampNeg (I 0 4)) v1))]) (gm B [])) Af s.heap H locs := hW
    obtain rfl := Option.some.inj hf
    exact r_void C0 hK hW dX1_emit_30
-- X1_closeNots
def rmX1_closeNots : Room := { frames := 2, cells := 0, slots := 0, locals := 42 }
def SX1_closeNots_0 (p : Program) (l : Launch) (e : Env) (s : State) (m : MethodId) (args : Array Value) (below : List Frame) (meth : Method) (c : Code) (D : va_G) (cy : Nat → ClassId) (ad : Nat → Nat) (P : MP) (V : MV) (I : MI) (J : MJ) (A : MI) (B : MJ) (Af : Nat → Prop) (res : Int32 × Int32 × Int32 × (Nat → Int32)) (k : Int32 → Int32 → Int32 → (Nat → Int32) → Option (Int32 × Int32 × Int32 × (Nat → Int32))) : Prop := ∀ (w_waiting : Int32) (w_nested : Int32) (w_length : Int32) (w_code : (Nat → Int32)) (H : Heap) (locs : List Loc) (ls : Array Slot), wd D (dn cy LY_X1 ad P V (gp I [(0, 2, w_waiting), (0, 3, w_nested), (0, 4, w_length)]) (gp J []) (gm A [(1, w_code)]) (gm B [])) Af s.heap H locs → lv_has ls 1 [(0, .ref (ad 0))] → k w_waiting w_nested w_length w_code = some res → W p l e rmX1_closeNots s m args below meth c H locs 0 0 (ZQ below D cy (dn cy LY_X1 ad P V (gp I [(0, 2, res.1), (0, 3, res.2.1), (0, 4, res.2.2.1)]) (gp J []) (gm A [(1, res.2.2.2)]) (gm B [])) none Af args s) (F0 m 0 ls [])
def fX1_closeNots_0 (w_stack : (Nat → Int32)) (k0 : Int32 → Int32 → Int32 → (Nat → Int32) → Option (Int32 × Int32 × Int32 × (Nat → Int32))) (w_waiting : Int32) (w_nested : Int32) (w_length : Int32) (w_code : (Nat → Int32)) : Option (Int32 × Int32 × Int32 × (Nat → Int32)) := if w_waiting ≤ 0 then (some (w_waiting, w_nested, w_length, w_code)) else (bif inb (w_waiting - 1) 32 then (if (w_stack (Int32.toNatClampNeg (w_waiting - 1))) = 147 then (Option.bind (fX1_emit w_length w_code 10147) fun y4 => (k0 (w_waiting - 1) (w_nested - 1) y4.1 y4.2)) else (some (w_waiting, w_nested, w_length, w_code))) else none)
set_option maxHeartbeats 4000000 in
set_option maxRecDepth 100000 in
theorem tX1_closeNots_0 {p : Program} {l : Launch} {e : Env} {s : State} {m : MethodId} {args : Array Value} {below : List Frame} {meth : Method} {c : Code} {D : va_G} {cy : Nat → ClassId} {ad : Nat → Nat} {P : MP} {V : MV} {I : MI} {J : MJ} {A : MI} {B : MJ} {Af : Nat → Prop} {res : Int32 × Int32 × Int32 × (Nat → Int32)} (C0 : CX p s m args meth c cX1_closeNots 1 none RX1) (hK : va_K D vwCl (tyG cy) s) (hN : NWs s) (hA : ∀ q, s.heap.size ≤ q → Af q) {k0 : Int32 → Int32 → Int32 → (Nat → Int32) → Option (Int32 × Int32 × Int32 × (Nat → Int32))} (hk0 : SX1_closeNots_0 p l e s m args below meth c D cy ad P V I J A B Af res k0) : SX1_closeNots_0 p l e s m args below meth c D cy ad P V I J A B Af res (fX1_closeNots_0 (A 2) k0) := by
  intro w_waiting w_nested w_length w_code H locs ls hW hl hf
  unfold fX1_closeNots_0 at hf
  refine lv_aload_n C0.1 C0.2.1 dX1_closeNots_0 rfl (lv_at hl 0 rfl) ?_
  refine s_get (v := .int w_waiting) C0 hK hW 0 2 LY_X1_0 rfl fg_X1_18 rfl dX1_closeNots_1 ?_
  refine lv_if_le (tgt := 54) C0.1 C0.2.1 dX1_closeNots_4 (by decide) (fun hc1 => ?_) (fun hc1 => ?_)
  · have hf := ite_t hc1 hf
    obtain rfl := Option.some.inj hf
    exact r_void C0 hK hW dX1_closeNots_54
  · have hf := ite_f hc1 hf
    refine lv_aload_n C0.1 C0.2.1 dX1_closeNots_7 rfl (lv_at hl 0 rfl) ?_
    refine s_get (v := .ref (ad 2)) C0 hK hW 0 1 LY_X1_0 rfl fg_X1_15 rfl dX1_closeNots_8 ?_
    refine lv_aload_n C0.1 C0.2.1 dX1_closeNots_11 rfl (lv_at hl 0 rfl) ?_
    refine s_get (v := .int w_waiting) C0 hK hW 0 2 LY_X1_0 rfl fg_X1_18 rfl dX1_closeNots_12 ?_
    refine lv_iconst (v := 1) C0.1 C0.2.1 dX1_closeNots_15 kI_1 ?_
    refine lv_isub C0.1 C0.2.1 dX1_closeNots_16 ?_
    obtain ⟨hb2, hf⟩ := g_some hf
    refine s_iald (v := ((A 2) (Int32.toNatClampNeg (w_waiting - 1)))) C0 hK hW 2 LY_X1_2 hb2 rfl dX1_closeNots_17 ?_
    refine lv_sipush (v := 147) C0.1 C0.2.1 dX1_closeNots_18 kS_147 ?_
    refine lv_icmp_ne (tgt := 54) C0.1 C0.2.1 dX1_closeNots_21 (by decide) (fun hc3 => ?_) (fun hc3 => ?_)
    · have hf := ite_f hc3 hf
      obtain rfl := Option.some.inj hf
      exact r_void C0 hK hW dX1_closeNots_54
    · have hf := ite_t hc3 hf
      refine lv_aload_n C0.1 C0.2.1 dX1_closeNots_24 rfl (lv_at hl 0 rfl) ?_
      refine lv_dup C0.1 C0.2.1 dX1_closeNots_25 rfl ?_
      refine s_get (v := .int w_waiting) C0 hK hW 0 2 LY_X1_0 rfl fg_X1_18 rfl dX1_closeNots_26 ?_
      refine lv_iconst (v := 1) C0.1 C0.2.1 dX1_closeNots_29 kI_1 ?_
      refine lv_isub C0.1 C0.2.1 dX1_closeNots_30 ?_
      refine s_putI C0 hK hW 0 2 LY_X1_0 rfl fg_X1_18 fp_X1_2 rfl dX1_closeNots_31 (fun H locs hW => ?_)
      have hW : wd D (dn cy LY_X1 ad P V (gp I [(0, 2, (w_waiting - 1)), (0, 3, w_nested), (0, 4, w_length)]) (gp J []) (gm A [(1, w_code)]) (gm B [])) Af s.heap H locs := hW
      refine lv_aload_n C0.1 C0.2.1 dX1_closeNots_34 rfl (lv_at hl 0 rfl) ?_
      refine lv_dup C0.1 C0.2.1 dX1_closeNots_35 rfl ?_
      refine s_get (v := .int w_nested) C0 hK hW 0 3 LY_X1_0 rfl fg_X1_22 rfl dX1_closeNots_36 ?_
      refine lv_iconst (v := 1) C0.1 C0.2.1 dX1_closeNots_39 kI_1 ?_
      refine lv_isub C0.1 C0.2.1 dX1_closeNots_40 ?_
      refine s_putI C0 hK hW 0 3 LY_X1_0 rfl fg_X1_22 fp_X1_3 rfl dX1_closeNots_41 (fun H locs hW => ?_)
      have hW : wd D (dn cy LY_X1 ad P V (gp I [(0, 2, (w_waiting - 1)), (0, 3, (w_nested - 1)), (0, 4, w_length)]) (gp J []) (gm A [(1, w_code)]) (gm B [])) Af s.heap H locs := hW
      refine lv_aload_n C0.1 C0.2.1 dX1_closeNots_44 rfl (lv_at hl 0 rfl) ?_
      refine lv_sipush (v := 10147) C0.1 C0.2.1 dX1_closeNots_45 kS_10147 ?_
      obtain ⟨y4, hy4, hf⟩ := b_some hf
      refine c_Vv C0 hK hN hl.1 hW hA (KX1_emit l D cy  ad P V (gp I [(0, 2, (w_waiting - 1)), (0, 3, (w_nested - 1)), (0, 4, w_length)]) (gp J []) (gm A [(1, w_code)]) (gm B []) 10147 hy4) (JN_id rfl rfl rfl rfl) (Uw_V uw_564 uw_566 us_15 uw_11 uw_567) rfl rfl hd_X1_emit ⟨rfl, rfl⟩ rfl (dn_some LY_X1_0) rfl rfl rfl dX1_closeNots_48 ⟨Nat.zero_le _, Nat.zero_le _⟩ (fun H locs hW => ?_)
      have hW : wd D (dn cy LY_X1 ad P V (gp I [(0, 2, (w_waiting - 1)), (0, 3, (w_nested - 1)), (0, 4, y4.1)]) (gp J []) (gm A [(1, y4.2)]) (gm B [])) Af s.heap H locs := hW
      refine lv_goto (tgt := 0) C0.1 C0.2.1 dX1_closeNots_51 (by decide) ?_
      exact hk0 (w_waiting - 1) (w_nested - 1) y4.1 y4.2 H locs ls hW hl hf
theorem TX1_closeNots_0 {p : Program} {l : Launch} {e : Env} {s : State} {m : MethodId} {args : Array Value} {below : List Frame} {meth : Method} {c : Code} {D : va_G} {cy : Nat → ClassId} {ad : Nat → Nat} {P : MP} {V : MV} {I : MI} {J : MJ} {A : MI} {B : MJ} {Af : Nat → Prop} {res : Int32 × Int32 × Int32 × (Nat → Int32)} (C0 : CX p s m args meth c cX1_closeNots 1 none RX1) (hK : va_K D vwCl (tyG cy) s) (hN : NWs s) (hA : ∀ q, s.heap.size ≤ q → Af q) : ∀ n, SX1_closeNots_0 p l e s m args below meth c D cy ad P V I J A B Af res (itr (fun kk => fX1_closeNots_0 (A 2) kk) (fun _ _ _ _ => none) n) := by
  intro n
  induction n with
  | zero => intro w_waiting w_nested w_length w_code H locs ls hW hl hf; exact (nomatch (show (none : Option (Int32 × Int32 × Int32 × (Nat → Int32))) = some res from hf))
  | succ n ih => exact tX1_closeNots_0 C0 hK hN hA  ih
def fX1_closeNots (w_stack : (Nat → Int32)) (w_waiting : Int32) (w_nested : Int32) (w_length : Int32) (w_code : (Nat → Int32)) : Option (Int32 × Int32 × Int32 × (Nat → Int32)) := itr (fun kk => fX1_closeNots_0 w_stack kk) (fun _ _ _ _ => none) FU w_waiting w_nested w_length w_code
set_option maxHeartbeats 4000000 in
set_option maxRecDepth 100000 in
theorem KX1_closeNots (l : Launch) (D : va_G) (cy : Nat → ClassId) (ad : Nat → Nat) (P : MP) (V : MV) (I : MI) (J : MJ) (A : MI) (B : MJ) {res : Int32 × Int32 × Int32 × (Nat → Int32)} (hf : fX1_closeNots (A 2) (I 0 2) (I 0 3) (I 0 4) (A 1) = some res) : CG l yX1_closeNots cX1_closeNots 1 none rmX1_closeNots D cy (dn cy LY_X1 ad P V I J A B) [.ref (ad 0)] none (dn cy LY_X1 ad P V (gp I [(0, 2, res.1), (0, 3, res.2.1), (0, 4, res.2.2.1)]) (gp J []) (gm A [(1, res.2.2.2)]) (gm B [])) := by
  refine CG.of (own := RX1) (by decide) rfl rfl ?_
  intro p e s m below meth c ls Af C0 hK hN hA hW hl
  have hW : wd D (dn cy LY_X1 ad P V (gp I [(0, 2, (I 0 2)), (0, 3, (I 0 3)), (0, 4, (I 0 4))]) (gp J []) (gm A [(1, (A 1))]) (gm B [])) Af s.heap s.heap [] := wd_sel [(0, 2), (0, 3), (0, 4)] [] [1] [] hW
  have hl : lv_has ls 1 [(0, .ref (ad 0))] := hl
  unfold fX1_closeNots at hf
  exact TX1_closeNots_0 C0 hK hN hA  FU (I 0 2) (I 0 3) (I 0 4) (A 1) _ _ ls hW hl hf
-- X1_push
def rmX1_push : Room := { frames := 1, cells := 0, slots := 0, locals := 21 }
def fX1_push (w_waiting : Int32) (w_stack : (Nat → Int32)) (v1 : Int32) : Option (Int32 × (Nat → Int32)) := if 32 ≤ w_waiting then (some (w_waiting, w_stack)) else (bif inb w_waiting 32 then (some ((w_waiting + 1), (upd w_stack (Int32.toNatClampNeg w_waiting) v1))) else none)
set_option maxHeartbeats 4000000 in
set_option maxRecDepth 100000 in
theorem KX1_push (l : Launch) (D : va_G) (cy : Nat → ClassId) (ad : Nat → Nat) (P : MP) (V : MV) (I : MI) (J : MJ) (A : MI) (B : MJ) (v1 : Int32) {res : Int32 × (Nat → Int32)} (hf : fX1_push (I 0 2) (A 2) v1 = some res) : CG l yX1_push cX1_push 2 none rmX1_push D cy (dn cy LY_X1 ad P V I J A B) [.ref (ad 0), .int v1] none (dn cy LY_X1 ad P V (gp I [(0, 2, res.1)]) (gp J []) (gm A [(2, res.2)]) (gm B [])) := by
  refine CG.of (own := RX1) (by decide) rfl rfl ?_
  intro p e s m below meth c ls Af C0 hK hN hA hW hl
  have hW : wd D (dn cy LY_X1 ad P V (gp I [(0, 2, (I 0 2))]) (gp J []) (gm A [(2, (A 2))]) (gm B [])) Af s.heap s.heap [] := wd_sel [(0, 2)] [] [2] [] hW
  have hl : lv_has ls 2 [(0, .ref (ad 0)), (1, .int v1)] := hl
  unfold fX1_push at hf
  refine lv_aload_n C0.1 C0.2.1 dX1_push_0 rfl (lv_at hl 0 rfl) ?_
  refine s_get (v := .int (I 0 2)) C0 hK hW 0 2 LY_X1_0 rfl fg_X1_18 rfl dX1_push_1 ?_
  refine lv_bipush (v := 32) C0.1 C0.2.1 dX1_push_4 kB_32 ?_
  refine lv_icmp_ge (tgt := 29) C0.1 C0.2.1 dX1_push_6 (by decide) (fun hc1 => ?_) (fun hc1 => ?_)
  · have hf := ite_t hc1 hf
    obtain rfl := Option.some.inj hf
    exact r_void C0 hK hW dX1_push_29
  · have hf := ite_f hc1 hf
    refine lv_aload_n C0.1 C0.2.1 dX1_push_9 rfl (lv_at hl 0 rfl) ?_
    refine s_get (v := .ref (ad 2)) C0 hK hW 0 1 LY_X1_0 rfl fg_X1_15 rfl dX1_push_10 ?_
    refine lv_aload_n C0.1 C0.2.1 dX1_push_13 rfl (lv_at hl 0 rfl) ?_
    refine s_get (v := .int (I 0 2)) C0 hK hW 0 2 LY_X1_0 rfl fg_X1_18 rfl dX1_push_14 ?_
    refine lv_iload_n C0.1 C0.2.1 dX1_push_17 rfl (lv_at hl 1 rfl) ?_
    obtain ⟨hb2, hf⟩ := g_some hf
    refine s_iast (f := (upd (A 2) (Int32.toNatClampNeg (I 0 2)) v1)) C0 hK hW 2 LY_X1_2 hb2 rfl rfl dX1_push_18 (fun H locs hW => ?_)
    have hW : wd D (dn cy LY_X1 ad P V (gp I [(0, 2, (I 0 2))]) (gp J []) (gm A [(2, (upd (A 2) (Int32.toNatClampNeg (I 0 2)) v1))]) (gm B [])) Af s.heap H locs := hW
    refine lv_aload_n C0.1 C0.2.1 dX1_push_19 rfl (lv_at hl 0 rfl) ?_
    refine lv_dup C0.1 C0.2.1 dX1_push_20 rfl ?_
    refine s_get (v := .int (I 0 2)) C0 hK hW 0 2 LY_X1_0 rfl fg_X1_18 rfl dX1_push_21 ?_
    refine lv_iconst (v := 1) C0.1 C0.2.1 dX1_push_24 kI_1 ?_
    refine lv_iadd C0.1 C0.2.1 dX1_push_25 ?_
    refine s_putI C0 hK hW 0 2 LY_X1_0 rfl fg_X1_18 fp_X1_2 rfl dX1_push_26 (fun H locs hW => ?_)
    have hW : wd D (dn cy LY_X1 ad P V (gp I [(0, 2, ((I 0 2) + 1))]) (gp J []) (gm A [(2, (upd (A 2) (Int32.toNatClampNeg (I 0 2)) v1))]) (gm B [])) Af s.heap H locs := hW
    obtain rfl := Option.some.inj hf
    exact r_void C0 hK hW dX1_push_29
-- X5_isDigit
def rmX5_isDigit : Room := { frames := 1, cells := 0, slots := 0, locals := 21 }
def fX5_isDigit (v0 : Int32) : Option (Int32) := if v0 < 48 then (some (0)) else (if 57 < v0 then (some (0)) else (some (1)))
set_option maxHeartbeats 4000000 in
set_option maxRecDepth 100000 in
theorem KX5_isDigit (l : Launch) (D : va_G) (cy : Nat → ClassId) (ad : Nat → Nat) (P : MP) (V : MV) (I : MI) (J : MJ) (A : MI) (B : MJ) (v0 : Int32) {res : Int32} (hf : fX5_isDigit v0 = some res) : CG l yX5_isDigit cX5_isDigit 1 (some .boolean) rmX5_isDigit D cy (dn cy LY_0 ad P V I J A B) [.int v0] (some (.int res)) (dn cy LY_0 ad P V (gp I []) (gp J []) (gm A []) (gm B [])) := by
  refine CG.of (own := RX5) (by decide) rfl rfl ?_
  intro p e s m below meth c ls Af C0 hK hN hA hW hl
  have hW : wd D (dn cy LY_0 ad P V (gp I []) (gp J []) (gm A []) (gm B [])) Af s.heap s.heap [] := wd_sel [] [] [] [] hW
  have hl : lv_has ls 1 [(0, .int v0)] := hl
  unfold fX5_isDigit at hf
  refine lv_iload_n C0.1 C0.2.1 dX5_isDigit_0 rfl (lv_at hl 0 rfl) ?_
  refine lv_bipush (v := 48) C0.1 C0.2.1 dX5_isDigit_1 kB_48 ?_
  refine lv_icmp_lt (tgt := 16) C0.1 C0.2.1 dX5_isDigit_3 (by decide) (fun hc1 => ?_) (fun hc1 => ?_)
  · have hf := ite_t hc1 hf
    refine lv_iconst (v := 0) C0.1 C0.2.1 dX5_isDigit_16 kI_0 ?_
    obtain rfl := Option.some.inj hf
    exact r_bool C0 hK hW (v' := 0) rfl dX5_isDigit_17
  · have hf := ite_f hc1 hf
    refine lv_iload_n C0.1 C0.2.1 dX5_isDigit_6 rfl (lv_at hl 0 rfl) ?_
    refine lv_bipush (v := 57) C0.1 C0.2.1 dX5_isDigit_7 kB_57 ?_
    refine lv_icmp_gt (tgt := 16) C0.1 C0.2.1 dX5_isDigit_9 (by decide) (fun hc2 => ?_) (fun hc2 => ?_)
    · have hf := ite_t hc2 hf
      refine lv_iconst (v := 0) C0.1 C0.2.1 dX5_isDigit_16 kI_0 ?_
      obtain rfl := Option.some.inj hf
      exact r_bool C0 hK hW (v' := 0) rfl dX5_isDigit_17
    · have hf := ite_f hc2 hf
      refine lv_iconst (v := 1) C0.1 C0.2.1 dX5_isDigit_12 kI_1 ?_
      refine lv_goto (tgt := 17) C0.1 C0.2.1 dX5_isDigit_13 (by decide) ?_
      obtain rfl := Option.some.inj hf
      exact r_bool C0 hK hW (v' := 1) rfl dX5_isDigit_17
-- X5_takeNumber
def rmX5_takeNumber : Room := { frames := 2, cells := 0, slots := 0, locals := 41 }
def SX5_takeNumber_68 (p : Program) (l : Launch) (e : Env) (s : State) (m : MethodId) (args : Array Value) (below : List Frame) (meth : Method) (c : Code) (D : va_G) (cy : Nat → ClassId) (ad : Nat → Nat) (P : MP) (V : MV) (I : MI) (J : MJ) (A : MI) (B : MJ) (Af : Nat → Prop) (res : Int32 × Int32 × Int32) (k : Int32 → Int32 → Int32 → Option (Int32 × Int32 × Int32)) : Prop := ∀ (p_behind : Int32) (p_token : Int32) (p_number : Int32) (H : Heap) (locs : List Loc) (ls : Array Slot), wd D (dn cy LY_X5 ad P V (gp I [(0, 2, p_behind), (0, 7, p_token), (0, 8, p_number)]) (gp J []) (gm A []) (gm B [])) Af s.heap H locs → lv_has ls 1 [(0, .ref (ad 0))] → k p_behind p_token p_number = some res → W p l e rmX5_takeNumber s m args below meth c H locs 0 0 (ZQ below D cy (dn cy LY_X5 ad P V (gp I [(0, 2, res.1), (0, 7, res.2.1), (0, 8, res.2.2)]) (gp J []) (gm A []) (gm B [])) none Af args s) (F0 m 68 ls [])
def SX5_takeNumber_81 (p : Program) (l : Launch) (e : Env) (s : State) (m : MethodId) (args : Array Value) (below : List Frame) (meth : Method) (c : Code) (D : va_G) (cy : Nat → ClassId) (ad : Nat → Nat) (P : MP) (V : MV) (I : MI) (J : MJ) (A : MI) (B : MJ) (Af : Nat → Prop) (res : Int32 × Int32 × Int32) (k : Int32 → Int32 → Int32 → Option (Int32 × Int32 × Int32)) : Prop := ∀ (p_behind : Int32) (p_token : Int32) (p_number : Int32) (H : Heap) (locs : List Loc) (ls : Array Slot), wd D (dn cy LY_X5 ad P V (gp I [(0, 2, p_behind), (0, 7, p_token), (0, 8, p_number)]) (gp J []) (gm A []) (gm B [])) Af s.heap H locs → lv_has ls 1 [(0, .ref (ad 0))] → k p_behind p_token p_number = some res → W p l e rmX5_takeNumber s m args below meth c H locs 0 0 (ZQ below D cy (dn cy LY_X5 ad P V (gp I [(0, 2, res.1), (0, 7, res.2.1), (0, 8, res.2.2)]) (gp J []) (gm A []) (gm B [])) none Af args s) (F0 m 81 ls [])
def SX5_takeNumber_5 (p : Program) (l : Launch) (e : Env) (s : State) (m : MethodId) (args : Array Value) (below : List Frame) (meth : Method) (c : Code) (D : va_G) (cy : Nat → ClassId) (ad : Nat → Nat) (P : MP) (V : MV) (I : MI) (J : MJ) (A : MI) (B : MJ) (Af : Nat → Prop) (res : Int32 × Int32 × Int32) (k : Int32 → Int32 → Int32 → Option (Int32 × Int32 × Int32)) : Prop := ∀ (p_behind : Int32) (p_token : Int32) (p_number : Int32) (H : Heap) (locs : List Loc) (ls : Array Slot), wd D (dn cy LY_X5 ad P V (gp I [(0, 2, p_behind), (0, 7, p_token), (0, 8, p_number)]) (gp J []) (gm A []) (gm B [])) Af s.heap H locs → lv_has ls 1 [(0, .ref (ad 0))] → k p_behind p_token p_number = some res → W p l e rmX5_takeNumber s m args below meth c H locs 0 0 (ZQ below D cy (dn cy LY_X5 ad P V (gp I [(0, 2, res.1), (0, 7, res.2.1), (0, 8, res.2.2)]) (gp J []) (gm A []) (gm B [])) none Af args s) (F0 m 5 ls [])
def fX5_takeNumber_68 (p_place : Int32) (p_length : Int32) (p_signs : (Nat → Int32)) (k5 : Int32 → Int32 → Int32 → Option (Int32 × Int32 × Int32)) (p_behind : Int32) (p_token : Int32) (p_number : Int32) : Option (Int32 × Int32 × Int32) := k5 (p_behind + 1) p_token p_number
set_option maxHeartbeats 4000000 in
set_option maxRecDepth 100000 in
theorem tX5_takeNumber_68 {p : Program} {l : Launch} {e : Env} {s : State} {m : MethodId} {args : Array Value} {below : List Frame} {meth : Method} {c : Code} {D : va_G} {cy : Nat → ClassId} {ad : Nat → Nat} {P : MP} {V : MV} {I : MI} {J : MJ} {A : MI} {B : MJ} {Af : Nat → Prop} {res : Int32 × Int32 × Int32} (C0 : CX p s m args meth c cX5_takeNumber 1 none RX5) (hK : va_K D vwCl (tyG cy) s) (hN : NWs s) (hA : ∀ q, s.heap.size ≤ q → Af q) {k5 : Int32 → Int32 → Int32 → Option (Int32 × Int32 × Int32)} (hk5 : SX5_takeNumber_5 p l e s m args below meth c D cy ad P V I J A B Af res k5) : SX5_takeNumber_68 p l e s m args below meth c D cy ad P V I J A B Af res (fX5_takeNumber_68 (I 0 3) (I 0 6) (A 1) k5) := by
  intro p_behind p_token p_number H locs ls hW hl hf
  unfold fX5_takeNumber_68 at hf
  refine lv_aload_n C0.1 C0.2.1 dX5_takeNumber_68 rfl (lv_at hl 0 rfl) ?_
  refine lv_dup C0.1 C0.2.1 dX5_takeNumber_69 rfl ?_
  refine s_get (v := .int p_behind) C0 hK hW 0 2 LY_X5_0 rfl fg_X5_36 rfl dX5_takeNumber_70 ?_
  refine lv_iconst (v := 1) C0.1 C0.2.1 dX5_takeNumber_73 kI_1 ?_
  refine lv_iadd C0.1 C0.2.1 dX5_takeNumber_74 ?_
  refine s_putI C0 hK hW 0 2 LY_X5_0 rfl fg_X5_36 fp_X5_2 rfl dX5_takeNumber_75 (fun H locs hW => ?_)
  have hW : wd D (dn cy LY_X5 ad P V (gp I [(0, 2, (p_behind + 1)), (0, 7, p_token), (0, 8, p_number)]) (gp J []) (gm A []) (gm B [])) Af s.heap H locs := hW
  refine lv_goto (tgt := 5) C0.1 C0.2.1 dX5_takeNumber_78 (by decide) ?_
  exact hk5 (p_behind + 1) p_token p_number H locs ls hW hl hf
def fX5_takeNumber_81 (p_place : Int32) (p_length : Int32) (p_signs : (Nat → Int32)) (p_behind : Int32) (p_token : Int32) (p_number : Int32) : Option (Int32 × Int32 × Int32) := if (p_behind - p_place) ≤ 4 then (some (p_behind, 2, p_number)) else (some (p_behind, 1, p_number))
set_option maxHeartbeats 4000000 in
set_option maxRecDepth 100000 in
theorem tX5_takeNumber_81 {p : Program} {l : Launch} {e : Env} {s : State} {m : MethodId} {args : Array Value} {below : List Frame} {meth : Method} {c : Code} {D : va_G} {cy : Nat → ClassId} {ad : Nat → Nat} {P : MP} {V : MV} {I : MI} {J : MJ} {A : MI} {B : MJ} {Af : Nat → Prop} {res : Int32 × Int32 × Int32} (C0 : CX p s m args meth c cX5_takeNumber 1 none RX5) (hK : va_K D vwCl (tyG cy) s) (hN : NWs s) (hA : ∀ q, s.heap.size ≤ q → Af q) : SX5_takeNumber_81 p l e s m args below meth c D cy ad P V I J A B Af res (fX5_takeNumber_81 (I 0 3) (I 0 6) (A 1)) := by
  intro p_behind p_token p_number H locs ls hW hl hf
  unfold fX5_takeNumber_81 at hf
  refine lv_aload_n C0.1 C0.2.1 dX5_takeNumber_81 rfl (lv_at hl 0 rfl) ?_
  refine lv_aload_n C0.1 C0.2.1 dX5_takeNumber_82 rfl (lv_at hl 0 rfl) ?_
  refine s_get (v := .int p_behind) C0 hK hW 0 2 LY_X5_0 rfl fg_X5_36 rfl dX5_takeNumber_83 ?_
  refine lv_aload_n C0.1 C0.2.1 dX5_takeNumber_86 rfl (lv_at hl 0 rfl) ?_
  refine s_get (v := .int (I 0 3)) C0 hK hW 0 3 LY_X5_0 rfl fg_X5_48 rfl dX5_takeNumber_87 ?_
  refine lv_isub C0.1 C0.2.1 dX5_takeNumber_90 ?_
  refine lv_iconst (v := 4) C0.1 C0.2.1 dX5_takeNumber_91 kI_4 ?_
  refine lv_icmp_le (tgt := 99) C0.1 C0.2.1 dX5_takeNumber_92 (by decide) (fun hc1 => ?_) (fun hc1 => ?_)
  · have hf := ite_t hc1 hf
    refine lv_iconst (v := 2) C0.1 C0.2.1 dX5_takeNumber_99 kI_2 ?_
    refine s_putI C0 hK hW 0 7 LY_X5_0 rfl fg_X5_45 fp_X5_7 rfl dX5_takeNumber_100 (fun H locs hW => ?_)
    have hW : wd D (dn cy LY_X5 ad P V (gp I [(0, 2, p_behind), (0, 7, 2), (0, 8, p_number)]) (gp J []) (gm A []) (gm B [])) Af s.heap H locs := hW
    obtain rfl := Option.some.inj hf
    exact r_void C0 hK hW dX5_takeNumber_103
  · have hf := ite_f hc1 hf
    refine lv_iconst (v := 1) C0.1 C0.2.1 dX5_takeNumber_95 kI_1 ?_
    refine lv_goto (tgt := 100) C0.1 C0.2.1 dX5_takeNumber_96 (by decide) ?_
    refine s_putI C0 hK hW 0 7 LY_X5_0 rfl fg_X5_45 fp_X5_7 rfl dX5_takeNumber_100 (fun H locs hW => ?_)
    have hW : wd D (dn cy LY_X5 ad P V (gp I [(0, 2, p_behind), (0, 7, 1), (0, 8, p_number)]) (gp J []) (gm A []) (gm B [])) Af s.heap H locs := hW
    obtain rfl := Option.some.inj hf
    exact r_void C0 hK hW dX5_takeNumber_103
def fX5_takeNumber_5 (p_place : Int32) (p_length : Int32) (p_signs : (Nat → Int32)) (k5 : Int32 → Int32 → Int32 → Option (Int32 × Int32 × Int32)) (p_behind : Int32) (p_token : Int32) (p_number : Int32) : Option (Int32 × Int32 × Int32) := if p_length ≤ p_behind then (fX5_takeNumber_81 p_place p_length p_signs p_behind p_token p_number) else (bif inb p_behind 1000 then (Option.bind (fX5_isDigit (p_signs (Int32.toNatClampNeg p_behind))) fun y3 => (if y3 = 0 then (fX5_takeNumber_81 p_place p_length p_signs p_behind p_token p_number) else (if 4 ≤ (p_behind - p_place) then (fX5_takeNumber_68 p_place p_length p_signs k5 p_behind p_token p_number) else (bif inb p_behind 1000 then (fX5_takeNumber_68 p_place p_length p_signs k5 p_behind p_token (((p_number * 10) + (p_signs (Int32.toNatClampNeg p_behind))) - 48)) else none)))) else none)
set_option maxHeartbeats 4000000 in
set_option maxRecDepth 100000 in
theorem tX5_takeNumber_5 {p : Program} {l : Launch} {e : Env} {s : State} {m : MethodId} {args : Array Value} {below : List Frame} {meth : Method} {c : Code} {D : va_G} {cy : Nat → ClassId} {ad : Nat → Nat} {P : MP} {V : MV} {I : MI} {J : MJ} {A : MI} {B : MJ} {Af : Nat → Prop} {res : Int32 × Int32 × Int32} (C0 : CX p s m args meth c cX5_takeNumber 1 none RX5) (hK : va_K D vwCl (tyG cy) s) (hN : NWs s) (hA : ∀ q, s.heap.size ≤ q → Af q) {k5 : Int32 → Int32 → Int32 → Option (Int32 × Int32 × Int32)} (hk5 : SX5_takeNumber_5 p l e s m args below meth c D cy ad P V I J A B Af res k5) : SX5_takeNumber_5 p l e s m args below meth c D cy ad P V I J A B Af res (fX5_takeNumber_5 (I 0 3) (I 0 6) (A 1) k5) := by
  intro p_behind p_token p_number H locs ls hW hl hf
  unfold fX5_takeNumber_5 at hf
  refine lv_aload_n C0.1 C0.2.1 dX5_takeNumber_5 rfl (lv_at hl 0 rfl) ?_
  refine s_get (v := .int p_behind) C0 hK hW 0 2 LY_X5_0 rfl fg_X5_36 rfl dX5_takeNumber_6 ?_
  refine lv_aload_n C0.1 C0.2.1 dX5_takeNumber_9 rfl (lv_at hl 0 rfl) ?_
  refine s_get (v := .int (I 0 6)) C0 hK hW 0 6 LY_X5_0 rfl fg_X5_33 rfl dX5_takeNumber_10 ?_
  refine lv_icmp_ge (tgt := 81) C0.1 C0.2.1 dX5_takeNumber_13 (by decide) (fun hc1 => ?_) (fun hc1 => ?_)
  · have hf := ite_t hc1 hf
    exact tX5_takeNumber_81 C0 hK hN hA  p_behind p_token p_number H locs ls hW hl hf
  · have hf := ite_f hc1 hf
    refine lv_aload_n C0.1 C0.2.1 dX5_takeNumber_16 rfl (lv_at hl 0 rfl) ?_
    refine s_get (v := .ref (ad 1)) C0 hK hW 0 0 LY_X5_0 rfl fg_X5_9 rfl dX5_takeNumber_17 ?_
    refine lv_aload_n C0.1 C0.2.1 dX5_takeNumber_20 rfl (lv_at hl 0 rfl) ?_
    refine s_get (v := .int p_behind) C0 hK hW 0 2 LY_X5_0 rfl fg_X5_36 rfl dX5_takeNumber_21 ?_
    obtain ⟨hb2, hf⟩ := g_some hf
    refine s_bald (v := ((A 1) (Int32.toNatClampNeg p_behind))) C0 hK hW 1 LY_X5_1 hb2 rfl dX5_takeNumber_24 ?_
    obtain ⟨y3, hy3, hf⟩ := b_some hf
    refine c_Si C0 hK hN hl.1 hW hA (KX5_isDigit l D cy  (fun q => ad (pl_LY_X5_LY_0_.getD q 0)) (fun q => P (pl_LY_X5_LY_0_.getD q 0)) (fun q => Vx LY_X5 ad V (pl_LY_X5_LY_0_.getD q 0)) (fun q => gp I [(0, 2, p_behind), (0, 7, p_token), (0, 8, p_number)] (pl_LY_X5_LY_0_.getD q 0)) (fun q => gp J [] (pl_LY_X5_LY_0_.getD q 0)) (fun q => gm A [] (pl_LY_X5_LY_0_.getD q 0)) (fun q => gm B [] (pl_LY_X5_LY_0_.getD q 0)) ((A 1) (Int32.toNatClampNeg p_behind)) hy3) (JN_subC (pl := pl_LY_X5_LY_0_) sb_LY_X5_LY_0_ rfl rfl rfl rfl rfl rfl rfl rfl rfl) ⟨uw_458, uw_459, uw_2, uw_460⟩ rfl rfl hd_X5_isDigit ⟨rfl, rfl⟩ rfl rfl rfl dX5_takeNumber_25 ⟨Nat.zero_le _, Nat.zero_le _⟩ (fun H locs hW => ?_)
    have hW : wd D (dn cy LY_X5 ad P V (gp I [(0, 2, p_behind), (0, 7, p_token), (0, 8, p_number)]) (gp J []) (gm A []) (gm B [])) Af s.heap H locs := hW
    refine lv_if_eq (tgt := 81) C0.1 C0.2.1 dX5_takeNumber_28 (by decide) (fun hc4 => ?_) (fun hc4 => ?_)
    · have hf := ite_t hc4 hf
      exact tX5_takeNumber_81 C0 hK hN hA  p_behind p_token p_number H locs ls hW hl hf
    · have hf := ite_f hc4 hf
      refine lv_aload_n C0.1 C0.2.1 dX5_takeNumber_31 rfl (lv_at hl 0 rfl) ?_
      refine s_get (v := .int p_behind) C0 hK hW 0 2 LY_X5_0 rfl fg_X5_36 rfl dX5_takeNumber_32 ?_
      refine lv_aload_n C0.1 C0.2.1 dX5_takeNumber_35 rfl (lv_at hl 0 rfl) ?_
      refine s_get (v := .int (I 0 3)) C0 hK hW 0 3 LY_X5_0 rfl fg_X5_48 rfl dX5_takeNumber_36 ?_
      refine lv_isub C0.1 C0.2.1 dX5_takeNumber_39 ?_
      refine lv_iconst (v := 4) C0.1 C0.2.1 dX5_takeNumber_40 kI_4 ?_
      refine lv_icmp_ge (tgt := 68) C0.1 C0.2.1 dX5_takeNumber_41 (by decide) (fun hc5 => ?_) (fun hc5 => ?_)
      · have hf := ite_t hc5 hf
        exact tX5_takeNumber_68 C0 hK hN hA hk5 p_behind p_token p_number H locs ls hW hl hf
      · have hf := ite_f hc5 hf
        refine lv_aload_n C0.1 C0.2.1 dX5_takeNumber_44 rfl (lv_at hl 0 rfl) ?_
        refine lv_aload_n C0.1 C0.2.1 dX5_takeNumber_45 rfl (lv_at hl 0 rfl) ?_
        refine s_get (v := .int p_number) C0 hK hW 0 8 LY_X5_0 rfl fg_X5_67 rfl dX5_takeNumber_46 ?_
        refine lv_bipush (v := 10) C0.1 C0.2.1 dX5_takeNumber_49 kB_10 ?_
        refine lv_imul C0.1 C0.2.1 dX5_takeNumber_51 ?_
        refine lv_aload_n C0.1 C0.2.1 dX5_takeNumber_52 rfl (lv_at hl 0 rfl) ?_
        refine s_get (v := .ref (ad 1)) C0 hK hW 0 0 LY_X5_0 rfl fg_X5_9 rfl dX5_takeNumber_53 ?_
        refine lv_aload_n C0.1 C0.2.1 dX5_takeNumber_56 rfl (lv_at hl 0 rfl) ?_
        refine s_get (v := .int p_behind) C0 hK hW 0 2 LY_X5_0 rfl fg_X5_36 rfl dX5_takeNumber_57 ?_
        obtain ⟨hb6, hf⟩ := g_some hf
        refine s_bald (v := ((A 1) (Int32.toNatClampNeg p_behind))) C0 hK hW 1 LY_X5_1 hb6 rfl dX5_takeNumber_60 ?_
        refine lv_iadd C0.1 C0.2.1 dX5_takeNumber_61 ?_
        refine lv_bipush (v := 48) C0.1 C0.2.1 dX5_takeNumber_62 kB_48 ?_
        refine lv_isub C0.1 C0.2.1 dX5_takeNumber_64 ?_
        refine s_putI C0 hK hW 0 8 LY_X5_0 rfl fg_X5_67 fp_X5_8 rfl dX5_takeNumber_65 (fun H locs hW => ?_)
        have hW : wd D (dn cy LY_X5 ad P V (gp I [(0, 2, p_behind), (0, 7, p_token), (0, 8, (((p_number * 10) + ((A 1) (Int32.toNatClampNeg p_behind))) - 48))]) (gp J []) (gm A []) (gm B [])) Af s.heap H locs := hW
        exact tX5_takeNumber_68 C0 hK hN hA hk5 p_behind p_token (((p_number * 10) + ((A 1) (Int32.toNatClampNeg p_behind))) - 48) H locs ls hW hl hf
theorem TX5_takeNumber_5 {p : Program} {l : Launch} {e : Env} {s : State} {m : MethodId} {args : Array Value} {below : List Frame} {meth : Method} {c : Code} {D : va_G} {cy : Nat → ClassId} {ad : Nat → Nat} {P : MP} {V : MV} {I : MI} {J : MJ} {A : MI} {B : MJ} {Af : Nat → Prop} {res : Int32 × Int32 × Int32} (C0 : CX p s m args meth c cX5_takeNumber 1 none RX5) (hK : va_K D vwCl (tyG cy) s) (hN : NWs s) (hA : ∀ q, s.heap.size ≤ q → Af q) : ∀ n, SX5_takeNumber_5 p l e s m args below meth c D cy ad P V I J A B Af res (itr (fun kk => fX5_takeNumber_5 (I 0 3) (I 0 6) (A 1) kk) (fun _ _ _ => none) n) := by
  intro n
  induction n with
  | zero => intro p_behind p_token p_number H locs ls hW hl hf; exact (nomatch (show (none : Option (Int32 × Int32 × Int32)) = some res from hf))
  | succ n ih => exact tX5_takeNumber_5 C0 hK hN hA  ih
def fX5_takeNumber (p_place : Int32) (p_length : Int32) (p_signs : (Nat → Int32)) (p_behind : Int32) (p_token : Int32) (p_number : Int32) : Option (Int32 × Int32 × Int32) := itr (fun kk => fX5_takeNumber_5 p_place p_length p_signs kk) (fun _ _ _ => none) FU p_behind p_token 0
set_option maxHeartbeats 4000000 in
set_option maxRecDepth 100000 in
theorem KX5_takeNumber (l : Launch) (D : va_G) (cy : Nat → ClassId) (ad : Nat → Nat) (P : MP) (V : MV) (I : MI) (J : MJ) (A : MI) (B : MJ) {res : Int32 × Int32 × Int32} (hf : fX5_takeNumber (I 0 3) (I 0 6) (A 1) (I 0 2) (I 0 7) (I 0 8) = some res) : CG l yX5_takeNumber cX5_takeNumber 1 none rmX5_takeNumber D cy (dn cy LY_X5 ad P V I J A B) [.ref (ad 0)] none (dn cy LY_X5 ad P V (gp I [(0, 2, res.1), (0, 7, res.2.1), (0, 8, res.2.2)]) (gp J []) (gm A []) (gm B [])) := by
  refine CG.of (own := RX5) (by decide) rfl rfl ?_
  intro p e s m below meth c ls Af C0 hK hN hA hW hl
  have hW : wd D (dn cy LY_X5 ad P V (gp I [(0, 2, (I 0 2)), (0, 7, (I 0 7)), (0, 8, (I 0 8))]) (gp J []) (gm A []) (gm B [])) Af s.heap s.heap [] := wd_sel [(0, 2), (0, 7), (0, 8)] [] [] [] hW
  have hl : lv_has ls 1 [(0, .ref (ad 0))] := hl
  unfold fX5_takeNumber at hf
  refine lv_aload_n C0.1 C0.2.1 dX5_takeNumber_0 rfl (lv_at hl 0 rfl) ?_
  refine lv_iconst (v := 0) C0.1 C0.2.1 dX5_takeNumber_1 kI_0 ?_
  refine s_putI C0 hK hW 0 8 LY_X5_0 rfl fg_X5_67 fp_X5_8 rfl dX5_takeNumber_2 (fun H locs hW => ?_)
  have hW : wd D (dn cy LY_X5 ad P V (gp I [(0, 2, (I 0 2)), (0, 7, (I 0 7)), (0, 8, 0)]) (gp J []) (gm A []) (gm B [])) Af s.heap H locs := hW
  exact TX5_takeNumber_5 C0 hK hN hA  FU (I 0 2) (I 0 7) 0 _ _ ls hW hl hf
