-- X4_takenBits
def rmX4_takenBits : Room := { frames := 5, cells := 0, slots := 0, locals := 117 }
def SX4_takenBits_5 (p : Program) (l : Launch) (e : Env) (s : State) (m : MethodId) (args : Array Value) (below : List Frame) (meth : Method) (c : Code) (D : va_G) (cy : Nat → ClassId) (ad : Nat → Nat) (P : MP) (V : MV) (I : MI) (J : MJ) (A : MI) (B : MJ) (Af : Nat → Prop) (res : Int32 × Int32 × (Nat → Int32)) (k : Int32 → (Nat → Int32) → Int32 → Int32 → Int32 → Option (Int32 × Int32 × (Nat → Int32))) : Prop := ∀ (t_law_waiting : Int32) (t_law_stack : (Nat → Int32)) (v2 : Int32) (v3 : Int32) (v4 : Int32) (H : Heap) (locs : List Loc) (ls : Array Slot), wd D (dn cy LY_X4X6 ad P V (gp I [(15, 2, t_law_waiting)]) (gp J []) (gm A [(17, t_law_stack)]) (gm B [])) Af s.heap H locs → lv_has ls 5 [(0, .ref (ad 0)), (1, .ref (ad 3)), (2, .int v2), (3, .int v3), (4, .int v4)] → k t_law_waiting t_law_stack v2 v3 v4 = some res → W p l e rmX4_takenBits s m args below meth c H locs 0 0 (ZQ below D cy (dn cy LY_X4X6 ad P V (gp I [(15, 2, res.2.1)]) (gp J []) (gm A [(17, res.2.2)]) (gm B [])) (some (.int res.1)) Af args s) (F0 m 5 ls [])
def fX4_takenBits_5 (s_date : Int32) (t_guests : Int32) (t_law_length : Int32) (s_coal : (Nat → Int32)) (s_inside : (Nat → Int32)) (t_holeFlags : (Nat → Int32)) (t_kinds : (Nat → Int32)) (t_guestFlags : (Nat → Int32)) (t_foes : (Nat → Int32)) (t_law_code : (Nat → Int32)) (k5 : Int32 → (Nat → Int32) → Int32 → Int32 → Int32 → Option (Int32 × Int32 × (Nat → Int32))) (t_law_waiting : Int32) (t_law_stack : (Nat → Int32)) (v2 : Int32) (v3 : Int32) (v4 : Int32) : Option (Int32 × Int32 × (Nat → Int32)) := if t_guests ≤ v4 then (some (v3, t_law_waiting, t_law_stack)) else (bif inb v2 5 then (if (((s_inside (Int32.toNatClampNeg v2)) >>> (v4 &&& 31)) &&& 1) = 0 then (Option.bind (fX4_takes s_date t_law_length s_coal s_inside t_holeFlags t_kinds t_guestFlags t_foes t_law_code t_law_waiting t_law_stack v2 v4) fun y4 => (if y4.1 = 0 then (k5 y4.2.1 y4.2.2 v2 v3 (v4 + 1)) else (k5 y4.2.1 y4.2.2 v2 (v3 ||| (1 <<< (v4 &&& 31))) (v4 + 1)))) else (k5 t_law_waiting t_law_stack v2 v3 (v4 + 1))) else none)
set_option maxHeartbeats 4000000 in
set_option maxRecDepth 100000 in
theorem tX4_takenBits_5 {p : Program} {l : Launch} {e : Env} {s : State} {m : MethodId} {args : Array Value} {below : List Frame} {meth : Method} {c : Code} {D : va_G} {cy : Nat → ClassId} {ad : Nat → Nat} {P : MP} {V : MV} {I : MI} {J : MJ} {A : MI} {B : MJ} {Af : Nat → Prop} {res : Int32 × Int32 × (Nat → Int32)} (C0 : CX p s m args meth c cX4_takenBits 5 (some .int) RX4) (hK : va_K D vwCl (tyG cy) s) (hN : NWs s) (hA : ∀ q, s.heap.size ≤ q → Af q) {k5 : Int32 → (Nat → Int32) → Int32 → Int32 → Int32 → Option (Int32 × Int32 × (Nat → Int32))} (hk5 : SX4_takenBits_5 p l e s m args below meth c D cy ad P V I J A B Af res k5) : SX4_takenBits_5 p l e s m args below meth c D cy ad P V I J A B Af res (fX4_takenBits_5 (I 0 3) (I 3 14) (I 15 4) (A 1) (A 2) (A 8) (A 12) (A 13) (A 14) (A 16) k5) := by
  intro t_law_waiting t_law_stack v2 v3 v4 H locs ls hW hl hf
  unfold fX4_takenBits_5 at hf
  refine lv_iload C0.1 C0.2.1 dX4_takenBits_5 (lv_at hl 4 rfl) ?_
  refine lv_aload_n C0.1 C0.2.1 dX4_takenBits_7 rfl (lv_at hl 1 rfl) ?_
  refine s_get (v := .int (I 3 14)) C0 hK hW 3 14 LY_X4X6_3 rfl fg_X4_36 rfl dX4_takenBits_8 ?_
  refine lv_icmp_ge (tgt := 52) C0.1 C0.2.1 dX4_takenBits_11 (by decide) (fun hc1 => ?_) (fun hc1 => ?_)
  · have hf := ite_t hc1 hf
    refine lv_iload_n C0.1 C0.2.1 dX4_takenBits_52 rfl (lv_at hl 3 rfl) ?_
    obtain rfl := Option.some.inj hf
    exact r_int C0 hK hW dX4_takenBits_53
  · have hf := ite_f hc1 hf
    refine lv_aload_n C0.1 C0.2.1 dX4_takenBits_14 rfl (lv_at hl 0 rfl) ?_
    refine s_get (v := .ref (ad 2)) C0 hK hW 0 1 LY_X4X6_0 rfl fg_X4_15 rfl dX4_takenBits_15 ?_
    refine lv_iload_n C0.1 C0.2.1 dX4_takenBits_18 rfl (lv_at hl 2 rfl) ?_
    obtain ⟨hb2, hf⟩ := g_some hf
    refine s_iald (v := ((A 2) (Int32.toNatClampNeg v2))) C0 hK hW 2 LY_X4X6_2 hb2 rfl dX4_takenBits_19 ?_
    refine lv_iload C0.1 C0.2.1 dX4_takenBits_20 (lv_at hl 4 rfl) ?_
    refine lv_ishr C0.1 C0.2.1 dX4_takenBits_22 ?_
    refine lv_iconst (v := 1) C0.1 C0.2.1 dX4_takenBits_23 kI_1 ?_
    refine lv_iand C0.1 C0.2.1 dX4_takenBits_24 ?_
    refine lv_if_ne (tgt := 46) C0.1 C0.2.1 dX4_takenBits_25 (by decide) (fun hc3 => ?_) (fun hc3 => ?_)
    · have hf := ite_f hc3 hf
      refine lv_iinc (v := (v4 + 1)) (lv' := [(4, .int (v4 + 1)), (0, .ref (ad 0)), (1, .ref (ad 3)), (2, .int v2), (3, .int v3)]) C0.1 C0.2.1 dX4_takenBits_46 hl (k := 4) rfl (congrArg (fun z => _ + z) kI_1) (by decide) rfl (fun ls hl => ?_)
      refine lv_goto (tgt := 5) C0.1 C0.2.1 dX4_takenBits_49 (by decide) ?_
      exact hk5 t_law_waiting t_law_stack v2 v3 (v4 + 1) H locs ls hW (lv_sub hl [1, 2, 3, 4, 0] rfl) hf
    · have hf := ite_t hc3 hf
      refine lv_aload_n C0.1 C0.2.1 dX4_takenBits_28 rfl (lv_at hl 0 rfl) ?_
      refine lv_aload_n C0.1 C0.2.1 dX4_takenBits_29 rfl (lv_at hl 1 rfl) ?_
      refine lv_iload_n C0.1 C0.2.1 dX4_takenBits_30 rfl (lv_at hl 2 rfl) ?_
      refine lv_iload C0.1 C0.2.1 dX4_takenBits_31 (lv_at hl 4 rfl) ?_
      obtain ⟨y4, hy4, hf⟩ := b_some hf
      refine c_Vi C0 hK hN hl.1 hW hA (KX4_takes l D cy  ad P V (gp I [(15, 2, t_law_waiting)]) (gp J []) (gm A [(17, t_law_stack)]) (gm B []) v2 v4 hy4) (JN_id rfl rfl rfl rfl) (Uw_V uw_635 uw_636 uw_637 uw_7 uw_638) rfl rfl hd_X4_takes ⟨rfl, rfl⟩ rfl (dn_some LY_X4X6_0) rfl rfl rfl dX4_takenBits_33 ⟨Nat.zero_le _, Nat.zero_le _⟩ (fun H locs hW => ?_)
      have hW : wd D (dn cy LY_X4X6 ad P V (gp I [(15, 2, y4.2.1)]) (gp J []) (gm A [(17, y4.2.2)]) (gm B [])) Af s.heap H locs := hW
      refine lv_if_eq (tgt := 46) C0.1 C0.2.1 dX4_takenBits_36 (by decide) (fun hc5 => ?_) (fun hc5 => ?_)
      · have hf := ite_t hc5 hf
        refine lv_iinc (v := (v4 + 1)) (lv' := [(4, .int (v4 + 1)), (0, .ref (ad 0)), (1, .ref (ad 3)), (2, .int v2), (3, .int v3)]) C0.1 C0.2.1 dX4_takenBits_46 hl (k := 4) rfl (congrArg (fun z => _ + z) kI_1) (by decide) rfl (fun ls hl => ?_)
        refine lv_goto (tgt := 5) C0.1 C0.2.1 dX4_takenBits_49 (by decide) ?_
        exact hk5 y4.2.1 y4.2.2 v2 v3 (v4 + 1) H locs ls hW (lv_sub hl [1, 2, 3, 4, 0] rfl) hf
      · have hf := ite_f hc5 hf
        refine lv_iload_n C0.1 C0.2.1 dX4_takenBits_39 rfl (lv_at hl 3 rfl) ?_
        refine lv_iconst (v := 1) C0.1 C0.2.1 dX4_takenBits_40 kI_1 ?_
        refine lv_iload C0.1 C0.2.1 dX4_takenBits_41 (lv_at hl 4 rfl) ?_
        refine lv_ishl C0.1 C0.2.1 dX4_takenBits_43 ?_
        refine lv_ior C0.1 C0.2.1 dX4_takenBits_44 ?_
        refine lv_istore_n (lv' := [(3, .int (v3 ||| (1 <<< (v4 &&& 31)))), (0, .ref (ad 0)), (1, .ref (ad 3)), (2, .int v2), (4, .int v4)]) C0.1 C0.2.1 dX4_takenBits_45 rfl hl (by decide) rfl (fun ls hl => ?_)
        refine lv_iinc (v := (v4 + 1)) (lv' := [(4, .int (v4 + 1)), (3, .int (v3 ||| (1 <<< (v4 &&& 31)))), (0, .ref (ad 0)), (1, .ref (ad 3)), (2, .int v2)]) C0.1 C0.2.1 dX4_takenBits_46 hl (k := 4) rfl (congrArg (fun z => _ + z) kI_1) (by decide) rfl (fun ls hl => ?_)
        refine lv_goto (tgt := 5) C0.1 C0.2.1 dX4_takenBits_49 (by decide) ?_
        exact hk5 y4.2.1 y4.2.2 v2 (v3 ||| (1 <<< (v4 &&& 31))) (v4 + 1) H locs ls hW (lv_sub hl [2, 3, 4, 1, 0] rfl) hf
theorem TX4_takenBits_5 {p : Program} {l : Launch} {e : Env} {s : State} {m : MethodId} {args : Array Value} {below : List Frame} {meth : Method} {c : Code} {D : va_G} {cy : Nat → ClassId} {ad : Nat → Nat} {P : MP} {V : MV} {I : MI} {J : MJ} {A : MI} {B : MJ} {Af : Nat → Prop} {res : Int32 × Int32 × (Nat → Int32)} (C0 : CX p s m args meth c cX4_takenBits 5 (some .int) RX4) (hK : va_K D vwCl (tyG cy) s) (hN : NWs s) (hA : ∀ q, s.heap.size ≤ q → Af q) : ∀ n, SX4_takenBits_5 p l e s m args below meth c D cy ad P V I J A B Af res (itr (fun kk => fX4_takenBits_5 (I 0 3) (I 3 14) (I 15 4) (A 1) (A 2) (A 8) (A 12) (A 13) (A 14) (A 16) kk) (fun _ _ _ _ _ => none) n) := by
  intro n
  induction n with
  | zero => intro t_law_waiting t_law_stack v2 v3 v4 H locs ls hW hl hf; exact (nomatch (show (none : Option (Int32 × Int32 × (Nat → Int32))) = some res from hf))
  | succ n ih => exact tX4_takenBits_5 C0 hK hN hA  ih
def fX4_takenBits (s_date : Int32) (t_guests : Int32) (t_law_length : Int32) (s_coal : (Nat → Int32)) (s_inside : (Nat → Int32)) (t_holeFlags : (Nat → Int32)) (t_kinds : (Nat → Int32)) (t_guestFlags : (Nat → Int32)) (t_foes : (Nat → Int32)) (t_law_code : (Nat → Int32)) (t_law_waiting : Int32) (t_law_stack : (Nat → Int32)) (v2 : Int32) : Option (Int32 × Int32 × (Nat → Int32)) := itr (fun kk => fX4_takenBits_5 s_date t_guests t_law_length s_coal s_inside t_holeFlags t_kinds t_guestFlags t_foes t_law_code kk) (fun _ _ _ _ _ => none) FU t_law_waiting t_law_stack v2 0 0
set_option maxHeartbeats 4000000 in
set_option maxRecDepth 100000 in
theorem KX4_takenBits (l : Launch) (D : va_G) (cy : Nat → ClassId) (ad : Nat → Nat) (P : MP) (V : MV) (I : MI) (J : MJ) (A : MI) (B : MJ) (v2 : Int32) {res : Int32 × Int32 × (Nat → Int32)} (hf : fX4_takenBits (I 0 3) (I 3 14) (I 15 4) (A 1) (A 2) (A 8) (A 12) (A 13) (A 14) (A 16) (I 15 2) (A 17) v2 = some res) : CG l yX4_takenBits cX4_takenBits 5 (some .int) rmX4_takenBits D cy (dn cy LY_X4X6 ad P V I J A B) [.ref (ad 0), .ref (ad 3), .int v2] (some (.int res.1)) (dn cy LY_X4X6 ad P V (gp I [(15, 2, res.2.1)]) (gp J []) (gm A [(17, res.2.2)]) (gm B [])) := by
  refine CG.of (own := RX4) (by decide) rfl rfl ?_
  intro p e s m below meth c ls Af C0 hK hN hA hW hl
  have hW : wd D (dn cy LY_X4X6 ad P V (gp I [(15, 2, (I 15 2))]) (gp J []) (gm A [(17, (A 17))]) (gm B [])) Af s.heap s.heap [] := wd_sel [(15, 2)] [] [17] [] hW
  have hl : lv_has ls 5 [(0, .ref (ad 0)), (1, .ref (ad 3)), (2, .int v2)] := hl
  unfold fX4_takenBits at hf
  refine lv_iconst (v := 0) C0.1 C0.2.1 dX4_takenBits_0 kI_0 ?_
  refine lv_istore_n (lv' := [(3, .int 0), (0, .ref (ad 0)), (1, .ref (ad 3)), (2, .int v2)]) C0.1 C0.2.1 dX4_takenBits_1 rfl hl (by decide) rfl (fun ls hl => ?_)
  refine lv_iconst (v := 0) C0.1 C0.2.1 dX4_takenBits_2 kI_0 ?_
  refine lv_istore (lv' := [(4, .int 0), (3, .int 0), (0, .ref (ad 0)), (1, .ref (ad 3)), (2, .int v2)]) C0.1 C0.2.1 dX4_takenBits_3 hl (by decide) rfl (fun ls hl => ?_)
  exact TX4_takenBits_5 C0 hK hN hA  FU (I 15 2) (A 17) v2 0 0 _ _ ls hW (lv_sub hl [2, 3, 4, 1, 0] rfl) hf
-- X6_hasGuest
def rmX6_hasGuest : Room := { frames := 1, cells := 0, slots := 0, locals := 21 }
def fX6_hasGuest (t_guests : Int32) (v1 : Int32) : Option (Int32) := if v1 < 0 then (some (0)) else (if t_guests ≤ v1 then (some (0)) else (some (1)))
set_option maxHeartbeats 4000000 in
set_option maxRecDepth 100000 in
theorem KX6_hasGuest (l : Launch) (D : va_G) (cy : Nat → ClassId) (ad : Nat → Nat) (P : MP) (V : MV) (I : MI) (J : MJ) (A : MI) (B : MJ) (v1 : Int32) {res : Int32} (hf : fX6_hasGuest (I 0 14) v1 = some res) : CG l yX6_hasGuest cX6_hasGuest 2 (some .boolean) rmX6_hasGuest D cy (dn cy LY_X6 ad P V I J A B) [.ref (ad 0), .int v1] (some (.int res)) (dn cy LY_X6 ad P V (gp I []) (gp J []) (gm A []) (gm B [])) := by
  refine CG.of (own := RX6) (by decide) rfl rfl ?_
  intro p e s m below meth c ls Af C0 hK hN hA hW hl
  have hW : wd D (dn cy LY_X6 ad P V (gp I []) (gp J []) (gm A []) (gm B [])) Af s.heap s.heap [] := wd_sel [] [] [] [] hW
  have hl : lv_has ls 2 [(0, .ref (ad 0)), (1, .int v1)] := hl
  unfold fX6_hasGuest at hf
  refine lv_iload_n C0.1 C0.2.1 dX6_hasGuest_0 rfl (lv_at hl 1 rfl) ?_
  refine lv_if_lt (tgt := 16) C0.1 C0.2.1 dX6_hasGuest_1 (by decide) (fun hc1 => ?_) (fun hc1 => ?_)
  · have hf := ite_t hc1 hf
    refine lv_iconst (v := 0) C0.1 C0.2.1 dX6_hasGuest_16 kI_0 ?_
    obtain rfl := Option.some.inj hf
    exact r_bool C0 hK hW (v' := 0) rfl dX6_hasGuest_17
  · have hf := ite_f hc1 hf
    refine lv_iload_n C0.1 C0.2.1 dX6_hasGuest_4 rfl (lv_at hl 1 rfl) ?_
    refine lv_aload_n C0.1 C0.2.1 dX6_hasGuest_5 rfl (lv_at hl 0 rfl) ?_
    refine s_get (v := .int (I 0 14)) C0 hK hW 0 14 LY_X6_0 rfl fg_X6_110 rfl dX6_hasGuest_6 ?_
    refine lv_icmp_ge (tgt := 16) C0.1 C0.2.1 dX6_hasGuest_9 (by decide) (fun hc2 => ?_) (fun hc2 => ?_)
    · have hf := ite_t hc2 hf
      refine lv_iconst (v := 0) C0.1 C0.2.1 dX6_hasGuest_16 kI_0 ?_
      obtain rfl := Option.some.inj hf
      exact r_bool C0 hK hW (v' := 0) rfl dX6_hasGuest_17
    · have hf := ite_f hc2 hf
      refine lv_iconst (v := 1) C0.1 C0.2.1 dX6_hasGuest_12 kI_1 ?_
      refine lv_goto (tgt := 17) C0.1 C0.2.1 dX6_hasGuest_13 (by decide) ?_
      obtain rfl := Option.some.inj hf
      exact r_bool C0 hK hW (v' := 1) rfl dX6_hasGuest_17
-- X6_hasHole
def rmX6_hasHole : Room := { frames := 1, cells := 0, slots := 0, locals := 21 }
def fX6_hasHole (t_holes : Int32) (v1 : Int32) : Option (Int32) := if v1 < 0 then (some (0)) else (if t_holes ≤ v1 then (some (0)) else (some (1)))
set_option maxHeartbeats 4000000 in
set_option maxRecDepth 100000 in
theorem KX6_hasHole (l : Launch) (D : va_G) (cy : Nat → ClassId) (ad : Nat → Nat) (P : MP) (V : MV) (I : MI) (J : MJ) (A : MI) (B : MJ) (v1 : Int32) {res : Int32} (hf : fX6_hasHole (I 0 13) v1 = some res) : CG l yX6_hasHole cX6_hasHole 2 (some .boolean) rmX6_hasHole D cy (dn cy LY_X6 ad P V I J A B) [.ref (ad 0), .int v1] (some (.int res)) (dn cy LY_X6 ad P V (gp I []) (gp J []) (gm A []) (gm B [])) := by
  refine CG.of (own := RX6) (by decide) rfl rfl ?_
  intro p e s m below meth c ls Af C0 hK hN hA hW hl
  have hW : wd D (dn cy LY_X6 ad P V (gp I []) (gp J []) (gm A []) (gm B [])) Af s.heap s.heap [] := wd_sel [] [] [] [] hW
  have hl : lv_has ls 2 [(0, .ref (ad 0)), (1, .int v1)] := hl
  unfold fX6_hasHole at hf
  refine lv_iload_n C0.1 C0.2.1 dX6_hasHole_0 rfl (lv_at hl 1 rfl) ?_
  refine lv_if_lt (tgt := 16) C0.1 C0.2.1 dX6_hasHole_1 (by decide) (fun hc1 => ?_) (fun hc1 => ?_)
  · have hf := ite_t hc1 hf
    refine lv_iconst (v := 0) C0.1 C0.2.1 dX6_hasHole_16 kI_0 ?_
    obtain rfl := Option.some.inj hf
    exact r_bool C0 hK hW (v' := 0) rfl dX6_hasHole_17
  · have hf := ite_f hc1 hf
    refine lv_iload_n C0.1 C0.2.1 dX6_hasHole_4 rfl (lv_at hl 1 rfl) ?_
    refine lv_aload_n C0.1 C0.2.1 dX6_hasHole_5 rfl (lv_at hl 0 rfl) ?_
    refine s_get (v := .int (I 0 13)) C0 hK hW 0 13 LY_X6_0 rfl fg_X6_107 rfl dX6_hasHole_6 ?_
    refine lv_icmp_ge (tgt := 16) C0.1 C0.2.1 dX6_hasHole_9 (by decide) (fun hc2 => ?_) (fun hc2 => ?_)
    · have hf := ite_t hc2 hf
      refine lv_iconst (v := 0) C0.1 C0.2.1 dX6_hasHole_16 kI_0 ?_
      obtain rfl := Option.some.inj hf
      exact r_bool C0 hK hW (v' := 0) rfl dX6_hasHole_17
    · have hf := ite_f hc2 hf
      refine lv_iconst (v := 1) C0.1 C0.2.1 dX6_hasHole_12 kI_1 ?_
      refine lv_goto (tgt := 17) C0.1 C0.2.1 dX6_hasHole_13 (by decide) ?_
      obtain rfl := Option.some.inj hf
      exact r_bool C0 hK hW (v' := 1) rfl dX6_hasHole_17
-- X4_canGoDown
def rmX4_canGoDown : Room := { frames := 5, cells := 0, slots := 0, locals := 117 }
def fX4_canGoDown (s_seized : Int32) (s_date : Int32) (t_holes : Int32) (t_guests : Int32) (t_law_length : Int32) (s_coal : (Nat → Int32)) (s_inside : (Nat → Int32)) (t_holeFlags : (Nat → Int32)) (t_kinds : (Nat → Int32)) (t_guestFlags : (Nat → Int32)) (t_foes : (Nat → Int32)) (t_law_code : (Nat → Int32)) (t_law_waiting : Int32) (t_law_stack : (Nat → Int32)) (v2 : Int32) (v3 : Int32) : Option (Int32 × Int32 × (Nat → Int32)) := Option.bind (fX6_hasGuest t_guests v2) fun y1 => (if y1 = 0 then (some (0, t_law_waiting, t_law_stack)) else (Option.bind (fX6_hasHole t_holes v3) fun y3 => (if y3 = 0 then (some (0, t_law_waiting, t_law_stack)) else (Option.bind (fX4_streetBits s_seized t_holes t_guests s_inside) fun y5 => (if ((y5 >>> (v2 &&& 31)) &&& 1) = 0 then (some (0, t_law_waiting, t_law_stack)) else (Option.bind (fX4_takes s_date t_law_length s_coal s_inside t_holeFlags t_kinds t_guestFlags t_foes t_law_code t_law_waiting t_law_stack v3 v2) fun y7 => (if y7.1 = 0 then (some (0, y7.2.1, y7.2.2)) else (some (1, y7.2.1, y7.2.2)))))))))
set_option maxHeartbeats 4000000 in
set_option maxRecDepth 100000 in
theorem KX4_canGoDown (l : Launch) (D : va_G) (cy : Nat → ClassId) (ad : Nat → Nat) (P : MP) (V : MV) (I : MI) (J : MJ) (A : MI) (B : MJ) (v2 : Int32) (v3 : Int32) {res : Int32 × Int32 × (Nat → Int32)} (hf : fX4_canGoDown (I 0 2) (I 0 3) (I 3 13) (I 3 14) (I 15 4) (A 1) (A 2) (A 8) (A 12) (A 13) (A 14) (A 16) (I 15 2) (A 17) v2 v3 = some res) : CG l yX4_canGoDown cX4_canGoDown 4 (some .boolean) rmX4_canGoDown D cy (dn cy LY_X4X6 ad P V I J A B) [.ref (ad 0), .ref (ad 3), .int v2, .int v3] (some (.int res.1)) (dn cy LY_X4X6 ad P V (gp I [(15, 2, res.2.1)]) (gp J []) (gm A [(17, res.2.2)]) (gm B [])) := by
  refine CG.of (own := RX4) (by decide) rfl rfl ?_
  intro p e s m below meth c ls Af C0 hK hN hA hW hl
  have hW : wd D (dn cy LY_X4X6 ad P V (gp I [(15, 2, (I 15 2))]) (gp J []) (gm A [(17, (A 17))]) (gm B [])) Af s.heap s.heap [] := wd_sel [(15, 2)] [] [17] [] hW
  have hl : lv_has ls 4 [(0, .ref (ad 0)), (1, .ref (ad 3)), (2, .int v2), (3, .int v3)] := hl
  unfold fX4_canGoDown at hf
  refine lv_aload_n C0.1 C0.2.1 dX4_canGoDown_0 rfl (lv_at hl 1 rfl) ?_
  refine lv_iload_n C0.1 C0.2.1 dX4_canGoDown_1 rfl (lv_at hl 2 rfl) ?_
  obtain ⟨y1, hy1, hf⟩ := b_some hf
  refine c_Vi C0 hK hN hl.1 hW hA (KX6_hasGuest l D cy  (fun q => ad (pl_LY_X4X6_LY_X6_3_4_5407097.getD q 0)) (fun q => P (pl_LY_X4X6_LY_X6_3_4_5407097.getD q 0)) (fun q => Vx LY_X4X6 ad V (pl_LY_X4X6_LY_X6_3_4_5407097.getD q 0)) (fun q => gp I [(15, 2, (I 15 2))] (pl_LY_X4X6_LY_X6_3_4_5407097.getD q 0)) (fun q => gp J [] (pl_LY_X4X6_LY_X6_3_4_5407097.getD q 0)) (fun q => gm A [(17, (A 17))] (pl_LY_X4X6_LY_X6_3_4_5407097.getD q 0)) (fun q => gm B [] (pl_LY_X4X6_LY_X6_3_4_5407097.getD q 0)) v2 hy1) (JN_subC (pl := pl_LY_X4X6_LY_X6_3_4_5407097) sb_LY_X4X6_LY_X6_3_4_5407097 rfl rfl rfl rfl rfl rfl rfl rfl rfl) (Uw_V uw_689 uw_665 uw_666 uw_10 uw_667) rfl rfl hd_X6_hasGuest ⟨rfl, rfl⟩ rfl (dn_some LY_X4X6_3) rfl rfl rfl dX4_canGoDown_2 ⟨Nat.zero_le _, Nat.zero_le _⟩ (fun H locs hW => ?_)
  have hW : wd D (dn cy LY_X4X6 ad P V (gp I [(15, 2, (I 15 2))]) (gp J []) (gm A [(17, (A 17))]) (gm B [])) Af s.heap H locs := hW
  refine lv_if_eq (tgt := 42) C0.1 C0.2.1 dX4_canGoDown_5 (by decide) (fun hc2 => ?_) (fun hc2 => ?_)
  · have hf := ite_t hc2 hf
    refine lv_iconst (v := 0) C0.1 C0.2.1 dX4_canGoDown_42 kI_0 ?_
    obtain rfl := Option.some.inj hf
    exact r_bool C0 hK hW (v' := 0) rfl dX4_canGoDown_43
  · have hf := ite_f hc2 hf
    refine lv_aload_n C0.1 C0.2.1 dX4_canGoDown_8 rfl (lv_at hl 1 rfl) ?_
    refine lv_iload_n C0.1 C0.2.1 dX4_canGoDown_9 rfl (lv_at hl 3 rfl) ?_
    obtain ⟨y3, hy3, hf⟩ := b_some hf
    refine c_Vi C0 hK hN hl.1 hW hA (KX6_hasHole l D cy  (fun q => ad (pl_LY_X4X6_LY_X6_3_4_5407097.getD q 0)) (fun q => P (pl_LY_X4X6_LY_X6_3_4_5407097.getD q 0)) (fun q => Vx LY_X4X6 ad V (pl_LY_X4X6_LY_X6_3_4_5407097.getD q 0)) (fun q => gp I [(15, 2, (I 15 2))] (pl_LY_X4X6_LY_X6_3_4_5407097.getD q 0)) (fun q => gp J [] (pl_LY_X4X6_LY_X6_3_4_5407097.getD q 0)) (fun q => gm A [(17, (A 17))] (pl_LY_X4X6_LY_X6_3_4_5407097.getD q 0)) (fun q => gm B [] (pl_LY_X4X6_LY_X6_3_4_5407097.getD q 0)) v3 hy3) (JN_subC (pl := pl_LY_X4X6_LY_X6_3_4_5407097) sb_LY_X4X6_LY_X6_3_4_5407097 rfl rfl rfl rfl rfl rfl rfl rfl rfl) (Uw_V uw_690 uw_628 uw_629 uw_10 uw_630) rfl rfl hd_X6_hasHole ⟨rfl, rfl⟩ rfl (dn_some LY_X4X6_3) rfl rfl rfl dX4_canGoDown_10 ⟨Nat.zero_le _, Nat.zero_le _⟩ (fun H locs hW => ?_)
    have hW : wd D (dn cy LY_X4X6 ad P V (gp I [(15, 2, (I 15 2))]) (gp J []) (gm A [(17, (A 17))]) (gm B [])) Af s.heap H locs := hW
    refine lv_if_eq (tgt := 42) C0.1 C0.2.1 dX4_canGoDown_13 (by decide) (fun hc4 => ?_) (fun hc4 => ?_)
    · have hf := ite_t hc4 hf
      refine lv_iconst (v := 0) C0.1 C0.2.1 dX4_canGoDown_42 kI_0 ?_
      obtain rfl := Option.some.inj hf
      exact r_bool C0 hK hW (v' := 0) rfl dX4_canGoDown_43
    · have hf := ite_f hc4 hf
      refine lv_aload_n C0.1 C0.2.1 dX4_canGoDown_16 rfl (lv_at hl 0 rfl) ?_
      refine lv_aload_n C0.1 C0.2.1 dX4_canGoDown_17 rfl (lv_at hl 1 rfl) ?_
      obtain ⟨y5, hy5, hf⟩ := b_some hf
      refine c_Vi C0 hK hN hl.1 hW hA (KX4_streetBits l D cy  ad P V (gp I [(15, 2, (I 15 2))]) (gp J []) (gm A [(17, (A 17))]) (gm B [])  hy5) (JN_id rfl rfl rfl rfl) (Uw_V uw_677 uw_678 uw_679 uw_7 uw_680) rfl rfl hd_X4_streetBits ⟨rfl, rfl⟩ rfl (dn_some LY_X4X6_0) rfl rfl rfl dX4_canGoDown_18 ⟨Nat.zero_le _, Nat.zero_le _⟩ (fun H locs hW => ?_)
      have hW : wd D (dn cy LY_X4X6 ad P V (gp I [(15, 2, (I 15 2))]) (gp J []) (gm A [(17, (A 17))]) (gm B [])) Af s.heap H locs := hW
      refine lv_iload_n C0.1 C0.2.1 dX4_canGoDown_21 rfl (lv_at hl 2 rfl) ?_
      refine lv_ishr C0.1 C0.2.1 dX4_canGoDown_22 ?_
      refine lv_iconst (v := 1) C0.1 C0.2.1 dX4_canGoDown_23 kI_1 ?_
      refine lv_iand C0.1 C0.2.1 dX4_canGoDown_24 ?_
      refine lv_if_eq (tgt := 42) C0.1 C0.2.1 dX4_canGoDown_25 (by decide) (fun hc6 => ?_) (fun hc6 => ?_)
      · have hf := ite_t hc6 hf
        refine lv_iconst (v := 0) C0.1 C0.2.1 dX4_canGoDown_42 kI_0 ?_
        obtain rfl := Option.some.inj hf
        exact r_bool C0 hK hW (v' := 0) rfl dX4_canGoDown_43
      · have hf := ite_f hc6 hf
        refine lv_aload_n C0.1 C0.2.1 dX4_canGoDown_28 rfl (lv_at hl 0 rfl) ?_
        refine lv_aload_n C0.1 C0.2.1 dX4_canGoDown_29 rfl (lv_at hl 1 rfl) ?_
        refine lv_iload_n C0.1 C0.2.1 dX4_canGoDown_30 rfl (lv_at hl 3 rfl) ?_
        refine lv_iload_n C0.1 C0.2.1 dX4_canGoDown_31 rfl (lv_at hl 2 rfl) ?_
        obtain ⟨y7, hy7, hf⟩ := b_some hf
        refine c_Vi C0 hK hN hl.1 hW hA (KX4_takes l D cy  ad P V (gp I [(15, 2, (I 15 2))]) (gp J []) (gm A [(17, (A 17))]) (gm B []) v3 v2 hy7) (JN_id rfl rfl rfl rfl) (Uw_V uw_635 uw_636 uw_637 uw_7 uw_638) rfl rfl hd_X4_takes ⟨rfl, rfl⟩ rfl (dn_some LY_X4X6_0) rfl rfl rfl dX4_canGoDown_32 ⟨Nat.zero_le _, Nat.zero_le _⟩ (fun H locs hW => ?_)
        have hW : wd D (dn cy LY_X4X6 ad P V (gp I [(15, 2, y7.2.1)]) (gp J []) (gm A [(17, y7.2.2)]) (gm B [])) Af s.heap H locs := hW
        refine lv_if_eq (tgt := 42) C0.1 C0.2.1 dX4_canGoDown_35 (by decide) (fun hc8 => ?_) (fun hc8 => ?_)
        · have hf := ite_t hc8 hf
          refine lv_iconst (v := 0) C0.1 C0.2.1 dX4_canGoDown_42 kI_0 ?_
          obtain rfl := Option.some.inj hf
          exact r_bool C0 hK hW (v' := 0) rfl dX4_canGoDown_43
        · have hf := ite_f hc8 hf
          refine lv_iconst (v := 1) C0.1 C0.2.1 dX4_canGoDown_38 kI_1 ?_
          refine lv_goto (tgt := 43) C0.1 C0.2.1 dX4_canGoDown_39 (by decide) ?_
          obtain rfl := Option.some.inj hf
          exact r_bool C0 hK hW (v' := 1) rfl dX4_canGoDown_43
-- X4_canClimb
def rmX4_canClimb : Room := { frames := 2, cells := 0, slots := 0, locals := 43 }
def fX4_canClimb (t_guests : Int32) (s_inside : (Nat → Int32)) (v2 : Int32) : Option (Int32) := Option.bind (fX6_hasGuest t_guests v2) fun y1 => (if y1 = 0 then (some (0)) else (Option.bind (fX4_placeOf s_inside v2) fun y3 => (if y3 = (-1) then (some (0)) else (some (1)))))
set_option maxHeartbeats 4000000 in
set_option maxRecDepth 100000 in
theorem KX4_canClimb (l : Launch) (D : va_G) (cy : Nat → ClassId) (ad : Nat → Nat) (P : MP) (V : MV) (I : MI) (J : MJ) (A : MI) (B : MJ) (v2 : Int32) {res : Int32} (hf : fX4_canClimb (I 3 14) (A 2) v2 = some res) : CG l yX4_canClimb cX4_canClimb 3 (some .boolean) rmX4_canClimb D cy (dn cy LY_X4X6 ad P V I J A B) [.ref (ad 0), .ref (ad 3), .int v2] (some (.int res)) (dn cy LY_X4X6 ad P V (gp I []) (gp J []) (gm A []) (gm B [])) := by
  refine CG.of (own := RX4) (by decide) rfl rfl ?_
  intro p e s m below meth c ls Af C0 hK hN hA hW hl
  have hW : wd D (dn cy LY_X4X6 ad P V (gp I []) (gp J []) (gm A []) (gm B [])) Af s.heap s.heap [] := wd_sel [] [] [] [] hW
  have hl : lv_has ls 3 [(0, .ref (ad 0)), (1, .ref (ad 3)), (2, .int v2)] := hl
  unfold fX4_canClimb at hf
  refine lv_aload_n C0.1 C0.2.1 dX4_canClimb_0 rfl (lv_at hl 1 rfl) ?_
  refine lv_iload_n C0.1 C0.2.1 dX4_canClimb_1 rfl (lv_at hl 2 rfl) ?_
  obtain ⟨y1, hy1, hf⟩ := b_some hf
  refine c_Vi C0 hK hN hl.1 hW hA (KX6_hasGuest l D cy  (fun q => ad (pl_LY_X4X6_LY_X6_3_4_5407097.getD q 0)) (fun q => P (pl_LY_X4X6_LY_X6_3_4_5407097.getD q 0)) (fun q => Vx LY_X4X6 ad V (pl_LY_X4X6_LY_X6_3_4_5407097.getD q 0)) (fun q => gp I [] (pl_LY_X4X6_LY_X6_3_4_5407097.getD q 0)) (fun q => gp J [] (pl_LY_X4X6_LY_X6_3_4_5407097.getD q 0)) (fun q => gm A [] (pl_LY_X4X6_LY_X6_3_4_5407097.getD q 0)) (fun q => gm B [] (pl_LY_X4X6_LY_X6_3_4_5407097.getD q 0)) v2 hy1) (JN_subC (pl := pl_LY_X4X6_LY_X6_3_4_5407097) sb_LY_X4X6_LY_X6_3_4_5407097 rfl rfl rfl rfl rfl rfl rfl rfl rfl) (Uw_V uw_689 uw_665 uw_666 uw_10 uw_667) rfl rfl hd_X6_hasGuest ⟨rfl, rfl⟩ rfl (dn_some LY_X4X6_3) rfl rfl rfl dX4_canClimb_2 ⟨Nat.zero_le _, Nat.zero_le _⟩ (fun H locs hW => ?_)
  have hW : wd D (dn cy LY_X4X6 ad P V (gp I []) (gp J []) (gm A []) (gm B [])) Af s.heap H locs := hW
  refine lv_if_eq (tgt := 21) C0.1 C0.2.1 dX4_canClimb_5 (by decide) (fun hc2 => ?_) (fun hc2 => ?_)
  · have hf := ite_t hc2 hf
    refine lv_iconst (v := 0) C0.1 C0.2.1 dX4_canClimb_21 kI_0 ?_
    obtain rfl := Option.some.inj hf
    exact r_bool C0 hK hW (v' := 0) rfl dX4_canClimb_22
  · have hf := ite_f hc2 hf
    refine lv_aload_n C0.1 C0.2.1 dX4_canClimb_8 rfl (lv_at hl 0 rfl) ?_
    refine lv_iload_n C0.1 C0.2.1 dX4_canClimb_9 rfl (lv_at hl 2 rfl) ?_
    obtain ⟨y3, hy3, hf⟩ := b_some hf
    refine c_Vi C0 hK hN hl.1 hW hA (KX4_placeOf l D cy  (fun q => ad (pl_LY_X4X6_LY_X4_0_1_2.getD q 0)) (fun q => P (pl_LY_X4X6_LY_X4_0_1_2.getD q 0)) (fun q => Vx LY_X4X6 ad V (pl_LY_X4X6_LY_X4_0_1_2.getD q 0)) (fun q => gp I [] (pl_LY_X4X6_LY_X4_0_1_2.getD q 0)) (fun q => gp J [] (pl_LY_X4X6_LY_X4_0_1_2.getD q 0)) (fun q => gm A [] (pl_LY_X4X6_LY_X4_0_1_2.getD q 0)) (fun q => gm B [] (pl_LY_X4X6_LY_X4_0_1_2.getD q 0)) v2 hy3) (JN_subC (pl := pl_LY_X4X6_LY_X4_0_1_2) sb_LY_X4X6_LY_X4_0_1_2 rfl rfl rfl rfl rfl rfl rfl rfl rfl) (Uw_V uw_676 uw_669 uw_670 uw_7 uw_671) rfl rfl hd_X4_placeOf ⟨rfl, rfl⟩ rfl (dn_some LY_X4X6_0) rfl rfl rfl dX4_canClimb_10 ⟨Nat.zero_le _, Nat.zero_le _⟩ (fun H locs hW => ?_)
    have hW : wd D (dn cy LY_X4X6 ad P V (gp I []) (gp J []) (gm A []) (gm B [])) Af s.heap H locs := hW
    refine lv_iconst (v := (-1)) C0.1 C0.2.1 dX4_canClimb_13 kI_m1 ?_
    refine lv_icmp_eq (tgt := 21) C0.1 C0.2.1 dX4_canClimb_14 (by decide) (fun hc4 => ?_) (fun hc4 => ?_)
    · have hf := ite_t hc4 hf
      refine lv_iconst (v := 0) C0.1 C0.2.1 dX4_canClimb_21 kI_0 ?_
      obtain rfl := Option.some.inj hf
      exact r_bool C0 hK hW (v' := 0) rfl dX4_canClimb_22
    · have hf := ite_f hc4 hf
      refine lv_iconst (v := 1) C0.1 C0.2.1 dX4_canClimb_17 kI_1 ?_
      refine lv_goto (tgt := 22) C0.1 C0.2.1 dX4_canClimb_18 (by decide) ?_
      obtain rfl := Option.some.inj hf
      exact r_bool C0 hK hW (v' := 1) rfl dX4_canClimb_22
-- X4_canGoThrough
def rmX4_canGoThrough : Room := { frames := 5, cells := 0, slots := 0, locals := 117 }
def fX4_canGoThrough (s_date : Int32) (t_holes : Int32) (t_guests : Int32) (t_law_length : Int32) (s_coal : (Nat → Int32)) (s_inside : (Nat → Int32)) (t_holeFlags : (Nat → Int32)) (t_beside : (Nat → Int32)) (t_kinds : (Nat → Int32)) (t_guestFlags : (Nat → Int32)) (t_foes : (Nat → Int32)) (t_law_code : (Nat → Int32)) (t_law_waiting : Int32) (t_law_stack : (Nat → Int32)) (v2 : Int32) (v3 : Int32) : Option (Int32 × Int32 × (Nat → Int32)) := Option.bind (fX4_canClimb t_guests s_inside v2) fun y1 => (if y1 = 0 then (some (0, t_law_waiting, t_law_stack)) else (Option.bind (fX6_hasHole t_holes v3) fun y3 => (if y3 = 0 then (some (0, t_law_waiting, t_law_stack)) else (bif inb v3 5 then (Option.bind (fX4_placeOf s_inside v2) fun y6 => (if (((t_beside (Int32.toNatClampNeg v3)) >>> (y6 &&& 31)) &&& 1) = 0 then (some (0, t_law_waiting, t_law_stack)) else (Option.bind (fX4_takes s_date t_law_length s_coal s_inside t_holeFlags t_kinds t_guestFlags t_foes t_law_code t_law_waiting t_law_stack v3 v2) fun y8 => (if y8.1 = 0 then (some (0, y8.2.1, y8.2.2)) else (some (1, y8.2.1, y8.2.2)))))) else none))))
set_option maxHeartbeats 4000000 in
set_option maxRecDepth 100000 in
theorem KX4_canGoThrough (l : Launch) (D : va_G) (cy : Nat → ClassId) (ad : Nat → Nat) (P : MP) (V : MV) (I : MI) (J : MJ) (A : MI) (B : MJ) (v2 : Int32) (v3 : Int32) {res : Int32 × Int32 × (Nat → Int32)} (hf : fX4_canGoThrough (I 0 3) (I 3 13) (I 3 14) (I 15 4) (A 1) (A 2) (A 8) (A 11) (A 12) (A 13) (A 14) (A 16) (I 15 2) (A 17) v2 v3 = some res) : CG l yX4_canGoThrough cX4_canGoThrough 4 (some .boolean) rmX4_canGoThrough D cy (dn cy LY_X4X6 ad P V I J A B) [.ref (ad 0), .ref (ad 3), .int v2, .int v3] (some (.int res.1)) (dn cy LY_X4X6 ad P V (gp I [(15, 2, res.2.1)]) (gp J []) (gm A [(17, res.2.2)]) (gm B [])) := by
  refine CG.of (own := RX4) (by decide) rfl rfl ?_
  intro p e s m below meth c ls Af C0 hK hN hA hW hl
  have hW : wd D (dn cy LY_X4X6 ad P V (gp I [(15, 2, (I 15 2))]) (gp J []) (gm A [(17, (A 17))]) (gm B [])) Af s.heap s.heap [] := wd_sel [(15, 2)] [] [17] [] hW
  have hl : lv_has ls 4 [(0, .ref (ad 0)), (1, .ref (ad 3)), (2, .int v2), (3, .int v3)] := hl
  unfold fX4_canGoThrough at hf
  refine lv_aload_n C0.1 C0.2.1 dX4_canGoThrough_0 rfl (lv_at hl 0 rfl) ?_
  refine lv_aload_n C0.1 C0.2.1 dX4_canGoThrough_1 rfl (lv_at hl 1 rfl) ?_
  refine lv_iload_n C0.1 C0.2.1 dX4_canGoThrough_2 rfl (lv_at hl 2 rfl) ?_
  obtain ⟨y1, hy1, hf⟩ := b_some hf
  refine c_Vi C0 hK hN hl.1 hW hA (KX4_canClimb l D cy  ad P V (gp I [(15, 2, (I 15 2))]) (gp J []) (gm A [(17, (A 17))]) (gm B []) v2 hy1) (JN_id rfl rfl rfl rfl) (Uw_V uw_722 uw_711 uw_712 uw_7 uw_713) rfl rfl hd_X4_canClimb ⟨rfl, rfl⟩ rfl (dn_some LY_X4X6_0) rfl rfl rfl dX4_canGoThrough_3 ⟨Nat.zero_le _, Nat.zero_le _⟩ (fun H locs hW => ?_)
  have hW : wd D (dn cy LY_X4X6 ad P V (gp I [(15, 2, (I 15 2))]) (gp J []) (gm A [(17, (A 17))]) (gm B [])) Af s.heap H locs := hW
  refine lv_if_eq (tgt := 48) C0.1 C0.2.1 dX4_canGoThrough_6 (by decide) (fun hc2 => ?_) (fun hc2 => ?_)
  · have hf := ite_t hc2 hf
    refine lv_iconst (v := 0) C0.1 C0.2.1 dX4_canGoThrough_48 kI_0 ?_
    obtain rfl := Option.some.inj hf
    exact r_bool C0 hK hW (v' := 0) rfl dX4_canGoThrough_49
  · have hf := ite_f hc2 hf
    refine lv_aload_n C0.1 C0.2.1 dX4_canGoThrough_9 rfl (lv_at hl 1 rfl) ?_
    refine lv_iload_n C0.1 C0.2.1 dX4_canGoThrough_10 rfl (lv_at hl 3 rfl) ?_
    obtain ⟨y3, hy3, hf⟩ := b_some hf
    refine c_Vi C0 hK hN hl.1 hW hA (KX6_hasHole l D cy  (fun q => ad (pl_LY_X4X6_LY_X6_3_4_5407097.getD q 0)) (fun q => P (pl_LY_X4X6_LY_X6_3_4_5407097.getD q 0)) (fun q => Vx LY_X4X6 ad V (pl_LY_X4X6_LY_X6_3_4_5407097.getD q 0)) (fun q => gp I [(15, 2, (I 15 2))] (pl_LY_X4X6_LY_X6_3_4_5407097.getD q 0)) (fun q => gp J [] (pl_LY_X4X6_LY_X6_3_4_5407097.getD q 0)) (fun q => gm A [(17, (A 17))] (pl_LY_X4X6_LY_X6_3_4_5407097.getD q 0)) (fun q => gm B [] (pl_LY_X4X6_LY_X6_3_4_5407097.getD q 0)) v3 hy3) (JN_subC (pl := pl_LY_X4X6_LY_X6_3_4_5407097) sb_LY_X4X6_LY_X6_3_4_5407097 rfl rfl rfl rfl rfl rfl rfl rfl rfl) (Uw_V uw_690 uw_628 uw_629 uw_10 uw_630) rfl rfl hd_X6_hasHole ⟨rfl, rfl⟩ rfl (dn_some LY_X4X6_3) rfl rfl rfl dX4_canGoThrough_11 ⟨Nat.zero_le _, Nat.zero_le _⟩ (fun H locs hW => ?_)
    have hW : wd D (dn cy LY_X4X6 ad P V (gp I [(15, 2, (I 15 2))]) (gp J []) (gm A [(17, (A 17))]) (gm B [])) Af s.heap H locs := hW
    refine lv_if_eq (tgt := 48) C0.1 C0.2.1 dX4_canGoThrough_14 (by decide) (fun hc4 => ?_) (fun hc4 => ?_)
    · have hf := ite_t hc4 hf
      refine lv_iconst (v := 0) C0.1 C0.2.1 dX4_canGoThrough_48 kI_0 ?_
      obtain rfl := Option.some.inj hf
      exact r_bool C0 hK hW (v' := 0) rfl dX4_canGoThrough_49
    · have hf := ite_f hc4 hf
      refine lv_aload_n C0.1 C0.2.1 dX4_canGoThrough_17 rfl (lv_at hl 1 rfl) ?_
      refine s_get (v := .ref (ad 11)) C0 hK hW 3 8 LY_X4X6_3 rfl fg_X4_96 rfl dX4_canGoThrough_18 ?_
      refine lv_iload_n C0.1 C0.2.1 dX4_canGoThrough_21 rfl (lv_at hl 3 rfl) ?_
      obtain ⟨hb5, hf⟩ := g_some hf
      refine s_iald (v := ((A 11) (Int32.toNatClampNeg v3))) C0 hK hW 11 LY_X4X6_11 hb5 rfl dX4_canGoThrough_22 ?_
      refine lv_aload_n C0.1 C0.2.1 dX4_canGoThrough_23 rfl (lv_at hl 0 rfl) ?_
      refine lv_iload_n C0.1 C0.2.1 dX4_canGoThrough_24 rfl (lv_at hl 2 rfl) ?_
      obtain ⟨y6, hy6, hf⟩ := b_some hf
      refine c_Vi C0 hK hN hl.1 hW hA (KX4_placeOf l D cy  (fun q => ad (pl_LY_X4X6_LY_X4_0_1_2.getD q 0)) (fun q => P (pl_LY_X4X6_LY_X4_0_1_2.getD q 0)) (fun q => Vx LY_X4X6 ad V (pl_LY_X4X6_LY_X4_0_1_2.getD q 0)) (fun q => gp I [(15, 2, (I 15 2))] (pl_LY_X4X6_LY_X4_0_1_2.getD q 0)) (fun q => gp J [] (pl_LY_X4X6_LY_X4_0_1_2.getD q 0)) (fun q => gm A [(17, (A 17))] (pl_LY_X4X6_LY_X4_0_1_2.getD q 0)) (fun q => gm B [] (pl_LY_X4X6_LY_X4_0_1_2.getD q 0)) v2 hy6) (JN_subC (pl := pl_LY_X4X6_LY_X4_0_1_2) sb_LY_X4X6_LY_X4_0_1_2 rfl rfl rfl rfl rfl rfl rfl rfl rfl) (Uw_V uw_676 uw_669 uw_670 uw_7 uw_671) rfl rfl hd_X4_placeOf ⟨rfl, rfl⟩ rfl (dn_some LY_X4X6_0) rfl rfl rfl dX4_canGoThrough_25 ⟨Nat.zero_le _, Nat.zero_le _⟩ (fun H locs hW => ?_)
      have hW : wd D (dn cy LY_X4X6 ad P V (gp I [(15, 2, (I 15 2))]) (gp J []) (gm A [(17, (A 17))]) (gm B [])) Af s.heap H locs := hW
      refine lv_ishr C0.1 C0.2.1 dX4_canGoThrough_28 ?_
      refine lv_iconst (v := 1) C0.1 C0.2.1 dX4_canGoThrough_29 kI_1 ?_
      refine lv_iand C0.1 C0.2.1 dX4_canGoThrough_30 ?_
      refine lv_if_eq (tgt := 48) C0.1 C0.2.1 dX4_canGoThrough_31 (by decide) (fun hc7 => ?_) (fun hc7 => ?_)
      · have hf := ite_t hc7 hf
        refine lv_iconst (v := 0) C0.1 C0.2.1 dX4_canGoThrough_48 kI_0 ?_
        obtain rfl := Option.some.inj hf
        exact r_bool C0 hK hW (v' := 0) rfl dX4_canGoThrough_49
      · have hf := ite_f hc7 hf
        refine lv_aload_n C0.1 C0.2.1 dX4_canGoThrough_34 rfl (lv_at hl 0 rfl) ?_
        refine lv_aload_n C0.1 C0.2.1 dX4_canGoThrough_35 rfl (lv_at hl 1 rfl) ?_
        refine lv_iload_n C0.1 C0.2.1 dX4_canGoThrough_36 rfl (lv_at hl 3 rfl) ?_
        refine lv_iload_n C0.1 C0.2.1 dX4_canGoThrough_37 rfl (lv_at hl 2 rfl) ?_
        obtain ⟨y8, hy8, hf⟩ := b_some hf
        refine c_Vi C0 hK hN hl.1 hW hA (KX4_takes l D cy  ad P V (gp I [(15, 2, (I 15 2))]) (gp J []) (gm A [(17, (A 17))]) (gm B []) v3 v2 hy8) (JN_id rfl rfl rfl rfl) (Uw_V uw_635 uw_636 uw_637 uw_7 uw_638) rfl rfl hd_X4_takes ⟨rfl, rfl⟩ rfl (dn_some LY_X4X6_0) rfl rfl rfl dX4_canGoThrough_38 ⟨Nat.zero_le _, Nat.zero_le _⟩ (fun H locs hW => ?_)
        have hW : wd D (dn cy LY_X4X6 ad P V (gp I [(15, 2, y8.2.1)]) (gp J []) (gm A [(17, y8.2.2)]) (gm B [])) Af s.heap H locs := hW
        refine lv_if_eq (tgt := 48) C0.1 C0.2.1 dX4_canGoThrough_41 (by decide) (fun hc9 => ?_) (fun hc9 => ?_)
        · have hf := ite_t hc9 hf
          refine lv_iconst (v := 0) C0.1 C0.2.1 dX4_canGoThrough_48 kI_0 ?_
          obtain rfl := Option.some.inj hf
          exact r_bool C0 hK hW (v' := 0) rfl dX4_canGoThrough_49
        · have hf := ite_f hc9 hf
          refine lv_iconst (v := 1) C0.1 C0.2.1 dX4_canGoThrough_44 kI_1 ?_
          refine lv_goto (tgt := 49) C0.1 C0.2.1 dX4_canGoThrough_45 (by decide) ?_
          obtain rfl := Option.some.inj hf
          exact r_bool C0 hK hW (v' := 1) rfl dX4_canGoThrough_49
-- X4_move
def rmX4_move : Room := { frames := 1, cells := 0, slots := 0, locals := 21 }
def SX4_move_40 (p : Program) (l : Launch) (e : Env) (s : State) (m : MethodId) (args : Array Value) (below : List Frame) (meth : Method) (c : Code) (D : va_G) (cy : Nat → ClassId) (ad : Nat → Nat) (P : MP) (V : MV) (I : MI) (J : MJ) (A : MI) (B : MJ) (Af : Nat → Prop) (res : (Nat → Int32)) (k : (Nat → Int32) → Int32 → Int32 → Int32 → Int32 → Int32 → Int32 → Option ((Nat → Int32))) : Prop := ∀ (s_inside : (Nat → Int32)) (v1 : Int32) (v2 : Int32) (v3 : Int32) (x0 : Int32) (x1 : Int32) (x2 : Int32) (H : Heap) (locs : List Loc) (ls : Array Slot), wd D (dn cy LY_X4 ad P V (gp I []) (gp J []) (gm A [(2, s_inside)]) (gm B [])) Af s.heap H locs → lv_has ls 4 [(0, .ref (ad 0)), (1, .int v1), (2, .int v2), (3, .int v3)] → k s_inside v1 v2 v3 x0 x1 x2 = some res → W p l e rmX4_move s m args below meth c H locs 0 0 (ZQ below D cy (dn cy LY_X4 ad P V (gp I []) (gp J []) (gm A [(2, res)]) (gm B [])) none Af args s) (F0 m 40 ls [.int x0, .int x1, .int x2, .ref (ad 2)])
def SX4_move_2 (p : Program) (l : Launch) (e : Env) (s : State) (m : MethodId) (args : Array Value) (below : List Frame) (meth : Method) (c : Code) (D : va_G) (cy : Nat → ClassId) (ad : Nat → Nat) (P : MP) (V : MV) (I : MI) (J : MJ) (A : MI) (B : MJ) (Af : Nat → Prop) (res : (Nat → Int32)) (k : (Nat → Int32) → Int32 → Int32 → Int32 → Option ((Nat → Int32))) : Prop := ∀ (s_inside : (Nat → Int32)) (v1 : Int32) (v2 : Int32) (v3 : Int32) (H : Heap) (locs : List Loc) (ls : Array Slot), wd D (dn cy LY_X4 ad P V (gp I []) (gp J []) (gm A [(2, s_inside)]) (gm B [])) Af s.heap H locs → lv_has ls 4 [(0, .ref (ad 0)), (1, .int v1), (2, .int v2), (3, .int v3)] → k s_inside v1 v2 v3 = some res → W p l e rmX4_move s m args below meth c H locs 0 0 (ZQ below D cy (dn cy LY_X4 ad P V (gp I []) (gp J []) (gm A [(2, res)]) (gm B [])) none Af args s) (F0 m 2 ls [])
def fX4_move_40 (k2 : (Nat → Int32) → Int32 → Int32 → Int32 → Option ((Nat → Int32))) (s_inside : (Nat → Int32)) (v1 : Int32) (v2 : Int32) (v3 : Int32) (x0 : Int32) (x1 : Int32) (x2 : Int32) : Option ((Nat → Int32)) := bif inb x2 5 then (k2 (upd s_inside (Int32.toNatClampNeg x2) (x1 ||| x0)) v1 v2 (v3 + 1)) else none
set_option maxHeartbeats 4000000 in
set_option maxRecDepth 100000 in
theorem tX4_move_40 {p : Program} {l : Launch} {e : Env} {s : State} {m : MethodId} {args : Array Value} {below : List Frame} {meth : Method} {c : Code} {D : va_G} {cy : Nat → ClassId} {ad : Nat → Nat} {P : MP} {V : MV} {I : MI} {J : MJ} {A : MI} {B : MJ} {Af : Nat → Prop} {res : (Nat → Int32)} (C0 : CX p s m args meth c cX4_move 4 none RX4) (hK : va_K D vwCl (tyG cy) s) (hN : NWs s) (hA : ∀ q, s.heap.size ≤ q → Af q) {k2 : (Nat → Int32) → Int32 → Int32 → Int32 → Option ((Nat → Int32))} (hk2 : SX4_move_2 p l e s m args below meth c D cy ad P V I J A B Af res k2) : SX4_move_40 p l e s m args below meth c D cy ad P V I J A B Af res (fX4_move_40 k2) := by
  intro s_inside v1 v2 v3 x0 x1 x2 H locs ls hW hl hf
  unfold fX4_move_40 at hf
  refine lv_ior C0.1 C0.2.1 dX4_move_40 ?_
  obtain ⟨hb1, hf⟩ := g_some hf
  refine s_iast (f := (upd s_inside (Int32.toNatClampNeg x2) (x1 ||| x0))) C0 hK hW 2 LY_X4_2 hb1 rfl rfl dX4_move_41 (fun H locs hW => ?_)
  have hW : wd D (dn cy LY_X4 ad P V (gp I []) (gp J []) (gm A [(2, (upd s_inside (Int32.toNatClampNeg x2) (x1 ||| x0)))]) (gm B [])) Af s.heap H locs := hW
  refine lv_iinc (v := (v3 + 1)) (lv' := [(3, .int (v3 + 1)), (0, .ref (ad 0)), (1, .int v1), (2, .int v2)]) C0.1 C0.2.1 dX4_move_42 hl (k := 3) rfl (congrArg (fun z => _ + z) kI_1) (by decide) rfl (fun ls hl => ?_)
  refine lv_goto (tgt := 2) C0.1 C0.2.1 dX4_move_45 (by decide) ?_
  exact hk2 (upd s_inside (Int32.toNatClampNeg x2) (x1 ||| x0)) v1 v2 (v3 + 1) H locs ls hW (lv_sub hl [1, 2, 3, 0] rfl) hf
def fX4_move_2 (k2 : (Nat → Int32) → Int32 → Int32 → Int32 → Option ((Nat → Int32))) (s_inside : (Nat → Int32)) (v1 : Int32) (v2 : Int32) (v3 : Int32) : Option ((Nat → Int32)) := if 5 ≤ v3 then (some (s_inside)) else (bif inb v3 5 then (bif inb v3 5 then (bif inb v3 5 then (if v3 = v2 then (fX4_move_40 k2 (upd s_inside (Int32.toNatClampNeg v3) ((s_inside (Int32.toNatClampNeg v3)) &&& ((1 <<< (v1 &&& 31)) ^^^ (-1)))) v1 v2 v3 (1 <<< (v1 &&& 31)) ((upd s_inside (Int32.toNatClampNeg v3) ((s_inside (Int32.toNatClampNeg v3)) &&& ((1 <<< (v1 &&& 31)) ^^^ (-1)))) (Int32.toNatClampNeg v3)) v3) else (fX4_move_40 k2 (upd s_inside (Int32.toNatClampNeg v3) ((s_inside (Int32.toNatClampNeg v3)) &&& ((1 <<< (v1 &&& 31)) ^^^ (-1)))) v1 v2 v3 0 ((upd s_inside (Int32.toNatClampNeg v3) ((s_inside (Int32.toNatClampNeg v3)) &&& ((1 <<< (v1 &&& 31)) ^^^ (-1)))) (Int32.toNatClampNeg v3)) v3)) else none) else none) else none)
set_option maxHeartbeats 4000000 in
set_option maxRecDepth 100000 in
theorem tX4_move_2 {p : Program} {l : Launch} {e : Env} {s : State} {m : MethodId} {args : Array Value} {below : List Frame} {meth : Method} {c : Code} {D : va_G} {cy : Nat → ClassId} {ad : Nat → Nat} {P : MP} {V : MV} {I : MI} {J : MJ} {A : MI} {B : MJ} {Af : Nat → Prop} {res : (Nat → Int32)} (C0 : CX p s m args meth c cX4_move 4 none RX4) (hK : va_K D vwCl (tyG cy) s) (hN : NWs s) (hA : ∀ q, s.heap.size ≤ q → Af q) {k2 : (Nat → Int32) → Int32 → Int32 → Int32 → Option ((Nat → Int32))} (hk2 : SX4_move_2 p l e s m args below meth c D cy ad P V I J A B Af res k2) : SX4_move_2 p l e s m args below meth c D cy ad P V I J A B Af res (fX4_move_2 k2) := by
  intro s_inside v1 v2 v3 H locs ls hW hl hf
  unfold fX4_move_2 at hf
  refine lv_iload_n C0.1 C0.2.1 dX4_move_2 rfl (lv_at hl 3 rfl) ?_
  refine lv_iconst (v := 5) C0.1 C0.2.1 dX4_move_3 kI_5 ?_
  refine lv_icmp_ge (tgt := 48) C0.1 C0.2.1 dX4_move_4 (by decide) (fun hc1 => ?_) (fun hc1 => ?_)
  · have hf := ite_t hc1 hf
    obtain rfl := Option.some.inj hf
    exact r_void C0 hK hW dX4_move_48
  · have hf := ite_f hc1 hf
    refine lv_aload_n C0.1 C0.2.1 dX4_move_7 rfl (lv_at hl 0 rfl) ?_
    refine s_get (v := .ref (ad 2)) C0 hK hW 0 1 LY_X4_0 rfl fg_X4_15 rfl dX4_move_8 ?_
    refine lv_iload_n C0.1 C0.2.1 dX4_move_11 rfl (lv_at hl 3 rfl) ?_
    refine lv_dup2_11 C0.1 C0.2.1 dX4_move_12 rfl rfl ?_
    obtain ⟨hb2, hf⟩ := g_some hf
    refine s_iald (v := (s_inside (Int32.toNatClampNeg v3))) C0 hK hW 2 LY_X4_2 hb2 rfl dX4_move_13 ?_
    refine lv_iconst (v := 1) C0.1 C0.2.1 dX4_move_14 kI_1 ?_
    refine lv_iload_n C0.1 C0.2.1 dX4_move_15 rfl (lv_at hl 1 rfl) ?_
    refine lv_ishl C0.1 C0.2.1 dX4_move_16 ?_
    refine lv_iconst (v := (-1)) C0.1 C0.2.1 dX4_move_17 kI_m1 ?_
    refine lv_ixor C0.1 C0.2.1 dX4_move_18 ?_
    refine lv_iand C0.1 C0.2.1 dX4_move_19 ?_
    obtain ⟨hb3, hf⟩ := g_some hf
    refine s_iast (f := (upd s_inside (Int32.toNatClampNeg v3) ((s_inside (Int32.toNatClampNeg v3)) &&& ((1 <<< (v1 &&& 31)) ^^^ (-1))))) C0 hK hW 2 LY_X4_2 hb3 rfl rfl dX4_move_20 (fun H locs hW => ?_)
    have hW : wd D (dn cy LY_X4 ad P V (gp I []) (gp J []) (gm A [(2, (upd s_inside (Int32.toNatClampNeg v3) ((s_inside (Int32.toNatClampNeg v3)) &&& ((1 <<< (v1 &&& 31)) ^^^ (-1)))))]) (gm B [])) Af s.heap H locs := hW
    refine lv_aload_n C0.1 C0.2.1 dX4_move_21 rfl (lv_at hl 0 rfl) ?_
    refine s_get (v := .ref (ad 2)) C0 hK hW 0 1 LY_X4_0 rfl fg_X4_15 rfl dX4_move_22 ?_
    refine lv_iload_n C0.1 C0.2.1 dX4_move_25 rfl (lv_at hl 3 rfl) ?_
    refine lv_dup2_11 C0.1 C0.2.1 dX4_move_26 rfl rfl ?_
    obtain ⟨hb4, hf⟩ := g_some hf
    refine s_iald (v := ((upd s_inside (Int32.toNatClampNeg v3) ((s_inside (Int32.toNatClampNeg v3)) &&& ((1 <<< (v1 &&& 31)) ^^^ (-1)))) (Int32.toNatClampNeg v3))) C0 hK hW 2 LY_X4_2 hb4 rfl dX4_move_27 ?_
    refine lv_iload_n C0.1 C0.2.1 dX4_move_28 rfl (lv_at hl 3 rfl) ?_
    refine lv_iload_n C0.1 C0.2.1 dX4_move_29 rfl (lv_at hl 2 rfl) ?_
    refine lv_icmp_ne (tgt := 39) C0.1 C0.2.1 dX4_move_30 (by decide) (fun hc5 => ?_) (fun hc5 => ?_)
    · have hf := ite_f hc5 hf
      refine lv_iconst (v := 0) C0.1 C0.2.1 dX4_move_39 kI_0 ?_
      exact tX4_move_40 C0 hK hN hA hk2 (upd s_inside (Int32.toNatClampNeg v3) ((s_inside (Int32.toNatClampNeg v3)) &&& ((1 <<< (v1 &&& 31)) ^^^ (-1)))) v1 v2 v3 0 ((upd s_inside (Int32.toNatClampNeg v3) ((s_inside (Int32.toNatClampNeg v3)) &&& ((1 <<< (v1 &&& 31)) ^^^ (-1)))) (Int32.toNatClampNeg v3)) v3 H locs ls hW hl hf
    · have hf := ite_t hc5 hf
      refine lv_iconst (v := 1) C0.1 C0.2.1 dX4_move_33 kI_1 ?_
      refine lv_iload_n C0.1 C0.2.1 dX4_move_34 rfl (lv_at hl 1 rfl) ?_
      refine lv_ishl C0.1 C0.2.1 dX4_move_35 ?_
      refine lv_goto (tgt := 40) C0.1 C0.2.1 dX4_move_36 (by decide) ?_
      exact tX4_move_40 C0 hK hN hA hk2 (upd s_inside (Int32.toNatClampNeg v3) ((s_inside (Int32.toNatClampNeg v3)) &&& ((1 <<< (v1 &&& 31)) ^^^ (-1)))) v1 v2 v3 (1 <<< (v1 &&& 31)) ((upd s_inside (Int32.toNatClampNeg v3) ((s_inside (Int32.toNatClampNeg v3)) &&& ((1 <<< (v1 &&& 31)) ^^^ (-1)))) (Int32.toNatClampNeg v3)) v3 H locs ls hW hl hf
theorem TX4_move_2 {p : Program} {l : Launch} {e : Env} {s : State} {m : MethodId} {args : Array Value} {below : List Frame} {meth : Method} {c : Code} {D : va_G} {cy : Nat → ClassId} {ad : Nat → Nat} {P : MP} {V : MV} {I : MI} {J : MJ} {A : MI} {B : MJ} {Af : Nat → Prop} {res : (Nat → Int32)} (C0 : CX p s m args meth c cX4_move 4 none RX4) (hK : va_K D vwCl (tyG cy) s) (hN : NWs s) (hA : ∀ q, s.heap.size ≤ q → Af q) : ∀ n, SX4_move_2 p l e s m args below meth c D cy ad P V I J A B Af res (itr (fun kk => fX4_move_2  kk) (fun _ _ _ _ => none) n) := by
  intro n
  induction n with
  | zero => intro s_inside v1 v2 v3 H locs ls hW hl hf; exact (nomatch (show (none : Option ((Nat → Int32))) = some res from hf))
  | succ n ih => exact tX4_move_2 C0 hK hN hA  ih
def fX4_move (s_inside : (Nat → Int32)) (v1 : Int32) (v2 : Int32) : Option ((Nat → Int32)) := itr (fun kk => fX4_move_2 kk) (fun _ _ _ _ => none) FU s_inside v1 v2 0
set_option maxHeartbeats 4000000 in
set_option maxRecDepth 100000 in
theorem KX4_move (l : Launch) (D : va_G) (cy : Nat → ClassId) (ad : Nat → Nat) (P : MP) (V : MV) (I : MI) (J : MJ) (A : MI) (B : MJ) (v1 : Int32) (v2 : Int32) {res : (Nat → Int32)} (hf : fX4_move (A 2) v1 v2 = some res) : CG l yX4_move cX4_move 4 none rmX4_move D cy (dn cy LY_X4 ad P V I J A B) [.ref (ad 0), .int v1, .int v2] none (dn cy LY_X4 ad P V (gp I []) (gp J []) (gm A [(2, res)]) (gm B [])) := by
  refine CG.of (own := RX4) (by decide) rfl rfl ?_
  intro p e s m below meth c ls Af C0 hK hN hA hW hl
  have hW : wd D (dn cy LY_X4 ad P V (gp I []) (gp J []) (gm A [(2, (A 2))]) (gm B [])) Af s.heap s.heap [] := wd_sel [] [] [2] [] hW
  have hl : lv_has ls 4 [(0, .ref (ad 0)), (1, .int v1), (2, .int v2)] := hl
  unfold fX4_move at hf
  refine lv_iconst (v := 0) C0.1 C0.2.1 dX4_move_0 kI_0 ?_
  refine lv_istore_n (lv' := [(3, .int 0), (0, .ref (ad 0)), (1, .int v1), (2, .int v2)]) C0.1 C0.2.1 dX4_move_1 rfl hl (by decide) rfl (fun ls hl => ?_)
  exact TX4_move_2 C0 hK hN hA  FU (A 2) v1 v2 0 _ _ ls hW (lv_sub hl [1, 2, 3, 0] rfl) hf
-- X4_addSack
def rmX4_addSack : Room := { frames := 1, cells := 0, slots := 0, locals := 21 }
def fX4_addSack (t_sack : Int32) (s_brought : Int32) (s_coal : (Nat → Int32)) (v2 : Int32) : Option (Int32 × (Nat → Int32)) := bif inb v2 5 then (bif inb v2 5 then (some ((s_brought + 1), (upd s_coal (Int32.toNatClampNeg v2) (imin ((s_coal (Int32.toNatClampNeg v2)) + t_sack) 99)))) else none) else none
set_option maxHeartbeats 4000000 in
set_option maxRecDepth 100000 in
theorem KX4_addSack (l : Launch) (D : va_G) (cy : Nat → ClassId) (ad : Nat → Nat) (P : MP) (V : MV) (I : MI) (J : MJ) (A : MI) (B : MJ) (v2 : Int32) {res : Int32 × (Nat → Int32)} (hf : fX4_addSack (I 3 15) (I 0 4) (A 1) v2 = some res) : CG l yX4_addSack cX4_addSack 3 none rmX4_addSack D cy (dn cy LY_X4X6 ad P V I J A B) [.ref (ad 0), .ref (ad 3), .int v2] none (dn cy LY_X4X6 ad P V (gp I [(0, 4, res.1)]) (gp J []) (gm A [(1, res.2)]) (gm B [])) := by
  refine CG.of (own := RX4) (by decide) rfl rfl ?_
  intro p e s m below meth c ls Af C0 hK hN hA hW hl
  have hW : wd D (dn cy LY_X4X6 ad P V (gp I [(0, 4, (I 0 4))]) (gp J []) (gm A [(1, (A 1))]) (gm B [])) Af s.heap s.heap [] := wd_sel [(0, 4)] [] [1] [] hW
  have hl : lv_has ls 3 [(0, .ref (ad 0)), (1, .ref (ad 3)), (2, .int v2)] := hl
  unfold fX4_addSack at hf
  refine lv_aload_n C0.1 C0.2.1 dX4_addSack_0 rfl (lv_at hl 0 rfl) ?_
  refine s_get (v := .ref (ad 1)) C0 hK hW 0 0 LY_X4X6_0 rfl fg_X4_9 rfl dX4_addSack_1 ?_
  refine lv_iload_n C0.1 C0.2.1 dX4_addSack_4 rfl (lv_at hl 2 rfl) ?_
  refine lv_aload_n C0.1 C0.2.1 dX4_addSack_5 rfl (lv_at hl 0 rfl) ?_
  refine s_get (v := .ref (ad 1)) C0 hK hW 0 0 LY_X4X6_0 rfl fg_X4_9 rfl dX4_addSack_6 ?_
  refine lv_iload_n C0.1 C0.2.1 dX4_addSack_9 rfl (lv_at hl 2 rfl) ?_
  obtain ⟨hb1, hf⟩ := g_some hf
  refine s_iald (v := ((A 1) (Int32.toNatClampNeg v2))) C0 hK hW 1 LY_X4X6_1 hb1 rfl dX4_addSack_10 ?_
  refine lv_aload_n C0.1 C0.2.1 dX4_addSack_11 rfl (lv_at hl 1 rfl) ?_
  refine s_get (v := .int (I 3 15)) C0 hK hW 3 15 LY_X4X6_3 rfl fg_X4_99 rfl dX4_addSack_12 ?_
  refine lv_iadd C0.1 C0.2.1 dX4_addSack_15 ?_
  refine lv_bipush (v := 99) C0.1 C0.2.1 dX4_addSack_16 kB_99 ?_
  refine s_min C0 hl.1 uw_731 uw_700 uw_16 uw_701 (Nat.le_of_ble_eq_true rfl) (Nat.le_of_ble_eq_true rfl) (Nat.zero_le _) (Nat.zero_le _) dX4_addSack_18 ?_
  obtain ⟨hb2, hf⟩ := g_some hf
  refine s_iast (f := (upd (A 1) (Int32.toNatClampNeg v2) (imin (((A 1) (Int32.toNatClampNeg v2)) + (I 3 15)) 99))) C0 hK hW 1 LY_X4X6_1 hb2 rfl rfl dX4_addSack_21 (fun H locs hW => ?_)
  have hW : wd D (dn cy LY_X4X6 ad P V (gp I [(0, 4, (I 0 4))]) (gp J []) (gm A [(1, (upd (A 1) (Int32.toNatClampNeg v2) (imin (((A 1) (Int32.toNatClampNeg v2)) + (I 3 15)) 99)))]) (gm B [])) Af s.heap H locs := hW
  refine lv_aload_n C0.1 C0.2.1 dX4_addSack_22 rfl (lv_at hl 0 rfl) ?_
  refine lv_dup C0.1 C0.2.1 dX4_addSack_23 rfl ?_
  refine s_get (v := .int (I 0 4)) C0 hK hW 0 4 LY_X4X6_0 rfl fg_X4_30 rfl dX4_addSack_24 ?_
  refine lv_iconst (v := 1) C0.1 C0.2.1 dX4_addSack_27 kI_1 ?_
  refine lv_iadd C0.1 C0.2.1 dX4_addSack_28 ?_
  refine s_putI C0 hK hW 0 4 LY_X4X6_0 rfl fg_X4_30 fp_X4_4 rfl dX4_addSack_29 (fun H locs hW => ?_)
  have hW : wd D (dn cy LY_X4X6 ad P V (gp I [(0, 4, ((I 0 4) + 1))]) (gp J []) (gm A [(1, (upd (A 1) (Int32.toNatClampNeg v2) (imin (((A 1) (Int32.toNatClampNeg v2)) + (I 3 15)) 99)))]) (gm B [])) Af s.heap H locs := hW
  obtain rfl := Option.some.inj hf
  exact r_void C0 hK hW dX4_addSack_32
-- X4_passDay
def rmX4_passDay : Room := { frames := 2, cells := 0, slots := 0, locals := 44 }
def SX4_passDay_11 (p : Program) (l : Launch) (e : Env) (s : State) (m : MethodId) (args : Array Value) (below : List Frame) (meth : Method) (c : Code) (D : va_G) (cy : Nat → ClassId) (ad : Nat → Nat) (P : MP) (V : MV) (I : MI) (J : MJ) (A : MI) (B : MJ) (Af : Nat → Prop) (res : Int32 × Int32 × Int32 × (Nat → Int32) × (Nat → Int32)) (k : Int32 → Int32 → (Nat → Int32) → (Nat → Int32) → Int32 → Int32 → Option (Int32 × Int32 × Int32 × (Nat → Int32) × (Nat → Int32))) : Prop := ∀ (s_seized : Int32) (s_date : Int32) (s_coal : (Nat → Int32)) (s_inside : (Nat → Int32)) (v2 : Int32) (v3 : Int32) (H : Heap) (locs : List Loc) (ls : Array Slot), wd D (dn cy LY_X4X6 ad P V (gp I [(0, 2, s_seized), (0, 3, s_date)]) (gp J []) (gm A [(1, s_coal), (2, s_inside)]) (gm B [])) Af s.heap H locs → lv_has ls 4 [(0, .ref (ad 0)), (1, .ref (ad 3)), (2, .int v2), (3, .int v3)] → k s_seized s_date s_coal s_inside v2 v3 = some res → W p l e rmX4_passDay s m args below meth c H locs 0 0 (ZQ below D cy (dn cy LY_X4X6 ad P V (gp I [(0, 2, res.2.1), (0, 3, res.2.2.1)]) (gp J []) (gm A [(1, res.2.2.2.1), (2, res.2.2.2.2)]) (gm B [])) (some (.int res.1)) Af args s) (F0 m 11 ls [])
def fX4_passDay_11 (t_colds : Int32) (t_holes : Int32) (t_guests : Int32) (t_catBits : Int32) (t_wantedBits : Int32) (t_cold : (Nat → Int32)) (t_burns : (Nat → Int32)) (k11 : Int32 → Int32 → (Nat → Int32) → (Nat → Int32) → Int32 → Int32 → Option (Int32 × Int32 × Int32 × (Nat → Int32) × (Nat → Int32))) (s_seized : Int32) (s_date : Int32) (s_coal : (Nat → Int32)) (s_inside : (Nat → Int32)) (v2 : Int32) (v3 : Int32) : Option (Int32 × Int32 × Int32 × (Nat → Int32) × (Nat → Int32)) := if t_holes ≤ v3 then (Option.bind (fX4_streetBits s_seized t_holes t_guests s_inside) fun y2 => (some ((y2 &&& t_wantedBits), (s_seized ||| (y2 &&& t_wantedBits)), (s_date + 1), s_coal, s_inside))) else (bif inb v3 5 then (bif inb v3 5 then (bif inb v3 5 then (bif inb v3 5 then (if ((upd s_coal (Int32.toNatClampNeg v3) (imax ((s_coal (Int32.toNatClampNeg v3)) - ((t_burns (Int32.toNatClampNeg v3)) * v2)) 0)) (Int32.toNatClampNeg v3)) = 0 then (bif inb v3 5 then (bif inb v3 5 then (k11 s_seized s_date (upd s_coal (Int32.toNatClampNeg v3) (imax ((s_coal (Int32.toNatClampNeg v3)) - ((t_burns (Int32.toNatClampNeg v3)) * v2)) 0)) (upd s_inside (Int32.toNatClampNeg v3) ((s_inside (Int32.toNatClampNeg v3)) &&& t_catBits)) v2 (v3 + 1)) else none) else none) else (k11 s_seized s_date (upd s_coal (Int32.toNatClampNeg v3) (imax ((s_coal (Int32.toNatClampNeg v3)) - ((t_burns (Int32.toNatClampNeg v3)) * v2)) 0)) s_inside v2 (v3 + 1))) else none) else none) else none) else none)
set_option maxHeartbeats 4000000 in
set_option maxRecDepth 100000 in
theorem tX4_passDay_11 {p : Program} {l : Launch} {e : Env} {s : State} {m : MethodId} {args : Array Value} {below : List Frame} {meth : Method} {c : Code} {D : va_G} {cy : Nat → ClassId} {ad : Nat → Nat} {P : MP} {V : MV} {I : MI} {J : MJ} {A : MI} {B : MJ} {Af : Nat → Prop} {res : Int32 × Int32 × Int32 × (Nat → Int32) × (Nat → Int32)} (C0 : CX p s m args meth c cX4_passDay 4 (some .int) RX4) (hK : va_K D vwCl (tyG cy) s) (hN : NWs s) (hA : ∀ q, s.heap.size ≤ q → Af q) {k11 : Int32 → Int32 → (Nat → Int32) → (Nat → Int32) → Int32 → Int32 → Option (Int32 × Int32 × Int32 × (Nat → Int32) × (Nat → Int32))} (hk11 : SX4_passDay_11 p l e s m args below meth c D cy ad P V I J A B Af res k11) : SX4_passDay_11 p l e s m args below meth c D cy ad P V I J A B Af res (fX4_passDay_11 (I 3 4) (I 3 13) (I 3 14) (I 3 16) (I 3 17) (A 7) (A 10) k11) := by
  intro s_seized s_date s_coal s_inside v2 v3 H locs ls hW hl hf
  unfold fX4_passDay_11 at hf
  refine lv_iload_n C0.1 C0.2.1 dX4_passDay_11 rfl (lv_at hl 3 rfl) ?_
  refine lv_aload_n C0.1 C0.2.1 dX4_passDay_12 rfl (lv_at hl 1 rfl) ?_
  refine s_get (v := .int (I 3 13)) C0 hK hW 3 13 LY_X4X6_3 rfl fg_X4_33 rfl dX4_passDay_13 ?_
  refine lv_icmp_ge (tgt := 72) C0.1 C0.2.1 dX4_passDay_16 (by decide) (fun hc1 => ?_) (fun hc1 => ?_)
  · have hf := ite_t hc1 hf
    refine lv_aload_n C0.1 C0.2.1 dX4_passDay_72 rfl (lv_at hl 0 rfl) ?_
    refine lv_aload_n C0.1 C0.2.1 dX4_passDay_73 rfl (lv_at hl 1 rfl) ?_
    obtain ⟨y2, hy2, hf⟩ := b_some hf
    refine c_Vi C0 hK hN hl.1 hW hA (KX4_streetBits l D cy  ad P V (gp I [(0, 2, s_seized), (0, 3, s_date)]) (gp J []) (gm A [(1, s_coal), (2, s_inside)]) (gm B [])  hy2) (JN_id rfl rfl rfl rfl) (Uw_V uw_677 uw_678 uw_679 uw_7 uw_680) rfl rfl hd_X4_streetBits ⟨rfl, rfl⟩ rfl (dn_some LY_X4X6_0) rfl rfl rfl dX4_passDay_74 ⟨Nat.zero_le _, Nat.zero_le _⟩ (fun H locs hW => ?_)
    have hW : wd D (dn cy LY_X4X6 ad P V (gp I [(0, 2, s_seized), (0, 3, s_date)]) (gp J []) (gm A [(1, s_coal), (2, s_inside)]) (gm B [])) Af s.heap H locs := hW
    refine lv_aload_n C0.1 C0.2.1 dX4_passDay_77 rfl (lv_at hl 1 rfl) ?_
    refine s_get (v := .int (I 3 17)) C0 hK hW 3 17 LY_X4X6_3 rfl fg_X4_120 rfl dX4_passDay_78 ?_
    refine lv_iand C0.1 C0.2.1 dX4_passDay_81 ?_
    refine lv_istore_n (lv' := [(3, .int (y2 &&& (I 3 17))), (0, .ref (ad 0)), (1, .ref (ad 3)), (2, .int v2)]) C0.1 C0.2.1 dX4_passDay_82 rfl hl (by decide) rfl (fun ls hl => ?_)
    refine lv_aload_n C0.1 C0.2.1 dX4_passDay_83 rfl (lv_at hl 1 rfl) ?_
    refine lv_dup C0.1 C0.2.1 dX4_passDay_84 rfl ?_
    refine s_get (v := .int s_seized) C0 hK hW 0 2 LY_X4X6_0 rfl fg_X4_23 rfl dX4_passDay_85 ?_
    refine lv_iload_n C0.1 C0.2.1 dX4_passDay_88 rfl (lv_at hl 0 rfl) ?_
    refine lv_ior C0.1 C0.2.1 dX4_passDay_89 ?_
    refine s_putI C0 hK hW 0 2 LY_X4X6_0 rfl fg_X4_23 fp_X4_2 rfl dX4_passDay_90 (fun H locs hW => ?_)
    have hW : wd D (dn cy LY_X4X6 ad P V (gp I [(0, 2, (s_seized ||| (y2 &&& (I 3 17)))), (0, 3, s_date)]) (gp J []) (gm A [(1, s_coal), (2, s_inside)]) (gm B [])) Af s.heap H locs := hW
    refine lv_aload_n C0.1 C0.2.1 dX4_passDay_93 rfl (lv_at hl 1 rfl) ?_
    refine lv_dup C0.1 C0.2.1 dX4_passDay_94 rfl ?_
    refine s_get (v := .int s_date) C0 hK hW 0 3 LY_X4X6_0 rfl fg_X4_27 rfl dX4_passDay_95 ?_
    refine lv_iconst (v := 1) C0.1 C0.2.1 dX4_passDay_98 kI_1 ?_
    refine lv_iadd C0.1 C0.2.1 dX4_passDay_99 ?_
    refine s_putI C0 hK hW 0 3 LY_X4X6_0 rfl fg_X4_27 fp_X4_3 rfl dX4_passDay_100 (fun H locs hW => ?_)
    have hW : wd D (dn cy LY_X4X6 ad P V (gp I [(0, 2, (s_seized ||| (y2 &&& (I 3 17)))), (0, 3, (s_date + 1))]) (gp J []) (gm A [(1, s_coal), (2, s_inside)]) (gm B [])) Af s.heap H locs := hW
    refine lv_iload_n C0.1 C0.2.1 dX4_passDay_103 rfl (lv_at hl 0 rfl) ?_
    obtain rfl := Option.some.inj hf
    exact r_int C0 hK hW dX4_passDay_104
  · have hf := ite_f hc1 hf
    refine lv_aload_n C0.1 C0.2.1 dX4_passDay_19 rfl (lv_at hl 0 rfl) ?_
    refine s_get (v := .ref (ad 1)) C0 hK hW 0 0 LY_X4X6_0 rfl fg_X4_9 rfl dX4_passDay_20 ?_
    refine lv_iload_n C0.1 C0.2.1 dX4_passDay_23 rfl (lv_at hl 3 rfl) ?_
    refine lv_aload_n C0.1 C0.2.1 dX4_passDay_24 rfl (lv_at hl 0 rfl) ?_
    refine s_get (v := .ref (ad 1)) C0 hK hW 0 0 LY_X4X6_0 rfl fg_X4_9 rfl dX4_passDay_25 ?_
    refine lv_iload_n C0.1 C0.2.1 dX4_passDay_28 rfl (lv_at hl 3 rfl) ?_
    obtain ⟨hb3, hf⟩ := g_some hf
    refine s_iald (v := (s_coal (Int32.toNatClampNeg v3))) C0 hK hW 1 LY_X4X6_1 hb3 rfl dX4_passDay_29 ?_
    refine lv_aload_n C0.1 C0.2.1 dX4_passDay_30 rfl (lv_at hl 1 rfl) ?_
    refine s_get (v := .ref (ad 10)) C0 hK hW 3 7 LY_X4X6_3 rfl fg_X4_111 rfl dX4_passDay_31 ?_
    refine lv_iload_n C0.1 C0.2.1 dX4_passDay_34 rfl (lv_at hl 3 rfl) ?_
    obtain ⟨hb4, hf⟩ := g_some hf
    refine s_iald (v := ((A 10) (Int32.toNatClampNeg v3))) C0 hK hW 10 LY_X4X6_10 hb4 rfl dX4_passDay_35 ?_
    refine lv_iload_n C0.1 C0.2.1 dX4_passDay_36 rfl (lv_at hl 2 rfl) ?_
    refine lv_imul C0.1 C0.2.1 dX4_passDay_37 ?_
    refine lv_isub C0.1 C0.2.1 dX4_passDay_38 ?_
    refine lv_iconst (v := 0) C0.1 C0.2.1 dX4_passDay_39 kI_0 ?_
    refine s_max C0 hl.1 uw_744 uw_745 uw_16 uw_746 (Nat.le_of_ble_eq_true rfl) (Nat.le_of_ble_eq_true rfl) (Nat.zero_le _) (Nat.zero_le _) dX4_passDay_40 ?_
    obtain ⟨hb5, hf⟩ := g_some hf
    refine s_iast (f := (upd s_coal (Int32.toNatClampNeg v3) (imax ((s_coal (Int32.toNatClampNeg v3)) - (((A 10) (Int32.toNatClampNeg v3)) * v2)) 0))) C0 hK hW 1 LY_X4X6_1 hb5 rfl rfl dX4_passDay_43 (fun H locs hW => ?_)
    have hW : wd D (dn cy LY_X4X6 ad P V (gp I [(0, 2, s_seized), (0, 3, s_date)]) (gp J []) (gm A [(1, (upd s_coal (Int32.toNatClampNeg v3) (imax ((s_coal (Int32.toNatClampNeg v3)) - (((A 10) (Int32.toNatClampNeg v3)) * v2)) 0))), (2, s_inside)]) (gm B [])) Af s.heap H locs := hW
    refine lv_aload_n C0.1 C0.2.1 dX4_passDay_44 rfl (lv_at hl 0 rfl) ?_
    refine s_get (v := .ref (ad 1)) C0 hK hW 0 0 LY_X4X6_0 rfl fg_X4_9 rfl dX4_passDay_45 ?_
    refine lv_iload_n C0.1 C0.2.1 dX4_passDay_48 rfl (lv_at hl 3 rfl) ?_
    obtain ⟨hb6, hf⟩ := g_some hf
    refine s_iald (v := ((upd s_coal (Int32.toNatClampNeg v3) (imax ((s_coal (Int32.toNatClampNeg v3)) - (((A 10) (Int32.toNatClampNeg v3)) * v2)) 0)) (Int32.toNatClampNeg v3))) C0 hK hW 1 LY_X4X6_1 hb6 rfl dX4_passDay_49 ?_
    refine lv_if_ne (tgt := 66) C0.1 C0.2.1 dX4_passDay_50 (by decide) (fun hc7 => ?_) (fun hc7 => ?_)
    · have hf := ite_f hc7 hf
      refine lv_iinc (v := (v3 + 1)) (lv' := [(3, .int (v3 + 1)), (0, .ref (ad 0)), (1, .ref (ad 3)), (2, .int v2)]) C0.1 C0.2.1 dX4_passDay_66 hl (k := 3) rfl (congrArg (fun z => _ + z) kI_1) (by decide) rfl (fun ls hl => ?_)
      refine lv_goto (tgt := 11) C0.1 C0.2.1 dX4_passDay_69 (by decide) ?_
      exact hk11 s_seized s_date (upd s_coal (Int32.toNatClampNeg v3) (imax ((s_coal (Int32.toNatClampNeg v3)) - (((A 10) (Int32.toNatClampNeg v3)) * v2)) 0)) s_inside v2 (v3 + 1) H locs ls hW (lv_sub hl [1, 2, 3, 0] rfl) hf
    · have hf := ite_t hc7 hf
      refine lv_aload_n C0.1 C0.2.1 dX4_passDay_53 rfl (lv_at hl 0 rfl) ?_
      refine s_get (v := .ref (ad 2)) C0 hK hW 0 1 LY_X4X6_0 rfl fg_X4_15 rfl dX4_passDay_54 ?_
      refine lv_iload_n C0.1 C0.2.1 dX4_passDay_57 rfl (lv_at hl 3 rfl) ?_
      refine lv_dup2_11 C0.1 C0.2.1 dX4_passDay_58 rfl rfl ?_
      obtain ⟨hb8, hf⟩ := g_some hf
      refine s_iald (v := (s_inside (Int32.toNatClampNeg v3))) C0 hK hW 2 LY_X4X6_2 hb8 rfl dX4_passDay_59 ?_
      refine lv_aload_n C0.1 C0.2.1 dX4_passDay_60 rfl (lv_at hl 1 rfl) ?_
      refine s_get (v := .int (I 3 16)) C0 hK hW 3 16 LY_X4X6_3 rfl fg_X4_117 rfl dX4_passDay_61 ?_
      refine lv_iand C0.1 C0.2.1 dX4_passDay_64 ?_
      obtain ⟨hb9, hf⟩ := g_some hf
      refine s_iast (f := (upd s_inside (Int32.toNatClampNeg v3) ((s_inside (Int32.toNatClampNeg v3)) &&& (I 3 16)))) C0 hK hW 2 LY_X4X6_2 hb9 rfl rfl dX4_passDay_65 (fun H locs hW => ?_)
      have hW : wd D (dn cy LY_X4X6 ad P V (gp I [(0, 2, s_seized), (0, 3, s_date)]) (gp J []) (gm A [(1, (upd s_coal (Int32.toNatClampNeg v3) (imax ((s_coal (Int32.toNatClampNeg v3)) - (((A 10) (Int32.toNatClampNeg v3)) * v2)) 0))), (2, (upd s_inside (Int32.toNatClampNeg v3) ((s_inside (Int32.toNatClampNeg v3)) &&& (I 3 16))))]) (gm B [])) Af s.heap H locs := hW
      refine lv_iinc (v := (v3 + 1)) (lv' := [(3, .int (v3 + 1)), (0, .ref (ad 0)), (1, .ref (ad 3)), (2, .int v2)]) C0.1 C0.2.1 dX4_passDay_66 hl (k := 3) rfl (congrArg (fun z => _ + z) kI_1) (by decide) rfl (fun ls hl => ?_)
      refine lv_goto (tgt := 11) C0.1 C0.2.1 dX4_passDay_69 (by decide) ?_
      exact hk11 s_seized s_date (upd s_coal (Int32.toNatClampNeg v3) (imax ((s_coal (Int32.toNatClampNeg v3)) - (((A 10) (Int32.toNatClampNeg v3)) * v2)) 0)) (upd s_inside (Int32.toNatClampNeg v3) ((s_inside (Int32.toNatClampNeg v3)) &&& (I 3 16))) v2 (v3 + 1) H locs ls hW (lv_sub hl [1, 2, 3, 0] rfl) hf
theorem TX4_passDay_11 {p : Program} {l : Launch} {e : Env} {s : State} {m : MethodId} {args : Array Value} {below : List Frame} {meth : Method} {c : Code} {D : va_G} {cy : Nat → ClassId} {ad : Nat → Nat} {P : MP} {V : MV} {I : MI} {J : MJ} {A : MI} {B : MJ} {Af : Nat → Prop} {res : Int32 × Int32 × Int32 × (Nat → Int32) × (Nat → Int32)} (C0 : CX p s m args meth c cX4_passDay 4 (some .int) RX4) (hK : va_K D vwCl (tyG cy) s) (hN : NWs s) (hA : ∀ q, s.heap.size ≤ q → Af q) : ∀ n, SX4_passDay_11 p l e s m args below meth c D cy ad P V I J A B Af res (itr (fun kk => fX4_passDay_11 (I 3 4) (I 3 13) (I 3 14) (I 3 16) (I 3 17) (A 7) (A 10) kk) (fun _ _ _ _ _ _ => none) n) := by
  intro n
  induction n with
  | zero => intro s_seized s_date s_coal s_inside v2 v3 H locs ls hW hl hf; exact (nomatch (show (none : Option (Int32 × Int32 × Int32 × (Nat → Int32) × (Nat → Int32))) = some res from hf))
  | succ n ih => exact tX4_passDay_11 C0 hK hN hA  ih
def fX4_passDay (t_colds : Int32) (t_holes : Int32) (t_guests : Int32) (t_catBits : Int32) (t_wantedBits : Int32) (t_cold : (Nat → Int32)) (t_burns : (Nat → Int32)) (s_seized : Int32) (s_date : Int32) (s_coal : (Nat → Int32)) (s_inside : (Nat → Int32)) : Option (Int32 × Int32 × Int32 × (Nat → Int32) × (Nat → Int32)) := Option.bind (fX6_coldOf t_colds t_cold s_date) fun y1 => (itr (fun kk => fX4_passDay_11 t_colds t_holes t_guests t_catBits t_wantedBits t_cold t_burns kk) (fun _ _ _ _ _ _ => none) FU s_seized s_date s_coal s_inside y1 0)
set_option maxHeartbeats 4000000 in
set_option maxRecDepth 100000 in
theorem KX4_passDay (l : Launch) (D : va_G) (cy : Nat → ClassId) (ad : Nat → Nat) (P : MP) (V : MV) (I : MI) (J : MJ) (A : MI) (B : MJ) {res : Int32 × Int32 × Int32 × (Nat → Int32) × (Nat → Int32)} (hf : fX4_passDay (I 3 4) (I 3 13) (I 3 14) (I 3 16) (I 3 17) (A 7) (A 10) (I 0 2) (I 0 3) (A 1) (A 2) = some res) : CG l yX4_passDay cX4_passDay 4 (some .int) rmX4_passDay D cy (dn cy LY_X4X6 ad P V I J A B) [.ref (ad 0), .ref (ad 3)] (some (.int res.1)) (dn cy LY_X4X6 ad P V (gp I [(0, 2, res.2.1), (0, 3, res.2.2.1)]) (gp J []) (gm A [(1, res.2.2.2.1), (2, res.2.2.2.2)]) (gm B [])) := by
  refine CG.of (own := RX4) (by decide) rfl rfl ?_
  intro p e s m below meth c ls Af C0 hK hN hA hW hl
  have hW : wd D (dn cy LY_X4X6 ad P V (gp I [(0, 2, (I 0 2)), (0, 3, (I 0 3))]) (gp J []) (gm A [(1, (A 1)), (2, (A 2))]) (gm B [])) Af s.heap s.heap [] := wd_sel [(0, 2), (0, 3)] [] [1, 2] [] hW
  have hl : lv_has ls 4 [(0, .ref (ad 0)), (1, .ref (ad 3))] := hl
  unfold fX4_passDay at hf
  refine lv_aload_n C0.1 C0.2.1 dX4_passDay_0 rfl (lv_at hl 1 rfl) ?_
  refine lv_aload_n C0.1 C0.2.1 dX4_passDay_1 rfl (lv_at hl 0 rfl) ?_
  refine s_get (v := .int (I 0 3)) C0 hK hW 0 3 LY_X4X6_0 rfl fg_X4_27 rfl dX4_passDay_2 ?_
  obtain ⟨y1, hy1, hf⟩ := b_some hf
  refine c_Vi C0 hK hN hl.1 hW hA (KX6_coldOf l D cy  (fun q => ad (pl_LY_X4X6_LY_X6_3_4_5407097.getD q 0)) (fun q => P (pl_LY_X4X6_LY_X6_3_4_5407097.getD q 0)) (fun q => Vx LY_X4X6 ad V (pl_LY_X4X6_LY_X6_3_4_5407097.getD q 0)) (fun q => gp I [(0, 2, (I 0 2)), (0, 3, (I 0 3))] (pl_LY_X4X6_LY_X6_3_4_5407097.getD q 0)) (fun q => gp J [] (pl_LY_X4X6_LY_X6_3_4_5407097.getD q 0)) (fun q => gm A [(1, (A 1)), (2, (A 2))] (pl_LY_X4X6_LY_X6_3_4_5407097.getD q 0)) (fun q => gm B [] (pl_LY_X4X6_LY_X6_3_4_5407097.getD q 0)) (I 0 3) hy1) (JN_subC (pl := pl_LY_X4X6_LY_X6_3_4_5407097) sb_LY_X4X6_LY_X6_3_4_5407097 rfl rfl rfl rfl rfl rfl rfl rfl rfl) (Uw_V uw_740 uw_741 uw_742 uw_10 uw_743) rfl rfl hd_X6_coldOf ⟨rfl, rfl⟩ rfl (dn_some LY_X4X6_3) rfl rfl rfl dX4_passDay_5 ⟨Nat.zero_le _, Nat.zero_le _⟩ (fun H locs hW => ?_)
  have hW : wd D (dn cy LY_X4X6 ad P V (gp I [(0, 2, (I 0 2)), (0, 3, (I 0 3))]) (gp J []) (gm A [(1, (A 1)), (2, (A 2))]) (gm B [])) Af s.heap H locs := hW
  refine lv_istore_n (lv' := [(2, .int y1), (0, .ref (ad 0)), (1, .ref (ad 3))]) C0.1 C0.2.1 dX4_passDay_8 rfl hl (by decide) rfl (fun ls hl => ?_)
  refine lv_iconst (v := 0) C0.1 C0.2.1 dX4_passDay_9 kI_0 ?_
  refine lv_istore_n (lv' := [(3, .int 0), (2, .int y1), (0, .ref (ad 0)), (1, .ref (ad 3))]) C0.1 C0.2.1 dX4_passDay_10 rfl hl (by decide) rfl (fun ls hl => ?_)
  exact TX4_passDay_11 C0 hK hN hA  FU (I 0 2) (I 0 3) (A 1) (A 2) y1 0 _ _ ls hW (lv_sub hl [2, 3, 1, 0] rfl) hf
-- X4_daysUntilBelow
def rmX4_daysUntilBelow : Room := { frames := 2, cells := 0, slots := 0, locals := 42 }
def SX4_daysUntilBelow_11 (p : Program) (l : Launch) (e : Env) (s : State) (m : MethodId) (args : Array Value) (below : List Frame) (meth : Method) (c : Code) (D : va_G) (cy : Nat → ClassId) (ad : Nat → Nat) (P : MP) (V : MV) (I : MI) (J : MJ) (A : MI) (B : MJ) (Af : Nat → Prop) (res : Int32) (k : Int32 → Int32 → Int32 → Int32 → Option (Int32)) : Prop := ∀ (v2 : Int32) (v3 : Int32) (v4 : Int32) (v5 : Int32) (H : Heap) (locs : List Loc) (ls : Array Slot), wd D (dn cy LY_X4X6 ad P V (gp I []) (gp J []) (gm A []) (gm B [])) Af s.heap H locs → lv_has ls 6 [(0, .ref (ad 0)), (1, .ref (ad 3)), (2, .int v2), (3, .int v3), (4, .int v4), (5, .int v5)] → k v2 v3 v4 v5 = some res → W p l e rmX4_daysUntilBelow s m args below meth c H locs 0 0 (ZQ below D cy (dn cy LY_X4X6 ad P V (gp I []) (gp J []) (gm A []) (gm B [])) (some (.int res)) Af args s) (F0 m 11 ls [])
def fX4_daysUntilBelow_11 (s_date : Int32) (t_colds : Int32) (s_coal : (Nat → Int32)) (t_cold : (Nat → Int32)) (t_burns : (Nat → Int32)) (k11 : Int32 → Int32 → Int32 → Int32 → Option (Int32)) (v2 : Int32) (v3 : Int32) (v4 : Int32) (v5 : Int32) : Option (Int32) := if 99 < v5 then (some ((-1))) else (if v3 ≤ v4 then (bif inb v2 5 then (Option.bind (fX6_coldOf t_colds t_cold (s_date + v5)) fun y4 => (k11 v2 v3 (v4 - ((t_burns (Int32.toNatClampNeg v2)) * y4)) (v5 + 1))) else none) else (some (v5)))
set_option maxHeartbeats 4000000 in
set_option maxRecDepth 100000 in
theorem tX4_daysUntilBelow_11 {p : Program} {l : Launch} {e : Env} {s : State} {m : MethodId} {args : Array Value} {below : List Frame} {meth : Method} {c : Code} {D : va_G} {cy : Nat → ClassId} {ad : Nat → Nat} {P : MP} {V : MV} {I : MI} {J : MJ} {A : MI} {B : MJ} {Af : Nat → Prop} {res : Int32} (C0 : CX p s m args meth c cX4_daysUntilBelow 6 (some .int) RX4) (hK : va_K D vwCl (tyG cy) s) (hN : NWs s) (hA : ∀ q, s.heap.size ≤ q → Af q) {k11 : Int32 → Int32 → Int32 → Int32 → Option (Int32)} (hk11 : SX4_daysUntilBelow_11 p l e s m args below meth c D cy ad P V I J A B Af res k11) : SX4_daysUntilBelow_11 p l e s m args below meth c D cy ad P V I J A B Af res (fX4_daysUntilBelow_11 (I 0 3) (I 3 4) (A 1) (A 7) (A 10) k11) := by
  intro v2 v3 v4 v5 H locs ls hW hl hf
  unfold fX4_daysUntilBelow_11 at hf
  refine lv_iload C0.1 C0.2.1 dX4_daysUntilBelow_11 (lv_at hl 5 rfl) ?_
  refine lv_bipush (v := 99) C0.1 C0.2.1 dX4_daysUntilBelow_13 kB_99 ?_
  refine lv_icmp_gt (tgt := 56) C0.1 C0.2.1 dX4_daysUntilBelow_15 (by decide) (fun hc1 => ?_) (fun hc1 => ?_)
  · have hf := ite_t hc1 hf
    refine lv_iconst (v := (-1)) C0.1 C0.2.1 dX4_daysUntilBelow_56 kI_m1 ?_
    obtain rfl := Option.some.inj hf
    exact r_int C0 hK hW dX4_daysUntilBelow_57
  · have hf := ite_f hc1 hf
    refine lv_iload C0.1 C0.2.1 dX4_daysUntilBelow_18 (lv_at hl 4 rfl) ?_
    refine lv_iload_n C0.1 C0.2.1 dX4_daysUntilBelow_20 rfl (lv_at hl 3 rfl) ?_
    refine lv_icmp_ge (tgt := 27) C0.1 C0.2.1 dX4_daysUntilBelow_21 (by decide) (fun hc2 => ?_) (fun hc2 => ?_)
    · have hf := ite_t hc2 hf
      refine lv_iload C0.1 C0.2.1 dX4_daysUntilBelow_27 (lv_at hl 4 rfl) ?_
      refine lv_aload_n C0.1 C0.2.1 dX4_daysUntilBelow_29 rfl (lv_at hl 1 rfl) ?_
      refine s_get (v := .ref (ad 10)) C0 hK hW 3 7 LY_X4X6_3 rfl fg_X4_111 rfl dX4_daysUntilBelow_30 ?_
      refine lv_iload_n C0.1 C0.2.1 dX4_daysUntilBelow_33 rfl (lv_at hl 2 rfl) ?_
      obtain ⟨hb3, hf⟩ := g_some hf
      refine s_iald (v := ((A 10) (Int32.toNatClampNeg v2))) C0 hK hW 10 LY_X4X6_10 hb3 rfl dX4_daysUntilBelow_34 ?_
      refine lv_aload_n C0.1 C0.2.1 dX4_daysUntilBelow_35 rfl (lv_at hl 1 rfl) ?_
      refine lv_aload_n C0.1 C0.2.1 dX4_daysUntilBelow_36 rfl (lv_at hl 0 rfl) ?_
      refine s_get (v := .int (I 0 3)) C0 hK hW 0 3 LY_X4X6_0 rfl fg_X4_27 rfl dX4_daysUntilBelow_37 ?_
      refine lv_iload C0.1 C0.2.1 dX4_daysUntilBelow_40 (lv_at hl 5 rfl) ?_
      refine lv_iadd C0.1 C0.2.1 dX4_daysUntilBelow_42 ?_
      obtain ⟨y4, hy4, hf⟩ := b_some hf
      refine c_Vi C0 hK hN hl.1 hW hA (KX6_coldOf l D cy  (fun q => ad (pl_LY_X4X6_LY_X6_3_4_5407097.getD q 0)) (fun q => P (pl_LY_X4X6_LY_X6_3_4_5407097.getD q 0)) (fun q => Vx LY_X4X6 ad V (pl_LY_X4X6_LY_X6_3_4_5407097.getD q 0)) (fun q => gp I [] (pl_LY_X4X6_LY_X6_3_4_5407097.getD q 0)) (fun q => gp J [] (pl_LY_X4X6_LY_X6_3_4_5407097.getD q 0)) (fun q => gm A [] (pl_LY_X4X6_LY_X6_3_4_5407097.getD q 0)) (fun q => gm B [] (pl_LY_X4X6_LY_X6_3_4_5407097.getD q 0)) ((I 0 3) + v5) hy4) (JN_subC (pl := pl_LY_X4X6_LY_X6_3_4_5407097) sb_LY_X4X6_LY_X6_3_4_5407097 rfl rfl rfl rfl rfl rfl rfl rfl rfl) (Uw_V uw_740 uw_741 uw_742 uw_10 uw_743) rfl rfl hd_X6_coldOf ⟨rfl, rfl⟩ rfl (dn_some LY_X4X6_3) rfl rfl rfl dX4_daysUntilBelow_43 ⟨Nat.zero_le _, Nat.zero_le _⟩ (fun H locs hW => ?_)
      have hW : wd D (dn cy LY_X4X6 ad P V (gp I []) (gp J []) (gm A []) (gm B [])) Af s.heap H locs := hW
      refine lv_imul C0.1 C0.2.1 dX4_daysUntilBelow_46 ?_
      refine lv_isub C0.1 C0.2.1 dX4_daysUntilBelow_47 ?_
      refine lv_istore (lv' := [(4, .int (v4 - (((A 10) (Int32.toNatClampNeg v2)) * y4))), (0, .ref (ad 0)), (1, .ref (ad 3)), (2, .int v2), (3, .int v3), (5, .int v5)]) C0.1 C0.2.1 dX4_daysUntilBelow_48 hl (by decide) rfl (fun ls hl => ?_)
      refine lv_iinc (v := (v5 + 1)) (lv' := [(5, .int (v5 + 1)), (4, .int (v4 - (((A 10) (Int32.toNatClampNeg v2)) * y4))), (0, .ref (ad 0)), (1, .ref (ad 3)), (2, .int v2), (3, .int v3)]) C0.1 C0.2.1 dX4_daysUntilBelow_50 hl (k := 5) rfl (congrArg (fun z => _ + z) kI_1) (by decide) rfl (fun ls hl => ?_)
      refine lv_goto (tgt := 11) C0.1 C0.2.1 dX4_daysUntilBelow_53 (by decide) ?_
      exact hk11 v2 v3 (v4 - (((A 10) (Int32.toNatClampNeg v2)) * y4)) (v5 + 1) H locs ls hW (lv_sub hl [2, 3, 4, 5, 1, 0] rfl) hf
    · have hf := ite_f hc2 hf
      refine lv_iload C0.1 C0.2.1 dX4_daysUntilBelow_24 (lv_at hl 5 rfl) ?_
      obtain rfl := Option.some.inj hf
      exact r_int C0 hK hW dX4_daysUntilBelow_26
theorem TX4_daysUntilBelow_11 {p : Program} {l : Launch} {e : Env} {s : State} {m : MethodId} {args : Array Value} {below : List Frame} {meth : Method} {c : Code} {D : va_G} {cy : Nat → ClassId} {ad : Nat → Nat} {P : MP} {V : MV} {I : MI} {J : MJ} {A : MI} {B : MJ} {Af : Nat → Prop} {res : Int32} (C0 : CX p s m args meth c cX4_daysUntilBelow 6 (some .int) RX4) (hK : va_K D vwCl (tyG cy) s) (hN : NWs s) (hA : ∀ q, s.heap.size ≤ q → Af q) : ∀ n, SX4_daysUntilBelow_11 p l e s m args below meth c D cy ad P V I J A B Af res (itr (fun kk => fX4_daysUntilBelow_11 (I 0 3) (I 3 4) (A 1) (A 7) (A 10) kk) (fun _ _ _ _ => none) n) := by
  intro n
  induction n with
  | zero => intro v2 v3 v4 v5 H locs ls hW hl hf; exact (nomatch (show (none : Option (Int32)) = some res from hf))
  | succ n ih => exact tX4_daysUntilBelow_11 C0 hK hN hA  ih
def fX4_daysUntilBelow (s_date : Int32) (t_colds : Int32) (s_coal : (Nat → Int32)) (t_cold : (Nat → Int32)) (t_burns : (Nat → Int32)) (v2 : Int32) (v3 : Int32) : Option (Int32) := bif inb v2 5 then (itr (fun kk => fX4_daysUntilBelow_11 s_date t_colds s_coal t_cold t_burns kk) (fun _ _ _ _ => none) FU v2 v3 (s_coal (Int32.toNatClampNeg v2)) 0) else none
set_option maxHeartbeats 4000000 in
set_option maxRecDepth 100000 in
theorem KX4_daysUntilBelow (l : Launch) (D : va_G) (cy : Nat → ClassId) (ad : Nat → Nat) (P : MP) (V : MV) (I : MI) (J : MJ) (A : MI) (B : MJ) (v2 : Int32) (v3 : Int32) {res : Int32} (hf : fX4_daysUntilBelow (I 0 3) (I 3 4) (A 1) (A 7) (A 10) v2 v3 = some res) : CG l yX4_daysUntilBelow cX4_daysUntilBelow 6 (some .int) rmX4_daysUntilBelow D cy (dn cy LY_X4X6 ad P V I J A B) [.ref (ad 0), .ref (ad 3), .int v2, .int v3] (some (.int res)) (dn cy LY_X4X6 ad P V (gp I []) (gp J []) (gm A []) (gm B [])) := by
  refine CG.of (own := RX4) (by decide) rfl rfl ?_
  intro p e s m below meth c ls Af C0 hK hN hA hW hl
  have hW : wd D (dn cy LY_X4X6 ad P V (gp I []) (gp J []) (gm A []) (gm B [])) Af s.heap s.heap [] := wd_sel [] [] [] [] hW
  have hl : lv_has ls 6 [(0, .ref (ad 0)), (1, .ref (ad 3)), (2, .int v2), (3, .int v3)] := hl
  unfold fX4_daysUntilBelow at hf
  refine lv_aload_n C0.1 C0.2.1 dX4_daysUntilBelow_0 rfl (lv_at hl 0 rfl) ?_
  refine s_get (v := .ref (ad 1)) C0 hK hW 0 0 LY_X4X6_0 rfl fg_X4_9 rfl dX4_daysUntilBelow_1 ?_
  refine lv_iload_n C0.1 C0.2.1 dX4_daysUntilBelow_4 rfl (lv_at hl 2 rfl) ?_
  obtain ⟨hb1, hf⟩ := g_some hf
  refine s_iald (v := ((A 1) (Int32.toNatClampNeg v2))) C0 hK hW 1 LY_X4X6_1 hb1 rfl dX4_daysUntilBelow_5 ?_
  refine lv_istore (lv' := [(4, .int ((A 1) (Int32.toNatClampNeg v2))), (0, .ref (ad 0)), (1, .ref (ad 3)), (2, .int v2), (3, .int v3)]) C0.1 C0.2.1 dX4_daysUntilBelow_6 hl (by decide) rfl (fun ls hl => ?_)
  refine lv_iconst (v := 0) C0.1 C0.2.1 dX4_daysUntilBelow_8 kI_0 ?_
  refine lv_istore (lv' := [(5, .int 0), (4, .int ((A 1) (Int32.toNatClampNeg v2))), (0, .ref (ad 0)), (1, .ref (ad 3)), (2, .int v2), (3, .int v3)]) C0.1 C0.2.1 dX4_daysUntilBelow_9 hl (by decide) rfl (fun ls hl => ?_)
  exact TX4_daysUntilBelow_11 C0 hK hN hA  FU v2 v3 ((A 1) (Int32.toNatClampNeg v2)) 0 _ _ ls hW (lv_sub hl [2, 3, 4, 5, 1, 0] rfl) hf
-- X4_safeDays
def rmX4_safeDays : Room := { frames := 3, cells := 0, slots := 0, locals := 67 }
def fX4_safeDays (s_date : Int32) (t_colds : Int32) (s_coal : (Nat → Int32)) (t_cold : (Nat → Int32)) (t_burns : (Nat → Int32)) (t_kinds : (Nat → Int32)) (v2 : Int32) (v3 : Int32) : Option (Int32) := bif inb v2 5 then (if (t_kinds (Int32.toNatClampNeg v2)) = 146 then (some ((-1))) else (Option.bind (fX4_daysUntilBelow s_date t_colds s_coal t_cold t_burns v3 1) fun y3 => (some (y3)))) else none
set_option maxHeartbeats 4000000 in
set_option maxRecDepth 100000 in
theorem KX4_safeDays (l : Launch) (D : va_G) (cy : Nat → ClassId) (ad : Nat → Nat) (P : MP) (V : MV) (I : MI) (J : MJ) (A : MI) (B : MJ) (v2 : Int32) (v3 : Int32) {res : Int32} (hf : fX4_safeDays (I 0 3) (I 3 4) (A 1) (A 7) (A 10) (A 12) v2 v3 = some res) : CG l yX4_safeDays cX4_safeDays 4 (some .int) rmX4_safeDays D cy (dn cy LY_X4X6 ad P V I J A B) [.ref (ad 0), .ref (ad 3), .int v2, .int v3] (some (.int res)) (dn cy LY_X4X6 ad P V (gp I []) (gp J []) (gm A []) (gm B [])) := by
  refine CG.of (own := RX4) (by decide) rfl rfl ?_
  intro p e s m below meth c ls Af C0 hK hN hA hW hl
  have hW : wd D (dn cy LY_X4X6 ad P V (gp I []) (gp J []) (gm A []) (gm B [])) Af s.heap s.heap [] := wd_sel [] [] [] [] hW
  have hl : lv_has ls 4 [(0, .ref (ad 0)), (1, .ref (ad 3)), (2, .int v2), (3, .int v3)] := hl
  unfold fX4_safeDays at hf
  refine lv_aload_n C0.1 C0.2.1 dX4_safeDays_0 rfl (lv_at hl 1 rfl) ?_
  refine s_get (v := .ref (ad 12)) C0 hK hW 3 9 LY_X4X6_3 rfl fg_X4_50 rfl dX4_safeDays_1 ?_
  refine lv_iload_n C0.1 C0.2.1 dX4_safeDays_4 rfl (lv_at hl 2 rfl) ?_
  obtain ⟨hb1, hf⟩ := g_some hf
  refine s_iald (v := ((A 12) (Int32.toNatClampNeg v2))) C0 hK hW 12 LY_X4X6_12 hb1 rfl dX4_safeDays_5 ?_
  refine lv_sipush (v := 146) C0.1 C0.2.1 dX4_safeDays_6 kS_146 ?_
  refine lv_icmp_ne (tgt := 16) C0.1 C0.2.1 dX4_safeDays_9 (by decide) (fun hc2 => ?_) (fun hc2 => ?_)
  · have hf := ite_f hc2 hf
    refine lv_aload_n C0.1 C0.2.1 dX4_safeDays_16 rfl (lv_at hl 0 rfl) ?_
    refine lv_aload_n C0.1 C0.2.1 dX4_safeDays_17 rfl (lv_at hl 1 rfl) ?_
    refine lv_iload_n C0.1 C0.2.1 dX4_safeDays_18 rfl (lv_at hl 3 rfl) ?_
    refine lv_iconst (v := 1) C0.1 C0.2.1 dX4_safeDays_19 kI_1 ?_
    obtain ⟨y3, hy3, hf⟩ := b_some hf
    refine c_Vi C0 hK hN hl.1 hW hA (KX4_daysUntilBelow l D cy  ad P V (gp I []) (gp J []) (gm A []) (gm B []) v3 1 hy3) (JN_id rfl rfl rfl rfl) (Uw_V uw_787 uw_776 uw_777 uw_7 uw_778) rfl rfl hd_X4_daysUntilBelow ⟨rfl, rfl⟩ rfl (dn_some LY_X4X6_0) rfl rfl rfl dX4_safeDays_20 ⟨Nat.zero_le _, Nat.zero_le _⟩ (fun H locs hW => ?_)
    have hW : wd D (dn cy LY_X4X6 ad P V (gp I []) (gp J []) (gm A []) (gm B [])) Af s.heap H locs := hW
    obtain rfl := Option.some.inj hf
    exact r_int C0 hK hW dX4_safeDays_23
  · have hf := ite_t hc2 hf
    refine lv_iconst (v := (-1)) C0.1 C0.2.1 dX4_safeDays_12 kI_m1 ?_
    refine lv_goto (tgt := 23) C0.1 C0.2.1 dX4_safeDays_13 (by decide) ?_
    obtain rfl := Option.some.inj hf
    exact r_int C0 hK hW dX4_safeDays_23
-- X4_sacksDue
def rmX4_sacksDue : Room := { frames := 3, cells := 0, slots := 0, locals := 66 }
def SX4_sacksDue_37 (p : Program) (l : Launch) (e : Env) (s : State) (m : MethodId) (args : Array Value) (below : List Frame) (meth : Method) (c : Code) (D : va_G) (cy : Nat → ClassId) (ad : Nat → Nat) (P : MP) (V : MV) (I : MI) (J : MJ) (A : MI) (B : MJ) (Af : Nat → Prop) (res : Int32) (k : Int32 → Int32 → Int32 → Option (Int32)) : Prop := ∀ (v2 : Int32) (v4 : Int32) (v5 : Int32) (H : Heap) (locs : List Loc) (ls : Array Slot), wd D (dn cy LY_X4X6 ad P V (gp I []) (gp J []) (gm A []) (gm B [])) Af s.heap H locs → lv_has ls 6 [(0, .ref (ad 0)), (1, .ref (ad 3)), (2, .int v2), (4, .int v4), (5, .int v5)] → k v2 v4 v5 = some res → W p l e rmX4_sacksDue s m args below meth c H locs 0 0 (ZQ below D cy (dn cy LY_X4X6 ad P V (gp I []) (gp J []) (gm A []) (gm B [])) (some (.int res)) Af args s) (F0 m 37 ls [])
def fX4_sacksDue_37 (s_date : Int32) (t_colds : Int32) (t_sack : Int32) (t_wantedBits : Int32) (s_coal : (Nat → Int32)) (s_inside : (Nat → Int32)) (t_cold : (Nat → Int32)) (t_burns : (Nat → Int32)) (k37 : Int32 → Int32 → Int32 → Option (Int32)) (v2 : Int32) (v4 : Int32) (v5 : Int32) : Option (Int32) := if 3 < v5 then (some (4)) else (bif inb v2 5 then (if (imin ((s_coal (Int32.toNatClampNeg v2)) + (v5 * t_sack)) 99) ≤ v4 then (k37 v2 v4 (v5 + 1)) else (some (v5))) else none)
set_option maxHeartbeats 4000000 in
set_option maxRecDepth 100000 in
theorem tX4_sacksDue_37 {p : Program} {l : Launch} {e : Env} {s : State} {m : MethodId} {args : Array Value} {below : List Frame} {meth : Method} {c : Code} {D : va_G} {cy : Nat → ClassId} {ad : Nat → Nat} {P : MP} {V : MV} {I : MI} {J : MJ} {A : MI} {B : MJ} {Af : Nat → Prop} {res : Int32} (C0 : CX p s m args meth c cX4_sacksDue 6 (some .int) RX4) (hK : va_K D vwCl (tyG cy) s) (hN : NWs s) (hA : ∀ q, s.heap.size ≤ q → Af q) {k37 : Int32 → Int32 → Int32 → Option (Int32)} (hk37 : SX4_sacksDue_37 p l e s m args below meth c D cy ad P V I J A B Af res k37) : SX4_sacksDue_37 p l e s m args below meth c D cy ad P V I J A B Af res (fX4_sacksDue_37 (I 0 3) (I 3 4) (I 3 15) (I 3 17) (A 1) (A 2) (A 7) (A 10) k37) := by
  intro v2 v4 v5 H locs ls hW hl hf
  unfold fX4_sacksDue_37 at hf
  refine lv_iload C0.1 C0.2.1 dX4_sacksDue_37 (lv_at hl 4 rfl) ?_
  refine lv_iconst (v := 3) C0.1 C0.2.1 dX4_sacksDue_39 kI_3 ?_
  refine lv_icmp_gt (tgt := 76) C0.1 C0.2.1 dX4_sacksDue_40 (by decide) (fun hc1 => ?_) (fun hc1 => ?_)
  · have hf := ite_t hc1 hf
    refine lv_iconst (v := 4) C0.1 C0.2.1 dX4_sacksDue_76 kI_4 ?_
    obtain rfl := Option.some.inj hf
    exact r_int C0 hK hW dX4_sacksDue_77
  · have hf := ite_f hc1 hf
    refine lv_aload_n C0.1 C0.2.1 dX4_sacksDue_43 rfl (lv_at hl 0 rfl) ?_
    refine s_get (v := .ref (ad 1)) C0 hK hW 0 0 LY_X4X6_0 rfl fg_X4_9 rfl dX4_sacksDue_44 ?_
    refine lv_iload_n C0.1 C0.2.1 dX4_sacksDue_47 rfl (lv_at hl 2 rfl) ?_
    obtain ⟨hb2, hf⟩ := g_some hf
    refine s_iald (v := ((A 1) (Int32.toNatClampNeg v2))) C0 hK hW 1 LY_X4X6_1 hb2 rfl dX4_sacksDue_48 ?_
    refine lv_iload C0.1 C0.2.1 dX4_sacksDue_49 (lv_at hl 4 rfl) ?_
    refine lv_aload_n C0.1 C0.2.1 dX4_sacksDue_51 rfl (lv_at hl 1 rfl) ?_
    refine s_get (v := .int (I 3 15)) C0 hK hW 3 15 LY_X4X6_3 rfl fg_X4_99 rfl dX4_sacksDue_52 ?_
    refine lv_imul C0.1 C0.2.1 dX4_sacksDue_55 ?_
    refine lv_iadd C0.1 C0.2.1 dX4_sacksDue_56 ?_
    refine lv_bipush (v := 99) C0.1 C0.2.1 dX4_sacksDue_57 kB_99 ?_
    refine s_min C0 hl.1 uw_731 uw_700 uw_16 uw_701 (Nat.le_of_ble_eq_true rfl) (Nat.le_of_ble_eq_true rfl) (Nat.zero_le _) (Nat.zero_le _) dX4_sacksDue_59 ?_
    refine lv_iload C0.1 C0.2.1 dX4_sacksDue_62 (lv_at hl 3 rfl) ?_
    refine lv_icmp_le (tgt := 70) C0.1 C0.2.1 dX4_sacksDue_64 (by decide) (fun hc3 => ?_) (fun hc3 => ?_)
    · have hf := ite_t hc3 hf
      refine lv_iinc (v := (v5 + 1)) (lv' := [(5, .int (v5 + 1)), (0, .ref (ad 0)), (1, .ref (ad 3)), (2, .int v2), (4, .int v4)]) C0.1 C0.2.1 dX4_sacksDue_70 hl (k := 4) rfl (congrArg (fun z => _ + z) kI_1) (by decide) rfl (fun ls hl => ?_)
      refine lv_goto (tgt := 37) C0.1 C0.2.1 dX4_sacksDue_73 (by decide) ?_
      exact hk37 v2 v4 (v5 + 1) H locs ls hW (lv_sub hl [1, 2, 3, 4, 0] rfl) hf
    · have hf := ite_f hc3 hf
      refine lv_iload C0.1 C0.2.1 dX4_sacksDue_67 (lv_at hl 4 rfl) ?_
      obtain rfl := Option.some.inj hf
      exact r_int C0 hK hW dX4_sacksDue_69
theorem TX4_sacksDue_37 {p : Program} {l : Launch} {e : Env} {s : State} {m : MethodId} {args : Array Value} {below : List Frame} {meth : Method} {c : Code} {D : va_G} {cy : Nat → ClassId} {ad : Nat → Nat} {P : MP} {V : MV} {I : MI} {J : MJ} {A : MI} {B : MJ} {Af : Nat → Prop} {res : Int32} (C0 : CX p s m args meth c cX4_sacksDue 6 (some .int) RX4) (hK : va_K D vwCl (tyG cy) s) (hN : NWs s) (hA : ∀ q, s.heap.size ≤ q → Af q) : ∀ n, SX4_sacksDue_37 p l e s m args below meth c D cy ad P V I J A B Af res (itr (fun kk => fX4_sacksDue_37 (I 0 3) (I 3 4) (I 3 15) (I 3 17) (A 1) (A 2) (A 7) (A 10) kk) (fun _ _ _ => none) n) := by
  intro n
  induction n with
  | zero => intro v2 v4 v5 H locs ls hW hl hf; exact (nomatch (show (none : Option (Int32)) = some res from hf))
  | succ n ih => exact tX4_sacksDue_37 C0 hK hN hA  ih
def fX4_sacksDue (s_date : Int32) (t_colds : Int32) (t_sack : Int32) (t_wantedBits : Int32) (s_coal : (Nat → Int32)) (s_inside : (Nat → Int32)) (t_cold : (Nat → Int32)) (t_burns : (Nat → Int32)) (v2 : Int32) (v3 : Int32) : Option (Int32) := bif inb v2 5 then (if ((s_inside (Int32.toNatClampNeg v2)) &&& t_wantedBits) = 0 then (some (0)) else (bif inb v2 5 then (Option.bind (fX6_coldOver t_colds t_cold s_date v3) fun y4 => (itr (fun kk => fX4_sacksDue_37 s_date t_colds t_sack t_wantedBits s_coal s_inside t_cold t_burns kk) (fun _ _ _ => none) FU v2 ((t_burns (Int32.toNatClampNeg v2)) * y4) 0)) else none)) else none
set_option maxHeartbeats 4000000 in
set_option maxRecDepth 100000 in
theorem KX4_sacksDue (l : Launch) (D : va_G) (cy : Nat → ClassId) (ad : Nat → Nat) (P : MP) (V : MV) (I : MI) (J : MJ) (A : MI) (B : MJ) (v2 : Int32) (v3 : Int32) {res : Int32} (hf : fX4_sacksDue (I 0 3) (I 3 4) (I 3 15) (I 3 17) (A 1) (A 2) (A 7) (A 10) v2 v3 = some res) : CG l yX4_sacksDue cX4_sacksDue 6 (some .int) rmX4_sacksDue D cy (dn cy LY_X4X6 ad P V I J A B) [.ref (ad 0), .ref (ad 3), .int v2, .int v3] (some (.int res)) (dn cy LY_X4X6 ad P V (gp I []) (gp J []) (gm A []) (gm B [])) := by
  refine CG.of (own := RX4) (by decide) rfl rfl ?_
  intro p e s m below meth c ls Af C0 hK hN hA hW hl
  have hW : wd D (dn cy LY_X4X6 ad P V (gp I []) (gp J []) (gm A []) (gm B [])) Af s.heap s.heap [] := wd_sel [] [] [] [] hW
  have hl : lv_has ls 6 [(0, .ref (ad 0)), (1, .ref (ad 3)), (2, .int v2), (3, .int v3)] := hl
  unfold fX4_sacksDue at hf
  refine lv_aload_n C0.1 C0.2.1 dX4_sacksDue_0 rfl (lv_at hl 0 rfl) ?_
  refine s_get (v := .ref (ad 2)) C0 hK hW 0 1 LY_X4X6_0 rfl fg_X4_15 rfl dX4_sacksDue_1 ?_
  refine lv_iload_n C0.1 C0.2.1 dX4_sacksDue_4 rfl (lv_at hl 2 rfl) ?_
  obtain ⟨hb1, hf⟩ := g_some hf
  refine s_iald (v := ((A 2) (Int32.toNatClampNeg v2))) C0 hK hW 2 LY_X4X6_2 hb1 rfl dX4_sacksDue_5 ?_
  refine lv_aload_n C0.1 C0.2.1 dX4_sacksDue_6 rfl (lv_at hl 1 rfl) ?_
  refine s_get (v := .int (I 3 17)) C0 hK hW 3 17 LY_X4X6_3 rfl fg_X4_120 rfl dX4_sacksDue_7 ?_
  refine lv_iand C0.1 C0.2.1 dX4_sacksDue_10 ?_
  refine lv_if_ne (tgt := 16) C0.1 C0.2.1 dX4_sacksDue_11 (by decide) (fun hc2 => ?_) (fun hc2 => ?_)
  · have hf := ite_f hc2 hf
    refine lv_aload_n C0.1 C0.2.1 dX4_sacksDue_16 rfl (lv_at hl 1 rfl) ?_
    refine s_get (v := .ref (ad 10)) C0 hK hW 3 7 LY_X4X6_3 rfl fg_X4_111 rfl dX4_sacksDue_17 ?_
    refine lv_iload_n C0.1 C0.2.1 dX4_sacksDue_20 rfl (lv_at hl 2 rfl) ?_
    obtain ⟨hb3, hf⟩ := g_some hf
    refine s_iald (v := ((A 10) (Int32.toNatClampNeg v2))) C0 hK hW 10 LY_X4X6_10 hb3 rfl dX4_sacksDue_21 ?_
    refine lv_aload_n C0.1 C0.2.1 dX4_sacksDue_22 rfl (lv_at hl 1 rfl) ?_
    refine lv_aload_n C0.1 C0.2.1 dX4_sacksDue_23 rfl (lv_at hl 0 rfl) ?_
    refine s_get (v := .int (I 0 3)) C0 hK hW 0 3 LY_X4X6_0 rfl fg_X4_27 rfl dX4_sacksDue_24 ?_
    refine lv_iload_n C0.1 C0.2.1 dX4_sacksDue_27 rfl (lv_at hl 3 rfl) ?_
    obtain ⟨y4, hy4, hf⟩ := b_some hf
    refine c_Vi C0 hK hN hl.1 hW hA (KX6_coldOver l D cy  (fun q => ad (pl_LY_X4X6_LY_X6_3_4_5407097.getD q 0)) (fun q => P (pl_LY_X4X6_LY_X6_3_4_5407097.getD q 0)) (fun q => Vx LY_X4X6 ad V (pl_LY_X4X6_LY_X6_3_4_5407097.getD q 0)) (fun q => gp I [] (pl_LY_X4X6_LY_X6_3_4_5407097.getD q 0)) (fun q => gp J [] (pl_LY_X4X6_LY_X6_3_4_5407097.getD q 0)) (fun q => gm A [] (pl_LY_X4X6_LY_X6_3_4_5407097.getD q 0)) (fun q => gm B [] (pl_LY_X4X6_LY_X6_3_4_5407097.getD q 0)) (I 0 3) v3 hy4) (JN_subC (pl := pl_LY_X4X6_LY_X6_3_4_5407097) sb_LY_X4X6_LY_X6_3_4_5407097 rfl rfl rfl rfl rfl rfl rfl rfl rfl) (Uw_V uw_802 uw_803 uw_804 uw_10 uw_805) rfl rfl hd_X6_coldOver ⟨rfl, rfl⟩ rfl (dn_some LY_X4X6_3) rfl rfl rfl dX4_sacksDue_28 ⟨Nat.zero_le _, Nat.zero_le _⟩ (fun H locs hW => ?_)
    have hW : wd D (dn cy LY_X4X6 ad P V (gp I []) (gp J []) (gm A []) (gm B [])) Af s.heap H locs := hW
    refine lv_imul C0.1 C0.2.1 dX4_sacksDue_31 ?_
    refine lv_istore (lv' := [(4, .int (((A 10) (Int32.toNatClampNeg v2)) * y4)), (0, .ref (ad 0)), (1, .ref (ad 3)), (2, .int v2), (3, .int v3)]) C0.1 C0.2.1 dX4_sacksDue_32 hl (by decide) rfl (fun ls hl => ?_)
    refine lv_iconst (v := 0) C0.1 C0.2.1 dX4_sacksDue_34 kI_0 ?_
    refine lv_istore (lv' := [(5, .int 0), (4, .int (((A 10) (Int32.toNatClampNeg v2)) * y4)), (0, .ref (ad 0)), (1, .ref (ad 3)), (2, .int v2), (3, .int v3)]) C0.1 C0.2.1 dX4_sacksDue_35 hl (by decide) rfl (fun ls hl => ?_)
    exact TX4_sacksDue_37 C0 hK hN hA  FU v2 (((A 10) (Int32.toNatClampNeg v2)) * y4) 0 _ _ ls hW (lv_sub hl [2, 3, 4, 1, 0] rfl) hf
  · have hf := ite_t hc2 hf
    refine lv_iconst (v := 0) C0.1 C0.2.1 dX4_sacksDue_14 kI_0 ?_
    obtain rfl := Option.some.inj hf
    exact r_int C0 hK hW dX4_sacksDue_15
