-- X9_within
def rmX9_within : Room := { frames := 1, cells := 0, slots := 0, locals := 21 }
def fX9_within (v0 : Int32) (v1 : Int32) (v2 : Int32) : Option (Int32) := if v0 < v1 then (some (0)) else (if v2 < v0 then (some (0)) else (some (1)))
set_option maxHeartbeats 4000000 in
set_option maxRecDepth 100000 in
theorem KX9_within (l : Launch) (D : va_G) (cy : Nat → ClassId) (ad : Nat → Nat) (P : MP) (V : MV) (I : MI) (J : MJ) (A : MI) (B : MJ) (v0 : Int32) (v1 : Int32) (v2 : Int32) {res : Int32} (hf : fX9_within v0 v1 v2 = some res) : CG l yX9_within cX9_within 3 (some .boolean) rmX9_within D cy (dn cy LY0 ad P V I J A B) [.int v0, .int v1, .int v2] (some (.int res)) (dn cy LY0 ad P V (gp I []) (gp J []) (gm A []) (gm B [])) := by
  refine CG.of (own := RX9) (by decide) rfl rfl ?_
  intro p e s m below meth c ls Af C0 hK hN hA hW hl
  have hW : wd D (dn cy LY0 ad P V (gp I []) (gp J []) (gm A []) (gm B [])) Af s.heap s.heap [] := wd_sel [] [] [] [] hW
  have hl : lv_has ls 3 [(0, .int v0), (1, .int v1), (2, .int v2)] := hl
  unfold fX9_within at hf
  refine lv_iload_n C0.1 C0.2.1 dX9_within_0 rfl (lv_at hl 0 rfl) ?_
  refine lv_iload_n C0.1 C0.2.1 dX9_within_1 rfl (lv_at hl 1 rfl) ?_
  refine lv_icmp_lt (tgt := 14) C0.1 C0.2.1 dX9_within_2 (by decide) (fun hc1 => ?_) (fun hc1 => ?_)
  · have hf := ite_t hc1 hf
    refine lv_iconst (v := 0) C0.1 C0.2.1 dX9_within_14 kI_0 ?_
    obtain rfl := Option.some.inj hf
    exact r_bool C0 hK hW (v' := 0) rfl dX9_within_15
  · have hf := ite_f hc1 hf
    refine lv_iload_n C0.1 C0.2.1 dX9_within_5 rfl (lv_at hl 0 rfl) ?_
    refine lv_iload_n C0.1 C0.2.1 dX9_within_6 rfl (lv_at hl 2 rfl) ?_
    refine lv_icmp_gt (tgt := 14) C0.1 C0.2.1 dX9_within_7 (by decide) (fun hc2 => ?_) (fun hc2 => ?_)
    · have hf := ite_t hc2 hf
      refine lv_iconst (v := 0) C0.1 C0.2.1 dX9_within_14 kI_0 ?_
      obtain rfl := Option.some.inj hf
      exact r_bool C0 hK hW (v' := 0) rfl dX9_within_15
    · have hf := ite_f hc2 hf
      refine lv_iconst (v := 1) C0.1 C0.2.1 dX9_within_10 kI_1 ?_
      refine lv_goto (tgt := 15) C0.1 C0.2.1 dX9_within_11 (by decide) ?_
      obtain rfl := Option.some.inj hf
      exact r_bool C0 hK hW (v' := 1) rfl dX9_within_15
-- X9_isHole
def rmX9_isHole : Room := { frames := 1, cells := 0, slots := 0, locals := 21 }
def fX9_isHole (m_terrace : (Nat → Int32)) (v1 : Int32) : Option (Int32) := if v1 < 0 then (some (0)) else (if (m_terrace 0) ≤ v1 then (some (0)) else (some (1)))
set_option maxHeartbeats 4000000 in
set_option maxRecDepth 100000 in
theorem KX9_isHole (l : Launch) (D : va_G) (cy : Nat → ClassId) (ad : Nat → Nat) (P : MP) (V : MV) (I : MI) (J : MJ) (A : MI) (B : MJ) (v1 : Int32) {res : Int32} (hf : fX9_isHole (A 2) v1 = some res) : CG l yX9_isHole cX9_isHole 2 (some .boolean) rmX9_isHole D cy (dn cy LY1 ad P V I J A B) [.ref (ad 0), .int v1] (some (.int res)) (dn cy LY1 ad P V (gp I []) (gp J []) (gm A []) (gm B [])) := by
  refine CG.of (own := RX9) (by decide) rfl rfl ?_
  intro p e s m below meth c ls Af C0 hK hN hA hW hl
  have hW : wd D (dn cy LY1 ad P V (gp I []) (gp J []) (gm A []) (gm B [])) Af s.heap s.heap [] := wd_sel [] [] [] [] hW
  have hl : lv_has ls 2 [(0, .ref (ad 0)), (1, .int v1)] := hl
  unfold fX9_isHole at hf
  refine lv_iload_n C0.1 C0.2.1 dX9_isHole_0 rfl (lv_at hl 1 rfl) ?_
  refine lv_if_lt (tgt := 18) C0.1 C0.2.1 dX9_isHole_1 (by decide) (fun hc1 => ?_) (fun hc1 => ?_)
  · have hf := ite_t hc1 hf
    refine lv_iconst (v := 0) C0.1 C0.2.1 dX9_isHole_18 kI_0 ?_
    obtain rfl := Option.some.inj hf
    exact r_bool C0 hK hW (v' := 0) rfl dX9_isHole_19
  · have hf := ite_f hc1 hf
    refine lv_iload_n C0.1 C0.2.1 dX9_isHole_4 rfl (lv_at hl 1 rfl) ?_
    refine lv_aload_n C0.1 C0.2.1 dX9_isHole_5 rfl (lv_at hl 0 rfl) ?_
    refine s_get (v := .ref (ad 2)) C0 hK hW 0 10 LY1_0 rfl fg_X9_13 rfl dX9_isHole_6 ?_
    refine lv_iconst (v := 0) C0.1 C0.2.1 dX9_isHole_9 kI_0 ?_
    refine s_iald (v := ((A 2) 0)) C0 hK hW 2 LY1_2 rfl (congrArg _ tc_0) dX9_isHole_10 ?_
    refine lv_icmp_ge (tgt := 18) C0.1 C0.2.1 dX9_isHole_11 (by decide) (fun hc2 => ?_) (fun hc2 => ?_)
    · have hf := ite_t hc2 hf
      refine lv_iconst (v := 0) C0.1 C0.2.1 dX9_isHole_18 kI_0 ?_
      obtain rfl := Option.some.inj hf
      exact r_bool C0 hK hW (v' := 0) rfl dX9_isHole_19
    · have hf := ite_f hc2 hf
      refine lv_iconst (v := 1) C0.1 C0.2.1 dX9_isHole_14 kI_1 ?_
      refine lv_goto (tgt := 19) C0.1 C0.2.1 dX9_isHole_15 (by decide) ?_
      obtain rfl := Option.some.inj hf
      exact r_bool C0 hK hW (v' := 1) rfl dX9_isHole_19
-- X9_insideOf
def rmX9_insideOf : Room := { frames := 1, cells := 0, slots := 0, locals := 21 }
def SX9_insideOf_4 (p : Program) (l : Launch) (e : Env) (s : State) (m : MethodId) (args : Array Value) (below : List Frame) (meth : Method) (c : Code) (D : va_G) (cy : Nat → ClassId) (ad : Nat → Nat) (P : MP) (V : MV) (I : MI) (J : MJ) (A : MI) (B : MJ) (Af : Nat → Prop) (res : Int32) (k : Int32 → Int32 → Int32 → Option (Int32)) : Prop := ∀ (v1 : Int32) (v2 : Int32) (v3 : Int32) (H : Heap) (locs : List Loc) (ls : Array Slot), wd D (dn cy LY1 ad P V (gp I []) (gp J []) (gm A []) (gm B [])) Af s.heap H locs → lv_has ls 4 [(0, .ref (ad 0)), (1, .int v1), (2, .int v2), (3, .int v3)] → k v1 v2 v3 = some res → W p l e rmX9_insideOf s m args below meth c H locs 0 0 (ZQ below D cy (dn cy LY1 ad P V (gp I []) (gp J []) (gm A []) (gm B [])) (some (.int res)) Af args s) (F0 m 4 ls [])
def fX9_insideOf_4 (m_terrace : (Nat → Int32)) (m_s : (Nat → Int32)) (k4 : Int32 → Int32 → Int32 → Option (Int32)) (v1 : Int32) (v2 : Int32) (v3 : Int32) : Option (Int32) := if (m_terrace 1) ≤ v3 then (some (v2)) else (bif inb (8 + v3) 13 then (if (m_s (Int32.toNatClampNeg (8 + v3))) = (v1 + 1) then (k4 v1 (v2 ||| (1 <<< (v3 &&& 31))) (v3 + 1)) else (k4 v1 (v2 ||| 0) (v3 + 1))) else none)
set_option maxHeartbeats 4000000 in
set_option maxRecDepth 100000 in
theorem tX9_insideOf_4 {p : Program} {l : Launch} {e : Env} {s : State} {m : MethodId} {args : Array Value} {below : List Frame} {meth : Method} {c : Code} {D : va_G} {cy : Nat → ClassId} {ad : Nat → Nat} {P : MP} {V : MV} {I : MI} {J : MJ} {A : MI} {B : MJ} {Af : Nat → Prop} {res : Int32} (C0 : CX p s m args meth c cX9_insideOf 4 (some .int) RX9) (hK : va_K D vwCl (tyG cy) s) (hN : NWs s) (hA : ∀ q, s.heap.size ≤ q → Af q) {k4 : Int32 → Int32 → Int32 → Option (Int32)} (hk4 : SX9_insideOf_4 p l e s m args below meth c D cy ad P V I J A B Af res k4) : SX9_insideOf_4 p l e s m args below meth c D cy ad P V I J A B Af res (fX9_insideOf_4 (A 2) (A 35) k4) := by
  intro v1 v2 v3 H locs ls hW hl hf
  unfold fX9_insideOf_4 at hf
  refine lv_iload_n C0.1 C0.2.1 dX9_insideOf_4 rfl (lv_at hl 3 rfl) ?_
  refine lv_aload_n C0.1 C0.2.1 dX9_insideOf_5 rfl (lv_at hl 0 rfl) ?_
  refine s_get (v := .ref (ad 2)) C0 hK hW 0 10 LY1_0 rfl fg_X9_13 rfl dX9_insideOf_6 ?_
  refine lv_iconst (v := 1) C0.1 C0.2.1 dX9_insideOf_9 kI_1 ?_
  refine s_iald (v := ((A 2) 1)) C0 hK hW 2 LY1_2 rfl (congrArg _ tc_1) dX9_insideOf_10 ?_
  refine lv_icmp_ge (tgt := 45) C0.1 C0.2.1 dX9_insideOf_11 (by decide) (fun hc1 => ?_) (fun hc1 => ?_)
  · have hf := ite_t hc1 hf
    refine lv_iload_n C0.1 C0.2.1 dX9_insideOf_45 rfl (lv_at hl 2 rfl) ?_
    obtain rfl := Option.some.inj hf
    exact r_int C0 hK hW dX9_insideOf_46
  · have hf := ite_f hc1 hf
    refine lv_iload_n C0.1 C0.2.1 dX9_insideOf_14 rfl (lv_at hl 2 rfl) ?_
    refine lv_aload_n C0.1 C0.2.1 dX9_insideOf_15 rfl (lv_at hl 0 rfl) ?_
    refine s_get (v := .ref (ad 35)) C0 hK hW 0 47 LY1_0 rfl fg_X9_114 rfl dX9_insideOf_16 ?_
    refine lv_bipush (v := 8) C0.1 C0.2.1 dX9_insideOf_19 kB_8 ?_
    refine lv_iload_n C0.1 C0.2.1 dX9_insideOf_21 rfl (lv_at hl 3 rfl) ?_
    refine lv_iadd C0.1 C0.2.1 dX9_insideOf_22 ?_
    obtain ⟨hb2, hf⟩ := g_some hf
    refine s_iald (v := ((A 35) (Int32.toNatClampNeg (8 + v3)))) C0 hK hW 35 LY1_35 hb2 rfl dX9_insideOf_23 ?_
    refine lv_iload_n C0.1 C0.2.1 dX9_insideOf_24 rfl (lv_at hl 1 rfl) ?_
    refine lv_iconst (v := 1) C0.1 C0.2.1 dX9_insideOf_25 kI_1 ?_
    refine lv_iadd C0.1 C0.2.1 dX9_insideOf_26 ?_
    refine lv_icmp_ne (tgt := 36) C0.1 C0.2.1 dX9_insideOf_27 (by decide) (fun hc3 => ?_) (fun hc3 => ?_)
    · have hf := ite_f hc3 hf
      refine lv_iconst (v := 0) C0.1 C0.2.1 dX9_insideOf_36 kI_0 ?_
      refine lv_ior C0.1 C0.2.1 dX9_insideOf_37 ?_
      refine lv_istore_n (lv' := [(2, .int (v2 ||| 0)), (0, .ref (ad 0)), (1, .int v1), (3, .int v3)]) C0.1 C0.2.1 dX9_insideOf_38 rfl hl (by decide) rfl (fun ls hl => ?_)
      refine lv_iinc (v := (v3 + 1)) (lv' := [(3, .int (v3 + 1)), (2, .int (v2 ||| 0)), (0, .ref (ad 0)), (1, .int v1)]) C0.1 C0.2.1 dX9_insideOf_39 hl (k := 3) rfl (congrArg (fun z => _ + z) kI_1) (by decide) rfl (fun ls hl => ?_)
      refine lv_goto (tgt := 4) C0.1 C0.2.1 dX9_insideOf_42 (by decide) ?_
      exact hk4 v1 (v2 ||| 0) (v3 + 1) H locs ls hW (lv_sub hl [2, 3, 1, 0] rfl) hf
    · have hf := ite_t hc3 hf
      refine lv_iconst (v := 1) C0.1 C0.2.1 dX9_insideOf_30 kI_1 ?_
      refine lv_iload_n C0.1 C0.2.1 dX9_insideOf_31 rfl (lv_at hl 3 rfl) ?_
      refine lv_ishl C0.1 C0.2.1 dX9_insideOf_32 ?_
      refine lv_goto (tgt := 37) C0.1 C0.2.1 dX9_insideOf_33 (by decide) ?_
      refine lv_ior C0.1 C0.2.1 dX9_insideOf_37 ?_
      refine lv_istore_n (lv' := [(2, .int (v2 ||| (1 <<< (v3 &&& 31)))), (0, .ref (ad 0)), (1, .int v1), (3, .int v3)]) C0.1 C0.2.1 dX9_insideOf_38 rfl hl (by decide) rfl (fun ls hl => ?_)
      refine lv_iinc (v := (v3 + 1)) (lv' := [(3, .int (v3 + 1)), (2, .int (v2 ||| (1 <<< (v3 &&& 31)))), (0, .ref (ad 0)), (1, .int v1)]) C0.1 C0.2.1 dX9_insideOf_39 hl (k := 3) rfl (congrArg (fun z => _ + z) kI_1) (by decide) rfl (fun ls hl => ?_)
      refine lv_goto (tgt := 4) C0.1 C0.2.1 dX9_insideOf_42 (by decide) ?_
      exact hk4 v1 (v2 ||| (1 <<< (v3 &&& 31))) (v3 + 1) H locs ls hW (lv_sub hl [2, 3, 1, 0] rfl) hf
theorem TX9_insideOf_4 {p : Program} {l : Launch} {e : Env} {s : State} {m : MethodId} {args : Array Value} {below : List Frame} {meth : Method} {c : Code} {D : va_G} {cy : Nat → ClassId} {ad : Nat → Nat} {P : MP} {V : MV} {I : MI} {J : MJ} {A : MI} {B : MJ} {Af : Nat → Prop} {res : Int32} (C0 : CX p s m args meth c cX9_insideOf 4 (some .int) RX9) (hK : va_K D vwCl (tyG cy) s) (hN : NWs s) (hA : ∀ q, s.heap.size ≤ q → Af q) : ∀ n, SX9_insideOf_4 p l e s m args below meth c D cy ad P V I J A B Af res (itr (fun kk => fX9_insideOf_4 (A 2) (A 35) kk) (fun _ _ _ => none) n) := by
  intro n
  induction n with
  | zero => intro v1 v2 v3 H locs ls hW hl hf; exact (nomatch (show (none : Option (Int32)) = some res from hf))
  | succ n ih => exact tX9_insideOf_4 C0 hK hN hA  ih
def fX9_insideOf (m_terrace : (Nat → Int32)) (m_s : (Nat → Int32)) (v1 : Int32) : Option (Int32) := itr (fun kk => fX9_insideOf_4 m_terrace m_s kk) (fun _ _ _ => none) FU v1 0 0
set_option maxHeartbeats 4000000 in
set_option maxRecDepth 100000 in
theorem KX9_insideOf (l : Launch) (D : va_G) (cy : Nat → ClassId) (ad : Nat → Nat) (P : MP) (V : MV) (I : MI) (J : MJ) (A : MI) (B : MJ) (v1 : Int32) {res : Int32} (hf : fX9_insideOf (A 2) (A 35) v1 = some res) : CG l yX9_insideOf cX9_insideOf 4 (some .int) rmX9_insideOf D cy (dn cy LY1 ad P V I J A B) [.ref (ad 0), .int v1] (some (.int res)) (dn cy LY1 ad P V (gp I []) (gp J []) (gm A []) (gm B [])) := by
  refine CG.of (own := RX9) (by decide) rfl rfl ?_
  intro p e s m below meth c ls Af C0 hK hN hA hW hl
  have hW : wd D (dn cy LY1 ad P V (gp I []) (gp J []) (gm A []) (gm B [])) Af s.heap s.heap [] := wd_sel [] [] [] [] hW
  have hl : lv_has ls 4 [(0, .ref (ad 0)), (1, .int v1)] := hl
  unfold fX9_insideOf at hf
  refine lv_iconst (v := 0) C0.1 C0.2.1 dX9_insideOf_0 kI_0 ?_
  refine lv_istore_n (lv' := [(2, .int 0), (0, .ref (ad 0)), (1, .int v1)]) C0.1 C0.2.1 dX9_insideOf_1 rfl hl (by decide) rfl (fun ls hl => ?_)
  refine lv_iconst (v := 0) C0.1 C0.2.1 dX9_insideOf_2 kI_0 ?_
  refine lv_istore_n (lv' := [(3, .int 0), (2, .int 0), (0, .ref (ad 0)), (1, .int v1)]) C0.1 C0.2.1 dX9_insideOf_3 rfl hl (by decide) rfl (fun ls hl => ?_)
  exact TX9_insideOf_4 C0 hK hN hA  FU v1 0 0 _ _ ls hW (lv_sub hl [2, 3, 1, 0] rfl) hf
