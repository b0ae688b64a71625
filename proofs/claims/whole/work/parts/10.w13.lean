-- X9_opens
def rmX9_opens : Room := { frames := 1, cells := 0, slots := 0, locals := 21 }
def fX9_opens (m_keptBy : (Nat → Int32)) (m_against : (Nat → Int32)) (m_sum : (Nat → Int32)) (m_sumBy : (Nat → Int32)) (m_termBy : (Nat → Int32)) (v1 : Int32) : Option ((Nat → Int32) × (Nat → Int32) × (Nat → Int32) × (Nat → Int32) × (Nat → Int32)) := bif inb v1 7 then (bif inb v1 7 then (bif inb v1 7 then (bif inb v1 7 then (bif inb v1 7 then (some ((upd m_keptBy (Int32.toNatClampNeg v1) 0), (upd m_against (Int32.toNatClampNeg v1) 0), (upd m_sum (Int32.toNatClampNeg v1) 0), (upd m_sumBy (Int32.toNatClampNeg v1) 20), (upd m_termBy (Int32.toNatClampNeg v1) 0))) else none) else none) else none) else none) else none
set_option maxHeartbeats 4000000 in
set_option maxRecDepth 100000 in
theorem KX9_opens (l : Launch) (D : va_G) (cy : Nat → ClassId) (ad : Nat → Nat) (P : MP) (V : MV) (I : MI) (J : MJ) (A : MI) (B : MJ) (v1 : Int32) {res : (Nat → Int32) × (Nat → Int32) × (Nat → Int32) × (Nat → Int32) × (Nat → Int32)} (hf : fX9_opens (A 19) (A 21) (A 22) (A 23) (A 25) v1 = some res) : CG l yX9_opens cX9_opens 2 none rmX9_opens D cy (dn cy LY_X9 ad P V I J A B) [.ref (ad 0), .int v1] none (dn cy LY_X9 ad P V (gp I []) (gp J []) (gm A [(19, res.1), (21, res.2.1), (22, res.2.2.1), (23, res.2.2.2.1), (25, res.2.2.2.2)]) (gm B [])) := by
  refine CG.of (own := RX9) (by decide) rfl rfl ?_
  intro p e s m below meth c ls Af C0 hK hN hA hW hl
  have hW : wd D (dn cy LY_X9 ad P V (gp I []) (gp J []) (gm A [(19, (A 19)), (21, (A 21)), (22, (A 22)), (23, (A 23)), (25, (A 25))]) (gm B [])) Af s.heap s.heap [] := wd_sel [] [] [19, 21, 22, 23, 25] [] hW
  have hl : lv_has ls 2 [(0, .ref (ad 0)), (1, .int v1)] := hl
  unfold fX9_opens at hf
  refine lv_aload_n C0.1 C0.2.1 dX9_opens_0 rfl (lv_at hl 0 rfl) ?_
  refine s_get (v := .ref (ad 19)) C0 hK hW 0 29 LY_X9_0 rfl fg_X9_66 rfl dX9_opens_1 ?_
  refine lv_iload_n C0.1 C0.2.1 dX9_opens_4 rfl (lv_at hl 1 rfl) ?_
  refine lv_iconst (v := 0) C0.1 C0.2.1 dX9_opens_5 kI_0 ?_
  obtain ⟨hb1, hf⟩ := g_some hf
  refine s_iast (f := (upd (A 19) (Int32.toNatClampNeg v1) 0)) C0 hK hW 19 LY_X9_19 hb1 rfl rfl dX9_opens_6 (fun H locs hW => ?_)
  have hW : wd D (dn cy LY_X9 ad P V (gp I []) (gp J []) (gm A [(19, (upd (A 19) (Int32.toNatClampNeg v1) 0)), (21, (A 21)), (22, (A 22)), (23, (A 23)), (25, (A 25))]) (gm B [])) Af s.heap H locs := hW
  refine lv_aload_n C0.1 C0.2.1 dX9_opens_7 rfl (lv_at hl 0 rfl) ?_
  refine s_get (v := .ref (ad 21)) C0 hK hW 0 31 LY_X9_0 rfl fg_X9_72 rfl dX9_opens_8 ?_
  refine lv_iload_n C0.1 C0.2.1 dX9_opens_11 rfl (lv_at hl 1 rfl) ?_
  refine lv_iconst (v := 0) C0.1 C0.2.1 dX9_opens_12 kI_0 ?_
  obtain ⟨hb2, hf⟩ := g_some hf
  refine s_iast (f := (upd (A 21) (Int32.toNatClampNeg v1) 0)) C0 hK hW 21 LY_X9_21 hb2 rfl rfl dX9_opens_13 (fun H locs hW => ?_)
  have hW : wd D (dn cy LY_X9 ad P V (gp I []) (gp J []) (gm A [(19, (upd (A 19) (Int32.toNatClampNeg v1) 0)), (21, (upd (A 21) (Int32.toNatClampNeg v1) 0)), (22, (A 22)), (23, (A 23)), (25, (A 25))]) (gm B [])) Af s.heap H locs := hW
  refine lv_aload_n C0.1 C0.2.1 dX9_opens_14 rfl (lv_at hl 0 rfl) ?_
  refine s_get (v := .ref (ad 22)) C0 hK hW 0 32 LY_X9_0 rfl fg_X9_75 rfl dX9_opens_15 ?_
  refine lv_iload_n C0.1 C0.2.1 dX9_opens_18 rfl (lv_at hl 1 rfl) ?_
  refine lv_iconst (v := 0) C0.1 C0.2.1 dX9_opens_19 kI_0 ?_
  obtain ⟨hb3, hf⟩ := g_some hf
  refine s_iast (f := (upd (A 22) (Int32.toNatClampNeg v1) 0)) C0 hK hW 22 LY_X9_22 hb3 rfl rfl dX9_opens_20 (fun H locs hW => ?_)
  have hW : wd D (dn cy LY_X9 ad P V (gp I []) (gp J []) (gm A [(19, (upd (A 19) (Int32.toNatClampNeg v1) 0)), (21, (upd (A 21) (Int32.toNatClampNeg v1) 0)), (22, (upd (A 22) (Int32.toNatClampNeg v1) 0)), (23, (A 23)), (25, (A 25))]) (gm B [])) Af s.heap H locs := hW
  refine lv_aload_n C0.1 C0.2.1 dX9_opens_21 rfl (lv_at hl 0 rfl) ?_
  refine s_get (v := .ref (ad 23)) C0 hK hW 0 33 LY_X9_0 rfl fg_X9_78 rfl dX9_opens_22 ?_
  refine lv_iload_n C0.1 C0.2.1 dX9_opens_25 rfl (lv_at hl 1 rfl) ?_
  refine lv_bipush (v := 20) C0.1 C0.2.1 dX9_opens_26 kB_20 ?_
  obtain ⟨hb4, hf⟩ := g_some hf
  refine s_iast (f := (upd (A 23) (Int32.toNatClampNeg v1) 20)) C0 hK hW 23 LY_X9_23 hb4 rfl rfl dX9_opens_28 (fun H locs hW => ?_)
  have hW : wd D (dn cy LY_X9 ad P V (gp I []) (gp J []) (gm A [(19, (upd (A 19) (Int32.toNatClampNeg v1) 0)), (21, (upd (A 21) (Int32.toNatClampNeg v1) 0)), (22, (upd (A 22) (Int32.toNatClampNeg v1) 0)), (23, (upd (A 23) (Int32.toNatClampNeg v1) 20)), (25, (A 25))]) (gm B [])) Af s.heap H locs := hW
  refine lv_aload_n C0.1 C0.2.1 dX9_opens_29 rfl (lv_at hl 0 rfl) ?_
  refine s_get (v := .ref (ad 25)) C0 hK hW 0 35 LY_X9_0 rfl fg_X9_84 rfl dX9_opens_30 ?_
  refine lv_iload_n C0.1 C0.2.1 dX9_opens_33 rfl (lv_at hl 1 rfl) ?_
  refine lv_iconst (v := 0) C0.1 C0.2.1 dX9_opens_34 kI_0 ?_
  obtain ⟨hb5, hf⟩ := g_some hf
  refine s_iast (f := (upd (A 25) (Int32.toNatClampNeg v1) 0)) C0 hK hW 25 LY_X9_25 hb5 rfl rfl dX9_opens_35 (fun H locs hW => ?_)
  have hW : wd D (dn cy LY_X9 ad P V (gp I []) (gp J []) (gm A [(19, (upd (A 19) (Int32.toNatClampNeg v1) 0)), (21, (upd (A 21) (Int32.toNatClampNeg v1) 0)), (22, (upd (A 22) (Int32.toNatClampNeg v1) 0)), (23, (upd (A 23) (Int32.toNatClampNeg v1) 20)), (25, (upd (A 25) (Int32.toNatClampNeg v1) 0))]) (gm B [])) Af s.heap H locs := hW
  obtain rfl := Option.some.inj hf
  exact r_void C0 hK hW dX9_opens_36
-- X9_sums
def rmX9_sums : Room := { frames := 1, cells := 0, slots := 0, locals := 21 }
def SX9_sums_45 (p : Program) (l : Launch) (e : Env) (s : State) (m : MethodId) (args : Array Value) (below : List Frame) (meth : Method) (c : Code) (D : va_G) (cy : Nat → ClassId) (ad : Nat → Nat) (P : MP) (V : MV) (I : MI) (J : MJ) (A : MI) (B : MJ) (Af : Nat → Prop) (res : (Nat → Int32) × (Nat → Int32)) (k : (Nat → Int32) → (Nat → Int32) → Int32 → Int32 → Int32 → Option ((Nat → Int32) × (Nat → Int32))) : Prop := ∀ (m_sum : (Nat → Int32)) (m_termBy : (Nat → Int32)) (v1 : Int32) (x0 : Int32) (x1 : Int32) (H : Heap) (locs : List Loc) (ls : Array Slot), wd D (dn cy LY_X9 ad P V (gp I []) (gp J []) (gm A [(22, m_sum), (25, m_termBy)]) (gm B [])) Af s.heap H locs → lv_has ls 2 [(0, .ref (ad 0)), (1, .int v1)] → k m_sum m_termBy v1 x0 x1 = some res → W p l e rmX9_sums s m args below meth c H locs 0 0 (ZQ below D cy (dn cy LY_X9 ad P V (gp I []) (gp J []) (gm A [(22, res.1), (25, res.2)]) (gm B [])) none Af args s) (F0 m 45 ls [.int x0, .int x1, .ref (ad 22)])
def fX9_sums_45 (m_sumBy : (Nat → Int32)) (m_term : (Nat → Int32)) (m_sum : (Nat → Int32)) (m_termBy : (Nat → Int32)) (v1 : Int32) (x0 : Int32) (x1 : Int32) : Option ((Nat → Int32) × (Nat → Int32)) := bif inb x1 7 then (bif inb v1 7 then (some ((upd m_sum (Int32.toNatClampNeg x1) x0), (upd m_termBy (Int32.toNatClampNeg v1) 0))) else none) else none
set_option maxHeartbeats 4000000 in
set_option maxRecDepth 100000 in
theorem tX9_sums_45 {p : Program} {l : Launch} {e : Env} {s : State} {m : MethodId} {args : Array Value} {below : List Frame} {meth : Method} {c : Code} {D : va_G} {cy : Nat → ClassId} {ad : Nat → Nat} {P : MP} {V : MV} {I : MI} {J : MJ} {A : MI} {B : MJ} {Af : Nat → Prop} {res : (Nat → Int32) × (Nat → Int32)} (C0 : CX p s m args meth c cX9_sums 2 none RX9) (hK : va_K D vwCl (tyG cy) s) (hN : NWs s) (hA : ∀ q, s.heap.size ≤ q → Af q) : SX9_sums_45 p l e s m args below meth c D cy ad P V I J A B Af res (fX9_sums_45 (A 23) (A 24)) := by
  intro m_sum m_termBy v1 x0 x1 H locs ls hW hl hf
  unfold fX9_sums_45 at hf
  obtain ⟨hb1, hf⟩ := g_some hf
  refine s_iast (f := (upd m_sum (Int32.toNatClampNeg x1) x0)) C0 hK hW 22 LY_X9_22 hb1 rfl rfl dX9_sums_45 (fun H locs hW => ?_)
  have hW : wd D (dn cy LY_X9 ad P V (gp I []) (gp J []) (gm A [(22, (upd m_sum (Int32.toNatClampNeg x1) x0)), (25, m_termBy)]) (gm B [])) Af s.heap H locs := hW
  refine lv_aload_n C0.1 C0.2.1 dX9_sums_46 rfl (lv_at hl 0 rfl) ?_
  refine s_get (v := .ref (ad 25)) C0 hK hW 0 35 LY_X9_0 rfl fg_X9_84 rfl dX9_sums_47 ?_
  refine lv_iload_n C0.1 C0.2.1 dX9_sums_50 rfl (lv_at hl 1 rfl) ?_
  refine lv_iconst (v := 0) C0.1 C0.2.1 dX9_sums_51 kI_0 ?_
  obtain ⟨hb2, hf⟩ := g_some hf
  refine s_iast (f := (upd m_termBy (Int32.toNatClampNeg v1) 0)) C0 hK hW 25 LY_X9_25 hb2 rfl rfl dX9_sums_52 (fun H locs hW => ?_)
  have hW : wd D (dn cy LY_X9 ad P V (gp I []) (gp J []) (gm A [(22, (upd m_sum (Int32.toNatClampNeg x1) x0)), (25, (upd m_termBy (Int32.toNatClampNeg v1) 0))]) (gm B [])) Af s.heap H locs := hW
  obtain rfl := Option.some.inj hf
  exact r_void C0 hK hW dX9_sums_53
def fX9_sums (m_sumBy : (Nat → Int32)) (m_term : (Nat → Int32)) (m_sum : (Nat → Int32)) (m_termBy : (Nat → Int32)) (v1 : Int32) : Option ((Nat → Int32) × (Nat → Int32)) := bif inb v1 7 then (if (m_sumBy (Int32.toNatClampNeg v1)) = 21 then (bif inb v1 7 then (bif inb v1 7 then (fX9_sums_45 m_sumBy m_term m_sum m_termBy v1 ((m_sum (Int32.toNatClampNeg v1)) - (m_term (Int32.toNatClampNeg v1))) v1) else none) else none) else (bif inb v1 7 then (bif inb v1 7 then (fX9_sums_45 m_sumBy m_term m_sum m_termBy v1 ((m_sum (Int32.toNatClampNeg v1)) + (m_term (Int32.toNatClampNeg v1))) v1) else none) else none)) else none
set_option maxHeartbeats 4000000 in
set_option maxRecDepth 100000 in
theorem KX9_sums (l : Launch) (D : va_G) (cy : Nat → ClassId) (ad : Nat → Nat) (P : MP) (V : MV) (I : MI) (J : MJ) (A : MI) (B : MJ) (v1 : Int32) {res : (Nat → Int32) × (Nat → Int32)} (hf : fX9_sums (A 23) (A 24) (A 22) (A 25) v1 = some res) : CG l yX9_sums cX9_sums 2 none rmX9_sums D cy (dn cy LY_X9 ad P V I J A B) [.ref (ad 0), .int v1] none (dn cy LY_X9 ad P V (gp I []) (gp J []) (gm A [(22, res.1), (25, res.2)]) (gm B [])) := by
  refine CG.of (own := RX9) (by decide) rfl rfl ?_
  intro p e s m below meth c ls Af C0 hK hN hA hW hl
  have hW : wd D (dn cy LY_X9 ad P V (gp I []) (gp J []) (gm A [(22, (A 22)), (25, (A 25))]) (gm B [])) Af s.heap s.heap [] := wd_sel [] [] [22, 25] [] hW
  have hl : lv_has ls 2 [(0, .ref (ad 0)), (1, .int v1)] := hl
  unfold fX9_sums at hf
  refine lv_aload_n C0.1 C0.2.1 dX9_sums_0 rfl (lv_at hl 0 rfl) ?_
  refine s_get (v := .ref (ad 22)) C0 hK hW 0 32 LY_X9_0 rfl fg_X9_75 rfl dX9_sums_1 ?_
  refine lv_iload_n C0.1 C0.2.1 dX9_sums_4 rfl (lv_at hl 1 rfl) ?_
  refine lv_aload_n C0.1 C0.2.1 dX9_sums_5 rfl (lv_at hl 0 rfl) ?_
  refine s_get (v := .ref (ad 23)) C0 hK hW 0 33 LY_X9_0 rfl fg_X9_78 rfl dX9_sums_6 ?_
  refine lv_iload_n C0.1 C0.2.1 dX9_sums_9 rfl (lv_at hl 1 rfl) ?_
  obtain ⟨hb1, hf⟩ := g_some hf
  refine s_iald (v := ((A 23) (Int32.toNatClampNeg v1))) C0 hK hW 23 LY_X9_23 hb1 rfl dX9_sums_10 ?_
  refine lv_bipush (v := 21) C0.1 C0.2.1 dX9_sums_11 kB_21 ?_
  refine lv_icmp_ne (tgt := 32) C0.1 C0.2.1 dX9_sums_13 (by decide) (fun hc2 => ?_) (fun hc2 => ?_)
  · have hf := ite_f hc2 hf
    refine lv_aload_n C0.1 C0.2.1 dX9_sums_32 rfl (lv_at hl 0 rfl) ?_
    refine s_get (v := .ref (ad 22)) C0 hK hW 0 32 LY_X9_0 rfl fg_X9_75 rfl dX9_sums_33 ?_
    refine lv_iload_n C0.1 C0.2.1 dX9_sums_36 rfl (lv_at hl 1 rfl) ?_
    obtain ⟨hb3, hf⟩ := g_some hf
    refine s_iald (v := ((A 22) (Int32.toNatClampNeg v1))) C0 hK hW 22 LY_X9_22 hb3 rfl dX9_sums_37 ?_
    refine lv_aload_n C0.1 C0.2.1 dX9_sums_38 rfl (lv_at hl 0 rfl) ?_
    refine s_get (v := .ref (ad 24)) C0 hK hW 0 34 LY_X9_0 rfl fg_X9_81 rfl dX9_sums_39 ?_
    refine lv_iload_n C0.1 C0.2.1 dX9_sums_42 rfl (lv_at hl 1 rfl) ?_
    obtain ⟨hb4, hf⟩ := g_some hf
    refine s_iald (v := ((A 24) (Int32.toNatClampNeg v1))) C0 hK hW 24 LY_X9_24 hb4 rfl dX9_sums_43 ?_
    refine lv_iadd C0.1 C0.2.1 dX9_sums_44 ?_
    exact tX9_sums_45 C0 hK hN hA  (A 22) (A 25) v1 (((A 22) (Int32.toNatClampNeg v1)) + ((A 24) (Int32.toNatClampNeg v1))) v1 _ _ ls hW hl hf
  · have hf := ite_t hc2 hf
    refine lv_aload_n C0.1 C0.2.1 dX9_sums_16 rfl (lv_at hl 0 rfl) ?_
    refine s_get (v := .ref (ad 22)) C0 hK hW 0 32 LY_X9_0 rfl fg_X9_75 rfl dX9_sums_17 ?_
    refine lv_iload_n C0.1 C0.2.1 dX9_sums_20 rfl (lv_at hl 1 rfl) ?_
    obtain ⟨hb5, hf⟩ := g_some hf
    refine s_iald (v := ((A 22) (Int32.toNatClampNeg v1))) C0 hK hW 22 LY_X9_22 hb5 rfl dX9_sums_21 ?_
    refine lv_aload_n C0.1 C0.2.1 dX9_sums_22 rfl (lv_at hl 0 rfl) ?_
    refine s_get (v := .ref (ad 24)) C0 hK hW 0 34 LY_X9_0 rfl fg_X9_81 rfl dX9_sums_23 ?_
    refine lv_iload_n C0.1 C0.2.1 dX9_sums_26 rfl (lv_at hl 1 rfl) ?_
    obtain ⟨hb6, hf⟩ := g_some hf
    refine s_iald (v := ((A 24) (Int32.toNatClampNeg v1))) C0 hK hW 24 LY_X9_24 hb6 rfl dX9_sums_27 ?_
    refine lv_isub C0.1 C0.2.1 dX9_sums_28 ?_
    refine lv_goto (tgt := 45) C0.1 C0.2.1 dX9_sums_29 (by decide) ?_
    exact tX9_sums_45 C0 hK hN hA  (A 22) (A 25) v1 (((A 22) (Int32.toNatClampNeg v1)) - ((A 24) (Int32.toNatClampNeg v1))) v1 _ _ ls hW hl hf
-- X9_tests
def rmX9_tests : Room := { frames := 2, cells := 0, slots := 0, locals := 42 }
def SX9_tests_136 (p : Program) (l : Launch) (e : Env) (s : State) (m : MethodId) (args : Array Value) (below : List Frame) (meth : Method) (c : Code) (D : va_G) (cy : Nat → ClassId) (ad : Nat → Nat) (P : MP) (V : MV) (I : MI) (J : MJ) (A : MI) (B : MJ) (Af : Nat → Prop) (res : (Nat → Int32) × (Nat → Int32) × (Nat → Int32) × (Nat → Int32) × (Nat → Int32)) (k : (Nat → Int32) → (Nat → Int32) → (Nat → Int32) → (Nat → Int32) → (Nat → Int32) → Int32 → Int32 → Option ((Nat → Int32) × (Nat → Int32) × (Nat → Int32) × (Nat → Int32) × (Nat → Int32))) : Prop := ∀ (m_kept : (Nat → Int32)) (m_against : (Nat → Int32)) (m_sum : (Nat → Int32)) (m_sumBy : (Nat → Int32)) (m_termBy : (Nat → Int32)) (v1 : Int32) (v2 : Int32) (H : Heap) (locs : List Loc) (ls : Array Slot), wd D (dn cy LY_X9 ad P V (gp I []) (gp J []) (gm A [(18, m_kept), (21, m_against), (22, m_sum), (23, m_sumBy), (25, m_termBy)]) (gm B [])) Af s.heap H locs → lv_has ls 3 [(0, .ref (ad 0)), (1, .int v1), (2, .int v2)] → k m_kept m_against m_sum m_sumBy m_termBy v1 v2 = some res → W p l e rmX9_tests s m args below meth c H locs 0 0 (ZQ below D cy (dn cy LY_X9 ad P V (gp I []) (gp J []) (gm A [(18, res.1), (21, res.2.1), (22, res.2.2.1), (23, res.2.2.2.1), (25, res.2.2.2.2)]) (gm B [])) none Af args s) (F0 m 136 ls [])
def SX9_tests_106 (p : Program) (l : Launch) (e : Env) (s : State) (m : MethodId) (args : Array Value) (below : List Frame) (meth : Method) (c : Code) (D : va_G) (cy : Nat → ClassId) (ad : Nat → Nat) (P : MP) (V : MV) (I : MI) (J : MJ) (A : MI) (B : MJ) (Af : Nat → Prop) (res : (Nat → Int32) × (Nat → Int32) × (Nat → Int32) × (Nat → Int32) × (Nat → Int32)) (k : (Nat → Int32) → (Nat → Int32) → (Nat → Int32) → (Nat → Int32) → (Nat → Int32) → Int32 → Int32 → Option ((Nat → Int32) × (Nat → Int32) × (Nat → Int32) × (Nat → Int32) × (Nat → Int32))) : Prop := ∀ (m_kept : (Nat → Int32)) (m_against : (Nat → Int32)) (m_sum : (Nat → Int32)) (m_sumBy : (Nat → Int32)) (m_termBy : (Nat → Int32)) (v1 : Int32) (v2 : Int32) (H : Heap) (locs : List Loc) (ls : Array Slot), wd D (dn cy LY_X9 ad P V (gp I []) (gp J []) (gm A [(18, m_kept), (21, m_against), (22, m_sum), (23, m_sumBy), (25, m_termBy)]) (gm B [])) Af s.heap H locs → lv_has ls 3 [(0, .ref (ad 0)), (1, .int v1), (2, .int v2)] → k m_kept m_against m_sum m_sumBy m_termBy v1 v2 = some res → W p l e rmX9_tests s m args below meth c H locs 0 0 (ZQ below D cy (dn cy LY_X9 ad P V (gp I []) (gp J []) (gm A [(18, res.1), (21, res.2.1), (22, res.2.2.1), (23, res.2.2.2.1), (25, res.2.2.2.2)]) (gm B [])) none Af args s) (F0 m 106 ls [])
def SX9_tests_76 (p : Program) (l : Launch) (e : Env) (s : State) (m : MethodId) (args : Array Value) (below : List Frame) (meth : Method) (c : Code) (D : va_G) (cy : Nat → ClassId) (ad : Nat → Nat) (P : MP) (V : MV) (I : MI) (J : MJ) (A : MI) (B : MJ) (Af : Nat → Prop) (res : (Nat → Int32) × (Nat → Int32) × (Nat → Int32) × (Nat → Int32) × (Nat → Int32)) (k : (Nat → Int32) → (Nat → Int32) → (Nat → Int32) → (Nat → Int32) → (Nat → Int32) → Int32 → Int32 → Option ((Nat → Int32) × (Nat → Int32) × (Nat → Int32) × (Nat → Int32) × (Nat → Int32))) : Prop := ∀ (m_kept : (Nat → Int32)) (m_against : (Nat → Int32)) (m_sum : (Nat → Int32)) (m_sumBy : (Nat → Int32)) (m_termBy : (Nat → Int32)) (v1 : Int32) (v2 : Int32) (H : Heap) (locs : List Loc) (ls : Array Slot), wd D (dn cy LY_X9 ad P V (gp I []) (gp J []) (gm A [(18, m_kept), (21, m_against), (22, m_sum), (23, m_sumBy), (25, m_termBy)]) (gm B [])) Af s.heap H locs → lv_has ls 3 [(0, .ref (ad 0)), (1, .int v1), (2, .int v2)] → k m_kept m_against m_sum m_sumBy m_termBy v1 v2 = some res → W p l e rmX9_tests s m args below meth c H locs 0 0 (ZQ below D cy (dn cy LY_X9 ad P V (gp I []) (gp J []) (gm A [(18, res.1), (21, res.2.1), (22, res.2.2.1), (23, res.2.2.2.1), (25, res.2.2.2.2)]) (gm B [])) none Af args s) (F0 m 76 ls [])
def SX9_tests_44 (p : Program) (l : Launch) (e : Env) (s : State) (m : MethodId) (args : Array Value) (below : List Frame) (meth : Method) (c : Code) (D : va_G) (cy : Nat → ClassId) (ad : Nat → Nat) (P : MP) (V : MV) (I : MI) (J : MJ) (A : MI) (B : MJ) (Af : Nat → Prop) (res : (Nat → Int32) × (Nat → Int32) × (Nat → Int32) × (Nat → Int32) × (Nat → Int32)) (k : (Nat → Int32) → (Nat → Int32) → (Nat → Int32) → (Nat → Int32) → (Nat → Int32) → Int32 → Int32 → Option ((Nat → Int32) × (Nat → Int32) × (Nat → Int32) × (Nat → Int32) × (Nat → Int32))) : Prop := ∀ (m_kept : (Nat → Int32)) (m_against : (Nat → Int32)) (m_sum : (Nat → Int32)) (m_sumBy : (Nat → Int32)) (m_termBy : (Nat → Int32)) (v1 : Int32) (v2 : Int32) (H : Heap) (locs : List Loc) (ls : Array Slot), wd D (dn cy LY_X9 ad P V (gp I []) (gp J []) (gm A [(18, m_kept), (21, m_against), (22, m_sum), (23, m_sumBy), (25, m_termBy)]) (gm B [])) Af s.heap H locs → lv_has ls 3 [(0, .ref (ad 0)), (1, .int v1), (2, .int v2)] → k m_kept m_against m_sum m_sumBy m_termBy v1 v2 = some res → W p l e rmX9_tests s m args below meth c H locs 0 0 (ZQ below D cy (dn cy LY_X9 ad P V (gp I []) (gp J []) (gm A [(18, res.1), (21, res.2.1), (22, res.2.2.1), (23, res.2.2.2.1), (25, res.2.2.2.2)]) (gm B [])) none Af args s) (F0 m 44 ls [])
def fX9_tests_136 (m_keptBy : (Nat → Int32)) (m_ahead : (Nat → Int32)) (m_term : (Nat → Int32)) (m_kept : (Nat → Int32)) (m_against : (Nat → Int32)) (m_sum : (Nat → Int32)) (m_sumBy : (Nat → Int32)) (m_termBy : (Nat → Int32)) (v1 : Int32) (v2 : Int32) : Option ((Nat → Int32) × (Nat → Int32) × (Nat → Int32) × (Nat → Int32) × (Nat → Int32)) := bif inb v1 7 then (bif inb v1 7 then (bif inb v1 7 then (bif inb v1 7 then (some ((upd m_kept (Int32.toNatClampNeg v1) v2), (upd m_against (Int32.toNatClampNeg v1) 0), (upd m_sum (Int32.toNatClampNeg v1) 0), (upd m_sumBy (Int32.toNatClampNeg v1) 20), m_termBy)) else none) else none) else none) else none
set_option maxHeartbeats 4000000 in
set_option maxRecDepth 100000 in
theorem tX9_tests_136 {p : Program} {l : Launch} {e : Env} {s : State} {m : MethodId} {args : Array Value} {below : List Frame} {meth : Method} {c : Code} {D : va_G} {cy : Nat → ClassId} {ad : Nat → Nat} {P : MP} {V : MV} {I : MI} {J : MJ} {A : MI} {B : MJ} {Af : Nat → Prop} {res : (Nat → Int32) × (Nat → Int32) × (Nat → Int32) × (Nat → Int32) × (Nat → Int32)} (C0 : CX p s m args meth c cX9_tests 3 none RX9) (hK : va_K D vwCl (tyG cy) s) (hN : NWs s) (hA : ∀ q, s.heap.size ≤ q → Af q) : SX9_tests_136 p l e s m args below meth c D cy ad P V I J A B Af res (fX9_tests_136 (A 19) (A 20) (A 24)) := by
  intro m_kept m_against m_sum m_sumBy m_termBy v1 v2 H locs ls hW hl hf
  unfold fX9_tests_136 at hf
  refine lv_aload_n C0.1 C0.2.1 dX9_tests_136 rfl (lv_at hl 0 rfl) ?_
  refine s_get (v := .ref (ad 18)) C0 hK hW 0 28 LY_X9_0 rfl fg_X9_63 rfl dX9_tests_137 ?_
  refine lv_iload_n C0.1 C0.2.1 dX9_tests_140 rfl (lv_at hl 1 rfl) ?_
  refine lv_iload_n C0.1 C0.2.1 dX9_tests_141 rfl (lv_at hl 2 rfl) ?_
  obtain ⟨hb1, hf⟩ := g_some hf
  refine s_iast (f := (upd m_kept (Int32.toNatClampNeg v1) v2)) C0 hK hW 18 LY_X9_18 hb1 rfl rfl dX9_tests_142 (fun H locs hW => ?_)
  have hW : wd D (dn cy LY_X9 ad P V (gp I []) (gp J []) (gm A [(18, (upd m_kept (Int32.toNatClampNeg v1) v2)), (21, m_against), (22, m_sum), (23, m_sumBy), (25, m_termBy)]) (gm B [])) Af s.heap H locs := hW
  refine lv_aload_n C0.1 C0.2.1 dX9_tests_143 rfl (lv_at hl 0 rfl) ?_
  refine s_get (v := .ref (ad 21)) C0 hK hW 0 31 LY_X9_0 rfl fg_X9_72 rfl dX9_tests_144 ?_
  refine lv_iload_n C0.1 C0.2.1 dX9_tests_147 rfl (lv_at hl 1 rfl) ?_
  refine lv_iconst (v := 0) C0.1 C0.2.1 dX9_tests_148 kI_0 ?_
  obtain ⟨hb2, hf⟩ := g_some hf
  refine s_iast (f := (upd m_against (Int32.toNatClampNeg v1) 0)) C0 hK hW 21 LY_X9_21 hb2 rfl rfl dX9_tests_149 (fun H locs hW => ?_)
  have hW : wd D (dn cy LY_X9 ad P V (gp I []) (gp J []) (gm A [(18, (upd m_kept (Int32.toNatClampNeg v1) v2)), (21, (upd m_against (Int32.toNatClampNeg v1) 0)), (22, m_sum), (23, m_sumBy), (25, m_termBy)]) (gm B [])) Af s.heap H locs := hW
  refine lv_aload_n C0.1 C0.2.1 dX9_tests_150 rfl (lv_at hl 0 rfl) ?_
  refine s_get (v := .ref (ad 22)) C0 hK hW 0 32 LY_X9_0 rfl fg_X9_75 rfl dX9_tests_151 ?_
  refine lv_iload_n C0.1 C0.2.1 dX9_tests_154 rfl (lv_at hl 1 rfl) ?_
  refine lv_iconst (v := 0) C0.1 C0.2.1 dX9_tests_155 kI_0 ?_
  obtain ⟨hb3, hf⟩ := g_some hf
  refine s_iast (f := (upd m_sum (Int32.toNatClampNeg v1) 0)) C0 hK hW 22 LY_X9_22 hb3 rfl rfl dX9_tests_156 (fun H locs hW => ?_)
  have hW : wd D (dn cy LY_X9 ad P V (gp I []) (gp J []) (gm A [(18, (upd m_kept (Int32.toNatClampNeg v1) v2)), (21, (upd m_against (Int32.toNatClampNeg v1) 0)), (22, (upd m_sum (Int32.toNatClampNeg v1) 0)), (23, m_sumBy), (25, m_termBy)]) (gm B [])) Af s.heap H locs := hW
  refine lv_aload_n C0.1 C0.2.1 dX9_tests_157 rfl (lv_at hl 0 rfl) ?_
  refine s_get (v := .ref (ad 23)) C0 hK hW 0 33 LY_X9_0 rfl fg_X9_78 rfl dX9_tests_158 ?_
  refine lv_iload_n C0.1 C0.2.1 dX9_tests_161 rfl (lv_at hl 1 rfl) ?_
  refine lv_bipush (v := 20) C0.1 C0.2.1 dX9_tests_162 kB_20 ?_
  obtain ⟨hb4, hf⟩ := g_some hf
  refine s_iast (f := (upd m_sumBy (Int32.toNatClampNeg v1) 20)) C0 hK hW 23 LY_X9_23 hb4 rfl rfl dX9_tests_164 (fun H locs hW => ?_)
  have hW : wd D (dn cy LY_X9 ad P V (gp I []) (gp J []) (gm A [(18, (upd m_kept (Int32.toNatClampNeg v1) v2)), (21, (upd m_against (Int32.toNatClampNeg v1) 0)), (22, (upd m_sum (Int32.toNatClampNeg v1) 0)), (23, (upd m_sumBy (Int32.toNatClampNeg v1) 20)), (25, m_termBy)]) (gm B [])) Af s.heap H locs := hW
  obtain rfl := Option.some.inj hf
  exact r_void C0 hK hW dX9_tests_165
def fX9_tests_106 (m_keptBy : (Nat → Int32)) (m_ahead : (Nat → Int32)) (m_term : (Nat → Int32)) (m_kept : (Nat → Int32)) (m_against : (Nat → Int32)) (m_sum : (Nat → Int32)) (m_sumBy : (Nat → Int32)) (m_termBy : (Nat → Int32)) (v1 : Int32) (v2 : Int32) : Option ((Nat → Int32) × (Nat → Int32) × (Nat → Int32) × (Nat → Int32) × (Nat → Int32)) := bif inb v1 7 then (if (m_keptBy (Int32.toNatClampNeg v1)) = 27 then (bif inb v1 7 then (if (m_kept (Int32.toNatClampNeg v1)) = 0 then (if v2 = 0 then (fX9_tests_136 m_keptBy m_ahead m_term m_kept m_against m_sum m_sumBy m_termBy v1 0) else (fX9_tests_136 m_keptBy m_ahead m_term m_kept m_against m_sum m_sumBy m_termBy v1 1)) else (fX9_tests_136 m_keptBy m_ahead m_term m_kept m_against m_sum m_sumBy m_termBy v1 1)) else none) else (fX9_tests_136 m_keptBy m_ahead m_term m_kept m_against m_sum m_sumBy m_termBy v1 v2)) else none
set_option maxHeartbeats 4000000 in
set_option maxRecDepth 100000 in
theorem tX9_tests_106 {p : Program} {l : Launch} {e : Env} {s : State} {m : MethodId} {args : Array Value} {below : List Frame} {meth : Method} {c : Code} {D : va_G} {cy : Nat → ClassId} {ad : Nat → Nat} {P : MP} {V : MV} {I : MI} {J : MJ} {A : MI} {B : MJ} {Af : Nat → Prop} {res : (Nat → Int32) × (Nat → Int32) × (Nat → Int32) × (Nat → Int32) × (Nat → Int32)} (C0 : CX p s m args meth c cX9_tests 3 none RX9) (hK : va_K D vwCl (tyG cy) s) (hN : NWs s) (hA : ∀ q, s.heap.size ≤ q → Af q) : SX9_tests_106 p l e s m args below meth c D cy ad P V I J A B Af res (fX9_tests_106 (A 19) (A 20) (A 24)) := by
  intro m_kept m_against m_sum m_sumBy m_termBy v1 v2 H locs ls hW hl hf
  unfold fX9_tests_106 at hf
  refine lv_aload_n C0.1 C0.2.1 dX9_tests_106 rfl (lv_at hl 0 rfl) ?_
  refine s_get (v := .ref (ad 19)) C0 hK hW 0 29 LY_X9_0 rfl fg_X9_66 rfl dX9_tests_107 ?_
  refine lv_iload_n C0.1 C0.2.1 dX9_tests_110 rfl (lv_at hl 1 rfl) ?_
  obtain ⟨hb1, hf⟩ := g_some hf
  refine s_iald (v := ((A 19) (Int32.toNatClampNeg v1))) C0 hK hW 19 LY_X9_19 hb1 rfl dX9_tests_111 ?_
  refine lv_bipush (v := 27) C0.1 C0.2.1 dX9_tests_112 kB_27 ?_
  refine lv_icmp_ne (tgt := 136) C0.1 C0.2.1 dX9_tests_114 (by decide) (fun hc2 => ?_) (fun hc2 => ?_)
  · have hf := ite_f hc2 hf
    exact tX9_tests_136 C0 hK hN hA  m_kept m_against m_sum m_sumBy m_termBy v1 v2 H locs ls hW hl hf
  · have hf := ite_t hc2 hf
    refine lv_aload_n C0.1 C0.2.1 dX9_tests_117 rfl (lv_at hl 0 rfl) ?_
    refine s_get (v := .ref (ad 18)) C0 hK hW 0 28 LY_X9_0 rfl fg_X9_63 rfl dX9_tests_118 ?_
    refine lv_iload_n C0.1 C0.2.1 dX9_tests_121 rfl (lv_at hl 1 rfl) ?_
    obtain ⟨hb3, hf⟩ := g_some hf
    refine s_iald (v := (m_kept (Int32.toNatClampNeg v1))) C0 hK hW 18 LY_X9_18 hb3 rfl dX9_tests_122 ?_
    refine lv_if_ne (tgt := 130) C0.1 C0.2.1 dX9_tests_123 (by decide) (fun hc4 => ?_) (fun hc4 => ?_)
    · have hf := ite_f hc4 hf
      refine lv_iconst (v := 1) C0.1 C0.2.1 dX9_tests_130 kI_1 ?_
      refine lv_goto (tgt := 135) C0.1 C0.2.1 dX9_tests_131 (by decide) ?_
      refine lv_istore_n (lv' := [(2, .int 1), (0, .ref (ad 0)), (1, .int v1)]) C0.1 C0.2.1 dX9_tests_135 rfl hl (by decide) rfl (fun ls hl => ?_)
      exact tX9_tests_136 C0 hK hN hA  m_kept m_against m_sum m_sumBy m_termBy v1 1 H locs ls hW (lv_sub hl [1, 2, 0] rfl) hf
    · have hf := ite_t hc4 hf
      refine lv_iload_n C0.1 C0.2.1 dX9_tests_126 rfl (lv_at hl 2 rfl) ?_
      refine lv_if_eq (tgt := 134) C0.1 C0.2.1 dX9_tests_127 (by decide) (fun hc5 => ?_) (fun hc5 => ?_)
      · have hf := ite_t hc5 hf
        refine lv_iconst (v := 0) C0.1 C0.2.1 dX9_tests_134 kI_0 ?_
        refine lv_istore_n (lv' := [(2, .int 0), (0, .ref (ad 0)), (1, .int v1)]) C0.1 C0.2.1 dX9_tests_135 rfl hl (by decide) rfl (fun ls hl => ?_)
        exact tX9_tests_136 C0 hK hN hA  m_kept m_against m_sum m_sumBy m_termBy v1 0 H locs ls hW (lv_sub hl [1, 2, 0] rfl) hf
      · have hf := ite_f hc5 hf
        refine lv_iconst (v := 1) C0.1 C0.2.1 dX9_tests_130 kI_1 ?_
        refine lv_goto (tgt := 135) C0.1 C0.2.1 dX9_tests_131 (by decide) ?_
        refine lv_istore_n (lv' := [(2, .int 1), (0, .ref (ad 0)), (1, .int v1)]) C0.1 C0.2.1 dX9_tests_135 rfl hl (by decide) rfl (fun ls hl => ?_)
        exact tX9_tests_136 C0 hK hN hA  m_kept m_against m_sum m_sumBy m_termBy v1 1 H locs ls hW (lv_sub hl [1, 2, 0] rfl) hf
def fX9_tests_76 (m_keptBy : (Nat → Int32)) (m_ahead : (Nat → Int32)) (m_term : (Nat → Int32)) (m_kept : (Nat → Int32)) (m_against : (Nat → Int32)) (m_sum : (Nat → Int32)) (m_sumBy : (Nat → Int32)) (m_termBy : (Nat → Int32)) (v1 : Int32) (v2 : Int32) : Option ((Nat → Int32) × (Nat → Int32) × (Nat → Int32) × (Nat → Int32) × (Nat → Int32)) := bif inb v1 7 then (if (m_keptBy (Int32.toNatClampNeg v1)) = 26 then (bif inb v1 7 then (if (m_kept (Int32.toNatClampNeg v1)) = 0 then (fX9_tests_106 m_keptBy m_ahead m_term m_kept m_against m_sum m_sumBy m_termBy v1 0) else (if v2 = 0 then (fX9_tests_106 m_keptBy m_ahead m_term m_kept m_against m_sum m_sumBy m_termBy v1 0) else (fX9_tests_106 m_keptBy m_ahead m_term m_kept m_against m_sum m_sumBy m_termBy v1 1))) else none) else (fX9_tests_106 m_keptBy m_ahead m_term m_kept m_against m_sum m_sumBy m_termBy v1 v2)) else none
set_option maxHeartbeats 4000000 in
set_option maxRecDepth 100000 in
theorem tX9_tests_76 {p : Program} {l : Launch} {e : Env} {s : State} {m : MethodId} {args : Array Value} {below : List Frame} {meth : Method} {c : Code} {D : va_G} {cy : Nat → ClassId} {ad : Nat → Nat} {P : MP} {V : MV} {I : MI} {J : MJ} {A : MI} {B : MJ} {Af : Nat → Prop} {res : (Nat → Int32) × (Nat → Int32) × (Nat → Int32) × (Nat → Int32) × (Nat → Int32)} (C0 : CX p s m args meth c cX9_tests 3 none RX9) (hK : va_K D vwCl (tyG cy) s) (hN : NWs s) (hA : ∀ q, s.heap.size ≤ q → Af q) : SX9_tests_76 p l e s m args below meth c D cy ad P V I J A B Af res (fX9_tests_76 (A 19) (A 20) (A 24)) := by
  intro m_kept m_against m_sum m_sumBy m_termBy v1 v2 H locs ls hW hl hf
  unfold fX9_tests_76 at hf
  refine lv_aload_n C0.1 C0.2.1 dX9_tests_76 rfl (lv_at hl 0 rfl) ?_
  refine s_get (v := .ref (ad 19)) C0 hK hW 0 29 LY_X9_0 rfl fg_X9_66 rfl dX9_tests_77 ?_
  refine lv_iload_n C0.1 C0.2.1 dX9_tests_80 rfl (lv_at hl 1 rfl) ?_
  obtain ⟨hb1, hf⟩ := g_some hf
  refine s_iald (v := ((A 19) (Int32.toNatClampNeg v1))) C0 hK hW 19 LY_X9_19 hb1 rfl dX9_tests_81 ?_
  refine lv_bipush (v := 26) C0.1 C0.2.1 dX9_tests_82 kB_26 ?_
  refine lv_icmp_ne (tgt := 106) C0.1 C0.2.1 dX9_tests_84 (by decide) (fun hc2 => ?_) (fun hc2 => ?_)
  · have hf := ite_f hc2 hf
    exact tX9_tests_106 C0 hK hN hA  m_kept m_against m_sum m_sumBy m_termBy v1 v2 H locs ls hW hl hf
  · have hf := ite_t hc2 hf
    refine lv_aload_n C0.1 C0.2.1 dX9_tests_87 rfl (lv_at hl 0 rfl) ?_
    refine s_get (v := .ref (ad 18)) C0 hK hW 0 28 LY_X9_0 rfl fg_X9_63 rfl dX9_tests_88 ?_
    refine lv_iload_n C0.1 C0.2.1 dX9_tests_91 rfl (lv_at hl 1 rfl) ?_
    obtain ⟨hb3, hf⟩ := g_some hf
    refine s_iald (v := (m_kept (Int32.toNatClampNeg v1))) C0 hK hW 18 LY_X9_18 hb3 rfl dX9_tests_92 ?_
    refine lv_if_eq (tgt := 104) C0.1 C0.2.1 dX9_tests_93 (by decide) (fun hc4 => ?_) (fun hc4 => ?_)
    · have hf := ite_t hc4 hf
      refine lv_iconst (v := 0) C0.1 C0.2.1 dX9_tests_104 kI_0 ?_
      refine lv_istore_n (lv' := [(2, .int 0), (0, .ref (ad 0)), (1, .int v1)]) C0.1 C0.2.1 dX9_tests_105 rfl hl (by decide) rfl (fun ls hl => ?_)
      exact tX9_tests_106 C0 hK hN hA  m_kept m_against m_sum m_sumBy m_termBy v1 0 H locs ls hW (lv_sub hl [1, 2, 0] rfl) hf
    · have hf := ite_f hc4 hf
      refine lv_iload_n C0.1 C0.2.1 dX9_tests_96 rfl (lv_at hl 2 rfl) ?_
      refine lv_if_eq (tgt := 104) C0.1 C0.2.1 dX9_tests_97 (by decide) (fun hc5 => ?_) (fun hc5 => ?_)
      · have hf := ite_t hc5 hf
        refine lv_iconst (v := 0) C0.1 C0.2.1 dX9_tests_104 kI_0 ?_
        refine lv_istore_n (lv' := [(2, .int 0), (0, .ref (ad 0)), (1, .int v1)]) C0.1 C0.2.1 dX9_tests_105 rfl hl (by decide) rfl (fun ls hl => ?_)
        exact tX9_tests_106 C0 hK hN hA  m_kept m_against m_sum m_sumBy m_termBy v1 0 H locs ls hW (lv_sub hl [1, 2, 0] rfl) hf
      · have hf := ite_f hc5 hf
        refine lv_iconst (v := 1) C0.1 C0.2.1 dX9_tests_100 kI_1 ?_
        refine lv_goto (tgt := 105) C0.1 C0.2.1 dX9_tests_101 (by decide) ?_
        refine lv_istore_n (lv' := [(2, .int 1), (0, .ref (ad 0)), (1, .int v1)]) C0.1 C0.2.1 dX9_tests_105 rfl hl (by decide) rfl (fun ls hl => ?_)
        exact tX9_tests_106 C0 hK hN hA  m_kept m_against m_sum m_sumBy m_termBy v1 1 H locs ls hW (lv_sub hl [1, 2, 0] rfl) hf
def fX9_tests_44 (m_keptBy : (Nat → Int32)) (m_ahead : (Nat → Int32)) (m_term : (Nat → Int32)) (m_kept : (Nat → Int32)) (m_against : (Nat → Int32)) (m_sum : (Nat → Int32)) (m_sumBy : (Nat → Int32)) (m_termBy : (Nat → Int32)) (v1 : Int32) (v2 : Int32) : Option ((Nat → Int32) × (Nat → Int32) × (Nat → Int32) × (Nat → Int32) × (Nat → Int32)) := bif inb v1 7 then (if (m_against (Int32.toNatClampNeg v1)) = 25 then (bif inb v1 7 then (bif inb v1 7 then (if (m_ahead (Int32.toNatClampNeg v1)) = (m_sum (Int32.toNatClampNeg v1)) then (fX9_tests_76 m_keptBy m_ahead m_term m_kept m_against m_sum m_sumBy m_termBy v1 1) else (fX9_tests_76 m_keptBy m_ahead m_term m_kept m_against m_sum m_sumBy m_termBy v1 0)) else none) else none) else (fX9_tests_76 m_keptBy m_ahead m_term m_kept m_against m_sum m_sumBy m_termBy v1 v2)) else none
set_option maxHeartbeats 4000000 in
set_option maxRecDepth 100000 in
theorem tX9_tests_44 {p : Program} {l : Launch} {e : Env} {s : State} {m : MethodId} {args : Array Value} {below : List Frame} {meth : Method} {c : Code} {D : va_G} {cy : Nat → ClassId} {ad : Nat → Nat} {P : MP} {V : MV} {I : MI} {J : MJ} {A : MI} {B : MJ} {Af : Nat → Prop} {res : (Nat → Int32) × (Nat → Int32) × (Nat → Int32) × (Nat → Int32) × (Nat → Int32)} (C0 : CX p s m args meth c cX9_tests 3 none RX9) (hK : va_K D vwCl (tyG cy) s) (hN : NWs s) (hA : ∀ q, s.heap.size ≤ q → Af q) : SX9_tests_44 p l e s m args below meth c D cy ad P V I J A B Af res (fX9_tests_44 (A 19) (A 20) (A 24)) := by
  intro m_kept m_against m_sum m_sumBy m_termBy v1 v2 H locs ls hW hl hf
  unfold fX9_tests_44 at hf
  refine lv_aload_n C0.1 C0.2.1 dX9_tests_44 rfl (lv_at hl 0 rfl) ?_
  refine s_get (v := .ref (ad 21)) C0 hK hW 0 31 LY_X9_0 rfl fg_X9_72 rfl dX9_tests_45 ?_
  refine lv_iload_n C0.1 C0.2.1 dX9_tests_48 rfl (lv_at hl 1 rfl) ?_
  obtain ⟨hb1, hf⟩ := g_some hf
  refine s_iald (v := (m_against (Int32.toNatClampNeg v1))) C0 hK hW 21 LY_X9_21 hb1 rfl dX9_tests_49 ?_
  refine lv_bipush (v := 25) C0.1 C0.2.1 dX9_tests_50 kB_25 ?_
  refine lv_icmp_ne (tgt := 76) C0.1 C0.2.1 dX9_tests_52 (by decide) (fun hc2 => ?_) (fun hc2 => ?_)
  · have hf := ite_f hc2 hf
    exact tX9_tests_76 C0 hK hN hA  m_kept m_against m_sum m_sumBy m_termBy v1 v2 H locs ls hW hl hf
  · have hf := ite_t hc2 hf
    refine lv_aload_n C0.1 C0.2.1 dX9_tests_55 rfl (lv_at hl 0 rfl) ?_
    refine s_get (v := .ref (ad 20)) C0 hK hW 0 30 LY_X9_0 rfl fg_X9_69 rfl dX9_tests_56 ?_
    refine lv_iload_n C0.1 C0.2.1 dX9_tests_59 rfl (lv_at hl 1 rfl) ?_
    obtain ⟨hb3, hf⟩ := g_some hf
    refine s_iald (v := ((A 20) (Int32.toNatClampNeg v1))) C0 hK hW 20 LY_X9_20 hb3 rfl dX9_tests_60 ?_
    refine lv_aload_n C0.1 C0.2.1 dX9_tests_61 rfl (lv_at hl 0 rfl) ?_
    refine s_get (v := .ref (ad 22)) C0 hK hW 0 32 LY_X9_0 rfl fg_X9_75 rfl dX9_tests_62 ?_
    refine lv_iload_n C0.1 C0.2.1 dX9_tests_65 rfl (lv_at hl 1 rfl) ?_
    obtain ⟨hb4, hf⟩ := g_some hf
    refine s_iald (v := (m_sum (Int32.toNatClampNeg v1))) C0 hK hW 22 LY_X9_22 hb4 rfl dX9_tests_66 ?_
    refine lv_icmp_ne (tgt := 74) C0.1 C0.2.1 dX9_tests_67 (by decide) (fun hc5 => ?_) (fun hc5 => ?_)
    · have hf := ite_f hc5 hf
      refine lv_iconst (v := 0) C0.1 C0.2.1 dX9_tests_74 kI_0 ?_
      refine lv_istore_n (lv' := [(2, .int 0), (0, .ref (ad 0)), (1, .int v1)]) C0.1 C0.2.1 dX9_tests_75 rfl hl (by decide) rfl (fun ls hl => ?_)
      exact tX9_tests_76 C0 hK hN hA  m_kept m_against m_sum m_sumBy m_termBy v1 0 H locs ls hW (lv_sub hl [1, 2, 0] rfl) hf
    · have hf := ite_t hc5 hf
      refine lv_iconst (v := 1) C0.1 C0.2.1 dX9_tests_70 kI_1 ?_
      refine lv_goto (tgt := 75) C0.1 C0.2.1 dX9_tests_71 (by decide) ?_
      refine lv_istore_n (lv' := [(2, .int 1), (0, .ref (ad 0)), (1, .int v1)]) C0.1 C0.2.1 dX9_tests_75 rfl hl (by decide) rfl (fun ls hl => ?_)
      exact tX9_tests_76 C0 hK hN hA  m_kept m_against m_sum m_sumBy m_termBy v1 1 H locs ls hW (lv_sub hl [1, 2, 0] rfl) hf
def fX9_tests (m_keptBy : (Nat → Int32)) (m_ahead : (Nat → Int32)) (m_term : (Nat → Int32)) (m_kept : (Nat → Int32)) (m_against : (Nat → Int32)) (m_sum : (Nat → Int32)) (m_sumBy : (Nat → Int32)) (m_termBy : (Nat → Int32)) (v1 : Int32) : Option ((Nat → Int32) × (Nat → Int32) × (Nat → Int32) × (Nat → Int32) × (Nat → Int32)) := Option.bind (fX9_sums m_sumBy m_term m_sum m_termBy v1) fun y1 => (bif inb v1 7 then (bif inb v1 7 then (if (m_against (Int32.toNatClampNeg v1)) = 24 then (bif inb v1 7 then (bif inb v1 7 then (if (y1.1 (Int32.toNatClampNeg v1)) ≤ (m_ahead (Int32.toNatClampNeg v1)) then (fX9_tests_44 m_keptBy m_ahead m_term m_kept m_against y1.1 m_sumBy y1.2 v1 0) else (fX9_tests_44 m_keptBy m_ahead m_term m_kept m_against y1.1 m_sumBy y1.2 v1 1)) else none) else none) else (fX9_tests_44 m_keptBy m_ahead m_term m_kept m_against y1.1 m_sumBy y1.2 v1 (y1.1 (Int32.toNatClampNeg v1)))) else none) else none)
set_option maxHeartbeats 4000000 in
set_option maxRecDepth 100000 in
theorem KX9_tests (l : Launch) (D : va_G) (cy : Nat → ClassId) (ad : Nat → Nat) (P : MP) (V : MV) (I : MI) (J : MJ) (A : MI) (B : MJ) (v1 : Int32) {res : (Nat → Int32) × (Nat → Int32) × (Nat → Int32) × (Nat → Int32) × (Nat → Int32)} (hf : fX9_tests (A 19) (A 20) (A 24) (A 18) (A 21) (A 22) (A 23) (A 25) v1 = some res) : CG l yX9_tests cX9_tests 3 none rmX9_tests D cy (dn cy LY_X9 ad P V I J A B) [.ref (ad 0), .int v1] none (dn cy LY_X9 ad P V (gp I []) (gp J []) (gm A [(18, res.1), (21, res.2.1), (22, res.2.2.1), (23, res.2.2.2.1), (25, res.2.2.2.2)]) (gm B [])) := by
  refine CG.of (own := RX9) (by decide) rfl rfl ?_
  intro p e s m below meth c ls Af C0 hK hN hA hW hl
  have hW : wd D (dn cy LY_X9 ad P V (gp I []) (gp J []) (gm A [(18, (A 18)), (21, (A 21)), (22, (A 22)), (23, (A 23)), (25, (A 25))]) (gm B [])) Af s.heap s.heap [] := wd_sel [] [] [18, 21, 22, 23, 25] [] hW
  have hl : lv_has ls 3 [(0, .ref (ad 0)), (1, .int v1)] := hl
  unfold fX9_tests at hf
  refine lv_aload_n C0.1 C0.2.1 dX9_tests_0 rfl (lv_at hl 0 rfl) ?_
  refine lv_iload_n C0.1 C0.2.1 dX9_tests_1 rfl (lv_at hl 1 rfl) ?_
  obtain ⟨y1, hy1, hf⟩ := b_some hf
  refine c_Vv C0 hK hN hl.1 hW hA (KX9_sums l D cy  ad P V (gp I []) (gp J []) (gm A [(18, (A 18)), (21, (A 21)), (22, (A 22)), (23, (A 23)), (25, (A 25))]) (gm B []) v1 hy1) (JN_id rfl rfl rfl rfl) (Uw_V uw_1451 uw_1453 us_73 uw_14 uw_1454) rfl rfl hd_X9_sums ⟨rfl, rfl⟩ rfl (dn_some LY_X9_0) rfl rfl rfl dX9_tests_2 ⟨Nat.zero_le _, Nat.zero_le _⟩ (fun H locs hW => ?_)
  have hW : wd D (dn cy LY_X9 ad P V (gp I []) (gp J []) (gm A [(18, (A 18)), (21, (A 21)), (22, y1.1), (23, (A 23)), (25, y1.2)]) (gm B [])) Af s.heap H locs := hW
  refine lv_aload_n C0.1 C0.2.1 dX9_tests_5 rfl (lv_at hl 0 rfl) ?_
  refine s_get (v := .ref (ad 22)) C0 hK hW 0 32 LY_X9_0 rfl fg_X9_75 rfl dX9_tests_6 ?_
  refine lv_iload_n C0.1 C0.2.1 dX9_tests_9 rfl (lv_at hl 1 rfl) ?_
  obtain ⟨hb2, hf⟩ := g_some hf
  refine s_iald (v := (y1.1 (Int32.toNatClampNeg v1))) C0 hK hW 22 LY_X9_22 hb2 rfl dX9_tests_10 ?_
  refine lv_istore_n (lv' := [(2, .int (y1.1 (Int32.toNatClampNeg v1))), (0, .ref (ad 0)), (1, .int v1)]) C0.1 C0.2.1 dX9_tests_11 rfl hl (by decide) rfl (fun ls hl => ?_)
  refine lv_aload_n C0.1 C0.2.1 dX9_tests_12 rfl (lv_at hl 1 rfl) ?_
  refine s_get (v := .ref (ad 21)) C0 hK hW 0 31 LY_X9_0 rfl fg_X9_72 rfl dX9_tests_13 ?_
  refine lv_iload_n C0.1 C0.2.1 dX9_tests_16 rfl (lv_at hl 2 rfl) ?_
  obtain ⟨hb3, hf⟩ := g_some hf
  refine s_iald (v := ((A 21) (Int32.toNatClampNeg v1))) C0 hK hW 21 LY_X9_21 hb3 rfl dX9_tests_17 ?_
  refine lv_bipush (v := 24) C0.1 C0.2.1 dX9_tests_18 kB_24 ?_
  refine lv_icmp_ne (tgt := 44) C0.1 C0.2.1 dX9_tests_20 (by decide) (fun hc4 => ?_) (fun hc4 => ?_)
  · have hf := ite_f hc4 hf
    exact tX9_tests_44 C0 hK hN hA  (A 18) (A 21) y1.1 (A 23) y1.2 v1 (y1.1 (Int32.toNatClampNeg v1)) _ _ ls hW (lv_sub hl [1, 2, 0] rfl) hf
  · have hf := ite_t hc4 hf
    refine lv_aload_n C0.1 C0.2.1 dX9_tests_23 rfl (lv_at hl 1 rfl) ?_
    refine s_get (v := .ref (ad 20)) C0 hK hW 0 30 LY_X9_0 rfl fg_X9_69 rfl dX9_tests_24 ?_
    refine lv_iload_n C0.1 C0.2.1 dX9_tests_27 rfl (lv_at hl 2 rfl) ?_
    obtain ⟨hb5, hf⟩ := g_some hf
    refine s_iald (v := ((A 20) (Int32.toNatClampNeg v1))) C0 hK hW 20 LY_X9_20 hb5 rfl dX9_tests_28 ?_
    refine lv_aload_n C0.1 C0.2.1 dX9_tests_29 rfl (lv_at hl 1 rfl) ?_
    refine s_get (v := .ref (ad 22)) C0 hK hW 0 32 LY_X9_0 rfl fg_X9_75 rfl dX9_tests_30 ?_
    refine lv_iload_n C0.1 C0.2.1 dX9_tests_33 rfl (lv_at hl 2 rfl) ?_
    obtain ⟨hb6, hf⟩ := g_some hf
    refine s_iald (v := (y1.1 (Int32.toNatClampNeg v1))) C0 hK hW 22 LY_X9_22 hb6 rfl dX9_tests_34 ?_
    refine lv_icmp_ge (tgt := 42) C0.1 C0.2.1 dX9_tests_35 (by decide) (fun hc7 => ?_) (fun hc7 => ?_)
    · have hf := ite_t hc7 hf
      refine lv_iconst (v := 0) C0.1 C0.2.1 dX9_tests_42 kI_0 ?_
      refine lv_istore_n (lv' := [(2, .int 0), (0, .ref (ad 0)), (1, .int v1)]) C0.1 C0.2.1 dX9_tests_43 rfl hl (by decide) rfl (fun ls hl => ?_)
      exact tX9_tests_44 C0 hK hN hA  (A 18) (A 21) y1.1 (A 23) y1.2 v1 0 _ _ ls hW (lv_sub hl [1, 2, 0] rfl) hf
    · have hf := ite_f hc7 hf
      refine lv_iconst (v := 1) C0.1 C0.2.1 dX9_tests_38 kI_1 ?_
      refine lv_goto (tgt := 43) C0.1 C0.2.1 dX9_tests_39 (by decide) ?_
      refine lv_istore_n (lv' := [(2, .int 1), (0, .ref (ad 0)), (1, .int v1)]) C0.1 C0.2.1 dX9_tests_43 rfl hl (by decide) rfl (fun ls hl => ?_)
      exact tX9_tests_44 C0 hK hN hA  (A 18) (A 21) y1.1 (A 23) y1.2 v1 1 _ _ ls hW (lv_sub hl [1, 2, 0] rfl) hf
-- X9_worked
def rmX9_worked : Room := { frames := 3, cells := 0, slots := 0, locals := 64 }
def SX9_worked_66 (p : Program) (l : Launch) (e : Env) (s : State) (m : MethodId) (args : Array Value) (below : List Frame) (meth : Method) (c : Code) (D : va_G) (cy : Nat → ClassId) (ad : Nat → Nat) (P : MP) (V : MV) (I : MI) (J : MJ) (A : MI) (B : MJ) (Af : Nat → Prop) (res : Int32 × (Nat → Int32) × (Nat → Int32) × (Nat → Int32) × (Nat → Int32) × (Nat → Int32) × (Nat → Int32) × (Nat → Int32) × (Nat → Int32) × (Nat → Int32)) (k : (Nat → Int32) → (Nat → Int32) → (Nat → Int32) → (Nat → Int32) → (Nat → Int32) → (Nat → Int32) → (Nat → Int32) → (Nat → Int32) → (Nat → Int32) → Int32 → Int32 → Int32 → Int32 → Int32 → Option (Int32 × (Nat → Int32) × (Nat → Int32) × (Nat → Int32) × (Nat → Int32) × (Nat → Int32) × (Nat → Int32) × (Nat → Int32) × (Nat → Int32) × (Nat → Int32))) : Prop := ∀ (m_kept : (Nat → Int32)) (m_keptBy : (Nat → Int32)) (m_ahead : (Nat → Int32)) (m_against : (Nat → Int32)) (m_sum : (Nat → Int32)) (m_sumBy : (Nat → Int32)) (m_term : (Nat → Int32)) (m_termBy : (Nat → Int32)) (m_byNot : (Nat → Int32)) (v1 : Int32) (v2 : Int32) (v3 : Int32) (x0 : Int32) (x1 : Int32) (H : Heap) (locs : List Loc) (ls : Array Slot), wd D (dn cy LY_X9 ad P V (gp I []) (gp J []) (gm A [(18, m_kept), (19, m_keptBy), (20, m_ahead), (21, m_against), (22, m_sum), (23, m_sumBy), (24, m_term), (25, m_termBy), (26, m_byNot)]) (gm B [])) Af s.heap H locs → lv_has ls 6 [(0, .ref (ad 0)), (1, .int v1), (2, .int v2), (3, .int v3)] → k m_kept m_keptBy m_ahead m_against m_sum m_sumBy m_term m_termBy m_byNot v1 v2 v3 x0 x1 = some res → W p l e rmX9_worked s m args below meth c H locs 0 0 (ZQ below D cy (dn cy LY_X9 ad P V (gp I []) (gp J []) (gm A [(18, res.2.1), (19, res.2.2.1), (20, res.2.2.2.1), (21, res.2.2.2.2.1), (22, res.2.2.2.2.2.1), (23, res.2.2.2.2.2.2.1), (24, res.2.2.2.2.2.2.2.1), (25, res.2.2.2.2.2.2.2.2.1), (26, res.2.2.2.2.2.2.2.2.2)]) (gm B [])) (some (.int res.1)) Af args s) (F0 m 66 ls [.int x0, .int x1, .ref (ad 26)])
def SX9_worked_46 (p : Program) (l : Launch) (e : Env) (s : State) (m : MethodId) (args : Array Value) (below : List Frame) (meth : Method) (c : Code) (D : va_G) (cy : Nat → ClassId) (ad : Nat → Nat) (P : MP) (V : MV) (I : MI) (J : MJ) (A : MI) (B : MJ) (Af : Nat → Prop) (res : Int32 × (Nat → Int32) × (Nat → Int32) × (Nat → Int32) × (Nat → Int32) × (Nat → Int32) × (Nat → Int32) × (Nat → Int32) × (Nat → Int32) × (Nat → Int32)) (k : (Nat → Int32) → (Nat → Int32) → (Nat → Int32) → (Nat → Int32) → (Nat → Int32) → (Nat → Int32) → (Nat → Int32) → (Nat → Int32) → (Nat → Int32) → Int32 → Int32 → Int32 → Int32 → Option (Int32 × (Nat → Int32) × (Nat → Int32) × (Nat → Int32) × (Nat → Int32) × (Nat → Int32) × (Nat → Int32) × (Nat → Int32) × (Nat → Int32) × (Nat → Int32))) : Prop := ∀ (m_kept : (Nat → Int32)) (m_keptBy : (Nat → Int32)) (m_ahead : (Nat → Int32)) (m_against : (Nat → Int32)) (m_sum : (Nat → Int32)) (m_sumBy : (Nat → Int32)) (m_term : (Nat → Int32)) (m_termBy : (Nat → Int32)) (m_byNot : (Nat → Int32)) (v1 : Int32) (v2 : Int32) (v3 : Int32) (v4 : Int32) (H : Heap) (locs : List Loc) (ls : Array Slot), wd D (dn cy LY_X9 ad P V (gp I []) (gp J []) (gm A [(18, m_kept), (19, m_keptBy), (20, m_ahead), (21, m_against), (22, m_sum), (23, m_sumBy), (24, m_term), (25, m_termBy), (26, m_byNot)]) (gm B [])) Af s.heap H locs → lv_has ls 6 [(0, .ref (ad 0)), (1, .int v1), (2, .int v2), (3, .int v3), (4, .int v4)] → k m_kept m_keptBy m_ahead m_against m_sum m_sumBy m_term m_termBy m_byNot v1 v2 v3 v4 = some res → W p l e rmX9_worked s m args below meth c H locs 0 0 (ZQ below D cy (dn cy LY_X9 ad P V (gp I []) (gp J []) (gm A [(18, res.2.1), (19, res.2.2.1), (20, res.2.2.2.1), (21, res.2.2.2.2.1), (22, res.2.2.2.2.2.1), (23, res.2.2.2.2.2.2.1), (24, res.2.2.2.2.2.2.2.1), (25, res.2.2.2.2.2.2.2.2.1), (26, res.2.2.2.2.2.2.2.2.2)]) (gm B [])) (some (.int res.1)) Af args s) (F0 m 46 ls [])
def SX9_worked_89 (p : Program) (l : Launch) (e : Env) (s : State) (m : MethodId) (args : Array Value) (below : List Frame) (meth : Method) (c : Code) (D : va_G) (cy : Nat → ClassId) (ad : Nat → Nat) (P : MP) (V : MV) (I : MI) (J : MJ) (A : MI) (B : MJ) (Af : Nat → Prop) (res : Int32 × (Nat → Int32) × (Nat → Int32) × (Nat → Int32) × (Nat → Int32) × (Nat → Int32) × (Nat → Int32) × (Nat → Int32) × (Nat → Int32) × (Nat → Int32)) (k : (Nat → Int32) → (Nat → Int32) → (Nat → Int32) → (Nat → Int32) → (Nat → Int32) → (Nat → Int32) → (Nat → Int32) → (Nat → Int32) → (Nat → Int32) → Int32 → Int32 → Int32 → Int32 → Option (Int32 × (Nat → Int32) × (Nat → Int32) × (Nat → Int32) × (Nat → Int32) × (Nat → Int32) × (Nat → Int32) × (Nat → Int32) × (Nat → Int32) × (Nat → Int32))) : Prop := ∀ (m_kept : (Nat → Int32)) (m_keptBy : (Nat → Int32)) (m_ahead : (Nat → Int32)) (m_against : (Nat → Int32)) (m_sum : (Nat → Int32)) (m_sumBy : (Nat → Int32)) (m_term : (Nat → Int32)) (m_termBy : (Nat → Int32)) (m_byNot : (Nat → Int32)) (v1 : Int32) (v2 : Int32) (v3 : Int32) (v4 : Int32) (H : Heap) (locs : List Loc) (ls : Array Slot), wd D (dn cy LY_X9 ad P V (gp I []) (gp J []) (gm A [(18, m_kept), (19, m_keptBy), (20, m_ahead), (21, m_against), (22, m_sum), (23, m_sumBy), (24, m_term), (25, m_termBy), (26, m_byNot)]) (gm B [])) Af s.heap H locs → lv_has ls 6 [(0, .ref (ad 0)), (1, .int v1), (2, .int v2), (3, .int v3), (4, .int v4)] → k m_kept m_keptBy m_ahead m_against m_sum m_sumBy m_term m_termBy m_byNot v1 v2 v3 v4 = some res → W p l e rmX9_worked s m args below meth c H locs 0 0 (ZQ below D cy (dn cy LY_X9 ad P V (gp I []) (gp J []) (gm A [(18, res.2.1), (19, res.2.2.1), (20, res.2.2.2.1), (21, res.2.2.2.2.1), (22, res.2.2.2.2.2.1), (23, res.2.2.2.2.2.2.1), (24, res.2.2.2.2.2.2.2.1), (25, res.2.2.2.2.2.2.2.2.1), (26, res.2.2.2.2.2.2.2.2.2)]) (gm B [])) (some (.int res.1)) Af args s) (F0 m 89 ls [])
def SX9_worked_137 (p : Program) (l : Launch) (e : Env) (s : State) (m : MethodId) (args : Array Value) (below : List Frame) (meth : Method) (c : Code) (D : va_G) (cy : Nat → ClassId) (ad : Nat → Nat) (P : MP) (V : MV) (I : MI) (J : MJ) (A : MI) (B : MJ) (Af : Nat → Prop) (res : Int32 × (Nat → Int32) × (Nat → Int32) × (Nat → Int32) × (Nat → Int32) × (Nat → Int32) × (Nat → Int32) × (Nat → Int32) × (Nat → Int32) × (Nat → Int32)) (k : (Nat → Int32) → (Nat → Int32) → (Nat → Int32) → (Nat → Int32) → (Nat → Int32) → (Nat → Int32) → (Nat → Int32) → (Nat → Int32) → (Nat → Int32) → Int32 → Int32 → Int32 → Int32 → Option (Int32 × (Nat → Int32) × (Nat → Int32) × (Nat → Int32) × (Nat → Int32) × (Nat → Int32) × (Nat → Int32) × (Nat → Int32) × (Nat → Int32) × (Nat → Int32))) : Prop := ∀ (m_kept : (Nat → Int32)) (m_keptBy : (Nat → Int32)) (m_ahead : (Nat → Int32)) (m_against : (Nat → Int32)) (m_sum : (Nat → Int32)) (m_sumBy : (Nat → Int32)) (m_term : (Nat → Int32)) (m_termBy : (Nat → Int32)) (m_byNot : (Nat → Int32)) (v1 : Int32) (v2 : Int32) (v3 : Int32) (v4 : Int32) (H : Heap) (locs : List Loc) (ls : Array Slot), wd D (dn cy LY_X9 ad P V (gp I []) (gp J []) (gm A [(18, m_kept), (19, m_keptBy), (20, m_ahead), (21, m_against), (22, m_sum), (23, m_sumBy), (24, m_term), (25, m_termBy), (26, m_byNot)]) (gm B [])) Af s.heap H locs → lv_has ls 6 [(0, .ref (ad 0)), (1, .int v1), (2, .int v2), (3, .int v3), (4, .int v4)] → k m_kept m_keptBy m_ahead m_against m_sum m_sumBy m_term m_termBy m_byNot v1 v2 v3 v4 = some res → W p l e rmX9_worked s m args below meth c H locs 0 0 (ZQ below D cy (dn cy LY_X9 ad P V (gp I []) (gp J []) (gm A [(18, res.2.1), (19, res.2.2.1), (20, res.2.2.2.1), (21, res.2.2.2.2.1), (22, res.2.2.2.2.2.1), (23, res.2.2.2.2.2.2.1), (24, res.2.2.2.2.2.2.2.1), (25, res.2.2.2.2.2.2.2.2.1), (26, res.2.2.2.2.2.2.2.2.2)]) (gm B [])) (some (.int res.1)) Af args s) (F0 m 137 ls [])
def SX9_worked_194 (p : Program) (l : Launch) (e : Env) (s : State) (m : MethodId) (args : Array Value) (below : List Frame) (meth : Method) (c : Code) (D : va_G) (cy : Nat → ClassId) (ad : Nat → Nat) (P : MP) (V : MV) (I : MI) (J : MJ) (A : MI) (B : MJ) (Af : Nat → Prop) (res : Int32 × (Nat → Int32) × (Nat → Int32) × (Nat → Int32) × (Nat → Int32) × (Nat → Int32) × (Nat → Int32) × (Nat → Int32) × (Nat → Int32) × (Nat → Int32)) (k : (Nat → Int32) → (Nat → Int32) → (Nat → Int32) → (Nat → Int32) → (Nat → Int32) → (Nat → Int32) → (Nat → Int32) → (Nat → Int32) → (Nat → Int32) → Int32 → Int32 → Int32 → Int32 → Option (Int32 × (Nat → Int32) × (Nat → Int32) × (Nat → Int32) × (Nat → Int32) × (Nat → Int32) × (Nat → Int32) × (Nat → Int32) × (Nat → Int32) × (Nat → Int32))) : Prop := ∀ (m_kept : (Nat → Int32)) (m_keptBy : (Nat → Int32)) (m_ahead : (Nat → Int32)) (m_against : (Nat → Int32)) (m_sum : (Nat → Int32)) (m_sumBy : (Nat → Int32)) (m_term : (Nat → Int32)) (m_termBy : (Nat → Int32)) (m_byNot : (Nat → Int32)) (v1 : Int32) (v2 : Int32) (v3 : Int32) (v4 : Int32) (H : Heap) (locs : List Loc) (ls : Array Slot), wd D (dn cy LY_X9 ad P V (gp I []) (gp J []) (gm A [(18, m_kept), (19, m_keptBy), (20, m_ahead), (21, m_against), (22, m_sum), (23, m_sumBy), (24, m_term), (25, m_termBy), (26, m_byNot)]) (gm B [])) Af s.heap H locs → lv_has ls 6 [(0, .ref (ad 0)), (1, .int v1), (2, .int v2), (3, .int v3), (4, .int v4)] → k m_kept m_keptBy m_ahead m_against m_sum m_sumBy m_term m_termBy m_byNot v1 v2 v3 v4 = some res → W p l e rmX9_worked s m args below meth c H locs 0 0 (ZQ below D cy (dn cy LY_X9 ad P V (gp I []) (gp J []) (gm A [(18, res.2.1), (19, res.2.2.1), (20, res.2.2.2.1), (21, res.2.2.2.2.1), (22, res.2.2.2.2.2.1), (23, res.2.2.2.2.2.2.1), (24, res.2.2.2.2.2.2.2.1), (25, res.2.2.2.2.2.2.2.2.1), (26, res.2.2.2.2.2.2.2.2.2)]) (gm B [])) (some (.int res.1)) Af args s) (F0 m 194 ls [])
def SX9_worked_300 (p : Program) (l : Launch) (e : Env) (s : State) (m : MethodId) (args : Array Value) (below : List Frame) (meth : Method) (c : Code) (D : va_G) (cy : Nat → ClassId) (ad : Nat → Nat) (P : MP) (V : MV) (I : MI) (J : MJ) (A : MI) (B : MJ) (Af : Nat → Prop) (res : Int32 × (Nat → Int32) × (Nat → Int32) × (Nat → Int32) × (Nat → Int32) × (Nat → Int32) × (Nat → Int32) × (Nat → Int32) × (Nat → Int32) × (Nat → Int32)) (k : (Nat → Int32) → (Nat → Int32) → (Nat → Int32) → (Nat → Int32) → (Nat → Int32) → (Nat → Int32) → (Nat → Int32) → (Nat → Int32) → (Nat → Int32) → Int32 → Int32 → Int32 → Int32 → Option (Int32 × (Nat → Int32) × (Nat → Int32) × (Nat → Int32) × (Nat → Int32) × (Nat → Int32) × (Nat → Int32) × (Nat → Int32) × (Nat → Int32) × (Nat → Int32))) : Prop := ∀ (m_kept : (Nat → Int32)) (m_keptBy : (Nat → Int32)) (m_ahead : (Nat → Int32)) (m_against : (Nat → Int32)) (m_sum : (Nat → Int32)) (m_sumBy : (Nat → Int32)) (m_term : (Nat → Int32)) (m_termBy : (Nat → Int32)) (m_byNot : (Nat → Int32)) (v1 : Int32) (v2 : Int32) (v3 : Int32) (v5 : Int32) (H : Heap) (locs : List Loc) (ls : Array Slot), wd D (dn cy LY_X9 ad P V (gp I []) (gp J []) (gm A [(18, m_kept), (19, m_keptBy), (20, m_ahead), (21, m_against), (22, m_sum), (23, m_sumBy), (24, m_term), (25, m_termBy), (26, m_byNot)]) (gm B [])) Af s.heap H locs → lv_has ls 6 [(0, .ref (ad 0)), (1, .int v1), (2, .int v2), (3, .int v3), (5, .int v5)] → k m_kept m_keptBy m_ahead m_against m_sum m_sumBy m_term m_termBy m_byNot v1 v2 v3 v5 = some res → W p l e rmX9_worked s m args below meth c H locs 0 0 (ZQ below D cy (dn cy LY_X9 ad P V (gp I []) (gp J []) (gm A [(18, res.2.1), (19, res.2.2.1), (20, res.2.2.2.1), (21, res.2.2.2.2.1), (22, res.2.2.2.2.2.1), (23, res.2.2.2.2.2.2.1), (24, res.2.2.2.2.2.2.2.1), (25, res.2.2.2.2.2.2.2.2.1), (26, res.2.2.2.2.2.2.2.2.2)]) (gm B [])) (some (.int res.1)) Af args s) (F0 m 300 ls [])
def SX9_worked_268 (p : Program) (l : Launch) (e : Env) (s : State) (m : MethodId) (args : Array Value) (below : List Frame) (meth : Method) (c : Code) (D : va_G) (cy : Nat → ClassId) (ad : Nat → Nat) (P : MP) (V : MV) (I : MI) (J : MJ) (A : MI) (B : MJ) (Af : Nat → Prop) (res : Int32 × (Nat → Int32) × (Nat → Int32) × (Nat → Int32) × (Nat → Int32) × (Nat → Int32) × (Nat → Int32) × (Nat → Int32) × (Nat → Int32) × (Nat → Int32)) (k : (Nat → Int32) → (Nat → Int32) → (Nat → Int32) → (Nat → Int32) → (Nat → Int32) → (Nat → Int32) → (Nat → Int32) → (Nat → Int32) → (Nat → Int32) → Int32 → Int32 → Int32 → Int32 → Option (Int32 × (Nat → Int32) × (Nat → Int32) × (Nat → Int32) × (Nat → Int32) × (Nat → Int32) × (Nat → Int32) × (Nat → Int32) × (Nat → Int32) × (Nat → Int32))) : Prop := ∀ (m_kept : (Nat → Int32)) (m_keptBy : (Nat → Int32)) (m_ahead : (Nat → Int32)) (m_against : (Nat → Int32)) (m_sum : (Nat → Int32)) (m_sumBy : (Nat → Int32)) (m_term : (Nat → Int32)) (m_termBy : (Nat → Int32)) (m_byNot : (Nat → Int32)) (v1 : Int32) (v2 : Int32) (v3 : Int32) (v5 : Int32) (H : Heap) (locs : List Loc) (ls : Array Slot), wd D (dn cy LY_X9 ad P V (gp I []) (gp J []) (gm A [(18, m_kept), (19, m_keptBy), (20, m_ahead), (21, m_against), (22, m_sum), (23, m_sumBy), (24, m_term), (25, m_termBy), (26, m_byNot)]) (gm B [])) Af s.heap H locs → lv_has ls 6 [(0, .ref (ad 0)), (1, .int v1), (2, .int v2), (3, .int v3), (5, .int v5)] → k m_kept m_keptBy m_ahead m_against m_sum m_sumBy m_term m_termBy m_byNot v1 v2 v3 v5 = some res → W p l e rmX9_worked s m args below meth c H locs 0 0 (ZQ below D cy (dn cy LY_X9 ad P V (gp I []) (gp J []) (gm A [(18, res.2.1), (19, res.2.2.1), (20, res.2.2.2.1), (21, res.2.2.2.2.1), (22, res.2.2.2.2.2.1), (23, res.2.2.2.2.2.2.1), (24, res.2.2.2.2.2.2.2.1), (25, res.2.2.2.2.2.2.2.2.1), (26, res.2.2.2.2.2.2.2.2.2)]) (gm B [])) (some (.int res.1)) Af args s) (F0 m 268 ls [])
def SX9_worked_243 (p : Program) (l : Launch) (e : Env) (s : State) (m : MethodId) (args : Array Value) (below : List Frame) (meth : Method) (c : Code) (D : va_G) (cy : Nat → ClassId) (ad : Nat → Nat) (P : MP) (V : MV) (I : MI) (J : MJ) (A : MI) (B : MJ) (Af : Nat → Prop) (res : Int32 × (Nat → Int32) × (Nat → Int32) × (Nat → Int32) × (Nat → Int32) × (Nat → Int32) × (Nat → Int32) × (Nat → Int32) × (Nat → Int32) × (Nat → Int32)) (k : (Nat → Int32) → (Nat → Int32) → (Nat → Int32) → (Nat → Int32) → (Nat → Int32) → (Nat → Int32) → (Nat → Int32) → (Nat → Int32) → (Nat → Int32) → Int32 → Int32 → Int32 → Int32 → Int32 → Option (Int32 × (Nat → Int32) × (Nat → Int32) × (Nat → Int32) × (Nat → Int32) × (Nat → Int32) × (Nat → Int32) × (Nat → Int32) × (Nat → Int32) × (Nat → Int32))) : Prop := ∀ (m_kept : (Nat → Int32)) (m_keptBy : (Nat → Int32)) (m_ahead : (Nat → Int32)) (m_against : (Nat → Int32)) (m_sum : (Nat → Int32)) (m_sumBy : (Nat → Int32)) (m_term : (Nat → Int32)) (m_termBy : (Nat → Int32)) (m_byNot : (Nat → Int32)) (v1 : Int32) (v2 : Int32) (v3 : Int32) (v4 : Int32) (x0 : Int32) (H : Heap) (locs : List Loc) (ls : Array Slot), wd D (dn cy LY_X9 ad P V (gp I []) (gp J []) (gm A [(18, m_kept), (19, m_keptBy), (20, m_ahead), (21, m_against), (22, m_sum), (23, m_sumBy), (24, m_term), (25, m_termBy), (26, m_byNot)]) (gm B [])) Af s.heap H locs → lv_has ls 6 [(0, .ref (ad 0)), (1, .int v1), (2, .int v2), (3, .int v3), (4, .int v4)] → k m_kept m_keptBy m_ahead m_against m_sum m_sumBy m_term m_termBy m_byNot v1 v2 v3 v4 x0 = some res → W p l e rmX9_worked s m args below meth c H locs 0 0 (ZQ below D cy (dn cy LY_X9 ad P V (gp I []) (gp J []) (gm A [(18, res.2.1), (19, res.2.2.1), (20, res.2.2.2.1), (21, res.2.2.2.2.1), (22, res.2.2.2.2.2.1), (23, res.2.2.2.2.2.2.1), (24, res.2.2.2.2.2.2.2.1), (25, res.2.2.2.2.2.2.2.2.1), (26, res.2.2.2.2.2.2.2.2.2)]) (gm B [])) (some (.int res.1)) Af args s) (F0 m 243 ls [.int x0])
def SX9_worked_14 (p : Program) (l : Launch) (e : Env) (s : State) (m : MethodId) (args : Array Value) (below : List Frame) (meth : Method) (c : Code) (D : va_G) (cy : Nat → ClassId) (ad : Nat → Nat) (P : MP) (V : MV) (I : MI) (J : MJ) (A : MI) (B : MJ) (Af : Nat → Prop) (res : Int32 × (Nat → Int32) × (Nat → Int32) × (Nat → Int32) × (Nat → Int32) × (Nat → Int32) × (Nat → Int32) × (Nat → Int32) × (Nat → Int32) × (Nat → Int32)) (k : (Nat → Int32) → (Nat → Int32) → (Nat → Int32) → (Nat → Int32) → (Nat → Int32) → (Nat → Int32) → (Nat → Int32) → (Nat → Int32) → (Nat → Int32) → Int32 → Int32 → Int32 → Option (Int32 × (Nat → Int32) × (Nat → Int32) × (Nat → Int32) × (Nat → Int32) × (Nat → Int32) × (Nat → Int32) × (Nat → Int32) × (Nat → Int32) × (Nat → Int32))) : Prop := ∀ (m_kept : (Nat → Int32)) (m_keptBy : (Nat → Int32)) (m_ahead : (Nat → Int32)) (m_against : (Nat → Int32)) (m_sum : (Nat → Int32)) (m_sumBy : (Nat → Int32)) (m_term : (Nat → Int32)) (m_termBy : (Nat → Int32)) (m_byNot : (Nat → Int32)) (v1 : Int32) (v2 : Int32) (v3 : Int32) (H : Heap) (locs : List Loc) (ls : Array Slot), wd D (dn cy LY_X9 ad P V (gp I []) (gp J []) (gm A [(18, m_kept), (19, m_keptBy), (20, m_ahead), (21, m_against), (22, m_sum), (23, m_sumBy), (24, m_term), (25, m_termBy), (26, m_byNot)]) (gm B [])) Af s.heap H locs → lv_has ls 6 [(0, .ref (ad 0)), (1, .int v1), (2, .int v2), (3, .int v3)] → k m_kept m_keptBy m_ahead m_against m_sum m_sumBy m_term m_termBy m_byNot v1 v2 v3 = some res → W p l e rmX9_worked s m args below meth c H locs 0 0 (ZQ below D cy (dn cy LY_X9 ad P V (gp I []) (gp J []) (gm A [(18, res.2.1), (19, res.2.2.1), (20, res.2.2.2.1), (21, res.2.2.2.2.1), (22, res.2.2.2.2.2.1), (23, res.2.2.2.2.2.2.1), (24, res.2.2.2.2.2.2.2.1), (25, res.2.2.2.2.2.2.2.2.1), (26, res.2.2.2.2.2.2.2.2.2)]) (gm B [])) (some (.int res.1)) Af args s) (F0 m 14 ls [])
def fX9_worked_66 (m_lineFrom : (Nat → Int32)) (m_lineTo : (Nat → Int32)) (m_codes : (Nat → Int32)) (m_valueOf : (Nat → Int32)) (k14 : (Nat → Int32) → (Nat → Int32) → (Nat → Int32) → (Nat → Int32) → (Nat → Int32) → (Nat → Int32) → (Nat → Int32) → (Nat → Int32) → (Nat → Int32) → Int32 → Int32 → Int32 → Option (Int32 × (Nat → Int32) × (Nat → Int32) × (Nat → Int32) × (Nat → Int32) × (Nat → Int32) × (Nat → Int32) × (Nat → Int32) × (Nat → Int32) × (Nat → Int32))) (m_kept : (Nat → Int32)) (m_keptBy : (Nat → Int32)) (m_ahead : (Nat → Int32)) (m_against : (Nat → Int32)) (m_sum : (Nat → Int32)) (m_sumBy : (Nat → Int32)) (m_term : (Nat → Int32)) (m_termBy : (Nat → Int32)) (m_byNot : (Nat → Int32)) (v1 : Int32) (v2 : Int32) (v3 : Int32) (x0 : Int32) (x1 : Int32) : Option (Int32 × (Nat → Int32) × (Nat → Int32) × (Nat → Int32) × (Nat → Int32) × (Nat → Int32) × (Nat → Int32) × (Nat → Int32) × (Nat → Int32) × (Nat → Int32)) := bif inb x1 7 then (Option.bind (fX9_opens m_keptBy m_against m_sum m_sumBy m_termBy v2) fun y2 => (k14 m_kept y2.1 m_ahead y2.2.1 y2.2.2.1 y2.2.2.2.1 m_term y2.2.2.2.2 (upd m_byNot (Int32.toNatClampNeg x1) x0) v1 v2 (v3 + 1))) else none
set_option maxHeartbeats 4000000 in
set_option maxRecDepth 100000 in
theorem tX9_worked_66 {p : Program} {l : Launch} {e : Env} {s : State} {m : MethodId} {args : Array Value} {below : List Frame} {meth : Method} {c : Code} {D : va_G} {cy : Nat → ClassId} {ad : Nat → Nat} {P : MP} {V : MV} {I : MI} {J : MJ} {A : MI} {B : MJ} {Af : Nat → Prop} {res : Int32 × (Nat → Int32) × (Nat → Int32) × (Nat → Int32) × (Nat → Int32) × (Nat → Int32) × (Nat → Int32) × (Nat → Int32) × (Nat → Int32) × (Nat → Int32)} (C0 : CX p s m args meth c cX9_worked 6 (some .int) RX9) (hK : va_K D vwCl (tyG cy) s) (hN : NWs s) (hA : ∀ q, s.heap.size ≤ q → Af q) {k14 : (Nat → Int32) → (Nat → Int32) → (Nat → Int32) → (Nat → Int32) → (Nat → Int32) → (Nat → Int32) → (Nat → Int32) → (Nat → Int32) → (Nat → Int32) → Int32 → Int32 → Int32 → Option (Int32 × (Nat → Int32) × (Nat → Int32) × (Nat → Int32) × (Nat → Int32) × (Nat → Int32) × (Nat → Int32) × (Nat → Int32) × (Nat → Int32) × (Nat → Int32))} (hk14 : SX9_worked_14 p l e s m args below meth c D cy ad P V I J A B Af res k14) : SX9_worked_66 p l e s m args below meth c D cy ad P V I J A B Af res (fX9_worked_66 (A 13) (A 14) (A 15) (A 27) k14) := by
  intro m_kept m_keptBy m_ahead m_against m_sum m_sumBy m_term m_termBy m_byNot v1 v2 v3 x0 x1 H locs ls hW hl hf
  unfold fX9_worked_66 at hf
  obtain ⟨hb1, hf⟩ := g_some hf
  refine s_iast (f := (upd m_byNot (Int32.toNatClampNeg x1) x0)) C0 hK hW 26 LY_X9_26 hb1 rfl rfl dX9_worked_66 (fun H locs hW => ?_)
  have hW : wd D (dn cy LY_X9 ad P V (gp I []) (gp J []) (gm A [(18, m_kept), (19, m_keptBy), (20, m_ahead), (21, m_against), (22, m_sum), (23, m_sumBy), (24, m_term), (25, m_termBy), (26, (upd m_byNot (Int32.toNatClampNeg x1) x0))]) (gm B [])) Af s.heap H locs := hW
  refine lv_aload_n C0.1 C0.2.1 dX9_worked_67 rfl (lv_at hl 0 rfl) ?_
  refine lv_iload_n C0.1 C0.2.1 dX9_worked_68 rfl (lv_at hl 2 rfl) ?_
  obtain ⟨y2, hy2, hf⟩ := b_some hf
  refine c_Vv C0 hK hN hl.1 hW hA (KX9_opens l D cy  ad P V (gp I []) (gp J []) (gm A [(18, m_kept), (19, m_keptBy), (20, m_ahead), (21, m_against), (22, m_sum), (23, m_sumBy), (24, m_term), (25, m_termBy), (26, (upd m_byNot (Int32.toNatClampNeg x1) x0))]) (gm B []) v2 hy2) (JN_id rfl rfl rfl rfl) (Uw_V uw_1447 uw_1449 us_72 uw_14 uw_1450) rfl rfl hd_X9_opens ⟨rfl, rfl⟩ rfl (dn_some LY_X9_0) rfl rfl rfl dX9_worked_69 ⟨Nat.zero_le _, Nat.zero_le _⟩ (fun H locs hW => ?_)
  have hW : wd D (dn cy LY_X9 ad P V (gp I []) (gp J []) (gm A [(18, m_kept), (19, y2.1), (20, m_ahead), (21, y2.2.1), (22, y2.2.2.1), (23, y2.2.2.2.1), (24, m_term), (25, y2.2.2.2.2), (26, (upd m_byNot (Int32.toNatClampNeg x1) x0))]) (gm B [])) Af s.heap H locs := hW
  refine lv_goto (tgt := 329) C0.1 C0.2.1 dX9_worked_72 (by decide) ?_
  refine lv_iinc (v := (v3 + 1)) (lv' := [(3, .int (v3 + 1)), (0, .ref (ad 0)), (1, .int v1), (2, .int v2)]) C0.1 C0.2.1 dX9_worked_329 hl (k := 3) rfl (congrArg (fun z => _ + z) kI_1) (by decide) rfl (fun ls hl => ?_)
  refine lv_goto (tgt := 14) C0.1 C0.2.1 dX9_worked_332 (by decide) ?_
  exact hk14 m_kept y2.1 m_ahead y2.2.1 y2.2.2.1 y2.2.2.2.1 m_term y2.2.2.2.2 (upd m_byNot (Int32.toNatClampNeg x1) x0) v1 v2 (v3 + 1) H locs ls hW (lv_sub hl [1, 2, 3, 0] rfl) hf
def fX9_worked_46 (m_lineFrom : (Nat → Int32)) (m_lineTo : (Nat → Int32)) (m_codes : (Nat → Int32)) (m_valueOf : (Nat → Int32)) (k14 : (Nat → Int32) → (Nat → Int32) → (Nat → Int32) → (Nat → Int32) → (Nat → Int32) → (Nat → Int32) → (Nat → Int32) → (Nat → Int32) → (Nat → Int32) → Int32 → Int32 → Int32 → Option (Int32 × (Nat → Int32) × (Nat → Int32) × (Nat → Int32) × (Nat → Int32) × (Nat → Int32) × (Nat → Int32) × (Nat → Int32) × (Nat → Int32) × (Nat → Int32))) (m_kept : (Nat → Int32)) (m_keptBy : (Nat → Int32)) (m_ahead : (Nat → Int32)) (m_against : (Nat → Int32)) (m_sum : (Nat → Int32)) (m_sumBy : (Nat → Int32)) (m_term : (Nat → Int32)) (m_termBy : (Nat → Int32)) (m_byNot : (Nat → Int32)) (v1 : Int32) (v2 : Int32) (v3 : Int32) (v4 : Int32) : Option (Int32 × (Nat → Int32) × (Nat → Int32) × (Nat → Int32) × (Nat → Int32) × (Nat → Int32) × (Nat → Int32) × (Nat → Int32) × (Nat → Int32) × (Nat → Int32)) := if v4 = 30 then (fX9_worked_66 m_lineFrom m_lineTo m_codes m_valueOf k14 m_kept m_keptBy m_ahead m_against m_sum m_sumBy m_term m_termBy m_byNot v1 (v2 + 1) v3 1 (v2 + 1)) else (fX9_worked_66 m_lineFrom m_lineTo m_codes m_valueOf k14 m_kept m_keptBy m_ahead m_against m_sum m_sumBy m_term m_termBy m_byNot v1 (v2 + 1) v3 0 (v2 + 1))
set_option maxHeartbeats 4000000 in
set_option maxRecDepth 100000 in
theorem tX9_worked_46 {p : Program} {l : Launch} {e : Env} {s : State} {m : MethodId} {args : Array Value} {below : List Frame} {meth : Method} {c : Code} {D : va_G} {cy : Nat → ClassId} {ad : Nat → Nat} {P : MP} {V : MV} {I : MI} {J : MJ} {A : MI} {B : MJ} {Af : Nat → Prop} {res : Int32 × (Nat → Int32) × (Nat → Int32) × (Nat → Int32) × (Nat → Int32) × (Nat → Int32) × (Nat → Int32) × (Nat → Int32) × (Nat → Int32) × (Nat → Int32)} (C0 : CX p s m args meth c cX9_worked 6 (some .int) RX9) (hK : va_K D vwCl (tyG cy) s) (hN : NWs s) (hA : ∀ q, s.heap.size ≤ q → Af q) {k14 : (Nat → Int32) → (Nat → Int32) → (Nat → Int32) → (Nat → Int32) → (Nat → Int32) → (Nat → Int32) → (Nat → Int32) → (Nat → Int32) → (Nat → Int32) → Int32 → Int32 → Int32 → Option (Int32 × (Nat → Int32) × (Nat → Int32) × (Nat → Int32) × (Nat → Int32) × (Nat → Int32) × (Nat → Int32) × (Nat → Int32) × (Nat → Int32) × (Nat → Int32))} (hk14 : SX9_worked_14 p l e s m args below meth c D cy ad P V I J A B Af res k14) : SX9_worked_46 p l e s m args below meth c D cy ad P V I J A B Af res (fX9_worked_46 (A 13) (A 14) (A 15) (A 27) k14) := by
  intro m_kept m_keptBy m_ahead m_against m_sum m_sumBy m_term m_termBy m_byNot v1 v2 v3 v4 H locs ls hW hl hf
  unfold fX9_worked_46 at hf
  refine lv_iinc (v := (v2 + 1)) (lv' := [(2, .int (v2 + 1)), (0, .ref (ad 0)), (1, .int v1), (3, .int v3), (4, .int v4)]) C0.1 C0.2.1 dX9_worked_46 hl (k := 2) rfl (congrArg (fun z => _ + z) kI_1) (by decide) rfl (fun ls hl => ?_)
  refine lv_aload_n C0.1 C0.2.1 dX9_worked_49 rfl (lv_at hl 1 rfl) ?_
  refine s_get (v := .ref (ad 26)) C0 hK hW 0 36 LY_X9_0 rfl fg_X9_87 rfl dX9_worked_50 ?_
  refine lv_iload_n C0.1 C0.2.1 dX9_worked_53 rfl (lv_at hl 0 rfl) ?_
  refine lv_iload C0.1 C0.2.1 dX9_worked_54 (lv_at hl 4 rfl) ?_
  refine lv_bipush (v := 30) C0.1 C0.2.1 dX9_worked_56 kB_30 ?_
  refine lv_icmp_ne (tgt := 65) C0.1 C0.2.1 dX9_worked_58 (by decide) (fun hc1 => ?_) (fun hc1 => ?_)
  · have hf := ite_f hc1 hf
    refine lv_iconst (v := 0) C0.1 C0.2.1 dX9_worked_65 kI_0 ?_
    exact tX9_worked_66 C0 hK hN hA hk14 m_kept m_keptBy m_ahead m_against m_sum m_sumBy m_term m_termBy m_byNot v1 (v2 + 1) v3 0 (v2 + 1) H locs ls hW (lv_sub hl [1, 2, 0, 3] rfl) hf
  · have hf := ite_t hc1 hf
    refine lv_iconst (v := 1) C0.1 C0.2.1 dX9_worked_61 kI_1 ?_
    refine lv_goto (tgt := 66) C0.1 C0.2.1 dX9_worked_62 (by decide) ?_
    exact tX9_worked_66 C0 hK hN hA hk14 m_kept m_keptBy m_ahead m_against m_sum m_sumBy m_term m_termBy m_byNot v1 (v2 + 1) v3 1 (v2 + 1) H locs ls hW (lv_sub hl [1, 2, 0, 3] rfl) hf
def fX9_worked_89 (m_lineFrom : (Nat → Int32)) (m_lineTo : (Nat → Int32)) (m_codes : (Nat → Int32)) (m_valueOf : (Nat → Int32)) (k14 : (Nat → Int32) → (Nat → Int32) → (Nat → Int32) → (Nat → Int32) → (Nat → Int32) → (Nat → Int32) → (Nat → Int32) → (Nat → Int32) → (Nat → Int32) → Int32 → Int32 → Int32 → Option (Int32 × (Nat → Int32) × (Nat → Int32) × (Nat → Int32) × (Nat → Int32) × (Nat → Int32) × (Nat → Int32) × (Nat → Int32) × (Nat → Int32) × (Nat → Int32))) (m_kept : (Nat → Int32)) (m_keptBy : (Nat → Int32)) (m_ahead : (Nat → Int32)) (m_against : (Nat → Int32)) (m_sum : (Nat → Int32)) (m_sumBy : (Nat → Int32)) (m_term : (Nat → Int32)) (m_termBy : (Nat → Int32)) (m_byNot : (Nat → Int32)) (v1 : Int32) (v2 : Int32) (v3 : Int32) (v4 : Int32) : Option (Int32 × (Nat → Int32) × (Nat → Int32) × (Nat → Int32) × (Nat → Int32) × (Nat → Int32) × (Nat → Int32) × (Nat → Int32) × (Nat → Int32) × (Nat → Int32)) := Option.bind (fX9_sums m_sumBy m_term m_sum m_termBy v2) fun y1 => (bif inb v2 7 then (k14 m_kept m_keptBy m_ahead m_against y1.1 (upd m_sumBy (Int32.toNatClampNeg v2) v4) m_term y1.2 m_byNot v1 v2 (v3 + 1)) else none)
set_option maxHeartbeats 4000000 in
set_option maxRecDepth 100000 in
theorem tX9_worked_89 {p : Program} {l : Launch} {e : Env} {s : State} {m : MethodId} {args : Array Value} {below : List Frame} {meth : Method} {c : Code} {D : va_G} {cy : Nat → ClassId} {ad : Nat → Nat} {P : MP} {V : MV} {I : MI} {J : MJ} {A : MI} {B : MJ} {Af : Nat → Prop} {res : Int32 × (Nat → Int32) × (Nat → Int32) × (Nat → Int32) × (Nat → Int32) × (Nat → Int32) × (Nat → Int32) × (Nat → Int32) × (Nat → Int32) × (Nat → Int32)} (C0 : CX p s m args meth c cX9_worked 6 (some .int) RX9) (hK : va_K D vwCl (tyG cy) s) (hN : NWs s) (hA : ∀ q, s.heap.size ≤ q → Af q) {k14 : (Nat → Int32) → (Nat → Int32) → (Nat → Int32) → (Nat → Int32) → (Nat → Int32) → (Nat → Int32) → (Nat → Int32) → (Nat → Int32) → (Nat → Int32) → Int32 → Int32 → Int32 → Option (Int32 × (Nat → Int32) × (Nat → Int32) × (Nat → Int32) × (Nat → Int32) × (Nat → Int32) × (Nat → Int32) × (Nat → Int32) × (Nat → Int32) × (Nat → Int32))} (hk14 : SX9_worked_14 p l e s m args below meth c D cy ad P V I J A B Af res k14) : SX9_worked_89 p l e s m args below meth c D cy ad P V I J A B Af res (fX9_worked_89 (A 13) (A 14) (A 15) (A 27) k14) := by
  intro m_kept m_keptBy m_ahead m_against m_sum m_sumBy m_term m_termBy m_byNot v1 v2 v3 v4 H locs ls hW hl hf
  unfold fX9_worked_89 at hf
  refine lv_aload_n C0.1 C0.2.1 dX9_worked_89 rfl (lv_at hl 0 rfl) ?_
  refine lv_iload_n C0.1 C0.2.1 dX9_worked_90 rfl (lv_at hl 2 rfl) ?_
  obtain ⟨y1, hy1, hf⟩ := b_some hf
  refine c_Vv C0 hK hN hl.1 hW hA (KX9_sums l D cy  ad P V (gp I []) (gp J []) (gm A [(18, m_kept), (19, m_keptBy), (20, m_ahead), (21, m_against), (22, m_sum), (23, m_sumBy), (24, m_term), (25, m_termBy), (26, m_byNot)]) (gm B []) v2 hy1) (JN_id rfl rfl rfl rfl) (Uw_V uw_1451 uw_1453 us_73 uw_14 uw_1454) rfl rfl hd_X9_sums ⟨rfl, rfl⟩ rfl (dn_some LY_X9_0) rfl rfl rfl dX9_worked_91 ⟨Nat.zero_le _, Nat.zero_le _⟩ (fun H locs hW => ?_)
  have hW : wd D (dn cy LY_X9 ad P V (gp I []) (gp J []) (gm A [(18, m_kept), (19, m_keptBy), (20, m_ahead), (21, m_against), (22, y1.1), (23, m_sumBy), (24, m_term), (25, y1.2), (26, m_byNot)]) (gm B [])) Af s.heap H locs := hW
  refine lv_aload_n C0.1 C0.2.1 dX9_worked_94 rfl (lv_at hl 0 rfl) ?_
  refine s_get (v := .ref (ad 23)) C0 hK hW 0 33 LY_X9_0 rfl fg_X9_78 rfl dX9_worked_95 ?_
  refine lv_iload_n C0.1 C0.2.1 dX9_worked_98 rfl (lv_at hl 2 rfl) ?_
  refine lv_iload C0.1 C0.2.1 dX9_worked_99 (lv_at hl 4 rfl) ?_
  obtain ⟨hb2, hf⟩ := g_some hf
  refine s_iast (f := (upd m_sumBy (Int32.toNatClampNeg v2) v4)) C0 hK hW 23 LY_X9_23 hb2 rfl rfl dX9_worked_101 (fun H locs hW => ?_)
  have hW : wd D (dn cy LY_X9 ad P V (gp I []) (gp J []) (gm A [(18, m_kept), (19, m_keptBy), (20, m_ahead), (21, m_against), (22, y1.1), (23, (upd m_sumBy (Int32.toNatClampNeg v2) v4)), (24, m_term), (25, y1.2), (26, m_byNot)]) (gm B [])) Af s.heap H locs := hW
  refine lv_goto (tgt := 329) C0.1 C0.2.1 dX9_worked_102 (by decide) ?_
  refine lv_iinc (v := (v3 + 1)) (lv' := [(3, .int (v3 + 1)), (0, .ref (ad 0)), (1, .int v1), (2, .int v2), (4, .int v4)]) C0.1 C0.2.1 dX9_worked_329 hl (k := 3) rfl (congrArg (fun z => _ + z) kI_1) (by decide) rfl (fun ls hl => ?_)
  refine lv_goto (tgt := 14) C0.1 C0.2.1 dX9_worked_332 (by decide) ?_
  exact hk14 m_kept m_keptBy m_ahead m_against y1.1 (upd m_sumBy (Int32.toNatClampNeg v2) v4) m_term y1.2 m_byNot v1 v2 (v3 + 1) H locs ls hW (lv_sub hl [1, 2, 3, 0] rfl) hf
def fX9_worked_137 (m_lineFrom : (Nat → Int32)) (m_lineTo : (Nat → Int32)) (m_codes : (Nat → Int32)) (m_valueOf : (Nat → Int32)) (k14 : (Nat → Int32) → (Nat → Int32) → (Nat → Int32) → (Nat → Int32) → (Nat → Int32) → (Nat → Int32) → (Nat → Int32) → (Nat → Int32) → (Nat → Int32) → Int32 → Int32 → Int32 → Option (Int32 × (Nat → Int32) × (Nat → Int32) × (Nat → Int32) × (Nat → Int32) × (Nat → Int32) × (Nat → Int32) × (Nat → Int32) × (Nat → Int32) × (Nat → Int32))) (m_kept : (Nat → Int32)) (m_keptBy : (Nat → Int32)) (m_ahead : (Nat → Int32)) (m_against : (Nat → Int32)) (m_sum : (Nat → Int32)) (m_sumBy : (Nat → Int32)) (m_term : (Nat → Int32)) (m_termBy : (Nat → Int32)) (m_byNot : (Nat → Int32)) (v1 : Int32) (v2 : Int32) (v3 : Int32) (v4 : Int32) : Option (Int32 × (Nat → Int32) × (Nat → Int32) × (Nat → Int32) × (Nat → Int32) × (Nat → Int32) × (Nat → Int32) × (Nat → Int32) × (Nat → Int32) × (Nat → Int32)) := Option.bind (fX9_sums m_sumBy m_term m_sum m_termBy v2) fun y1 => (bif inb v2 7 then (bif inb v2 7 then (bif inb v2 7 then (bif inb v2 7 then (bif inb v2 7 then (k14 m_kept m_keptBy (upd m_ahead (Int32.toNatClampNeg v2) (y1.1 (Int32.toNatClampNeg v2))) (upd m_against (Int32.toNatClampNeg v2) v4) (upd y1.1 (Int32.toNatClampNeg v2) 0) (upd m_sumBy (Int32.toNatClampNeg v2) 20) m_term y1.2 m_byNot v1 v2 (v3 + 1)) else none) else none) else none) else none) else none)
set_option maxHeartbeats 4000000 in
set_option maxRecDepth 100000 in
theorem tX9_worked_137 {p : Program} {l : Launch} {e : Env} {s : State} {m : MethodId} {args : Array Value} {below : List Frame} {meth : Method} {c : Code} {D : va_G} {cy : Nat → ClassId} {ad : Nat → Nat} {P : MP} {V : MV} {I : MI} {J : MJ} {A : MI} {B : MJ} {Af : Nat → Prop} {res : Int32 × (Nat → Int32) × (Nat → Int32) × (Nat → Int32) × (Nat → Int32) × (Nat → Int32) × (Nat → Int32) × (Nat → Int32) × (Nat → Int32) × (Nat → Int32)} (C0 : CX p s m args meth c cX9_worked 6 (some .int) RX9) (hK : va_K D vwCl (tyG cy) s) (hN : NWs s) (hA : ∀ q, s.heap.size ≤ q → Af q) {k14 : (Nat → Int32) → (Nat → Int32) → (Nat → Int32) → (Nat → Int32) → (Nat → Int32) → (Nat → Int32) → (Nat → Int32) → (Nat → Int32) → (Nat → Int32) → Int32 → Int32 → Int32 → Option (Int32 × (Nat → Int32) × (Nat → Int32) × (Nat → Int32) × (Nat → Int32) × (Nat → Int32) × (Nat → Int32) × (Nat → Int32) × (Nat → Int32) × (Nat → Int32))} (hk14 : SX9_worked_14 p l e s m args below meth c D cy ad P V I J A B Af res k14) : SX9_worked_137 p l e s m args below meth c D cy ad P V I J A B Af res (fX9_worked_137 (A 13) (A 14) (A 15) (A 27) k14) := by
  intro m_kept m_keptBy m_ahead m_against m_sum m_sumBy m_term m_termBy m_byNot v1 v2 v3 v4 H locs ls hW hl hf
  unfold fX9_worked_137 at hf
  refine lv_aload_n C0.1 C0.2.1 dX9_worked_137 rfl (lv_at hl 0 rfl) ?_
  refine lv_iload_n C0.1 C0.2.1 dX9_worked_138 rfl (lv_at hl 2 rfl) ?_
  obtain ⟨y1, hy1, hf⟩ := b_some hf
  refine c_Vv C0 hK hN hl.1 hW hA (KX9_sums l D cy  ad P V (gp I []) (gp J []) (gm A [(18, m_kept), (19, m_keptBy), (20, m_ahead), (21, m_against), (22, m_sum), (23, m_sumBy), (24, m_term), (25, m_termBy), (26, m_byNot)]) (gm B []) v2 hy1) (JN_id rfl rfl rfl rfl) (Uw_V uw_1451 uw_1453 us_73 uw_14 uw_1454) rfl rfl hd_X9_sums ⟨rfl, rfl⟩ rfl (dn_some LY_X9_0) rfl rfl rfl dX9_worked_139 ⟨Nat.zero_le _, Nat.zero_le _⟩ (fun H locs hW => ?_)
  have hW : wd D (dn cy LY_X9 ad P V (gp I []) (gp J []) (gm A [(18, m_kept), (19, m_keptBy), (20, m_ahead), (21, m_against), (22, y1.1), (23, m_sumBy), (24, m_term), (25, y1.2), (26, m_byNot)]) (gm B [])) Af s.heap H locs := hW
  refine lv_aload_n C0.1 C0.2.1 dX9_worked_142 rfl (lv_at hl 0 rfl) ?_
  refine s_get (v := .ref (ad 20)) C0 hK hW 0 30 LY_X9_0 rfl fg_X9_69 rfl dX9_worked_143 ?_
  refine lv_iload_n C0.1 C0.2.1 dX9_worked_146 rfl (lv_at hl 2 rfl) ?_
  refine lv_aload_n C0.1 C0.2.1 dX9_worked_147 rfl (lv_at hl 0 rfl) ?_
  refine s_get (v := .ref (ad 22)) C0 hK hW 0 32 LY_X9_0 rfl fg_X9_75 rfl dX9_worked_148 ?_
  refine lv_iload_n C0.1 C0.2.1 dX9_worked_151 rfl (lv_at hl 2 rfl) ?_
  obtain ⟨hb2, hf⟩ := g_some hf
  refine s_iald (v := (y1.1 (Int32.toNatClampNeg v2))) C0 hK hW 22 LY_X9_22 hb2 rfl dX9_worked_152 ?_
  obtain ⟨hb3, hf⟩ := g_some hf
  refine s_iast (f := (upd m_ahead (Int32.toNatClampNeg v2) (y1.1 (Int32.toNatClampNeg v2)))) C0 hK hW 20 LY_X9_20 hb3 rfl rfl dX9_worked_153 (fun H locs hW => ?_)
  have hW : wd D (dn cy LY_X9 ad P V (gp I []) (gp J []) (gm A [(18, m_kept), (19, m_keptBy), (20, (upd m_ahead (Int32.toNatClampNeg v2) (y1.1 (Int32.toNatClampNeg v2)))), (21, m_against), (22, y1.1), (23, m_sumBy), (24, m_term), (25, y1.2), (26, m_byNot)]) (gm B [])) Af s.heap H locs := hW
  refine lv_aload_n C0.1 C0.2.1 dX9_worked_154 rfl (lv_at hl 0 rfl) ?_
  refine s_get (v := .ref (ad 21)) C0 hK hW 0 31 LY_X9_0 rfl fg_X9_72 rfl dX9_worked_155 ?_
  refine lv_iload_n C0.1 C0.2.1 dX9_worked_158 rfl (lv_at hl 2 rfl) ?_
  refine lv_iload C0.1 C0.2.1 dX9_worked_159 (lv_at hl 4 rfl) ?_
  obtain ⟨hb4, hf⟩ := g_some hf
  refine s_iast (f := (upd m_against (Int32.toNatClampNeg v2) v4)) C0 hK hW 21 LY_X9_21 hb4 rfl rfl dX9_worked_161 (fun H locs hW => ?_)
  have hW : wd D (dn cy LY_X9 ad P V (gp I []) (gp J []) (gm A [(18, m_kept), (19, m_keptBy), (20, (upd m_ahead (Int32.toNatClampNeg v2) (y1.1 (Int32.toNatClampNeg v2)))), (21, (upd m_against (Int32.toNatClampNeg v2) v4)), (22, y1.1), (23, m_sumBy), (24, m_term), (25, y1.2), (26, m_byNot)]) (gm B [])) Af s.heap H locs := hW
  refine lv_aload_n C0.1 C0.2.1 dX9_worked_162 rfl (lv_at hl 0 rfl) ?_
  refine s_get (v := .ref (ad 22)) C0 hK hW 0 32 LY_X9_0 rfl fg_X9_75 rfl dX9_worked_163 ?_
  refine lv_iload_n C0.1 C0.2.1 dX9_worked_166 rfl (lv_at hl 2 rfl) ?_
  refine lv_iconst (v := 0) C0.1 C0.2.1 dX9_worked_167 kI_0 ?_
  obtain ⟨hb5, hf⟩ := g_some hf
  refine s_iast (f := (upd y1.1 (Int32.toNatClampNeg v2) 0)) C0 hK hW 22 LY_X9_22 hb5 rfl rfl dX9_worked_168 (fun H locs hW => ?_)
  have hW : wd D (dn cy LY_X9 ad P V (gp I []) (gp J []) (gm A [(18, m_kept), (19, m_keptBy), (20, (upd m_ahead (Int32.toNatClampNeg v2) (y1.1 (Int32.toNatClampNeg v2)))), (21, (upd m_against (Int32.toNatClampNeg v2) v4)), (22, (upd y1.1 (Int32.toNatClampNeg v2) 0)), (23, m_sumBy), (24, m_term), (25, y1.2), (26, m_byNot)]) (gm B [])) Af s.heap H locs := hW
  refine lv_aload_n C0.1 C0.2.1 dX9_worked_169 rfl (lv_at hl 0 rfl) ?_
  refine s_get (v := .ref (ad 23)) C0 hK hW 0 33 LY_X9_0 rfl fg_X9_78 rfl dX9_worked_170 ?_
  refine lv_iload_n C0.1 C0.2.1 dX9_worked_173 rfl (lv_at hl 2 rfl) ?_
  refine lv_bipush (v := 20) C0.1 C0.2.1 dX9_worked_174 kB_20 ?_
  obtain ⟨hb6, hf⟩ := g_some hf
  refine s_iast (f := (upd m_sumBy (Int32.toNatClampNeg v2) 20)) C0 hK hW 23 LY_X9_23 hb6 rfl rfl dX9_worked_176 (fun H locs hW => ?_)
  have hW : wd D (dn cy LY_X9 ad P V (gp I []) (gp J []) (gm A [(18, m_kept), (19, m_keptBy), (20, (upd m_ahead (Int32.toNatClampNeg v2) (y1.1 (Int32.toNatClampNeg v2)))), (21, (upd m_against (Int32.toNatClampNeg v2) v4)), (22, (upd y1.1 (Int32.toNatClampNeg v2) 0)), (23, (upd m_sumBy (Int32.toNatClampNeg v2) 20)), (24, m_term), (25, y1.2), (26, m_byNot)]) (gm B [])) Af s.heap H locs := hW
  refine lv_goto (tgt := 329) C0.1 C0.2.1 dX9_worked_177 (by decide) ?_
  refine lv_iinc (v := (v3 + 1)) (lv' := [(3, .int (v3 + 1)), (0, .ref (ad 0)), (1, .int v1), (2, .int v2), (4, .int v4)]) C0.1 C0.2.1 dX9_worked_329 hl (k := 3) rfl (congrArg (fun z => _ + z) kI_1) (by decide) rfl (fun ls hl => ?_)
  refine lv_goto (tgt := 14) C0.1 C0.2.1 dX9_worked_332 (by decide) ?_
  exact hk14 m_kept m_keptBy (upd m_ahead (Int32.toNatClampNeg v2) (y1.1 (Int32.toNatClampNeg v2))) (upd m_against (Int32.toNatClampNeg v2) v4) (upd y1.1 (Int32.toNatClampNeg v2) 0) (upd m_sumBy (Int32.toNatClampNeg v2) 20) m_term y1.2 m_byNot v1 v2 (v3 + 1) H locs ls hW (lv_sub hl [1, 2, 3, 0] rfl) hf
def fX9_worked_194 (m_lineFrom : (Nat → Int32)) (m_lineTo : (Nat → Int32)) (m_codes : (Nat → Int32)) (m_valueOf : (Nat → Int32)) (k14 : (Nat → Int32) → (Nat → Int32) → (Nat → Int32) → (Nat → Int32) → (Nat → Int32) → (Nat → Int32) → (Nat → Int32) → (Nat → Int32) → (Nat → Int32) → Int32 → Int32 → Int32 → Option (Int32 × (Nat → Int32) × (Nat → Int32) × (Nat → Int32) × (Nat → Int32) × (Nat → Int32) × (Nat → Int32) × (Nat → Int32) × (Nat → Int32) × (Nat → Int32))) (m_kept : (Nat → Int32)) (m_keptBy : (Nat → Int32)) (m_ahead : (Nat → Int32)) (m_against : (Nat → Int32)) (m_sum : (Nat → Int32)) (m_sumBy : (Nat → Int32)) (m_term : (Nat → Int32)) (m_termBy : (Nat → Int32)) (m_byNot : (Nat → Int32)) (v1 : Int32) (v2 : Int32) (v3 : Int32) (v4 : Int32) : Option (Int32 × (Nat → Int32) × (Nat → Int32) × (Nat → Int32) × (Nat → Int32) × (Nat → Int32) × (Nat → Int32) × (Nat → Int32) × (Nat → Int32) × (Nat → Int32)) := Option.bind (fX9_tests m_keptBy m_ahead m_term m_kept m_against m_sum m_sumBy m_termBy v2) fun y1 => (bif inb v2 7 then (k14 y1.1 (upd m_keptBy (Int32.toNatClampNeg v2) v4) m_ahead y1.2.1 y1.2.2.1 y1.2.2.2.1 m_term y1.2.2.2.2 m_byNot v1 v2 (v3 + 1)) else none)
set_option maxHeartbeats 4000000 in
set_option maxRecDepth 100000 in
theorem tX9_worked_194 {p : Program} {l : Launch} {e : Env} {s : State} {m : MethodId} {args : Array Value} {below : List Frame} {meth : Method} {c : Code} {D : va_G} {cy : Nat → ClassId} {ad : Nat → Nat} {P : MP} {V : MV} {I : MI} {J : MJ} {A : MI} {B : MJ} {Af : Nat → Prop} {res : Int32 × (Nat → Int32) × (Nat → Int32) × (Nat → Int32) × (Nat → Int32) × (Nat → Int32) × (Nat → Int32) × (Nat → Int32) × (Nat → Int32) × (Nat → Int32)} (C0 : CX p s m args meth c cX9_worked 6 (some .int) RX9) (hK : va_K D vwCl (tyG cy) s) (hN : NWs s) (hA : ∀ q, s.heap.size ≤ q → Af q) {k14 : (Nat → Int32) → (Nat → Int32) → (Nat → Int32) → (Nat → Int32) → (Nat → Int32) → (Nat → Int32) → (Nat → Int32) → (Nat → Int32) → (Nat → Int32) → Int32 → Int32 → Int32 → Option (Int32 × (Nat → Int32) × (Nat → Int32) × (Nat → Int32) × (Nat → Int32) × (Nat → Int32) × (Nat → Int32) × (Nat → Int32) × (Nat → Int32) × (Nat → Int32))} (hk14 : SX9_worked_14 p l e s m args below meth c D cy ad P V I J A B Af res k14) : SX9_worked_194 p l e s m args below meth c D cy ad P V I J A B Af res (fX9_worked_194 (A 13) (A 14) (A 15) (A 27) k14) := by
  intro m_kept m_keptBy m_ahead m_against m_sum m_sumBy m_term m_termBy m_byNot v1 v2 v3 v4 H locs ls hW hl hf
  unfold fX9_worked_194 at hf
  refine lv_aload_n C0.1 C0.2.1 dX9_worked_194 rfl (lv_at hl 0 rfl) ?_
  refine lv_iload_n C0.1 C0.2.1 dX9_worked_195 rfl (lv_at hl 2 rfl) ?_
  obtain ⟨y1, hy1, hf⟩ := b_some hf
  refine c_Vv C0 hK hN hl.1 hW hA (KX9_tests l D cy  ad P V (gp I []) (gp J []) (gm A [(18, m_kept), (19, m_keptBy), (20, m_ahead), (21, m_against), (22, m_sum), (23, m_sumBy), (24, m_term), (25, m_termBy), (26, m_byNot)]) (gm B []) v2 hy1) (JN_id rfl rfl rfl rfl) (Uw_V uw_1455 uw_1457 us_74 uw_14 uw_1458) rfl rfl hd_X9_tests ⟨rfl, rfl⟩ rfl (dn_some LY_X9_0) rfl rfl rfl dX9_worked_196 ⟨Nat.zero_le _, Nat.zero_le _⟩ (fun H locs hW => ?_)
  have hW : wd D (dn cy LY_X9 ad P V (gp I []) (gp J []) (gm A [(18, y1.1), (19, m_keptBy), (20, m_ahead), (21, y1.2.1), (22, y1.2.2.1), (23, y1.2.2.2.1), (24, m_term), (25, y1.2.2.2.2), (26, m_byNot)]) (gm B [])) Af s.heap H locs := hW
  refine lv_aload_n C0.1 C0.2.1 dX9_worked_199 rfl (lv_at hl 0 rfl) ?_
  refine s_get (v := .ref (ad 19)) C0 hK hW 0 29 LY_X9_0 rfl fg_X9_66 rfl dX9_worked_200 ?_
  refine lv_iload_n C0.1 C0.2.1 dX9_worked_203 rfl (lv_at hl 2 rfl) ?_
  refine lv_iload C0.1 C0.2.1 dX9_worked_204 (lv_at hl 4 rfl) ?_
  obtain ⟨hb2, hf⟩ := g_some hf
  refine s_iast (f := (upd m_keptBy (Int32.toNatClampNeg v2) v4)) C0 hK hW 19 LY_X9_19 hb2 rfl rfl dX9_worked_206 (fun H locs hW => ?_)
  have hW : wd D (dn cy LY_X9 ad P V (gp I []) (gp J []) (gm A [(18, y1.1), (19, (upd m_keptBy (Int32.toNatClampNeg v2) v4)), (20, m_ahead), (21, y1.2.1), (22, y1.2.2.1), (23, y1.2.2.2.1), (24, m_term), (25, y1.2.2.2.2), (26, m_byNot)]) (gm B [])) Af s.heap H locs := hW
  refine lv_goto (tgt := 329) C0.1 C0.2.1 dX9_worked_207 (by decide) ?_
  refine lv_iinc (v := (v3 + 1)) (lv' := [(3, .int (v3 + 1)), (0, .ref (ad 0)), (1, .int v1), (2, .int v2), (4, .int v4)]) C0.1 C0.2.1 dX9_worked_329 hl (k := 3) rfl (congrArg (fun z => _ + z) kI_1) (by decide) rfl (fun ls hl => ?_)
  refine lv_goto (tgt := 14) C0.1 C0.2.1 dX9_worked_332 (by decide) ?_
  exact hk14 y1.1 (upd m_keptBy (Int32.toNatClampNeg v2) v4) m_ahead y1.2.1 y1.2.2.1 y1.2.2.2.1 m_term y1.2.2.2.2 m_byNot v1 v2 (v3 + 1) H locs ls hW (lv_sub hl [1, 2, 3, 0] rfl) hf
def fX9_worked_300 (m_lineFrom : (Nat → Int32)) (m_lineTo : (Nat → Int32)) (m_codes : (Nat → Int32)) (m_valueOf : (Nat → Int32)) (k14 : (Nat → Int32) → (Nat → Int32) → (Nat → Int32) → (Nat → Int32) → (Nat → Int32) → (Nat → Int32) → (Nat → Int32) → (Nat → Int32) → (Nat → Int32) → Int32 → Int32 → Int32 → Option (Int32 × (Nat → Int32) × (Nat → Int32) × (Nat → Int32) × (Nat → Int32) × (Nat → Int32) × (Nat → Int32) × (Nat → Int32) × (Nat → Int32) × (Nat → Int32))) (m_kept : (Nat → Int32)) (m_keptBy : (Nat → Int32)) (m_ahead : (Nat → Int32)) (m_against : (Nat → Int32)) (m_sum : (Nat → Int32)) (m_sumBy : (Nat → Int32)) (m_term : (Nat → Int32)) (m_termBy : (Nat → Int32)) (m_byNot : (Nat → Int32)) (v1 : Int32) (v2 : Int32) (v3 : Int32) (v5 : Int32) : Option (Int32 × (Nat → Int32) × (Nat → Int32) × (Nat → Int32) × (Nat → Int32) × (Nat → Int32) × (Nat → Int32) × (Nat → Int32) × (Nat → Int32) × (Nat → Int32)) := bif inb v2 7 then (if (m_termBy (Int32.toNatClampNeg v2)) = 0 then (bif inb v2 7 then (k14 m_kept m_keptBy m_ahead m_against m_sum m_sumBy (upd m_term (Int32.toNatClampNeg v2) v5) m_termBy m_byNot v1 v2 (v3 + 1)) else none) else (bif inb v2 7 then (bif inb v2 7 then (k14 m_kept m_keptBy m_ahead m_against m_sum m_sumBy (upd m_term (Int32.toNatClampNeg v2) ((m_term (Int32.toNatClampNeg v2)) * v5)) m_termBy m_byNot v1 v2 (v3 + 1)) else none) else none)) else none
set_option maxHeartbeats 4000000 in
set_option maxRecDepth 100000 in
theorem tX9_worked_300 {p : Program} {l : Launch} {e : Env} {s : State} {m : MethodId} {args : Array Value} {below : List Frame} {meth : Method} {c : Code} {D : va_G} {cy : Nat → ClassId} {ad : Nat → Nat} {P : MP} {V : MV} {I : MI} {J : MJ} {A : MI} {B : MJ} {Af : Nat → Prop} {res : Int32 × (Nat → Int32) × (Nat → Int32) × (Nat → Int32) × (Nat → Int32) × (Nat → Int32) × (Nat → Int32) × (Nat → Int32) × (Nat → Int32) × (Nat → Int32)} (C0 : CX p s m args meth c cX9_worked 6 (some .int) RX9) (hK : va_K D vwCl (tyG cy) s) (hN : NWs s) (hA : ∀ q, s.heap.size ≤ q → Af q) {k14 : (Nat → Int32) → (Nat → Int32) → (Nat → Int32) → (Nat → Int32) → (Nat → Int32) → (Nat → Int32) → (Nat → Int32) → (Nat → Int32) → (Nat → Int32) → Int32 → Int32 → Int32 → Option (Int32 × (Nat → Int32) × (Nat → Int32) × (Nat → Int32) × (Nat → Int32) × (Nat → Int32) × (Nat → Int32) × (Nat → Int32) × (Nat → Int32) × (Nat → Int32))} (hk14 : SX9_worked_14 p l e s m args below meth c D cy ad P V I J A B Af res k14) : SX9_worked_300 p l e s m args below meth c D cy ad P V I J A B Af res (fX9_worked_300 (A 13) (A 14) (A 15) (A 27) k14) := by
  intro m_kept m_keptBy m_ahead m_against m_sum m_sumBy m_term m_termBy m_byNot v1 v2 v3 v5 H locs ls hW hl hf
  unfold fX9_worked_300 at hf
  refine lv_aload_n C0.1 C0.2.1 dX9_worked_300 rfl (lv_at hl 0 rfl) ?_
  refine s_get (v := .ref (ad 24)) C0 hK hW 0 34 LY_X9_0 rfl fg_X9_81 rfl dX9_worked_301 ?_
  refine lv_iload_n C0.1 C0.2.1 dX9_worked_304 rfl (lv_at hl 2 rfl) ?_
  refine lv_aload_n C0.1 C0.2.1 dX9_worked_305 rfl (lv_at hl 0 rfl) ?_
  refine s_get (v := .ref (ad 25)) C0 hK hW 0 35 LY_X9_0 rfl fg_X9_84 rfl dX9_worked_306 ?_
  refine lv_iload_n C0.1 C0.2.1 dX9_worked_309 rfl (lv_at hl 2 rfl) ?_
  obtain ⟨hb1, hf⟩ := g_some hf
  refine s_iald (v := (m_termBy (Int32.toNatClampNeg v2))) C0 hK hW 25 LY_X9_25 hb1 rfl dX9_worked_310 ?_
  refine lv_if_ne (tgt := 319) C0.1 C0.2.1 dX9_worked_311 (by decide) (fun hc2 => ?_) (fun hc2 => ?_)
  · have hf := ite_f hc2 hf
    refine lv_aload_n C0.1 C0.2.1 dX9_worked_319 rfl (lv_at hl 0 rfl) ?_
    refine s_get (v := .ref (ad 24)) C0 hK hW 0 34 LY_X9_0 rfl fg_X9_81 rfl dX9_worked_320 ?_
    refine lv_iload_n C0.1 C0.2.1 dX9_worked_323 rfl (lv_at hl 2 rfl) ?_
    obtain ⟨hb3, hf⟩ := g_some hf
    refine s_iald (v := (m_term (Int32.toNatClampNeg v2))) C0 hK hW 24 LY_X9_24 hb3 rfl dX9_worked_324 ?_
    refine lv_iload C0.1 C0.2.1 dX9_worked_325 (lv_at hl 4 rfl) ?_
    refine lv_imul C0.1 C0.2.1 dX9_worked_327 ?_
    obtain ⟨hb4, hf⟩ := g_some hf
    refine s_iast (f := (upd m_term (Int32.toNatClampNeg v2) ((m_term (Int32.toNatClampNeg v2)) * v5))) C0 hK hW 24 LY_X9_24 hb4 rfl rfl dX9_worked_328 (fun H locs hW => ?_)
    have hW : wd D (dn cy LY_X9 ad P V (gp I []) (gp J []) (gm A [(18, m_kept), (19, m_keptBy), (20, m_ahead), (21, m_against), (22, m_sum), (23, m_sumBy), (24, (upd m_term (Int32.toNatClampNeg v2) ((m_term (Int32.toNatClampNeg v2)) * v5))), (25, m_termBy), (26, m_byNot)]) (gm B [])) Af s.heap H locs := hW
    refine lv_iinc (v := (v3 + 1)) (lv' := [(3, .int (v3 + 1)), (0, .ref (ad 0)), (1, .int v1), (2, .int v2), (5, .int v5)]) C0.1 C0.2.1 dX9_worked_329 hl (k := 3) rfl (congrArg (fun z => _ + z) kI_1) (by decide) rfl (fun ls hl => ?_)
    refine lv_goto (tgt := 14) C0.1 C0.2.1 dX9_worked_332 (by decide) ?_
    exact hk14 m_kept m_keptBy m_ahead m_against m_sum m_sumBy (upd m_term (Int32.toNatClampNeg v2) ((m_term (Int32.toNatClampNeg v2)) * v5)) m_termBy m_byNot v1 v2 (v3 + 1) H locs ls hW (lv_sub hl [1, 2, 3, 0] rfl) hf
  · have hf := ite_t hc2 hf
    refine lv_iload C0.1 C0.2.1 dX9_worked_314 (lv_at hl 4 rfl) ?_
    refine lv_goto (tgt := 328) C0.1 C0.2.1 dX9_worked_316 (by decide) ?_
    obtain ⟨hb5, hf⟩ := g_some hf
    refine s_iast (f := (upd m_term (Int32.toNatClampNeg v2) v5)) C0 hK hW 24 LY_X9_24 hb5 rfl rfl dX9_worked_328 (fun H locs hW => ?_)
    have hW : wd D (dn cy LY_X9 ad P V (gp I []) (gp J []) (gm A [(18, m_kept), (19, m_keptBy), (20, m_ahead), (21, m_against), (22, m_sum), (23, m_sumBy), (24, (upd m_term (Int32.toNatClampNeg v2) v5)), (25, m_termBy), (26, m_byNot)]) (gm B [])) Af s.heap H locs := hW
    refine lv_iinc (v := (v3 + 1)) (lv' := [(3, .int (v3 + 1)), (0, .ref (ad 0)), (1, .int v1), (2, .int v2), (5, .int v5)]) C0.1 C0.2.1 dX9_worked_329 hl (k := 3) rfl (congrArg (fun z => _ + z) kI_1) (by decide) rfl (fun ls hl => ?_)
    refine lv_goto (tgt := 14) C0.1 C0.2.1 dX9_worked_332 (by decide) ?_
    exact hk14 m_kept m_keptBy m_ahead m_against m_sum m_sumBy (upd m_term (Int32.toNatClampNeg v2) v5) m_termBy m_byNot v1 v2 (v3 + 1) H locs ls hW (lv_sub hl [1, 2, 3, 0] rfl) hf
def fX9_worked_268 (m_lineFrom : (Nat → Int32)) (m_lineTo : (Nat → Int32)) (m_codes : (Nat → Int32)) (m_valueOf : (Nat → Int32)) (k14 : (Nat → Int32) → (Nat → Int32) → (Nat → Int32) → (Nat → Int32) → (Nat → Int32) → (Nat → Int32) → (Nat → Int32) → (Nat → Int32) → (Nat → Int32) → Int32 → Int32 → Int32 → Option (Int32 × (Nat → Int32) × (Nat → Int32) × (Nat → Int32) × (Nat → Int32) × (Nat → Int32) × (Nat → Int32) × (Nat → Int32) × (Nat → Int32) × (Nat → Int32))) (k268 : (Nat → Int32) → (Nat → Int32) → (Nat → Int32) → (Nat → Int32) → (Nat → Int32) → (Nat → Int32) → (Nat → Int32) → (Nat → Int32) → (Nat → Int32) → Int32 → Int32 → Int32 → Int32 → Option (Int32 × (Nat → Int32) × (Nat → Int32) × (Nat → Int32) × (Nat → Int32) × (Nat → Int32) × (Nat → Int32) × (Nat → Int32) × (Nat → Int32) × (Nat → Int32))) (m_kept : (Nat → Int32)) (m_keptBy : (Nat → Int32)) (m_ahead : (Nat → Int32)) (m_against : (Nat → Int32)) (m_sum : (Nat → Int32)) (m_sumBy : (Nat → Int32)) (m_term : (Nat → Int32)) (m_termBy : (Nat → Int32)) (m_byNot : (Nat → Int32)) (v1 : Int32) (v2 : Int32) (v3 : Int32) (v5 : Int32) : Option (Int32 × (Nat → Int32) × (Nat → Int32) × (Nat → Int32) × (Nat → Int32) × (Nat → Int32) × (Nat → Int32) × (Nat → Int32) × (Nat → Int32) × (Nat → Int32)) := if v2 ≤ 0 then (fX9_worked_300 m_lineFrom m_lineTo m_codes m_valueOf k14 m_kept m_keptBy m_ahead m_against m_sum m_sumBy m_term m_termBy m_byNot v1 v2 v3 v5) else (bif inb v2 7 then (if (m_byNot (Int32.toNatClampNeg v2)) = 1 then (if v5 = 0 then (k268 m_kept m_keptBy m_ahead m_against m_sum m_sumBy m_term m_termBy m_byNot v1 (v2 + (-1)) v3 1) else (k268 m_kept m_keptBy m_ahead m_against m_sum m_sumBy m_term m_termBy m_byNot v1 (v2 + (-1)) v3 0)) else (fX9_worked_300 m_lineFrom m_lineTo m_codes m_valueOf k14 m_kept m_keptBy m_ahead m_against m_sum m_sumBy m_term m_termBy m_byNot v1 v2 v3 v5)) else none)
set_option maxHeartbeats 4000000 in
set_option maxRecDepth 100000 in
theorem tX9_worked_268 {p : Program} {l : Launch} {e : Env} {s : State} {m : MethodId} {args : Array Value} {below : List Frame} {meth : Method} {c : Code} {D : va_G} {cy : Nat → ClassId} {ad : Nat → Nat} {P : MP} {V : MV} {I : MI} {J : MJ} {A : MI} {B : MJ} {Af : Nat → Prop} {res : Int32 × (Nat → Int32) × (Nat → Int32) × (Nat → Int32) × (Nat → Int32) × (Nat → Int32) × (Nat → Int32) × (Nat → Int32) × (Nat → Int32) × (Nat → Int32)} (C0 : CX p s m args meth c cX9_worked 6 (some .int) RX9) (hK : va_K D vwCl (tyG cy) s) (hN : NWs s) (hA : ∀ q, s.heap.size ≤ q → Af q) {k14 : (Nat → Int32) → (Nat → Int32) → (Nat → Int32) → (Nat → Int32) → (Nat → Int32) → (Nat → Int32) → (Nat → Int32) → (Nat → Int32) → (Nat → Int32) → Int32 → Int32 → Int32 → Option (Int32 × (Nat → Int32) × (Nat → Int32) × (Nat → Int32) × (Nat → Int32) × (Nat → Int32) × (Nat → Int32) × (Nat → Int32) × (Nat → Int32) × (Nat → Int32))} (hk14 : SX9_worked_14 p l e s m args below meth c D cy ad P V I J A B Af res k14) {k268 : (Nat → Int32) → (Nat → Int32) → (Nat → Int32) → (Nat → Int32) → (Nat → Int32) → (Nat → Int32) → (Nat → Int32) → (Nat → Int32) → (Nat → Int32) → Int32 → Int32 → Int32 → Int32 → Option (Int32 × (Nat → Int32) × (Nat → Int32) × (Nat → Int32) × (Nat → Int32) × (Nat → Int32) × (Nat → Int32) × (Nat → Int32) × (Nat → Int32) × (Nat → Int32))} (hk268 : SX9_worked_268 p l e s m args below meth c D cy ad P V I J A B Af res k268) : SX9_worked_268 p l e s m args below meth c D cy ad P V I J A B Af res (fX9_worked_268 (A 13) (A 14) (A 15) (A 27) k14 k268) := by
  intro m_kept m_keptBy m_ahead m_against m_sum m_sumBy m_term m_termBy m_byNot v1 v2 v3 v5 H locs ls hW hl hf
  unfold fX9_worked_268 at hf
  refine lv_iload_n C0.1 C0.2.1 dX9_worked_268 rfl (lv_at hl 2 rfl) ?_
  refine lv_if_le (tgt := 300) C0.1 C0.2.1 dX9_worked_269 (by decide) (fun hc1 => ?_) (fun hc1 => ?_)
  · have hf := ite_t hc1 hf
    exact tX9_worked_300 C0 hK hN hA hk14 m_kept m_keptBy m_ahead m_against m_sum m_sumBy m_term m_termBy m_byNot v1 v2 v3 v5 H locs ls hW hl hf
  · have hf := ite_f hc1 hf
    refine lv_aload_n C0.1 C0.2.1 dX9_worked_272 rfl (lv_at hl 0 rfl) ?_
    refine s_get (v := .ref (ad 26)) C0 hK hW 0 36 LY_X9_0 rfl fg_X9_87 rfl dX9_worked_273 ?_
    refine lv_iload_n C0.1 C0.2.1 dX9_worked_276 rfl (lv_at hl 2 rfl) ?_
    obtain ⟨hb2, hf⟩ := g_some hf
    refine s_iald (v := (m_byNot (Int32.toNatClampNeg v2))) C0 hK hW 26 LY_X9_26 hb2 rfl dX9_worked_277 ?_
    refine lv_iconst (v := 1) C0.1 C0.2.1 dX9_worked_278 kI_1 ?_
    refine lv_icmp_ne (tgt := 300) C0.1 C0.2.1 dX9_worked_279 (by decide) (fun hc3 => ?_) (fun hc3 => ?_)
    · have hf := ite_f hc3 hf
      exact tX9_worked_300 C0 hK hN hA hk14 m_kept m_keptBy m_ahead m_against m_sum m_sumBy m_term m_termBy m_byNot v1 v2 v3 v5 H locs ls hW hl hf
    · have hf := ite_t hc3 hf
      refine lv_iload C0.1 C0.2.1 dX9_worked_282 (lv_at hl 4 rfl) ?_
      refine lv_if_ne (tgt := 291) C0.1 C0.2.1 dX9_worked_284 (by decide) (fun hc4 => ?_) (fun hc4 => ?_)
      · have hf := ite_f hc4 hf
        refine lv_iconst (v := 0) C0.1 C0.2.1 dX9_worked_291 kI_0 ?_
        refine lv_istore (lv' := [(5, .int 0), (0, .ref (ad 0)), (1, .int v1), (2, .int v2), (3, .int v3)]) C0.1 C0.2.1 dX9_worked_292 hl (by decide) rfl (fun ls hl => ?_)
        refine lv_iinc (v := (v2 + (-1))) (lv' := [(2, .int (v2 + (-1))), (5, .int 0), (0, .ref (ad 0)), (1, .int v1), (3, .int v3)]) C0.1 C0.2.1 dX9_worked_294 hl (k := 3) rfl (congrArg (fun z => _ + z) kI_m1) (by decide) rfl (fun ls hl => ?_)
        refine lv_goto (tgt := 268) C0.1 C0.2.1 dX9_worked_297 (by decide) ?_
        exact hk268 m_kept m_keptBy m_ahead m_against m_sum m_sumBy m_term m_termBy m_byNot v1 (v2 + (-1)) v3 0 H locs ls hW (lv_sub hl [2, 3, 0, 4, 1] rfl) hf
      · have hf := ite_t hc4 hf
        refine lv_iconst (v := 1) C0.1 C0.2.1 dX9_worked_287 kI_1 ?_
        refine lv_goto (tgt := 292) C0.1 C0.2.1 dX9_worked_288 (by decide) ?_
        refine lv_istore (lv' := [(5, .int 1), (0, .ref (ad 0)), (1, .int v1), (2, .int v2), (3, .int v3)]) C0.1 C0.2.1 dX9_worked_292 hl (by decide) rfl (fun ls hl => ?_)
        refine lv_iinc (v := (v2 + (-1))) (lv' := [(2, .int (v2 + (-1))), (5, .int 1), (0, .ref (ad 0)), (1, .int v1), (3, .int v3)]) C0.1 C0.2.1 dX9_worked_294 hl (k := 3) rfl (congrArg (fun z => _ + z) kI_m1) (by decide) rfl (fun ls hl => ?_)
        refine lv_goto (tgt := 268) C0.1 C0.2.1 dX9_worked_297 (by decide) ?_
        exact hk268 m_kept m_keptBy m_ahead m_against m_sum m_sumBy m_term m_termBy m_byNot v1 (v2 + (-1)) v3 1 H locs ls hW (lv_sub hl [2, 3, 0, 4, 1] rfl) hf
theorem TX9_worked_268 {p : Program} {l : Launch} {e : Env} {s : State} {m : MethodId} {args : Array Value} {below : List Frame} {meth : Method} {c : Code} {D : va_G} {cy : Nat → ClassId} {ad : Nat → Nat} {P : MP} {V : MV} {I : MI} {J : MJ} {A : MI} {B : MJ} {Af : Nat → Prop} {res : Int32 × (Nat → Int32) × (Nat → Int32) × (Nat → Int32) × (Nat → Int32) × (Nat → Int32) × (Nat → Int32) × (Nat → Int32) × (Nat → Int32) × (Nat → Int32)} (C0 : CX p s m args meth c cX9_worked 6 (some .int) RX9) (hK : va_K D vwCl (tyG cy) s) (hN : NWs s) (hA : ∀ q, s.heap.size ≤ q → Af q) {k14 : (Nat → Int32) → (Nat → Int32) → (Nat → Int32) → (Nat → Int32) → (Nat → Int32) → (Nat → Int32) → (Nat → Int32) → (Nat → Int32) → (Nat → Int32) → Int32 → Int32 → Int32 → Option (Int32 × (Nat → Int32) × (Nat → Int32) × (Nat → Int32) × (Nat → Int32) × (Nat → Int32) × (Nat → Int32) × (Nat → Int32) × (Nat → Int32) × (Nat → Int32))} (hk14 : SX9_worked_14 p l e s m args below meth c D cy ad P V I J A B Af res k14) : ∀ n, SX9_worked_268 p l e s m args below meth c D cy ad P V I J A B Af res (itr (fun kk => fX9_worked_268 (A 13) (A 14) (A 15) (A 27) k14 kk) (fun _ _ _ _ _ _ _ _ _ _ _ _ _ => none) n) := by
  intro n
  induction n with
  | zero => intro m_kept m_keptBy m_ahead m_against m_sum m_sumBy m_term m_termBy m_byNot v1 v2 v3 v5 H locs ls hW hl hf; exact (nomatch (show (none : Option (Int32 × (Nat → Int32) × (Nat → Int32) × (Nat → Int32) × (Nat → Int32) × (Nat → Int32) × (Nat → Int32) × (Nat → Int32) × (Nat → Int32) × (Nat → Int32))) = some res from hf))
  | succ n ih => exact tX9_worked_268 C0 hK hN hA hk14 ih
def fX9_worked_243 (m_lineFrom : (Nat → Int32)) (m_lineTo : (Nat → Int32)) (m_codes : (Nat → Int32)) (m_valueOf : (Nat → Int32)) (k14 : (Nat → Int32) → (Nat → Int32) → (Nat → Int32) → (Nat → Int32) → (Nat → Int32) → (Nat → Int32) → (Nat → Int32) → (Nat → Int32) → (Nat → Int32) → Int32 → Int32 → Int32 → Option (Int32 × (Nat → Int32) × (Nat → Int32) × (Nat → Int32) × (Nat → Int32) × (Nat → Int32) × (Nat → Int32) × (Nat → Int32) × (Nat → Int32) × (Nat → Int32))) (m_kept : (Nat → Int32)) (m_keptBy : (Nat → Int32)) (m_ahead : (Nat → Int32)) (m_against : (Nat → Int32)) (m_sum : (Nat → Int32)) (m_sumBy : (Nat → Int32)) (m_term : (Nat → Int32)) (m_termBy : (Nat → Int32)) (m_byNot : (Nat → Int32)) (v1 : Int32) (v2 : Int32) (v3 : Int32) (v4 : Int32) (x0 : Int32) : Option (Int32 × (Nat → Int32) × (Nat → Int32) × (Nat → Int32) × (Nat → Int32) × (Nat → Int32) × (Nat → Int32) × (Nat → Int32) × (Nat → Int32) × (Nat → Int32)) := if v4 = 29 then (Option.bind (fX9_tests m_keptBy m_ahead m_term m_kept m_against m_sum m_sumBy m_termBy v2) fun y2 => (bif inb v2 7 then (itr (fun kk => fX9_worked_268 m_lineFrom m_lineTo m_codes m_valueOf k14 kk) (fun _ _ _ _ _ _ _ _ _ _ _ _ _ => none) FU y2.1 m_keptBy m_ahead y2.2.1 y2.2.2.1 y2.2.2.2.1 m_term y2.2.2.2.2 m_byNot v1 (v2 + (-1)) v3 (y2.1 (Int32.toNatClampNeg v2))) else none)) else (itr (fun kk => fX9_worked_268 m_lineFrom m_lineTo m_codes m_valueOf k14 kk) (fun _ _ _ _ _ _ _ _ _ _ _ _ _ => none) FU m_kept m_keptBy m_ahead m_against m_sum m_sumBy m_term m_termBy m_byNot v1 v2 v3 x0)
set_option maxHeartbeats 4000000 in
set_option maxRecDepth 100000 in
theorem tX9_worked_243 {p : Program} {l : Launch} {e : Env} {s : State} {m : MethodId} {args : Array Value} {below : List Frame} {meth : Method} {c : Code} {D : va_G} {cy : Nat → ClassId} {ad : Nat → Nat} {P : MP} {V : MV} {I : MI} {J : MJ} {A : MI} {B : MJ} {Af : Nat → Prop} {res : Int32 × (Nat → Int32) × (Nat → Int32) × (Nat → Int32) × (Nat → Int32) × (Nat → Int32) × (Nat → Int32) × (Nat → Int32) × (Nat → Int32) × (Nat → Int32)} (C0 : CX p s m args meth c cX9_worked 6 (some .int) RX9) (hK : va_K D vwCl (tyG cy) s) (hN : NWs s) (hA : ∀ q, s.heap.size ≤ q → Af q) {k14 : (Nat → Int32) → (Nat → Int32) → (Nat → Int32) → (Nat → Int32) → (Nat → Int32) → (Nat → Int32) → (Nat → Int32) → (Nat → Int32) → (Nat → Int32) → Int32 → Int32 → Int32 → Option (Int32 × (Nat → Int32) × (Nat → Int32) × (Nat → Int32) × (Nat → Int32) × (Nat → Int32) × (Nat → Int32) × (Nat → Int32) × (Nat → Int32) × (Nat → Int32))} (hk14 : SX9_worked_14 p l e s m args below meth c D cy ad P V I J A B Af res k14) : SX9_worked_243 p l e s m args below meth c D cy ad P V I J A B Af res (fX9_worked_243 (A 13) (A 14) (A 15) (A 27) k14) := by
  intro m_kept m_keptBy m_ahead m_against m_sum m_sumBy m_term m_termBy m_byNot v1 v2 v3 v4 x0 H locs ls hW hl hf
  unfold fX9_worked_243 at hf
  refine lv_istore (lv' := [(5, .int x0), (0, .ref (ad 0)), (1, .int v1), (2, .int v2), (3, .int v3), (4, .int v4)]) C0.1 C0.2.1 dX9_worked_243 hl (by decide) rfl (fun ls hl => ?_)
  refine lv_iload C0.1 C0.2.1 dX9_worked_245 (lv_at hl 5 rfl) ?_
  refine lv_bipush (v := 29) C0.1 C0.2.1 dX9_worked_247 kB_29 ?_
  refine lv_icmp_ne (tgt := 268) C0.1 C0.2.1 dX9_worked_249 (by decide) (fun hc1 => ?_) (fun hc1 => ?_)
  · have hf := ite_f hc1 hf
    exact TX9_worked_268 C0 hK hN hA hk14 FU m_kept m_keptBy m_ahead m_against m_sum m_sumBy m_term m_termBy m_byNot v1 v2 v3 x0 H locs ls hW (lv_sub hl [1, 2, 3, 4, 0] rfl) hf
  · have hf := ite_t hc1 hf
    refine lv_aload_n C0.1 C0.2.1 dX9_worked_252 rfl (lv_at hl 1 rfl) ?_
    refine lv_iload_n C0.1 C0.2.1 dX9_worked_253 rfl (lv_at hl 3 rfl) ?_
    obtain ⟨y2, hy2, hf⟩ := b_some hf
    refine c_Vv C0 hK hN hl.1 hW hA (KX9_tests l D cy  ad P V (gp I []) (gp J []) (gm A [(18, m_kept), (19, m_keptBy), (20, m_ahead), (21, m_against), (22, m_sum), (23, m_sumBy), (24, m_term), (25, m_termBy), (26, m_byNot)]) (gm B []) v2 hy2) (JN_id rfl rfl rfl rfl) (Uw_V uw_1455 uw_1457 us_74 uw_14 uw_1458) rfl rfl hd_X9_tests ⟨rfl, rfl⟩ rfl (dn_some LY_X9_0) rfl rfl rfl dX9_worked_254 ⟨Nat.zero_le _, Nat.zero_le _⟩ (fun H locs hW => ?_)
    have hW : wd D (dn cy LY_X9 ad P V (gp I []) (gp J []) (gm A [(18, y2.1), (19, m_keptBy), (20, m_ahead), (21, y2.2.1), (22, y2.2.2.1), (23, y2.2.2.2.1), (24, m_term), (25, y2.2.2.2.2), (26, m_byNot)]) (gm B [])) Af s.heap H locs := hW
    refine lv_aload_n C0.1 C0.2.1 dX9_worked_257 rfl (lv_at hl 1 rfl) ?_
    refine s_get (v := .ref (ad 18)) C0 hK hW 0 28 LY_X9_0 rfl fg_X9_63 rfl dX9_worked_258 ?_
    refine lv_iload_n C0.1 C0.2.1 dX9_worked_261 rfl (lv_at hl 3 rfl) ?_
    obtain ⟨hb3, hf⟩ := g_some hf
    refine s_iald (v := (y2.1 (Int32.toNatClampNeg v2))) C0 hK hW 18 LY_X9_18 hb3 rfl dX9_worked_262 ?_
    refine lv_istore (lv' := [(5, .int (y2.1 (Int32.toNatClampNeg v2))), (0, .ref (ad 0)), (1, .int v1), (2, .int v2), (3, .int v3), (4, .int v4)]) C0.1 C0.2.1 dX9_worked_263 hl (by decide) rfl (fun ls hl => ?_)
    refine lv_iinc (v := (v2 + (-1))) (lv' := [(2, .int (v2 + (-1))), (5, .int (y2.1 (Int32.toNatClampNeg v2))), (0, .ref (ad 0)), (1, .int v1), (3, .int v3), (4, .int v4)]) C0.1 C0.2.1 dX9_worked_265 hl (k := 3) rfl (congrArg (fun z => _ + z) kI_m1) (by decide) rfl (fun ls hl => ?_)
    exact TX9_worked_268 C0 hK hN hA hk14 FU y2.1 m_keptBy m_ahead y2.2.1 y2.2.2.1 y2.2.2.2.1 m_term y2.2.2.2.2 m_byNot v1 (v2 + (-1)) v3 (y2.1 (Int32.toNatClampNeg v2)) H locs ls hW (lv_sub hl [2, 3, 0, 4, 1] rfl) hf
def fX9_worked_14 (m_lineFrom : (Nat → Int32)) (m_lineTo : (Nat → Int32)) (m_codes : (Nat → Int32)) (m_valueOf : (Nat → Int32)) (k14 : (Nat → Int32) → (Nat → Int32) → (Nat → Int32) → (Nat → Int32) → (Nat → Int32) → (Nat → Int32) → (Nat → Int32) → (Nat → Int32) → (Nat → Int32) → Int32 → Int32 → Int32 → Option (Int32 × (Nat → Int32) × (Nat → Int32) × (Nat → Int32) × (Nat → Int32) × (Nat → Int32) × (Nat → Int32) × (Nat → Int32) × (Nat → Int32) × (Nat → Int32))) (m_kept : (Nat → Int32)) (m_keptBy : (Nat → Int32)) (m_ahead : (Nat → Int32)) (m_against : (Nat → Int32)) (m_sum : (Nat → Int32)) (m_sumBy : (Nat → Int32)) (m_term : (Nat → Int32)) (m_termBy : (Nat → Int32)) (m_byNot : (Nat → Int32)) (v1 : Int32) (v2 : Int32) (v3 : Int32) : Option (Int32 × (Nat → Int32) × (Nat → Int32) × (Nat → Int32) × (Nat → Int32) × (Nat → Int32) × (Nat → Int32) × (Nat → Int32) × (Nat → Int32) × (Nat → Int32)) := bif inb v1 2 then (if (m_lineTo (Int32.toNatClampNeg v1)) ≤ v3 then (Option.bind (fX9_tests m_keptBy m_ahead m_term m_kept m_against m_sum m_sumBy m_termBy 0) fun y3 => (some ((y3.1 0), y3.1, m_keptBy, m_ahead, y3.2.1, y3.2.2.1, y3.2.2.2.1, m_term, y3.2.2.2.2, m_byNot))) else (bif inb v3 2000 then (if (m_codes (Int32.toNatClampNeg v3)) = 28 then (fX9_worked_46 m_lineFrom m_lineTo m_codes m_valueOf k14 m_kept m_keptBy m_ahead m_against m_sum m_sumBy m_term m_termBy m_byNot v1 v2 v3 (m_codes (Int32.toNatClampNeg v3))) else (if (m_codes (Int32.toNatClampNeg v3)) = 30 then (fX9_worked_46 m_lineFrom m_lineTo m_codes m_valueOf k14 m_kept m_keptBy m_ahead m_against m_sum m_sumBy m_term m_termBy m_byNot v1 v2 v3 (m_codes (Int32.toNatClampNeg v3))) else (if (m_codes (Int32.toNatClampNeg v3)) = 20 then (fX9_worked_89 m_lineFrom m_lineTo m_codes m_valueOf k14 m_kept m_keptBy m_ahead m_against m_sum m_sumBy m_term m_termBy m_byNot v1 v2 v3 (m_codes (Int32.toNatClampNeg v3))) else (if (m_codes (Int32.toNatClampNeg v3)) = 21 then (fX9_worked_89 m_lineFrom m_lineTo m_codes m_valueOf k14 m_kept m_keptBy m_ahead m_against m_sum m_sumBy m_term m_termBy m_byNot v1 v2 v3 (m_codes (Int32.toNatClampNeg v3))) else (if (m_codes (Int32.toNatClampNeg v3)) = 22 then (bif inb v2 7 then (k14 m_kept m_keptBy m_ahead m_against m_sum m_sumBy m_term (upd m_termBy (Int32.toNatClampNeg v2) (m_codes (Int32.toNatClampNeg v3))) m_byNot v1 v2 (v3 + 1)) else none) else (if (m_codes (Int32.toNatClampNeg v3)) = 24 then (fX9_worked_137 m_lineFrom m_lineTo m_codes m_valueOf k14 m_kept m_keptBy m_ahead m_against m_sum m_sumBy m_term m_termBy m_byNot v1 v2 v3 (m_codes (Int32.toNatClampNeg v3))) else (if (m_codes (Int32.toNatClampNeg v3)) = 25 then (fX9_worked_137 m_lineFrom m_lineTo m_codes m_valueOf k14 m_kept m_keptBy m_ahead m_against m_sum m_sumBy m_term m_termBy m_byNot v1 v2 v3 (m_codes (Int32.toNatClampNeg v3))) else (if (m_codes (Int32.toNatClampNeg v3)) = 26 then (fX9_worked_194 m_lineFrom m_lineTo m_codes m_valueOf k14 m_kept m_keptBy m_ahead m_against m_sum m_sumBy m_term m_termBy m_byNot v1 v2 v3 (m_codes (Int32.toNatClampNeg v3))) else (if (m_codes (Int32.toNatClampNeg v3)) = 27 then (fX9_worked_194 m_lineFrom m_lineTo m_codes m_valueOf k14 m_kept m_keptBy m_ahead m_against m_sum m_sumBy m_term m_termBy m_byNot v1 v2 v3 (m_codes (Int32.toNatClampNeg v3))) else (if (m_codes (Int32.toNatClampNeg v3)) < 100 then (if 20 ≤ (m_codes (Int32.toNatClampNeg v3)) then (fX9_worked_243 m_lineFrom m_lineTo m_codes m_valueOf k14 m_kept m_keptBy m_ahead m_against m_sum m_sumBy m_term m_termBy m_byNot v1 v2 v3 (m_codes (Int32.toNatClampNeg v3)) 0) else (bif inb (m_codes (Int32.toNatClampNeg v3)) 20 then (fX9_worked_243 m_lineFrom m_lineTo m_codes m_valueOf k14 m_kept m_keptBy m_ahead m_against m_sum m_sumBy m_term m_termBy m_byNot v1 v2 v3 (m_codes (Int32.toNatClampNeg v3)) (m_valueOf (Int32.toNatClampNeg (m_codes (Int32.toNatClampNeg v3))))) else none)) else (fX9_worked_243 m_lineFrom m_lineTo m_codes m_valueOf k14 m_kept m_keptBy m_ahead m_against m_sum m_sumBy m_term m_termBy m_byNot v1 v2 v3 (m_codes (Int32.toNatClampNeg v3)) ((m_codes (Int32.toNatClampNeg v3)) - 100)))))))))))) else none)) else none
set_option maxHeartbeats 4000000 in
set_option maxRecDepth 100000 in
theorem tX9_worked_14 {p : Program} {l : Launch} {e : Env} {s : State} {m : MethodId} {args : Array Value} {below : List Frame} {meth : Method} {c : Code} {D : va_G} {cy : Nat → ClassId} {ad : Nat → Nat} {P : MP} {V : MV} {I : MI} {J : MJ} {A : MI} {B : MJ} {Af : Nat → Prop} {res : Int32 × (Nat → Int32) × (Nat → Int32) × (Nat → Int32) × (Nat → Int32) × (Nat → Int32) × (Nat → Int32) × (Nat → Int32) × (Nat → Int32) × (Nat → Int32)} (C0 : CX p s m args meth c cX9_worked 6 (some .int) RX9) (hK : va_K D vwCl (tyG cy) s) (hN : NWs s) (hA : ∀ q, s.heap.size ≤ q → Af q) {k14 : (Nat → Int32) → (Nat → Int32) → (Nat → Int32) → (Nat → Int32) → (Nat → Int32) → (Nat → Int32) → (Nat → Int32) → (Nat → Int32) → (Nat → Int32) → Int32 → Int32 → Int32 → Option (Int32 × (Nat → Int32) × (Nat → Int32) × (Nat → Int32) × (Nat → Int32) × (Nat → Int32) × (Nat → Int32) × (Nat → Int32) × (Nat → Int32) × (Nat → Int32))} (hk14 : SX9_worked_14 p l e s m args below meth c D cy ad P V I J A B Af res k14) : SX9_worked_14 p l e s m args below meth c D cy ad P V I J A B Af res (fX9_worked_14 (A 13) (A 14) (A 15) (A 27) k14) := by
  intro m_kept m_keptBy m_ahead m_against m_sum m_sumBy m_term m_termBy m_byNot v1 v2 v3 H locs ls hW hl hf
  unfold fX9_worked_14 at hf
  refine lv_iload_n C0.1 C0.2.1 dX9_worked_14 rfl (lv_at hl 3 rfl) ?_
  refine lv_aload_n C0.1 C0.2.1 dX9_worked_15 rfl (lv_at hl 0 rfl) ?_
  refine s_get (v := .ref (ad 14)) C0 hK hW 0 22 LY_X9_0 rfl fg_X9_50 rfl dX9_worked_16 ?_
  refine lv_iload_n C0.1 C0.2.1 dX9_worked_19 rfl (lv_at hl 1 rfl) ?_
  obtain ⟨hb1, hf⟩ := g_some hf
  refine s_iald (v := ((A 14) (Int32.toNatClampNeg v1))) C0 hK hW 14 LY_X9_14 hb1 rfl dX9_worked_20 ?_
  refine lv_icmp_ge (tgt := 335) C0.1 C0.2.1 dX9_worked_21 (by decide) (fun hc2 => ?_) (fun hc2 => ?_)
  · have hf := ite_t hc2 hf
    refine lv_aload_n C0.1 C0.2.1 dX9_worked_335 rfl (lv_at hl 0 rfl) ?_
    refine lv_iconst (v := 0) C0.1 C0.2.1 dX9_worked_336 kI_0 ?_
    obtain ⟨y3, hy3, hf⟩ := b_some hf
    refine c_Vv C0 hK hN hl.1 hW hA (KX9_tests l D cy  ad P V (gp I []) (gp J []) (gm A [(18, m_kept), (19, m_keptBy), (20, m_ahead), (21, m_against), (22, m_sum), (23, m_sumBy), (24, m_term), (25, m_termBy), (26, m_byNot)]) (gm B []) 0 hy3) (JN_id rfl rfl rfl rfl) (Uw_V uw_1455 uw_1457 us_74 uw_14 uw_1458) rfl rfl hd_X9_tests ⟨rfl, rfl⟩ rfl (dn_some LY_X9_0) rfl rfl rfl dX9_worked_337 ⟨Nat.zero_le _, Nat.zero_le _⟩ (fun H locs hW => ?_)
    have hW : wd D (dn cy LY_X9 ad P V (gp I []) (gp J []) (gm A [(18, y3.1), (19, m_keptBy), (20, m_ahead), (21, y3.2.1), (22, y3.2.2.1), (23, y3.2.2.2.1), (24, m_term), (25, y3.2.2.2.2), (26, m_byNot)]) (gm B [])) Af s.heap H locs := hW
    refine lv_aload_n C0.1 C0.2.1 dX9_worked_340 rfl (lv_at hl 0 rfl) ?_
    refine s_get (v := .ref (ad 18)) C0 hK hW 0 28 LY_X9_0 rfl fg_X9_63 rfl dX9_worked_341 ?_
    refine lv_iconst (v := 0) C0.1 C0.2.1 dX9_worked_344 kI_0 ?_
    refine s_iald (v := (y3.1 0)) C0 hK hW 18 LY_X9_18 rfl (congrArg _ tc_0) dX9_worked_345 ?_
    obtain rfl := Option.some.inj hf
    exact r_int C0 hK hW dX9_worked_346
  · have hf := ite_f hc2 hf
    refine lv_aload_n C0.1 C0.2.1 dX9_worked_24 rfl (lv_at hl 0 rfl) ?_
    refine s_get (v := .ref (ad 15)) C0 hK hW 0 23 LY_X9_0 rfl fg_X9_53 rfl dX9_worked_25 ?_
    refine lv_iload_n C0.1 C0.2.1 dX9_worked_28 rfl (lv_at hl 3 rfl) ?_
    obtain ⟨hb4, hf⟩ := g_some hf
    refine s_iald (v := ((A 15) (Int32.toNatClampNeg v3))) C0 hK hW 15 LY_X9_15 hb4 rfl dX9_worked_29 ?_
    refine lv_istore (lv' := [(4, .int ((A 15) (Int32.toNatClampNeg v3))), (0, .ref (ad 0)), (1, .int v1), (2, .int v2), (3, .int v3)]) C0.1 C0.2.1 dX9_worked_30 hl (by decide) rfl (fun ls hl => ?_)
    refine lv_iload C0.1 C0.2.1 dX9_worked_32 (lv_at hl 0 rfl) ?_
    refine lv_bipush (v := 28) C0.1 C0.2.1 dX9_worked_34 kB_28 ?_
    refine lv_icmp_eq (tgt := 46) C0.1 C0.2.1 dX9_worked_36 (by decide) (fun hc5 => ?_) (fun hc5 => ?_)
    · have hf := ite_t hc5 hf
      exact tX9_worked_46 C0 hK hN hA hk14 m_kept m_keptBy m_ahead m_against m_sum m_sumBy m_term m_termBy m_byNot v1 v2 v3 ((A 15) (Int32.toNatClampNeg v3)) H locs ls hW (lv_sub hl [1, 2, 3, 4, 0] rfl) hf
    · have hf := ite_f hc5 hf
      refine lv_iload C0.1 C0.2.1 dX9_worked_39 (lv_at hl 0 rfl) ?_
      refine lv_bipush (v := 30) C0.1 C0.2.1 dX9_worked_41 kB_30 ?_
      refine lv_icmp_ne (tgt := 75) C0.1 C0.2.1 dX9_worked_43 (by decide) (fun hc6 => ?_) (fun hc6 => ?_)
      · have hf := ite_f hc6 hf
        refine lv_iload C0.1 C0.2.1 dX9_worked_75 (lv_at hl 0 rfl) ?_
        refine lv_bipush (v := 20) C0.1 C0.2.1 dX9_worked_77 kB_20 ?_
        refine lv_icmp_eq (tgt := 89) C0.1 C0.2.1 dX9_worked_79 (by decide) (fun hc7 => ?_) (fun hc7 => ?_)
        · have hf := ite_t hc7 hf
          exact tX9_worked_89 C0 hK hN hA hk14 m_kept m_keptBy m_ahead m_against m_sum m_sumBy m_term m_termBy m_byNot v1 v2 v3 ((A 15) (Int32.toNatClampNeg v3)) H locs ls hW (lv_sub hl [1, 2, 3, 4, 0] rfl) hf
        · have hf := ite_f hc7 hf
          refine lv_iload C0.1 C0.2.1 dX9_worked_82 (lv_at hl 0 rfl) ?_
          refine lv_bipush (v := 21) C0.1 C0.2.1 dX9_worked_84 kB_21 ?_
          refine lv_icmp_ne (tgt := 105) C0.1 C0.2.1 dX9_worked_86 (by decide) (fun hc8 => ?_) (fun hc8 => ?_)
          · have hf := ite_f hc8 hf
            refine lv_iload C0.1 C0.2.1 dX9_worked_105 (lv_at hl 0 rfl) ?_
            refine lv_bipush (v := 22) C0.1 C0.2.1 dX9_worked_107 kB_22 ?_
            refine lv_icmp_ne (tgt := 123) C0.1 C0.2.1 dX9_worked_109 (by decide) (fun hc9 => ?_) (fun hc9 => ?_)
            · have hf := ite_f hc9 hf
              refine lv_iload C0.1 C0.2.1 dX9_worked_123 (lv_at hl 0 rfl) ?_
              refine lv_bipush (v := 24) C0.1 C0.2.1 dX9_worked_125 kB_24 ?_
              refine lv_icmp_eq (tgt := 137) C0.1 C0.2.1 dX9_worked_127 (by decide) (fun hc10 => ?_) (fun hc10 => ?_)
              · have hf := ite_t hc10 hf
                exact tX9_worked_137 C0 hK hN hA hk14 m_kept m_keptBy m_ahead m_against m_sum m_sumBy m_term m_termBy m_byNot v1 v2 v3 ((A 15) (Int32.toNatClampNeg v3)) H locs ls hW (lv_sub hl [1, 2, 3, 4, 0] rfl) hf
              · have hf := ite_f hc10 hf
                refine lv_iload C0.1 C0.2.1 dX9_worked_130 (lv_at hl 0 rfl) ?_
                refine lv_bipush (v := 25) C0.1 C0.2.1 dX9_worked_132 kB_25 ?_
                refine lv_icmp_ne (tgt := 180) C0.1 C0.2.1 dX9_worked_134 (by decide) (fun hc11 => ?_) (fun hc11 => ?_)
                · have hf := ite_f hc11 hf
                  refine lv_iload C0.1 C0.2.1 dX9_worked_180 (lv_at hl 0 rfl) ?_
                  refine lv_bipush (v := 26) C0.1 C0.2.1 dX9_worked_182 kB_26 ?_
                  refine lv_icmp_eq (tgt := 194) C0.1 C0.2.1 dX9_worked_184 (by decide) (fun hc12 => ?_) (fun hc12 => ?_)
                  · have hf := ite_t hc12 hf
                    exact tX9_worked_194 C0 hK hN hA hk14 m_kept m_keptBy m_ahead m_against m_sum m_sumBy m_term m_termBy m_byNot v1 v2 v3 ((A 15) (Int32.toNatClampNeg v3)) H locs ls hW (lv_sub hl [1, 2, 3, 4, 0] rfl) hf
                  · have hf := ite_f hc12 hf
                    refine lv_iload C0.1 C0.2.1 dX9_worked_187 (lv_at hl 0 rfl) ?_
                    refine lv_bipush (v := 27) C0.1 C0.2.1 dX9_worked_189 kB_27 ?_
                    refine lv_icmp_ne (tgt := 210) C0.1 C0.2.1 dX9_worked_191 (by decide) (fun hc13 => ?_) (fun hc13 => ?_)
                    · have hf := ite_f hc13 hf
                      refine lv_iload C0.1 C0.2.1 dX9_worked_210 (lv_at hl 0 rfl) ?_
                      refine lv_bipush (v := 100) C0.1 C0.2.1 dX9_worked_212 kB_100 ?_
                      refine lv_icmp_lt (tgt := 225) C0.1 C0.2.1 dX9_worked_214 (by decide) (fun hc14 => ?_) (fun hc14 => ?_)
                      · have hf := ite_t hc14 hf
                        refine lv_iload C0.1 C0.2.1 dX9_worked_225 (lv_at hl 0 rfl) ?_
                        refine lv_bipush (v := 20) C0.1 C0.2.1 dX9_worked_227 kB_20 ?_
                        refine lv_icmp_ge (tgt := 242) C0.1 C0.2.1 dX9_worked_229 (by decide) (fun hc15 => ?_) (fun hc15 => ?_)
                        · have hf := ite_t hc15 hf
                          refine lv_iconst (v := 0) C0.1 C0.2.1 dX9_worked_242 kI_0 ?_
                          exact tX9_worked_243 C0 hK hN hA hk14 m_kept m_keptBy m_ahead m_against m_sum m_sumBy m_term m_termBy m_byNot v1 v2 v3 ((A 15) (Int32.toNatClampNeg v3)) 0 H locs ls hW (lv_sub hl [1, 2, 3, 4, 0] rfl) hf
                        · have hf := ite_f hc15 hf
                          refine lv_aload_n C0.1 C0.2.1 dX9_worked_232 rfl (lv_at hl 1 rfl) ?_
                          refine s_get (v := .ref (ad 27)) C0 hK hW 0 37 LY_X9_0 rfl fg_X9_90 rfl dX9_worked_233 ?_
                          refine lv_iload C0.1 C0.2.1 dX9_worked_236 (lv_at hl 0 rfl) ?_
                          obtain ⟨hb16, hf⟩ := g_some hf
                          refine s_iald (v := ((A 27) (Int32.toNatClampNeg ((A 15) (Int32.toNatClampNeg v3))))) C0 hK hW 27 LY_X9_27 hb16 rfl dX9_worked_238 ?_
                          refine lv_goto (tgt := 243) C0.1 C0.2.1 dX9_worked_239 (by decide) ?_
                          exact tX9_worked_243 C0 hK hN hA hk14 m_kept m_keptBy m_ahead m_against m_sum m_sumBy m_term m_termBy m_byNot v1 v2 v3 ((A 15) (Int32.toNatClampNeg v3)) ((A 27) (Int32.toNatClampNeg ((A 15) (Int32.toNatClampNeg v3)))) H locs ls hW (lv_sub hl [1, 2, 3, 4, 0] rfl) hf
                      · have hf := ite_f hc14 hf
                        refine lv_iload C0.1 C0.2.1 dX9_worked_217 (lv_at hl 0 rfl) ?_
                        refine lv_bipush (v := 100) C0.1 C0.2.1 dX9_worked_219 kB_100 ?_
                        refine lv_isub C0.1 C0.2.1 dX9_worked_221 ?_
                        refine lv_goto (tgt := 243) C0.1 C0.2.1 dX9_worked_222 (by decide) ?_
                        exact tX9_worked_243 C0 hK hN hA hk14 m_kept m_keptBy m_ahead m_against m_sum m_sumBy m_term m_termBy m_byNot v1 v2 v3 ((A 15) (Int32.toNatClampNeg v3)) (((A 15) (Int32.toNatClampNeg v3)) - 100) H locs ls hW (lv_sub hl [1, 2, 3, 4, 0] rfl) hf
                    · have hf := ite_t hc13 hf
                      exact tX9_worked_194 C0 hK hN hA hk14 m_kept m_keptBy m_ahead m_against m_sum m_sumBy m_term m_termBy m_byNot v1 v2 v3 ((A 15) (Int32.toNatClampNeg v3)) H locs ls hW (lv_sub hl [1, 2, 3, 4, 0] rfl) hf
                · have hf := ite_t hc11 hf
                  exact tX9_worked_137 C0 hK hN hA hk14 m_kept m_keptBy m_ahead m_against m_sum m_sumBy m_term m_termBy m_byNot v1 v2 v3 ((A 15) (Int32.toNatClampNeg v3)) H locs ls hW (lv_sub hl [1, 2, 3, 4, 0] rfl) hf
            · have hf := ite_t hc9 hf
              refine lv_aload_n C0.1 C0.2.1 dX9_worked_112 rfl (lv_at hl 1 rfl) ?_
              refine s_get (v := .ref (ad 25)) C0 hK hW 0 35 LY_X9_0 rfl fg_X9_84 rfl dX9_worked_113 ?_
              refine lv_iload_n C0.1 C0.2.1 dX9_worked_116 rfl (lv_at hl 3 rfl) ?_
              refine lv_iload C0.1 C0.2.1 dX9_worked_117 (lv_at hl 0 rfl) ?_
              obtain ⟨hb17, hf⟩ := g_some hf
              refine s_iast (f := (upd m_termBy (Int32.toNatClampNeg v2) ((A 15) (Int32.toNatClampNeg v3)))) C0 hK hW 25 LY_X9_25 hb17 rfl rfl dX9_worked_119 (fun H locs hW => ?_)
              have hW : wd D (dn cy LY_X9 ad P V (gp I []) (gp J []) (gm A [(18, m_kept), (19, m_keptBy), (20, m_ahead), (21, m_against), (22, m_sum), (23, m_sumBy), (24, m_term), (25, (upd m_termBy (Int32.toNatClampNeg v2) ((A 15) (Int32.toNatClampNeg v3)))), (26, m_byNot)]) (gm B [])) Af s.heap H locs := hW
              refine lv_goto (tgt := 329) C0.1 C0.2.1 dX9_worked_120 (by decide) ?_
              refine lv_iinc (v := (v3 + 1)) (lv' := [(3, .int (v3 + 1)), (4, .int ((A 15) (Int32.toNatClampNeg v3))), (0, .ref (ad 0)), (1, .int v1), (2, .int v2)]) C0.1 C0.2.1 dX9_worked_329 hl (k := 4) rfl (congrArg (fun z => _ + z) kI_1) (by decide) rfl (fun ls hl => ?_)
              refine lv_goto (tgt := 14) C0.1 C0.2.1 dX9_worked_332 (by decide) ?_
              exact hk14 m_kept m_keptBy m_ahead m_against m_sum m_sumBy m_term (upd m_termBy (Int32.toNatClampNeg v2) ((A 15) (Int32.toNatClampNeg v3))) m_byNot v1 v2 (v3 + 1) H locs ls hW (lv_sub hl [2, 3, 4, 0] rfl) hf
          · have hf := ite_t hc8 hf
            exact tX9_worked_89 C0 hK hN hA hk14 m_kept m_keptBy m_ahead m_against m_sum m_sumBy m_term m_termBy m_byNot v1 v2 v3 ((A 15) (Int32.toNatClampNeg v3)) H locs ls hW (lv_sub hl [1, 2, 3, 4, 0] rfl) hf
      · have hf := ite_t hc6 hf
        exact tX9_worked_46 C0 hK hN hA hk14 m_kept m_keptBy m_ahead m_against m_sum m_sumBy m_term m_termBy m_byNot v1 v2 v3 ((A 15) (Int32.toNatClampNeg v3)) H locs ls hW (lv_sub hl [1, 2, 3, 4, 0] rfl) hf
theorem TX9_worked_14 {p : Program} {l : Launch} {e : Env} {s : State} {m : MethodId} {args : Array Value} {below : List Frame} {meth : Method} {c : Code} {D : va_G} {cy : Nat → ClassId} {ad : Nat → Nat} {P : MP} {V : MV} {I : MI} {J : MJ} {A : MI} {B : MJ} {Af : Nat → Prop} {res : Int32 × (Nat → Int32) × (Nat → Int32) × (Nat → Int32) × (Nat → Int32) × (Nat → Int32) × (Nat → Int32) × (Nat → Int32) × (Nat → Int32) × (Nat → Int32)} (C0 : CX p s m args meth c cX9_worked 6 (some .int) RX9) (hK : va_K D vwCl (tyG cy) s) (hN : NWs s) (hA : ∀ q, s.heap.size ≤ q → Af q) : ∀ n, SX9_worked_14 p l e s m args below meth c D cy ad P V I J A B Af res (itr (fun kk => fX9_worked_14 (A 13) (A 14) (A 15) (A 27) kk) (fun _ _ _ _ _ _ _ _ _ _ _ _ => none) n) := by
  intro n
  induction n with
  | zero => intro m_kept m_keptBy m_ahead m_against m_sum m_sumBy m_term m_termBy m_byNot v1 v2 v3 H locs ls hW hl hf; exact (nomatch (show (none : Option (Int32 × (Nat → Int32) × (Nat → Int32) × (Nat → Int32) × (Nat → Int32) × (Nat → Int32) × (Nat → Int32) × (Nat → Int32) × (Nat → Int32) × (Nat → Int32))) = some res from hf))
  | succ n ih => exact tX9_worked_14 C0 hK hN hA  ih
def fX9_worked (m_lineFrom : (Nat → Int32)) (m_lineTo : (Nat → Int32)) (m_codes : (Nat → Int32)) (m_valueOf : (Nat → Int32)) (m_kept : (Nat → Int32)) (m_keptBy : (Nat → Int32)) (m_ahead : (Nat → Int32)) (m_against : (Nat → Int32)) (m_sum : (Nat → Int32)) (m_sumBy : (Nat → Int32)) (m_term : (Nat → Int32)) (m_termBy : (Nat → Int32)) (m_byNot : (Nat → Int32)) (v1 : Int32) : Option (Int32 × (Nat → Int32) × (Nat → Int32) × (Nat → Int32) × (Nat → Int32) × (Nat → Int32) × (Nat → Int32) × (Nat → Int32) × (Nat → Int32) × (Nat → Int32)) := Option.bind (fX9_opens m_keptBy m_against m_sum m_sumBy m_termBy 0) fun y1 => (bif inb v1 2 then (itr (fun kk => fX9_worked_14 m_lineFrom m_lineTo m_codes m_valueOf kk) (fun _ _ _ _ _ _ _ _ _ _ _ _ => none) FU m_kept y1.1 m_ahead y1.2.1 y1.2.2.1 y1.2.2.2.1 m_term y1.2.2.2.2 m_byNot v1 0 (m_lineFrom (Int32.toNatClampNeg v1))) else none)
set_option maxHeartbeats 4000000 in
set_option maxRecDepth 100000 in
theorem KX9_worked (l : Launch) (D : va_G) (cy : Nat → ClassId) (ad : Nat → Nat) (P : MP) (V : MV) (I : MI) (J : MJ) (A : MI) (B : MJ) (v1 : Int32) {res : Int32 × (Nat → Int32) × (Nat → Int32) × (Nat → Int32) × (Nat → Int32) × (Nat → Int32) × (Nat → Int32) × (Nat → Int32) × (Nat → Int32) × (Nat → Int32)} (hf : fX9_worked (A 13) (A 14) (A 15) (A 27) (A 18) (A 19) (A 20) (A 21) (A 22) (A 23) (A 24) (A 25) (A 26) v1 = some res) : CG l yX9_worked cX9_worked 6 (some .int) rmX9_worked D cy (dn cy LY_X9 ad P V I J A B) [.ref (ad 0), .int v1] (some (.int res.1)) (dn cy LY_X9 ad P V (gp I []) (gp J []) (gm A [(18, res.2.1), (19, res.2.2.1), (20, res.2.2.2.1), (21, res.2.2.2.2.1), (22, res.2.2.2.2.2.1), (23, res.2.2.2.2.2.2.1), (24, res.2.2.2.2.2.2.2.1), (25, res.2.2.2.2.2.2.2.2.1), (26, res.2.2.2.2.2.2.2.2.2)]) (gm B [])) := by
  refine CG.of (own := RX9) (by decide) rfl rfl ?_
  intro p e s m below meth c ls Af C0 hK hN hA hW hl
  have hW : wd D (dn cy LY_X9 ad P V (gp I []) (gp J []) (gm A [(18, (A 18)), (19, (A 19)), (20, (A 20)), (21, (A 21)), (22, (A 22)), (23, (A 23)), (24, (A 24)), (25, (A 25)), (26, (A 26))]) (gm B [])) Af s.heap s.heap [] := wd_sel [] [] [18, 19, 20, 21, 22, 23, 24, 25, 26] [] hW
  have hl : lv_has ls 6 [(0, .ref (ad 0)), (1, .int v1)] := hl
  unfold fX9_worked at hf
  refine lv_iconst (v := 0) C0.1 C0.2.1 dX9_worked_0 kI_0 ?_
  refine lv_istore_n (lv' := [(2, .int 0), (0, .ref (ad 0)), (1, .int v1)]) C0.1 C0.2.1 dX9_worked_1 rfl hl (by decide) rfl (fun ls hl => ?_)
  refine lv_aload_n C0.1 C0.2.1 dX9_worked_2 rfl (lv_at hl 1 rfl) ?_
  refine lv_iconst (v := 0) C0.1 C0.2.1 dX9_worked_3 kI_0 ?_
  obtain ⟨y1, hy1, hf⟩ := b_some hf
  refine c_Vv C0 hK hN hl.1 hW hA (KX9_opens l D cy  ad P V (gp I []) (gp J []) (gm A [(18, (A 18)), (19, (A 19)), (20, (A 20)), (21, (A 21)), (22, (A 22)), (23, (A 23)), (24, (A 24)), (25, (A 25)), (26, (A 26))]) (gm B []) 0 hy1) (JN_id rfl rfl rfl rfl) (Uw_V uw_1447 uw_1449 us_72 uw_14 uw_1450) rfl rfl hd_X9_opens ⟨rfl, rfl⟩ rfl (dn_some LY_X9_0) rfl rfl rfl dX9_worked_4 ⟨Nat.zero_le _, Nat.zero_le _⟩ (fun H locs hW => ?_)
  have hW : wd D (dn cy LY_X9 ad P V (gp I []) (gp J []) (gm A [(18, (A 18)), (19, y1.1), (20, (A 20)), (21, y1.2.1), (22, y1.2.2.1), (23, y1.2.2.2.1), (24, (A 24)), (25, y1.2.2.2.2), (26, (A 26))]) (gm B [])) Af s.heap H locs := hW
  refine lv_aload_n C0.1 C0.2.1 dX9_worked_7 rfl (lv_at hl 1 rfl) ?_
  refine s_get (v := .ref (ad 13)) C0 hK hW 0 21 LY_X9_0 rfl fg_X9_47 rfl dX9_worked_8 ?_
  refine lv_iload_n C0.1 C0.2.1 dX9_worked_11 rfl (lv_at hl 2 rfl) ?_
  obtain ⟨hb2, hf⟩ := g_some hf
  refine s_iald (v := ((A 13) (Int32.toNatClampNeg v1))) C0 hK hW 13 LY_X9_13 hb2 rfl dX9_worked_12 ?_
  refine lv_istore_n (lv' := [(3, .int ((A 13) (Int32.toNatClampNeg v1))), (2, .int 0), (0, .ref (ad 0)), (1, .int v1)]) C0.1 C0.2.1 dX9_worked_13 rfl hl (by decide) rfl (fun ls hl => ?_)
  exact TX9_worked_14 C0 hK hN hA  FU (A 18) y1.1 (A 20) y1.2.1 y1.2.2.1 y1.2.2.2.1 (A 24) y1.2.2.2.2 (A 26) v1 0 ((A 13) (Int32.toNatClampNeg v1)) _ _ ls hW (lv_sub hl [2, 3, 1, 0] rfl) hf
