-- X9_copies
def rmX9_copies : Room := { frames := 1, cells := 0, slots := 0, locals := 21 }
def SX9_copies_3 (p : Program) (l : Launch) (e : Env) (s : State) (m : MethodId) (args : Array Value) (below : List Frame) (meth : Method) (c : Code) (D : va_G) (cy : Nat → ClassId) (n1 : Nat) (n2 : Nat) (ad : Nat → Nat) (P : MP) (V : MV) (I : MI) (J : MJ) (A : MI) (B : MJ) (Af : Nat → Prop) (res : (Nat → Int32)) (k : (Nat → Int32) → Int32 → Int32 → Int32 → Option ((Nat → Int32))) : Prop := ∀ (a2 : (Nat → Int32)) (v1 : Int32) (v3 : Int32) (v4 : Int32) (H : Heap) (locs : List Loc) (ls : Array Slot), wd D (dn cy (LY_aIaI n1 n2) ad P V (gp I []) (gp J []) (gm A [(1, a2)]) (gm B [])) Af s.heap H locs → lv_has ls 5 [(0, .ref (ad 0)), (1, .int v1), (2, .ref (ad 1)), (3, .int v3), (4, .int v4)] → k a2 v1 v3 v4 = some res → W p l e rmX9_copies s m args below meth c H locs 0 0 (ZQ below D cy (dn cy (LY_aIaI n1 n2) ad P V (gp I []) (gp J []) (gm A [(1, res)]) (gm B [])) none Af args s) (F0 m 3 ls [])
def fX9_copies_3 (n1 : Nat) (n2 : Nat) (a1 : (Nat → Int32)) (k3 : (Nat → Int32) → Int32 → Int32 → Int32 → Option ((Nat → Int32))) (a2 : (Nat → Int32)) (v1 : Int32) (v3 : Int32) (v4 : Int32) : Option ((Nat → Int32)) := if 13 ≤ v4 then (some (a2)) else (bif inb (v1 + v4) n1 then (bif inb (v3 + v4) n2 then (k3 (upd a2 (Int32.toNatClampNeg (v3 + v4)) (a1 (Int32.toNatClampNeg (v1 + v4)))) v1 v3 (v4 + 1)) else none) else none)
set_option maxHeartbeats 4000000 in
set_option maxRecDepth 100000 in
theorem tX9_copies_3 {p : Program} {l : Launch} {e : Env} {s : State} {m : MethodId} {args : Array Value} {below : List Frame} {meth : Method} {c : Code} {D : va_G} {cy : Nat → ClassId} {n1 : Nat} {n2 : Nat} {ad : Nat → Nat} {P : MP} {V : MV} {I : MI} {J : MJ} {A : MI} {B : MJ} {Af : Nat → Prop} {res : (Nat → Int32)} (C0 : CX p s m args meth c cX9_copies 5 none RX9) (hK : va_K D vwCl (tyG cy) s) (hN : NWs s) (hA : ∀ q, s.heap.size ≤ q → Af q) {k3 : (Nat → Int32) → Int32 → Int32 → Int32 → Option ((Nat → Int32))} (hk3 : SX9_copies_3 p l e s m args below meth c D cy n1 n2 ad P V I J A B Af res k3) : SX9_copies_3 p l e s m args below meth c D cy n1 n2 ad P V I J A B Af res (fX9_copies_3 n1 n2 (A 0) k3) := by
  intro a2 v1 v3 v4 H locs ls hW hl hf
  unfold fX9_copies_3 at hf
  refine lv_iload C0.1 C0.2.1 dX9_copies_3 (lv_at hl 4 rfl) ?_
  refine lv_bipush (v := 13) C0.1 C0.2.1 dX9_copies_5 kB_13 ?_
  refine lv_icmp_ge (tgt := 28) C0.1 C0.2.1 dX9_copies_7 (by decide) (fun hc1 => ?_) (fun hc1 => ?_)
  · have hf := ite_t hc1 hf
    obtain rfl := Option.some.inj hf
    exact r_void C0 hK hW dX9_copies_28
  · have hf := ite_f hc1 hf
    refine lv_aload_n C0.1 C0.2.1 dX9_copies_10 rfl (lv_at hl 2 rfl) ?_
    refine lv_iload_n C0.1 C0.2.1 dX9_copies_11 rfl (lv_at hl 3 rfl) ?_
    refine lv_iload C0.1 C0.2.1 dX9_copies_12 (lv_at hl 4 rfl) ?_
    refine lv_iadd C0.1 C0.2.1 dX9_copies_14 ?_
    refine lv_aload_n C0.1 C0.2.1 dX9_copies_15 rfl (lv_at hl 0 rfl) ?_
    refine lv_iload_n C0.1 C0.2.1 dX9_copies_16 rfl (lv_at hl 1 rfl) ?_
    refine lv_iload C0.1 C0.2.1 dX9_copies_17 (lv_at hl 4 rfl) ?_
    refine lv_iadd C0.1 C0.2.1 dX9_copies_19 ?_
    obtain ⟨hb2, hf⟩ := g_some hf
    refine s_iald (v := ((A 0) (Int32.toNatClampNeg (v1 + v4)))) C0 hK hW 0 LY_aIaI_0 hb2 rfl dX9_copies_20 ?_
    obtain ⟨hb3, hf⟩ := g_some hf
    refine s_iast (f := (upd a2 (Int32.toNatClampNeg (v3 + v4)) ((A 0) (Int32.toNatClampNeg (v1 + v4))))) C0 hK hW 1 LY_aIaI_1 hb3 rfl rfl dX9_copies_21 (fun H locs hW => ?_)
    have hW : wd D (dn cy (LY_aIaI n1 n2) ad P V (gp I []) (gp J []) (gm A [(1, (upd a2 (Int32.toNatClampNeg (v3 + v4)) ((A 0) (Int32.toNatClampNeg (v1 + v4)))))]) (gm B [])) Af s.heap H locs := hW
    refine lv_iinc (v := (v4 + 1)) (lv' := [(4, .int (v4 + 1)), (0, .ref (ad 0)), (1, .int v1), (2, .ref (ad 1)), (3, .int v3)]) C0.1 C0.2.1 dX9_copies_22 hl (k := 4) rfl (congrArg (fun z => _ + z) kI_1) (by decide) rfl (fun ls hl => ?_)
    refine lv_goto (tgt := 3) C0.1 C0.2.1 dX9_copies_25 (by decide) ?_
    exact hk3 (upd a2 (Int32.toNatClampNeg (v3 + v4)) ((A 0) (Int32.toNatClampNeg (v1 + v4)))) v1 v3 (v4 + 1) H locs ls hW (lv_sub hl [1, 2, 3, 4, 0] rfl) hf
theorem TX9_copies_3 {p : Program} {l : Launch} {e : Env} {s : State} {m : MethodId} {args : Array Value} {below : List Frame} {meth : Method} {c : Code} {D : va_G} {cy : Nat → ClassId} {n1 : Nat} {n2 : Nat} {ad : Nat → Nat} {P : MP} {V : MV} {I : MI} {J : MJ} {A : MI} {B : MJ} {Af : Nat → Prop} {res : (Nat → Int32)} (C0 : CX p s m args meth c cX9_copies 5 none RX9) (hK : va_K D vwCl (tyG cy) s) (hN : NWs s) (hA : ∀ q, s.heap.size ≤ q → Af q) : ∀ n, SX9_copies_3 p l e s m args below meth c D cy n1 n2 ad P V I J A B Af res (itr (fun kk => fX9_copies_3 n1 n2 (A 0) kk) (fun _ _ _ _ => none) n) := by
  intro n
  induction n with
  | zero => intro a2 v1 v3 v4 H locs ls hW hl hf; exact (nomatch (show (none : Option ((Nat → Int32))) = some res from hf))
  | succ n ih => exact tX9_copies_3 C0 hK hN hA  ih
def fX9_copies (n1 : Nat) (n2 : Nat) (a1 : (Nat → Int32)) (a2 : (Nat → Int32)) (v1 : Int32) (v3 : Int32) : Option ((Nat → Int32)) := itr (fun kk => fX9_copies_3 n1 n2 a1 kk) (fun _ _ _ _ => none) FU a2 v1 v3 0
set_option maxHeartbeats 4000000 in
set_option maxRecDepth 100000 in
theorem KX9_copies (l : Launch) (D : va_G) (cy : Nat → ClassId) (n1 : Nat) (n2 : Nat) (ad : Nat → Nat) (P : MP) (V : MV) (I : MI) (J : MJ) (A : MI) (B : MJ) (v1 : Int32) (v3 : Int32) {res : (Nat → Int32)} (hf : fX9_copies n1 n2 (A 0) (A 1) v1 v3 = some res) : CG l yX9_copies cX9_copies 5 none rmX9_copies D cy (dn cy (LY_aIaI n1 n2) ad P V I J A B) [.ref (ad 0), .int v1, .ref (ad 1), .int v3] none (dn cy (LY_aIaI n1 n2) ad P V (gp I []) (gp J []) (gm A [(1, res)]) (gm B [])) := by
  refine CG.of (own := RX9) (by decide) rfl rfl ?_
  intro p e s m below meth c ls Af C0 hK hN hA hW hl
  have hW : wd D (dn cy (LY_aIaI n1 n2) ad P V (gp I []) (gp J []) (gm A [(1, (A 1))]) (gm B [])) Af s.heap s.heap [] := wd_sel [] [] [1] [] hW
  have hl : lv_has ls 5 [(0, .ref (ad 0)), (1, .int v1), (2, .ref (ad 1)), (3, .int v3)] := hl
  unfold fX9_copies at hf
  refine lv_iconst (v := 0) C0.1 C0.2.1 dX9_copies_0 kI_0 ?_
  refine lv_istore (lv' := [(4, .int 0), (0, .ref (ad 0)), (1, .int v1), (2, .ref (ad 1)), (3, .int v3)]) C0.1 C0.2.1 dX9_copies_1 hl (by decide) rfl (fun ls hl => ?_)
  exact TX9_copies_3 C0 hK hN hA  FU (A 1) v1 v3 0 _ _ ls hW (lv_sub hl [1, 2, 3, 4, 0] rfl) hf
-- X9_readsLine
def rmX9_readsLine : Room := { frames := 4, cells := 0, slots := 0, locals := 83 }
def SX9_readsLine_183 (p : Program) (l : Launch) (e : Env) (s : State) (m : MethodId) (args : Array Value) (below : List Frame) (meth : Method) (c : Code) (D : va_G) (cy : Nat → ClassId) (ad : Nat → Nat) (P : MP) (V : MV) (I : MI) (J : MJ) (A : MI) (B : MJ) (Af : Nat → Prop) (res : Int32 × Int32 × Int32 × Int32 × Int32 × Int32 × Int32 × Int64 × (Nat → Int32) × (Nat → Int32) × (Nat → Int32) × (Nat → Int32)) (k : Int32 → Int32 → Int32 → Int32 → Int32 → Int32 → Int64 → (Nat → Int32) → (Nat → Int32) → (Nat → Int32) → (Nat → Int32) → Option (Int32 × Int32 × Int32 × Int32 × Int32 × Int32 × Int32 × Int64 × (Nat → Int32) × (Nat → Int32) × (Nat → Int32) × (Nat → Int32))) : Prop := ∀ (m_place : Int32) (m_begin : Int32) (m_token : Int32) (m_told : Int32) (m_wrong : Int32) (m_given : Int32) (m_word : Int64) (m_lines : (Nat → Int32)) (m_lineWhat : (Nat → Int32)) (m_lineA : (Nat → Int32)) (m_lineB : (Nat → Int32)) (H : Heap) (locs : List Loc) (ls : Array Slot), wd D (dn cy LY_X9 ad P V (gp I [(0, 4, m_place), (0, 5, m_begin), (0, 6, m_token), (0, 8, m_told), (0, 9, m_wrong), (0, 38, m_given)]) (gp J [(0, 7, m_word)]) (gm A [(28, m_lines), (29, m_lineWhat), (30, m_lineA), (31, m_lineB)]) (gm B [])) Af s.heap H locs → lv_has ls 3 [(0, .ref (ad 0))] → k m_place m_begin m_token m_told m_wrong m_given m_word m_lines m_lineWhat m_lineA m_lineB = some res → W p l e rmX9_readsLine s m args below meth c H locs 0 0 (ZQ below D cy (dn cy LY_X9 ad P V (gp I [(0, 4, res.2.1), (0, 5, res.2.2.1), (0, 6, res.2.2.2.1), (0, 8, res.2.2.2.2.1), (0, 9, res.2.2.2.2.2.1), (0, 38, res.2.2.2.2.2.2.1)]) (gp J [(0, 7, res.2.2.2.2.2.2.2.1)]) (gm A [(28, res.2.2.2.2.2.2.2.2.1), (29, res.2.2.2.2.2.2.2.2.2.1), (30, res.2.2.2.2.2.2.2.2.2.2.1), (31, res.2.2.2.2.2.2.2.2.2.2.2)]) (gm B [])) (some (.int res.1)) Af args s) (F0 m 183 ls [])
def SX9_readsLine_149 (p : Program) (l : Launch) (e : Env) (s : State) (m : MethodId) (args : Array Value) (below : List Frame) (meth : Method) (c : Code) (D : va_G) (cy : Nat → ClassId) (ad : Nat → Nat) (P : MP) (V : MV) (I : MI) (J : MJ) (A : MI) (B : MJ) (Af : Nat → Prop) (res : Int32 × Int32 × Int32 × Int32 × Int32 × Int32 × Int32 × Int64 × (Nat → Int32) × (Nat → Int32) × (Nat → Int32) × (Nat → Int32)) (k : Int32 → Int32 → Int32 → Int32 → Int32 → Int32 → Int64 → (Nat → Int32) → (Nat → Int32) → (Nat → Int32) → (Nat → Int32) → Int32 → Int32 → Option (Int32 × Int32 × Int32 × Int32 × Int32 × Int32 × Int32 × Int64 × (Nat → Int32) × (Nat → Int32) × (Nat → Int32) × (Nat → Int32))) : Prop := ∀ (m_place : Int32) (m_begin : Int32) (m_token : Int32) (m_told : Int32) (m_wrong : Int32) (m_given : Int32) (m_word : Int64) (m_lines : (Nat → Int32)) (m_lineWhat : (Nat → Int32)) (m_lineA : (Nat → Int32)) (m_lineB : (Nat → Int32)) (v1 : Int32) (v2 : Int32) (H : Heap) (locs : List Loc) (ls : Array Slot), wd D (dn cy LY_X9 ad P V (gp I [(0, 4, m_place), (0, 5, m_begin), (0, 6, m_token), (0, 8, m_told), (0, 9, m_wrong), (0, 38, m_given)]) (gp J [(0, 7, m_word)]) (gm A [(28, m_lines), (29, m_lineWhat), (30, m_lineA), (31, m_lineB)]) (gm B [])) Af s.heap H locs → lv_has ls 3 [(0, .ref (ad 0)), (1, .int v1), (2, .int v2)] → k m_place m_begin m_token m_told m_wrong m_given m_word m_lines m_lineWhat m_lineA m_lineB v1 v2 = some res → W p l e rmX9_readsLine s m args below meth c H locs 0 0 (ZQ below D cy (dn cy LY_X9 ad P V (gp I [(0, 4, res.2.1), (0, 5, res.2.2.1), (0, 6, res.2.2.2.1), (0, 8, res.2.2.2.2.1), (0, 9, res.2.2.2.2.2.1), (0, 38, res.2.2.2.2.2.2.1)]) (gp J [(0, 7, res.2.2.2.2.2.2.2.1)]) (gm A [(28, res.2.2.2.2.2.2.2.2.1), (29, res.2.2.2.2.2.2.2.2.2.1), (30, res.2.2.2.2.2.2.2.2.2.2.1), (31, res.2.2.2.2.2.2.2.2.2.2.2)]) (gm B [])) (some (.int res.1)) Af args s) (F0 m 149 ls [])
def SX9_readsLine_71 (p : Program) (l : Launch) (e : Env) (s : State) (m : MethodId) (args : Array Value) (below : List Frame) (meth : Method) (c : Code) (D : va_G) (cy : Nat → ClassId) (ad : Nat → Nat) (P : MP) (V : MV) (I : MI) (J : MJ) (A : MI) (B : MJ) (Af : Nat → Prop) (res : Int32 × Int32 × Int32 × Int32 × Int32 × Int32 × Int32 × Int64 × (Nat → Int32) × (Nat → Int32) × (Nat → Int32) × (Nat → Int32)) (k : Int32 → Int32 → Int32 → Int32 → Int32 → Int32 → Int64 → (Nat → Int32) → (Nat → Int32) → (Nat → Int32) → (Nat → Int32) → Int32 → Option (Int32 × Int32 × Int32 × Int32 × Int32 × Int32 × Int32 × Int64 × (Nat → Int32) × (Nat → Int32) × (Nat → Int32) × (Nat → Int32))) : Prop := ∀ (m_place : Int32) (m_begin : Int32) (m_token : Int32) (m_told : Int32) (m_wrong : Int32) (m_given : Int32) (m_word : Int64) (m_lines : (Nat → Int32)) (m_lineWhat : (Nat → Int32)) (m_lineA : (Nat → Int32)) (m_lineB : (Nat → Int32)) (x0 : Int32) (H : Heap) (locs : List Loc) (ls : Array Slot), wd D (dn cy LY_X9 ad P V (gp I [(0, 4, m_place), (0, 5, m_begin), (0, 6, m_token), (0, 8, m_told), (0, 9, m_wrong), (0, 38, m_given)]) (gp J [(0, 7, m_word)]) (gm A [(28, m_lines), (29, m_lineWhat), (30, m_lineA), (31, m_lineB)]) (gm B [])) Af s.heap H locs → lv_has ls 3 [(0, .ref (ad 0))] → k m_place m_begin m_token m_told m_wrong m_given m_word m_lines m_lineWhat m_lineA m_lineB x0 = some res → W p l e rmX9_readsLine s m args below meth c H locs 0 0 (ZQ below D cy (dn cy LY_X9 ad P V (gp I [(0, 4, res.2.1), (0, 5, res.2.2.1), (0, 6, res.2.2.2.1), (0, 8, res.2.2.2.2.1), (0, 9, res.2.2.2.2.2.1), (0, 38, res.2.2.2.2.2.2.1)]) (gp J [(0, 7, res.2.2.2.2.2.2.2.1)]) (gm A [(28, res.2.2.2.2.2.2.2.2.1), (29, res.2.2.2.2.2.2.2.2.2.1), (30, res.2.2.2.2.2.2.2.2.2.2.1), (31, res.2.2.2.2.2.2.2.2.2.2.2)]) (gm B [])) (some (.int res.1)) Af args s) (F0 m 71 ls [.int x0])
def fX9_readsLine_183 (m_size : Int32) (m_tape : (Nat → Int32)) (m_terrace : (Nat → Int32)) (m_holeName : (Nat → Int64)) (m_guestName : (Nat → Int64)) (m_place : Int32) (m_begin : Int32) (m_token : Int32) (m_told : Int32) (m_wrong : Int32) (m_given : Int32) (m_word : Int64) (m_lines : (Nat → Int32)) (m_lineWhat : (Nat → Int32)) (m_lineA : (Nat → Int32)) (m_lineB : (Nat → Int32)) : Option (Int32 × Int32 × Int32 × Int32 × Int32 × Int32 × Int32 × Int64 × (Nat → Int32) × (Nat → Int32) × (Nat → Int32) × (Nat → Int32)) := Option.bind (fX9_closes m_size m_tape m_place m_begin m_token m_told m_wrong m_word) fun y1 => (some ((vp_nar .boolean y1.1), y1.2.1, y1.2.2.1, y1.2.2.2.1, y1.2.2.2.2.1, y1.2.2.2.2.2.1, m_given, y1.2.2.2.2.2.2, (upd m_lines 5 ((m_lines 5) + 1)), m_lineWhat, m_lineA, m_lineB))
set_option maxHeartbeats 4000000 in
set_option maxRecDepth 100000 in
theorem tX9_readsLine_183 {p : Program} {l : Launch} {e : Env} {s : State} {m : MethodId} {args : Array Value} {below : List Frame} {meth : Method} {c : Code} {D : va_G} {cy : Nat → ClassId} {ad : Nat → Nat} {P : MP} {V : MV} {I : MI} {J : MJ} {A : MI} {B : MJ} {Af : Nat → Prop} {res : Int32 × Int32 × Int32 × Int32 × Int32 × Int32 × Int32 × Int64 × (Nat → Int32) × (Nat → Int32) × (Nat → Int32) × (Nat → Int32)} (C0 : CX p s m args meth c cX9_readsLine 3 (some .boolean) RX9) (hK : va_K D vwCl (tyG cy) s) (hN : NWs s) (hA : ∀ q, s.heap.size ≤ q → Af q) : SX9_readsLine_183 p l e s m args below meth c D cy ad P V I J A B Af res (fX9_readsLine_183 (I 0 3) (A 1) (A 2) (B 3) (B 4)) := by
  intro m_place m_begin m_token m_told m_wrong m_given m_word m_lines m_lineWhat m_lineA m_lineB H locs ls hW hl hf
  unfold fX9_readsLine_183 at hf
  refine lv_aload_n C0.1 C0.2.1 dX9_readsLine_183 rfl (lv_at hl 0 rfl) ?_
  refine s_get (v := .ref (ad 28)) C0 hK hW 0 40 LY_X9_0 rfl fg_X9_93 rfl dX9_readsLine_184 ?_
  refine lv_iconst (v := 5) C0.1 C0.2.1 dX9_readsLine_187 kI_5 ?_
  refine lv_dup2_11 C0.1 C0.2.1 dX9_readsLine_188 rfl rfl ?_
  refine s_iald (v := (m_lines 5)) C0 hK hW 28 LY_X9_28 rfl (congrArg _ tc_5) dX9_readsLine_189 ?_
  refine lv_iconst (v := 1) C0.1 C0.2.1 dX9_readsLine_190 kI_1 ?_
  refine lv_iadd C0.1 C0.2.1 dX9_readsLine_191 ?_
  refine s_iast (f := (upd m_lines 5 ((m_lines 5) + 1))) C0 hK hW 28 LY_X9_28 rfl rfl (congrArg (fun z => upd _ z _) tc_5) dX9_readsLine_192 (fun H locs hW => ?_)
  have hW : wd D (dn cy LY_X9 ad P V (gp I [(0, 4, m_place), (0, 5, m_begin), (0, 6, m_token), (0, 8, m_told), (0, 9, m_wrong), (0, 38, m_given)]) (gp J [(0, 7, m_word)]) (gm A [(28, (upd m_lines 5 ((m_lines 5) + 1))), (29, m_lineWhat), (30, m_lineA), (31, m_lineB)]) (gm B [])) Af s.heap H locs := hW
  refine lv_aload_n C0.1 C0.2.1 dX9_readsLine_193 rfl (lv_at hl 0 rfl) ?_
  obtain ⟨y1, hy1, hf⟩ := b_some hf
  refine c_Vi C0 hK hN hl.1 hW hA (KX9_closes l D cy  ad P V (gp I [(0, 4, m_place), (0, 5, m_begin), (0, 6, m_token), (0, 8, m_told), (0, 9, m_wrong), (0, 38, m_given)]) (gp J [(0, 7, m_word)]) (gm A [(28, (upd m_lines 5 ((m_lines 5) + 1))), (29, m_lineWhat), (30, m_lineA), (31, m_lineB)]) (gm B [])  hy1) (JN_id rfl rfl rfl rfl) (Uw_V uw_1334 uw_1336 us_49 uw_14 uw_1337) rfl rfl hd_X9_closes ⟨rfl, rfl⟩ rfl (dn_some LY_X9_0) rfl rfl rfl dX9_readsLine_194 ⟨Nat.zero_le _, Nat.zero_le _⟩ (fun H locs hW => ?_)
  have hW : wd D (dn cy LY_X9 ad P V (gp I [(0, 4, y1.2.1), (0, 5, y1.2.2.1), (0, 6, y1.2.2.2.1), (0, 8, y1.2.2.2.2.1), (0, 9, y1.2.2.2.2.2.1), (0, 38, m_given)]) (gp J [(0, 7, y1.2.2.2.2.2.2)]) (gm A [(28, (upd m_lines 5 ((m_lines 5) + 1))), (29, m_lineWhat), (30, m_lineA), (31, m_lineB)]) (gm B [])) Af s.heap H locs := hW
  obtain rfl := Option.some.inj hf
  exact r_bool C0 hK hW (v' := (vp_nar .boolean y1.1)) rfl dX9_readsLine_197
def fX9_readsLine_149 (m_size : Int32) (m_tape : (Nat → Int32)) (m_terrace : (Nat → Int32)) (m_holeName : (Nat → Int64)) (m_guestName : (Nat → Int64)) (m_place : Int32) (m_begin : Int32) (m_token : Int32) (m_told : Int32) (m_wrong : Int32) (m_given : Int32) (m_word : Int64) (m_lines : (Nat → Int32)) (m_lineWhat : (Nat → Int32)) (m_lineA : (Nat → Int32)) (m_lineB : (Nat → Int32)) (v1 : Int32) (v2 : Int32) : Option (Int32 × Int32 × Int32 × Int32 × Int32 × Int32 × Int32 × Int64 × (Nat → Int32) × (Nat → Int32) × (Nat → Int32) × (Nat → Int32)) := if v1 = 1 then (fX9_readsLine_183 m_size m_tape m_terrace m_holeName m_guestName m_place m_begin m_token m_told m_wrong m_given m_word m_lines m_lineWhat m_lineA m_lineB) else (if v1 = 4 then (fX9_readsLine_183 m_size m_tape m_terrace m_holeName m_guestName m_place m_begin m_token m_told m_wrong m_given m_word m_lines m_lineWhat m_lineA m_lineB) else (Option.bind (fX9_needsHole m_begin m_token m_word m_terrace m_holeName m_wrong m_given 0) fun y3 => (if y3.1 = 0 then (some (0, m_place, m_begin, m_token, m_told, y3.2.1, y3.2.2, m_word, m_lines, m_lineWhat, m_lineA, m_lineB)) else (bif inb v2 240 then (Option.bind (fX9_nextToken m_size m_tape m_place m_begin m_token m_told m_word) fun y6 => (fX9_readsLine_183 m_size m_tape m_terrace m_holeName m_guestName y6.1 y6.2.1 y6.2.2.1 y6.2.2.2.1 y3.2.1 y3.2.2 y6.2.2.2.2 m_lines m_lineWhat m_lineA (upd m_lineB (Int32.toNatClampNeg v2) y3.2.2))) else none))))
set_option maxHeartbeats 4000000 in
set_option maxRecDepth 100000 in
theorem tX9_readsLine_149 {p : Program} {l : Launch} {e : Env} {s : State} {m : MethodId} {args : Array Value} {below : List Frame} {meth : Method} {c : Code} {D : va_G} {cy : Nat → ClassId} {ad : Nat → Nat} {P : MP} {V : MV} {I : MI} {J : MJ} {A : MI} {B : MJ} {Af : Nat → Prop} {res : Int32 × Int32 × Int32 × Int32 × Int32 × Int32 × Int32 × Int64 × (Nat → Int32) × (Nat → Int32) × (Nat → Int32) × (Nat → Int32)} (C0 : CX p s m args meth c cX9_readsLine 3 (some .boolean) RX9) (hK : va_K D vwCl (tyG cy) s) (hN : NWs s) (hA : ∀ q, s.heap.size ≤ q → Af q) : SX9_readsLine_149 p l e s m args below meth c D cy ad P V I J A B Af res (fX9_readsLine_149 (I 0 3) (A 1) (A 2) (B 3) (B 4)) := by
  intro m_place m_begin m_token m_told m_wrong m_given m_word m_lines m_lineWhat m_lineA m_lineB v1 v2 H locs ls hW hl hf
  unfold fX9_readsLine_149 at hf
  refine lv_iload_n C0.1 C0.2.1 dX9_readsLine_149 rfl (lv_at hl 1 rfl) ?_
  refine lv_iconst (v := 1) C0.1 C0.2.1 dX9_readsLine_150 kI_1 ?_
  refine lv_icmp_eq (tgt := 183) C0.1 C0.2.1 dX9_readsLine_151 (by decide) (fun hc1 => ?_) (fun hc1 => ?_)
  · have hf := ite_t hc1 hf
    exact tX9_readsLine_183 C0 hK hN hA  m_place m_begin m_token m_told m_wrong m_given m_word m_lines m_lineWhat m_lineA m_lineB H locs ls hW (lv_sub hl [0] rfl) hf
  · have hf := ite_f hc1 hf
    refine lv_iload_n C0.1 C0.2.1 dX9_readsLine_154 rfl (lv_at hl 1 rfl) ?_
    refine lv_iconst (v := 4) C0.1 C0.2.1 dX9_readsLine_155 kI_4 ?_
    refine lv_icmp_eq (tgt := 183) C0.1 C0.2.1 dX9_readsLine_156 (by decide) (fun hc2 => ?_) (fun hc2 => ?_)
    · have hf := ite_t hc2 hf
      exact tX9_readsLine_183 C0 hK hN hA  m_place m_begin m_token m_told m_wrong m_given m_word m_lines m_lineWhat m_lineA m_lineB H locs ls hW (lv_sub hl [0] rfl) hf
    · have hf := ite_f hc2 hf
      refine lv_aload_n C0.1 C0.2.1 dX9_readsLine_159 rfl (lv_at hl 0 rfl) ?_
      refine lv_iconst (v := 0) C0.1 C0.2.1 dX9_readsLine_160 kI_0 ?_
      obtain ⟨y3, hy3, hf⟩ := b_some hf
      refine c_Vi C0 hK hN hl.1 hW hA (KX9_needsHole l D cy  ad P V (gp I [(0, 4, m_place), (0, 5, m_begin), (0, 6, m_token), (0, 8, m_told), (0, 9, m_wrong), (0, 38, m_given)]) (gp J [(0, 7, m_word)]) (gm A [(28, m_lines), (29, m_lineWhat), (30, m_lineA), (31, m_lineB)]) (gm B []) 0 hy3) (JN_id rfl rfl rfl rfl) (Uw_V uw_1346 uw_1348 us_52 uw_14 uw_1349) rfl rfl hd_X9_needsHole ⟨rfl, rfl⟩ rfl (dn_some LY_X9_0) rfl rfl rfl dX9_readsLine_161 ⟨Nat.zero_le _, Nat.zero_le _⟩ (fun H locs hW => ?_)
      have hW : wd D (dn cy LY_X9 ad P V (gp I [(0, 4, m_place), (0, 5, m_begin), (0, 6, m_token), (0, 8, m_told), (0, 9, y3.2.1), (0, 38, y3.2.2)]) (gp J [(0, 7, m_word)]) (gm A [(28, m_lines), (29, m_lineWhat), (30, m_lineA), (31, m_lineB)]) (gm B [])) Af s.heap H locs := hW
      refine lv_if_ne (tgt := 169) C0.1 C0.2.1 dX9_readsLine_164 (by decide) (fun hc4 => ?_) (fun hc4 => ?_)
      · have hf := ite_f hc4 hf
        refine lv_aload_n C0.1 C0.2.1 dX9_readsLine_169 rfl (lv_at hl 0 rfl) ?_
        refine s_get (v := .ref (ad 31)) C0 hK hW 0 43 LY_X9_0 rfl fg_X9_102 rfl dX9_readsLine_170 ?_
        refine lv_iload_n C0.1 C0.2.1 dX9_readsLine_173 rfl (lv_at hl 2 rfl) ?_
        refine lv_aload_n C0.1 C0.2.1 dX9_readsLine_174 rfl (lv_at hl 0 rfl) ?_
        refine s_get (v := .int y3.2.2) C0 hK hW 0 38 LY_X9_0 rfl fg_X9_270 rfl dX9_readsLine_175 ?_
        obtain ⟨hb5, hf⟩ := g_some hf
        refine s_iast (f := (upd m_lineB (Int32.toNatClampNeg v2) y3.2.2)) C0 hK hW 31 LY_X9_31 hb5 rfl rfl dX9_readsLine_178 (fun H locs hW => ?_)
        have hW : wd D (dn cy LY_X9 ad P V (gp I [(0, 4, m_place), (0, 5, m_begin), (0, 6, m_token), (0, 8, m_told), (0, 9, y3.2.1), (0, 38, y3.2.2)]) (gp J [(0, 7, m_word)]) (gm A [(28, m_lines), (29, m_lineWhat), (30, m_lineA), (31, (upd m_lineB (Int32.toNatClampNeg v2) y3.2.2))]) (gm B [])) Af s.heap H locs := hW
        refine lv_aload_n C0.1 C0.2.1 dX9_readsLine_179 rfl (lv_at hl 0 rfl) ?_
        obtain ⟨y6, hy6, hf⟩ := b_some hf
        refine c_Vv C0 hK hN hl.1 hW hA (KX9_nextToken l D cy  ad P V (gp I [(0, 4, m_place), (0, 5, m_begin), (0, 6, m_token), (0, 8, m_told), (0, 9, y3.2.1), (0, 38, y3.2.2)]) (gp J [(0, 7, m_word)]) (gm A [(28, m_lines), (29, m_lineWhat), (30, m_lineA), (31, (upd m_lineB (Int32.toNatClampNeg v2) y3.2.2))]) (gm B [])  hy6) (JN_id rfl rfl rfl rfl) (Uw_V uw_1263 uw_1265 us_38 uw_14 uw_1266) rfl rfl hd_X9_nextToken ⟨rfl, rfl⟩ rfl (dn_some LY_X9_0) rfl rfl rfl dX9_readsLine_180 ⟨Nat.zero_le _, Nat.zero_le _⟩ (fun H locs hW => ?_)
        have hW : wd D (dn cy LY_X9 ad P V (gp I [(0, 4, y6.1), (0, 5, y6.2.1), (0, 6, y6.2.2.1), (0, 8, y6.2.2.2.1), (0, 9, y3.2.1), (0, 38, y3.2.2)]) (gp J [(0, 7, y6.2.2.2.2)]) (gm A [(28, m_lines), (29, m_lineWhat), (30, m_lineA), (31, (upd m_lineB (Int32.toNatClampNeg v2) y3.2.2))]) (gm B [])) Af s.heap H locs := hW
        exact tX9_readsLine_183 C0 hK hN hA  y6.1 y6.2.1 y6.2.2.1 y6.2.2.2.1 y3.2.1 y3.2.2 y6.2.2.2.2 m_lines m_lineWhat m_lineA (upd m_lineB (Int32.toNatClampNeg v2) y3.2.2) H locs ls hW (lv_sub hl [0] rfl) hf
      · have hf := ite_t hc4 hf
        refine lv_iconst (v := 0) C0.1 C0.2.1 dX9_readsLine_167 kI_0 ?_
        obtain rfl := Option.some.inj hf
        exact r_bool C0 hK hW (v' := 0) rfl dX9_readsLine_168
def fX9_readsLine_71 (m_size : Int32) (m_tape : (Nat → Int32)) (m_terrace : (Nat → Int32)) (m_holeName : (Nat → Int64)) (m_guestName : (Nat → Int64)) (m_place : Int32) (m_begin : Int32) (m_token : Int32) (m_told : Int32) (m_wrong : Int32) (m_given : Int32) (m_word : Int64) (m_lines : (Nat → Int32)) (m_lineWhat : (Nat → Int32)) (m_lineA : (Nat → Int32)) (m_lineB : (Nat → Int32)) (x0 : Int32) : Option (Int32 × Int32 × Int32 × Int32 × Int32 × Int32 × Int32 × Int64 × (Nat → Int32) × (Nat → Int32) × (Nat → Int32) × (Nat → Int32)) := if 0 ≤ x0 then (if (m_lines 5) = 40 then (Option.bind (fX9_fails m_begin m_wrong 5) fun y10 => (some ((vp_nar .boolean y10.1), m_place, m_begin, m_token, m_told, y10.2, m_given, m_word, m_lines, m_lineWhat, m_lineA, m_lineB))) else (Option.bind (fX9_nextToken m_size m_tape m_place m_begin m_token m_told m_word) fun y3 => (bif inb (200 + (m_lines 5)) 240 then (if 3 ≤ x0 then (fX9_readsLine_149 m_size m_tape m_terrace m_holeName m_guestName y3.1 y3.2.1 y3.2.2.1 y3.2.2.2.1 m_wrong m_given y3.2.2.2.2 m_lines (upd m_lineWhat (Int32.toNatClampNeg (200 + (m_lines 5))) x0) m_lineA m_lineB x0 (200 + (m_lines 5))) else (Option.bind (fX9_needsGuest y3.2.1 y3.2.2.1 y3.2.2.2.2 m_terrace m_guestName m_wrong m_given) fun y6 => (if y6.1 = 0 then (some (0, y3.1, y3.2.1, y3.2.2.1, y3.2.2.2.1, y6.2.1, y6.2.2, y3.2.2.2.2, m_lines, (upd m_lineWhat (Int32.toNatClampNeg (200 + (m_lines 5))) x0), m_lineA, m_lineB)) else (bif inb (200 + (m_lines 5)) 240 then (Option.bind (fX9_nextToken m_size m_tape y3.1 y3.2.1 y3.2.2.1 y3.2.2.2.1 y3.2.2.2.2) fun y9 => (fX9_readsLine_149 m_size m_tape m_terrace m_holeName m_guestName y9.1 y9.2.1 y9.2.2.1 y9.2.2.2.1 y6.2.1 y6.2.2 y9.2.2.2.2 m_lines (upd m_lineWhat (Int32.toNatClampNeg (200 + (m_lines 5))) x0) (upd m_lineA (Int32.toNatClampNeg (200 + (m_lines 5))) y6.2.2) m_lineB x0 (200 + (m_lines 5)))) else none)))) else none))) else (Option.bind (fX9_fails m_begin m_wrong 1) fun y11 => (some ((vp_nar .boolean y11.1), m_place, m_begin, m_token, m_told, y11.2, m_given, m_word, m_lines, m_lineWhat, m_lineA, m_lineB)))
set_option maxHeartbeats 4000000 in
set_option maxRecDepth 100000 in
theorem tX9_readsLine_71 {p : Program} {l : Launch} {e : Env} {s : State} {m : MethodId} {args : Array Value} {below : List Frame} {meth : Method} {c : Code} {D : va_G} {cy : Nat → ClassId} {ad : Nat → Nat} {P : MP} {V : MV} {I : MI} {J : MJ} {A : MI} {B : MJ} {Af : Nat → Prop} {res : Int32 × Int32 × Int32 × Int32 × Int32 × Int32 × Int32 × Int64 × (Nat → Int32) × (Nat → Int32) × (Nat → Int32) × (Nat → Int32)} (C0 : CX p s m args meth c cX9_readsLine 3 (some .boolean) RX9) (hK : va_K D vwCl (tyG cy) s) (hN : NWs s) (hA : ∀ q, s.heap.size ≤ q → Af q) : SX9_readsLine_71 p l e s m args below meth c D cy ad P V I J A B Af res (fX9_readsLine_71 (I 0 3) (A 1) (A 2) (B 3) (B 4)) := by
  intro m_place m_begin m_token m_told m_wrong m_given m_word m_lines m_lineWhat m_lineA m_lineB x0 H locs ls hW hl hf
  unfold fX9_readsLine_71 at hf
  refine lv_istore_n (lv' := [(1, .int x0), (0, .ref (ad 0))]) C0.1 C0.2.1 dX9_readsLine_71 rfl hl (by decide) rfl (fun ls hl => ?_)
  refine lv_iload_n C0.1 C0.2.1 dX9_readsLine_72 rfl (lv_at hl 0 rfl) ?_
  refine lv_if_ge (tgt := 82) C0.1 C0.2.1 dX9_readsLine_73 (by decide) (fun hc1 => ?_) (fun hc1 => ?_)
  · have hf := ite_t hc1 hf
    refine lv_aload_n C0.1 C0.2.1 dX9_readsLine_82 rfl (lv_at hl 1 rfl) ?_
    refine s_get (v := .ref (ad 28)) C0 hK hW 0 40 LY_X9_0 rfl fg_X9_93 rfl dX9_readsLine_83 ?_
    refine lv_iconst (v := 5) C0.1 C0.2.1 dX9_readsLine_86 kI_5 ?_
    refine s_iald (v := (m_lines 5)) C0 hK hW 28 LY_X9_28 rfl (congrArg _ tc_5) dX9_readsLine_87 ?_
    refine lv_bipush (v := 40) C0.1 C0.2.1 dX9_readsLine_88 kB_40 ?_
    refine lv_icmp_ne (tgt := 99) C0.1 C0.2.1 dX9_readsLine_90 (by decide) (fun hc2 => ?_) (fun hc2 => ?_)
    · have hf := ite_f hc2 hf
      refine lv_aload_n C0.1 C0.2.1 dX9_readsLine_99 rfl (lv_at hl 1 rfl) ?_
      obtain ⟨y3, hy3, hf⟩ := b_some hf
      refine c_Vv C0 hK hN hl.1 hW hA (KX9_nextToken l D cy  ad P V (gp I [(0, 4, m_place), (0, 5, m_begin), (0, 6, m_token), (0, 8, m_told), (0, 9, m_wrong), (0, 38, m_given)]) (gp J [(0, 7, m_word)]) (gm A [(28, m_lines), (29, m_lineWhat), (30, m_lineA), (31, m_lineB)]) (gm B [])  hy3) (JN_id rfl rfl rfl rfl) (Uw_V uw_1263 uw_1265 us_38 uw_14 uw_1266) rfl rfl hd_X9_nextToken ⟨rfl, rfl⟩ rfl (dn_some LY_X9_0) rfl rfl rfl dX9_readsLine_100 ⟨Nat.zero_le _, Nat.zero_le _⟩ (fun H locs hW => ?_)
      have hW : wd D (dn cy LY_X9 ad P V (gp I [(0, 4, y3.1), (0, 5, y3.2.1), (0, 6, y3.2.2.1), (0, 8, y3.2.2.2.1), (0, 9, m_wrong), (0, 38, m_given)]) (gp J [(0, 7, y3.2.2.2.2)]) (gm A [(28, m_lines), (29, m_lineWhat), (30, m_lineA), (31, m_lineB)]) (gm B [])) Af s.heap H locs := hW
      refine lv_sipush (v := 200) C0.1 C0.2.1 dX9_readsLine_103 kS_200 ?_
      refine lv_aload_n C0.1 C0.2.1 dX9_readsLine_106 rfl (lv_at hl 1 rfl) ?_
      refine s_get (v := .ref (ad 28)) C0 hK hW 0 40 LY_X9_0 rfl fg_X9_93 rfl dX9_readsLine_107 ?_
      refine lv_iconst (v := 5) C0.1 C0.2.1 dX9_readsLine_110 kI_5 ?_
      refine s_iald (v := (m_lines 5)) C0 hK hW 28 LY_X9_28 rfl (congrArg _ tc_5) dX9_readsLine_111 ?_
      refine lv_iadd C0.1 C0.2.1 dX9_readsLine_112 ?_
      refine lv_istore_n (lv' := [(2, .int (200 + (m_lines 5))), (1, .int x0), (0, .ref (ad 0))]) C0.1 C0.2.1 dX9_readsLine_113 rfl hl (by decide) rfl (fun ls hl => ?_)
      refine lv_aload_n C0.1 C0.2.1 dX9_readsLine_114 rfl (lv_at hl 2 rfl) ?_
      refine s_get (v := .ref (ad 29)) C0 hK hW 0 41 LY_X9_0 rfl fg_X9_96 rfl dX9_readsLine_115 ?_
      refine lv_iload_n C0.1 C0.2.1 dX9_readsLine_118 rfl (lv_at hl 0 rfl) ?_
      refine lv_iload_n C0.1 C0.2.1 dX9_readsLine_119 rfl (lv_at hl 1 rfl) ?_
      obtain ⟨hb4, hf⟩ := g_some hf
      refine s_iast (f := (upd m_lineWhat (Int32.toNatClampNeg (200 + (m_lines 5))) x0)) C0 hK hW 29 LY_X9_29 hb4 rfl rfl dX9_readsLine_120 (fun H locs hW => ?_)
      have hW : wd D (dn cy LY_X9 ad P V (gp I [(0, 4, y3.1), (0, 5, y3.2.1), (0, 6, y3.2.2.1), (0, 8, y3.2.2.2.1), (0, 9, m_wrong), (0, 38, m_given)]) (gp J [(0, 7, y3.2.2.2.2)]) (gm A [(28, m_lines), (29, (upd m_lineWhat (Int32.toNatClampNeg (200 + (m_lines 5))) x0)), (30, m_lineA), (31, m_lineB)]) (gm B [])) Af s.heap H locs := hW
      refine lv_iload_n C0.1 C0.2.1 dX9_readsLine_121 rfl (lv_at hl 1 rfl) ?_
      refine lv_iconst (v := 3) C0.1 C0.2.1 dX9_readsLine_122 kI_3 ?_
      refine lv_icmp_ge (tgt := 149) C0.1 C0.2.1 dX9_readsLine_123 (by decide) (fun hc5 => ?_) (fun hc5 => ?_)
      · have hf := ite_t hc5 hf
        exact tX9_readsLine_149 C0 hK hN hA  y3.1 y3.2.1 y3.2.2.1 y3.2.2.2.1 m_wrong m_given y3.2.2.2.2 m_lines (upd m_lineWhat (Int32.toNatClampNeg (200 + (m_lines 5))) x0) m_lineA m_lineB x0 (200 + (m_lines 5)) H locs ls hW (lv_sub hl [2, 1, 0] rfl) hf
      · have hf := ite_f hc5 hf
        refine lv_aload_n C0.1 C0.2.1 dX9_readsLine_126 rfl (lv_at hl 2 rfl) ?_
        obtain ⟨y6, hy6, hf⟩ := b_some hf
        refine c_Vi C0 hK hN hl.1 hW hA (KX9_needsGuest l D cy  ad P V (gp I [(0, 4, y3.1), (0, 5, y3.2.1), (0, 6, y3.2.2.1), (0, 8, y3.2.2.2.1), (0, 9, m_wrong), (0, 38, m_given)]) (gp J [(0, 7, y3.2.2.2.2)]) (gm A [(28, m_lines), (29, (upd m_lineWhat (Int32.toNatClampNeg (200 + (m_lines 5))) x0)), (30, m_lineA), (31, m_lineB)]) (gm B [])  hy6) (JN_id rfl rfl rfl rfl) (Uw_V uw_1408 uw_1410 us_64 uw_14 uw_1411) rfl rfl hd_X9_needsGuest ⟨rfl, rfl⟩ rfl (dn_some LY_X9_0) rfl rfl rfl dX9_readsLine_127 ⟨Nat.zero_le _, Nat.zero_le _⟩ (fun H locs hW => ?_)
        have hW : wd D (dn cy LY_X9 ad P V (gp I [(0, 4, y3.1), (0, 5, y3.2.1), (0, 6, y3.2.2.1), (0, 8, y3.2.2.2.1), (0, 9, y6.2.1), (0, 38, y6.2.2)]) (gp J [(0, 7, y3.2.2.2.2)]) (gm A [(28, m_lines), (29, (upd m_lineWhat (Int32.toNatClampNeg (200 + (m_lines 5))) x0)), (30, m_lineA), (31, m_lineB)]) (gm B [])) Af s.heap H locs := hW
        refine lv_if_ne (tgt := 135) C0.1 C0.2.1 dX9_readsLine_130 (by decide) (fun hc7 => ?_) (fun hc7 => ?_)
        · have hf := ite_f hc7 hf
          refine lv_aload_n C0.1 C0.2.1 dX9_readsLine_135 rfl (lv_at hl 2 rfl) ?_
          refine s_get (v := .ref (ad 30)) C0 hK hW 0 42 LY_X9_0 rfl fg_X9_99 rfl dX9_readsLine_136 ?_
          refine lv_iload_n C0.1 C0.2.1 dX9_readsLine_139 rfl (lv_at hl 0 rfl) ?_
          refine lv_aload_n C0.1 C0.2.1 dX9_readsLine_140 rfl (lv_at hl 2 rfl) ?_
          refine s_get (v := .int y6.2.2) C0 hK hW 0 38 LY_X9_0 rfl fg_X9_270 rfl dX9_readsLine_141 ?_
          obtain ⟨hb8, hf⟩ := g_some hf
          refine s_iast (f := (upd m_lineA (Int32.toNatClampNeg (200 + (m_lines 5))) y6.2.2)) C0 hK hW 30 LY_X9_30 hb8 rfl rfl dX9_readsLine_144 (fun H locs hW => ?_)
          have hW : wd D (dn cy LY_X9 ad P V (gp I [(0, 4, y3.1), (0, 5, y3.2.1), (0, 6, y3.2.2.1), (0, 8, y3.2.2.2.1), (0, 9, y6.2.1), (0, 38, y6.2.2)]) (gp J [(0, 7, y3.2.2.2.2)]) (gm A [(28, m_lines), (29, (upd m_lineWhat (Int32.toNatClampNeg (200 + (m_lines 5))) x0)), (30, (upd m_lineA (Int32.toNatClampNeg (200 + (m_lines 5))) y6.2.2)), (31, m_lineB)]) (gm B [])) Af s.heap H locs := hW
          refine lv_aload_n C0.1 C0.2.1 dX9_readsLine_145 rfl (lv_at hl 2 rfl) ?_
          obtain ⟨y9, hy9, hf⟩ := b_some hf
          refine c_Vv C0 hK hN hl.1 hW hA (KX9_nextToken l D cy  ad P V (gp I [(0, 4, y3.1), (0, 5, y3.2.1), (0, 6, y3.2.2.1), (0, 8, y3.2.2.2.1), (0, 9, y6.2.1), (0, 38, y6.2.2)]) (gp J [(0, 7, y3.2.2.2.2)]) (gm A [(28, m_lines), (29, (upd m_lineWhat (Int32.toNatClampNeg (200 + (m_lines 5))) x0)), (30, (upd m_lineA (Int32.toNatClampNeg (200 + (m_lines 5))) y6.2.2)), (31, m_lineB)]) (gm B [])  hy9) (JN_id rfl rfl rfl rfl) (Uw_V uw_1263 uw_1265 us_38 uw_14 uw_1266) rfl rfl hd_X9_nextToken ⟨rfl, rfl⟩ rfl (dn_some LY_X9_0) rfl rfl rfl dX9_readsLine_146 ⟨Nat.zero_le _, Nat.zero_le _⟩ (fun H locs hW => ?_)
          have hW : wd D (dn cy LY_X9 ad P V (gp I [(0, 4, y9.1), (0, 5, y9.2.1), (0, 6, y9.2.2.1), (0, 8, y9.2.2.2.1), (0, 9, y6.2.1), (0, 38, y6.2.2)]) (gp J [(0, 7, y9.2.2.2.2)]) (gm A [(28, m_lines), (29, (upd m_lineWhat (Int32.toNatClampNeg (200 + (m_lines 5))) x0)), (30, (upd m_lineA (Int32.toNatClampNeg (200 + (m_lines 5))) y6.2.2)), (31, m_lineB)]) (gm B [])) Af s.heap H locs := hW
          exact tX9_readsLine_149 C0 hK hN hA  y9.1 y9.2.1 y9.2.2.1 y9.2.2.2.1 y6.2.1 y6.2.2 y9.2.2.2.2 m_lines (upd m_lineWhat (Int32.toNatClampNeg (200 + (m_lines 5))) x0) (upd m_lineA (Int32.toNatClampNeg (200 + (m_lines 5))) y6.2.2) m_lineB x0 (200 + (m_lines 5)) H locs ls hW (lv_sub hl [2, 1, 0] rfl) hf
        · have hf := ite_t hc7 hf
          refine lv_iconst (v := 0) C0.1 C0.2.1 dX9_readsLine_133 kI_0 ?_
          obtain rfl := Option.some.inj hf
          exact r_bool C0 hK hW (v' := 0) rfl dX9_readsLine_134
    · have hf := ite_t hc2 hf
      refine lv_aload_n C0.1 C0.2.1 dX9_readsLine_93 rfl (lv_at hl 1 rfl) ?_
      refine lv_iconst (v := 5) C0.1 C0.2.1 dX9_readsLine_94 kI_5 ?_
      obtain ⟨y10, hy10, hf⟩ := b_some hf
      refine c_Vi C0 hK hN hl.1 hW hA (KX9_fails l D cy  ad P V (gp I [(0, 4, m_place), (0, 5, m_begin), (0, 6, m_token), (0, 8, m_told), (0, 9, m_wrong), (0, 38, m_given)]) (gp J [(0, 7, m_word)]) (gm A [(28, m_lines), (29, m_lineWhat), (30, m_lineA), (31, m_lineB)]) (gm B []) 5 hy10) (JN_id rfl rfl rfl rfl) (Uw_V uw_1282 uw_1284 us_42 uw_14 uw_1285) rfl rfl hd_X9_fails ⟨rfl, rfl⟩ rfl (dn_some LY_X9_0) rfl rfl rfl dX9_readsLine_95 ⟨Nat.zero_le _, Nat.zero_le _⟩ (fun H locs hW => ?_)
      have hW : wd D (dn cy LY_X9 ad P V (gp I [(0, 4, m_place), (0, 5, m_begin), (0, 6, m_token), (0, 8, m_told), (0, 9, y10.2), (0, 38, m_given)]) (gp J [(0, 7, m_word)]) (gm A [(28, m_lines), (29, m_lineWhat), (30, m_lineA), (31, m_lineB)]) (gm B [])) Af s.heap H locs := hW
      obtain rfl := Option.some.inj hf
      exact r_bool C0 hK hW (v' := (vp_nar .boolean y10.1)) rfl dX9_readsLine_98
  · have hf := ite_f hc1 hf
    refine lv_aload_n C0.1 C0.2.1 dX9_readsLine_76 rfl (lv_at hl 1 rfl) ?_
    refine lv_iconst (v := 1) C0.1 C0.2.1 dX9_readsLine_77 kI_1 ?_
    obtain ⟨y11, hy11, hf⟩ := b_some hf
    refine c_Vi C0 hK hN hl.1 hW hA (KX9_fails l D cy  ad P V (gp I [(0, 4, m_place), (0, 5, m_begin), (0, 6, m_token), (0, 8, m_told), (0, 9, m_wrong), (0, 38, m_given)]) (gp J [(0, 7, m_word)]) (gm A [(28, m_lines), (29, m_lineWhat), (30, m_lineA), (31, m_lineB)]) (gm B []) 1 hy11) (JN_id rfl rfl rfl rfl) (Uw_V uw_1282 uw_1284 us_42 uw_14 uw_1285) rfl rfl hd_X9_fails ⟨rfl, rfl⟩ rfl (dn_some LY_X9_0) rfl rfl rfl dX9_readsLine_78 ⟨Nat.zero_le _, Nat.zero_le _⟩ (fun H locs hW => ?_)
    have hW : wd D (dn cy LY_X9 ad P V (gp I [(0, 4, m_place), (0, 5, m_begin), (0, 6, m_token), (0, 8, m_told), (0, 9, y11.2), (0, 38, m_given)]) (gp J [(0, 7, m_word)]) (gm A [(28, m_lines), (29, m_lineWhat), (30, m_lineA), (31, m_lineB)]) (gm B [])) Af s.heap H locs := hW
    obtain rfl := Option.some.inj hf
    exact r_bool C0 hK hW (v' := (vp_nar .boolean y11.1)) rfl dX9_readsLine_81
def fX9_readsLine (m_size : Int32) (m_tape : (Nat → Int32)) (m_terrace : (Nat → Int32)) (m_holeName : (Nat → Int64)) (m_guestName : (Nat → Int64)) (m_place : Int32) (m_begin : Int32) (m_token : Int32) (m_told : Int32) (m_wrong : Int32) (m_given : Int32) (m_word : Int64) (m_lines : (Nat → Int32)) (m_lineWhat : (Nat → Int32)) (m_lineA : (Nat → Int32)) (m_lineB : (Nat → Int32)) : Option (Int32 × Int32 × Int32 × Int32 × Int32 × Int32 × Int32 × Int64 × (Nat → Int32) × (Nat → Int32) × (Nat → Int32) × (Nat → Int32)) := Option.bind (fX9_isWord m_token m_word 90302) fun y1 => (if y1 = 0 then (Option.bind (fX9_isWord m_token m_word 583) fun y3 => (if y3 = 0 then (Option.bind (fX9_isWord m_token m_word 7873077725) fun y5 => (if y5 = 0 then (Option.bind (fX9_isWord m_token m_word 1424122) fun y7 => (if y7 = 0 then (Option.bind (fX9_isWord m_token m_word 2968) fun y9 => (if y9 = 0 then (fX9_readsLine_71 m_size m_tape m_terrace m_holeName m_guestName m_place m_begin m_token m_told m_wrong m_given m_word m_lines m_lineWhat m_lineA m_lineB (-1)) else (fX9_readsLine_71 m_size m_tape m_terrace m_holeName m_guestName m_place m_begin m_token m_told m_wrong m_given m_word m_lines m_lineWhat m_lineA m_lineB 4))) else (fX9_readsLine_71 m_size m_tape m_terrace m_holeName m_guestName m_place m_begin m_token m_told m_wrong m_given m_word m_lines m_lineWhat m_lineA m_lineB 3))) else (fX9_readsLine_71 m_size m_tape m_terrace m_holeName m_guestName m_place m_begin m_token m_told m_wrong m_given m_word m_lines m_lineWhat m_lineA m_lineB 2))) else (fX9_readsLine_71 m_size m_tape m_terrace m_holeName m_guestName m_place m_begin m_token m_told m_wrong m_given m_word m_lines m_lineWhat m_lineA m_lineB 1))) else (fX9_readsLine_71 m_size m_tape m_terrace m_holeName m_guestName m_place m_begin m_token m_told m_wrong m_given m_word m_lines m_lineWhat m_lineA m_lineB 0))
set_option maxHeartbeats 4000000 in
set_option maxRecDepth 100000 in
theorem KX9_readsLine (l : Launch) (D : va_G) (cy : Nat → ClassId) (ad : Nat → Nat) (P : MP) (V : MV) (I : MI) (J : MJ) (A : MI) (B : MJ) {res : Int32 × Int32 × Int32 × Int32 × Int32 × Int32 × Int32 × Int64 × (Nat → Int32) × (Nat → Int32) × (Nat → Int32) × (Nat → Int32)} (hf : fX9_readsLine (I 0 3) (A 1) (A 2) (B 3) (B 4) (I 0 4) (I 0 5) (I 0 6) (I 0 8) (I 0 9) (I 0 38) (J 0 7) (A 28) (A 29) (A 30) (A 31) = some res) : CG l yX9_readsLine cX9_readsLine 3 (some .boolean) rmX9_readsLine D cy (dn cy LY_X9 ad P V I J A B) [.ref (ad 0)] (some (.int res.1)) (dn cy LY_X9 ad P V (gp I [(0, 4, res.2.1), (0, 5, res.2.2.1), (0, 6, res.2.2.2.1), (0, 8, res.2.2.2.2.1), (0, 9, res.2.2.2.2.2.1), (0, 38, res.2.2.2.2.2.2.1)]) (gp J [(0, 7, res.2.2.2.2.2.2.2.1)]) (gm A [(28, res.2.2.2.2.2.2.2.2.1), (29, res.2.2.2.2.2.2.2.2.2.1), (30, res.2.2.2.2.2.2.2.2.2.2.1), (31, res.2.2.2.2.2.2.2.2.2.2.2)]) (gm B [])) := by
  refine CG.of (own := RX9) (by decide) rfl rfl ?_
  intro p e s m below meth c ls Af C0 hK hN hA hW hl
  have hW : wd D (dn cy LY_X9 ad P V (gp I [(0, 4, (I 0 4)), (0, 5, (I 0 5)), (0, 6, (I 0 6)), (0, 8, (I 0 8)), (0, 9, (I 0 9)), (0, 38, (I 0 38))]) (gp J [(0, 7, (J 0 7))]) (gm A [(28, (A 28)), (29, (A 29)), (30, (A 30)), (31, (A 31))]) (gm B [])) Af s.heap s.heap [] := wd_sel [(0, 4), (0, 5), (0, 6), (0, 8), (0, 9), (0, 38)] [(0, 7)] [28, 29, 30, 31] [] hW
  have hl : lv_has ls 3 [(0, .ref (ad 0))] := hl
  unfold fX9_readsLine at hf
  refine lv_aload_n C0.1 C0.2.1 dX9_readsLine_0 rfl (lv_at hl 0 rfl) ?_
  refine lv_ldc2 (v := 90302) C0.1 C0.2.1 C0.2.2.2.2.1 (C0.2.2.2.2.2.1 _ uw_1303) dX9_readsLine_1 ?_
  obtain ⟨y1, hy1, hf⟩ := b_some hf
  refine c_Vi C0 hK hN hl.1 hW hA (KX9_isWord l D cy  ad P V (gp I [(0, 4, (I 0 4)), (0, 5, (I 0 5)), (0, 6, (I 0 6)), (0, 8, (I 0 8)), (0, 9, (I 0 9)), (0, 38, (I 0 38))]) (gp J [(0, 7, (J 0 7))]) (gm A [(28, (A 28)), (29, (A 29)), (30, (A 30)), (31, (A 31))]) (gm B []) 90302 hy1) (JN_id rfl rfl rfl rfl) (Uw_V uw_1274 uw_1276 us_40 uw_14 uw_1277) rfl rfl hd_X9_isWord ⟨rfl, rfl⟩ rfl (dn_some LY_X9_0) rfl rfl rfl dX9_readsLine_4 ⟨Nat.zero_le _, Nat.zero_le _⟩ (fun H locs hW => ?_)
  have hW : wd D (dn cy LY_X9 ad P V (gp I [(0, 4, (I 0 4)), (0, 5, (I 0 5)), (0, 6, (I 0 6)), (0, 8, (I 0 8)), (0, 9, (I 0 9)), (0, 38, (I 0 38))]) (gp J [(0, 7, (J 0 7))]) (gm A [(28, (A 28)), (29, (A 29)), (30, (A 30)), (31, (A 31))]) (gm B [])) Af s.heap H locs := hW
  refine lv_if_eq (tgt := 14) C0.1 C0.2.1 dX9_readsLine_7 (by decide) (fun hc2 => ?_) (fun hc2 => ?_)
  · have hf := ite_t hc2 hf
    refine lv_aload_n C0.1 C0.2.1 dX9_readsLine_14 rfl (lv_at hl 0 rfl) ?_
    refine lv_ldc2 (v := 583) C0.1 C0.2.1 C0.2.2.2.2.1 (C0.2.2.2.2.2.1 _ uw_1304) dX9_readsLine_15 ?_
    obtain ⟨y3, hy3, hf⟩ := b_some hf
    refine c_Vi C0 hK hN hl.1 hW hA (KX9_isWord l D cy  ad P V (gp I [(0, 4, (I 0 4)), (0, 5, (I 0 5)), (0, 6, (I 0 6)), (0, 8, (I 0 8)), (0, 9, (I 0 9)), (0, 38, (I 0 38))]) (gp J [(0, 7, (J 0 7))]) (gm A [(28, (A 28)), (29, (A 29)), (30, (A 30)), (31, (A 31))]) (gm B []) 583 hy3) (JN_id rfl rfl rfl rfl) (Uw_V uw_1274 uw_1276 us_40 uw_14 uw_1277) rfl rfl hd_X9_isWord ⟨rfl, rfl⟩ rfl (dn_some LY_X9_0) rfl rfl rfl dX9_readsLine_18 ⟨Nat.zero_le _, Nat.zero_le _⟩ (fun H locs hW => ?_)
    have hW : wd D (dn cy LY_X9 ad P V (gp I [(0, 4, (I 0 4)), (0, 5, (I 0 5)), (0, 6, (I 0 6)), (0, 8, (I 0 8)), (0, 9, (I 0 9)), (0, 38, (I 0 38))]) (gp J [(0, 7, (J 0 7))]) (gm A [(28, (A 28)), (29, (A 29)), (30, (A 30)), (31, (A 31))]) (gm B [])) Af s.heap H locs := hW
    refine lv_if_eq (tgt := 28) C0.1 C0.2.1 dX9_readsLine_21 (by decide) (fun hc4 => ?_) (fun hc4 => ?_)
    · have hf := ite_t hc4 hf
      refine lv_aload_n C0.1 C0.2.1 dX9_readsLine_28 rfl (lv_at hl 0 rfl) ?_
      refine lv_ldc2 (v := 7873077725) C0.1 C0.2.1 C0.2.2.2.2.1 (C0.2.2.2.2.2.1 _ uw_1305) dX9_readsLine_29 ?_
      obtain ⟨y5, hy5, hf⟩ := b_some hf
      refine c_Vi C0 hK hN hl.1 hW hA (KX9_isWord l D cy  ad P V (gp I [(0, 4, (I 0 4)), (0, 5, (I 0 5)), (0, 6, (I 0 6)), (0, 8, (I 0 8)), (0, 9, (I 0 9)), (0, 38, (I 0 38))]) (gp J [(0, 7, (J 0 7))]) (gm A [(28, (A 28)), (29, (A 29)), (30, (A 30)), (31, (A 31))]) (gm B []) 7873077725 hy5) (JN_id rfl rfl rfl rfl) (Uw_V uw_1274 uw_1276 us_40 uw_14 uw_1277) rfl rfl hd_X9_isWord ⟨rfl, rfl⟩ rfl (dn_some LY_X9_0) rfl rfl rfl dX9_readsLine_32 ⟨Nat.zero_le _, Nat.zero_le _⟩ (fun H locs hW => ?_)
      have hW : wd D (dn cy LY_X9 ad P V (gp I [(0, 4, (I 0 4)), (0, 5, (I 0 5)), (0, 6, (I 0 6)), (0, 8, (I 0 8)), (0, 9, (I 0 9)), (0, 38, (I 0 38))]) (gp J [(0, 7, (J 0 7))]) (gm A [(28, (A 28)), (29, (A 29)), (30, (A 30)), (31, (A 31))]) (gm B [])) Af s.heap H locs := hW
      refine lv_if_eq (tgt := 42) C0.1 C0.2.1 dX9_readsLine_35 (by decide) (fun hc6 => ?_) (fun hc6 => ?_)
      · have hf := ite_t hc6 hf
        refine lv_aload_n C0.1 C0.2.1 dX9_readsLine_42 rfl (lv_at hl 0 rfl) ?_
        refine lv_ldc2 (v := 1424122) C0.1 C0.2.1 C0.2.2.2.2.1 (C0.2.2.2.2.2.1 _ uw_1306) dX9_readsLine_43 ?_
        obtain ⟨y7, hy7, hf⟩ := b_some hf
        refine c_Vi C0 hK hN hl.1 hW hA (KX9_isWord l D cy  ad P V (gp I [(0, 4, (I 0 4)), (0, 5, (I 0 5)), (0, 6, (I 0 6)), (0, 8, (I 0 8)), (0, 9, (I 0 9)), (0, 38, (I 0 38))]) (gp J [(0, 7, (J 0 7))]) (gm A [(28, (A 28)), (29, (A 29)), (30, (A 30)), (31, (A 31))]) (gm B []) 1424122 hy7) (JN_id rfl rfl rfl rfl) (Uw_V uw_1274 uw_1276 us_40 uw_14 uw_1277) rfl rfl hd_X9_isWord ⟨rfl, rfl⟩ rfl (dn_some LY_X9_0) rfl rfl rfl dX9_readsLine_46 ⟨Nat.zero_le _, Nat.zero_le _⟩ (fun H locs hW => ?_)
        have hW : wd D (dn cy LY_X9 ad P V (gp I [(0, 4, (I 0 4)), (0, 5, (I 0 5)), (0, 6, (I 0 6)), (0, 8, (I 0 8)), (0, 9, (I 0 9)), (0, 38, (I 0 38))]) (gp J [(0, 7, (J 0 7))]) (gm A [(28, (A 28)), (29, (A 29)), (30, (A 30)), (31, (A 31))]) (gm B [])) Af s.heap H locs := hW
        refine lv_if_eq (tgt := 56) C0.1 C0.2.1 dX9_readsLine_49 (by decide) (fun hc8 => ?_) (fun hc8 => ?_)
        · have hf := ite_t hc8 hf
          refine lv_aload_n C0.1 C0.2.1 dX9_readsLine_56 rfl (lv_at hl 0 rfl) ?_
          refine lv_ldc2 (v := 2968) C0.1 C0.2.1 C0.2.2.2.2.1 (C0.2.2.2.2.2.1 _ uw_1307) dX9_readsLine_57 ?_
          obtain ⟨y9, hy9, hf⟩ := b_some hf
          refine c_Vi C0 hK hN hl.1 hW hA (KX9_isWord l D cy  ad P V (gp I [(0, 4, (I 0 4)), (0, 5, (I 0 5)), (0, 6, (I 0 6)), (0, 8, (I 0 8)), (0, 9, (I 0 9)), (0, 38, (I 0 38))]) (gp J [(0, 7, (J 0 7))]) (gm A [(28, (A 28)), (29, (A 29)), (30, (A 30)), (31, (A 31))]) (gm B []) 2968 hy9) (JN_id rfl rfl rfl rfl) (Uw_V uw_1274 uw_1276 us_40 uw_14 uw_1277) rfl rfl hd_X9_isWord ⟨rfl, rfl⟩ rfl (dn_some LY_X9_0) rfl rfl rfl dX9_readsLine_60 ⟨Nat.zero_le _, Nat.zero_le _⟩ (fun H locs hW => ?_)
          have hW : wd D (dn cy LY_X9 ad P V (gp I [(0, 4, (I 0 4)), (0, 5, (I 0 5)), (0, 6, (I 0 6)), (0, 8, (I 0 8)), (0, 9, (I 0 9)), (0, 38, (I 0 38))]) (gp J [(0, 7, (J 0 7))]) (gm A [(28, (A 28)), (29, (A 29)), (30, (A 30)), (31, (A 31))]) (gm B [])) Af s.heap H locs := hW
          refine lv_if_eq (tgt := 70) C0.1 C0.2.1 dX9_readsLine_63 (by decide) (fun hc10 => ?_) (fun hc10 => ?_)
          · have hf := ite_t hc10 hf
            refine lv_iconst (v := (-1)) C0.1 C0.2.1 dX9_readsLine_70 kI_m1 ?_
            exact tX9_readsLine_71 C0 hK hN hA  (I 0 4) (I 0 5) (I 0 6) (I 0 8) (I 0 9) (I 0 38) (J 0 7) (A 28) (A 29) (A 30) (A 31) (-1) _ _ ls hW hl hf
          · have hf := ite_f hc10 hf
            refine lv_iconst (v := 4) C0.1 C0.2.1 dX9_readsLine_66 kI_4 ?_
            refine lv_goto (tgt := 71) C0.1 C0.2.1 dX9_readsLine_67 (by decide) ?_
            exact tX9_readsLine_71 C0 hK hN hA  (I 0 4) (I 0 5) (I 0 6) (I 0 8) (I 0 9) (I 0 38) (J 0 7) (A 28) (A 29) (A 30) (A 31) 4 _ _ ls hW hl hf
        · have hf := ite_f hc8 hf
          refine lv_iconst (v := 3) C0.1 C0.2.1 dX9_readsLine_52 kI_3 ?_
          refine lv_goto (tgt := 71) C0.1 C0.2.1 dX9_readsLine_53 (by decide) ?_
          exact tX9_readsLine_71 C0 hK hN hA  (I 0 4) (I 0 5) (I 0 6) (I 0 8) (I 0 9) (I 0 38) (J 0 7) (A 28) (A 29) (A 30) (A 31) 3 _ _ ls hW hl hf
      · have hf := ite_f hc6 hf
        refine lv_iconst (v := 2) C0.1 C0.2.1 dX9_readsLine_38 kI_2 ?_
        refine lv_goto (tgt := 71) C0.1 C0.2.1 dX9_readsLine_39 (by decide) ?_
        exact tX9_readsLine_71 C0 hK hN hA  (I 0 4) (I 0 5) (I 0 6) (I 0 8) (I 0 9) (I 0 38) (J 0 7) (A 28) (A 29) (A 30) (A 31) 2 _ _ ls hW hl hf
    · have hf := ite_f hc4 hf
      refine lv_iconst (v := 1) C0.1 C0.2.1 dX9_readsLine_24 kI_1 ?_
      refine lv_goto (tgt := 71) C0.1 C0.2.1 dX9_readsLine_25 (by decide) ?_
      exact tX9_readsLine_71 C0 hK hN hA  (I 0 4) (I 0 5) (I 0 6) (I 0 8) (I 0 9) (I 0 38) (J 0 7) (A 28) (A 29) (A 30) (A 31) 1 _ _ ls hW hl hf
  · have hf := ite_f hc2 hf
    refine lv_iconst (v := 0) C0.1 C0.2.1 dX9_readsLine_10 kI_0 ?_
    refine lv_goto (tgt := 71) C0.1 C0.2.1 dX9_readsLine_11 (by decide) ?_
    exact tX9_readsLine_71 C0 hK hN hA  (I 0 4) (I 0 5) (I 0 6) (I 0 8) (I 0 9) (I 0 38) (J 0 7) (A 28) (A 29) (A 30) (A 31) 0 _ _ ls hW hl hf
-- X9_laysLines
def rmX9_laysLines : Room := { frames := 1, cells := 0, slots := 0, locals := 21 }
def SX9_laysLines_14 (p : Program) (l : Launch) (e : Env) (s : State) (m : MethodId) (args : Array Value) (below : List Frame) (meth : Method) (c : Code) (D : va_G) (cy : Nat → ClassId) (ad : Nat → Nat) (P : MP) (V : MV) (I : MI) (J : MJ) (A : MI) (B : MJ) (Af : Nat → Prop) (res : (Nat → Int32) × (Nat → Int32) × (Nat → Int32) × (Nat → Int32)) (k : (Nat → Int32) → (Nat → Int32) → (Nat → Int32) → (Nat → Int32) → Int32 → Int32 → Int32 → Option ((Nat → Int32) × (Nat → Int32) × (Nat → Int32) × (Nat → Int32))) : Prop := ∀ (m_lines : (Nat → Int32)) (m_lineWhat : (Nat → Int32)) (m_lineA : (Nat → Int32)) (m_lineB : (Nat → Int32)) (v1 : Int32) (v2 : Int32) (v3 : Int32) (H : Heap) (locs : List Loc) (ls : Array Slot), wd D (dn cy LY_X9 ad P V (gp I []) (gp J []) (gm A [(28, m_lines), (29, m_lineWhat), (30, m_lineA), (31, m_lineB)]) (gm B [])) Af s.heap H locs → lv_has ls 4 [(0, .ref (ad 0)), (1, .int v1), (2, .int v2), (3, .int v3)] → k m_lines m_lineWhat m_lineA m_lineB v1 v2 v3 = some res → W p l e rmX9_laysLines s m args below meth c H locs 0 0 (ZQ below D cy (dn cy LY_X9 ad P V (gp I []) (gp J []) (gm A [(28, res.1), (29, res.2.1), (30, res.2.2.1), (31, res.2.2.2)]) (gm B [])) none Af args s) (F0 m 14 ls [])
def fX9_laysLines_14 (k14 : (Nat → Int32) → (Nat → Int32) → (Nat → Int32) → (Nat → Int32) → Int32 → Int32 → Int32 → Option ((Nat → Int32) × (Nat → Int32) × (Nat → Int32) × (Nat → Int32))) (m_lines : (Nat → Int32)) (m_lineWhat : (Nat → Int32)) (m_lineA : (Nat → Int32)) (m_lineB : (Nat → Int32)) (v1 : Int32) (v2 : Int32) (v3 : Int32) : Option ((Nat → Int32) × (Nat → Int32) × (Nat → Int32) × (Nat → Int32)) := if 40 ≤ v3 then (some (m_lines, m_lineWhat, m_lineA, m_lineB)) else (bif inb ((40 * v1) + v3) 240 then (bif inb ((40 * v2) + v3) 240 then (bif inb ((40 * v1) + v3) 240 then (bif inb ((40 * v2) + v3) 240 then (bif inb ((40 * v1) + v3) 240 then (bif inb ((40 * v2) + v3) 240 then (k14 m_lines (upd m_lineWhat (Int32.toNatClampNeg ((40 * v2) + v3)) (m_lineWhat (Int32.toNatClampNeg ((40 * v1) + v3)))) (upd m_lineA (Int32.toNatClampNeg ((40 * v2) + v3)) (m_lineA (Int32.toNatClampNeg ((40 * v1) + v3)))) (upd m_lineB (Int32.toNatClampNeg ((40 * v2) + v3)) (m_lineB (Int32.toNatClampNeg ((40 * v1) + v3)))) v1 v2 (v3 + 1)) else none) else none) else none) else none) else none) else none)
set_option maxHeartbeats 4000000 in
set_option maxRecDepth 100000 in
theorem tX9_laysLines_14 {p : Program} {l : Launch} {e : Env} {s : State} {m : MethodId} {args : Array Value} {below : List Frame} {meth : Method} {c : Code} {D : va_G} {cy : Nat → ClassId} {ad : Nat → Nat} {P : MP} {V : MV} {I : MI} {J : MJ} {A : MI} {B : MJ} {Af : Nat → Prop} {res : (Nat → Int32) × (Nat → Int32) × (Nat → Int32) × (Nat → Int32)} (C0 : CX p s m args meth c cX9_laysLines 4 none RX9) (hK : va_K D vwCl (tyG cy) s) (hN : NWs s) (hA : ∀ q, s.heap.size ≤ q → Af q) {k14 : (Nat → Int32) → (Nat → Int32) → (Nat → Int32) → (Nat → Int32) → Int32 → Int32 → Int32 → Option ((Nat → Int32) × (Nat → Int32) × (Nat → Int32) × (Nat → Int32))} (hk14 : SX9_laysLines_14 p l e s m args below meth c D cy ad P V I J A B Af res k14) : SX9_laysLines_14 p l e s m args below meth c D cy ad P V I J A B Af res (fX9_laysLines_14 k14) := by
  intro m_lines m_lineWhat m_lineA m_lineB v1 v2 v3 H locs ls hW hl hf
  unfold fX9_laysLines_14 at hf
  refine lv_iload_n C0.1 C0.2.1 dX9_laysLines_14 rfl (lv_at hl 3 rfl) ?_
  refine lv_bipush (v := 40) C0.1 C0.2.1 dX9_laysLines_15 kB_40 ?_
  refine lv_icmp_ge (tgt := 92) C0.1 C0.2.1 dX9_laysLines_17 (by decide) (fun hc1 => ?_) (fun hc1 => ?_)
  · have hf := ite_t hc1 hf
    obtain rfl := Option.some.inj hf
    exact r_void C0 hK hW dX9_laysLines_92
  · have hf := ite_f hc1 hf
    refine lv_aload_n C0.1 C0.2.1 dX9_laysLines_20 rfl (lv_at hl 0 rfl) ?_
    refine s_get (v := .ref (ad 29)) C0 hK hW 0 41 LY_X9_0 rfl fg_X9_96 rfl dX9_laysLines_21 ?_
    refine lv_bipush (v := 40) C0.1 C0.2.1 dX9_laysLines_24 kB_40 ?_
    refine lv_iload_n C0.1 C0.2.1 dX9_laysLines_26 rfl (lv_at hl 2 rfl) ?_
    refine lv_imul C0.1 C0.2.1 dX9_laysLines_27 ?_
    refine lv_iload_n C0.1 C0.2.1 dX9_laysLines_28 rfl (lv_at hl 3 rfl) ?_
    refine lv_iadd C0.1 C0.2.1 dX9_laysLines_29 ?_
    refine lv_aload_n C0.1 C0.2.1 dX9_laysLines_30 rfl (lv_at hl 0 rfl) ?_
    refine s_get (v := .ref (ad 29)) C0 hK hW 0 41 LY_X9_0 rfl fg_X9_96 rfl dX9_laysLines_31 ?_
    refine lv_bipush (v := 40) C0.1 C0.2.1 dX9_laysLines_34 kB_40 ?_
    refine lv_iload_n C0.1 C0.2.1 dX9_laysLines_36 rfl (lv_at hl 1 rfl) ?_
    refine lv_imul C0.1 C0.2.1 dX9_laysLines_37 ?_
    refine lv_iload_n C0.1 C0.2.1 dX9_laysLines_38 rfl (lv_at hl 3 rfl) ?_
    refine lv_iadd C0.1 C0.2.1 dX9_laysLines_39 ?_
    obtain ⟨hb2, hf⟩ := g_some hf
    refine s_iald (v := (m_lineWhat (Int32.toNatClampNeg ((40 * v1) + v3)))) C0 hK hW 29 LY_X9_29 hb2 rfl dX9_laysLines_40 ?_
    obtain ⟨hb3, hf⟩ := g_some hf
    refine s_iast (f := (upd m_lineWhat (Int32.toNatClampNeg ((40 * v2) + v3)) (m_lineWhat (Int32.toNatClampNeg ((40 * v1) + v3))))) C0 hK hW 29 LY_X9_29 hb3 rfl rfl dX9_laysLines_41 (fun H locs hW => ?_)
    have hW : wd D (dn cy LY_X9 ad P V (gp I []) (gp J []) (gm A [(28, m_lines), (29, (upd m_lineWhat (Int32.toNatClampNeg ((40 * v2) + v3)) (m_lineWhat (Int32.toNatClampNeg ((40 * v1) + v3))))), (30, m_lineA), (31, m_lineB)]) (gm B [])) Af s.heap H locs := hW
    refine lv_aload_n C0.1 C0.2.1 dX9_laysLines_42 rfl (lv_at hl 0 rfl) ?_
    refine s_get (v := .ref (ad 30)) C0 hK hW 0 42 LY_X9_0 rfl fg_X9_99 rfl dX9_laysLines_43 ?_
    refine lv_bipush (v := 40) C0.1 C0.2.1 dX9_laysLines_46 kB_40 ?_
    refine lv_iload_n C0.1 C0.2.1 dX9_laysLines_48 rfl (lv_at hl 2 rfl) ?_
    refine lv_imul C0.1 C0.2.1 dX9_laysLines_49 ?_
    refine lv_iload_n C0.1 C0.2.1 dX9_laysLines_50 rfl (lv_at hl 3 rfl) ?_
    refine lv_iadd C0.1 C0.2.1 dX9_laysLines_51 ?_
    refine lv_aload_n C0.1 C0.2.1 dX9_laysLines_52 rfl (lv_at hl 0 rfl) ?_
    refine s_get (v := .ref (ad 30)) C0 hK hW 0 42 LY_X9_0 rfl fg_X9_99 rfl dX9_laysLines_53 ?_
    refine lv_bipush (v := 40) C0.1 C0.2.1 dX9_laysLines_56 kB_40 ?_
    refine lv_iload_n C0.1 C0.2.1 dX9_laysLines_58 rfl (lv_at hl 1 rfl) ?_
    refine lv_imul C0.1 C0.2.1 dX9_laysLines_59 ?_
    refine lv_iload_n C0.1 C0.2.1 dX9_laysLines_60 rfl (lv_at hl 3 rfl) ?_
    refine lv_iadd C0.1 C0.2.1 dX9_laysLines_61 ?_
    obtain ⟨hb4, hf⟩ := g_some hf
    refine s_iald (v := (m_lineA (Int32.toNatClampNeg ((40 * v1) + v3)))) C0 hK hW 30 LY_X9_30 hb4 rfl dX9_laysLines_62 ?_
    obtain ⟨hb5, hf⟩ := g_some hf
    refine s_iast (f := (upd m_lineA (Int32.toNatClampNeg ((40 * v2) + v3)) (m_lineA (Int32.toNatClampNeg ((40 * v1) + v3))))) C0 hK hW 30 LY_X9_30 hb5 rfl rfl dX9_laysLines_63 (fun H locs hW => ?_)
    have hW : wd D (dn cy LY_X9 ad P V (gp I []) (gp J []) (gm A [(28, m_lines), (29, (upd m_lineWhat (Int32.toNatClampNeg ((40 * v2) + v3)) (m_lineWhat (Int32.toNatClampNeg ((40 * v1) + v3))))), (30, (upd m_lineA (Int32.toNatClampNeg ((40 * v2) + v3)) (m_lineA (Int32.toNatClampNeg ((40 * v1) + v3))))), (31, m_lineB)]) (gm B [])) Af s.heap H locs := hW
    refine lv_aload_n C0.1 C0.2.1 dX9_laysLines_64 rfl (lv_at hl 0 rfl) ?_
    refine s_get (v := .ref (ad 31)) C0 hK hW 0 43 LY_X9_0 rfl fg_X9_102 rfl dX9_laysLines_65 ?_
    refine lv_bipush (v := 40) C0.1 C0.2.1 dX9_laysLines_68 kB_40 ?_
    refine lv_iload_n C0.1 C0.2.1 dX9_laysLines_70 rfl (lv_at hl 2 rfl) ?_
    refine lv_imul C0.1 C0.2.1 dX9_laysLines_71 ?_
    refine lv_iload_n C0.1 C0.2.1 dX9_laysLines_72 rfl (lv_at hl 3 rfl) ?_
    refine lv_iadd C0.1 C0.2.1 dX9_laysLines_73 ?_
    refine lv_aload_n C0.1 C0.2.1 dX9_laysLines_74 rfl (lv_at hl 0 rfl) ?_
    refine s_get (v := .ref (ad 31)) C0 hK hW 0 43 LY_X9_0 rfl fg_X9_102 rfl dX9_laysLines_75 ?_
    refine lv_bipush (v := 40) C0.1 C0.2.1 dX9_laysLines_78 kB_40 ?_
    refine lv_iload_n C0.1 C0.2.1 dX9_laysLines_80 rfl (lv_at hl 1 rfl) ?_
    refine lv_imul C0.1 C0.2.1 dX9_laysLines_81 ?_
    refine lv_iload_n C0.1 C0.2.1 dX9_laysLines_82 rfl (lv_at hl 3 rfl) ?_
    refine lv_iadd C0.1 C0.2.1 dX9_laysLines_83 ?_
    obtain ⟨hb6, hf⟩ := g_some hf
    refine s_iald (v := (m_lineB (Int32.toNatClampNeg ((40 * v1) + v3)))) C0 hK hW 31 LY_X9_31 hb6 rfl dX9_laysLines_84 ?_
    obtain ⟨hb7, hf⟩ := g_some hf
    refine s_iast (f := (upd m_lineB (Int32.toNatClampNeg ((40 * v2) + v3)) (m_lineB (Int32.toNatClampNeg ((40 * v1) + v3))))) C0 hK hW 31 LY_X9_31 hb7 rfl rfl dX9_laysLines_85 (fun H locs hW => ?_)
    have hW : wd D (dn cy LY_X9 ad P V (gp I []) (gp J []) (gm A [(28, m_lines), (29, (upd m_lineWhat (Int32.toNatClampNeg ((40 * v2) + v3)) (m_lineWhat (Int32.toNatClampNeg ((40 * v1) + v3))))), (30, (upd m_lineA (Int32.toNatClampNeg ((40 * v2) + v3)) (m_lineA (Int32.toNatClampNeg ((40 * v1) + v3))))), (31, (upd m_lineB (Int32.toNatClampNeg ((40 * v2) + v3)) (m_lineB (Int32.toNatClampNeg ((40 * v1) + v3)))))]) (gm B [])) Af s.heap H locs := hW
    refine lv_iinc (v := (v3 + 1)) (lv' := [(3, .int (v3 + 1)), (0, .ref (ad 0)), (1, .int v1), (2, .int v2)]) C0.1 C0.2.1 dX9_laysLines_86 hl (k := 3) rfl (congrArg (fun z => _ + z) kI_1) (by decide) rfl (fun ls hl => ?_)
    refine lv_goto (tgt := 14) C0.1 C0.2.1 dX9_laysLines_89 (by decide) ?_
    exact hk14 m_lines (upd m_lineWhat (Int32.toNatClampNeg ((40 * v2) + v3)) (m_lineWhat (Int32.toNatClampNeg ((40 * v1) + v3)))) (upd m_lineA (Int32.toNatClampNeg ((40 * v2) + v3)) (m_lineA (Int32.toNatClampNeg ((40 * v1) + v3)))) (upd m_lineB (Int32.toNatClampNeg ((40 * v2) + v3)) (m_lineB (Int32.toNatClampNeg ((40 * v1) + v3)))) v1 v2 (v3 + 1) H locs ls hW (lv_sub hl [1, 2, 3, 0] rfl) hf
theorem TX9_laysLines_14 {p : Program} {l : Launch} {e : Env} {s : State} {m : MethodId} {args : Array Value} {below : List Frame} {meth : Method} {c : Code} {D : va_G} {cy : Nat → ClassId} {ad : Nat → Nat} {P : MP} {V : MV} {I : MI} {J : MJ} {A : MI} {B : MJ} {Af : Nat → Prop} {res : (Nat → Int32) × (Nat → Int32) × (Nat → Int32) × (Nat → Int32)} (C0 : CX p s m args meth c cX9_laysLines 4 none RX9) (hK : va_K D vwCl (tyG cy) s) (hN : NWs s) (hA : ∀ q, s.heap.size ≤ q → Af q) : ∀ n, SX9_laysLines_14 p l e s m args below meth c D cy ad P V I J A B Af res (itr (fun kk => fX9_laysLines_14  kk) (fun _ _ _ _ _ _ _ => none) n) := by
  intro n
  induction n with
  | zero => intro m_lines m_lineWhat m_lineA m_lineB v1 v2 v3 H locs ls hW hl hf; exact (nomatch (show (none : Option ((Nat → Int32) × (Nat → Int32) × (Nat → Int32) × (Nat → Int32))) = some res from hf))
  | succ n ih => exact tX9_laysLines_14 C0 hK hN hA  ih
def fX9_laysLines (m_lines : (Nat → Int32)) (m_lineWhat : (Nat → Int32)) (m_lineA : (Nat → Int32)) (m_lineB : (Nat → Int32)) (v1 : Int32) (v2 : Int32) : Option ((Nat → Int32) × (Nat → Int32) × (Nat → Int32) × (Nat → Int32)) := bif inb v1 6 then (bif inb v2 6 then (itr (fun kk => fX9_laysLines_14 kk) (fun _ _ _ _ _ _ _ => none) FU (upd m_lines (Int32.toNatClampNeg v2) (m_lines (Int32.toNatClampNeg v1))) m_lineWhat m_lineA m_lineB v1 v2 0) else none) else none
set_option maxHeartbeats 4000000 in
set_option maxRecDepth 100000 in
theorem KX9_laysLines (l : Launch) (D : va_G) (cy : Nat → ClassId) (ad : Nat → Nat) (P : MP) (V : MV) (I : MI) (J : MJ) (A : MI) (B : MJ) (v1 : Int32) (v2 : Int32) {res : (Nat → Int32) × (Nat → Int32) × (Nat → Int32) × (Nat → Int32)} (hf : fX9_laysLines (A 28) (A 29) (A 30) (A 31) v1 v2 = some res) : CG l yX9_laysLines cX9_laysLines 4 none rmX9_laysLines D cy (dn cy LY_X9 ad P V I J A B) [.ref (ad 0), .int v1, .int v2] none (dn cy LY_X9 ad P V (gp I []) (gp J []) (gm A [(28, res.1), (29, res.2.1), (30, res.2.2.1), (31, res.2.2.2)]) (gm B [])) := by
  refine CG.of (own := RX9) (by decide) rfl rfl ?_
  intro p e s m below meth c ls Af C0 hK hN hA hW hl
  have hW : wd D (dn cy LY_X9 ad P V (gp I []) (gp J []) (gm A [(28, (A 28)), (29, (A 29)), (30, (A 30)), (31, (A 31))]) (gm B [])) Af s.heap s.heap [] := wd_sel [] [] [28, 29, 30, 31] [] hW
  have hl : lv_has ls 4 [(0, .ref (ad 0)), (1, .int v1), (2, .int v2)] := hl
  unfold fX9_laysLines at hf
  refine lv_aload_n C0.1 C0.2.1 dX9_laysLines_0 rfl (lv_at hl 0 rfl) ?_
  refine s_get (v := .ref (ad 28)) C0 hK hW 0 40 LY_X9_0 rfl fg_X9_93 rfl dX9_laysLines_1 ?_
  refine lv_iload_n C0.1 C0.2.1 dX9_laysLines_4 rfl (lv_at hl 2 rfl) ?_
  refine lv_aload_n C0.1 C0.2.1 dX9_laysLines_5 rfl (lv_at hl 0 rfl) ?_
  refine s_get (v := .ref (ad 28)) C0 hK hW 0 40 LY_X9_0 rfl fg_X9_93 rfl dX9_laysLines_6 ?_
  refine lv_iload_n C0.1 C0.2.1 dX9_laysLines_9 rfl (lv_at hl 1 rfl) ?_
  obtain ⟨hb1, hf⟩ := g_some hf
  refine s_iald (v := ((A 28) (Int32.toNatClampNeg v1))) C0 hK hW 28 LY_X9_28 hb1 rfl dX9_laysLines_10 ?_
  obtain ⟨hb2, hf⟩ := g_some hf
  refine s_iast (f := (upd (A 28) (Int32.toNatClampNeg v2) ((A 28) (Int32.toNatClampNeg v1)))) C0 hK hW 28 LY_X9_28 hb2 rfl rfl dX9_laysLines_11 (fun H locs hW => ?_)
  have hW : wd D (dn cy LY_X9 ad P V (gp I []) (gp J []) (gm A [(28, (upd (A 28) (Int32.toNatClampNeg v2) ((A 28) (Int32.toNatClampNeg v1)))), (29, (A 29)), (30, (A 30)), (31, (A 31))]) (gm B [])) Af s.heap H locs := hW
  refine lv_iconst (v := 0) C0.1 C0.2.1 dX9_laysLines_12 kI_0 ?_
  refine lv_istore_n (lv' := [(3, .int 0), (0, .ref (ad 0)), (1, .int v1), (2, .int v2)]) C0.1 C0.2.1 dX9_laysLines_13 rfl hl (by decide) rfl (fun ls hl => ?_)
  exact TX9_laysLines_14 C0 hK hN hA  FU (upd (A 28) (Int32.toNatClampNeg v2) ((A 28) (Int32.toNatClampNeg v1))) (A 29) (A 30) (A 31) v1 v2 0 _ _ ls hW (lv_sub hl [1, 2, 3, 0] rfl) hf
-- X9_laysHeard
def rmX9_laysHeard : Room := { frames := 1, cells := 0, slots := 0, locals := 21 }
def SX9_laysHeard_14 (p : Program) (l : Launch) (e : Env) (s : State) (m : MethodId) (args : Array Value) (below : List Frame) (meth : Method) (c : Code) (D : va_G) (cy : Nat → ClassId) (ad : Nat → Nat) (P : MP) (V : MV) (I : MI) (J : MJ) (A : MI) (B : MJ) (Af : Nat → Prop) (res : (Nat → Int32) × (Nat → Int32) × (Nat → Int32)) (k : (Nat → Int32) → (Nat → Int32) → (Nat → Int32) → Int32 → Int32 → Int32 → Option ((Nat → Int32) × (Nat → Int32) × (Nat → Int32))) : Prop := ∀ (m_heards : (Nat → Int32)) (m_heardDays : (Nat → Int32)) (m_heardSome : (Nat → Int32)) (v1 : Int32) (v2 : Int32) (v3 : Int32) (H : Heap) (locs : List Loc) (ls : Array Slot), wd D (dn cy LY_X9 ad P V (gp I []) (gp J []) (gm A [(32, m_heards), (33, m_heardDays), (34, m_heardSome)]) (gm B [])) Af s.heap H locs → lv_has ls 4 [(0, .ref (ad 0)), (1, .int v1), (2, .int v2), (3, .int v3)] → k m_heards m_heardDays m_heardSome v1 v2 v3 = some res → W p l e rmX9_laysHeard s m args below meth c H locs 0 0 (ZQ below D cy (dn cy LY_X9 ad P V (gp I []) (gp J []) (gm A [(32, res.1), (33, res.2.1), (34, res.2.2)]) (gm B [])) none Af args s) (F0 m 14 ls [])
def fX9_laysHeard_14 (k14 : (Nat → Int32) → (Nat → Int32) → (Nat → Int32) → Int32 → Int32 → Int32 → Option ((Nat → Int32) × (Nat → Int32) × (Nat → Int32))) (m_heards : (Nat → Int32)) (m_heardDays : (Nat → Int32)) (m_heardSome : (Nat → Int32)) (v1 : Int32) (v2 : Int32) (v3 : Int32) : Option ((Nat → Int32) × (Nat → Int32) × (Nat → Int32)) := if 8 ≤ v3 then (some (m_heards, m_heardDays, m_heardSome)) else (bif inb ((8 * v1) + v3) 40 then (bif inb ((8 * v2) + v3) 40 then (bif inb ((8 * v1) + v3) 40 then (bif inb ((8 * v2) + v3) 40 then (k14 m_heards (upd m_heardDays (Int32.toNatClampNeg ((8 * v2) + v3)) (m_heardDays (Int32.toNatClampNeg ((8 * v1) + v3)))) (upd m_heardSome (Int32.toNatClampNeg ((8 * v2) + v3)) (vp_nar .boolean (m_heardSome (Int32.toNatClampNeg ((8 * v1) + v3))))) v1 v2 (v3 + 1)) else none) else none) else none) else none)
set_option maxHeartbeats 4000000 in
set_option maxRecDepth 100000 in
theorem tX9_laysHeard_14 {p : Program} {l : Launch} {e : Env} {s : State} {m : MethodId} {args : Array Value} {below : List Frame} {meth : Method} {c : Code} {D : va_G} {cy : Nat → ClassId} {ad : Nat → Nat} {P : MP} {V : MV} {I : MI} {J : MJ} {A : MI} {B : MJ} {Af : Nat → Prop} {res : (Nat → Int32) × (Nat → Int32) × (Nat → Int32)} (C0 : CX p s m args meth c cX9_laysHeard 4 none RX9) (hK : va_K D vwCl (tyG cy) s) (hN : NWs s) (hA : ∀ q, s.heap.size ≤ q → Af q) {k14 : (Nat → Int32) → (Nat → Int32) → (Nat → Int32) → Int32 → Int32 → Int32 → Option ((Nat → Int32) × (Nat → Int32) × (Nat → Int32))} (hk14 : SX9_laysHeard_14 p l e s m args below meth c D cy ad P V I J A B Af res k14) : SX9_laysHeard_14 p l e s m args below meth c D cy ad P V I J A B Af res (fX9_laysHeard_14 k14) := by
  intro m_heards m_heardDays m_heardSome v1 v2 v3 H locs ls hW hl hf
  unfold fX9_laysHeard_14 at hf
  refine lv_iload_n C0.1 C0.2.1 dX9_laysHeard_14 rfl (lv_at hl 3 rfl) ?_
  refine lv_bipush (v := 8) C0.1 C0.2.1 dX9_laysHeard_15 kB_8 ?_
  refine lv_icmp_ge (tgt := 70) C0.1 C0.2.1 dX9_laysHeard_17 (by decide) (fun hc1 => ?_) (fun hc1 => ?_)
  · have hf := ite_t hc1 hf
    obtain rfl := Option.some.inj hf
    exact r_void C0 hK hW dX9_laysHeard_70
  · have hf := ite_f hc1 hf
    refine lv_aload_n C0.1 C0.2.1 dX9_laysHeard_20 rfl (lv_at hl 0 rfl) ?_
    refine s_get (v := .ref (ad 33)) C0 hK hW 0 45 LY_X9_0 rfl fg_X9_108 rfl dX9_laysHeard_21 ?_
    refine lv_bipush (v := 8) C0.1 C0.2.1 dX9_laysHeard_24 kB_8 ?_
    refine lv_iload_n C0.1 C0.2.1 dX9_laysHeard_26 rfl (lv_at hl 2 rfl) ?_
    refine lv_imul C0.1 C0.2.1 dX9_laysHeard_27 ?_
    refine lv_iload_n C0.1 C0.2.1 dX9_laysHeard_28 rfl (lv_at hl 3 rfl) ?_
    refine lv_iadd C0.1 C0.2.1 dX9_laysHeard_29 ?_
    refine lv_aload_n C0.1 C0.2.1 dX9_laysHeard_30 rfl (lv_at hl 0 rfl) ?_
    refine s_get (v := .ref (ad 33)) C0 hK hW 0 45 LY_X9_0 rfl fg_X9_108 rfl dX9_laysHeard_31 ?_
    refine lv_bipush (v := 8) C0.1 C0.2.1 dX9_laysHeard_34 kB_8 ?_
    refine lv_iload_n C0.1 C0.2.1 dX9_laysHeard_36 rfl (lv_at hl 1 rfl) ?_
    refine lv_imul C0.1 C0.2.1 dX9_laysHeard_37 ?_
    refine lv_iload_n C0.1 C0.2.1 dX9_laysHeard_38 rfl (lv_at hl 3 rfl) ?_
    refine lv_iadd C0.1 C0.2.1 dX9_laysHeard_39 ?_
    obtain ⟨hb2, hf⟩ := g_some hf
    refine s_iald (v := (m_heardDays (Int32.toNatClampNeg ((8 * v1) + v3)))) C0 hK hW 33 LY_X9_33 hb2 rfl dX9_laysHeard_40 ?_
    obtain ⟨hb3, hf⟩ := g_some hf
    refine s_iast (f := (upd m_heardDays (Int32.toNatClampNeg ((8 * v2) + v3)) (m_heardDays (Int32.toNatClampNeg ((8 * v1) + v3))))) C0 hK hW 33 LY_X9_33 hb3 rfl rfl dX9_laysHeard_41 (fun H locs hW => ?_)
    have hW : wd D (dn cy LY_X9 ad P V (gp I []) (gp J []) (gm A [(32, m_heards), (33, (upd m_heardDays (Int32.toNatClampNeg ((8 * v2) + v3)) (m_heardDays (Int32.toNatClampNeg ((8 * v1) + v3))))), (34, m_heardSome)]) (gm B [])) Af s.heap H locs := hW
    refine lv_aload_n C0.1 C0.2.1 dX9_laysHeard_42 rfl (lv_at hl 0 rfl) ?_
    refine s_get (v := .ref (ad 34)) C0 hK hW 0 46 LY_X9_0 rfl fg_X9_111 rfl dX9_laysHeard_43 ?_
    refine lv_bipush (v := 8) C0.1 C0.2.1 dX9_laysHeard_46 kB_8 ?_
    refine lv_iload_n C0.1 C0.2.1 dX9_laysHeard_48 rfl (lv_at hl 2 rfl) ?_
    refine lv_imul C0.1 C0.2.1 dX9_laysHeard_49 ?_
    refine lv_iload_n C0.1 C0.2.1 dX9_laysHeard_50 rfl (lv_at hl 3 rfl) ?_
    refine lv_iadd C0.1 C0.2.1 dX9_laysHeard_51 ?_
    refine lv_aload_n C0.1 C0.2.1 dX9_laysHeard_52 rfl (lv_at hl 0 rfl) ?_
    refine s_get (v := .ref (ad 34)) C0 hK hW 0 46 LY_X9_0 rfl fg_X9_111 rfl dX9_laysHeard_53 ?_
    refine lv_bipush (v := 8) C0.1 C0.2.1 dX9_laysHeard_56 kB_8 ?_
    refine lv_iload_n C0.1 C0.2.1 dX9_laysHeard_58 rfl (lv_at hl 1 rfl) ?_
    refine lv_imul C0.1 C0.2.1 dX9_laysHeard_59 ?_
    refine lv_iload_n C0.1 C0.2.1 dX9_laysHeard_60 rfl (lv_at hl 3 rfl) ?_
    refine lv_iadd C0.1 C0.2.1 dX9_laysHeard_61 ?_
    obtain ⟨hb4, hf⟩ := g_some hf
    refine s_zald (v := (m_heardSome (Int32.toNatClampNeg ((8 * v1) + v3)))) C0 hK hW 34 LY_X9_34 hb4 rfl dX9_laysHeard_62 ?_
    obtain ⟨hb5, hf⟩ := g_some hf
    refine s_zast (f := (upd m_heardSome (Int32.toNatClampNeg ((8 * v2) + v3)) (vp_nar .boolean (m_heardSome (Int32.toNatClampNeg ((8 * v1) + v3)))))) C0 hK hW 34 LY_X9_34 hb5 rfl rfl dX9_laysHeard_63 (fun H locs hW => ?_)
    have hW : wd D (dn cy LY_X9 ad P V (gp I []) (gp J []) (gm A [(32, m_heards), (33, (upd m_heardDays (Int32.toNatClampNeg ((8 * v2) + v3)) (m_heardDays (Int32.toNatClampNeg ((8 * v1) + v3))))), (34, (upd m_heardSome (Int32.toNatClampNeg ((8 * v2) + v3)) (vp_nar .boolean (m_heardSome (Int32.toNatClampNeg ((8 * v1) + v3))))))]) (gm B [])) Af s.heap H locs := hW
    refine lv_iinc (v := (v3 + 1)) (lv' := [(3, .int (v3 + 1)), (0, .ref (ad 0)), (1, .int v1), (2, .int v2)]) C0.1 C0.2.1 dX9_laysHeard_64 hl (k := 3) rfl (congrArg (fun z => _ + z) kI_1) (by decide) rfl (fun ls hl => ?_)
    refine lv_goto (tgt := 14) C0.1 C0.2.1 dX9_laysHeard_67 (by decide) ?_
    exact hk14 m_heards (upd m_heardDays (Int32.toNatClampNeg ((8 * v2) + v3)) (m_heardDays (Int32.toNatClampNeg ((8 * v1) + v3)))) (upd m_heardSome (Int32.toNatClampNeg ((8 * v2) + v3)) (vp_nar .boolean (m_heardSome (Int32.toNatClampNeg ((8 * v1) + v3))))) v1 v2 (v3 + 1) H locs ls hW (lv_sub hl [1, 2, 3, 0] rfl) hf
theorem TX9_laysHeard_14 {p : Program} {l : Launch} {e : Env} {s : State} {m : MethodId} {args : Array Value} {below : List Frame} {meth : Method} {c : Code} {D : va_G} {cy : Nat → ClassId} {ad : Nat → Nat} {P : MP} {V : MV} {I : MI} {J : MJ} {A : MI} {B : MJ} {Af : Nat → Prop} {res : (Nat → Int32) × (Nat → Int32) × (Nat → Int32)} (C0 : CX p s m args meth c cX9_laysHeard 4 none RX9) (hK : va_K D vwCl (tyG cy) s) (hN : NWs s) (hA : ∀ q, s.heap.size ≤ q → Af q) : ∀ n, SX9_laysHeard_14 p l e s m args below meth c D cy ad P V I J A B Af res (itr (fun kk => fX9_laysHeard_14  kk) (fun _ _ _ _ _ _ => none) n) := by
  intro n
  induction n with
  | zero => intro m_heards m_heardDays m_heardSome v1 v2 v3 H locs ls hW hl hf; exact (nomatch (show (none : Option ((Nat → Int32) × (Nat → Int32) × (Nat → Int32))) = some res from hf))
  | succ n ih => exact tX9_laysHeard_14 C0 hK hN hA  ih
def fX9_laysHeard (m_heards : (Nat → Int32)) (m_heardDays : (Nat → Int32)) (m_heardSome : (Nat → Int32)) (v1 : Int32) (v2 : Int32) : Option ((Nat → Int32) × (Nat → Int32) × (Nat → Int32)) := bif inb v1 5 then (bif inb v2 5 then (itr (fun kk => fX9_laysHeard_14 kk) (fun _ _ _ _ _ _ => none) FU (upd m_heards (Int32.toNatClampNeg v2) (m_heards (Int32.toNatClampNeg v1))) m_heardDays m_heardSome v1 v2 0) else none) else none
set_option maxHeartbeats 4000000 in
set_option maxRecDepth 100000 in
theorem KX9_laysHeard (l : Launch) (D : va_G) (cy : Nat → ClassId) (ad : Nat → Nat) (P : MP) (V : MV) (I : MI) (J : MJ) (A : MI) (B : MJ) (v1 : Int32) (v2 : Int32) {res : (Nat → Int32) × (Nat → Int32) × (Nat → Int32)} (hf : fX9_laysHeard (A 32) (A 33) (A 34) v1 v2 = some res) : CG l yX9_laysHeard cX9_laysHeard 4 none rmX9_laysHeard D cy (dn cy LY_X9 ad P V I J A B) [.ref (ad 0), .int v1, .int v2] none (dn cy LY_X9 ad P V (gp I []) (gp J []) (gm A [(32, res.1), (33, res.2.1), (34, res.2.2)]) (gm B [])) := by
  refine CG.of (own := RX9) (by decide) rfl rfl ?_
  intro p e s m below meth c ls Af C0 hK hN hA hW hl
  have hW : wd D (dn cy LY_X9 ad P V (gp I []) (gp J []) (gm A [(32, (A 32)), (33, (A 33)), (34, (A 34))]) (gm B [])) Af s.heap s.heap [] := wd_sel [] [] [32, 33, 34] [] hW
  have hl : lv_has ls 4 [(0, .ref (ad 0)), (1, .int v1), (2, .int v2)] := hl
  unfold fX9_laysHeard at hf
  refine lv_aload_n C0.1 C0.2.1 dX9_laysHeard_0 rfl (lv_at hl 0 rfl) ?_
  refine s_get (v := .ref (ad 32)) C0 hK hW 0 44 LY_X9_0 rfl fg_X9_105 rfl dX9_laysHeard_1 ?_
  refine lv_iload_n C0.1 C0.2.1 dX9_laysHeard_4 rfl (lv_at hl 2 rfl) ?_
  refine lv_aload_n C0.1 C0.2.1 dX9_laysHeard_5 rfl (lv_at hl 0 rfl) ?_
  refine s_get (v := .ref (ad 32)) C0 hK hW 0 44 LY_X9_0 rfl fg_X9_105 rfl dX9_laysHeard_6 ?_
  refine lv_iload_n C0.1 C0.2.1 dX9_laysHeard_9 rfl (lv_at hl 1 rfl) ?_
  obtain ⟨hb1, hf⟩ := g_some hf
  refine s_iald (v := ((A 32) (Int32.toNatClampNeg v1))) C0 hK hW 32 LY_X9_32 hb1 rfl dX9_laysHeard_10 ?_
  obtain ⟨hb2, hf⟩ := g_some hf
  refine s_iast (f := (upd (A 32) (Int32.toNatClampNeg v2) ((A 32) (Int32.toNatClampNeg v1)))) C0 hK hW 32 LY_X9_32 hb2 rfl rfl dX9_laysHeard_11 (fun H locs hW => ?_)
  have hW : wd D (dn cy LY_X9 ad P V (gp I []) (gp J []) (gm A [(32, (upd (A 32) (Int32.toNatClampNeg v2) ((A 32) (Int32.toNatClampNeg v1)))), (33, (A 33)), (34, (A 34))]) (gm B [])) Af s.heap H locs := hW
  refine lv_iconst (v := 0) C0.1 C0.2.1 dX9_laysHeard_12 kI_0 ?_
  refine lv_istore_n (lv' := [(3, .int 0), (0, .ref (ad 0)), (1, .int v1), (2, .int v2)]) C0.1 C0.2.1 dX9_laysHeard_13 rfl hl (by decide) rfl (fun ls hl => ?_)
  exact TX9_laysHeard_14 C0 hK hN hA  FU (upd (A 32) (Int32.toNatClampNeg v2) ((A 32) (Int32.toNatClampNeg v1))) (A 33) (A 34) v1 v2 0 _ _ ls hW (lv_sub hl [1, 2, 3, 0] rfl) hf
-- X9_fresh0
def rmX9_fresh0 : Room := { frames := 1, cells := 0, slots := 0, locals := 21 }
def SX9_fresh0_23 (p : Program) (l : Launch) (e : Env) (s : State) (m : MethodId) (args : Array Value) (below : List Frame) (meth : Method) (c : Code) (D : va_G) (cy : Nat → ClassId) (ad : Nat → Nat) (P : MP) (V : MV) (I : MI) (J : MJ) (A : MI) (B : MJ) (Af : Nat → Prop) (res : (Nat → Int32)) (k : (Nat → Int32) → Int32 → Option ((Nat → Int32))) : Prop := ∀ (m_s : (Nat → Int32)) (v1 : Int32) (H : Heap) (locs : List Loc) (ls : Array Slot), wd D (dn cy LY_X9 ad P V (gp I []) (gp J []) (gm A [(35, m_s)]) (gm B [])) Af s.heap H locs → lv_has ls 2 [(0, .ref (ad 0)), (1, .int v1)] → k m_s v1 = some res → W p l e rmX9_fresh0 s m args below meth c H locs 0 0 (ZQ below D cy (dn cy LY_X9 ad P V (gp I []) (gp J []) (gm A [(35, res)]) (gm B [])) none Af args s) (F0 m 23 ls [])
def SX9_fresh0_2 (p : Program) (l : Launch) (e : Env) (s : State) (m : MethodId) (args : Array Value) (below : List Frame) (meth : Method) (c : Code) (D : va_G) (cy : Nat → ClassId) (ad : Nat → Nat) (P : MP) (V : MV) (I : MI) (J : MJ) (A : MI) (B : MJ) (Af : Nat → Prop) (res : (Nat → Int32)) (k : (Nat → Int32) → Int32 → Option ((Nat → Int32))) : Prop := ∀ (m_s : (Nat → Int32)) (v1 : Int32) (H : Heap) (locs : List Loc) (ls : Array Slot), wd D (dn cy LY_X9 ad P V (gp I []) (gp J []) (gm A [(35, m_s)]) (gm B [])) Af s.heap H locs → lv_has ls 2 [(0, .ref (ad 0)), (1, .int v1)] → k m_s v1 = some res → W p l e rmX9_fresh0 s m args below meth c H locs 0 0 (ZQ below D cy (dn cy LY_X9 ad P V (gp I []) (gp J []) (gm A [(35, res)]) (gm B [])) none Af args s) (F0 m 2 ls [])
def fX9_fresh0_23 (m_terrace : (Nat → Int32)) (m_coalTold : (Nat → Int32)) (k23 : (Nat → Int32) → Int32 → Option ((Nat → Int32))) (m_s : (Nat → Int32)) (v1 : Int32) : Option ((Nat → Int32)) := if (m_terrace 0) ≤ v1 then (some (m_s)) else (bif inb v1 10 then (bif inb (3 + v1) 13 then (k23 (upd m_s (Int32.toNatClampNeg (3 + v1)) (m_coalTold (Int32.toNatClampNeg v1))) (v1 + 1)) else none) else none)
set_option maxHeartbeats 4000000 in
set_option maxRecDepth 100000 in
theorem tX9_fresh0_23 {p : Program} {l : Launch} {e : Env} {s : State} {m : MethodId} {args : Array Value} {below : List Frame} {meth : Method} {c : Code} {D : va_G} {cy : Nat → ClassId} {ad : Nat → Nat} {P : MP} {V : MV} {I : MI} {J : MJ} {A : MI} {B : MJ} {Af : Nat → Prop} {res : (Nat → Int32)} (C0 : CX p s m args meth c cX9_fresh0 2 none RX9) (hK : va_K D vwCl (tyG cy) s) (hN : NWs s) (hA : ∀ q, s.heap.size ≤ q → Af q) {k23 : (Nat → Int32) → Int32 → Option ((Nat → Int32))} (hk23 : SX9_fresh0_23 p l e s m args below meth c D cy ad P V I J A B Af res k23) : SX9_fresh0_23 p l e s m args below meth c D cy ad P V I J A B Af res (fX9_fresh0_23 (A 2) (A 6) k23) := by
  intro m_s v1 H locs ls hW hl hf
  unfold fX9_fresh0_23 at hf
  refine lv_iload_n C0.1 C0.2.1 dX9_fresh0_23 rfl (lv_at hl 1 rfl) ?_
  refine lv_aload_n C0.1 C0.2.1 dX9_fresh0_24 rfl (lv_at hl 0 rfl) ?_
  refine s_get (v := .ref (ad 2)) C0 hK hW 0 10 LY_X9_0 rfl fg_X9_13 rfl dX9_fresh0_25 ?_
  refine lv_iconst (v := 0) C0.1 C0.2.1 dX9_fresh0_28 kI_0 ?_
  refine s_iald (v := ((A 2) 0)) C0 hK hW 2 LY_X9_2 rfl (congrArg _ tc_0) dX9_fresh0_29 ?_
  refine lv_icmp_ge (tgt := 53) C0.1 C0.2.1 dX9_fresh0_30 (by decide) (fun hc1 => ?_) (fun hc1 => ?_)
  · have hf := ite_t hc1 hf
    obtain rfl := Option.some.inj hf
    exact r_void C0 hK hW dX9_fresh0_53
  · have hf := ite_f hc1 hf
    refine lv_aload_n C0.1 C0.2.1 dX9_fresh0_33 rfl (lv_at hl 0 rfl) ?_
    refine s_get (v := .ref (ad 35)) C0 hK hW 0 47 LY_X9_0 rfl fg_X9_114 rfl dX9_fresh0_34 ?_
    refine lv_iconst (v := 3) C0.1 C0.2.1 dX9_fresh0_37 kI_3 ?_
    refine lv_iload_n C0.1 C0.2.1 dX9_fresh0_38 rfl (lv_at hl 1 rfl) ?_
    refine lv_iadd C0.1 C0.2.1 dX9_fresh0_39 ?_
    refine lv_aload_n C0.1 C0.2.1 dX9_fresh0_40 rfl (lv_at hl 0 rfl) ?_
    refine s_get (v := .ref (ad 6)) C0 hK hW 0 14 LY_X9_0 rfl fg_X9_26 rfl dX9_fresh0_41 ?_
    refine lv_iload_n C0.1 C0.2.1 dX9_fresh0_44 rfl (lv_at hl 1 rfl) ?_
    obtain ⟨hb2, hf⟩ := g_some hf
    refine s_iald (v := ((A 6) (Int32.toNatClampNeg v1))) C0 hK hW 6 LY_X9_6 hb2 rfl dX9_fresh0_45 ?_
    obtain ⟨hb3, hf⟩ := g_some hf
    refine s_iast (f := (upd m_s (Int32.toNatClampNeg (3 + v1)) ((A 6) (Int32.toNatClampNeg v1)))) C0 hK hW 35 LY_X9_35 hb3 rfl rfl dX9_fresh0_46 (fun H locs hW => ?_)
    have hW : wd D (dn cy LY_X9 ad P V (gp I []) (gp J []) (gm A [(35, (upd m_s (Int32.toNatClampNeg (3 + v1)) ((A 6) (Int32.toNatClampNeg v1))))]) (gm B [])) Af s.heap H locs := hW
    refine lv_iinc (v := (v1 + 1)) (lv' := [(1, .int (v1 + 1)), (0, .ref (ad 0))]) C0.1 C0.2.1 dX9_fresh0_47 hl (k := 1) rfl (congrArg (fun z => _ + z) kI_1) (by decide) rfl (fun ls hl => ?_)
    refine lv_goto (tgt := 23) C0.1 C0.2.1 dX9_fresh0_50 (by decide) ?_
    exact hk23 (upd m_s (Int32.toNatClampNeg (3 + v1)) ((A 6) (Int32.toNatClampNeg v1))) (v1 + 1) H locs ls hW (lv_sub hl [1, 0] rfl) hf
theorem TX9_fresh0_23 {p : Program} {l : Launch} {e : Env} {s : State} {m : MethodId} {args : Array Value} {below : List Frame} {meth : Method} {c : Code} {D : va_G} {cy : Nat → ClassId} {ad : Nat → Nat} {P : MP} {V : MV} {I : MI} {J : MJ} {A : MI} {B : MJ} {Af : Nat → Prop} {res : (Nat → Int32)} (C0 : CX p s m args meth c cX9_fresh0 2 none RX9) (hK : va_K D vwCl (tyG cy) s) (hN : NWs s) (hA : ∀ q, s.heap.size ≤ q → Af q) : ∀ n, SX9_fresh0_23 p l e s m args below meth c D cy ad P V I J A B Af res (itr (fun kk => fX9_fresh0_23 (A 2) (A 6) kk) (fun _ _ => none) n) := by
  intro n
  induction n with
  | zero => intro m_s v1 H locs ls hW hl hf; exact (nomatch (show (none : Option ((Nat → Int32))) = some res from hf))
  | succ n ih => exact tX9_fresh0_23 C0 hK hN hA  ih
def fX9_fresh0_2 (m_terrace : (Nat → Int32)) (m_coalTold : (Nat → Int32)) (k2 : (Nat → Int32) → Int32 → Option ((Nat → Int32))) (m_s : (Nat → Int32)) (v1 : Int32) : Option ((Nat → Int32)) := if 13 ≤ v1 then (itr (fun kk => fX9_fresh0_23 m_terrace m_coalTold kk) (fun _ _ => none) FU m_s 0) else (bif inb v1 13 then (k2 (upd m_s (Int32.toNatClampNeg v1) 0) (v1 + 1)) else none)
set_option maxHeartbeats 4000000 in
set_option maxRecDepth 100000 in
theorem tX9_fresh0_2 {p : Program} {l : Launch} {e : Env} {s : State} {m : MethodId} {args : Array Value} {below : List Frame} {meth : Method} {c : Code} {D : va_G} {cy : Nat → ClassId} {ad : Nat → Nat} {P : MP} {V : MV} {I : MI} {J : MJ} {A : MI} {B : MJ} {Af : Nat → Prop} {res : (Nat → Int32)} (C0 : CX p s m args meth c cX9_fresh0 2 none RX9) (hK : va_K D vwCl (tyG cy) s) (hN : NWs s) (hA : ∀ q, s.heap.size ≤ q → Af q) {k2 : (Nat → Int32) → Int32 → Option ((Nat → Int32))} (hk2 : SX9_fresh0_2 p l e s m args below meth c D cy ad P V I J A B Af res k2) : SX9_fresh0_2 p l e s m args below meth c D cy ad P V I J A B Af res (fX9_fresh0_2 (A 2) (A 6) k2) := by
  intro m_s v1 H locs ls hW hl hf
  unfold fX9_fresh0_2 at hf
  refine lv_iload_n C0.1 C0.2.1 dX9_fresh0_2 rfl (lv_at hl 1 rfl) ?_
  refine lv_bipush (v := 13) C0.1 C0.2.1 dX9_fresh0_3 kB_13 ?_
  refine lv_icmp_ge (tgt := 21) C0.1 C0.2.1 dX9_fresh0_5 (by decide) (fun hc1 => ?_) (fun hc1 => ?_)
  · have hf := ite_t hc1 hf
    refine lv_iconst (v := 0) C0.1 C0.2.1 dX9_fresh0_21 kI_0 ?_
    refine lv_istore_n (lv' := [(1, .int 0), (0, .ref (ad 0))]) C0.1 C0.2.1 dX9_fresh0_22 rfl hl (by decide) rfl (fun ls hl => ?_)
    exact TX9_fresh0_23 C0 hK hN hA  FU m_s 0 H locs ls hW (lv_sub hl [1, 0] rfl) hf
  · have hf := ite_f hc1 hf
    refine lv_aload_n C0.1 C0.2.1 dX9_fresh0_8 rfl (lv_at hl 0 rfl) ?_
    refine s_get (v := .ref (ad 35)) C0 hK hW 0 47 LY_X9_0 rfl fg_X9_114 rfl dX9_fresh0_9 ?_
    refine lv_iload_n C0.1 C0.2.1 dX9_fresh0_12 rfl (lv_at hl 1 rfl) ?_
    refine lv_iconst (v := 0) C0.1 C0.2.1 dX9_fresh0_13 kI_0 ?_
    obtain ⟨hb2, hf⟩ := g_some hf
    refine s_iast (f := (upd m_s (Int32.toNatClampNeg v1) 0)) C0 hK hW 35 LY_X9_35 hb2 rfl rfl dX9_fresh0_14 (fun H locs hW => ?_)
    have hW : wd D (dn cy LY_X9 ad P V (gp I []) (gp J []) (gm A [(35, (upd m_s (Int32.toNatClampNeg v1) 0))]) (gm B [])) Af s.heap H locs := hW
    refine lv_iinc (v := (v1 + 1)) (lv' := [(1, .int (v1 + 1)), (0, .ref (ad 0))]) C0.1 C0.2.1 dX9_fresh0_15 hl (k := 1) rfl (congrArg (fun z => _ + z) kI_1) (by decide) rfl (fun ls hl => ?_)
    refine lv_goto (tgt := 2) C0.1 C0.2.1 dX9_fresh0_18 (by decide) ?_
    exact hk2 (upd m_s (Int32.toNatClampNeg v1) 0) (v1 + 1) H locs ls hW (lv_sub hl [1, 0] rfl) hf
theorem TX9_fresh0_2 {p : Program} {l : Launch} {e : Env} {s : State} {m : MethodId} {args : Array Value} {below : List Frame} {meth : Method} {c : Code} {D : va_G} {cy : Nat → ClassId} {ad : Nat → Nat} {P : MP} {V : MV} {I : MI} {J : MJ} {A : MI} {B : MJ} {Af : Nat → Prop} {res : (Nat → Int32)} (C0 : CX p s m args meth c cX9_fresh0 2 none RX9) (hK : va_K D vwCl (tyG cy) s) (hN : NWs s) (hA : ∀ q, s.heap.size ≤ q → Af q) : ∀ n, SX9_fresh0_2 p l e s m args below meth c D cy ad P V I J A B Af res (itr (fun kk => fX9_fresh0_2 (A 2) (A 6) kk) (fun _ _ => none) n) := by
  intro n
  induction n with
  | zero => intro m_s v1 H locs ls hW hl hf; exact (nomatch (show (none : Option ((Nat → Int32))) = some res from hf))
  | succ n ih => exact tX9_fresh0_2 C0 hK hN hA  ih
def fX9_fresh0 (m_terrace : (Nat → Int32)) (m_coalTold : (Nat → Int32)) (m_s : (Nat → Int32)) : Option ((Nat → Int32)) := itr (fun kk => fX9_fresh0_2 m_terrace m_coalTold kk) (fun _ _ => none) FU m_s 0
set_option maxHeartbeats 4000000 in
set_option maxRecDepth 100000 in
theorem KX9_fresh0 (l : Launch) (D : va_G) (cy : Nat → ClassId) (ad : Nat → Nat) (P : MP) (V : MV) (I : MI) (J : MJ) (A : MI) (B : MJ) {res : (Nat → Int32)} (hf : fX9_fresh0 (A 2) (A 6) (A 35) = some res) : CG l yX9_fresh0 cX9_fresh0 2 none rmX9_fresh0 D cy (dn cy LY_X9 ad P V I J A B) [.ref (ad 0)] none (dn cy LY_X9 ad P V (gp I []) (gp J []) (gm A [(35, res)]) (gm B [])) := by
  refine CG.of (own := RX9) (by decide) rfl rfl ?_
  intro p e s m below meth c ls Af C0 hK hN hA hW hl
  have hW : wd D (dn cy LY_X9 ad P V (gp I []) (gp J []) (gm A [(35, (A 35))]) (gm B [])) Af s.heap s.heap [] := wd_sel [] [] [35] [] hW
  have hl : lv_has ls 2 [(0, .ref (ad 0))] := hl
  unfold fX9_fresh0 at hf
  refine lv_iconst (v := 0) C0.1 C0.2.1 dX9_fresh0_0 kI_0 ?_
  refine lv_istore_n (lv' := [(1, .int 0), (0, .ref (ad 0))]) C0.1 C0.2.1 dX9_fresh0_1 rfl hl (by decide) rfl (fun ls hl => ?_)
  exact TX9_fresh0_2 C0 hK hN hA  FU (A 35) 0 _ _ ls hW (lv_sub hl [1, 0] rfl) hf
-- X9_terrace
def rmX9_terrace : Room := { frames := 7, cells := 0, slots := 0, locals := 151 }
def SX9_terrace_46 (p : Program) (l : Launch) (e : Env) (s : State) (m : MethodId) (args : Array Value) (below : List Frame) (meth : Method) (c : Code) (D : va_G) (cy : Nat → ClassId) (ad : Nat → Nat) (P : MP) (V : MV) (I : MI) (J : MJ) (A : MI) (B : MJ) (Af : Nat → Prop) (res : Int32 × Int32 × Int32 × Int32 × Int32 × Int32 × Int32 × Int32 × Int32 × Int32 × Int32 × Int32 × Int32 × Int64 × Int64 × (Nat → Int32) × (Nat → Int32) × (Nat → Int32) × (Nat → Int32) × (Nat → Int32) × (Nat → Int32) × (Nat → Int32) × (Nat → Int32) × (Nat → Int32) × (Nat → Int32) × (Nat → Int32) × (Nat → Int32) × (Nat → Int32) × (Nat → Int32) × (Nat → Int32) × (Nat → Int32) × (Nat → Int32) × (Nat → Int32) × (Nat → Int64) × (Nat → Int64)) (k : Int32 → Int32 → Int32 → Int32 → Int32 → Int32 → Int32 → Int32 → Int32 → Int32 → Int32 → Int32 → Int64 → Int64 → (Nat → Int32) → (Nat → Int32) → (Nat → Int32) → (Nat → Int32) → (Nat → Int32) → (Nat → Int32) → (Nat → Int32) → (Nat → Int32) → (Nat → Int32) → (Nat → Int32) → (Nat → Int32) → (Nat → Int32) → (Nat → Int32) → (Nat → Int32) → (Nat → Int32) → (Nat → Int32) → (Nat → Int32) → (Nat → Int32) → (Nat → Int64) → (Nat → Int64) → Int32 → Option (Int32 × Int32 × Int32 × Int32 × Int32 × Int32 × Int32 × Int32 × Int32 × Int32 × Int32 × Int32 × Int32 × Int64 × Int64 × (Nat → Int32) × (Nat → Int32) × (Nat → Int32) × (Nat → Int32) × (Nat → Int32) × (Nat → Int32) × (Nat → Int32) × (Nat → Int32) × (Nat → Int32) × (Nat → Int32) × (Nat → Int32) × (Nat → Int32) × (Nat → Int32) × (Nat → Int32) × (Nat → Int32) × (Nat → Int32) × (Nat → Int32) × (Nat → Int32) × (Nat → Int64) × (Nat → Int64))) : Prop := ∀ (m_thrown : Int32) (m_taped : Int32) (m_size : Int32) (m_place : Int32) (m_begin : Int32) (m_token : Int32) (m_told : Int32) (m_wrong : Int32) (m_code : Int32) (m_isSack : Int32) (m_given : Int32) (m_done : Int32) (m_word : Int64) (m_fresh : Int64) (m_terrace : (Nat → Int32)) (m_holeFlag : (Nat → Int32)) (m_coalTold : (Nat → Int32)) (m_burns : (Nat → Int32)) (m_walls : (Nat → Int32)) (m_kind : (Nat → Int32)) (m_guestFlag : (Nat → Int32)) (m_wars : (Nat → Int32)) (m_cold : (Nat → Int32)) (m_lineFrom : (Nat → Int32)) (m_lineTo : (Nat → Int32)) (m_codes : (Nat → Int32)) (m_opened : (Nat → Int32)) (m_compared : (Nat → Int32)) (m_lines : (Nat → Int32)) (m_heards : (Nat → Int32)) (m_s : (Nat → Int32)) (m_isLaid : (Nat → Int32)) (m_holeName : (Nat → Int64)) (m_guestName : (Nat → Int64)) (v1 : Int32) (H : Heap) (locs : List Loc) (ls : Array Slot), wd D (dn cy LY_X9 ad P V (gp I [(0, 0, m_thrown), (0, 1, m_taped), (0, 3, m_size), (0, 4, m_place), (0, 5, m_begin), (0, 6, m_token), (0, 8, m_told), (0, 9, m_wrong), (0, 24, m_code), (0, 25, m_isSack), (0, 38, m_given), (0, 53, m_done)]) (gp J [(0, 7, m_word), (0, 39, m_fresh)]) (gm A [(2, m_terrace), (5, m_holeFlag), (6, m_coalTold), (7, m_burns), (8, m_walls), (9, m_kind), (10, m_guestFlag), (11, m_wars), (12, m_cold), (13, m_lineFrom), (14, m_lineTo), (15, m_codes), (16, m_opened), (17, m_compared), (28, m_lines), (32, m_heards), (35, m_s), (40, m_isLaid)]) (gm B [(3, m_holeName), (4, m_guestName)])) Af s.heap H locs → lv_has ls 2 [(0, .ref (ad 0)), (1, .int v1)] → k m_thrown m_taped m_size m_place m_begin m_token m_told m_wrong m_code m_isSack m_given m_done m_word m_fresh m_terrace m_holeFlag m_coalTold m_burns m_walls m_kind m_guestFlag m_wars m_cold m_lineFrom m_lineTo m_codes m_opened m_compared m_lines m_heards m_s m_isLaid m_holeName m_guestName v1 = some res → W p l e rmX9_terrace s m args below meth c H locs 0 0 (ZQ below D cy (dn cy LY_X9 ad P V (gp I [(0, 0, res.2.1), (0, 1, res.2.2.1), (0, 3, res.2.2.2.1), (0, 4, res.2.2.2.2.1), (0, 5, res.2.2.2.2.2.1), (0, 6, res.2.2.2.2.2.2.1), (0, 8, res.2.2.2.2.2.2.2.1), (0, 9, res.2.2.2.2.2.2.2.2.1), (0, 24, res.2.2.2.2.2.2.2.2.2.1), (0, 25, res.2.2.2.2.2.2.2.2.2.2.1), (0, 38, res.2.2.2.2.2.2.2.2.2.2.2.1), (0, 53, res.2.2.2.2.2.2.2.2.2.2.2.2.1)]) (gp J [(0, 7, res.2.2.2.2.2.2.2.2.2.2.2.2.2.1), (0, 39, res.2.2.2.2.2.2.2.2.2.2.2.2.2.2.1)]) (gm A [(2, res.2.2.2.2.2.2.2.2.2.2.2.2.2.2.2.1), (5, res.2.2.2.2.2.2.2.2.2.2.2.2.2.2.2.2.1), (6, res.2.2.2.2.2.2.2.2.2.2.2.2.2.2.2.2.2.1), (7, res.2.2.2.2.2.2.2.2.2.2.2.2.2.2.2.2.2.2.1), (8, res.2.2.2.2.2.2.2.2.2.2.2.2.2.2.2.2.2.2.2.1), (9, res.2.2.2.2.2.2.2.2.2.2.2.2.2.2.2.2.2.2.2.2.1), (10, res.2.2.2.2.2.2.2.2.2.2.2.2.2.2.2.2.2.2.2.2.2.1), (11, res.2.2.2.2.2.2.2.2.2.2.2.2.2.2.2.2.2.2.2.2.2.2.1), (12, res.2.2.2.2.2.2.2.2.2.2.2.2.2.2.2.2.2.2.2.2.2.2.2.1), (13, res.2.2.2.2.2.2.2.2.2.2.2.2.2.2.2.2.2.2.2.2.2.2.2.2.1), (14, res.2.2.2.2.2.2.2.2.2.2.2.2.2.2.2.2.2.2.2.2.2.2.2.2.2.1), (15, res.2.2.2.2.2.2.2.2.2.2.2.2.2.2.2.2.2.2.2.2.2.2.2.2.2.2.1), (16, res.2.2.2.2.2.2.2.2.2.2.2.2.2.2.2.2.2.2.2.2.2.2.2.2.2.2.2.1), (17, res.2.2.2.2.2.2.2.2.2.2.2.2.2.2.2.2.2.2.2.2.2.2.2.2.2.2.2.2.1), (28, res.2.2.2.2.2.2.2.2.2.2.2.2.2.2.2.2.2.2.2.2.2.2.2.2.2.2.2.2.2.1), (32, res.2.2.2.2.2.2.2.2.2.2.2.2.2.2.2.2.2.2.2.2.2.2.2.2.2.2.2.2.2.2.1), (35, res.2.2.2.2.2.2.2.2.2.2.2.2.2.2.2.2.2.2.2.2.2.2.2.2.2.2.2.2.2.2.2.1), (40, res.2.2.2.2.2.2.2.2.2.2.2.2.2.2.2.2.2.2.2.2.2.2.2.2.2.2.2.2.2.2.2.2.1)]) (gm B [(3, res.2.2.2.2.2.2.2.2.2.2.2.2.2.2.2.2.2.2.2.2.2.2.2.2.2.2.2.2.2.2.2.2.2.1), (4, res.2.2.2.2.2.2.2.2.2.2.2.2.2.2.2.2.2.2.2.2.2.2.2.2.2.2.2.2.2.2.2.2.2.2)])) (some (.int res.1)) Af args s) (F0 m 46 ls [])
def fX9_terrace_46 (m_tape : (Nat → Int32)) (k46 : Int32 → Int32 → Int32 → Int32 → Int32 → Int32 → Int32 → Int32 → Int32 → Int32 → Int32 → Int32 → Int64 → Int64 → (Nat → Int32) → (Nat → Int32) → (Nat → Int32) → (Nat → Int32) → (Nat → Int32) → (Nat → Int32) → (Nat → Int32) → (Nat → Int32) → (Nat → Int32) → (Nat → Int32) → (Nat → Int32) → (Nat → Int32) → (Nat → Int32) → (Nat → Int32) → (Nat → Int32) → (Nat → Int32) → (Nat → Int32) → (Nat → Int32) → (Nat → Int64) → (Nat → Int64) → Int32 → Option (Int32 × Int32 × Int32 × Int32 × Int32 × Int32 × Int32 × Int32 × Int32 × Int32 × Int32 × Int32 × Int32 × Int64 × Int64 × (Nat → Int32) × (Nat → Int32) × (Nat → Int32) × (Nat → Int32) × (Nat → Int32) × (Nat → Int32) × (Nat → Int32) × (Nat → Int32) × (Nat → Int32) × (Nat → Int32) × (Nat → Int32) × (Nat → Int32) × (Nat → Int32) × (Nat → Int32) × (Nat → Int32) × (Nat → Int32) × (Nat → Int32) × (Nat → Int32) × (Nat → Int64) × (Nat → Int64))) (m_thrown : Int32) (m_taped : Int32) (m_size : Int32) (m_place : Int32) (m_begin : Int32) (m_token : Int32) (m_told : Int32) (m_wrong : Int32) (m_code : Int32) (m_isSack : Int32) (m_given : Int32) (m_done : Int32) (m_word : Int64) (m_fresh : Int64) (m_terrace : (Nat → Int32)) (m_holeFlag : (Nat → Int32)) (m_coalTold : (Nat → Int32)) (m_burns : (Nat → Int32)) (m_walls : (Nat → Int32)) (m_kind : (Nat → Int32)) (m_guestFlag : (Nat → Int32)) (m_wars : (Nat → Int32)) (m_cold : (Nat → Int32)) (m_lineFrom : (Nat → Int32)) (m_lineTo : (Nat → Int32)) (m_codes : (Nat → Int32)) (m_opened : (Nat → Int32)) (m_compared : (Nat → Int32)) (m_lines : (Nat → Int32)) (m_heards : (Nat → Int32)) (m_s : (Nat → Int32)) (m_isLaid : (Nat → Int32)) (m_holeName : (Nat → Int64)) (m_guestName : (Nat → Int64)) (v1 : Int32) : Option (Int32 × Int32 × Int32 × Int32 × Int32 × Int32 × Int32 × Int32 × Int32 × Int32 × Int32 × Int32 × Int32 × Int64 × Int64 × (Nat → Int32) × (Nat → Int32) × (Nat → Int32) × (Nat → Int32) × (Nat → Int32) × (Nat → Int32) × (Nat → Int32) × (Nat → Int32) × (Nat → Int32) × (Nat → Int32) × (Nat → Int32) × (Nat → Int32) × (Nat → Int32) × (Nat → Int32) × (Nat → Int32) × (Nat → Int32) × (Nat → Int32) × (Nat → Int32) × (Nat → Int64) × (Nat → Int64)) := if 4 ≤ v1 then (some (0, m_thrown, m_taped, m_size, m_place, m_begin, m_token, m_told, m_wrong, m_code, m_isSack, m_given, m_done, m_word, m_fresh, m_terrace, m_holeFlag, m_coalTold, m_burns, m_walls, m_kind, m_guestFlag, m_wars, m_cold, m_lineFrom, m_lineTo, m_codes, m_opened, m_compared, m_lines, m_heards, m_s, m_isLaid, m_holeName, m_guestName)) else (bif inb v1 4 then (k46 m_thrown m_taped m_size m_place m_begin m_token m_told m_wrong m_code m_isSack m_given m_done m_word m_fresh m_terrace m_holeFlag m_coalTold m_burns m_walls m_kind m_guestFlag m_wars m_cold m_lineFrom m_lineTo m_codes m_opened m_compared m_lines m_heards m_s (upd m_isLaid (Int32.toNatClampNeg v1) (vp_nar .boolean 0)) m_holeName m_guestName (v1 + 1)) else none)
set_option maxHeartbeats 4000000 in
set_option maxRecDepth 100000 in
theorem tX9_terrace_46 {p : Program} {l : Launch} {e : Env} {s : State} {m : MethodId} {args : Array Value} {below : List Frame} {meth : Method} {c : Code} {D : va_G} {cy : Nat → ClassId} {ad : Nat → Nat} {P : MP} {V : MV} {I : MI} {J : MJ} {A : MI} {B : MJ} {Af : Nat → Prop} {res : Int32 × Int32 × Int32 × Int32 × Int32 × Int32 × Int32 × Int32 × Int32 × Int32 × Int32 × Int32 × Int32 × Int64 × Int64 × (Nat → Int32) × (Nat → Int32) × (Nat → Int32) × (Nat → Int32) × (Nat → Int32) × (Nat → Int32) × (Nat → Int32) × (Nat → Int32) × (Nat → Int32) × (Nat → Int32) × (Nat → Int32) × (Nat → Int32) × (Nat → Int32) × (Nat → Int32) × (Nat → Int32) × (Nat → Int32) × (Nat → Int32) × (Nat → Int32) × (Nat → Int64) × (Nat → Int64)} (C0 : CX p s m args meth c cX9_terrace 2 (some .int) RX9) (hK : va_K D vwCl (tyG cy) s) (hN : NWs s) (hA : ∀ q, s.heap.size ≤ q → Af q) {k46 : Int32 → Int32 → Int32 → Int32 → Int32 → Int32 → Int32 → Int32 → Int32 → Int32 → Int32 → Int32 → Int64 → Int64 → (Nat → Int32) → (Nat → Int32) → (Nat → Int32) → (Nat → Int32) → (Nat → Int32) → (Nat → Int32) → (Nat → Int32) → (Nat → Int32) → (Nat → Int32) → (Nat → Int32) → (Nat → Int32) → (Nat → Int32) → (Nat → Int32) → (Nat → Int32) → (Nat → Int32) → (Nat → Int32) → (Nat → Int32) → (Nat → Int32) → (Nat → Int64) → (Nat → Int64) → Int32 → Option (Int32 × Int32 × Int32 × Int32 × Int32 × Int32 × Int32 × Int32 × Int32 × Int32 × Int32 × Int32 × Int32 × Int64 × Int64 × (Nat → Int32) × (Nat → Int32) × (Nat → Int32) × (Nat → Int32) × (Nat → Int32) × (Nat → Int32) × (Nat → Int32) × (Nat → Int32) × (Nat → Int32) × (Nat → Int32) × (Nat → Int32) × (Nat → Int32) × (Nat → Int32) × (Nat → Int32) × (Nat → Int32) × (Nat → Int32) × (Nat → Int32) × (Nat → Int32) × (Nat → Int64) × (Nat → Int64))} (hk46 : SX9_terrace_46 p l e s m args below meth c D cy ad P V I J A B Af res k46) : SX9_terrace_46 p l e s m args below meth c D cy ad P V I J A B Af res (fX9_terrace_46 (A 1) k46) := by
  intro m_thrown m_taped m_size m_place m_begin m_token m_told m_wrong m_code m_isSack m_given m_done m_word m_fresh m_terrace m_holeFlag m_coalTold m_burns m_walls m_kind m_guestFlag m_wars m_cold m_lineFrom m_lineTo m_codes m_opened m_compared m_lines m_heards m_s m_isLaid m_holeName m_guestName v1 H locs ls hW hl hf
  unfold fX9_terrace_46 at hf
  refine lv_iload_n C0.1 C0.2.1 dX9_terrace_46 rfl (lv_at hl 1 rfl) ?_
  refine lv_iconst (v := 4) C0.1 C0.2.1 dX9_terrace_47 kI_4 ?_
  refine lv_icmp_ge (tgt := 64) C0.1 C0.2.1 dX9_terrace_48 (by decide) (fun hc1 => ?_) (fun hc1 => ?_)
  · have hf := ite_t hc1 hf
    refine lv_iconst (v := 0) C0.1 C0.2.1 dX9_terrace_64 kI_0 ?_
    obtain rfl := Option.some.inj hf
    exact r_int C0 hK hW dX9_terrace_65
  · have hf := ite_f hc1 hf
    refine lv_aload_n C0.1 C0.2.1 dX9_terrace_51 rfl (lv_at hl 0 rfl) ?_
    refine s_get (v := .ref (ad 40)) C0 hK hW 0 52 LY_X9_0 rfl fg_X9_129 rfl dX9_terrace_52 ?_
    refine lv_iload_n C0.1 C0.2.1 dX9_terrace_55 rfl (lv_at hl 1 rfl) ?_
    refine lv_iconst (v := 0) C0.1 C0.2.1 dX9_terrace_56 kI_0 ?_
    obtain ⟨hb2, hf⟩ := g_some hf
    refine s_zast (f := (upd m_isLaid (Int32.toNatClampNeg v1) (vp_nar .boolean 0))) C0 hK hW 40 LY_X9_40 hb2 rfl rfl dX9_terrace_57 (fun H locs hW => ?_)
    have hW : wd D (dn cy LY_X9 ad P V (gp I [(0, 0, m_thrown), (0, 1, m_taped), (0, 3, m_size), (0, 4, m_place), (0, 5, m_begin), (0, 6, m_token), (0, 8, m_told), (0, 9, m_wrong), (0, 24, m_code), (0, 25, m_isSack), (0, 38, m_given), (0, 53, m_done)]) (gp J [(0, 7, m_word), (0, 39, m_fresh)]) (gm A [(2, m_terrace), (5, m_holeFlag), (6, m_coalTold), (7, m_burns), (8, m_walls), (9, m_kind), (10, m_guestFlag), (11, m_wars), (12, m_cold), (13, m_lineFrom), (14, m_lineTo), (15, m_codes), (16, m_opened), (17, m_compared), (28, m_lines), (32, m_heards), (35, m_s), (40, (upd m_isLaid (Int32.toNatClampNeg v1) (vp_nar .boolean 0)))]) (gm B [(3, m_holeName), (4, m_guestName)])) Af s.heap H locs := hW
    refine lv_iinc (v := (v1 + 1)) (lv' := [(1, .int (v1 + 1)), (0, .ref (ad 0))]) C0.1 C0.2.1 dX9_terrace_58 hl (k := 1) rfl (congrArg (fun z => _ + z) kI_1) (by decide) rfl (fun ls hl => ?_)
    refine lv_goto (tgt := 46) C0.1 C0.2.1 dX9_terrace_61 (by decide) ?_
    exact hk46 m_thrown m_taped m_size m_place m_begin m_token m_told m_wrong m_code m_isSack m_given m_done m_word m_fresh m_terrace m_holeFlag m_coalTold m_burns m_walls m_kind m_guestFlag m_wars m_cold m_lineFrom m_lineTo m_codes m_opened m_compared m_lines m_heards m_s (upd m_isLaid (Int32.toNatClampNeg v1) (vp_nar .boolean 0)) m_holeName m_guestName (v1 + 1) H locs ls hW (lv_sub hl [1, 0] rfl) hf
theorem TX9_terrace_46 {p : Program} {l : Launch} {e : Env} {s : State} {m : MethodId} {args : Array Value} {below : List Frame} {meth : Method} {c : Code} {D : va_G} {cy : Nat → ClassId} {ad : Nat → Nat} {P : MP} {V : MV} {I : MI} {J : MJ} {A : MI} {B : MJ} {Af : Nat → Prop} {res : Int32 × Int32 × Int32 × Int32 × Int32 × Int32 × Int32 × Int32 × Int32 × Int32 × Int32 × Int32 × Int32 × Int64 × Int64 × (Nat → Int32) × (Nat → Int32) × (Nat → Int32) × (Nat → Int32) × (Nat → Int32) × (Nat → Int32) × (Nat → Int32) × (Nat → Int32) × (Nat → Int32) × (Nat → Int32) × (Nat → Int32) × (Nat → Int32) × (Nat → Int32) × (Nat → Int32) × (Nat → Int32) × (Nat → Int32) × (Nat → Int32) × (Nat → Int32) × (Nat → Int64) × (Nat → Int64)} (C0 : CX p s m args meth c cX9_terrace 2 (some .int) RX9) (hK : va_K D vwCl (tyG cy) s) (hN : NWs s) (hA : ∀ q, s.heap.size ≤ q → Af q) : ∀ n, SX9_terrace_46 p l e s m args below meth c D cy ad P V I J A B Af res (itr (fun kk => fX9_terrace_46 (A 1) kk) (fun _ _ _ _ _ _ _ _ _ _ _ _ _ _ _ _ _ _ _ _ _ _ _ _ _ _ _ _ _ _ _ _ _ _ _ => none) n) := by
  intro n
  induction n with
  | zero => intro m_thrown m_taped m_size m_place m_begin m_token m_told m_wrong m_code m_isSack m_given m_done m_word m_fresh m_terrace m_holeFlag m_coalTold m_burns m_walls m_kind m_guestFlag m_wars m_cold m_lineFrom m_lineTo m_codes m_opened m_compared m_lines m_heards m_s m_isLaid m_holeName m_guestName v1 H locs ls hW hl hf; exact (nomatch (show (none : Option (Int32 × Int32 × Int32 × Int32 × Int32 × Int32 × Int32 × Int32 × Int32 × Int32 × Int32 × Int32 × Int32 × Int64 × Int64 × (Nat → Int32) × (Nat → Int32) × (Nat → Int32) × (Nat → Int32) × (Nat → Int32) × (Nat → Int32) × (Nat → Int32) × (Nat → Int32) × (Nat → Int32) × (Nat → Int32) × (Nat → Int32) × (Nat → Int32) × (Nat → Int32) × (Nat → Int32) × (Nat → Int32) × (Nat → Int32) × (Nat → Int32) × (Nat → Int32) × (Nat → Int64) × (Nat → Int64))) = some res from hf))
  | succ n ih => exact tX9_terrace_46 C0 hK hN hA  ih
def fX9_terrace (m_tape : (Nat → Int32)) (m_thrown : Int32) (m_taped : Int32) (m_size : Int32) (m_place : Int32) (m_begin : Int32) (m_token : Int32) (m_told : Int32) (m_wrong : Int32) (m_code : Int32) (m_isSack : Int32) (m_given : Int32) (m_done : Int32) (m_word : Int64) (m_fresh : Int64) (m_terrace : (Nat → Int32)) (m_holeFlag : (Nat → Int32)) (m_coalTold : (Nat → Int32)) (m_burns : (Nat → Int32)) (m_walls : (Nat → Int32)) (m_kind : (Nat → Int32)) (m_guestFlag : (Nat → Int32)) (m_wars : (Nat → Int32)) (m_cold : (Nat → Int32)) (m_lineFrom : (Nat → Int32)) (m_lineTo : (Nat → Int32)) (m_codes : (Nat → Int32)) (m_opened : (Nat → Int32)) (m_compared : (Nat → Int32)) (m_lines : (Nat → Int32)) (m_heards : (Nat → Int32)) (m_s : (Nat → Int32)) (m_isLaid : (Nat → Int32)) (m_holeName : (Nat → Int64)) (m_guestName : (Nat → Int64)) : Option (Int32 × Int32 × Int32 × Int32 × Int32 × Int32 × Int32 × Int32 × Int32 × Int32 × Int32 × Int32 × Int32 × Int64 × Int64 × (Nat → Int32) × (Nat → Int32) × (Nat → Int32) × (Nat → Int32) × (Nat → Int32) × (Nat → Int32) × (Nat → Int32) × (Nat → Int32) × (Nat → Int32) × (Nat → Int32) × (Nat → Int32) × (Nat → Int32) × (Nat → Int32) × (Nat → Int32) × (Nat → Int32) × (Nat → Int32) × (Nat → Int32) × (Nat → Int32) × (Nat → Int64) × (Nat → Int64)) := Option.bind (fX9_readsAll m_tape m_taped m_size m_place m_begin m_token m_told m_wrong m_code m_isSack m_given m_word m_fresh m_terrace m_holeFlag m_coalTold m_burns m_walls m_kind m_guestFlag m_wars m_cold m_lineFrom m_lineTo m_codes m_opened m_compared m_holeName m_guestName) fun y1 => (if y1.1 = 0 then (some (y1.2.2.2.2.2.2.2.1, 0, y1.2.1, y1.2.2.1, y1.2.2.2.1, y1.2.2.2.2.1, y1.2.2.2.2.2.1, y1.2.2.2.2.2.2.1, y1.2.2.2.2.2.2.2.1, y1.2.2.2.2.2.2.2.2.1, y1.2.2.2.2.2.2.2.2.2.1, y1.2.2.2.2.2.2.2.2.2.2.1, m_done, y1.2.2.2.2.2.2.2.2.2.2.2.1, y1.2.2.2.2.2.2.2.2.2.2.2.2.1, y1.2.2.2.2.2.2.2.2.2.2.2.2.2.1, y1.2.2.2.2.2.2.2.2.2.2.2.2.2.2.1, y1.2.2.2.2.2.2.2.2.2.2.2.2.2.2.2.1, y1.2.2.2.2.2.2.2.2.2.2.2.2.2.2.2.2.1, y1.2.2.2.2.2.2.2.2.2.2.2.2.2.2.2.2.2.1, y1.2.2.2.2.2.2.2.2.2.2.2.2.2.2.2.2.2.2.1, y1.2.2.2.2.2.2.2.2.2.2.2.2.2.2.2.2.2.2.2.1, y1.2.2.2.2.2.2.2.2.2.2.2.2.2.2.2.2.2.2.2.2.1, y1.2.2.2.2.2.2.2.2.2.2.2.2.2.2.2.2.2.2.2.2.2.1, y1.2.2.2.2.2.2.2.2.2.2.2.2.2.2.2.2.2.2.2.2.2.2.1, y1.2.2.2.2.2.2.2.2.2.2.2.2.2.2.2.2.2.2.2.2.2.2.2.1, y1.2.2.2.2.2.2.2.2.2.2.2.2.2.2.2.2.2.2.2.2.2.2.2.2.1, y1.2.2.2.2.2.2.2.2.2.2.2.2.2.2.2.2.2.2.2.2.2.2.2.2.2.1, y1.2.2.2.2.2.2.2.2.2.2.2.2.2.2.2.2.2.2.2.2.2.2.2.2.2.2.1, m_lines, m_heards, m_s, m_isLaid, y1.2.2.2.2.2.2.2.2.2.2.2.2.2.2.2.2.2.2.2.2.2.2.2.2.2.2.2.1, y1.2.2.2.2.2.2.2.2.2.2.2.2.2.2.2.2.2.2.2.2.2.2.2.2.2.2.2.2)) else (Option.bind (fX9_lays y1.2.2.2.2.2.2.2.2.2.2.2.2.2.1 y1.2.2.2.2.2.2.2.2.2.2.2.2.2.2.1 y1.2.2.2.2.2.2.2.2.2.2.2.2.2.2.2.1 y1.2.2.2.2.2.2.2.2.2.2.2.2.2.2.2.2.1 y1.2.2.2.2.2.2.2.2.2.2.2.2.2.2.2.2.2.1 y1.2.2.2.2.2.2.2.2.2.2.2.2.2.2.2.2.2.2.1 y1.2.2.2.2.2.2.2.2.2.2.2.2.2.2.2.2.2.2.2.1 y1.2.2.2.2.2.2.2.2.2.2.2.2.2.2.2.2.2.2.2.2.1 y1.2.2.2.2.2.2.2.2.2.2.2.2.2.2.2.2.2.2.2.2.2.1 y1.2.2.2.2.2.2.2.2.2.2.2.2.2.2.2.2.2.2.2.2.2.2.1 y1.2.2.2.2.2.2.2.2.2.2.2.2.2.2.2.2.2.2.2.2.2.2.2.1 y1.2.2.2.2.2.2.2.2.2.2.2.2.2.2.2.2.2.2.2.2.2.2.2.2.1 y1.2.2.2.2.2.2.2.2.2.2.2.2.2.2.2.2.2.2.2.2.2.2.2.2.2.2.2.1 y1.2.2.2.2.2.2.2.2.2.2.2.2.2.2.2.2.2.2.2.2.2.2.2.2.2.2.2.2) fun y3 => (Option.bind (fX9_fresh0 y3.1 y3.2.2.1 m_s) fun y4 => (itr (fun kk => fX9_terrace_46 m_tape kk) (fun _ _ _ _ _ _ _ _ _ _ _ _ _ _ _ _ _ _ _ _ _ _ _ _ _ _ _ _ _ _ _ _ _ _ _ => none) FU 0 y1.2.1 y1.2.2.1 y1.2.2.2.1 y1.2.2.2.2.1 y1.2.2.2.2.2.1 y1.2.2.2.2.2.2.1 y1.2.2.2.2.2.2.2.1 y1.2.2.2.2.2.2.2.2.1 y1.2.2.2.2.2.2.2.2.2.1 y1.2.2.2.2.2.2.2.2.2.2.1 0 y1.2.2.2.2.2.2.2.2.2.2.2.1 y1.2.2.2.2.2.2.2.2.2.2.2.2.1 y3.1 y3.2.1 y3.2.2.1 y3.2.2.2.1 y3.2.2.2.2.1 y3.2.2.2.2.2.1 y3.2.2.2.2.2.2.1 y3.2.2.2.2.2.2.2.1 y3.2.2.2.2.2.2.2.2.1 y3.2.2.2.2.2.2.2.2.2.1 y3.2.2.2.2.2.2.2.2.2.2.1 y3.2.2.2.2.2.2.2.2.2.2.2.1 y1.2.2.2.2.2.2.2.2.2.2.2.2.2.2.2.2.2.2.2.2.2.2.2.2.2.1 y1.2.2.2.2.2.2.2.2.2.2.2.2.2.2.2.2.2.2.2.2.2.2.2.2.2.2.1 (upd m_lines 0 0) (upd m_heards 0 0) y4 m_isLaid y3.2.2.2.2.2.2.2.2.2.2.2.2.1 y3.2.2.2.2.2.2.2.2.2.2.2.2.2 0))))
set_option maxHeartbeats 4000000 in
set_option maxRecDepth 100000 in
theorem KX9_terrace (l : Launch) (D : va_G) (cy : Nat → ClassId) (ad : Nat → Nat) (P : MP) (V : MV) (I : MI) (J : MJ) (A : MI) (B : MJ) {res : Int32 × Int32 × Int32 × Int32 × Int32 × Int32 × Int32 × Int32 × Int32 × Int32 × Int32 × Int32 × Int32 × Int64 × Int64 × (Nat → Int32) × (Nat → Int32) × (Nat → Int32) × (Nat → Int32) × (Nat → Int32) × (Nat → Int32) × (Nat → Int32) × (Nat → Int32) × (Nat → Int32) × (Nat → Int32) × (Nat → Int32) × (Nat → Int32) × (Nat → Int32) × (Nat → Int32) × (Nat → Int32) × (Nat → Int32) × (Nat → Int32) × (Nat → Int32) × (Nat → Int64) × (Nat → Int64)} (hf : fX9_terrace (A 1) (I 0 0) (I 0 1) (I 0 3) (I 0 4) (I 0 5) (I 0 6) (I 0 8) (I 0 9) (I 0 24) (I 0 25) (I 0 38) (I 0 53) (J 0 7) (J 0 39) (A 2) (A 5) (A 6) (A 7) (A 8) (A 9) (A 10) (A 11) (A 12) (A 13) (A 14) (A 15) (A 16) (A 17) (A 28) (A 32) (A 35) (A 40) (B 3) (B 4) = some res) : CG l yX9_terrace cX9_terrace 2 (some .int) rmX9_terrace D cy (dn cy LY_X9 ad P V I J A B) [.ref (ad 0)] (some (.int res.1)) (dn cy LY_X9 ad P V (gp I [(0, 0, res.2.1), (0, 1, res.2.2.1), (0, 3, res.2.2.2.1), (0, 4, res.2.2.2.2.1), (0, 5, res.2.2.2.2.2.1), (0, 6, res.2.2.2.2.2.2.1), (0, 8, res.2.2.2.2.2.2.2.1), (0, 9, res.2.2.2.2.2.2.2.2.1), (0, 24, res.2.2.2.2.2.2.2.2.2.1), (0, 25, res.2.2.2.2.2.2.2.2.2.2.1), (0, 38, res.2.2.2.2.2.2.2.2.2.2.2.1), (0, 53, res.2.2.2.2.2.2.2.2.2.2.2.2.1)]) (gp J [(0, 7, res.2.2.2.2.2.2.2.2.2.2.2.2.2.1), (0, 39, res.2.2.2.2.2.2.2.2.2.2.2.2.2.2.1)]) (gm A [(2, res.2.2.2.2.2.2.2.2.2.2.2.2.2.2.2.1), (5, res.2.2.2.2.2.2.2.2.2.2.2.2.2.2.2.2.1), (6, res.2.2.2.2.2.2.2.2.2.2.2.2.2.2.2.2.2.1), (7, res.2.2.2.2.2.2.2.2.2.2.2.2.2.2.2.2.2.2.1), (8, res.2.2.2.2.2.2.2.2.2.2.2.2.2.2.2.2.2.2.2.1), (9, res.2.2.2.2.2.2.2.2.2.2.2.2.2.2.2.2.2.2.2.2.1), (10, res.2.2.2.2.2.2.2.2.2.2.2.2.2.2.2.2.2.2.2.2.2.1), (11, res.2.2.2.2.2.2.2.2.2.2.2.2.2.2.2.2.2.2.2.2.2.2.1), (12, res.2.2.2.2.2.2.2.2.2.2.2.2.2.2.2.2.2.2.2.2.2.2.2.1), (13, res.2.2.2.2.2.2.2.2.2.2.2.2.2.2.2.2.2.2.2.2.2.2.2.2.1), (14, res.2.2.2.2.2.2.2.2.2.2.2.2.2.2.2.2.2.2.2.2.2.2.2.2.2.1), (15, res.2.2.2.2.2.2.2.2.2.2.2.2.2.2.2.2.2.2.2.2.2.2.2.2.2.2.1), (16, res.2.2.2.2.2.2.2.2.2.2.2.2.2.2.2.2.2.2.2.2.2.2.2.2.2.2.2.1), (17, res.2.2.2.2.2.2.2.2.2.2.2.2.2.2.2.2.2.2.2.2.2.2.2.2.2.2.2.2.1), (28, res.2.2.2.2.2.2.2.2.2.2.2.2.2.2.2.2.2.2.2.2.2.2.2.2.2.2.2.2.2.1), (32, res.2.2.2.2.2.2.2.2.2.2.2.2.2.2.2.2.2.2.2.2.2.2.2.2.2.2.2.2.2.2.1), (35, res.2.2.2.2.2.2.2.2.2.2.2.2.2.2.2.2.2.2.2.2.2.2.2.2.2.2.2.2.2.2.2.1), (40, res.2.2.2.2.2.2.2.2.2.2.2.2.2.2.2.2.2.2.2.2.2.2.2.2.2.2.2.2.2.2.2.2.1)]) (gm B [(3, res.2.2.2.2.2.2.2.2.2.2.2.2.2.2.2.2.2.2.2.2.2.2.2.2.2.2.2.2.2.2.2.2.2.1), (4, res.2.2.2.2.2.2.2.2.2.2.2.2.2.2.2.2.2.2.2.2.2.2.2.2.2.2.2.2.2.2.2.2.2.2)])) := by
  refine CG.of (own := RX9) (by decide) rfl rfl ?_
  intro p e s m below meth c ls Af C0 hK hN hA hW hl
  have hW : wd D (dn cy LY_X9 ad P V (gp I [(0, 0, (I 0 0)), (0, 1, (I 0 1)), (0, 3, (I 0 3)), (0, 4, (I 0 4)), (0, 5, (I 0 5)), (0, 6, (I 0 6)), (0, 8, (I 0 8)), (0, 9, (I 0 9)), (0, 24, (I 0 24)), (0, 25, (I 0 25)), (0, 38, (I 0 38)), (0, 53, (I 0 53))]) (gp J [(0, 7, (J 0 7)), (0, 39, (J 0 39))]) (gm A [(2, (A 2)), (5, (A 5)), (6, (A 6)), (7, (A 7)), (8, (A 8)), (9, (A 9)), (10, (A 10)), (11, (A 11)), (12, (A 12)), (13, (A 13)), (14, (A 14)), (15, (A 15)), (16, (A 16)), (17, (A 17)), (28, (A 28)), (32, (A 32)), (35, (A 35)), (40, (A 40))]) (gm B [(3, (B 3)), (4, (B 4))])) Af s.heap s.heap [] := wd_sel [(0, 0), (0, 1), (0, 3), (0, 4), (0, 5), (0, 6), (0, 8), (0, 9), (0, 24), (0, 25), (0, 38), (0, 53)] [(0, 7), (0, 39)] [2, 5, 6, 7, 8, 9, 10, 11, 12, 13, 14, 15, 16, 17, 28, 32, 35, 40] [3, 4] hW
  have hl : lv_has ls 2 [(0, .ref (ad 0))] := hl
  unfold fX9_terrace at hf
  refine lv_aload_n C0.1 C0.2.1 dX9_terrace_0 rfl (lv_at hl 0 rfl) ?_
  refine lv_iconst (v := 0) C0.1 C0.2.1 dX9_terrace_1 kI_0 ?_
  refine s_putI C0 hK hW 0 0 LY_X9_0 rfl fg_X9_142 fp_X9_0 rfl dX9_terrace_2 (fun H locs hW => ?_)
  have hW : wd D (dn cy LY_X9 ad P V (gp I [(0, 0, 0), (0, 1, (I 0 1)), (0, 3, (I 0 3)), (0, 4, (I 0 4)), (0, 5, (I 0 5)), (0, 6, (I 0 6)), (0, 8, (I 0 8)), (0, 9, (I 0 9)), (0, 24, (I 0 24)), (0, 25, (I 0 25)), (0, 38, (I 0 38)), (0, 53, (I 0 53))]) (gp J [(0, 7, (J 0 7)), (0, 39, (J 0 39))]) (gm A [(2, (A 2)), (5, (A 5)), (6, (A 6)), (7, (A 7)), (8, (A 8)), (9, (A 9)), (10, (A 10)), (11, (A 11)), (12, (A 12)), (13, (A 13)), (14, (A 14)), (15, (A 15)), (16, (A 16)), (17, (A 17)), (28, (A 28)), (32, (A 32)), (35, (A 35)), (40, (A 40))]) (gm B [(3, (B 3)), (4, (B 4))])) Af s.heap H locs := hW
  refine lv_aload_n C0.1 C0.2.1 dX9_terrace_5 rfl (lv_at hl 0 rfl) ?_
  obtain ⟨y1, hy1, hf⟩ := b_some hf
  refine c_Vi C0 hK hN hl.1 hW hA (KX9_readsAll l D cy  ad P V (gp I [(0, 0, 0), (0, 1, (I 0 1)), (0, 3, (I 0 3)), (0, 4, (I 0 4)), (0, 5, (I 0 5)), (0, 6, (I 0 6)), (0, 8, (I 0 8)), (0, 9, (I 0 9)), (0, 24, (I 0 24)), (0, 25, (I 0 25)), (0, 38, (I 0 38)), (0, 53, (I 0 53))]) (gp J [(0, 7, (J 0 7)), (0, 39, (J 0 39))]) (gm A [(2, (A 2)), (5, (A 5)), (6, (A 6)), (7, (A 7)), (8, (A 8)), (9, (A 9)), (10, (A 10)), (11, (A 11)), (12, (A 12)), (13, (A 13)), (14, (A 14)), (15, (A 15)), (16, (A 16)), (17, (A 17)), (28, (A 28)), (32, (A 32)), (35, (A 35)), (40, (A 40))]) (gm B [(3, (B 3)), (4, (B 4))])  hy1) (JN_id rfl rfl rfl rfl) (Uw_V uw_1255 uw_1257 us_36 uw_14 uw_1258) rfl rfl hd_X9_readsAll ⟨rfl, rfl⟩ rfl (dn_some LY_X9_0) rfl rfl rfl dX9_terrace_6 ⟨Nat.zero_le _, Nat.zero_le _⟩ (fun H locs hW => ?_)
  have hW : wd D (dn cy LY_X9 ad P V (gp I [(0, 0, 0), (0, 1, y1.2.1), (0, 3, y1.2.2.1), (0, 4, y1.2.2.2.1), (0, 5, y1.2.2.2.2.1), (0, 6, y1.2.2.2.2.2.1), (0, 8, y1.2.2.2.2.2.2.1), (0, 9, y1.2.2.2.2.2.2.2.1), (0, 24, y1.2.2.2.2.2.2.2.2.1), (0, 25, y1.2.2.2.2.2.2.2.2.2.1), (0, 38, y1.2.2.2.2.2.2.2.2.2.2.1), (0, 53, (I 0 53))]) (gp J [(0, 7, y1.2.2.2.2.2.2.2.2.2.2.2.1), (0, 39, y1.2.2.2.2.2.2.2.2.2.2.2.2.1)]) (gm A [(2, y1.2.2.2.2.2.2.2.2.2.2.2.2.2.1), (5, y1.2.2.2.2.2.2.2.2.2.2.2.2.2.2.1), (6, y1.2.2.2.2.2.2.2.2.2.2.2.2.2.2.2.1), (7, y1.2.2.2.2.2.2.2.2.2.2.2.2.2.2.2.2.1), (8, y1.2.2.2.2.2.2.2.2.2.2.2.2.2.2.2.2.2.1), (9, y1.2.2.2.2.2.2.2.2.2.2.2.2.2.2.2.2.2.2.1), (10, y1.2.2.2.2.2.2.2.2.2.2.2.2.2.2.2.2.2.2.2.1), (11, y1.2.2.2.2.2.2.2.2.2.2.2.2.2.2.2.2.2.2.2.2.1), (12, y1.2.2.2.2.2.2.2.2.2.2.2.2.2.2.2.2.2.2.2.2.2.1), (13, y1.2.2.2.2.2.2.2.2.2.2.2.2.2.2.2.2.2.2.2.2.2.2.1), (14, y1.2.2.2.2.2.2.2.2.2.2.2.2.2.2.2.2.2.2.2.2.2.2.2.1), (15, y1.2.2.2.2.2.2.2.2.2.2.2.2.2.2.2.2.2.2.2.2.2.2.2.2.1), (16, y1.2.2.2.2.2.2.2.2.2.2.2.2.2.2.2.2.2.2.2.2.2.2.2.2.2.1), (17, y1.2.2.2.2.2.2.2.2.2.2.2.2.2.2.2.2.2.2.2.2.2.2.2.2.2.2.1), (28, (A 28)), (32, (A 32)), (35, (A 35)), (40, (A 40))]) (gm B [(3, y1.2.2.2.2.2.2.2.2.2.2.2.2.2.2.2.2.2.2.2.2.2.2.2.2.2.2.2.1), (4, y1.2.2.2.2.2.2.2.2.2.2.2.2.2.2.2.2.2.2.2.2.2.2.2.2.2.2.2.2)])) Af s.heap H locs := hW
  refine lv_if_ne (tgt := 17) C0.1 C0.2.1 dX9_terrace_9 (by decide) (fun hc2 => ?_) (fun hc2 => ?_)
  · have hf := ite_f hc2 hf
    refine lv_aload_n C0.1 C0.2.1 dX9_terrace_17 rfl (lv_at hl 0 rfl) ?_
    obtain ⟨y3, hy3, hf⟩ := b_some hf
    refine c_Vv C0 hK hN hl.1 hW hA (KX9_lays l D cy  ad P V (gp I [(0, 0, 0), (0, 1, y1.2.1), (0, 3, y1.2.2.1), (0, 4, y1.2.2.2.1), (0, 5, y1.2.2.2.2.1), (0, 6, y1.2.2.2.2.2.1), (0, 8, y1.2.2.2.2.2.2.1), (0, 9, y1.2.2.2.2.2.2.2.1), (0, 24, y1.2.2.2.2.2.2.2.2.1), (0, 25, y1.2.2.2.2.2.2.2.2.2.1), (0, 38, y1.2.2.2.2.2.2.2.2.2.2.1), (0, 53, (I 0 53))]) (gp J [(0, 7, y1.2.2.2.2.2.2.2.2.2.2.2.1), (0, 39, y1.2.2.2.2.2.2.2.2.2.2.2.2.1)]) (gm A [(2, y1.2.2.2.2.2.2.2.2.2.2.2.2.2.1), (5, y1.2.2.2.2.2.2.2.2.2.2.2.2.2.2.1), (6, y1.2.2.2.2.2.2.2.2.2.2.2.2.2.2.2.1), (7, y1.2.2.2.2.2.2.2.2.2.2.2.2.2.2.2.2.1), (8, y1.2.2.2.2.2.2.2.2.2.2.2.2.2.2.2.2.2.1), (9, y1.2.2.2.2.2.2.2.2.2.2.2.2.2.2.2.2.2.2.1), (10, y1.2.2.2.2.2.2.2.2.2.2.2.2.2.2.2.2.2.2.2.1), (11, y1.2.2.2.2.2.2.2.2.2.2.2.2.2.2.2.2.2.2.2.2.1), (12, y1.2.2.2.2.2.2.2.2.2.2.2.2.2.2.2.2.2.2.2.2.2.1), (13, y1.2.2.2.2.2.2.2.2.2.2.2.2.2.2.2.2.2.2.2.2.2.2.1), (14, y1.2.2.2.2.2.2.2.2.2.2.2.2.2.2.2.2.2.2.2.2.2.2.2.1), (15, y1.2.2.2.2.2.2.2.2.2.2.2.2.2.2.2.2.2.2.2.2.2.2.2.2.1), (16, y1.2.2.2.2.2.2.2.2.2.2.2.2.2.2.2.2.2.2.2.2.2.2.2.2.2.1), (17, y1.2.2.2.2.2.2.2.2.2.2.2.2.2.2.2.2.2.2.2.2.2.2.2.2.2.2.1), (28, (A 28)), (32, (A 32)), (35, (A 35)), (40, (A 40))]) (gm B [(3, y1.2.2.2.2.2.2.2.2.2.2.2.2.2.2.2.2.2.2.2.2.2.2.2.2.2.2.2.1), (4, y1.2.2.2.2.2.2.2.2.2.2.2.2.2.2.2.2.2.2.2.2.2.2.2.2.2.2.2.2)])  hy3) (JN_id rfl rfl rfl rfl) (Uw_V uw_1386 uw_1388 us_61 uw_14 uw_1389) rfl rfl hd_X9_lays ⟨rfl, rfl⟩ rfl (dn_some LY_X9_0) rfl rfl rfl dX9_terrace_18 ⟨Nat.zero_le _, Nat.zero_le _⟩ (fun H locs hW => ?_)
    have hW : wd D (dn cy LY_X9 ad P V (gp I [(0, 0, 0), (0, 1, y1.2.1), (0, 3, y1.2.2.1), (0, 4, y1.2.2.2.1), (0, 5, y1.2.2.2.2.1), (0, 6, y1.2.2.2.2.2.1), (0, 8, y1.2.2.2.2.2.2.1), (0, 9, y1.2.2.2.2.2.2.2.1), (0, 24, y1.2.2.2.2.2.2.2.2.1), (0, 25, y1.2.2.2.2.2.2.2.2.2.1), (0, 38, y1.2.2.2.2.2.2.2.2.2.2.1), (0, 53, (I 0 53))]) (gp J [(0, 7, y1.2.2.2.2.2.2.2.2.2.2.2.1), (0, 39, y1.2.2.2.2.2.2.2.2.2.2.2.2.1)]) (gm A [(2, y3.1), (5, y3.2.1), (6, y3.2.2.1), (7, y3.2.2.2.1), (8, y3.2.2.2.2.1), (9, y3.2.2.2.2.2.1), (10, y3.2.2.2.2.2.2.1), (11, y3.2.2.2.2.2.2.2.1), (12, y3.2.2.2.2.2.2.2.2.1), (13, y3.2.2.2.2.2.2.2.2.2.1), (14, y3.2.2.2.2.2.2.2.2.2.2.1), (15, y3.2.2.2.2.2.2.2.2.2.2.2.1), (16, y1.2.2.2.2.2.2.2.2.2.2.2.2.2.2.2.2.2.2.2.2.2.2.2.2.2.1), (17, y1.2.2.2.2.2.2.2.2.2.2.2.2.2.2.2.2.2.2.2.2.2.2.2.2.2.2.1), (28, (A 28)), (32, (A 32)), (35, (A 35)), (40, (A 40))]) (gm B [(3, y3.2.2.2.2.2.2.2.2.2.2.2.2.1), (4, y3.2.2.2.2.2.2.2.2.2.2.2.2.2)])) Af s.heap H locs := hW
    refine lv_aload_n C0.1 C0.2.1 dX9_terrace_21 rfl (lv_at hl 0 rfl) ?_
    obtain ⟨y4, hy4, hf⟩ := b_some hf
    refine c_Vv C0 hK hN hl.1 hW hA (KX9_fresh0 l D cy  ad P V (gp I [(0, 0, 0), (0, 1, y1.2.1), (0, 3, y1.2.2.1), (0, 4, y1.2.2.2.1), (0, 5, y1.2.2.2.2.1), (0, 6, y1.2.2.2.2.2.1), (0, 8, y1.2.2.2.2.2.2.1), (0, 9, y1.2.2.2.2.2.2.2.1), (0, 24, y1.2.2.2.2.2.2.2.2.1), (0, 25, y1.2.2.2.2.2.2.2.2.2.1), (0, 38, y1.2.2.2.2.2.2.2.2.2.2.1), (0, 53, (I 0 53))]) (gp J [(0, 7, y1.2.2.2.2.2.2.2.2.2.2.2.1), (0, 39, y1.2.2.2.2.2.2.2.2.2.2.2.2.1)]) (gm A [(2, y3.1), (5, y3.2.1), (6, y3.2.2.1), (7, y3.2.2.2.1), (8, y3.2.2.2.2.1), (9, y3.2.2.2.2.2.1), (10, y3.2.2.2.2.2.2.1), (11, y3.2.2.2.2.2.2.2.1), (12, y3.2.2.2.2.2.2.2.2.1), (13, y3.2.2.2.2.2.2.2.2.2.1), (14, y3.2.2.2.2.2.2.2.2.2.2.1), (15, y3.2.2.2.2.2.2.2.2.2.2.2.1), (16, y1.2.2.2.2.2.2.2.2.2.2.2.2.2.2.2.2.2.2.2.2.2.2.2.2.2.1), (17, y1.2.2.2.2.2.2.2.2.2.2.2.2.2.2.2.2.2.2.2.2.2.2.2.2.2.2.1), (28, (A 28)), (32, (A 32)), (35, (A 35)), (40, (A 40))]) (gm B [(3, y3.2.2.2.2.2.2.2.2.2.2.2.2.1), (4, y3.2.2.2.2.2.2.2.2.2.2.2.2.2)])  hy4) (JN_id rfl rfl rfl rfl) (Uw_V uw_1396 uw_1398 us_62 uw_14 uw_1399) rfl rfl hd_X9_fresh0 ⟨rfl, rfl⟩ rfl (dn_some LY_X9_0) rfl rfl rfl dX9_terrace_22 ⟨Nat.zero_le _, Nat.zero_le _⟩ (fun H locs hW => ?_)
    have hW : wd D (dn cy LY_X9 ad P V (gp I [(0, 0, 0), (0, 1, y1.2.1), (0, 3, y1.2.2.1), (0, 4, y1.2.2.2.1), (0, 5, y1.2.2.2.2.1), (0, 6, y1.2.2.2.2.2.1), (0, 8, y1.2.2.2.2.2.2.1), (0, 9, y1.2.2.2.2.2.2.2.1), (0, 24, y1.2.2.2.2.2.2.2.2.1), (0, 25, y1.2.2.2.2.2.2.2.2.2.1), (0, 38, y1.2.2.2.2.2.2.2.2.2.2.1), (0, 53, (I 0 53))]) (gp J [(0, 7, y1.2.2.2.2.2.2.2.2.2.2.2.1), (0, 39, y1.2.2.2.2.2.2.2.2.2.2.2.2.1)]) (gm A [(2, y3.1), (5, y3.2.1), (6, y3.2.2.1), (7, y3.2.2.2.1), (8, y3.2.2.2.2.1), (9, y3.2.2.2.2.2.1), (10, y3.2.2.2.2.2.2.1), (11, y3.2.2.2.2.2.2.2.1), (12, y3.2.2.2.2.2.2.2.2.1), (13, y3.2.2.2.2.2.2.2.2.2.1), (14, y3.2.2.2.2.2.2.2.2.2.2.1), (15, y3.2.2.2.2.2.2.2.2.2.2.2.1), (16, y1.2.2.2.2.2.2.2.2.2.2.2.2.2.2.2.2.2.2.2.2.2.2.2.2.2.1), (17, y1.2.2.2.2.2.2.2.2.2.2.2.2.2.2.2.2.2.2.2.2.2.2.2.2.2.2.1), (28, (A 28)), (32, (A 32)), (35, y4), (40, (A 40))]) (gm B [(3, y3.2.2.2.2.2.2.2.2.2.2.2.2.1), (4, y3.2.2.2.2.2.2.2.2.2.2.2.2.2)])) Af s.heap H locs := hW
    refine lv_aload_n C0.1 C0.2.1 dX9_terrace_25 rfl (lv_at hl 0 rfl) ?_
    refine s_get (v := .ref (ad 28)) C0 hK hW 0 40 LY_X9_0 rfl fg_X9_93 rfl dX9_terrace_26 ?_
    refine lv_iconst (v := 0) C0.1 C0.2.1 dX9_terrace_29 kI_0 ?_
    refine lv_iconst (v := 0) C0.1 C0.2.1 dX9_terrace_30 kI_0 ?_
    refine s_iast (f := (upd (A 28) 0 0)) C0 hK hW 28 LY_X9_28 rfl rfl (congrArg (fun z => upd _ z _) tc_0) dX9_terrace_31 (fun H locs hW => ?_)
    have hW : wd D (dn cy LY_X9 ad P V (gp I [(0, 0, 0), (0, 1, y1.2.1), (0, 3, y1.2.2.1), (0, 4, y1.2.2.2.1), (0, 5, y1.2.2.2.2.1), (0, 6, y1.2.2.2.2.2.1), (0, 8, y1.2.2.2.2.2.2.1), (0, 9, y1.2.2.2.2.2.2.2.1), (0, 24, y1.2.2.2.2.2.2.2.2.1), (0, 25, y1.2.2.2.2.2.2.2.2.2.1), (0, 38, y1.2.2.2.2.2.2.2.2.2.2.1), (0, 53, (I 0 53))]) (gp J [(0, 7, y1.2.2.2.2.2.2.2.2.2.2.2.1), (0, 39, y1.2.2.2.2.2.2.2.2.2.2.2.2.1)]) (gm A [(2, y3.1), (5, y3.2.1), (6, y3.2.2.1), (7, y3.2.2.2.1), (8, y3.2.2.2.2.1), (9, y3.2.2.2.2.2.1), (10, y3.2.2.2.2.2.2.1), (11, y3.2.2.2.2.2.2.2.1), (12, y3.2.2.2.2.2.2.2.2.1), (13, y3.2.2.2.2.2.2.2.2.2.1), (14, y3.2.2.2.2.2.2.2.2.2.2.1), (15, y3.2.2.2.2.2.2.2.2.2.2.2.1), (16, y1.2.2.2.2.2.2.2.2.2.2.2.2.2.2.2.2.2.2.2.2.2.2.2.2.2.1), (17, y1.2.2.2.2.2.2.2.2.2.2.2.2.2.2.2.2.2.2.2.2.2.2.2.2.2.2.1), (28, (upd (A 28) 0 0)), (32, (A 32)), (35, y4), (40, (A 40))]) (gm B [(3, y3.2.2.2.2.2.2.2.2.2.2.2.2.1), (4, y3.2.2.2.2.2.2.2.2.2.2.2.2.2)])) Af s.heap H locs := hW
    refine lv_aload_n C0.1 C0.2.1 dX9_terrace_32 rfl (lv_at hl 0 rfl) ?_
    refine s_get (v := .ref (ad 32)) C0 hK hW 0 44 LY_X9_0 rfl fg_X9_105 rfl dX9_terrace_33 ?_
    refine lv_iconst (v := 0) C0.1 C0.2.1 dX9_terrace_36 kI_0 ?_
    refine lv_iconst (v := 0) C0.1 C0.2.1 dX9_terrace_37 kI_0 ?_
    refine s_iast (f := (upd (A 32) 0 0)) C0 hK hW 32 LY_X9_32 rfl rfl (congrArg (fun z => upd _ z _) tc_0) dX9_terrace_38 (fun H locs hW => ?_)
    have hW : wd D (dn cy LY_X9 ad P V (gp I [(0, 0, 0), (0, 1, y1.2.1), (0, 3, y1.2.2.1), (0, 4, y1.2.2.2.1), (0, 5, y1.2.2.2.2.1), (0, 6, y1.2.2.2.2.2.1), (0, 8, y1.2.2.2.2.2.2.1), (0, 9, y1.2.2.2.2.2.2.2.1), (0, 24, y1.2.2.2.2.2.2.2.2.1), (0, 25, y1.2.2.2.2.2.2.2.2.2.1), (0, 38, y1.2.2.2.2.2.2.2.2.2.2.1), (0, 53, (I 0 53))]) (gp J [(0, 7, y1.2.2.2.2.2.2.2.2.2.2.2.1), (0, 39, y1.2.2.2.2.2.2.2.2.2.2.2.2.1)]) (gm A [(2, y3.1), (5, y3.2.1), (6, y3.2.2.1), (7, y3.2.2.2.1), (8, y3.2.2.2.2.1), (9, y3.2.2.2.2.2.1), (10, y3.2.2.2.2.2.2.1), (11, y3.2.2.2.2.2.2.2.1), (12, y3.2.2.2.2.2.2.2.2.1), (13, y3.2.2.2.2.2.2.2.2.2.1), (14, y3.2.2.2.2.2.2.2.2.2.2.1), (15, y3.2.2.2.2.2.2.2.2.2.2.2.1), (16, y1.2.2.2.2.2.2.2.2.2.2.2.2.2.2.2.2.2.2.2.2.2.2.2.2.2.1), (17, y1.2.2.2.2.2.2.2.2.2.2.2.2.2.2.2.2.2.2.2.2.2.2.2.2.2.2.1), (28, (upd (A 28) 0 0)), (32, (upd (A 32) 0 0)), (35, y4), (40, (A 40))]) (gm B [(3, y3.2.2.2.2.2.2.2.2.2.2.2.2.1), (4, y3.2.2.2.2.2.2.2.2.2.2.2.2.2)])) Af s.heap H locs := hW
    refine lv_aload_n C0.1 C0.2.1 dX9_terrace_39 rfl (lv_at hl 0 rfl) ?_
    refine lv_iconst (v := 0) C0.1 C0.2.1 dX9_terrace_40 kI_0 ?_
    refine s_putI C0 hK hW 0 53 LY_X9_0 rfl fg_X9_354 fp_X9_53 rfl dX9_terrace_41 (fun H locs hW => ?_)
    have hW : wd D (dn cy LY_X9 ad P V (gp I [(0, 0, 0), (0, 1, y1.2.1), (0, 3, y1.2.2.1), (0, 4, y1.2.2.2.1), (0, 5, y1.2.2.2.2.1), (0, 6, y1.2.2.2.2.2.1), (0, 8, y1.2.2.2.2.2.2.1), (0, 9, y1.2.2.2.2.2.2.2.1), (0, 24, y1.2.2.2.2.2.2.2.2.1), (0, 25, y1.2.2.2.2.2.2.2.2.2.1), (0, 38, y1.2.2.2.2.2.2.2.2.2.2.1), (0, 53, 0)]) (gp J [(0, 7, y1.2.2.2.2.2.2.2.2.2.2.2.1), (0, 39, y1.2.2.2.2.2.2.2.2.2.2.2.2.1)]) (gm A [(2, y3.1), (5, y3.2.1), (6, y3.2.2.1), (7, y3.2.2.2.1), (8, y3.2.2.2.2.1), (9, y3.2.2.2.2.2.1), (10, y3.2.2.2.2.2.2.1), (11, y3.2.2.2.2.2.2.2.1), (12, y3.2.2.2.2.2.2.2.2.1), (13, y3.2.2.2.2.2.2.2.2.2.1), (14, y3.2.2.2.2.2.2.2.2.2.2.1), (15, y3.2.2.2.2.2.2.2.2.2.2.2.1), (16, y1.2.2.2.2.2.2.2.2.2.2.2.2.2.2.2.2.2.2.2.2.2.2.2.2.2.1), (17, y1.2.2.2.2.2.2.2.2.2.2.2.2.2.2.2.2.2.2.2.2.2.2.2.2.2.2.1), (28, (upd (A 28) 0 0)), (32, (upd (A 32) 0 0)), (35, y4), (40, (A 40))]) (gm B [(3, y3.2.2.2.2.2.2.2.2.2.2.2.2.1), (4, y3.2.2.2.2.2.2.2.2.2.2.2.2.2)])) Af s.heap H locs := hW
    refine lv_iconst (v := 0) C0.1 C0.2.1 dX9_terrace_44 kI_0 ?_
    refine lv_istore_n (lv' := [(1, .int 0), (0, .ref (ad 0))]) C0.1 C0.2.1 dX9_terrace_45 rfl hl (by decide) rfl (fun ls hl => ?_)
    exact TX9_terrace_46 C0 hK hN hA  FU 0 y1.2.1 y1.2.2.1 y1.2.2.2.1 y1.2.2.2.2.1 y1.2.2.2.2.2.1 y1.2.2.2.2.2.2.1 y1.2.2.2.2.2.2.2.1 y1.2.2.2.2.2.2.2.2.1 y1.2.2.2.2.2.2.2.2.2.1 y1.2.2.2.2.2.2.2.2.2.2.1 0 y1.2.2.2.2.2.2.2.2.2.2.2.1 y1.2.2.2.2.2.2.2.2.2.2.2.2.1 y3.1 y3.2.1 y3.2.2.1 y3.2.2.2.1 y3.2.2.2.2.1 y3.2.2.2.2.2.1 y3.2.2.2.2.2.2.1 y3.2.2.2.2.2.2.2.1 y3.2.2.2.2.2.2.2.2.1 y3.2.2.2.2.2.2.2.2.2.1 y3.2.2.2.2.2.2.2.2.2.2.1 y3.2.2.2.2.2.2.2.2.2.2.2.1 y1.2.2.2.2.2.2.2.2.2.2.2.2.2.2.2.2.2.2.2.2.2.2.2.2.2.1 y1.2.2.2.2.2.2.2.2.2.2.2.2.2.2.2.2.2.2.2.2.2.2.2.2.2.2.1 (upd (A 28) 0 0) (upd (A 32) 0 0) y4 (A 40) y3.2.2.2.2.2.2.2.2.2.2.2.2.1 y3.2.2.2.2.2.2.2.2.2.2.2.2.2 0 _ _ ls hW (lv_sub hl [1, 0] rfl) hf
  · have hf := ite_t hc2 hf
    refine lv_aload_n C0.1 C0.2.1 dX9_terrace_12 rfl (lv_at hl 0 rfl) ?_
    refine s_get (v := .int y1.2.2.2.2.2.2.2.1) C0 hK hW 0 9 LY_X9_0 rfl fg_X9_178 rfl dX9_terrace_13 ?_
    obtain rfl := Option.some.inj hf
    exact r_int C0 hK hW dX9_terrace_16
