-- X5_isLetter
def rmX5_isLetter : Room := { frames := 1, cells := 0, slots := 0, locals := 21 }
def fX5_isLetter (v0 : Int32) : Option (Int32) := if v0 < 97 then (some (0)) else (if 122 < v0 then (some (0)) else (some (1)))
set_option maxHeartbeats 4000000 in
set_option maxRecDepth 100000 in
theorem KX5_isLetter (l : Launch) (D : va_G) (cy : Nat → ClassId) (ad : Nat → Nat) (P : MP) (V : MV) (I : MI) (J : MJ) (A : MI) (B : MJ) (v0 : Int32) {res : Int32} (hf : fX5_isLetter v0 = some res) : CG l yX5_isLetter cX5_isLetter 1 (some .boolean) rmX5_isLetter D cy (dn cy LY_0 ad P V I J A B) [.int v0] (some (.int res)) (dn cy LY_0 ad P V (gp I []) (gp J []) (gm A []) (gm B [])) := by
  refine CG.of (own := RX5) (by decide) rfl rfl ?_
  intro p e s m below meth c ls Af C0 hK hN hA hW hl
  have hW : wd D (dn cy LY_0 ad P V (gp I []) (gp J []) (gm A []) (gm B [])) Af s.heap s.heap [] := wd_sel [] [] [] [] hW
  have hl : lv_has ls 1 [(0, .int v0)] := hl
  unfold fX5_isLetter at hf
  refine lv_iload_n C0.1 C0.2.1 dX5_isLetter_0 rfl (lv_at hl 0 rfl) ?_
  refine lv_bipush (v := 97) C0.1 C0.2.1 dX5_isLetter_1 kB_97 ?_
  refine lv_icmp_lt (tgt := 16) C0.1 C0.2.1 dX5_isLetter_3 (by decide) (fun hc1 => ?_) (fun hc1 => ?_)
  · have hf := ite_t hc1 hf
    refine lv_iconst (v := 0) C0.1 C0.2.1 dX5_isLetter_16 kI_0 ?_
    obtain rfl := Option.some.inj hf
    exact r_bool C0 hK hW (v' := 0) rfl dX5_isLetter_17
  · have hf := ite_f hc1 hf
    refine lv_iload_n C0.1 C0.2.1 dX5_isLetter_6 rfl (lv_at hl 0 rfl) ?_
    refine lv_bipush (v := 122) C0.1 C0.2.1 dX5_isLetter_7 kB_122 ?_
    refine lv_icmp_gt (tgt := 16) C0.1 C0.2.1 dX5_isLetter_9 (by decide) (fun hc2 => ?_) (fun hc2 => ?_)
    · have hf := ite_t hc2 hf
      refine lv_iconst (v := 0) C0.1 C0.2.1 dX5_isLetter_16 kI_0 ?_
      obtain rfl := Option.some.inj hf
      exact r_bool C0 hK hW (v' := 0) rfl dX5_isLetter_17
    · have hf := ite_f hc2 hf
      refine lv_iconst (v := 1) C0.1 C0.2.1 dX5_isLetter_12 kI_1 ?_
      refine lv_goto (tgt := 17) C0.1 C0.2.1 dX5_isLetter_13 (by decide) ?_
      obtain rfl := Option.some.inj hf
      exact r_bool C0 hK hW (v' := 1) rfl dX5_isLetter_17
-- X5_wordToken
def rmX5_wordToken : Room := { frames := 1, cells := 0, slots := 0, locals := 21 }
def SX5_wordToken_2 (p : Program) (l : Launch) (e : Env) (s : State) (m : MethodId) (args : Array Value) (below : List Frame) (meth : Method) (c : Code) (D : va_G) (cy : Nat → ClassId) (ad : Nat → Nat) (P : MP) (V : MV) (I : MI) (J : MJ) (A : MI) (B : MJ) (Af : Nat → Prop) (res : Int32) (k : Int32 → Option (Int32)) : Prop := ∀ (v1 : Int32) (H : Heap) (locs : List Loc) (ls : Array Slot), wd D (dn cy LY_X5 ad P V (gp I []) (gp J []) (gm A []) (gm B [])) Af s.heap H locs → lv_has ls 2 [(0, .ref (ad 0)), (1, .int v1)] → k v1 = some res → W p l e rmX5_wordToken s m args below meth c H locs 0 0 (ZQ below D cy (dn cy LY_X5 ad P V (gp I []) (gp J []) (gm A []) (gm B [])) (some (.int res)) Af args s) (F0 m 2 ls [])
def fX5_wordToken_2 (p_name : Int64) (p_words : (Nat → Int64)) (k2 : Int32 → Option (Int32)) (v1 : Int32) : Option (Int32) := if 26 ≤ v1 then (some (3)) else (bif inb v1 26 then (if (lg_cmp (p_words (Int32.toNatClampNeg v1)) p_name) = 0 then (some ((128 + v1))) else (k2 (v1 + 1))) else none)
set_option maxHeartbeats 4000000 in
set_option maxRecDepth 100000 in
theorem tX5_wordToken_2 {p : Program} {l : Launch} {e : Env} {s : State} {m : MethodId} {args : Array Value} {below : List Frame} {meth : Method} {c : Code} {D : va_G} {cy : Nat → ClassId} {ad : Nat → Nat} {P : MP} {V : MV} {I : MI} {J : MJ} {A : MI} {B : MJ} {Af : Nat → Prop} {res : Int32} (C0 : CX p s m args meth c cX5_wordToken 2 (some .int) RX5) (hK : va_K D vwCl (tyG cy) s) (hN : NWs s) (hA : ∀ q, s.heap.size ≤ q → Af q) {k2 : Int32 → Option (Int32)} (hk2 : SX5_wordToken_2 p l e s m args below meth c D cy ad P V I J A B Af res k2) : SX5_wordToken_2 p l e s m args below meth c D cy ad P V I J A B Af res (fX5_wordToken_2 (J 0 5) (B 2) k2) := by
  intro v1 H locs ls hW hl hf
  unfold fX5_wordToken_2 at hf
  refine lv_iload_n C0.1 C0.2.1 dX5_wordToken_2 rfl (lv_at hl 1 rfl) ?_
  refine lv_bipush (v := 26) C0.1 C0.2.1 dX5_wordToken_3 kB_26 ?_
  refine lv_icmp_ge (tgt := 34) C0.1 C0.2.1 dX5_wordToken_5 (by decide) (fun hc1 => ?_) (fun hc1 => ?_)
  · have hf := ite_t hc1 hf
    refine lv_iconst (v := 3) C0.1 C0.2.1 dX5_wordToken_34 kI_3 ?_
    obtain rfl := Option.some.inj hf
    exact r_int C0 hK hW dX5_wordToken_35
  · have hf := ite_f hc1 hf
    refine lv_aload_n C0.1 C0.2.1 dX5_wordToken_8 rfl (lv_at hl 0 rfl) ?_
    refine s_get (v := .ref (ad 2)) C0 hK hW 0 1 LY_X5_0 rfl fg_X5_15 rfl dX5_wordToken_9 ?_
    refine lv_iload_n C0.1 C0.2.1 dX5_wordToken_12 rfl (lv_at hl 1 rfl) ?_
    obtain ⟨hb2, hf⟩ := g_some hf
    refine s_lald (v := ((B 2) (Int32.toNatClampNeg v1))) C0 hK hW 2 LY_X5_2 hb2 rfl dX5_wordToken_13 ?_
    refine lv_aload_n C0.1 C0.2.1 dX5_wordToken_14 rfl (lv_at hl 0 rfl) ?_
    refine s_get (v := .long (J 0 5)) C0 hK hW 0 5 LY_X5_0 rfl fg_X5_70 rfl dX5_wordToken_15 ?_
    refine W.lcmp C0.1 C0.2.1 dX5_wordToken_18 ?_
    refine lv_if_ne (tgt := 28) C0.1 C0.2.1 dX5_wordToken_19 (by decide) (fun hc3 => ?_) (fun hc3 => ?_)
    · have hf := ite_f hc3 hf
      refine lv_iinc (v := (v1 + 1)) (lv' := [(1, .int (v1 + 1)), (0, .ref (ad 0))]) C0.1 C0.2.1 dX5_wordToken_28 hl (k := 1) rfl (congrArg (fun z => _ + z) kI_1) (by decide) rfl (fun ls hl => ?_)
      refine lv_goto (tgt := 2) C0.1 C0.2.1 dX5_wordToken_31 (by decide) ?_
      exact hk2 (v1 + 1) H locs ls hW (lv_sub hl [1, 0] rfl) hf
    · have hf := ite_t hc3 hf
      refine lv_sipush (v := 128) C0.1 C0.2.1 dX5_wordToken_22 kS_128 ?_
      refine lv_iload_n C0.1 C0.2.1 dX5_wordToken_25 rfl (lv_at hl 1 rfl) ?_
      refine lv_iadd C0.1 C0.2.1 dX5_wordToken_26 ?_
      obtain rfl := Option.some.inj hf
      exact r_int C0 hK hW dX5_wordToken_27
theorem TX5_wordToken_2 {p : Program} {l : Launch} {e : Env} {s : State} {m : MethodId} {args : Array Value} {below : List Frame} {meth : Method} {c : Code} {D : va_G} {cy : Nat → ClassId} {ad : Nat → Nat} {P : MP} {V : MV} {I : MI} {J : MJ} {A : MI} {B : MJ} {Af : Nat → Prop} {res : Int32} (C0 : CX p s m args meth c cX5_wordToken 2 (some .int) RX5) (hK : va_K D vwCl (tyG cy) s) (hN : NWs s) (hA : ∀ q, s.heap.size ≤ q → Af q) : ∀ n, SX5_wordToken_2 p l e s m args below meth c D cy ad P V I J A B Af res (itr (fun kk => fX5_wordToken_2 (J 0 5) (B 2) kk) (fun _ => none) n) := by
  intro n
  induction n with
  | zero => intro v1 H locs ls hW hl hf; exact (nomatch (show (none : Option (Int32)) = some res from hf))
  | succ n ih => exact tX5_wordToken_2 C0 hK hN hA  ih
def fX5_wordToken (p_name : Int64) (p_words : (Nat → Int64)) : Option (Int32) := itr (fun kk => fX5_wordToken_2 p_name p_words kk) (fun _ => none) FU 0
set_option maxHeartbeats 4000000 in
set_option maxRecDepth 100000 in
theorem KX5_wordToken (l : Launch) (D : va_G) (cy : Nat → ClassId) (ad : Nat → Nat) (P : MP) (V : MV) (I : MI) (J : MJ) (A : MI) (B : MJ) {res : Int32} (hf : fX5_wordToken (J 0 5) (B 2) = some res) : CG l yX5_wordToken cX5_wordToken 2 (some .int) rmX5_wordToken D cy (dn cy LY_X5 ad P V I J A B) [.ref (ad 0)] (some (.int res)) (dn cy LY_X5 ad P V (gp I []) (gp J []) (gm A []) (gm B [])) := by
  refine CG.of (own := RX5) (by decide) rfl rfl ?_
  intro p e s m below meth c ls Af C0 hK hN hA hW hl
  have hW : wd D (dn cy LY_X5 ad P V (gp I []) (gp J []) (gm A []) (gm B [])) Af s.heap s.heap [] := wd_sel [] [] [] [] hW
  have hl : lv_has ls 2 [(0, .ref (ad 0))] := hl
  unfold fX5_wordToken at hf
  refine lv_iconst (v := 0) C0.1 C0.2.1 dX5_wordToken_0 kI_0 ?_
  refine lv_istore_n (lv' := [(1, .int 0), (0, .ref (ad 0))]) C0.1 C0.2.1 dX5_wordToken_1 rfl hl (by decide) rfl (fun ls hl => ?_)
  exact TX5_wordToken_2 C0 hK hN hA  FU 0 _ _ ls hW (lv_sub hl [1, 0] rfl) hf
-- X5_takeWord
def rmX5_takeWord : Room := { frames := 2, cells := 0, slots := 0, locals := 42 }
def SX5_takeWord_67 (p : Program) (l : Launch) (e : Env) (s : State) (m : MethodId) (args : Array Value) (below : List Frame) (meth : Method) (c : Code) (D : va_G) (cy : Nat → ClassId) (ad : Nat → Nat) (P : MP) (V : MV) (I : MI) (J : MJ) (A : MI) (B : MJ) (Af : Nat → Prop) (res : Int32 × Int32 × Int64) (k : Int32 → Int32 → Int64 → Option (Int32 × Int32 × Int64)) : Prop := ∀ (p_behind : Int32) (p_token : Int32) (p_name : Int64) (H : Heap) (locs : List Loc) (ls : Array Slot), wd D (dn cy LY_X5 ad P V (gp I [(0, 2, p_behind), (0, 7, p_token)]) (gp J [(0, 5, p_name)]) (gm A []) (gm B [])) Af s.heap H locs → lv_has ls 1 [(0, .ref (ad 0))] → k p_behind p_token p_name = some res → W p l e rmX5_takeWord s m args below meth c H locs 0 0 (ZQ below D cy (dn cy LY_X5 ad P V (gp I [(0, 2, res.1), (0, 7, res.2.1)]) (gp J [(0, 5, res.2.2)]) (gm A []) (gm B [])) none Af args s) (F0 m 67 ls [])
def SX5_takeWord_80 (p : Program) (l : Launch) (e : Env) (s : State) (m : MethodId) (args : Array Value) (below : List Frame) (meth : Method) (c : Code) (D : va_G) (cy : Nat → ClassId) (ad : Nat → Nat) (P : MP) (V : MV) (I : MI) (J : MJ) (A : MI) (B : MJ) (Af : Nat → Prop) (res : Int32 × Int32 × Int64) (k : Int32 → Int32 → Int64 → Option (Int32 × Int32 × Int64)) : Prop := ∀ (p_behind : Int32) (p_token : Int32) (p_name : Int64) (H : Heap) (locs : List Loc) (ls : Array Slot), wd D (dn cy LY_X5 ad P V (gp I [(0, 2, p_behind), (0, 7, p_token)]) (gp J [(0, 5, p_name)]) (gm A []) (gm B [])) Af s.heap H locs → lv_has ls 1 [(0, .ref (ad 0))] → k p_behind p_token p_name = some res → W p l e rmX5_takeWord s m args below meth c H locs 0 0 (ZQ below D cy (dn cy LY_X5 ad P V (gp I [(0, 2, res.1), (0, 7, res.2.1)]) (gp J [(0, 5, res.2.2)]) (gm A []) (gm B [])) none Af args s) (F0 m 80 ls [])
def SX5_takeWord_5 (p : Program) (l : Launch) (e : Env) (s : State) (m : MethodId) (args : Array Value) (below : List Frame) (meth : Method) (c : Code) (D : va_G) (cy : Nat → ClassId) (ad : Nat → Nat) (P : MP) (V : MV) (I : MI) (J : MJ) (A : MI) (B : MJ) (Af : Nat → Prop) (res : Int32 × Int32 × Int64) (k : Int32 → Int32 → Int64 → Option (Int32 × Int32 × Int64)) : Prop := ∀ (p_behind : Int32) (p_token : Int32) (p_name : Int64) (H : Heap) (locs : List Loc) (ls : Array Slot), wd D (dn cy LY_X5 ad P V (gp I [(0, 2, p_behind), (0, 7, p_token)]) (gp J [(0, 5, p_name)]) (gm A []) (gm B [])) Af s.heap H locs → lv_has ls 1 [(0, .ref (ad 0))] → k p_behind p_token p_name = some res → W p l e rmX5_takeWord s m args below meth c H locs 0 0 (ZQ below D cy (dn cy LY_X5 ad P V (gp I [(0, 2, res.1), (0, 7, res.2.1)]) (gp J [(0, 5, res.2.2)]) (gm A []) (gm B [])) none Af args s) (F0 m 5 ls [])
def fX5_takeWord_67 (p_place : Int32) (p_length : Int32) (p_signs : (Nat → Int32)) (p_words : (Nat → Int64)) (k5 : Int32 → Int32 → Int64 → Option (Int32 × Int32 × Int64)) (p_behind : Int32) (p_token : Int32) (p_name : Int64) : Option (Int32 × Int32 × Int64) := k5 (p_behind + 1) p_token p_name
set_option maxHeartbeats 4000000 in
set_option maxRecDepth 100000 in
theorem tX5_takeWord_67 {p : Program} {l : Launch} {e : Env} {s : State} {m : MethodId} {args : Array Value} {below : List Frame} {meth : Method} {c : Code} {D : va_G} {cy : Nat → ClassId} {ad : Nat → Nat} {P : MP} {V : MV} {I : MI} {J : MJ} {A : MI} {B : MJ} {Af : Nat → Prop} {res : Int32 × Int32 × Int64} (C0 : CX p s m args meth c cX5_takeWord 1 none RX5) (hK : va_K D vwCl (tyG cy) s) (hN : NWs s) (hA : ∀ q, s.heap.size ≤ q → Af q) {k5 : Int32 → Int32 → Int64 → Option (Int32 × Int32 × Int64)} (hk5 : SX5_takeWord_5 p l e s m args below meth c D cy ad P V I J A B Af res k5) : SX5_takeWord_67 p l e s m args below meth c D cy ad P V I J A B Af res (fX5_takeWord_67 (I 0 3) (I 0 6) (A 1) (B 2) k5) := by
  intro p_behind p_token p_name H locs ls hW hl hf
  unfold fX5_takeWord_67 at hf
  refine lv_aload_n C0.1 C0.2.1 dX5_takeWord_67 rfl (lv_at hl 0 rfl) ?_
  refine lv_dup C0.1 C0.2.1 dX5_takeWord_68 rfl ?_
  refine s_get (v := .int p_behind) C0 hK hW 0 2 LY_X5_0 rfl fg_X5_36 rfl dX5_takeWord_69 ?_
  refine lv_iconst (v := 1) C0.1 C0.2.1 dX5_takeWord_72 kI_1 ?_
  refine lv_iadd C0.1 C0.2.1 dX5_takeWord_73 ?_
  refine s_putI C0 hK hW 0 2 LY_X5_0 rfl fg_X5_36 fp_X5_2 rfl dX5_takeWord_74 (fun H locs hW => ?_)
  have hW : wd D (dn cy LY_X5 ad P V (gp I [(0, 2, (p_behind + 1)), (0, 7, p_token)]) (gp J [(0, 5, p_name)]) (gm A []) (gm B [])) Af s.heap H locs := hW
  refine lv_goto (tgt := 5) C0.1 C0.2.1 dX5_takeWord_77 (by decide) ?_
  exact hk5 (p_behind + 1) p_token p_name H locs ls hW hl hf
def fX5_takeWord_80 (p_place : Int32) (p_length : Int32) (p_signs : (Nat → Int32)) (p_words : (Nat → Int64)) (p_behind : Int32) (p_token : Int32) (p_name : Int64) : Option (Int32 × Int32 × Int64) := if (p_behind - p_place) ≤ 8 then (Option.bind (fX5_wordToken p_name p_words) fun y2 => (some (p_behind, y2, p_name))) else (some (p_behind, 1, p_name))
set_option maxHeartbeats 4000000 in
set_option maxRecDepth 100000 in
theorem tX5_takeWord_80 {p : Program} {l : Launch} {e : Env} {s : State} {m : MethodId} {args : Array Value} {below : List Frame} {meth : Method} {c : Code} {D : va_G} {cy : Nat → ClassId} {ad : Nat → Nat} {P : MP} {V : MV} {I : MI} {J : MJ} {A : MI} {B : MJ} {Af : Nat → Prop} {res : Int32 × Int32 × Int64} (C0 : CX p s m args meth c cX5_takeWord 1 none RX5) (hK : va_K D vwCl (tyG cy) s) (hN : NWs s) (hA : ∀ q, s.heap.size ≤ q → Af q) : SX5_takeWord_80 p l e s m args below meth c D cy ad P V I J A B Af res (fX5_takeWord_80 (I 0 3) (I 0 6) (A 1) (B 2)) := by
  intro p_behind p_token p_name H locs ls hW hl hf
  unfold fX5_takeWord_80 at hf
  refine lv_aload_n C0.1 C0.2.1 dX5_takeWord_80 rfl (lv_at hl 0 rfl) ?_
  refine lv_aload_n C0.1 C0.2.1 dX5_takeWord_81 rfl (lv_at hl 0 rfl) ?_
  refine s_get (v := .int p_behind) C0 hK hW 0 2 LY_X5_0 rfl fg_X5_36 rfl dX5_takeWord_82 ?_
  refine lv_aload_n C0.1 C0.2.1 dX5_takeWord_85 rfl (lv_at hl 0 rfl) ?_
  refine s_get (v := .int (I 0 3)) C0 hK hW 0 3 LY_X5_0 rfl fg_X5_48 rfl dX5_takeWord_86 ?_
  refine lv_isub C0.1 C0.2.1 dX5_takeWord_89 ?_
  refine lv_bipush (v := 8) C0.1 C0.2.1 dX5_takeWord_90 kB_8 ?_
  refine lv_icmp_le (tgt := 99) C0.1 C0.2.1 dX5_takeWord_92 (by decide) (fun hc1 => ?_) (fun hc1 => ?_)
  · have hf := ite_t hc1 hf
    refine lv_aload_n C0.1 C0.2.1 dX5_takeWord_99 rfl (lv_at hl 0 rfl) ?_
    obtain ⟨y2, hy2, hf⟩ := b_some hf
    refine c_Vi C0 hK hN hl.1 hW hA (KX5_wordToken l D cy  ad P V (gp I [(0, 2, p_behind), (0, 7, p_token)]) (gp J [(0, 5, p_name)]) (gm A []) (gm B [])  hy2) (JN_id rfl rfl rfl rfl) (Uw_V uw_472 uw_474 us_5 uw_2 uw_475) rfl rfl hd_X5_wordToken ⟨rfl, rfl⟩ rfl (dn_some LY_X5_0) rfl rfl rfl dX5_takeWord_100 ⟨Nat.zero_le _, Nat.zero_le _⟩ (fun H locs hW => ?_)
    have hW : wd D (dn cy LY_X5 ad P V (gp I [(0, 2, p_behind), (0, 7, p_token)]) (gp J [(0, 5, p_name)]) (gm A []) (gm B [])) Af s.heap H locs := hW
    refine s_putI C0 hK hW 0 7 LY_X5_0 rfl fg_X5_45 fp_X5_7 rfl dX5_takeWord_103 (fun H locs hW => ?_)
    have hW : wd D (dn cy LY_X5 ad P V (gp I [(0, 2, p_behind), (0, 7, y2)]) (gp J [(0, 5, p_name)]) (gm A []) (gm B [])) Af s.heap H locs := hW
    obtain rfl := Option.some.inj hf
    exact r_void C0 hK hW dX5_takeWord_106
  · have hf := ite_f hc1 hf
    refine lv_iconst (v := 1) C0.1 C0.2.1 dX5_takeWord_95 kI_1 ?_
    refine lv_goto (tgt := 103) C0.1 C0.2.1 dX5_takeWord_96 (by decide) ?_
    refine s_putI C0 hK hW 0 7 LY_X5_0 rfl fg_X5_45 fp_X5_7 rfl dX5_takeWord_103 (fun H locs hW => ?_)
    have hW : wd D (dn cy LY_X5 ad P V (gp I [(0, 2, p_behind), (0, 7, 1)]) (gp J [(0, 5, p_name)]) (gm A []) (gm B [])) Af s.heap H locs := hW
    obtain rfl := Option.some.inj hf
    exact r_void C0 hK hW dX5_takeWord_106
def fX5_takeWord_5 (p_place : Int32) (p_length : Int32) (p_signs : (Nat → Int32)) (p_words : (Nat → Int64)) (k5 : Int32 → Int32 → Int64 → Option (Int32 × Int32 × Int64)) (p_behind : Int32) (p_token : Int32) (p_name : Int64) : Option (Int32 × Int32 × Int64) := if p_length ≤ p_behind then (fX5_takeWord_80 p_place p_length p_signs p_words p_behind p_token p_name) else (bif inb p_behind 1000 then (Option.bind (fX5_isLetter (p_signs (Int32.toNatClampNeg p_behind))) fun y3 => (if y3 = 0 then (fX5_takeWord_80 p_place p_length p_signs p_words p_behind p_token p_name) else (if 8 ≤ (p_behind - p_place) then (fX5_takeWord_67 p_place p_length p_signs p_words k5 p_behind p_token p_name) else (bif inb p_behind 1000 then (fX5_takeWord_67 p_place p_length p_signs p_words k5 p_behind p_token ((lsh p_name 8) ||| (Int32.toInt64 (p_signs (Int32.toNatClampNeg p_behind))))) else none)))) else none)
set_option maxHeartbeats 4000000 in
set_option maxRecDepth 100000 in
theorem tX5_takeWord_5 {p : Program} {l : Launch} {e : Env} {s : State} {m : MethodId} {args : Array Value} {below : List Frame} {meth : Method} {c : Code} {D : va_G} {cy : Nat → ClassId} {ad : Nat → Nat} {P : MP} {V : MV} {I : MI} {J : MJ} {A : MI} {B : MJ} {Af : Nat → Prop} {res : Int32 × Int32 × Int64} (C0 : CX p s m args meth c cX5_takeWord 1 none RX5) (hK : va_K D vwCl (tyG cy) s) (hN : NWs s) (hA : ∀ q, s.heap.size ≤ q → Af q) {k5 : Int32 → Int32 → Int64 → Option (Int32 × Int32 × Int64)} (hk5 : SX5_takeWord_5 p l e s m args below meth c D cy ad P V I J A B Af res k5) : SX5_takeWord_5 p l e s m args below meth c D cy ad P V I J A B Af res (fX5_takeWord_5 (I 0 3) (I 0 6) (A 1) (B 2) k5) := by
  intro p_behind p_token p_name H locs ls hW hl hf
  unfold fX5_takeWord_5 at hf
  refine lv_aload_n C0.1 C0.2.1 dX5_takeWord_5 rfl (lv_at hl 0 rfl) ?_
  refine s_get (v := .int p_behind) C0 hK hW 0 2 LY_X5_0 rfl fg_X5_36 rfl dX5_takeWord_6 ?_
  refine lv_aload_n C0.1 C0.2.1 dX5_takeWord_9 rfl (lv_at hl 0 rfl) ?_
  refine s_get (v := .int (I 0 6)) C0 hK hW 0 6 LY_X5_0 rfl fg_X5_33 rfl dX5_takeWord_10 ?_
  refine lv_icmp_ge (tgt := 80) C0.1 C0.2.1 dX5_takeWord_13 (by decide) (fun hc1 => ?_) (fun hc1 => ?_)
  · have hf := ite_t hc1 hf
    exact tX5_takeWord_80 C0 hK hN hA  p_behind p_token p_name H locs ls hW hl hf
  · have hf := ite_f hc1 hf
    refine lv_aload_n C0.1 C0.2.1 dX5_takeWord_16 rfl (lv_at hl 0 rfl) ?_
    refine s_get (v := .ref (ad 1)) C0 hK hW 0 0 LY_X5_0 rfl fg_X5_9 rfl dX5_takeWord_17 ?_
    refine lv_aload_n C0.1 C0.2.1 dX5_takeWord_20 rfl (lv_at hl 0 rfl) ?_
    refine s_get (v := .int p_behind) C0 hK hW 0 2 LY_X5_0 rfl fg_X5_36 rfl dX5_takeWord_21 ?_
    obtain ⟨hb2, hf⟩ := g_some hf
    refine s_bald (v := ((A 1) (Int32.toNatClampNeg p_behind))) C0 hK hW 1 LY_X5_1 hb2 rfl dX5_takeWord_24 ?_
    obtain ⟨y3, hy3, hf⟩ := b_some hf
    refine c_Si C0 hK hN hl.1 hW hA (KX5_isLetter l D cy  (fun q => ad (pl_LY_X5_LY_0_.getD q 0)) (fun q => P (pl_LY_X5_LY_0_.getD q 0)) (fun q => Vx LY_X5 ad V (pl_LY_X5_LY_0_.getD q 0)) (fun q => gp I [(0, 2, p_behind), (0, 7, p_token)] (pl_LY_X5_LY_0_.getD q 0)) (fun q => gp J [(0, 5, p_name)] (pl_LY_X5_LY_0_.getD q 0)) (fun q => gm A [] (pl_LY_X5_LY_0_.getD q 0)) (fun q => gm B [] (pl_LY_X5_LY_0_.getD q 0)) ((A 1) (Int32.toNatClampNeg p_behind)) hy3) (JN_subC (pl := pl_LY_X5_LY_0_) sb_LY_X5_LY_0_ rfl rfl rfl rfl rfl rfl rfl rfl rfl) ⟨uw_465, uw_466, uw_2, uw_467⟩ rfl rfl hd_X5_isLetter ⟨rfl, rfl⟩ rfl rfl rfl dX5_takeWord_25 ⟨Nat.zero_le _, Nat.zero_le _⟩ (fun H locs hW => ?_)
    have hW : wd D (dn cy LY_X5 ad P V (gp I [(0, 2, p_behind), (0, 7, p_token)]) (gp J [(0, 5, p_name)]) (gm A []) (gm B [])) Af s.heap H locs := hW
    refine lv_if_eq (tgt := 80) C0.1 C0.2.1 dX5_takeWord_28 (by decide) (fun hc4 => ?_) (fun hc4 => ?_)
    · have hf := ite_t hc4 hf
      exact tX5_takeWord_80 C0 hK hN hA  p_behind p_token p_name H locs ls hW hl hf
    · have hf := ite_f hc4 hf
      refine lv_aload_n C0.1 C0.2.1 dX5_takeWord_31 rfl (lv_at hl 0 rfl) ?_
      refine s_get (v := .int p_behind) C0 hK hW 0 2 LY_X5_0 rfl fg_X5_36 rfl dX5_takeWord_32 ?_
      refine lv_aload_n C0.1 C0.2.1 dX5_takeWord_35 rfl (lv_at hl 0 rfl) ?_
      refine s_get (v := .int (I 0 3)) C0 hK hW 0 3 LY_X5_0 rfl fg_X5_48 rfl dX5_takeWord_36 ?_
      refine lv_isub C0.1 C0.2.1 dX5_takeWord_39 ?_
      refine lv_bipush (v := 8) C0.1 C0.2.1 dX5_takeWord_40 kB_8 ?_
      refine lv_icmp_ge (tgt := 67) C0.1 C0.2.1 dX5_takeWord_42 (by decide) (fun hc5 => ?_) (fun hc5 => ?_)
      · have hf := ite_t hc5 hf
        exact tX5_takeWord_67 C0 hK hN hA hk5 p_behind p_token p_name H locs ls hW hl hf
      · have hf := ite_f hc5 hf
        refine lv_aload_n C0.1 C0.2.1 dX5_takeWord_45 rfl (lv_at hl 0 rfl) ?_
        refine lv_aload_n C0.1 C0.2.1 dX5_takeWord_46 rfl (lv_at hl 0 rfl) ?_
        refine s_get (v := .long p_name) C0 hK hW 0 5 LY_X5_0 rfl fg_X5_70 rfl dX5_takeWord_47 ?_
        refine lv_bipush (v := 8) C0.1 C0.2.1 dX5_takeWord_50 kB_8 ?_
        refine lv_lshl (v := (lsh p_name 8)) C0.1 C0.2.1 dX5_takeWord_52 rfl ?_
        refine lv_aload_n C0.1 C0.2.1 dX5_takeWord_53 rfl (lv_at hl 0 rfl) ?_
        refine s_get (v := .ref (ad 1)) C0 hK hW 0 0 LY_X5_0 rfl fg_X5_9 rfl dX5_takeWord_54 ?_
        refine lv_aload_n C0.1 C0.2.1 dX5_takeWord_57 rfl (lv_at hl 0 rfl) ?_
        refine s_get (v := .int p_behind) C0 hK hW 0 2 LY_X5_0 rfl fg_X5_36 rfl dX5_takeWord_58 ?_
        obtain ⟨hb6, hf⟩ := g_some hf
        refine s_bald (v := ((A 1) (Int32.toNatClampNeg p_behind))) C0 hK hW 1 LY_X5_1 hb6 rfl dX5_takeWord_61 ?_
        refine lv_i2l (v := (Int32.toInt64 ((A 1) (Int32.toNatClampNeg p_behind)))) C0.1 C0.2.1 dX5_takeWord_62 rfl ?_
        refine lv_lor C0.1 C0.2.1 dX5_takeWord_63 ?_
        refine s_putJ C0 hK hW 0 5 LY_X5_0 rfl fg_X5_70 fp_X5_5 rfl dX5_takeWord_64 (fun H locs hW => ?_)
        have hW : wd D (dn cy LY_X5 ad P V (gp I [(0, 2, p_behind), (0, 7, p_token)]) (gp J [(0, 5, ((lsh p_name 8) ||| (Int32.toInt64 ((A 1) (Int32.toNatClampNeg p_behind)))))]) (gm A []) (gm B [])) Af s.heap H locs := hW
        exact tX5_takeWord_67 C0 hK hN hA hk5 p_behind p_token ((lsh p_name 8) ||| (Int32.toInt64 ((A 1) (Int32.toNatClampNeg p_behind)))) H locs ls hW hl hf
theorem TX5_takeWord_5 {p : Program} {l : Launch} {e : Env} {s : State} {m : MethodId} {args : Array Value} {below : List Frame} {meth : Method} {c : Code} {D : va_G} {cy : Nat → ClassId} {ad : Nat → Nat} {P : MP} {V : MV} {I : MI} {J : MJ} {A : MI} {B : MJ} {Af : Nat → Prop} {res : Int32 × Int32 × Int64} (C0 : CX p s m args meth c cX5_takeWord 1 none RX5) (hK : va_K D vwCl (tyG cy) s) (hN : NWs s) (hA : ∀ q, s.heap.size ≤ q → Af q) : ∀ n, SX5_takeWord_5 p l e s m args below meth c D cy ad P V I J A B Af res (itr (fun kk => fX5_takeWord_5 (I 0 3) (I 0 6) (A 1) (B 2) kk) (fun _ _ _ => none) n) := by
  intro n
  induction n with
  | zero => intro p_behind p_token p_name H locs ls hW hl hf; exact (nomatch (show (none : Option (Int32 × Int32 × Int64)) = some res from hf))
  | succ n ih => exact tX5_takeWord_5 C0 hK hN hA  ih
def fX5_takeWord (p_place : Int32) (p_length : Int32) (p_signs : (Nat → Int32)) (p_words : (Nat → Int64)) (p_behind : Int32) (p_token : Int32) (p_name : Int64) : Option (Int32 × Int32 × Int64) := itr (fun kk => fX5_takeWord_5 p_place p_length p_signs p_words kk) (fun _ _ _ => none) FU p_behind p_token 0
set_option maxHeartbeats 4000000 in
set_option maxRecDepth 100000 in
theorem KX5_takeWord (l : Launch) (D : va_G) (cy : Nat → ClassId) (ad : Nat → Nat) (P : MP) (V : MV) (I : MI) (J : MJ) (A : MI) (B : MJ) {res : Int32 × Int32 × Int64} (hf : fX5_takeWord (I 0 3) (I 0 6) (A 1) (B 2) (I 0 2) (I 0 7) (J 0 5) = some res) : CG l yX5_takeWord cX5_takeWord 1 none rmX5_takeWord D cy (dn cy LY_X5 ad P V I J A B) [.ref (ad 0)] none (dn cy LY_X5 ad P V (gp I [(0, 2, res.1), (0, 7, res.2.1)]) (gp J [(0, 5, res.2.2)]) (gm A []) (gm B [])) := by
  refine CG.of (own := RX5) (by decide) rfl rfl ?_
  intro p e s m below meth c ls Af C0 hK hN hA hW hl
  have hW : wd D (dn cy LY_X5 ad P V (gp I [(0, 2, (I 0 2)), (0, 7, (I 0 7))]) (gp J [(0, 5, (J 0 5))]) (gm A []) (gm B [])) Af s.heap s.heap [] := wd_sel [(0, 2), (0, 7)] [(0, 5)] [] [] hW
  have hl : lv_has ls 1 [(0, .ref (ad 0))] := hl
  unfold fX5_takeWord at hf
  refine lv_aload_n C0.1 C0.2.1 dX5_takeWord_0 rfl (lv_at hl 0 rfl) ?_
  refine lv_lconst (v := 0) C0.1 C0.2.1 dX5_takeWord_1 (by decide) ?_
  refine s_putJ C0 hK hW 0 5 LY_X5_0 rfl fg_X5_70 fp_X5_5 rfl dX5_takeWord_2 (fun H locs hW => ?_)
  have hW : wd D (dn cy LY_X5 ad P V (gp I [(0, 2, (I 0 2)), (0, 7, (I 0 7))]) (gp J [(0, 5, 0)]) (gm A []) (gm B [])) Af s.heap H locs := hW
  exact TX5_takeWord_5 C0 hK hN hA  FU (I 0 2) (I 0 7) 0 _ _ ls hW hl hf
-- X5_next
def rmX5_next : Room := { frames := 3, cells := 0, slots := 0, locals := 62 }
def SX5_next_49 (p : Program) (l : Launch) (e : Env) (s : State) (m : MethodId) (args : Array Value) (below : List Frame) (meth : Method) (c : Code) (D : va_G) (cy : Nat → ClassId) (ad : Nat → Nat) (P : MP) (V : MV) (I : MI) (J : MJ) (A : MI) (B : MJ) (Af : Nat → Prop) (res : Int32 × Int32 × Int32 × Int32 × Int32 × Int64) (k : Int32 → Int32 → Int32 → Int32 → Int32 → Int64 → Int32 → Option (Int32 × Int32 × Int32 × Int32 × Int32 × Int64)) : Prop := ∀ (p_behind : Int32) (p_place : Int32) (p_takenPlace : Int32) (p_token : Int32) (p_number : Int32) (p_name : Int64) (v1 : Int32) (H : Heap) (locs : List Loc) (ls : Array Slot), wd D (dn cy LY_X5 ad P V (gp I [(0, 2, p_behind), (0, 3, p_place), (0, 4, p_takenPlace), (0, 7, p_token), (0, 8, p_number)]) (gp J [(0, 5, p_name)]) (gm A []) (gm B [])) Af s.heap H locs → lv_has ls 2 [(0, .ref (ad 0)), (1, .int v1)] → k p_behind p_place p_takenPlace p_token p_number p_name v1 = some res → W p l e rmX5_next s m args below meth c H locs 0 0 (ZQ below D cy (dn cy LY_X5 ad P V (gp I [(0, 2, res.1), (0, 3, res.2.1), (0, 4, res.2.2.1), (0, 7, res.2.2.2.1), (0, 8, res.2.2.2.2.1)]) (gp J [(0, 5, res.2.2.2.2.2)]) (gm A []) (gm B [])) none Af args s) (F0 m 49 ls [])
def SX5_next_13 (p : Program) (l : Launch) (e : Env) (s : State) (m : MethodId) (args : Array Value) (below : List Frame) (meth : Method) (c : Code) (D : va_G) (cy : Nat → ClassId) (ad : Nat → Nat) (P : MP) (V : MV) (I : MI) (J : MJ) (A : MI) (B : MJ) (Af : Nat → Prop) (res : Int32 × Int32 × Int32 × Int32 × Int32 × Int64) (k : Int32 → Int32 → Int32 → Int32 → Int32 → Int64 → Int32 → Option (Int32 × Int32 × Int32 × Int32 × Int32 × Int64)) : Prop := ∀ (p_behind : Int32) (p_place : Int32) (p_takenPlace : Int32) (p_token : Int32) (p_number : Int32) (p_name : Int64) (v1 : Int32) (H : Heap) (locs : List Loc) (ls : Array Slot), wd D (dn cy LY_X5 ad P V (gp I [(0, 2, p_behind), (0, 3, p_place), (0, 4, p_takenPlace), (0, 7, p_token), (0, 8, p_number)]) (gp J [(0, 5, p_name)]) (gm A []) (gm B [])) Af s.heap H locs → lv_has ls 2 [(0, .ref (ad 0)), (1, .int v1)] → k p_behind p_place p_takenPlace p_token p_number p_name v1 = some res → W p l e rmX5_next s m args below meth c H locs 0 0 (ZQ below D cy (dn cy LY_X5 ad P V (gp I [(0, 2, res.1), (0, 3, res.2.1), (0, 4, res.2.2.1), (0, 7, res.2.2.2.1), (0, 8, res.2.2.2.2.1)]) (gp J [(0, 5, res.2.2.2.2.2)]) (gm A []) (gm B [])) none Af args s) (F0 m 13 ls [])
def fX5_next_49 (p_length : Int32) (p_signs : (Nat → Int32)) (p_words : (Nat → Int64)) (p_behind : Int32) (p_place : Int32) (p_takenPlace : Int32) (p_token : Int32) (p_number : Int32) (p_name : Int64) (v1 : Int32) : Option (Int32 × Int32 × Int32 × Int32 × Int32 × Int64) := if v1 < p_length then (bif inb v1 1000 then (Option.bind (fX5_isDigit (p_signs (Int32.toNatClampNeg v1))) fun y3 => (if y3 = 0 then (bif inb v1 1000 then (Option.bind (fX5_isLetter (p_signs (Int32.toNatClampNeg v1))) fun y6 => (if y6 = 0 then (bif inb v1 1000 then (some ((v1 + 1), v1, p_takenPlace, (p_signs (Int32.toNatClampNeg v1)), p_number, p_name)) else none) else (Option.bind (fX5_takeWord v1 p_length p_signs p_words v1 p_token p_name) fun y9 => (some (y9.1, v1, p_takenPlace, y9.2.1, p_number, y9.2.2))))) else none) else (Option.bind (fX5_takeNumber v1 p_length p_signs v1 p_token p_number) fun y10 => (some (y10.1, v1, p_takenPlace, y10.2.1, y10.2.2, p_name))))) else none) else (some (v1, v1, p_takenPlace, 0, p_number, p_name))
set_option maxHeartbeats 4000000 in
set_option maxRecDepth 100000 in
theorem tX5_next_49 {p : Program} {l : Launch} {e : Env} {s : State} {m : MethodId} {args : Array Value} {below : List Frame} {meth : Method} {c : Code} {D : va_G} {cy : Nat → ClassId} {ad : Nat → Nat} {P : MP} {V : MV} {I : MI} {J : MJ} {A : MI} {B : MJ} {Af : Nat → Prop} {res : Int32 × Int32 × Int32 × Int32 × Int32 × Int64} (C0 : CX p s m args meth c cX5_next 2 none RX5) (hK : va_K D vwCl (tyG cy) s) (hN : NWs s) (hA : ∀ q, s.heap.size ≤ q → Af q) : SX5_next_49 p l e s m args below meth c D cy ad P V I J A B Af res (fX5_next_49 (I 0 6) (A 1) (B 2)) := by
  intro p_behind p_place p_takenPlace p_token p_number p_name v1 H locs ls hW hl hf
  unfold fX5_next_49 at hf
  refine lv_aload_n C0.1 C0.2.1 dX5_next_49 rfl (lv_at hl 0 rfl) ?_
  refine lv_iload_n C0.1 C0.2.1 dX5_next_50 rfl (lv_at hl 1 rfl) ?_
  refine s_putI C0 hK hW 0 3 LY_X5_0 rfl fg_X5_48 fp_X5_3 rfl dX5_next_51 (fun H locs hW => ?_)
  have hW : wd D (dn cy LY_X5 ad P V (gp I [(0, 2, p_behind), (0, 3, v1), (0, 4, p_takenPlace), (0, 7, p_token), (0, 8, p_number)]) (gp J [(0, 5, p_name)]) (gm A []) (gm B [])) Af s.heap H locs := hW
  refine lv_aload_n C0.1 C0.2.1 dX5_next_54 rfl (lv_at hl 0 rfl) ?_
  refine lv_iload_n C0.1 C0.2.1 dX5_next_55 rfl (lv_at hl 1 rfl) ?_
  refine s_putI C0 hK hW 0 2 LY_X5_0 rfl fg_X5_36 fp_X5_2 rfl dX5_next_56 (fun H locs hW => ?_)
  have hW : wd D (dn cy LY_X5 ad P V (gp I [(0, 2, v1), (0, 3, v1), (0, 4, p_takenPlace), (0, 7, p_token), (0, 8, p_number)]) (gp J [(0, 5, p_name)]) (gm A []) (gm B [])) Af s.heap H locs := hW
  refine lv_iload_n C0.1 C0.2.1 dX5_next_59 rfl (lv_at hl 1 rfl) ?_
  refine lv_aload_n C0.1 C0.2.1 dX5_next_60 rfl (lv_at hl 0 rfl) ?_
  refine s_get (v := .int (I 0 6)) C0 hK hW 0 6 LY_X5_0 rfl fg_X5_33 rfl dX5_next_61 ?_
  refine lv_icmp_lt (tgt := 75) C0.1 C0.2.1 dX5_next_64 (by decide) (fun hc1 => ?_) (fun hc1 => ?_)
  · have hf := ite_t hc1 hf
    refine lv_aload_n C0.1 C0.2.1 dX5_next_75 rfl (lv_at hl 0 rfl) ?_
    refine s_get (v := .ref (ad 1)) C0 hK hW 0 0 LY_X5_0 rfl fg_X5_9 rfl dX5_next_76 ?_
    refine lv_iload_n C0.1 C0.2.1 dX5_next_79 rfl (lv_at hl 1 rfl) ?_
    obtain ⟨hb2, hf⟩ := g_some hf
    refine s_bald (v := ((A 1) (Int32.toNatClampNeg v1))) C0 hK hW 1 LY_X5_1 hb2 rfl dX5_next_80 ?_
    obtain ⟨y3, hy3, hf⟩ := b_some hf
    refine c_Si C0 hK hN hl.1 hW hA (KX5_isDigit l D cy  (fun q => ad (pl_LY_X5_LY_0_.getD q 0)) (fun q => P (pl_LY_X5_LY_0_.getD q 0)) (fun q => Vx LY_X5 ad V (pl_LY_X5_LY_0_.getD q 0)) (fun q => gp I [(0, 2, v1), (0, 3, v1), (0, 4, p_takenPlace), (0, 7, p_token), (0, 8, p_number)] (pl_LY_X5_LY_0_.getD q 0)) (fun q => gp J [(0, 5, p_name)] (pl_LY_X5_LY_0_.getD q 0)) (fun q => gm A [] (pl_LY_X5_LY_0_.getD q 0)) (fun q => gm B [] (pl_LY_X5_LY_0_.getD q 0)) ((A 1) (Int32.toNatClampNeg v1)) hy3) (JN_subC (pl := pl_LY_X5_LY_0_) sb_LY_X5_LY_0_ rfl rfl rfl rfl rfl rfl rfl rfl rfl) ⟨uw_458, uw_459, uw_2, uw_460⟩ rfl rfl hd_X5_isDigit ⟨rfl, rfl⟩ rfl rfl rfl dX5_next_81 ⟨Nat.zero_le _, Nat.zero_le _⟩ (fun H locs hW => ?_)
    have hW : wd D (dn cy LY_X5 ad P V (gp I [(0, 2, v1), (0, 3, v1), (0, 4, p_takenPlace), (0, 7, p_token), (0, 8, p_number)]) (gp J [(0, 5, p_name)]) (gm A []) (gm B [])) Af s.heap H locs := hW
    refine lv_if_eq (tgt := 94) C0.1 C0.2.1 dX5_next_84 (by decide) (fun hc4 => ?_) (fun hc4 => ?_)
    · have hf := ite_t hc4 hf
      refine lv_aload_n C0.1 C0.2.1 dX5_next_94 rfl (lv_at hl 0 rfl) ?_
      refine s_get (v := .ref (ad 1)) C0 hK hW 0 0 LY_X5_0 rfl fg_X5_9 rfl dX5_next_95 ?_
      refine lv_iload_n C0.1 C0.2.1 dX5_next_98 rfl (lv_at hl 1 rfl) ?_
      obtain ⟨hb5, hf⟩ := g_some hf
      refine s_bald (v := ((A 1) (Int32.toNatClampNeg v1))) C0 hK hW 1 LY_X5_1 hb5 rfl dX5_next_99 ?_
      obtain ⟨y6, hy6, hf⟩ := b_some hf
      refine c_Si C0 hK hN hl.1 hW hA (KX5_isLetter l D cy  (fun q => ad (pl_LY_X5_LY_0_.getD q 0)) (fun q => P (pl_LY_X5_LY_0_.getD q 0)) (fun q => Vx LY_X5 ad V (pl_LY_X5_LY_0_.getD q 0)) (fun q => gp I [(0, 2, v1), (0, 3, v1), (0, 4, p_takenPlace), (0, 7, p_token), (0, 8, p_number)] (pl_LY_X5_LY_0_.getD q 0)) (fun q => gp J [(0, 5, p_name)] (pl_LY_X5_LY_0_.getD q 0)) (fun q => gm A [] (pl_LY_X5_LY_0_.getD q 0)) (fun q => gm B [] (pl_LY_X5_LY_0_.getD q 0)) ((A 1) (Int32.toNatClampNeg v1)) hy6) (JN_subC (pl := pl_LY_X5_LY_0_) sb_LY_X5_LY_0_ rfl rfl rfl rfl rfl rfl rfl rfl rfl) ⟨uw_465, uw_466, uw_2, uw_467⟩ rfl rfl hd_X5_isLetter ⟨rfl, rfl⟩ rfl rfl rfl dX5_next_100 ⟨Nat.zero_le _, Nat.zero_le _⟩ (fun H locs hW => ?_)
      have hW : wd D (dn cy LY_X5 ad P V (gp I [(0, 2, v1), (0, 3, v1), (0, 4, p_takenPlace), (0, 7, p_token), (0, 8, p_number)]) (gp J [(0, 5, p_name)]) (gm A []) (gm B [])) Af s.heap H locs := hW
      refine lv_if_eq (tgt := 113) C0.1 C0.2.1 dX5_next_103 (by decide) (fun hc7 => ?_) (fun hc7 => ?_)
      · have hf := ite_t hc7 hf
        refine lv_aload_n C0.1 C0.2.1 dX5_next_113 rfl (lv_at hl 0 rfl) ?_
        refine lv_iload_n C0.1 C0.2.1 dX5_next_114 rfl (lv_at hl 1 rfl) ?_
        refine lv_iconst (v := 1) C0.1 C0.2.1 dX5_next_115 kI_1 ?_
        refine lv_iadd C0.1 C0.2.1 dX5_next_116 ?_
        refine s_putI C0 hK hW 0 2 LY_X5_0 rfl fg_X5_36 fp_X5_2 rfl dX5_next_117 (fun H locs hW => ?_)
        have hW : wd D (dn cy LY_X5 ad P V (gp I [(0, 2, (v1 + 1)), (0, 3, v1), (0, 4, p_takenPlace), (0, 7, p_token), (0, 8, p_number)]) (gp J [(0, 5, p_name)]) (gm A []) (gm B [])) Af s.heap H locs := hW
        refine lv_aload_n C0.1 C0.2.1 dX5_next_120 rfl (lv_at hl 0 rfl) ?_
        refine lv_aload_n C0.1 C0.2.1 dX5_next_121 rfl (lv_at hl 0 rfl) ?_
        refine s_get (v := .ref (ad 1)) C0 hK hW 0 0 LY_X5_0 rfl fg_X5_9 rfl dX5_next_122 ?_
        refine lv_iload_n C0.1 C0.2.1 dX5_next_125 rfl (lv_at hl 1 rfl) ?_
        obtain ⟨hb8, hf⟩ := g_some hf
        refine s_bald (v := ((A 1) (Int32.toNatClampNeg v1))) C0 hK hW 1 LY_X5_1 hb8 rfl dX5_next_126 ?_
        refine s_putI C0 hK hW 0 7 LY_X5_0 rfl fg_X5_45 fp_X5_7 rfl dX5_next_127 (fun H locs hW => ?_)
        have hW : wd D (dn cy LY_X5 ad P V (gp I [(0, 2, (v1 + 1)), (0, 3, v1), (0, 4, p_takenPlace), (0, 7, ((A 1) (Int32.toNatClampNeg v1))), (0, 8, p_number)]) (gp J [(0, 5, p_name)]) (gm A []) (gm B [])) Af s.heap H locs := hW
        obtain rfl := Option.some.inj hf
        exact r_void C0 hK hW dX5_next_130
      · have hf := ite_f hc7 hf
        refine lv_aload_n C0.1 C0.2.1 dX5_next_106 rfl (lv_at hl 0 rfl) ?_
        obtain ⟨y9, hy9, hf⟩ := b_some hf
        refine c_Vv C0 hK hN hl.1 hW hA (KX5_takeWord l D cy  ad P V (gp I [(0, 2, v1), (0, 3, v1), (0, 4, p_takenPlace), (0, 7, p_token), (0, 8, p_number)]) (gp J [(0, 5, p_name)]) (gm A []) (gm B [])  hy9) (JN_id rfl rfl rfl rfl) (Uw_V uw_468 uw_470 us_4 uw_2 uw_471) rfl rfl hd_X5_takeWord ⟨rfl, rfl⟩ rfl (dn_some LY_X5_0) rfl rfl rfl dX5_next_107 ⟨Nat.zero_le _, Nat.zero_le _⟩ (fun H locs hW => ?_)
        have hW : wd D (dn cy LY_X5 ad P V (gp I [(0, 2, y9.1), (0, 3, v1), (0, 4, p_takenPlace), (0, 7, y9.2.1), (0, 8, p_number)]) (gp J [(0, 5, y9.2.2)]) (gm A []) (gm B [])) Af s.heap H locs := hW
        refine lv_goto (tgt := 130) C0.1 C0.2.1 dX5_next_110 (by decide) ?_
        obtain rfl := Option.some.inj hf
        exact r_void C0 hK hW dX5_next_130
    · have hf := ite_f hc4 hf
      refine lv_aload_n C0.1 C0.2.1 dX5_next_87 rfl (lv_at hl 0 rfl) ?_
      obtain ⟨y10, hy10, hf⟩ := b_some hf
      refine c_Vv C0 hK hN hl.1 hW hA (KX5_takeNumber l D cy  ad P V (gp I [(0, 2, v1), (0, 3, v1), (0, 4, p_takenPlace), (0, 7, p_token), (0, 8, p_number)]) (gp J [(0, 5, p_name)]) (gm A []) (gm B [])  hy10) (JN_id rfl rfl rfl rfl) (Uw_V uw_461 uw_463 us_3 uw_2 uw_464) rfl rfl hd_X5_takeNumber ⟨rfl, rfl⟩ rfl (dn_some LY_X5_0) rfl rfl rfl dX5_next_88 ⟨Nat.zero_le _, Nat.zero_le _⟩ (fun H locs hW => ?_)
      have hW : wd D (dn cy LY_X5 ad P V (gp I [(0, 2, y10.1), (0, 3, v1), (0, 4, p_takenPlace), (0, 7, y10.2.1), (0, 8, y10.2.2)]) (gp J [(0, 5, p_name)]) (gm A []) (gm B [])) Af s.heap H locs := hW
      refine lv_goto (tgt := 130) C0.1 C0.2.1 dX5_next_91 (by decide) ?_
      obtain rfl := Option.some.inj hf
      exact r_void C0 hK hW dX5_next_130
  · have hf := ite_f hc1 hf
    refine lv_aload_n C0.1 C0.2.1 dX5_next_67 rfl (lv_at hl 0 rfl) ?_
    refine lv_iconst (v := 0) C0.1 C0.2.1 dX5_next_68 kI_0 ?_
    refine s_putI C0 hK hW 0 7 LY_X5_0 rfl fg_X5_45 fp_X5_7 rfl dX5_next_69 (fun H locs hW => ?_)
    have hW : wd D (dn cy LY_X5 ad P V (gp I [(0, 2, v1), (0, 3, v1), (0, 4, p_takenPlace), (0, 7, 0), (0, 8, p_number)]) (gp J [(0, 5, p_name)]) (gm A []) (gm B [])) Af s.heap H locs := hW
    refine lv_goto (tgt := 130) C0.1 C0.2.1 dX5_next_72 (by decide) ?_
    obtain rfl := Option.some.inj hf
    exact r_void C0 hK hW dX5_next_130
def fX5_next_13 (p_length : Int32) (p_signs : (Nat → Int32)) (p_words : (Nat → Int64)) (k13 : Int32 → Int32 → Int32 → Int32 → Int32 → Int64 → Int32 → Option (Int32 × Int32 × Int32 × Int32 × Int32 × Int64)) (p_behind : Int32) (p_place : Int32) (p_takenPlace : Int32) (p_token : Int32) (p_number : Int32) (p_name : Int64) (v1 : Int32) : Option (Int32 × Int32 × Int32 × Int32 × Int32 × Int64) := if p_length ≤ v1 then (fX5_next_49 p_length p_signs p_words p_behind p_place p_takenPlace p_token p_number p_name v1) else (bif inb v1 1000 then (if (p_signs (Int32.toNatClampNeg v1)) = 10 then (k13 p_behind p_place p_takenPlace p_token p_number p_name (v1 + 1)) else (bif inb v1 1000 then (if (p_signs (Int32.toNatClampNeg v1)) = 32 then (k13 p_behind p_place p_takenPlace p_token p_number p_name (v1 + 1)) else (fX5_next_49 p_length p_signs p_words p_behind p_place p_takenPlace p_token p_number p_name v1)) else none)) else none)
set_option maxHeartbeats 4000000 in
set_option maxRecDepth 100000 in
theorem tX5_next_13 {p : Program} {l : Launch} {e : Env} {s : State} {m : MethodId} {args : Array Value} {below : List Frame} {meth : Method} {c : Code} {D : va_G} {cy : Nat → ClassId} {ad : Nat → Nat} {P : MP} {V : MV} {I : MI} {J : MJ} {A : MI} {B : MJ} {Af : Nat → Prop} {res : Int32 × Int32 × Int32 × Int32 × Int32 × Int64} (C0 : CX p s m args meth c cX5_next 2 none RX5) (hK : va_K D vwCl (tyG cy) s) (hN : NWs s) (hA : ∀ q, s.heap.size ≤ q → Af q) {k13 : Int32 → Int32 → Int32 → Int32 → Int32 → Int64 → Int32 → Option (Int32 × Int32 × Int32 × Int32 × Int32 × Int64)} (hk13 : SX5_next_13 p l e s m args below meth c D cy ad P V I J A B Af res k13) : SX5_next_13 p l e s m args below meth c D cy ad P V I J A B Af res (fX5_next_13 (I 0 6) (A 1) (B 2) k13) := by
  intro p_behind p_place p_takenPlace p_token p_number p_name v1 H locs ls hW hl hf
  unfold fX5_next_13 at hf
  refine lv_iload_n C0.1 C0.2.1 dX5_next_13 rfl (lv_at hl 1 rfl) ?_
  refine lv_aload_n C0.1 C0.2.1 dX5_next_14 rfl (lv_at hl 0 rfl) ?_
  refine s_get (v := .int (I 0 6)) C0 hK hW 0 6 LY_X5_0 rfl fg_X5_33 rfl dX5_next_15 ?_
  refine lv_icmp_ge (tgt := 49) C0.1 C0.2.1 dX5_next_18 (by decide) (fun hc1 => ?_) (fun hc1 => ?_)
  · have hf := ite_t hc1 hf
    exact tX5_next_49 C0 hK hN hA  p_behind p_place p_takenPlace p_token p_number p_name v1 H locs ls hW hl hf
  · have hf := ite_f hc1 hf
    refine lv_aload_n C0.1 C0.2.1 dX5_next_21 rfl (lv_at hl 0 rfl) ?_
    refine s_get (v := .ref (ad 1)) C0 hK hW 0 0 LY_X5_0 rfl fg_X5_9 rfl dX5_next_22 ?_
    refine lv_iload_n C0.1 C0.2.1 dX5_next_25 rfl (lv_at hl 1 rfl) ?_
    obtain ⟨hb2, hf⟩ := g_some hf
    refine s_bald (v := ((A 1) (Int32.toNatClampNeg v1))) C0 hK hW 1 LY_X5_1 hb2 rfl dX5_next_26 ?_
    refine lv_bipush (v := 10) C0.1 C0.2.1 dX5_next_27 kB_10 ?_
    refine lv_icmp_eq (tgt := 43) C0.1 C0.2.1 dX5_next_29 (by decide) (fun hc3 => ?_) (fun hc3 => ?_)
    · have hf := ite_t hc3 hf
      refine lv_iinc (v := (v1 + 1)) (lv' := [(1, .int (v1 + 1)), (0, .ref (ad 0))]) C0.1 C0.2.1 dX5_next_43 hl (k := 1) rfl (congrArg (fun z => _ + z) kI_1) (by decide) rfl (fun ls hl => ?_)
      refine lv_goto (tgt := 13) C0.1 C0.2.1 dX5_next_46 (by decide) ?_
      exact hk13 p_behind p_place p_takenPlace p_token p_number p_name (v1 + 1) H locs ls hW (lv_sub hl [1, 0] rfl) hf
    · have hf := ite_f hc3 hf
      refine lv_aload_n C0.1 C0.2.1 dX5_next_32 rfl (lv_at hl 0 rfl) ?_
      refine s_get (v := .ref (ad 1)) C0 hK hW 0 0 LY_X5_0 rfl fg_X5_9 rfl dX5_next_33 ?_
      refine lv_iload_n C0.1 C0.2.1 dX5_next_36 rfl (lv_at hl 1 rfl) ?_
      obtain ⟨hb4, hf⟩ := g_some hf
      refine s_bald (v := ((A 1) (Int32.toNatClampNeg v1))) C0 hK hW 1 LY_X5_1 hb4 rfl dX5_next_37 ?_
      refine lv_bipush (v := 32) C0.1 C0.2.1 dX5_next_38 kB_32 ?_
      refine lv_icmp_ne (tgt := 49) C0.1 C0.2.1 dX5_next_40 (by decide) (fun hc5 => ?_) (fun hc5 => ?_)
      · have hf := ite_f hc5 hf
        exact tX5_next_49 C0 hK hN hA  p_behind p_place p_takenPlace p_token p_number p_name v1 H locs ls hW hl hf
      · have hf := ite_t hc5 hf
        refine lv_iinc (v := (v1 + 1)) (lv' := [(1, .int (v1 + 1)), (0, .ref (ad 0))]) C0.1 C0.2.1 dX5_next_43 hl (k := 1) rfl (congrArg (fun z => _ + z) kI_1) (by decide) rfl (fun ls hl => ?_)
        refine lv_goto (tgt := 13) C0.1 C0.2.1 dX5_next_46 (by decide) ?_
        exact hk13 p_behind p_place p_takenPlace p_token p_number p_name (v1 + 1) H locs ls hW (lv_sub hl [1, 0] rfl) hf
theorem TX5_next_13 {p : Program} {l : Launch} {e : Env} {s : State} {m : MethodId} {args : Array Value} {below : List Frame} {meth : Method} {c : Code} {D : va_G} {cy : Nat → ClassId} {ad : Nat → Nat} {P : MP} {V : MV} {I : MI} {J : MJ} {A : MI} {B : MJ} {Af : Nat → Prop} {res : Int32 × Int32 × Int32 × Int32 × Int32 × Int64} (C0 : CX p s m args meth c cX5_next 2 none RX5) (hK : va_K D vwCl (tyG cy) s) (hN : NWs s) (hA : ∀ q, s.heap.size ≤ q → Af q) : ∀ n, SX5_next_13 p l e s m args below meth c D cy ad P V I J A B Af res (itr (fun kk => fX5_next_13 (I 0 6) (A 1) (B 2) kk) (fun _ _ _ _ _ _ _ => none) n) := by
  intro n
  induction n with
  | zero => intro p_behind p_place p_takenPlace p_token p_number p_name v1 H locs ls hW hl hf; exact (nomatch (show (none : Option (Int32 × Int32 × Int32 × Int32 × Int32 × Int64)) = some res from hf))
  | succ n ih => exact tX5_next_13 C0 hK hN hA  ih
def fX5_next (p_length : Int32) (p_signs : (Nat → Int32)) (p_words : (Nat → Int64)) (p_behind : Int32) (p_place : Int32) (p_takenPlace : Int32) (p_token : Int32) (p_number : Int32) (p_name : Int64) : Option (Int32 × Int32 × Int32 × Int32 × Int32 × Int64) := itr (fun kk => fX5_next_13 p_length p_signs p_words kk) (fun _ _ _ _ _ _ _ => none) FU p_behind p_place p_place p_token p_number p_name p_behind
set_option maxHeartbeats 4000000 in
set_option maxRecDepth 100000 in
theorem KX5_next (l : Launch) (D : va_G) (cy : Nat → ClassId) (ad : Nat → Nat) (P : MP) (V : MV) (I : MI) (J : MJ) (A : MI) (B : MJ) {res : Int32 × Int32 × Int32 × Int32 × Int32 × Int64} (hf : fX5_next (I 0 6) (A 1) (B 2) (I 0 2) (I 0 3) (I 0 4) (I 0 7) (I 0 8) (J 0 5) = some res) : CG l yX5_next cX5_next 2 none rmX5_next D cy (dn cy LY_X5 ad P V I J A B) [.ref (ad 0)] none (dn cy LY_X5 ad P V (gp I [(0, 2, res.1), (0, 3, res.2.1), (0, 4, res.2.2.1), (0, 7, res.2.2.2.1), (0, 8, res.2.2.2.2.1)]) (gp J [(0, 5, res.2.2.2.2.2)]) (gm A []) (gm B [])) := by
  refine CG.of (own := RX5) (by decide) rfl rfl ?_
  intro p e s m below meth c ls Af C0 hK hN hA hW hl
  have hW : wd D (dn cy LY_X5 ad P V (gp I [(0, 2, (I 0 2)), (0, 3, (I 0 3)), (0, 4, (I 0 4)), (0, 7, (I 0 7)), (0, 8, (I 0 8))]) (gp J [(0, 5, (J 0 5))]) (gm A []) (gm B [])) Af s.heap s.heap [] := wd_sel [(0, 2), (0, 3), (0, 4), (0, 7), (0, 8)] [(0, 5)] [] [] hW
  have hl : lv_has ls 2 [(0, .ref (ad 0))] := hl
  unfold fX5_next at hf
  refine lv_aload_n C0.1 C0.2.1 dX5_next_0 rfl (lv_at hl 0 rfl) ?_
  refine lv_aload_n C0.1 C0.2.1 dX5_next_1 rfl (lv_at hl 0 rfl) ?_
  refine s_get (v := .int (I 0 3)) C0 hK hW 0 3 LY_X5_0 rfl fg_X5_48 rfl dX5_next_2 ?_
  refine s_putI C0 hK hW 0 4 LY_X5_0 rfl fg_X5_51 fp_X5_4 rfl dX5_next_5 (fun H locs hW => ?_)
  have hW : wd D (dn cy LY_X5 ad P V (gp I [(0, 2, (I 0 2)), (0, 3, (I 0 3)), (0, 4, (I 0 3)), (0, 7, (I 0 7)), (0, 8, (I 0 8))]) (gp J [(0, 5, (J 0 5))]) (gm A []) (gm B [])) Af s.heap H locs := hW
  refine lv_aload_n C0.1 C0.2.1 dX5_next_8 rfl (lv_at hl 0 rfl) ?_
  refine s_get (v := .int (I 0 2)) C0 hK hW 0 2 LY_X5_0 rfl fg_X5_36 rfl dX5_next_9 ?_
  refine lv_istore_n (lv' := [(1, .int (I 0 2)), (0, .ref (ad 0))]) C0.1 C0.2.1 dX5_next_12 rfl hl (by decide) rfl (fun ls hl => ?_)
  exact TX5_next_13 C0 hK hN hA  FU (I 0 2) (I 0 3) (I 0 3) (I 0 7) (I 0 8) (J 0 5) (I 0 2) _ _ ls hW (lv_sub hl [1, 0] rfl) hf
-- X1_readPart
def rmX1_readPart : Room := { frames := 4, cells := 0, slots := 0, locals := 83 }
def SX1_readPart_109 (p : Program) (l : Launch) (e : Env) (s : State) (m : MethodId) (args : Array Value) (below : List Frame) (meth : Method) (c : Code) (D : va_G) (cy : Nat → ClassId) (ad : Nat → Nat) (P : MP) (V : MV) (I : MI) (J : MJ) (A : MI) (B : MJ) (Af : Nat → Prop) (res : Int32 × Int32 × Int32 × Int32 × Int32 × Int32 × Int32 × Int32 × Int32 × Int32 × Int64 × (Nat → Int32) × (Nat → Int32)) (k : Int32 → Int32 → Int32 → Int32 → Int32 → Int32 → Int32 → Int32 → Int32 → Int64 → (Nat → Int32) → (Nat → Int32) → Int32 → Option (Int32 × Int32 × Int32 × Int32 × Int32 × Int32 × Int32 × Int32 × Int32 × Int32 × Int64 × (Nat → Int32) × (Nat → Int32))) : Prop := ∀ (w_waiting : Int32) (w_nested : Int32) (w_length : Int32) (p_behind : Int32) (p_place : Int32) (p_takenPlace : Int32) (p_token : Int32) (p_number : Int32) (p_fault : Int32) (p_name : Int64) (w_code : (Nat → Int32)) (w_stack : (Nat → Int32)) (v3 : Int32) (H : Heap) (locs : List Loc) (ls : Array Slot), wd D (dn cy LY_X1X5 ad P V (gp I [(0, 2, w_waiting), (0, 3, w_nested), (0, 4, w_length), (3, 2, p_behind), (3, 3, p_place), (3, 4, p_takenPlace), (3, 7, p_token), (3, 8, p_number), (3, 9, p_fault)]) (gp J [(3, 5, p_name)]) (gm A [(1, w_code), (2, w_stack)]) (gm B [])) Af s.heap H locs → lv_has ls 4 [(1, .ref (ad 3)), (3, .int v3)] → k w_waiting w_nested w_length p_behind p_place p_takenPlace p_token p_number p_fault p_name w_code w_stack v3 = some res → W p l e rmX1_readPart s m args below meth c H locs 0 0 (ZQ below D cy (dn cy LY_X1X5 ad P V (gp I [(0, 2, res.2.1), (0, 3, res.2.2.1), (0, 4, res.2.2.2.1), (3, 2, res.2.2.2.2.1), (3, 3, res.2.2.2.2.2.1), (3, 4, res.2.2.2.2.2.2.1), (3, 7, res.2.2.2.2.2.2.2.1), (3, 8, res.2.2.2.2.2.2.2.2.1), (3, 9, res.2.2.2.2.2.2.2.2.2.1)]) (gp J [(3, 5, res.2.2.2.2.2.2.2.2.2.2.1)]) (gm A [(1, res.2.2.2.2.2.2.2.2.2.2.2.1), (2, res.2.2.2.2.2.2.2.2.2.2.2.2)]) (gm B [])) (some (.int res.1)) Af args s) (F0 m 109 ls [])
def SX1_readPart_84 (p : Program) (l : Launch) (e : Env) (s : State) (m : MethodId) (args : Array Value) (below : List Frame) (meth : Method) (c : Code) (D : va_G) (cy : Nat → ClassId) (ad : Nat → Nat) (P : MP) (V : MV) (I : MI) (J : MJ) (A : MI) (B : MJ) (Af : Nat → Prop) (res : Int32 × Int32 × Int32 × Int32 × Int32 × Int32 × Int32 × Int32 × Int32 × Int32 × Int64 × (Nat → Int32) × (Nat → Int32)) (k : Int32 → Int32 → Int32 → Int32 → Int32 → Int32 → Int32 → Int32 → Int32 → Int64 → (Nat → Int32) → (Nat → Int32) → Int32 → Int32 → Option (Int32 × Int32 × Int32 × Int32 × Int32 × Int32 × Int32 × Int32 × Int32 × Int32 × Int64 × (Nat → Int32) × (Nat → Int32))) : Prop := ∀ (w_waiting : Int32) (w_nested : Int32) (w_length : Int32) (p_behind : Int32) (p_place : Int32) (p_takenPlace : Int32) (p_token : Int32) (p_number : Int32) (p_fault : Int32) (p_name : Int64) (w_code : (Nat → Int32)) (w_stack : (Nat → Int32)) (v3 : Int32) (x0 : Int32) (H : Heap) (locs : List Loc) (ls : Array Slot), wd D (dn cy LY_X1X5 ad P V (gp I [(0, 2, w_waiting), (0, 3, w_nested), (0, 4, w_length), (3, 2, p_behind), (3, 3, p_place), (3, 4, p_takenPlace), (3, 7, p_token), (3, 8, p_number), (3, 9, p_fault)]) (gp J [(3, 5, p_name)]) (gm A [(1, w_code), (2, w_stack)]) (gm B [])) Af s.heap H locs → lv_has ls 4 [(0, .ref (ad 0)), (1, .ref (ad 3)), (3, .int v3)] → k w_waiting w_nested w_length p_behind p_place p_takenPlace p_token p_number p_fault p_name w_code w_stack v3 x0 = some res → W p l e rmX1_readPart s m args below meth c H locs 0 0 (ZQ below D cy (dn cy LY_X1X5 ad P V (gp I [(0, 2, res.2.1), (0, 3, res.2.2.1), (0, 4, res.2.2.2.1), (3, 2, res.2.2.2.2.1), (3, 3, res.2.2.2.2.2.1), (3, 4, res.2.2.2.2.2.2.1), (3, 7, res.2.2.2.2.2.2.2.1), (3, 8, res.2.2.2.2.2.2.2.2.1), (3, 9, res.2.2.2.2.2.2.2.2.2.1)]) (gp J [(3, 5, res.2.2.2.2.2.2.2.2.2.2.1)]) (gm A [(1, res.2.2.2.2.2.2.2.2.2.2.2.1), (2, res.2.2.2.2.2.2.2.2.2.2.2.2)]) (gm B [])) (some (.int res.1)) Af args s) (F0 m 84 ls [.int x0, .ref (ad 0)])
def SX1_readPart_47 (p : Program) (l : Launch) (e : Env) (s : State) (m : MethodId) (args : Array Value) (below : List Frame) (meth : Method) (c : Code) (D : va_G) (cy : Nat → ClassId) (ad : Nat → Nat) (P : MP) (V : MV) (I : MI) (J : MJ) (A : MI) (B : MJ) (Af : Nat → Prop) (res : Int32 × Int32 × Int32 × Int32 × Int32 × Int32 × Int32 × Int32 × Int32 × Int32 × Int64 × (Nat → Int32) × (Nat → Int32)) (k : Int32 → Int32 → Int32 → Int32 → Int32 → Int32 → Int32 → Int32 → Int32 → Int64 → (Nat → Int32) → (Nat → Int32) → Int32 → Int32 → Option (Int32 × Int32 × Int32 × Int32 × Int32 × Int32 × Int32 × Int32 × Int32 × Int32 × Int64 × (Nat → Int32) × (Nat → Int32))) : Prop := ∀ (w_waiting : Int32) (w_nested : Int32) (w_length : Int32) (p_behind : Int32) (p_place : Int32) (p_takenPlace : Int32) (p_token : Int32) (p_number : Int32) (p_fault : Int32) (p_name : Int64) (w_code : (Nat → Int32)) (w_stack : (Nat → Int32)) (v2 : Int32) (v3 : Int32) (H : Heap) (locs : List Loc) (ls : Array Slot), wd D (dn cy LY_X1X5 ad P V (gp I [(0, 2, w_waiting), (0, 3, w_nested), (0, 4, w_length), (3, 2, p_behind), (3, 3, p_place), (3, 4, p_takenPlace), (3, 7, p_token), (3, 8, p_number), (3, 9, p_fault)]) (gp J [(3, 5, p_name)]) (gm A [(1, w_code), (2, w_stack)]) (gm B [])) Af s.heap H locs → lv_has ls 4 [(0, .ref (ad 0)), (1, .ref (ad 3)), (2, .int v2), (3, .int v3)] → k w_waiting w_nested w_length p_behind p_place p_takenPlace p_token p_number p_fault p_name w_code w_stack v2 v3 = some res → W p l e rmX1_readPart s m args below meth c H locs 0 0 (ZQ below D cy (dn cy LY_X1X5 ad P V (gp I [(0, 2, res.2.1), (0, 3, res.2.2.1), (0, 4, res.2.2.2.1), (3, 2, res.2.2.2.2.1), (3, 3, res.2.2.2.2.2.1), (3, 4, res.2.2.2.2.2.2.1), (3, 7, res.2.2.2.2.2.2.2.1), (3, 8, res.2.2.2.2.2.2.2.2.1), (3, 9, res.2.2.2.2.2.2.2.2.2.1)]) (gp J [(3, 5, res.2.2.2.2.2.2.2.2.2.2.1)]) (gm A [(1, res.2.2.2.2.2.2.2.2.2.2.2.1), (2, res.2.2.2.2.2.2.2.2.2.2.2.2)]) (gm B [])) (some (.int res.1)) Af args s) (F0 m 47 ls [])
def SX1_readPart_22 (p : Program) (l : Launch) (e : Env) (s : State) (m : MethodId) (args : Array Value) (below : List Frame) (meth : Method) (c : Code) (D : va_G) (cy : Nat → ClassId) (ad : Nat → Nat) (P : MP) (V : MV) (I : MI) (J : MJ) (A : MI) (B : MJ) (Af : Nat → Prop) (res : Int32 × Int32 × Int32 × Int32 × Int32 × Int32 × Int32 × Int32 × Int32 × Int32 × Int64 × (Nat → Int32) × (Nat → Int32)) (k : Int32 → Int32 → Int32 → Int32 → Int32 → Int32 → Int32 → Int32 → Int32 → Int64 → (Nat → Int32) → (Nat → Int32) → Int32 → Int32 → Option (Int32 × Int32 × Int32 × Int32 × Int32 × Int32 × Int32 × Int32 × Int32 × Int32 × Int64 × (Nat → Int32) × (Nat → Int32))) : Prop := ∀ (w_waiting : Int32) (w_nested : Int32) (w_length : Int32) (p_behind : Int32) (p_place : Int32) (p_takenPlace : Int32) (p_token : Int32) (p_number : Int32) (p_fault : Int32) (p_name : Int64) (w_code : (Nat → Int32)) (w_stack : (Nat → Int32)) (v2 : Int32) (x0 : Int32) (H : Heap) (locs : List Loc) (ls : Array Slot), wd D (dn cy LY_X1X5 ad P V (gp I [(0, 2, w_waiting), (0, 3, w_nested), (0, 4, w_length), (3, 2, p_behind), (3, 3, p_place), (3, 4, p_takenPlace), (3, 7, p_token), (3, 8, p_number), (3, 9, p_fault)]) (gp J [(3, 5, p_name)]) (gm A [(1, w_code), (2, w_stack)]) (gm B [])) Af s.heap H locs → lv_has ls 4 [(0, .ref (ad 0)), (1, .ref (ad 3)), (2, .int v2)] → k w_waiting w_nested w_length p_behind p_place p_takenPlace p_token p_number p_fault p_name w_code w_stack v2 x0 = some res → W p l e rmX1_readPart s m args below meth c H locs 0 0 (ZQ below D cy (dn cy LY_X1X5 ad P V (gp I [(0, 2, res.2.1), (0, 3, res.2.2.1), (0, 4, res.2.2.2.1), (3, 2, res.2.2.2.2.1), (3, 3, res.2.2.2.2.2.1), (3, 4, res.2.2.2.2.2.2.1), (3, 7, res.2.2.2.2.2.2.2.1), (3, 8, res.2.2.2.2.2.2.2.2.1), (3, 9, res.2.2.2.2.2.2.2.2.2.1)]) (gp J [(3, 5, res.2.2.2.2.2.2.2.2.2.2.1)]) (gm A [(1, res.2.2.2.2.2.2.2.2.2.2.2.1), (2, res.2.2.2.2.2.2.2.2.2.2.2.2)]) (gm B [])) (some (.int res.1)) Af args s) (F0 m 22 ls [.int x0])
def fX1_readPart_109 (p_length : Int32) (p_signs : (Nat → Int32)) (p_words : (Nat → Int64)) (w_waiting : Int32) (w_nested : Int32) (w_length : Int32) (p_behind : Int32) (p_place : Int32) (p_takenPlace : Int32) (p_token : Int32) (p_number : Int32) (p_fault : Int32) (p_name : Int64) (w_code : (Nat → Int32)) (w_stack : (Nat → Int32)) (v3 : Int32) : Option (Int32 × Int32 × Int32 × Int32 × Int32 × Int32 × Int32 × Int32 × Int32 × Int32 × Int64 × (Nat → Int32) × (Nat → Int32)) := Option.bind (fX5_next p_length p_signs p_words p_behind p_place p_takenPlace p_token p_number p_name) fun y1 => (some ((vp_nar .boolean v3), w_waiting, w_nested, w_length, y1.1, y1.2.1, y1.2.2.1, y1.2.2.2.1, y1.2.2.2.2.1, p_fault, y1.2.2.2.2.2, w_code, w_stack))
set_option maxHeartbeats 4000000 in
set_option maxRecDepth 100000 in
theorem tX1_readPart_109 {p : Program} {l : Launch} {e : Env} {s : State} {m : MethodId} {args : Array Value} {below : List Frame} {meth : Method} {c : Code} {D : va_G} {cy : Nat → ClassId} {ad : Nat → Nat} {P : MP} {V : MV} {I : MI} {J : MJ} {A : MI} {B : MJ} {Af : Nat → Prop} {res : Int32 × Int32 × Int32 × Int32 × Int32 × Int32 × Int32 × Int32 × Int32 × Int32 × Int64 × (Nat → Int32) × (Nat → Int32)} (C0 : CX p s m args meth c cX1_readPart 4 (some .boolean) RX1) (hK : va_K D vwCl (tyG cy) s) (hN : NWs s) (hA : ∀ q, s.heap.size ≤ q → Af q) : SX1_readPart_109 p l e s m args below meth c D cy ad P V I J A B Af res (fX1_readPart_109 (I 3 6) (A 4) (B 5)) := by
  intro w_waiting w_nested w_length p_behind p_place p_takenPlace p_token p_number p_fault p_name w_code w_stack v3 H locs ls hW hl hf
  unfold fX1_readPart_109 at hf
  refine lv_aload_n C0.1 C0.2.1 dX1_readPart_109 rfl (lv_at hl 0 rfl) ?_
  obtain ⟨y1, hy1, hf⟩ := b_some hf
  refine c_Vv C0 hK hN hl.1 hW hA (KX5_next l D cy  (fun q => ad (pl_LY_X1X5_LY_X5_3_4_5.getD q 0)) (fun q => P (pl_LY_X1X5_LY_X5_3_4_5.getD q 0)) (fun q => Vx LY_X1X5 ad V (pl_LY_X1X5_LY_X5_3_4_5.getD q 0)) (fun q => gp I [(0, 2, w_waiting), (0, 3, w_nested), (0, 4, w_length), (3, 2, p_behind), (3, 3, p_place), (3, 4, p_takenPlace), (3, 7, p_token), (3, 8, p_number), (3, 9, p_fault)] (pl_LY_X1X5_LY_X5_3_4_5.getD q 0)) (fun q => gp J [(3, 5, p_name)] (pl_LY_X1X5_LY_X5_3_4_5.getD q 0)) (fun q => gm A [(1, w_code), (2, w_stack)] (pl_LY_X1X5_LY_X5_3_4_5.getD q 0)) (fun q => gm B [] (pl_LY_X1X5_LY_X5_3_4_5.getD q 0))  hy1) (JN_subC (pl := pl_LY_X1X5_LY_X5_3_4_5) sb_LY_X1X5_LY_X5_3_4_5 rfl rfl rfl rfl rfl rfl rfl rfl rfl) (Uw_V uw_576 uw_455 uw_456 uw_2 uw_457) rfl rfl hd_X5_next ⟨rfl, rfl⟩ rfl (dn_some LY_X1X5_3) rfl rfl rfl dX1_readPart_110 ⟨Nat.zero_le _, Nat.zero_le _⟩ (fun H locs hW => ?_)
  have hW : wd D (dn cy LY_X1X5 ad P V (gp I [(0, 2, w_waiting), (0, 3, w_nested), (0, 4, w_length), (3, 2, y1.1), (3, 3, y1.2.1), (3, 4, y1.2.2.1), (3, 7, y1.2.2.2.1), (3, 8, y1.2.2.2.2.1), (3, 9, p_fault)]) (gp J [(3, 5, y1.2.2.2.2.2)]) (gm A [(1, w_code), (2, w_stack)]) (gm B [])) Af s.heap H locs := hW
  refine lv_iload_n C0.1 C0.2.1 dX1_readPart_113 rfl (lv_at hl 1 rfl) ?_
  obtain rfl := Option.some.inj hf
  exact r_bool C0 hK hW (v' := (vp_nar .boolean v3)) rfl dX1_readPart_114
def fX1_readPart_84 (p_length : Int32) (p_signs : (Nat → Int32)) (p_words : (Nat → Int64)) (w_waiting : Int32) (w_nested : Int32) (w_length : Int32) (p_behind : Int32) (p_place : Int32) (p_takenPlace : Int32) (p_token : Int32) (p_number : Int32) (p_fault : Int32) (p_name : Int64) (w_code : (Nat → Int32)) (w_stack : (Nat → Int32)) (v3 : Int32) (x0 : Int32) : Option (Int32 × Int32 × Int32 × Int32 × Int32 × Int32 × Int32 × Int32 × Int32 × Int32 × Int64 × (Nat → Int32) × (Nat → Int32)) := Option.bind (fX1_emit w_length w_code x0) fun y1 => (Option.bind (fX1_closeNots w_stack w_waiting w_nested y1.1 y1.2) fun y2 => (fX1_readPart_109 p_length p_signs p_words y2.1 y2.2.1 y2.2.2.1 p_behind p_place p_takenPlace p_token p_number p_fault p_name y2.2.2.2 w_stack v3))
set_option maxHeartbeats 4000000 in
set_option maxRecDepth 100000 in
theorem tX1_readPart_84 {p : Program} {l : Launch} {e : Env} {s : State} {m : MethodId} {args : Array Value} {below : List Frame} {meth : Method} {c : Code} {D : va_G} {cy : Nat → ClassId} {ad : Nat → Nat} {P : MP} {V : MV} {I : MI} {J : MJ} {A : MI} {B : MJ} {Af : Nat → Prop} {res : Int32 × Int32 × Int32 × Int32 × Int32 × Int32 × Int32 × Int32 × Int32 × Int32 × Int64 × (Nat → Int32) × (Nat → Int32)} (C0 : CX p s m args meth c cX1_readPart 4 (some .boolean) RX1) (hK : va_K D vwCl (tyG cy) s) (hN : NWs s) (hA : ∀ q, s.heap.size ≤ q → Af q) : SX1_readPart_84 p l e s m args below meth c D cy ad P V I J A B Af res (fX1_readPart_84 (I 3 6) (A 4) (B 5)) := by
  intro w_waiting w_nested w_length p_behind p_place p_takenPlace p_token p_number p_fault p_name w_code w_stack v3 x0 H locs ls hW hl hf
  unfold fX1_readPart_84 at hf
  obtain ⟨y1, hy1, hf⟩ := b_some hf
  refine c_Vv C0 hK hN hl.1 hW hA (KX1_emit l D cy  (fun q => ad (pl_LY_X1X5_LY_X1_0_1_2.getD q 0)) (fun q => P (pl_LY_X1X5_LY_X1_0_1_2.getD q 0)) (fun q => Vx LY_X1X5 ad V (pl_LY_X1X5_LY_X1_0_1_2.getD q 0)) (fun q => gp I [(0, 2, w_waiting), (0, 3, w_nested), (0, 4, w_length), (3, 2, p_behind), (3, 3, p_place), (3, 4, p_takenPlace), (3, 7, p_token), (3, 8, p_number), (3, 9, p_fault)] (pl_LY_X1X5_LY_X1_0_1_2.getD q 0)) (fun q => gp J [(3, 5, p_name)] (pl_LY_X1X5_LY_X1_0_1_2.getD q 0)) (fun q => gm A [(1, w_code), (2, w_stack)] (pl_LY_X1X5_LY_X1_0_1_2.getD q 0)) (fun q => gm B [] (pl_LY_X1X5_LY_X1_0_1_2.getD q 0)) x0 hy1) (JN_subC (pl := pl_LY_X1X5_LY_X1_0_1_2) sb_LY_X1X5_LY_X1_0_1_2 rfl rfl rfl rfl rfl rfl rfl rfl rfl) (Uw_V uw_564 uw_566 us_15 uw_11 uw_567) rfl rfl hd_X1_emit ⟨rfl, rfl⟩ rfl (dn_some LY_X1X5_0) rfl rfl rfl dX1_readPart_84 ⟨Nat.zero_le _, Nat.zero_le _⟩ (fun H locs hW => ?_)
  have hW : wd D (dn cy LY_X1X5 ad P V (gp I [(0, 2, w_waiting), (0, 3, w_nested), (0, 4, y1.1), (3, 2, p_behind), (3, 3, p_place), (3, 4, p_takenPlace), (3, 7, p_token), (3, 8, p_number), (3, 9, p_fault)]) (gp J [(3, 5, p_name)]) (gm A [(1, y1.2), (2, w_stack)]) (gm B [])) Af s.heap H locs := hW
  refine lv_aload_n C0.1 C0.2.1 dX1_readPart_87 rfl (lv_at hl 0 rfl) ?_
  obtain ⟨y2, hy2, hf⟩ := b_some hf
  refine c_Vv C0 hK hN hl.1 hW hA (KX1_closeNots l D cy  (fun q => ad (pl_LY_X1X5_LY_X1_0_1_2.getD q 0)) (fun q => P (pl_LY_X1X5_LY_X1_0_1_2.getD q 0)) (fun q => Vx LY_X1X5 ad V (pl_LY_X1X5_LY_X1_0_1_2.getD q 0)) (fun q => gp I [(0, 2, w_waiting), (0, 3, w_nested), (0, 4, y1.1), (3, 2, p_behind), (3, 3, p_place), (3, 4, p_takenPlace), (3, 7, p_token), (3, 8, p_number), (3, 9, p_fault)] (pl_LY_X1X5_LY_X1_0_1_2.getD q 0)) (fun q => gp J [(3, 5, p_name)] (pl_LY_X1X5_LY_X1_0_1_2.getD q 0)) (fun q => gm A [(1, y1.2), (2, w_stack)] (pl_LY_X1X5_LY_X1_0_1_2.getD q 0)) (fun q => gm B [] (pl_LY_X1X5_LY_X1_0_1_2.getD q 0))  hy2) (JN_subC (pl := pl_LY_X1X5_LY_X1_0_1_2) sb_LY_X1X5_LY_X1_0_1_2 rfl rfl rfl rfl rfl rfl rfl rfl rfl) (Uw_V uw_568 uw_570 us_16 uw_11 uw_571) rfl rfl hd_X1_closeNots ⟨rfl, rfl⟩ rfl (dn_some LY_X1X5_0) rfl rfl rfl dX1_readPart_88 ⟨Nat.zero_le _, Nat.zero_le _⟩ (fun H locs hW => ?_)
  have hW : wd D (dn cy LY_X1X5 ad P V (gp I [(0, 2, y2.1), (0, 3, y2.2.1), (0, 4, y2.2.2.1), (3, 2, p_behind), (3, 3, p_place), (3, 4, p_takenPlace), (3, 7, p_token), (3, 8, p_number), (3, 9, p_fault)]) (gp J [(3, 5, p_name)]) (gm A [(1, y2.2.2.2), (2, w_stack)]) (gm B [])) Af s.heap H locs := hW
  refine lv_goto (tgt := 109) C0.1 C0.2.1 dX1_readPart_91 (by decide) ?_
  exact tX1_readPart_109 C0 hK hN hA  y2.1 y2.2.1 y2.2.2.1 p_behind p_place p_takenPlace p_token p_number p_fault p_name y2.2.2.2 w_stack v3 H locs ls hW (lv_sub hl [1, 2] rfl) hf
def fX1_readPart_47 (p_length : Int32) (p_signs : (Nat → Int32)) (p_words : (Nat → Int64)) (w_waiting : Int32) (w_nested : Int32) (w_length : Int32) (p_behind : Int32) (p_place : Int32) (p_takenPlace : Int32) (p_token : Int32) (p_number : Int32) (p_fault : Int32) (p_name : Int64) (w_code : (Nat → Int32)) (w_stack : (Nat → Int32)) (v2 : Int32) (v3 : Int32) : Option (Int32 × Int32 × Int32 × Int32 × Int32 × Int32 × Int32 × Int32 × Int32 × Int32 × Int64 × (Nat → Int32) × (Nat → Int32)) := if w_nested < 5 then (if v3 = 0 then (Option.bind (fX1_push w_waiting w_stack v2) fun y3 => (fX1_readPart_109 p_length p_signs p_words y3.1 (w_nested + 1) w_length p_behind p_place p_takenPlace p_token p_number p_fault p_name w_code y3.2 v3)) else (if v2 = 2 then (fX1_readPart_84 p_length p_signs p_words w_waiting w_nested w_length p_behind p_place p_takenPlace p_token p_number p_fault p_name w_code w_stack v3 p_number) else (fX1_readPart_84 p_length p_signs p_words w_waiting w_nested w_length p_behind p_place p_takenPlace p_token p_number p_fault p_name w_code w_stack v3 (10000 + v2)))) else (Option.bind (fX5_refuse p_place p_fault 5) fun y5 => (some (0, w_waiting, w_nested, w_length, p_behind, p_place, p_takenPlace, p_token, p_number, y5, p_name, w_code, w_stack)))
set_option maxHeartbeats 4000000 in
set_option maxRecDepth 100000 in
theorem tX1_readPart_47 {p : Program} {l : Launch} {e : Env} {s : State} {m : MethodId} {args : Array Value} {below : List Frame} {meth : Method} {c : Code} {D : va_G} {cy : Nat → ClassId} {ad : Nat → Nat} {P : MP} {V : MV} {I : MI} {J : MJ} {A : MI} {B : MJ} {Af : Nat → Prop} {res : Int32 × Int32 × Int32 × Int32 × Int32 × Int32 × Int32 × Int32 × Int32 × Int32 × Int64 × (Nat → Int32) × (Nat → Int32)} (C0 : CX p s m args meth c cX1_readPart 4 (some .boolean) RX1) (hK : va_K D vwCl (tyG cy) s) (hN : NWs s) (hA : ∀ q, s.heap.size ≤ q → Af q) : SX1_readPart_47 p l e s m args below meth c D cy ad P V I J A B Af res (fX1_readPart_47 (I 3 6) (A 4) (B 5)) := by
  intro w_waiting w_nested w_length p_behind p_place p_takenPlace p_token p_number p_fault p_name w_code w_stack v2 v3 H locs ls hW hl hf
  unfold fX1_readPart_47 at hf
  refine lv_aload_n C0.1 C0.2.1 dX1_readPart_47 rfl (lv_at hl 0 rfl) ?_
  refine s_get (v := .int w_nested) C0 hK hW 0 3 LY_X1X5_0 rfl fg_X1_22 rfl dX1_readPart_48 ?_
  refine lv_iconst (v := 5) C0.1 C0.2.1 dX1_readPart_51 kI_5 ?_
  refine lv_icmp_lt (tgt := 62) C0.1 C0.2.1 dX1_readPart_52 (by decide) (fun hc1 => ?_) (fun hc1 => ?_)
  · have hf := ite_t hc1 hf
    refine lv_iload_n C0.1 C0.2.1 dX1_readPart_62 rfl (lv_at hl 3 rfl) ?_
    refine lv_if_eq (tgt := 94) C0.1 C0.2.1 dX1_readPart_63 (by decide) (fun hc2 => ?_) (fun hc2 => ?_)
    · have hf := ite_t hc2 hf
      refine lv_aload_n C0.1 C0.2.1 dX1_readPart_94 rfl (lv_at hl 0 rfl) ?_
      refine lv_iload_n C0.1 C0.2.1 dX1_readPart_95 rfl (lv_at hl 2 rfl) ?_
      obtain ⟨y3, hy3, hf⟩ := b_some hf
      refine c_Vv C0 hK hN hl.1 hW hA (KX1_push l D cy  (fun q => ad (pl_LY_X1X5_LY_X1_0_1_2.getD q 0)) (fun q => P (pl_LY_X1X5_LY_X1_0_1_2.getD q 0)) (fun q => Vx LY_X1X5 ad V (pl_LY_X1X5_LY_X1_0_1_2.getD q 0)) (fun q => gp I [(0, 2, w_waiting), (0, 3, w_nested), (0, 4, w_length), (3, 2, p_behind), (3, 3, p_place), (3, 4, p_takenPlace), (3, 7, p_token), (3, 8, p_number), (3, 9, p_fault)] (pl_LY_X1X5_LY_X1_0_1_2.getD q 0)) (fun q => gp J [(3, 5, p_name)] (pl_LY_X1X5_LY_X1_0_1_2.getD q 0)) (fun q => gm A [(1, w_code), (2, w_stack)] (pl_LY_X1X5_LY_X1_0_1_2.getD q 0)) (fun q => gm B [] (pl_LY_X1X5_LY_X1_0_1_2.getD q 0)) v2 hy3) (JN_subC (pl := pl_LY_X1X5_LY_X1_0_1_2) sb_LY_X1X5_LY_X1_0_1_2 rfl rfl rfl rfl rfl rfl rfl rfl rfl) (Uw_V uw_572 uw_574 us_17 uw_11 uw_575) rfl rfl hd_X1_push ⟨rfl, rfl⟩ rfl (dn_some LY_X1X5_0) rfl rfl rfl dX1_readPart_96 ⟨Nat.zero_le _, Nat.zero_le _⟩ (fun H locs hW => ?_)
      have hW : wd D (dn cy LY_X1X5 ad P V (gp I [(0, 2, y3.1), (0, 3, w_nested), (0, 4, w_length), (3, 2, p_behind), (3, 3, p_place), (3, 4, p_takenPlace), (3, 7, p_token), (3, 8, p_number), (3, 9, p_fault)]) (gp J [(3, 5, p_name)]) (gm A [(1, w_code), (2, y3.2)]) (gm B [])) Af s.heap H locs := hW
      refine lv_aload_n C0.1 C0.2.1 dX1_readPart_99 rfl (lv_at hl 0 rfl) ?_
      refine lv_dup C0.1 C0.2.1 dX1_readPart_100 rfl ?_
      refine s_get (v := .int w_nested) C0 hK hW 0 3 LY_X1X5_0 rfl fg_X1_22 rfl dX1_readPart_101 ?_
      refine lv_iconst (v := 1) C0.1 C0.2.1 dX1_readPart_104 kI_1 ?_
      refine lv_iadd C0.1 C0.2.1 dX1_readPart_105 ?_
      refine s_putI C0 hK hW 0 3 LY_X1X5_0 rfl fg_X1_22 fp_X1_3 rfl dX1_readPart_106 (fun H locs hW => ?_)
      have hW : wd D (dn cy LY_X1X5 ad P V (gp I [(0, 2, y3.1), (0, 3, (w_nested + 1)), (0, 4, w_length), (3, 2, p_behind), (3, 3, p_place), (3, 4, p_takenPlace), (3, 7, p_token), (3, 8, p_number), (3, 9, p_fault)]) (gp J [(3, 5, p_name)]) (gm A [(1, w_code), (2, y3.2)]) (gm B [])) Af s.heap H locs := hW
      exact tX1_readPart_109 C0 hK hN hA  y3.1 (w_nested + 1) w_length p_behind p_place p_takenPlace p_token p_number p_fault p_name w_code y3.2 v3 H locs ls hW (lv_sub hl [1, 3] rfl) hf
    · have hf := ite_f hc2 hf
      refine lv_aload_n C0.1 C0.2.1 dX1_readPart_66 rfl (lv_at hl 0 rfl) ?_
      refine lv_iload_n C0.1 C0.2.1 dX1_readPart_67 rfl (lv_at hl 2 rfl) ?_
      refine lv_iconst (v := 2) C0.1 C0.2.1 dX1_readPart_68 kI_2 ?_
      refine lv_icmp_ne (tgt := 79) C0.1 C0.2.1 dX1_readPart_69 (by decide) (fun hc4 => ?_) (fun hc4 => ?_)
      · have hf := ite_f hc4 hf
        refine lv_sipush (v := 10000) C0.1 C0.2.1 dX1_readPart_79 kS_10000 ?_
        refine lv_iload_n C0.1 C0.2.1 dX1_readPart_82 rfl (lv_at hl 2 rfl) ?_
        refine lv_iadd C0.1 C0.2.1 dX1_readPart_83 ?_
        exact tX1_readPart_84 C0 hK hN hA  w_waiting w_nested w_length p_behind p_place p_takenPlace p_token p_number p_fault p_name w_code w_stack v3 (10000 + v2) H locs ls hW (lv_sub hl [0, 1, 3] rfl) hf
      · have hf := ite_t hc4 hf
        refine lv_aload_n C0.1 C0.2.1 dX1_readPart_72 rfl (lv_at hl 1 rfl) ?_
        refine s_get (v := .int p_number) C0 hK hW 3 8 LY_X1X5_3 rfl fg_X1_55 rfl dX1_readPart_73 ?_
        refine lv_goto (tgt := 84) C0.1 C0.2.1 dX1_readPart_76 (by decide) ?_
        exact tX1_readPart_84 C0 hK hN hA  w_waiting w_nested w_length p_behind p_place p_takenPlace p_token p_number p_fault p_name w_code w_stack v3 p_number H locs ls hW (lv_sub hl [0, 1, 3] rfl) hf
  · have hf := ite_f hc1 hf
    refine lv_aload_n C0.1 C0.2.1 dX1_readPart_55 rfl (lv_at hl 1 rfl) ?_
    refine lv_iconst (v := 5) C0.1 C0.2.1 dX1_readPart_56 kI_5 ?_
    obtain ⟨y5, hy5, hf⟩ := b_some hf
    refine c_Vv C0 hK hN hl.1 hW hA (KX5_refuse l D cy  (fun q => ad (pl_LY_X1X5_LY_X5_3_4_5.getD q 0)) (fun q => P (pl_LY_X1X5_LY_X5_3_4_5.getD q 0)) (fun q => Vx LY_X1X5 ad V (pl_LY_X1X5_LY_X5_3_4_5.getD q 0)) (fun q => gp I [(0, 2, w_waiting), (0, 3, w_nested), (0, 4, w_length), (3, 2, p_behind), (3, 3, p_place), (3, 4, p_takenPlace), (3, 7, p_token), (3, 8, p_number), (3, 9, p_fault)] (pl_LY_X1X5_LY_X5_3_4_5.getD q 0)) (fun q => gp J [(3, 5, p_name)] (pl_LY_X1X5_LY_X5_3_4_5.getD q 0)) (fun q => gm A [(1, w_code), (2, w_stack)] (pl_LY_X1X5_LY_X5_3_4_5.getD q 0)) (fun q => gm B [] (pl_LY_X1X5_LY_X5_3_4_5.getD q 0)) 5 hy5) (JN_subC (pl := pl_LY_X1X5_LY_X5_3_4_5) sb_LY_X1X5_LY_X5_3_4_5 rfl rfl rfl rfl rfl rfl rfl rfl rfl) (Uw_V uw_563 uw_485 uw_486 uw_2 uw_487) rfl rfl hd_X5_refuse ⟨rfl, rfl⟩ rfl (dn_some LY_X1X5_3) rfl rfl rfl dX1_readPart_57 ⟨Nat.zero_le _, Nat.zero_le _⟩ (fun H locs hW => ?_)
    have hW : wd D (dn cy LY_X1X5 ad P V (gp I [(0, 2, w_waiting), (0, 3, w_nested), (0, 4, w_length), (3, 2, p_behind), (3, 3, p_place), (3, 4, p_takenPlace), (3, 7, p_token), (3, 8, p_number), (3, 9, y5)]) (gp J [(3, 5, p_name)]) (gm A [(1, w_code), (2, w_stack)]) (gm B [])) Af s.heap H locs := hW
    refine lv_iconst (v := 0) C0.1 C0.2.1 dX1_readPart_60 kI_0 ?_
    obtain rfl := Option.some.inj hf
    exact r_bool C0 hK hW (v' := 0) rfl dX1_readPart_61
def fX1_readPart_22 (p_length : Int32) (p_signs : (Nat → Int32)) (p_words : (Nat → Int64)) (w_waiting : Int32) (w_nested : Int32) (w_length : Int32) (p_behind : Int32) (p_place : Int32) (p_takenPlace : Int32) (p_token : Int32) (p_number : Int32) (p_fault : Int32) (p_name : Int64) (w_code : (Nat → Int32)) (w_stack : (Nat → Int32)) (v2 : Int32) (x0 : Int32) : Option (Int32 × Int32 × Int32 × Int32 × Int32 × Int32 × Int32 × Int32 × Int32 × Int32 × Int64 × (Nat → Int32) × (Nat → Int32)) := if x0 = 0 then (if v2 = 147 then (fX1_readPart_47 p_length p_signs p_words w_waiting w_nested w_length p_behind p_place p_takenPlace p_token p_number p_fault p_name w_code w_stack v2 x0) else (if v2 = 40 then (fX1_readPart_47 p_length p_signs p_words w_waiting w_nested w_length p_behind p_place p_takenPlace p_token p_number p_fault p_name w_code w_stack v2 x0) else (Option.bind (fX5_refuse p_place p_fault 1) fun y4 => (some (0, w_waiting, w_nested, w_length, p_behind, p_place, p_takenPlace, p_token, p_number, y4, p_name, w_code, w_stack))))) else (fX1_readPart_47 p_length p_signs p_words w_waiting w_nested w_length p_behind p_place p_takenPlace p_token p_number p_fault p_name w_code w_stack v2 x0)
set_option maxHeartbeats 4000000 in
set_option maxRecDepth 100000 in
theorem tX1_readPart_22 {p : Program} {l : Launch} {e : Env} {s : State} {m : MethodId} {args : Array Value} {below : List Frame} {meth : Method} {c : Code} {D : va_G} {cy : Nat → ClassId} {ad : Nat → Nat} {P : MP} {V : MV} {I : MI} {J : MJ} {A : MI} {B : MJ} {Af : Nat → Prop} {res : Int32 × Int32 × Int32 × Int32 × Int32 × Int32 × Int32 × Int32 × Int32 × Int32 × Int64 × (Nat → Int32) × (Nat → Int32)} (C0 : CX p s m args meth c cX1_readPart 4 (some .boolean) RX1) (hK : va_K D vwCl (tyG cy) s) (hN : NWs s) (hA : ∀ q, s.heap.size ≤ q → Af q) : SX1_readPart_22 p l e s m args below meth c D cy ad P V I J A B Af res (fX1_readPart_22 (I 3 6) (A 4) (B 5)) := by
  intro w_waiting w_nested w_length p_behind p_place p_takenPlace p_token p_number p_fault p_name w_code w_stack v2 x0 H locs ls hW hl hf
  unfold fX1_readPart_22 at hf
  refine lv_istore_n (lv' := [(3, .int x0), (0, .ref (ad 0)), (1, .ref (ad 3)), (2, .int v2)]) C0.1 C0.2.1 dX1_readPart_22 rfl hl (by decide) rfl (fun ls hl => ?_)
  refine lv_iload_n C0.1 C0.2.1 dX1_readPart_23 rfl (lv_at hl 0 rfl) ?_
  refine lv_if_ne (tgt := 47) C0.1 C0.2.1 dX1_readPart_24 (by decide) (fun hc1 => ?_) (fun hc1 => ?_)
  · have hf := ite_f hc1 hf
    exact tX1_readPart_47 C0 hK hN hA  w_waiting w_nested w_length p_behind p_place p_takenPlace p_token p_number p_fault p_name w_code w_stack v2 x0 H locs ls hW (lv_sub hl [1, 2, 3, 0] rfl) hf
  · have hf := ite_t hc1 hf
    refine lv_iload_n C0.1 C0.2.1 dX1_readPart_27 rfl (lv_at hl 3 rfl) ?_
    refine lv_sipush (v := 147) C0.1 C0.2.1 dX1_readPart_28 kS_147 ?_
    refine lv_icmp_eq (tgt := 47) C0.1 C0.2.1 dX1_readPart_31 (by decide) (fun hc2 => ?_) (fun hc2 => ?_)
    · have hf := ite_t hc2 hf
      exact tX1_readPart_47 C0 hK hN hA  w_waiting w_nested w_length p_behind p_place p_takenPlace p_token p_number p_fault p_name w_code w_stack v2 x0 H locs ls hW (lv_sub hl [1, 2, 3, 0] rfl) hf
    · have hf := ite_f hc2 hf
      refine lv_iload_n C0.1 C0.2.1 dX1_readPart_34 rfl (lv_at hl 3 rfl) ?_
      refine lv_bipush (v := 40) C0.1 C0.2.1 dX1_readPart_35 kB_40 ?_
      refine lv_icmp_eq (tgt := 47) C0.1 C0.2.1 dX1_readPart_37 (by decide) (fun hc3 => ?_) (fun hc3 => ?_)
      · have hf := ite_t hc3 hf
        exact tX1_readPart_47 C0 hK hN hA  w_waiting w_nested w_length p_behind p_place p_takenPlace p_token p_number p_fault p_name w_code w_stack v2 x0 H locs ls hW (lv_sub hl [1, 2, 3, 0] rfl) hf
      · have hf := ite_f hc3 hf
        refine lv_aload_n C0.1 C0.2.1 dX1_readPart_40 rfl (lv_at hl 2 rfl) ?_
        refine lv_iconst (v := 1) C0.1 C0.2.1 dX1_readPart_41 kI_1 ?_
        obtain ⟨y4, hy4, hf⟩ := b_some hf
        refine c_Vv C0 hK hN hl.1 hW hA (KX5_refuse l D cy  (fun q => ad (pl_LY_X1X5_LY_X5_3_4_5.getD q 0)) (fun q => P (pl_LY_X1X5_LY_X5_3_4_5.getD q 0)) (fun q => Vx LY_X1X5 ad V (pl_LY_X1X5_LY_X5_3_4_5.getD q 0)) (fun q => gp I [(0, 2, w_waiting), (0, 3, w_nested), (0, 4, w_length), (3, 2, p_behind), (3, 3, p_place), (3, 4, p_takenPlace), (3, 7, p_token), (3, 8, p_number), (3, 9, p_fault)] (pl_LY_X1X5_LY_X5_3_4_5.getD q 0)) (fun q => gp J [(3, 5, p_name)] (pl_LY_X1X5_LY_X5_3_4_5.getD q 0)) (fun q => gm A [(1, w_code), (2, w_stack)] (pl_LY_X1X5_LY_X5_3_4_5.getD q 0)) (fun q => gm B [] (pl_LY_X1X5_LY_X5_3_4_5.getD q 0)) 1 hy4) (JN_subC (pl := pl_LY_X1X5_LY_X5_3_4_5) sb_LY_X1X5_LY_X5_3_4_5 rfl rfl rfl rfl rfl rfl rfl rfl rfl) (Uw_V uw_563 uw_485 uw_486 uw_2 uw_487) rfl rfl hd_X5_refuse ⟨rfl, rfl⟩ rfl (dn_some LY_X1X5_3) rfl rfl rfl dX1_readPart_42 ⟨Nat.zero_le _, Nat.zero_le _⟩ (fun H locs hW => ?_)
        have hW : wd D (dn cy LY_X1X5 ad P V (gp I [(0, 2, w_waiting), (0, 3, w_nested), (0, 4, w_length), (3, 2, p_behind), (3, 3, p_place), (3, 4, p_takenPlace), (3, 7, p_token), (3, 8, p_number), (3, 9, y4)]) (gp J [(3, 5, p_name)]) (gm A [(1, w_code), (2, w_stack)]) (gm B [])) Af s.heap H locs := hW
        refine lv_iconst (v := 0) C0.1 C0.2.1 dX1_readPart_45 kI_0 ?_
        obtain rfl := Option.some.inj hf
        exact r_bool C0 hK hW (v' := 0) rfl dX1_readPart_46
def fX1_readPart (p_length : Int32) (p_signs : (Nat → Int32)) (p_words : (Nat → Int64)) (w_waiting : Int32) (w_nested : Int32) (w_length : Int32) (p_behind : Int32) (p_place : Int32) (p_takenPlace : Int32) (p_token : Int32) (p_number : Int32) (p_fault : Int32) (p_name : Int64) (w_code : (Nat → Int32)) (w_stack : (Nat → Int32)) : Option (Int32 × Int32 × Int32 × Int32 × Int32 × Int32 × Int32 × Int32 × Int32 × Int32 × Int64 × (Nat → Int32) × (Nat → Int32)) := if p_token = 2 then (fX1_readPart_22 p_length p_signs p_words w_waiting w_nested w_length p_behind p_place p_takenPlace p_token p_number p_fault p_name w_code w_stack p_token 1) else (Option.bind (fX8_isFact p_token) fun y2 => (if y2 = 0 then (fX1_readPart_22 p_length p_signs p_words w_waiting w_nested w_length p_behind p_place p_takenPlace p_token p_number p_fault p_name w_code w_stack p_token 0) else (fX1_readPart_22 p_length p_signs p_words w_waiting w_nested w_length p_behind p_place p_takenPlace p_token p_number p_fault p_name w_code w_stack p_token 1)))
set_option maxHeartbeats 4000000 in
set_option maxRecDepth 100000 in
theorem KX1_readPart (l : Launch) (D : va_G) (cy : Nat → ClassId) (ad : Nat → Nat) (P : MP) (V : MV) (I : MI) (J : MJ) (A : MI) (B : MJ) {res : Int32 × Int32 × Int32 × Int32 × Int32 × Int32 × Int32 × Int32 × Int32 × Int32 × Int64 × (Nat → Int32) × (Nat → Int32)} (hf : fX1_readPart (I 3 6) (A 4) (B 5) (I 0 2) (I 0 3) (I 0 4) (I 3 2) (I 3 3) (I 3 4) (I 3 7) (I 3 8) (I 3 9) (J 3 5) (A 1) (A 2) = some res) : CG l yX1_readPart cX1_readPart 4 (some .boolean) rmX1_readPart D cy (dn cy LY_X1X5 ad P V I J A B) [.ref (ad 0), .ref (ad 3)] (some (.int res.1)) (dn cy LY_X1X5 ad P V (gp I [(0, 2, res.2.1), (0, 3, res.2.2.1), (0, 4, res.2.2.2.1), (3, 2, res.2.2.2.2.1), (3, 3, res.2.2.2.2.2.1), (3, 4, res.2.2.2.2.2.2.1), (3, 7, res.2.2.2.2.2.2.2.1), (3, 8, res.2.2.2.2.2.2.2.2.1), (3, 9, res.2.2.2.2.2.2.2.2.2.1)]) (gp J [(3, 5, res.2.2.2.2.2.2.2.2.2.2.1)]) (gm A [(1, res.2.2.2.2.2.2.2.2.2.2.2.1), (2, res.2.2.2.2.2.2.2.2.2.2.2.2)]) (gm B [])) := by
  refine CG.of (own := RX1) (by decide) rfl rfl ?_
  intro p e s m below meth c ls Af C0 hK hN hA hW hl
  have hW : wd D (dn cy LY_X1X5 ad P V (gp I [(0, 2, (I 0 2)), (0, 3, (I 0 3)), (0, 4, (I 0 4)), (3, 2, (I 3 2)), (3, 3, (I 3 3)), (3, 4, (I 3 4)), (3, 7, (I 3 7)), (3, 8, (I 3 8)), (3, 9, (I 3 9))]) (gp J [(3, 5, (J 3 5))]) (gm A [(1, (A 1)), (2, (A 2))]) (gm B [])) Af s.heap s.heap [] := wd_sel [(0, 2), (0, 3), (0, 4), (3, 2), (3, 3), (3, 4), (3, 7), (3, 8), (3, 9)] [(3, 5)] [1, 2] [] hW
  have hl : lv_has ls 4 [(0, .ref (ad 0)), (1, .ref (ad 3))] := hl
  unfold fX1_readPart at hf
  refine lv_aload_n C0.1 C0.2.1 dX1_readPart_0 rfl (lv_at hl 1 rfl) ?_
  refine s_get (v := .int (I 3 7)) C0 hK hW 3 7 LY_X1X5_3 rfl fg_X1_34 rfl dX1_readPart_1 ?_
  refine lv_istore_n (lv' := [(2, .int (I 3 7)), (0, .ref (ad 0)), (1, .ref (ad 3))]) C0.1 C0.2.1 dX1_readPart_4 rfl hl (by decide) rfl (fun ls hl => ?_)
  refine lv_iload_n C0.1 C0.2.1 dX1_readPart_5 rfl (lv_at hl 0 rfl) ?_
  refine lv_iconst (v := 2) C0.1 C0.2.1 dX1_readPart_6 kI_2 ?_
  refine lv_icmp_eq (tgt := 17) C0.1 C0.2.1 dX1_readPart_7 (by decide) (fun hc1 => ?_) (fun hc1 => ?_)
  · have hf := ite_t hc1 hf
    refine lv_iconst (v := 1) C0.1 C0.2.1 dX1_readPart_17 kI_1 ?_
    refine lv_goto (tgt := 22) C0.1 C0.2.1 dX1_readPart_18 (by decide) ?_
    exact tX1_readPart_22 C0 hK hN hA  (I 0 2) (I 0 3) (I 0 4) (I 3 2) (I 3 3) (I 3 4) (I 3 7) (I 3 8) (I 3 9) (J 3 5) (A 1) (A 2) (I 3 7) 1 _ _ ls hW (lv_sub hl [1, 2, 0] rfl) hf
  · have hf := ite_f hc1 hf
    refine lv_iload_n C0.1 C0.2.1 dX1_readPart_10 rfl (lv_at hl 0 rfl) ?_
    obtain ⟨y2, hy2, hf⟩ := b_some hf
    refine c_SNi C0 hK hN hl.1 hW hA (KX8_isFact l D cy  (fun q => ad (pl_LY_X1X5_LY_0_.getD q 0)) (fun q => P (pl_LY_X1X5_LY_0_.getD q 0)) (fun q => Vx LY_X1X5 ad V (pl_LY_X1X5_LY_0_.getD q 0)) (fun q => gp I [(0, 2, (I 0 2)), (0, 3, (I 0 3)), (0, 4, (I 0 4)), (3, 2, (I 3 2)), (3, 3, (I 3 3)), (3, 4, (I 3 4)), (3, 7, (I 3 7)), (3, 8, (I 3 8)), (3, 9, (I 3 9))] (pl_LY_X1X5_LY_0_.getD q 0)) (fun q => gp J [(3, 5, (J 3 5))] (pl_LY_X1X5_LY_0_.getD q 0)) (fun q => gm A [(1, (A 1)), (2, (A 2))] (pl_LY_X1X5_LY_0_.getD q 0)) (fun q => gm B [] (pl_LY_X1X5_LY_0_.getD q 0)) (I 3 7) hy2) (JN_subC (pl := pl_LY_X1X5_LY_0_) sb_LY_X1X5_LY_0_ rfl rfl rfl rfl rfl rfl rfl rfl rfl) ⟨un_562, uw_498, uw_1, uw_499⟩ rfl rfl hd_X8_isFact ⟨rfl, rfl⟩ rfl rfl rfl dX1_readPart_11 ⟨Nat.zero_le _, Nat.zero_le _⟩ (fun H locs hW => ?_)
    have hW : wd D (dn cy LY_X1X5 ad P V (gp I [(0, 2, (I 0 2)), (0, 3, (I 0 3)), (0, 4, (I 0 4)), (3, 2, (I 3 2)), (3, 3, (I 3 3)), (3, 4, (I 3 4)), (3, 7, (I 3 7)), (3, 8, (I 3 8)), (3, 9, (I 3 9))]) (gp J [(3, 5, (J 3 5))]) (gm A [(1, (A 1)), (2, (A 2))]) (gm B [])) Af s.heap H locs := hW
    refine lv_if_eq (tgt := 21) C0.1 C0.2.1 dX1_readPart_14 (by decide) (fun hc3 => ?_) (fun hc3 => ?_)
    · have hf := ite_t hc3 hf
      refine lv_iconst (v := 0) C0.1 C0.2.1 dX1_readPart_21 kI_0 ?_
      exact tX1_readPart_22 C0 hK hN hA  (I 0 2) (I 0 3) (I 0 4) (I 3 2) (I 3 3) (I 3 4) (I 3 7) (I 3 8) (I 3 9) (J 3 5) (A 1) (A 2) (I 3 7) 0 _ _ ls hW (lv_sub hl [1, 2, 0] rfl) hf
    · have hf := ite_f hc3 hf
      refine lv_iconst (v := 1) C0.1 C0.2.1 dX1_readPart_17 kI_1 ?_
      refine lv_goto (tgt := 22) C0.1 C0.2.1 dX1_readPart_18 (by decide) ?_
      exact tX1_readPart_22 C0 hK hN hA  (I 0 2) (I 0 3) (I 0 4) (I 3 2) (I 3 3) (I 3 4) (I 3 7) (I 3 8) (I 3 9) (J 3 5) (A 1) (A 2) (I 3 7) 1 _ _ ls hW (lv_sub hl [1, 2, 0] rfl) hf
-- X1_rankOf
def rmX1_rankOf : Room := { frames := 1, cells := 0, slots := 0, locals := 21 }
def fX1_rankOf (v0 : Int32) : Option (Int32) := if Int32.toInt v0 = 42 then (some (4)) else (if Int32.toInt v0 = 43 then (some (3)) else (if Int32.toInt v0 = 45 then (some (3)) else (if Int32.toInt v0 = 60 then (some (2)) else (if Int32.toInt v0 = 61 then (some (2)) else (if Int32.toInt v0 = 148 then (some (1)) else (if Int32.toInt v0 = 149 then (some (1)) else (some (0))))))))
set_option maxHeartbeats 4000000 in
set_option maxRecDepth 100000 in
theorem KX1_rankOf (l : Launch) (D : va_G) (cy : Nat → ClassId) (ad : Nat → Nat) (P : MP) (V : MV) (I : MI) (J : MJ) (A : MI) (B : MJ) (v0 : Int32) {res : Int32} (hf : fX1_rankOf v0 = some res) : CG l yX1_rankOf cX1_rankOf 1 (some .int) rmX1_rankOf D cy (dn cy LY_0 ad P V I J A B) [.int v0] (some (.int res)) (dn cy LY_0 ad P V (gp I []) (gp J []) (gm A []) (gm B [])) := by
  refine CG.of (own := RX1) (by decide) rfl rfl ?_
  intro p e s m below meth c ls Af C0 hK hN hA hW hl
  have hW : wd D (dn cy LY_0 ad P V (gp I []) (gp J []) (gm A []) (gm B [])) Af s.heap s.heap [] := wd_sel [] [] [] [] hW
  have hl : lv_has ls 1 [(0, .int v0)] := hl
  unfold fX1_rankOf at hf
  refine lv_iload_n C0.1 C0.2.1 dX1_rankOf_0 rfl (lv_at hl 0 rfl) ?_
  by_cases hc1 : Int32.toInt v0 = 42
  · have hf := ite_t hc1 hf
    refine lv_lookup (tgt := 68) (off := 67) C0.1 C0.2.1 dX1_rankOf_1 (by decide) (by rw [hc1]; decide) (by decide) ?_
    refine lv_iconst (v := 4) C0.1 C0.2.1 dX1_rankOf_68 kI_4 ?_
    obtain rfl := Option.some.inj hf
    exact r_int C0 hK hW dX1_rankOf_69
  · have hf := ite_f hc1 hf
    by_cases hc2 : Int32.toInt v0 = 43
    · have hf := ite_t hc2 hf
      refine lv_lookup (tgt := 70) (off := 69) C0.1 C0.2.1 dX1_rankOf_1 (by decide) (by rw [hc2]; decide) (by decide) ?_
      refine lv_iconst (v := 3) C0.1 C0.2.1 dX1_rankOf_70 kI_3 ?_
      obtain rfl := Option.some.inj hf
      exact r_int C0 hK hW dX1_rankOf_71
    · have hf := ite_f hc2 hf
      by_cases hc3 : Int32.toInt v0 = 45
      · have hf := ite_t hc3 hf
        refine lv_lookup (tgt := 70) (off := 69) C0.1 C0.2.1 dX1_rankOf_1 (by decide) (by rw [hc3]; decide) (by decide) ?_
        refine lv_iconst (v := 3) C0.1 C0.2.1 dX1_rankOf_70 kI_3 ?_
        obtain rfl := Option.some.inj hf
        exact r_int C0 hK hW dX1_rankOf_71
      · have hf := ite_f hc3 hf
        by_cases hc4 : Int32.toInt v0 = 60
        · have hf := ite_t hc4 hf
          refine lv_lookup (tgt := 72) (off := 71) C0.1 C0.2.1 dX1_rankOf_1 (by decide) (by rw [hc4]; decide) (by decide) ?_
          refine lv_iconst (v := 2) C0.1 C0.2.1 dX1_rankOf_72 kI_2 ?_
          obtain rfl := Option.some.inj hf
          exact r_int C0 hK hW dX1_rankOf_73
        · have hf := ite_f hc4 hf
          by_cases hc5 : Int32.toInt v0 = 61
          · have hf := ite_t hc5 hf
            refine lv_lookup (tgt := 72) (off := 71) C0.1 C0.2.1 dX1_rankOf_1 (by decide) (by rw [hc5]; decide) (by decide) ?_
            refine lv_iconst (v := 2) C0.1 C0.2.1 dX1_rankOf_72 kI_2 ?_
            obtain rfl := Option.some.inj hf
            exact r_int C0 hK hW dX1_rankOf_73
          · have hf := ite_f hc5 hf
            by_cases hc6 : Int32.toInt v0 = 148
            · have hf := ite_t hc6 hf
              refine lv_lookup (tgt := 74) (off := 73) C0.1 C0.2.1 dX1_rankOf_1 (by decide) (by rw [hc6]; decide) (by decide) ?_
              refine lv_iconst (v := 1) C0.1 C0.2.1 dX1_rankOf_74 kI_1 ?_
              obtain rfl := Option.some.inj hf
              exact r_int C0 hK hW dX1_rankOf_75
            · have hf := ite_f hc6 hf
              by_cases hc7 : Int32.toInt v0 = 149
              · have hf := ite_t hc7 hf
                refine lv_lookup (tgt := 74) (off := 73) C0.1 C0.2.1 dX1_rankOf_1 (by decide) (by rw [hc7]; decide) (by decide) ?_
                refine lv_iconst (v := 1) C0.1 C0.2.1 dX1_rankOf_74 kI_1 ?_
                obtain rfl := Option.some.inj hf
                exact r_int C0 hK hW dX1_rankOf_75
              · have hf := ite_f hc7 hf
                refine lv_lookup (tgt := 76) (off := 75) C0.1 C0.2.1 dX1_rankOf_1 (by decide) (by simp [Op.lookupswitch.offset, Ne.symm hc1, Ne.symm hc2, Ne.symm hc3, Ne.symm hc4, Ne.symm hc5, Ne.symm hc6, Ne.symm hc7]) (by decide) ?_
                refine lv_iconst (v := 0) C0.1 C0.2.1 dX1_rankOf_76 kI_0 ?_
                obtain rfl := Option.some.inj hf
                exact r_int C0 hK hW dX1_rankOf_77
-- X1_emitDownTo
def rmX1_emitDownTo : Room := { frames := 2, cells := 0, slots := 0, locals := 42 }
def SX1_emitDownTo_0 (p : Program) (l : Launch) (e : Env) (s : State) (m : MethodId) (args : Array Value) (below : List Frame) (meth : Method) (c : Code) (D : va_G) (cy : Nat → ClassId) (ad : Nat → Nat) (P : MP) (V : MV) (I : MI) (J : MJ) (A : MI) (B : MJ) (Af : Nat → Prop) (res : Int32 × Int32 × (Nat → Int32)) (k : Int32 → Int32 → (Nat → Int32) → Int32 → Option (Int32 × Int32 × (Nat → Int32))) : Prop := ∀ (w_waiting : Int32) (w_length : Int32) (w_code : (Nat → Int32)) (v1 : Int32) (H : Heap) (locs : List Loc) (ls : Array Slot), wd D (dn cy LY_X1 ad P V (gp I [(0, 2, w_waiting), (0, 4, w_length)]) (gp J []) (gm A [(1, w_code)]) (gm B [])) Af s.heap H locs → lv_has ls 2 [(0, .ref (ad 0)), (1, .int v1)] → k w_waiting w_length w_code v1 = some res → W p l e rmX1_emitDownTo s m args below meth c H locs 0 0 (ZQ below D cy (dn cy LY_X1 ad P V (gp I [(0, 2, res.1), (0, 4, res.2.1)]) (gp J []) (gm A [(1, res.2.2)]) (gm B [])) none Af args s) (F0 m 0 ls [])
def fX1_emitDownTo_0 (w_stack : (Nat → Int32)) (k0 : Int32 → Int32 → (Nat → Int32) → Int32 → Option (Int32 × Int32 × (Nat → Int32))) (w_waiting : Int32) (w_length : Int32) (w_code : (Nat → Int32)) (v1 : Int32) : Option (Int32 × Int32 × (Nat → Int32)) := if w_waiting ≤ 0 then (some (w_waiting, w_length, w_code)) else (bif inb (w_waiting - 1) 32 then (Option.bind (fX1_rankOf (w_stack (Int32.toNatClampNeg (w_waiting - 1)))) fun y3 => (if y3 < v1 then (some (w_waiting, w_length, w_code)) else (bif inb (w_waiting - 1) 32 then (Option.bind (fX1_emit w_length w_code (10000 + (w_stack (Int32.toNatClampNeg (w_waiting - 1))))) fun y6 => (k0 (w_waiting - 1) y6.1 y6.2 v1)) else none))) else none)
set_option maxHeartbeats 4000000 in
set_option maxRecDepth 100000 in
theorem tX1_emitDownTo_0 {p : Program} {l : Launch} {e : Env} {s : State} {m : MethodId} {args : Array Value} {below : List Frame} {meth : Method} {c : Code} {D : va_G} {cy : Nat → ClassId} {ad : Nat → Nat} {P : MP} {V : MV} {I : MI} {J : MJ} {A : MI} {B : MJ} {Af : Nat → Prop} {res : Int32 × Int32 × (Nat → Int32)} (C0 : CX p s m args meth c cX1_emitDownTo 2 none RX1) (hK : va_K D vwCl (tyG cy) s) (hN : NWs s) (hA : ∀ q, s.heap.size ≤ q → Af q) {k0 : Int32 → Int32 → (Nat → Int32) → Int32 → Option (Int32 × Int32 × (Nat → Int32))} (hk0 : SX1_emitDownTo_0 p l e s m args below meth c D cy ad P V I J A B Af res k0) : SX1_emitDownTo_0 p l e s m args below meth c D cy ad P V I J A B Af res (fX1_emitDownTo_0 (A 2) k0) := by
  intro w_waiting w_length w_code v1 H locs ls hW hl hf
  unfold fX1_emitDownTo_0 at hf
  refine lv_aload_n C0.1 C0.2.1 dX1_emitDownTo_0 rfl (lv_at hl 0 rfl) ?_
  refine s_get (v := .int w_waiting) C0 hK hW 0 2 LY_X1_0 rfl fg_X1_18 rfl dX1_emitDownTo_1 ?_
  refine lv_if_le (tgt := 55) C0.1 C0.2.1 dX1_emitDownTo_4 (by decide) (fun hc1 => ?_) (fun hc1 => ?_)
  · have hf := ite_t hc1 hf
    obtain rfl := Option.some.inj hf
    exact r_void C0 hK hW dX1_emitDownTo_55
  · have hf := ite_f hc1 hf
    refine lv_aload_n C0.1 C0.2.1 dX1_emitDownTo_7 rfl (lv_at hl 0 rfl) ?_
    refine s_get (v := .ref (ad 2)) C0 hK hW 0 1 LY_X1_0 rfl fg_X1_15 rfl dX1_emitDownTo_8 ?_
    refine lv_aload_n C0.1 C0.2.1 dX1_emitDownTo_11 rfl (lv_at hl 0 rfl) ?_
    refine s_get (v := .int w_waiting) C0 hK hW 0 2 LY_X1_0 rfl fg_X1_18 rfl dX1_emitDownTo_12 ?_
    refine lv_iconst (v := 1) C0.1 C0.2.1 dX1_emitDownTo_15 kI_1 ?_
    refine lv_isub C0.1 C0.2.1 dX1_emitDownTo_16 ?_
    obtain ⟨hb2, hf⟩ := g_some hf
    refine s_iald (v := ((A 2) (Int32.toNatClampNeg (w_waiting - 1)))) C0 hK hW 2 LY_X1_2 hb2 rfl dX1_emitDownTo_17 ?_
    obtain ⟨y3, hy3, hf⟩ := b_some hf
    refine c_Si C0 hK hN hl.1 hW hA (KX1_rankOf l D cy  (fun q => ad (pl_LY_X1_LY_0_.getD q 0)) (fun q => P (pl_LY_X1_LY_0_.getD q 0)) (fun q => Vx LY_X1 ad V (pl_LY_X1_LY_0_.getD q 0)) (fun q => gp I [(0, 2, w_waiting), (0, 4, w_length)] (pl_LY_X1_LY_0_.getD q 0)) (fun q => gp J [] (pl_LY_X1_LY_0_.getD q 0)) (fun q => gm A [(1, w_code)] (pl_LY_X1_LY_0_.getD q 0)) (fun q => gm B [] (pl_LY_X1_LY_0_.getD q 0)) ((A 2) (Int32.toNatClampNeg (w_waiting - 1))) hy3) (JN_subC (pl := pl_LY_X1_LY_0_) sb_LY_X1_LY_0_ rfl rfl rfl rfl rfl rfl rfl rfl rfl) ⟨uw_585, uw_586, uw_11, uw_587⟩ rfl rfl hd_X1_rankOf ⟨rfl, rfl⟩ rfl rfl rfl dX1_emitDownTo_18 ⟨Nat.zero_le _, Nat.zero_le _⟩ (fun H locs hW => ?_)
    have hW : wd D (dn cy LY_X1 ad P V (gp I [(0, 2, w_waiting), (0, 4, w_length)]) (gp J []) (gm A [(1, w_code)]) (gm B [])) Af s.heap H locs := hW
    refine lv_iload_n C0.1 C0.2.1 dX1_emitDownTo_21 rfl (lv_at hl 1 rfl) ?_
    refine lv_icmp_lt (tgt := 55) C0.1 C0.2.1 dX1_emitDownTo_22 (by decide) (fun hc4 => ?_) (fun hc4 => ?_)
    · have hf := ite_t hc4 hf
      obtain rfl := Option.some.inj hf
      exact r_void C0 hK hW dX1_emitDownTo_55
    · have hf := ite_f hc4 hf
      refine lv_aload_n C0.1 C0.2.1 dX1_emitDownTo_25 rfl (lv_at hl 0 rfl) ?_
      refine lv_dup C0.1 C0.2.1 dX1_emitDownTo_26 rfl ?_
      refine s_get (v := .int w_waiting) C0 hK hW 0 2 LY_X1_0 rfl fg_X1_18 rfl dX1_emitDownTo_27 ?_
      refine lv_iconst (v := 1) C0.1 C0.2.1 dX1_emitDownTo_30 kI_1 ?_
      refine lv_isub C0.1 C0.2.1 dX1_emitDownTo_31 ?_
      refine s_putI C0 hK hW 0 2 LY_X1_0 rfl fg_X1_18 fp_X1_2 rfl dX1_emitDownTo_32 (fun H locs hW => ?_)
      have hW : wd D (dn cy LY_X1 ad P V (gp I [(0, 2, (w_waiting - 1)), (0, 4, w_length)]) (gp J []) (gm A [(1, w_code)]) (gm B [])) Af s.heap H locs := hW
      refine lv_aload_n C0.1 C0.2.1 dX1_emitDownTo_35 rfl (lv_at hl 0 rfl) ?_
      refine lv_sipush (v := 10000) C0.1 C0.2.1 dX1_emitDownTo_36 kS_10000 ?_
      refine lv_aload_n C0.1 C0.2.1 dX1_emitDownTo_39 rfl (lv_at hl 0 rfl) ?_
      refine s_get (v := .ref (ad 2)) C0 hK hW 0 1 LY_X1_0 rfl fg_X1_15 rfl dX1_emitDownTo_40 ?_
      refine lv_aload_n C0.1 C0.2.1 dX1_emitDownTo_43 rfl (lv_at hl 0 rfl) ?_
      refine s_get (v := .int (w_waiting - 1)) C0 hK hW 0 2 LY_X1_0 rfl fg_X1_18 rfl dX1_emitDownTo_44 ?_
      obtain ⟨hb5, hf⟩ := g_some hf
      refine s_iald (v := ((A 2) (Int32.toNatClampNeg (w_waiting - 1)))) C0 hK hW 2 LY_X1_2 hb5 rfl dX1_emitDownTo_47 ?_
      refine lv_iadd C0.1 C0.2.1 dX1_emitDownTo_48 ?_
      obtain ⟨y6, hy6, hf⟩ := b_some hf
      refine c_Vv C0 hK hN hl.1 hW hA (KX1_emit l D cy  ad P V (gp I [(0, 2, (w_waiting - 1)), (0, 4, w_length)]) (gp J []) (gm A [(1, w_code)]) (gm B []) (10000 + ((A 2) (Int32.toNatClampNeg (w_waiting - 1)))) hy6) (JN_id rfl rfl rfl rfl) (Uw_V uw_564 uw_566 us_15 uw_11 uw_567) rfl rfl hd_X1_emit ⟨rfl, rfl⟩ rfl (dn_some LY_X1_0) rfl rfl rfl dX1_emitDownTo_49 ⟨Nat.zero_le _, Nat.zero_le _⟩ (fun H locs hW => ?_)
      have hW : wd D (dn cy LY_X1 ad P V (gp I [(0, 2, (w_waiting - 1)), (0, 4, y6.1)]) (gp J []) (gm A [(1, y6.2)]) (gm B [])) Af s.heap H locs := hW
      refine lv_goto (tgt := 0) C0.1 C0.2.1 dX1_emitDownTo_52 (by decide) ?_
      exact hk0 (w_waiting - 1) y6.1 y6.2 v1 H locs ls hW hl hf
theorem TX1_emitDownTo_0 {p : Program} {l : Launch} {e : Env} {s : State} {m : MethodId} {args : Array Value} {below : List Frame} {meth : Method} {c : Code} {D : va_G} {cy : Nat → ClassId} {ad : Nat → Nat} {P : MP} {V : MV} {I : MI} {J : MJ} {A : MI} {B : MJ} {Af : Nat → Prop} {res : Int32 × Int32 × (Nat → Int32)} (C0 : CX p s m args meth c cX1_emitDownTo 2 none RX1) (hK : va_K D vwCl (tyG cy) s) (hN : NWs s) (hA : ∀ q, s.heap.size ≤ q → Af q) : ∀ n, SX1_emitDownTo_0 p l e s m args below meth c D cy ad P V I J A B Af res (itr (fun kk => fX1_emitDownTo_0 (A 2) kk) (fun _ _ _ _ => none) n) := by
  intro n
  induction n with
  | zero => intro w_waiting w_length w_code v1 H locs ls hW hl hf; exact (nomatch (show (none : Option (Int32 × Int32 × (Nat → Int32))) = some res from hf))
  | succ n ih => exact tX1_emitDownTo_0 C0 hK hN hA  ih
def fX1_emitDownTo (w_stack : (Nat → Int32)) (w_waiting : Int32) (w_length : Int32) (w_code : (Nat → Int32)) (v1 : Int32) : Option (Int32 × Int32 × (Nat → Int32)) := itr (fun kk => fX1_emitDownTo_0 w_stack kk) (fun _ _ _ _ => none) FU w_waiting w_length w_code v1
set_option maxHeartbeats 4000000 in
set_option maxRecDepth 100000 in
theorem KX1_emitDownTo (l : Launch) (D : va_G) (cy : Nat → ClassId) (ad : Nat → Nat) (P : MP) (V : MV) (I : MI) (J : MJ) (A : MI) (B : MJ) (v1 : Int32) {res : Int32 × Int32 × (Nat → Int32)} (hf : fX1_emitDownTo (A 2) (I 0 2) (I 0 4) (A 1) v1 = some res) : CG l yX1_emitDownTo cX1_emitDownTo 2 none rmX1_emitDownTo D cy (dn cy LY_X1 ad P V I J A B) [.ref (ad 0), .int v1] none (dn cy LY_X1 ad P V (gp I [(0, 2, res.1), (0, 4, res.2.1)]) (gp J []) (gm A [(1, res.2.2)]) (gm B [])) := by
  refine CG.of (own := RX1) (by decide) rfl rfl ?_
  intro p e s m below meth c ls Af C0 hK hN hA hW hl
  have hW : wd D (dn cy LY_X1 ad P V (gp I [(0, 2, (I 0 2)), (0, 4, (I 0 4))]) (gp J []) (gm A [(1, (A 1))]) (gm B [])) Af s.heap s.heap [] := wd_sel [(0, 2), (0, 4)] [] [1] [] hW
  have hl : lv_has ls 2 [(0, .ref (ad 0)), (1, .int v1)] := hl
  unfold fX1_emitDownTo at hf
  exact TX1_emitDownTo_0 C0 hK hN hA  FU (I 0 2) (I 0 4) (A 1) v1 _ _ ls hW hl hf
-- X1_pop
def rmX1_pop : Room := { frames := 1, cells := 0, slots := 0, locals := 21 }
def fX1_pop (w_stack : (Nat → Int32)) (w_waiting : Int32) : Option (Int32 × Int32) := if w_waiting = 0 then (some (0, w_waiting)) else (bif inb (w_waiting - 1) 32 then (some ((w_stack (Int32.toNatClampNeg (w_waiting - 1))), (w_waiting - 1))) else none)
set_option maxHeartbeats 4000000 in
set_option maxRecDepth 100000 in
theorem KX1_pop (l : Launch) (D : va_G) (cy : Nat → ClassId) (ad : Nat → Nat) (P : MP) (V : MV) (I : MI) (J : MJ) (A : MI) (B : MJ) {res : Int32 × Int32} (hf : fX1_pop (A 2) (I 0 2) = some res) : CG l yX1_pop cX1_pop 1 (some .int) rmX1_pop D cy (dn cy LY_X1 ad P V I J A B) [.ref (ad 0)] (some (.int res.1)) (dn cy LY_X1 ad P V (gp I [(0, 2, res.2)]) (gp J []) (gm A []) (gm B [])) := by
  refine CG.of (own := RX1) (by decide) rfl rfl ?_
  intro p e s m below meth c ls Af C0 hK hN hA hW hl
  have hW : wd D (dn cy LY_X1 ad P V (gp I [(0, 2, (I 0 2))]) (gp J []) (gm A []) (gm B [])) Af s.heap s.heap [] := wd_sel [(0, 2)] [] [] [] hW
  have hl : lv_has ls 1 [(0, .ref (ad 0))] := hl
  unfold fX1_pop at hf
  refine lv_aload_n C0.1 C0.2.1 dX1_pop_0 rfl (lv_at hl 0 rfl) ?_
  refine s_get (v := .int (I 0 2)) C0 hK hW 0 2 LY_X1_0 rfl fg_X1_18 rfl dX1_pop_1 ?_
  refine lv_if_ne (tgt := 9) C0.1 C0.2.1 dX1_pop_4 (by decide) (fun hc1 => ?_) (fun hc1 => ?_)
  · have hf := ite_f hc1 hf
    refine lv_aload_n C0.1 C0.2.1 dX1_pop_9 rfl (lv_at hl 0 rfl) ?_
    refine lv_dup C0.1 C0.2.1 dX1_pop_10 rfl ?_
    refine s_get (v := .int (I 0 2)) C0 hK hW 0 2 LY_X1_0 rfl fg_X1_18 rfl dX1_pop_11 ?_
    refine lv_iconst (v := 1) C0.1 C0.2.1 dX1_pop_14 kI_1 ?_
    refine lv_isub C0.1 C0.2.1 dX1_pop_15 ?_
    refine s_putI C0 hK hW 0 2 LY_X1_0 rfl fg_X1_18 fp_X1_2 rfl dX1_pop_16 (fun H locs hW => ?_)
    have hW : wd D (dn cy LY_X1 ad P V (gp I [(0, 2, ((I 0 2) - 1))]) (gp J []) (gm A []) (gm B [])) Af s.heap H locs := hW
    refine lv_aload_n C0.1 C0.2.1 dX1_pop_19 rfl (lv_at hl 0 rfl) ?_
    refine s_get (v := .ref (ad 2)) C0 hK hW 0 1 LY_X1_0 rfl fg_X1_15 rfl dX1_pop_20 ?_
    refine lv_aload_n C0.1 C0.2.1 dX1_pop_23 rfl (lv_at hl 0 rfl) ?_
    refine s_get (v := .int ((I 0 2) - 1)) C0 hK hW 0 2 LY_X1_0 rfl fg_X1_18 rfl dX1_pop_24 ?_
    obtain ⟨hb2, hf⟩ := g_some hf
    refine s_iald (v := ((A 2) (Int32.toNatClampNeg ((I 0 2) - 1)))) C0 hK hW 2 LY_X1_2 hb2 rfl dX1_pop_27 ?_
    obtain rfl := Option.some.inj hf
    exact r_int C0 hK hW dX1_pop_28
  · have hf := ite_t hc1 hf
    refine lv_iconst (v := 0) C0.1 C0.2.1 dX1_pop_7 kI_0 ?_
    obtain rfl := Option.some.inj hf
    exact r_int C0 hK hW dX1_pop_8
-- X1_closeBracket
def rmX1_closeBracket : Room := { frames := 4, cells := 0, slots := 0, locals := 83 }
def fX1_closeBracket (p_length : Int32) (w_stack : (Nat → Int32)) (p_signs : (Nat → Int32)) (p_words : (Nat → Int64)) (w_waiting : Int32) (w_nested : Int32) (w_length : Int32) (p_behind : Int32) (p_place : Int32) (p_takenPlace : Int32) (p_token : Int32) (p_number : Int32) (p_name : Int64) (w_code : (Nat → Int32)) : Option (Int32 × Int32 × Int32 × Int32 × Int32 × Int32 × Int32 × Int32 × Int64 × (Nat → Int32)) := Option.bind (fX1_emitDownTo w_stack w_waiting w_length w_code 1) fun y1 => (Option.bind (fX1_pop w_stack y1.1) fun y2 => (Option.bind (fX1_closeNots w_stack y2.2 (w_nested - 1) y1.2.1 y1.2.2) fun y3 => (Option.bind (fX5_next p_length p_signs p_words p_behind p_place p_takenPlace p_token p_number p_name) fun y4 => (some (y3.1, y3.2.1, y3.2.2.1, y4.1, y4.2.1, y4.2.2.1, y4.2.2.2.1, y4.2.2.2.2.1, y4.2.2.2.2.2, y3.2.2.2)))))
set_option maxHeartbeats 4000000 in
set_option maxRecDepth 100000 in
theorem KX1_closeBracket (l : Launch) (D : va_G) (cy : Nat → ClassId) (ad : Nat → Nat) (P : MP) (V : MV) (I : MI) (J : MJ) (A : MI) (B : MJ) {res : Int32 × Int32 × Int32 × Int32 × Int32 × Int32 × Int32 × Int32 × Int64 × (Nat → Int32)} (hf : fX1_closeBracket (I 3 6) (A 2) (A 4) (B 5) (I 0 2) (I 0 3) (I 0 4) (I 3 2) (I 3 3) (I 3 4) (I 3 7) (I 3 8) (J 3 5) (A 1) = some res) : CG l yX1_closeBracket cX1_closeBracket 2 none rmX1_closeBracket D cy (dn cy LY_X1X5 ad P V I J A B) [.ref (ad 0), .ref (ad 3)] none (dn cy LY_X1X5 ad P V (gp I [(0, 2, res.1), (0, 3, res.2.1), (0, 4, res.2.2.1), (3, 2, res.2.2.2.1), (3, 3, res.2.2.2.2.1), (3, 4, res.2.2.2.2.2.1), (3, 7, res.2.2.2.2.2.2.1), (3, 8, res.2.2.2.2.2.2.2.1)]) (gp J [(3, 5, res.2.2.2.2.2.2.2.2.1)]) (gm A [(1, res.2.2.2.2.2.2.2.2.2)]) (gm B [])) := by
  refine CG.of (own := RX1) (by decide) rfl rfl ?_
  intro p e s m below meth c ls Af C0 hK hN hA hW hl
  have hW : wd D (dn cy LY_X1X5 ad P V (gp I [(0, 2, (I 0 2)), (0, 3, (I 0 3)), (0, 4, (I 0 4)), (3, 2, (I 3 2)), (3, 3, (I 3 3)), (3, 4, (I 3 4)), (3, 7, (I 3 7)), (3, 8, (I 3 8))]) (gp J [(3, 5, (J 3 5))]) (gm A [(1, (A 1))]) (gm B [])) Af s.heap s.heap [] := wd_sel [(0, 2), (0, 3), (0, 4), (3, 2), (3, 3), (3, 4), (3, 7), (3, 8)] [(3, 5)] [1] [] hW
  have hl : lv_has ls 2 [(0, .ref (ad 0)), (1, .ref (ad 3))] := hl
  unfold fX1_closeBracket at hf
  refine lv_aload_n C0.1 C0.2.1 dX1_closeBracket_0 rfl (lv_at hl 0 rfl) ?_
  refine lv_iconst (v := 1) C0.1 C0.2.1 dX1_closeBracket_1 kI_1 ?_
  obtain ⟨y1, hy1, hf⟩ := b_some hf
  refine c_Vv C0 hK hN hl.1 hW hA (KX1_emitDownTo l D cy  (fun q => ad (pl_LY_X1X5_LY_X1_0_1_2.getD q 0)) (fun q => P (pl_LY_X1X5_LY_X1_0_1_2.getD q 0)) (fun q => Vx LY_X1X5 ad V (pl_LY_X1X5_LY_X1_0_1_2.getD q 0)) (fun q => gp I [(0, 2, (I 0 2)), (0, 3, (I 0 3)), (0, 4, (I 0 4)), (3, 2, (I 3 2)), (3, 3, (I 3 3)), (3, 4, (I 3 4)), (3, 7, (I 3 7)), (3, 8, (I 3 8))] (pl_LY_X1X5_LY_X1_0_1_2.getD q 0)) (fun q => gp J [(3, 5, (J 3 5))] (pl_LY_X1X5_LY_X1_0_1_2.getD q 0)) (fun q => gm A [(1, (A 1))] (pl_LY_X1X5_LY_X1_0_1_2.getD q 0)) (fun q => gm B [] (pl_LY_X1X5_LY_X1_0_1_2.getD q 0)) 1 hy1) (JN_subC (pl := pl_LY_X1X5_LY_X1_0_1_2) sb_LY_X1X5_LY_X1_0_1_2 rfl rfl rfl rfl rfl rfl rfl rfl rfl) (Uw_V uw_581 uw_583 us_19 uw_11 uw_584) rfl rfl hd_X1_emitDownTo ⟨rfl, rfl⟩ rfl (dn_some LY_X1X5_0) rfl rfl rfl dX1_closeBracket_2 ⟨Nat.zero_le _, Nat.zero_le _⟩ (fun H locs hW => ?_)
  have hW : wd D (dn cy LY_X1X5 ad P V (gp I [(0, 2, y1.1), (0, 3, (I 0 3)), (0, 4, y1.2.1), (3, 2, (I 3 2)), (3, 3, (I 3 3)), (3, 4, (I 3 4)), (3, 7, (I 3 7)), (3, 8, (I 3 8))]) (gp J [(3, 5, (J 3 5))]) (gm A [(1, y1.2.2)]) (gm B [])) Af s.heap H locs := hW
  refine lv_aload_n C0.1 C0.2.1 dX1_closeBracket_5 rfl (lv_at hl 0 rfl) ?_
  obtain ⟨y2, hy2, hf⟩ := b_some hf
  refine c_Vi C0 hK hN hl.1 hW hA (KX1_pop l D cy  (fun q => ad (pl_LY_X1X5_LY_X1_0_1_2.getD q 0)) (fun q => P (pl_LY_X1X5_LY_X1_0_1_2.getD q 0)) (fun q => Vx LY_X1X5 ad V (pl_LY_X1X5_LY_X1_0_1_2.getD q 0)) (fun q => gp I [(0, 2, y1.1), (0, 3, (I 0 3)), (0, 4, y1.2.1), (3, 2, (I 3 2)), (3, 3, (I 3 3)), (3, 4, (I 3 4)), (3, 7, (I 3 7)), (3, 8, (I 3 8))] (pl_LY_X1X5_LY_X1_0_1_2.getD q 0)) (fun q => gp J [(3, 5, (J 3 5))] (pl_LY_X1X5_LY_X1_0_1_2.getD q 0)) (fun q => gm A [(1, y1.2.2)] (pl_LY_X1X5_LY_X1_0_1_2.getD q 0)) (fun q => gm B [] (pl_LY_X1X5_LY_X1_0_1_2.getD q 0))  hy2) (JN_subC (pl := pl_LY_X1X5_LY_X1_0_1_2) sb_LY_X1X5_LY_X1_0_1_2 rfl rfl rfl rfl rfl rfl rfl rfl rfl) (Uw_V uw_588 uw_590 us_20 uw_11 uw_591) rfl rfl hd_X1_pop ⟨rfl, rfl⟩ rfl (dn_some LY_X1X5_0) rfl rfl rfl dX1_closeBracket_6 ⟨Nat.zero_le _, Nat.zero_le _⟩ (fun H locs hW => ?_)
  have hW : wd D (dn cy LY_X1X5 ad P V (gp I [(0, 2, y2.2), (0, 3, (I 0 3)), (0, 4, y1.2.1), (3, 2, (I 3 2)), (3, 3, (I 3 3)), (3, 4, (I 3 4)), (3, 7, (I 3 7)), (3, 8, (I 3 8))]) (gp J [(3, 5, (J 3 5))]) (gm A [(1, y1.2.2)]) (gm B [])) Af s.heap H locs := hW
  refine lv_pop C0.1 C0.2.1 dX1_closeBracket_9 rfl ?_
  refine lv_aload_n C0.1 C0.2.1 dX1_closeBracket_10 rfl (lv_at hl 0 rfl) ?_
  refine lv_dup C0.1 C0.2.1 dX1_closeBracket_11 rfl ?_
  refine s_get (v := .int (I 0 3)) C0 hK hW 0 3 LY_X1X5_0 rfl fg_X1_22 rfl dX1_closeBracket_12 ?_
  refine lv_iconst (v := 1) C0.1 C0.2.1 dX1_closeBracket_15 kI_1 ?_
  refine lv_isub C0.1 C0.2.1 dX1_closeBracket_16 ?_
  refine s_putI C0 hK hW 0 3 LY_X1X5_0 rfl fg_X1_22 fp_X1_3 rfl dX1_closeBracket_17 (fun H locs hW => ?_)
  have hW : wd D (dn cy LY_X1X5 ad P V (gp I [(0, 2, y2.2), (0, 3, ((I 0 3) - 1)), (0, 4, y1.2.1), (3, 2, (I 3 2)), (3, 3, (I 3 3)), (3, 4, (I 3 4)), (3, 7, (I 3 7)), (3, 8, (I 3 8))]) (gp J [(3, 5, (J 3 5))]) (gm A [(1, y1.2.2)]) (gm B [])) Af s.heap H locs := hW
  refine lv_aload_n C0.1 C0.2.1 dX1_closeBracket_20 rfl (lv_at hl 0 rfl) ?_
  obtain ⟨y3, hy3, hf⟩ := b_some hf
  refine c_Vv C0 hK hN hl.1 hW hA (KX1_closeNots l D cy  (fun q => ad (pl_LY_X1X5_LY_X1_0_1_2.getD q 0)) (fun q => P (pl_LY_X1X5_LY_X1_0_1_2.getD q 0)) (fun q => Vx LY_X1X5 ad V (pl_LY_X1X5_LY_X1_0_1_2.getD q 0)) (fun q => gp I [(0, 2, y2.2), (0, 3, ((I 0 3) - 1)), (0, 4, y1.2.1), (3, 2, (I 3 2)), (3, 3, (I 3 3)), (3, 4, (I 3 4)), (3, 7, (I 3 7)), (3, 8, (I 3 8))] (pl_LY_X1X5_LY_X1_0_1_2.getD q 0)) (fun q => gp J [(3, 5, (J 3 5))] (pl_LY_X1X5_LY_X1_0_1_2.getD q 0)) (fun q => gm A [(1, y1.2.2)] (pl_LY_X1X5_LY_X1_0_1_2.getD q 0)) (fun q => gm B [] (pl_LY_X1X5_LY_X1_0_1_2.getD q 0))  hy3) (JN_subC (pl := pl_LY_X1X5_LY_X1_0_1_2) sb_LY_X1X5_LY_X1_0_1_2 rfl rfl rfl rfl rfl rfl rfl rfl rfl) (Uw_V uw_568 uw_570 us_16 uw_11 uw_571) rfl rfl hd_X1_closeNots ⟨rfl, rfl⟩ rfl (dn_some LY_X1X5_0) rfl rfl rfl dX1_closeBracket_21 ⟨Nat.zero_le _, Nat.zero_le _⟩ (fun H locs hW => ?_)
  have hW : wd D (dn cy LY_X1X5 ad P V (gp I [(0, 2, y3.1), (0, 3, y3.2.1), (0, 4, y3.2.2.1), (3, 2, (I 3 2)), (3, 3, (I 3 3)), (3, 4, (I 3 4)), (3, 7, (I 3 7)), (3, 8, (I 3 8))]) (gp J [(3, 5, (J 3 5))]) (gm A [(1, y3.2.2.2)]) (gm B [])) Af s.heap H locs := hW
  refine lv_aload_n C0.1 C0.2.1 dX1_closeBracket_24 rfl (lv_at hl 1 rfl) ?_
  obtain ⟨y4, hy4, hf⟩ := b_some hf
  refine c_Vv C0 hK hN hl.1 hW hA (KX5_next l D cy  (fun q => ad (pl_LY_X1X5_LY_X5_3_4_5.getD q 0)) (fun q => P (pl_LY_X1X5_LY_X5_3_4_5.getD q 0)) (fun q => Vx LY_X1X5 ad V (pl_LY_X1X5_LY_X5_3_4_5.getD q 0)) (fun q => gp I [(0, 2, y3.1), (0, 3, y3.2.1), (0, 4, y3.2.2.1), (3, 2, (I 3 2)), (3, 3, (I 3 3)), (3, 4, (I 3 4)), (3, 7, (I 3 7)), (3, 8, (I 3 8))] (pl_LY_X1X5_LY_X5_3_4_5.getD q 0)) (fun q => gp J [(3, 5, (J 3 5))] (pl_LY_X1X5_LY_X5_3_4_5.getD q 0)) (fun q => gm A [(1, y3.2.2.2)] (pl_LY_X1X5_LY_X5_3_4_5.getD q 0)) (fun q => gm B [] (pl_LY_X1X5_LY_X5_3_4_5.getD q 0))  hy4) (JN_subC (pl := pl_LY_X1X5_LY_X5_3_4_5) sb_LY_X1X5_LY_X5_3_4_5 rfl rfl rfl rfl rfl rfl rfl rfl rfl) (Uw_V uw_576 uw_455 uw_456 uw_2 uw_457) rfl rfl hd_X5_next ⟨rfl, rfl⟩ rfl (dn_some LY_X1X5_3) rfl rfl rfl dX1_closeBracket_25 ⟨Nat.zero_le _, Nat.zero_le _⟩ (fun H locs hW => ?_)
  have hW : wd D (dn cy LY_X1X5 ad P V (gp I [(0, 2, y3.1), (0, 3, y3.2.1), (0, 4, y3.2.2.1), (3, 2, y4.1), (3, 3, y4.2.1), (3, 4, y4.2.2.1), (3, 7, y4.2.2.2.1), (3, 8, y4.2.2.2.2.1)]) (gp J [(3, 5, y4.2.2.2.2.2)]) (gm A [(1, y3.2.2.2)]) (gm B [])) Af s.heap H locs := hW
  obtain rfl := Option.some.inj hf
  exact r_void C0 hK hW dX1_closeBracket_28
-- X1_readOperator
def rmX1_readOperator : Room := { frames := 4, cells := 0, slots := 0, locals := 83 }
def SX1_readOperator_68 (p : Program) (l : Launch) (e : Env) (s : State) (m : MethodId) (args : Array Value) (below : List Frame) (meth : Method) (c : Code) (D : va_G) (cy : Nat → ClassId) (ad : Nat → Nat) (P : MP) (V : MV) (I : MI) (J : MJ) (A : MI) (B : MJ) (Af : Nat → Prop) (res : Int32 × Int32 × Int32 × Int32 × Int32 × Int32 × Int32 × Int32 × Int64 × (Nat → Int32) × (Nat → Int32)) (k : Int32 → Int32 → Int32 → Int32 → Int32 → Int32 → Int32 → Int32 → Int64 → (Nat → Int32) → (Nat → Int32) → Option (Int32 × Int32 × Int32 × Int32 × Int32 × Int32 × Int32 × Int32 × Int64 × (Nat → Int32) × (Nat → Int32))) : Prop := ∀ (w_waiting : Int32) (w_length : Int32) (p_behind : Int32) (p_place : Int32) (p_takenPlace : Int32) (p_token : Int32) (p_number : Int32) (p_fault : Int32) (p_name : Int64) (w_code : (Nat → Int32)) (w_stack : (Nat → Int32)) (H : Heap) (locs : List Loc) (ls : Array Slot), wd D (dn cy LY_X1X5 ad P V (gp I [(0, 2, w_waiting), (0, 4, w_length), (3, 2, p_behind), (3, 3, p_place), (3, 4, p_takenPlace), (3, 7, p_token), (3, 8, p_number), (3, 9, p_fault)]) (gp J [(3, 5, p_name)]) (gm A [(1, w_code), (2, w_stack)]) (gm B [])) Af s.heap H locs → lv_has ls 3 [(0, .ref (ad 0)), (1, .ref (ad 3))] → k w_waiting w_length p_behind p_place p_takenPlace p_token p_number p_fault p_name w_code w_stack = some res → W p l e rmX1_readOperator s m args below meth c H locs 0 0 (ZQ below D cy (dn cy LY_X1X5 ad P V (gp I [(0, 2, res.1), (0, 4, res.2.1), (3, 2, res.2.2.1), (3, 3, res.2.2.2.1), (3, 4, res.2.2.2.2.1), (3, 7, res.2.2.2.2.2.1), (3, 8, res.2.2.2.2.2.2.1), (3, 9, res.2.2.2.2.2.2.2.1)]) (gp J [(3, 5, res.2.2.2.2.2.2.2.2.1)]) (gm A [(1, res.2.2.2.2.2.2.2.2.2.1), (2, res.2.2.2.2.2.2.2.2.2.2)]) (gm B [])) none Af args s) (F0 m 68 ls [])
def SX1_readOperator_29 (p : Program) (l : Launch) (e : Env) (s : State) (m : MethodId) (args : Array Value) (below : List Frame) (meth : Method) (c : Code) (D : va_G) (cy : Nat → ClassId) (ad : Nat → Nat) (P : MP) (V : MV) (I : MI) (J : MJ) (A : MI) (B : MJ) (Af : Nat → Prop) (res : Int32 × Int32 × Int32 × Int32 × Int32 × Int32 × Int32 × Int32 × Int64 × (Nat → Int32) × (Nat → Int32)) (k : Int32 → Int32 → Int32 → Int32 → Int32 → Int32 → Int32 → Int32 → Int64 → (Nat → Int32) → (Nat → Int32) → Int32 → Int32 → Option (Int32 × Int32 × Int32 × Int32 × Int32 × Int32 × Int32 × Int32 × Int64 × (Nat → Int32) × (Nat → Int32))) : Prop := ∀ (w_waiting : Int32) (w_length : Int32) (p_behind : Int32) (p_place : Int32) (p_takenPlace : Int32) (p_token : Int32) (p_number : Int32) (p_fault : Int32) (p_name : Int64) (w_code : (Nat → Int32)) (w_stack : (Nat → Int32)) (v2 : Int32) (x0 : Int32) (H : Heap) (locs : List Loc) (ls : Array Slot), wd D (dn cy LY_X1X5 ad P V (gp I [(0, 2, w_waiting), (0, 4, w_length), (3, 2, p_behind), (3, 3, p_place), (3, 4, p_takenPlace), (3, 7, p_token), (3, 8, p_number), (3, 9, p_fault)]) (gp J [(3, 5, p_name)]) (gm A [(1, w_code), (2, w_stack)]) (gm B [])) Af s.heap H locs → lv_has ls 3 [(0, .ref (ad 0)), (1, .ref (ad 3)), (2, .int v2)] → k w_waiting w_length p_behind p_place p_takenPlace p_token p_number p_fault p_name w_code w_stack v2 x0 = some res → W p l e rmX1_readOperator s m args below meth c H locs 0 0 (ZQ below D cy (dn cy LY_X1X5 ad P V (gp I [(0, 2, res.1), (0, 4, res.2.1), (3, 2, res.2.2.1), (3, 3, res.2.2.2.1), (3, 4, res.2.2.2.2.1), (3, 7, res.2.2.2.2.2.1), (3, 8, res.2.2.2.2.2.2.1), (3, 9, res.2.2.2.2.2.2.2.1)]) (gp J [(3, 5, res.2.2.2.2.2.2.2.2.1)]) (gm A [(1, res.2.2.2.2.2.2.2.2.2.1), (2, res.2.2.2.2.2.2.2.2.2.2)]) (gm B [])) none Af args s) (F0 m 29 ls [.int x0, .ref (ad 0)])
def fX1_readOperator_68 (p_length : Int32) (p_signs : (Nat → Int32)) (p_words : (Nat → Int64)) (w_waiting : Int32) (w_length : Int32) (p_behind : Int32) (p_place : Int32) (p_takenPlace : Int32) (p_token : Int32) (p_number : Int32) (p_fault : Int32) (p_name : Int64) (w_code : (Nat → Int32)) (w_stack : (Nat → Int32)) : Option (Int32 × Int32 × Int32 × Int32 × Int32 × Int32 × Int32 × Int32 × Int64 × (Nat → Int32) × (Nat → Int32)) := Option.bind (fX1_push w_waiting w_stack p_token) fun y1 => (Option.bind (fX5_next p_length p_signs p_words p_behind p_place p_takenPlace p_token p_number p_name) fun y2 => (some (y1.1, w_length, y2.1, y2.2.1, y2.2.2.1, y2.2.2.2.1, y2.2.2.2.2.1, p_fault, y2.2.2.2.2.2, w_code, y1.2)))
set_option maxHeartbeats 4000000 in
set_option maxRecDepth 100000 in
theorem tX1_readOperator_68 {p : Program} {l : Launch} {e : Env} {s : State} {m : MethodId} {args : Array Value} {below : List Frame} {meth : Method} {c : Code} {D : va_G} {cy : Nat → ClassId} {ad : Nat → Nat} {P : MP} {V : MV} {I : MI} {J : MJ} {A : MI} {B : MJ} {Af : Nat → Prop} {res : Int32 × Int32 × Int32 × Int32 × Int32 × Int32 × Int32 × Int32 × Int64 × (Nat → Int32) × (Nat → Int32)} (C0 : CX p s m args meth c cX1_readOperator 3 none RX1) (hK : va_K D vwCl (tyG cy) s) (hN : NWs s) (hA : ∀ q, s.heap.size ≤ q → Af q) : SX1_readOperator_68 p l e s m args below meth c D cy ad P V I J A B Af res (fX1_readOperator_68 (I 3 6) (A 4) (B 5)) := by
  intro w_waiting w_length p_behind p_place p_takenPlace p_token p_number p_fault p_name w_code w_stack H locs ls hW hl hf
  unfold fX1_readOperator_68 at hf
  refine lv_aload_n C0.1 C0.2.1 dX1_readOperator_68 rfl (lv_at hl 0 rfl) ?_
  refine lv_aload_n C0.1 C0.2.1 dX1_readOperator_69 rfl (lv_at hl 1 rfl) ?_
  refine s_get (v := .int p_token) C0 hK hW 3 7 LY_X1X5_3 rfl fg_X1_34 rfl dX1_readOperator_70 ?_
  obtain ⟨y1, hy1, hf⟩ := b_some hf
  refine c_Vv C0 hK hN hl.1 hW hA (KX1_push l D cy  (fun q => ad (pl_LY_X1X5_LY_X1_0_1_2.getD q 0)) (fun q => P (pl_LY_X1X5_LY_X1_0_1_2.getD q 0)) (fun q => Vx LY_X1X5 ad V (pl_LY_X1X5_LY_X1_0_1_2.getD q 0)) (fun q => gp I [(0, 2, w_waiting), (0, 4, w_length), (3, 2, p_behind), (3, 3, p_place), (3, 4, p_takenPlace), (3, 7, p_token), (3, 8, p_number), (3, 9, p_fault)] (pl_LY_X1X5_LY_X1_0_1_2.getD q 0)) (fun q => gp J [(3, 5, p_name)] (pl_LY_X1X5_LY_X1_0_1_2.getD q 0)) (fun q => gm A [(1, w_code), (2, w_stack)] (pl_LY_X1X5_LY_X1_0_1_2.getD q 0)) (fun q => gm B [] (pl_LY_X1X5_LY_X1_0_1_2.getD q 0)) p_token hy1) (JN_subC (pl := pl_LY_X1X5_LY_X1_0_1_2) sb_LY_X1X5_LY_X1_0_1_2 rfl rfl rfl rfl rfl rfl rfl rfl rfl) (Uw_V uw_572 uw_574 us_17 uw_11 uw_575) rfl rfl hd_X1_push ⟨rfl, rfl⟩ rfl (dn_some LY_X1X5_0) rfl rfl rfl dX1_readOperator_73 ⟨Nat.zero_le _, Nat.zero_le _⟩ (fun H locs hW => ?_)
  have hW : wd D (dn cy LY_X1X5 ad P V (gp I [(0, 2, y1.1), (0, 4, w_length), (3, 2, p_behind), (3, 3, p_place), (3, 4, p_takenPlace), (3, 7, p_token), (3, 8, p_number), (3, 9, p_fault)]) (gp J [(3, 5, p_name)]) (gm A [(1, w_code), (2, y1.2)]) (gm B [])) Af s.heap H locs := hW
  refine lv_aload_n C0.1 C0.2.1 dX1_readOperator_76 rfl (lv_at hl 1 rfl) ?_
  obtain ⟨y2, hy2, hf⟩ := b_some hf
  refine c_Vv C0 hK hN hl.1 hW hA (KX5_next l D cy  (fun q => ad (pl_LY_X1X5_LY_X5_3_4_5.getD q 0)) (fun q => P (pl_LY_X1X5_LY_X5_3_4_5.getD q 0)) (fun q => Vx LY_X1X5 ad V (pl_LY_X1X5_LY_X5_3_4_5.getD q 0)) (fun q => gp I [(0, 2, y1.1), (0, 4, w_length), (3, 2, p_behind), (3, 3, p_place), (3, 4, p_takenPlace), (3, 7, p_token), (3, 8, p_number), (3, 9, p_fault)] (pl_LY_X1X5_LY_X5_3_4_5.getD q 0)) (fun q => gp J [(3, 5, p_name)] (pl_LY_X1X5_LY_X5_3_4_5.getD q 0)) (fun q => gm A [(1, w_code), (2, y1.2)] (pl_LY_X1X5_LY_X5_3_4_5.getD q 0)) (fun q => gm B [] (pl_LY_X1X5_LY_X5_3_4_5.getD q 0))  hy2) (JN_subC (pl := pl_LY_X1X5_LY_X5_3_4_5) sb_LY_X1X5_LY_X5_3_4_5 rfl rfl rfl rfl rfl rfl rfl rfl rfl) (Uw_V uw_576 uw_455 uw_456 uw_2 uw_457) rfl rfl hd_X5_next ⟨rfl, rfl⟩ rfl (dn_some LY_X1X5_3) rfl rfl rfl dX1_readOperator_77 ⟨Nat.zero_le _, Nat.zero_le _⟩ (fun H locs hW => ?_)
  have hW : wd D (dn cy LY_X1X5 ad P V (gp I [(0, 2, y1.1), (0, 4, w_length), (3, 2, y2.1), (3, 3, y2.2.1), (3, 4, y2.2.2.1), (3, 7, y2.2.2.2.1), (3, 8, y2.2.2.2.2.1), (3, 9, p_fault)]) (gp J [(3, 5, y2.2.2.2.2.2)]) (gm A [(1, w_code), (2, y1.2)]) (gm B [])) Af s.heap H locs := hW
  obtain rfl := Option.some.inj hf
  exact r_void C0 hK hW dX1_readOperator_80
def fX1_readOperator_29 (p_length : Int32) (p_signs : (Nat → Int32)) (p_words : (Nat → Int64)) (w_waiting : Int32) (w_length : Int32) (p_behind : Int32) (p_place : Int32) (p_takenPlace : Int32) (p_token : Int32) (p_number : Int32) (p_fault : Int32) (p_name : Int64) (w_code : (Nat → Int32)) (w_stack : (Nat → Int32)) (v2 : Int32) (x0 : Int32) : Option (Int32 × Int32 × Int32 × Int32 × Int32 × Int32 × Int32 × Int32 × Int64 × (Nat → Int32) × (Nat → Int32)) := Option.bind (fX1_emitDownTo w_stack w_waiting w_length w_code x0) fun y1 => (if v2 = 2 then (if y1.1 ≤ 0 then (fX1_readOperator_68 p_length p_signs p_words y1.1 y1.2.1 p_behind p_place p_takenPlace p_token p_number p_fault p_name y1.2.2 w_stack) else (bif inb (y1.1 - 1) 32 then (Option.bind (fX1_rankOf (w_stack (Int32.toNatClampNeg (y1.1 - 1)))) fun y5 => (if y5 = 2 then (Option.bind (fX5_refuse p_place p_fault 1) fun y7 => (some (y1.1, y1.2.1, p_behind, p_place, p_takenPlace, p_token, p_number, y7, p_name, y1.2.2, w_stack))) else (fX1_readOperator_68 p_length p_signs p_words y1.1 y1.2.1 p_behind p_place p_takenPlace p_token p_number p_fault p_name y1.2.2 w_stack))) else none)) else (fX1_readOperator_68 p_length p_signs p_words y1.1 y1.2.1 p_behind p_place p_takenPlace p_token p_number p_fault p_name y1.2.2 w_stack))
set_option maxHeartbeats 4000000 in
set_option maxRecDepth 100000 in
theorem tX1_readOperator_29 {p : Program} {l : Launch} {e : Env} {s : State} {m : MethodId} {args : Array Value} {below : List Frame} {meth : Method} {c : Code} {D : va_G} {cy : Nat → ClassId} {ad : Nat → Nat} {P : MP} {V : MV} {I : MI} {J : MJ} {A : MI} {B : MJ} {Af : Nat → Prop} {res : Int32 × Int32 × Int32 × Int32 × Int32 × Int32 × Int32 × Int32 × Int64 × (Nat → Int32) × (Nat → Int32)} (C0 : CX p s m args meth c cX1_readOperator 3 none RX1) (hK : va_K D vwCl (tyG cy) s) (hN : NWs s) (hA : ∀ q, s.heap.size ≤ q → Af q) : SX1_readOperator_29 p l e s m args below meth c D cy ad P V I J A B Af res (fX1_readOperator_29 (I 3 6) (A 4) (B 5)) := by
  intro w_waiting w_length p_behind p_place p_takenPlace p_token p_number p_fault p_name w_code w_stack v2 x0 H locs ls hW hl hf
  unfold fX1_readOperator_29 at hf
  obtain ⟨y1, hy1, hf⟩ := b_some hf
  refine c_Vv C0 hK hN hl.1 hW hA (KX1_emitDownTo l D cy  (fun q => ad (pl_LY_X1X5_LY_X1_0_1_2.getD q 0)) (fun q => P (pl_LY_X1X5_LY_X1_0_1_2.getD q 0)) (fun q => Vx LY_X1X5 ad V (pl_LY_X1X5_LY_X1_0_1_2.getD q 0)) (fun q => gp I [(0, 2, w_waiting), (0, 4, w_length), (3, 2, p_behind), (3, 3, p_place), (3, 4, p_takenPlace), (3, 7, p_token), (3, 8, p_number), (3, 9, p_fault)] (pl_LY_X1X5_LY_X1_0_1_2.getD q 0)) (fun q => gp J [(3, 5, p_name)] (pl_LY_X1X5_LY_X1_0_1_2.getD q 0)) (fun q => gm A [(1, w_code), (2, w_stack)] (pl_LY_X1X5_LY_X1_0_1_2.getD q 0)) (fun q => gm B [] (pl_LY_X1X5_LY_X1_0_1_2.getD q 0)) x0 hy1) (JN_subC (pl := pl_LY_X1X5_LY_X1_0_1_2) sb_LY_X1X5_LY_X1_0_1_2 rfl rfl rfl rfl rfl rfl rfl rfl rfl) (Uw_V uw_581 uw_583 us_19 uw_11 uw_584) rfl rfl hd_X1_emitDownTo ⟨rfl, rfl⟩ rfl (dn_some LY_X1X5_0) rfl rfl rfl dX1_readOperator_29 ⟨Nat.zero_le _, Nat.zero_le _⟩ (fun H locs hW => ?_)
  have hW : wd D (dn cy LY_X1X5 ad P V (gp I [(0, 2, y1.1), (0, 4, y1.2.1), (3, 2, p_behind), (3, 3, p_place), (3, 4, p_takenPlace), (3, 7, p_token), (3, 8, p_number), (3, 9, p_fault)]) (gp J [(3, 5, p_name)]) (gm A [(1, y1.2.2), (2, w_stack)]) (gm B [])) Af s.heap H locs := hW
  refine lv_iload_n C0.1 C0.2.1 dX1_readOperator_32 rfl (lv_at hl 2 rfl) ?_
  refine lv_iconst (v := 2) C0.1 C0.2.1 dX1_readOperator_33 kI_2 ?_
  refine lv_icmp_ne (tgt := 68) C0.1 C0.2.1 dX1_readOperator_34 (by decide) (fun hc2 => ?_) (fun hc2 => ?_)
  · have hf := ite_f hc2 hf
    exact tX1_readOperator_68 C0 hK hN hA  y1.1 y1.2.1 p_behind p_place p_takenPlace p_token p_number p_fault p_name y1.2.2 w_stack H locs ls hW (lv_sub hl [0, 1] rfl) hf
  · have hf := ite_t hc2 hf
    refine lv_aload_n C0.1 C0.2.1 dX1_readOperator_37 rfl (lv_at hl 0 rfl) ?_
    refine s_get (v := .int y1.1) C0 hK hW 0 2 LY_X1X5_0 rfl fg_X1_18 rfl dX1_readOperator_38 ?_
    refine lv_if_le (tgt := 68) C0.1 C0.2.1 dX1_readOperator_41 (by decide) (fun hc3 => ?_) (fun hc3 => ?_)
    · have hf := ite_t hc3 hf
      exact tX1_readOperator_68 C0 hK hN hA  y1.1 y1.2.1 p_behind p_place p_takenPlace p_token p_number p_fault p_name y1.2.2 w_stack H locs ls hW (lv_sub hl [0, 1] rfl) hf
    · have hf := ite_f hc3 hf
      refine lv_aload_n C0.1 C0.2.1 dX1_readOperator_44 rfl (lv_at hl 0 rfl) ?_
      refine s_get (v := .ref (ad 2)) C0 hK hW 0 1 LY_X1X5_0 rfl fg_X1_15 rfl dX1_readOperator_45 ?_
      refine lv_aload_n C0.1 C0.2.1 dX1_readOperator_48 rfl (lv_at hl 0 rfl) ?_
      refine s_get (v := .int y1.1) C0 hK hW 0 2 LY_X1X5_0 rfl fg_X1_18 rfl dX1_readOperator_49 ?_
      refine lv_iconst (v := 1) C0.1 C0.2.1 dX1_readOperator_52 kI_1 ?_
      refine lv_isub C0.1 C0.2.1 dX1_readOperator_53 ?_
      obtain ⟨hb4, hf⟩ := g_some hf
      refine s_iald (v := (w_stack (Int32.toNatClampNeg (y1.1 - 1)))) C0 hK hW 2 LY_X1X5_2 hb4 rfl dX1_readOperator_54 ?_
      obtain ⟨y5, hy5, hf⟩ := b_some hf
      refine c_Si C0 hK hN hl.1 hW hA (KX1_rankOf l D cy  (fun q => ad (pl_LY_X1X5_LY_0_.getD q 0)) (fun q => P (pl_LY_X1X5_LY_0_.getD q 0)) (fun q => Vx LY_X1X5 ad V (pl_LY_X1X5_LY_0_.getD q 0)) (fun q => gp I [(0, 2, y1.1), (0, 4, y1.2.1), (3, 2, p_behind), (3, 3, p_place), (3, 4, p_takenPlace), (3, 7, p_token), (3, 8, p_number), (3, 9, p_fault)] (pl_LY_X1X5_LY_0_.getD q 0)) (fun q => gp J [(3, 5, p_name)] (pl_LY_X1X5_LY_0_.getD q 0)) (fun q => gm A [(1, y1.2.2), (2, w_stack)] (pl_LY_X1X5_LY_0_.getD q 0)) (fun q => gm B [] (pl_LY_X1X5_LY_0_.getD q 0)) (w_stack (Int32.toNatClampNeg (y1.1 - 1))) hy5) (JN_subC (pl := pl_LY_X1X5_LY_0_) sb_LY_X1X5_LY_0_ rfl rfl rfl rfl rfl rfl rfl rfl rfl) ⟨uw_585, uw_586, uw_11, uw_587⟩ rfl rfl hd_X1_rankOf ⟨rfl, rfl⟩ rfl rfl rfl dX1_readOperator_55 ⟨Nat.zero_le _, Nat.zero_le _⟩ (fun H locs hW => ?_)
      have hW : wd D (dn cy LY_X1X5 ad P V (gp I [(0, 2, y1.1), (0, 4, y1.2.1), (3, 2, p_behind), (3, 3, p_place), (3, 4, p_takenPlace), (3, 7, p_token), (3, 8, p_number), (3, 9, p_fault)]) (gp J [(3, 5, p_name)]) (gm A [(1, y1.2.2), (2, w_stack)]) (gm B [])) Af s.heap H locs := hW
      refine lv_iconst (v := 2) C0.1 C0.2.1 dX1_readOperator_58 kI_2 ?_
      refine lv_icmp_ne (tgt := 68) C0.1 C0.2.1 dX1_readOperator_59 (by decide) (fun hc6 => ?_) (fun hc6 => ?_)
      · have hf := ite_f hc6 hf
        exact tX1_readOperator_68 C0 hK hN hA  y1.1 y1.2.1 p_behind p_place p_takenPlace p_token p_number p_fault p_name y1.2.2 w_stack H locs ls hW (lv_sub hl [0, 1] rfl) hf
      · have hf := ite_t hc6 hf
        refine lv_aload_n C0.1 C0.2.1 dX1_readOperator_62 rfl (lv_at hl 1 rfl) ?_
        refine lv_iconst (v := 1) C0.1 C0.2.1 dX1_readOperator_63 kI_1 ?_
        obtain ⟨y7, hy7, hf⟩ := b_some hf
        refine c_Vv C0 hK hN hl.1 hW hA (KX5_refuse l D cy  (fun q => ad (pl_LY_X1X5_LY_X5_3_4_5.getD q 0)) (fun q => P (pl_LY_X1X5_LY_X5_3_4_5.getD q 0)) (fun q => Vx LY_X1X5 ad V (pl_LY_X1X5_LY_X5_3_4_5.getD q 0)) (fun q => gp I [(0, 2, y1.1), (0, 4, y1.2.1), (3, 2, p_behind), (3, 3, p_place), (3, 4, p_takenPlace), (3, 7, p_token), (3, 8, p_number), (3, 9, p_fault)] (pl_LY_X1X5_LY_X5_3_4_5.getD q 0)) (fun q => gp J [(3, 5, p_name)] (pl_LY_X1X5_LY_X5_3_4_5.getD q 0)) (fun q => gm A [(1, y1.2.2), (2, w_stack)] (pl_LY_X1X5_LY_X5_3_4_5.getD q 0)) (fun q => gm B [] (pl_LY_X1X5_LY_X5_3_4_5.getD q 0)) 1 hy7) (JN_subC (pl := pl_LY_X1X5_LY_X5_3_4_5) sb_LY_X1X5_LY_X5_3_4_5 rfl rfl rfl rfl rfl rfl rfl rfl rfl) (Uw_V uw_563 uw_485 uw_486 uw_2 uw_487) rfl rfl hd_X5_refuse ⟨rfl, rfl⟩ rfl (dn_some LY_X1X5_3) rfl rfl rfl dX1_readOperator_64 ⟨Nat.zero_le _, Nat.zero_le _⟩ (fun H locs hW => ?_)
        have hW : wd D (dn cy LY_X1X5 ad P V (gp I [(0, 2, y1.1), (0, 4, y1.2.1), (3, 2, p_behind), (3, 3, p_place), (3, 4, p_takenPlace), (3, 7, p_token), (3, 8, p_number), (3, 9, y7)]) (gp J [(3, 5, p_name)]) (gm A [(1, y1.2.2), (2, w_stack)]) (gm B [])) Af s.heap H locs := hW
        obtain rfl := Option.some.inj hf
        exact r_void C0 hK hW dX1_readOperator_67
def fX1_readOperator (p_length : Int32) (p_signs : (Nat → Int32)) (p_words : (Nat → Int64)) (w_waiting : Int32) (w_length : Int32) (p_behind : Int32) (p_place : Int32) (p_takenPlace : Int32) (p_token : Int32) (p_number : Int32) (p_fault : Int32) (p_name : Int64) (w_code : (Nat → Int32)) (w_stack : (Nat → Int32)) : Option (Int32 × Int32 × Int32 × Int32 × Int32 × Int32 × Int32 × Int32 × Int64 × (Nat → Int32) × (Nat → Int32)) := Option.bind (fX1_rankOf p_token) fun y1 => (if y1 = 0 then (Option.bind (fX5_refuse p_place p_fault 1) fun y4 => (some (w_waiting, w_length, p_behind, p_place, p_takenPlace, p_token, p_number, y4, p_name, w_code, w_stack))) else (if y1 = 2 then (fX1_readOperator_29 p_length p_signs p_words w_waiting w_length p_behind p_place p_takenPlace p_token p_number p_fault p_name w_code w_stack y1 3) else (fX1_readOperator_29 p_length p_signs p_words w_waiting w_length p_behind p_place p_takenPlace p_token p_number p_fault p_name w_code w_stack y1 y1)))
set_option maxHeartbeats 4000000 in
set_option maxRecDepth 100000 in
theorem KX1_readOperator (l : Launch) (D : va_G) (cy : Nat → ClassId) (ad : Nat → Nat) (P : MP) (V : MV) (I : MI) (J : MJ) (A : MI) (B : MJ) {res : Int32 × Int32 × Int32 × Int32 × Int32 × Int32 × Int32 × Int32 × Int64 × (Nat → Int32) × (Nat → Int32)} (hf : fX1_readOperator (I 3 6) (A 4) (B 5) (I 0 2) (I 0 4) (I 3 2) (I 3 3) (I 3 4) (I 3 7) (I 3 8) (I 3 9) (J 3 5) (A 1) (A 2) = some res) : CG l yX1_readOperator cX1_readOperator 3 none rmX1_readOperator D cy (dn cy LY_X1X5 ad P V I J A B) [.ref (ad 0), .ref (ad 3)] none (dn cy LY_X1X5 ad P V (gp I [(0, 2, res.1), (0, 4, res.2.1), (3, 2, res.2.2.1), (3, 3, res.2.2.2.1), (3, 4, res.2.2.2.2.1), (3, 7, res.2.2.2.2.2.1), (3, 8, res.2.2.2.2.2.2.1), (3, 9, res.2.2.2.2.2.2.2.1)]) (gp J [(3, 5, res.2.2.2.2.2.2.2.2.1)]) (gm A [(1, res.2.2.2.2.2.2.2.2.2.1), (2, res.2.2.2.2.2.2.2.2.2.2)]) (gm B [])) := by
  refine CG.of (own := RX1) (by decide) rfl rfl ?_
  intro p e s m below meth c ls Af C0 hK hN hA hW hl
  have hW : wd D (dn cy LY_X1X5 ad P V (gp I [(0, 2, (I 0 2)), (0, 4, (I 0 4)), (3, 2, (I 3 2)), (3, 3, (I 3 3)), (3, 4, (I 3 4)), (3, 7, (I 3 7)), (3, 8, (I 3 8)), (3, 9, (I 3 9))]) (gp J [(3, 5, (J 3 5))]) (gm A [(1, (A 1)), (2, (A 2))]) (gm B [])) Af s.heap s.heap [] := wd_sel [(0, 2), (0, 4), (3, 2), (3, 3), (3, 4), (3, 7), (3, 8), (3, 9)] [(3, 5)] [1, 2] [] hW
  have hl : lv_has ls 3 [(0, .ref (ad 0)), (1, .ref (ad 3))] := hl
  unfold fX1_readOperator at hf
  refine lv_aload_n C0.1 C0.2.1 dX1_readOperator_0 rfl (lv_at hl 1 rfl) ?_
  refine s_get (v := .int (I 3 7)) C0 hK hW 3 7 LY_X1X5_3 rfl fg_X1_34 rfl dX1_readOperator_1 ?_
  obtain ⟨y1, hy1, hf⟩ := b_some hf
  refine c_Si C0 hK hN hl.1 hW hA (KX1_rankOf l D cy  (fun q => ad (pl_LY_X1X5_LY_0_.getD q 0)) (fun q => P (pl_LY_X1X5_LY_0_.getD q 0)) (fun q => Vx LY_X1X5 ad V (pl_LY_X1X5_LY_0_.getD q 0)) (fun q => gp I [(0, 2, (I 0 2)), (0, 4, (I 0 4)), (3, 2, (I 3 2)), (3, 3, (I 3 3)), (3, 4, (I 3 4)), (3, 7, (I 3 7)), (3, 8, (I 3 8)), (3, 9, (I 3 9))] (pl_LY_X1X5_LY_0_.getD q 0)) (fun q => gp J [(3, 5, (J 3 5))] (pl_LY_X1X5_LY_0_.getD q 0)) (fun q => gm A [(1, (A 1)), (2, (A 2))] (pl_LY_X1X5_LY_0_.getD q 0)) (fun q => gm B [] (pl_LY_X1X5_LY_0_.getD q 0)) (I 3 7) hy1) (JN_subC (pl := pl_LY_X1X5_LY_0_) sb_LY_X1X5_LY_0_ rfl rfl rfl rfl rfl rfl rfl rfl rfl) ⟨uw_585, uw_586, uw_11, uw_587⟩ rfl rfl hd_X1_rankOf ⟨rfl, rfl⟩ rfl rfl rfl dX1_readOperator_4 ⟨Nat.zero_le _, Nat.zero_le _⟩ (fun H locs hW => ?_)
  have hW : wd D (dn cy LY_X1X5 ad P V (gp I [(0, 2, (I 0 2)), (0, 4, (I 0 4)), (3, 2, (I 3 2)), (3, 3, (I 3 3)), (3, 4, (I 3 4)), (3, 7, (I 3 7)), (3, 8, (I 3 8)), (3, 9, (I 3 9))]) (gp J [(3, 5, (J 3 5))]) (gm A [(1, (A 1)), (2, (A 2))]) (gm B [])) Af s.heap H locs := hW
  refine lv_istore_n (lv' := [(2, .int y1), (0, .ref (ad 0)), (1, .ref (ad 3))]) C0.1 C0.2.1 dX1_readOperator_7 rfl hl (by decide) rfl (fun ls hl => ?_)
  refine lv_iload_n C0.1 C0.2.1 dX1_readOperator_8 rfl (lv_at hl 0 rfl) ?_
  refine lv_if_ne (tgt := 18) C0.1 C0.2.1 dX1_readOperator_9 (by decide) (fun hc2 => ?_) (fun hc2 => ?_)
  · have hf := ite_f hc2 hf
    refine lv_aload_n C0.1 C0.2.1 dX1_readOperator_18 rfl (lv_at hl 1 rfl) ?_
    refine lv_iload_n C0.1 C0.2.1 dX1_readOperator_19 rfl (lv_at hl 0 rfl) ?_
    refine lv_iconst (v := 2) C0.1 C0.2.1 dX1_readOperator_20 kI_2 ?_
    refine lv_icmp_ne (tgt := 28) C0.1 C0.2.1 dX1_readOperator_21 (by decide) (fun hc3 => ?_) (fun hc3 => ?_)
    · have hf := ite_f hc3 hf
      refine lv_iload_n C0.1 C0.2.1 dX1_readOperator_28 rfl (lv_at hl 0 rfl) ?_
      exact tX1_readOperator_29 C0 hK hN hA  (I 0 2) (I 0 4) (I 3 2) (I 3 3) (I 3 4) (I 3 7) (I 3 8) (I 3 9) (J 3 5) (A 1) (A 2) y1 y1 _ _ ls hW (lv_sub hl [1, 2, 0] rfl) hf
    · have hf := ite_t hc3 hf
      refine lv_iconst (v := 3) C0.1 C0.2.1 dX1_readOperator_24 kI_3 ?_
      refine lv_goto (tgt := 29) C0.1 C0.2.1 dX1_readOperator_25 (by decide) ?_
      exact tX1_readOperator_29 C0 hK hN hA  (I 0 2) (I 0 4) (I 3 2) (I 3 3) (I 3 4) (I 3 7) (I 3 8) (I 3 9) (J 3 5) (A 1) (A 2) y1 3 _ _ ls hW (lv_sub hl [1, 2, 0] rfl) hf
  · have hf := ite_t hc2 hf
    refine lv_aload_n C0.1 C0.2.1 dX1_readOperator_12 rfl (lv_at hl 2 rfl) ?_
    refine lv_iconst (v := 1) C0.1 C0.2.1 dX1_readOperator_13 kI_1 ?_
    obtain ⟨y4, hy4, hf⟩ := b_some hf
    refine c_Vv C0 hK hN hl.1 hW hA (KX5_refuse l D cy  (fun q => ad (pl_LY_X1X5_LY_X5_3_4_5.getD q 0)) (fun q => P (pl_LY_X1X5_LY_X5_3_4_5.getD q 0)) (fun q => Vx LY_X1X5 ad V (pl_LY_X1X5_LY_X5_3_4_5.getD q 0)) (fun q => gp I [(0, 2, (I 0 2)), (0, 4, (I 0 4)), (3, 2, (I 3 2)), (3, 3, (I 3 3)), (3, 4, (I 3 4)), (3, 7, (I 3 7)), (3, 8, (I 3 8)), (3, 9, (I 3 9))] (pl_LY_X1X5_LY_X5_3_4_5.getD q 0)) (fun q => gp J [(3, 5, (J 3 5))] (pl_LY_X1X5_LY_X5_3_4_5.getD q 0)) (fun q => gm A [(1, (A 1)), (2, (A 2))] (pl_LY_X1X5_LY_X5_3_4_5.getD q 0)) (fun q => gm B [] (pl_LY_X1X5_LY_X5_3_4_5.getD q 0)) 1 hy4) (JN_subC (pl := pl_LY_X1X5_LY_X5_3_4_5) sb_LY_X1X5_LY_X5_3_4_5 rfl rfl rfl rfl rfl rfl rfl rfl rfl) (Uw_V uw_563 uw_485 uw_486 uw_2 uw_487) rfl rfl hd_X5_refuse ⟨rfl, rfl⟩ rfl (dn_some LY_X1X5_3) rfl rfl rfl dX1_readOperator_14 ⟨Nat.zero_le _, Nat.zero_le _⟩ (fun H locs hW => ?_)
    have hW : wd D (dn cy LY_X1X5 ad P V (gp I [(0, 2, (I 0 2)), (0, 4, (I 0 4)), (3, 2, (I 3 2)), (3, 3, (I 3 3)), (3, 4, (I 3 4)), (3, 7, (I 3 7)), (3, 8, (I 3 8)), (3, 9, y4)]) (gp J [(3, 5, (J 3 5))]) (gm A [(1, (A 1)), (2, (A 2))]) (gm B [])) Af s.heap H locs := hW
    obtain rfl := Option.some.inj hf
    exact r_void C0 hK hW dX1_readOperator_17
