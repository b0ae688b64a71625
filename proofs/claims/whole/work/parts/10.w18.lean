-- X9_winter
def rmX9_winter : Room := { frames := 5, cells := 0, slots := 0, locals := 105 }
def SX9_winter_16 (p : Program) (l : Launch) (e : Env) (s : State) (m : MethodId) (args : Array Value) (below : List Frame) (meth : Method) (c : Code) (D : va_G) (cy : Nat → ClassId) (ad : Nat → Nat) (P : MP) (V : MV) (I : MI) (J : MJ) (A : MI) (B : MJ) (Af : Nat → Prop) (res : Int32 × Int32 × Int32 × Int32 × Int32 × Int32 × Int32 × Int32 × Int32 × Int32 × Int64 × (Nat → Int32) × (Nat → Int32) × (Nat → Int32) × (Nat → Int32)) (k : Int32 → Int32 → Int32 → Int32 → Int32 → Int32 → Int32 → Int32 → Int32 → Int64 → (Nat → Int32) → (Nat → Int32) → (Nat → Int32) → (Nat → Int32) → Option (Int32 × Int32 × Int32 × Int32 × Int32 × Int32 × Int32 × Int32 × Int32 × Int32 × Int64 × (Nat → Int32) × (Nat → Int32) × (Nat → Int32) × (Nat → Int32))) : Prop := ∀ (m_thrown : Int32) (m_taped : Int32) (m_size : Int32) (m_place : Int32) (m_begin : Int32) (m_token : Int32) (m_told : Int32) (m_wrong : Int32) (m_given : Int32) (m_word : Int64) (m_lines : (Nat → Int32)) (m_lineWhat : (Nat → Int32)) (m_lineA : (Nat → Int32)) (m_lineB : (Nat → Int32)) (H : Heap) (locs : List Loc) (ls : Array Slot), wd D (dn cy LY_X9 ad P V (gp I [(0, 0, m_thrown), (0, 1, m_taped), (0, 3, m_size), (0, 4, m_place), (0, 5, m_begin), (0, 6, m_token), (0, 8, m_told), (0, 9, m_wrong), (0, 38, m_given)]) (gp J [(0, 7, m_word)]) (gm A [(28, m_lines), (29, m_lineWhat), (30, m_lineA), (31, m_lineB)]) (gm B [])) Af s.heap H locs → lv_has ls 1 [(0, .ref (ad 0))] → k m_thrown m_taped m_size m_place m_begin m_token m_told m_wrong m_given m_word m_lines m_lineWhat m_lineA m_lineB = some res → W p l e rmX9_winter s m args below meth c H locs 0 0 (ZQ below D cy (dn cy LY_X9 ad P V (gp I [(0, 0, res.2.1), (0, 1, res.2.2.1), (0, 3, res.2.2.2.1), (0, 4, res.2.2.2.2.1), (0, 5, res.2.2.2.2.2.1), (0, 6, res.2.2.2.2.2.2.1), (0, 8, res.2.2.2.2.2.2.2.1), (0, 9, res.2.2.2.2.2.2.2.2.1), (0, 38, res.2.2.2.2.2.2.2.2.2.1)]) (gp J [(0, 7, res.2.2.2.2.2.2.2.2.2.2.1)]) (gm A [(28, res.2.2.2.2.2.2.2.2.2.2.2.1), (29, res.2.2.2.2.2.2.2.2.2.2.2.2.1), (30, res.2.2.2.2.2.2.2.2.2.2.2.2.2.1), (31, res.2.2.2.2.2.2.2.2.2.2.2.2.2.2)]) (gm B [])) (some (.int res.1)) Af args s) (F0 m 16 ls [])
def fX9_winter_16 (m_tape : (Nat → Int32)) (m_terrace : (Nat → Int32)) (m_holeName : (Nat → Int64)) (m_guestName : (Nat → Int64)) (k16 : Int32 → Int32 → Int32 → Int32 → Int32 → Int32 → Int32 → Int32 → Int32 → Int64 → (Nat → Int32) → (Nat → Int32) → (Nat → Int32) → (Nat → Int32) → Option (Int32 × Int32 × Int32 × Int32 × Int32 × Int32 × Int32 × Int32 × Int32 × Int32 × Int64 × (Nat → Int32) × (Nat → Int32) × (Nat → Int32) × (Nat → Int32))) (m_thrown : Int32) (m_taped : Int32) (m_size : Int32) (m_place : Int32) (m_begin : Int32) (m_token : Int32) (m_told : Int32) (m_wrong : Int32) (m_given : Int32) (m_word : Int64) (m_lines : (Nat → Int32)) (m_lineWhat : (Nat → Int32)) (m_lineA : (Nat → Int32)) (m_lineB : (Nat → Int32)) : Option (Int32 × Int32 × Int32 × Int32 × Int32 × Int32 × Int32 × Int32 × Int32 × Int32 × Int64 × (Nat → Int32) × (Nat → Int32) × (Nat → Int32) × (Nat → Int32)) := if m_token = 0 then (Option.bind (fX9_laysLines m_lines m_lineWhat m_lineA m_lineB 5 0) fun y2 => (some (0, m_thrown, m_taped, m_size, m_place, m_begin, m_token, m_told, m_wrong, m_given, m_word, y2.1, y2.2.1, y2.2.2.1, y2.2.2.2))) else (Option.bind (fX9_readsLine m_size m_tape m_terrace m_holeName m_guestName m_place m_begin m_token m_told m_wrong m_given m_word m_lines m_lineWhat m_lineA m_lineB) fun y3 => (if y3.1 = 0 then (some (y3.2.2.2.2.2.1, m_thrown, m_taped, m_size, y3.2.1, y3.2.2.1, y3.2.2.2.1, y3.2.2.2.2.1, y3.2.2.2.2.2.1, y3.2.2.2.2.2.2.1, y3.2.2.2.2.2.2.2.1, y3.2.2.2.2.2.2.2.2.1, y3.2.2.2.2.2.2.2.2.2.1, y3.2.2.2.2.2.2.2.2.2.2.1, y3.2.2.2.2.2.2.2.2.2.2.2)) else (k16 m_thrown m_taped m_size y3.2.1 y3.2.2.1 y3.2.2.2.1 y3.2.2.2.2.1 y3.2.2.2.2.2.1 y3.2.2.2.2.2.2.1 y3.2.2.2.2.2.2.2.1 y3.2.2.2.2.2.2.2.2.1 y3.2.2.2.2.2.2.2.2.2.1 y3.2.2.2.2.2.2.2.2.2.2.1 y3.2.2.2.2.2.2.2.2.2.2.2)))
set_option maxHeartbeats 4000000 in
set_option maxRecDepth 100000 in
theorem tX9_winter_16 {p : Program} {l : Launch} {e : Env} {s : State} {m : MethodId} {args : Array Value} {below : List Frame} {meth : Method} {c : Code} {D : va_G} {cy : Nat → ClassId} {ad : Nat → Nat} {P : MP} {V : MV} {I : MI} {J : MJ} {A : MI} {B : MJ} {Af : Nat → Prop} {res : Int32 × Int32 × Int32 × Int32 × Int32 × Int32 × Int32 × Int32 × Int32 × Int32 × Int64 × (Nat → Int32) × (Nat → Int32) × (Nat → Int32) × (Nat → Int32)} (C0 : CX p s m args meth c cX9_winter 1 (some .int) RX9) (hK : va_K D vwCl (tyG cy) s) (hN : NWs s) (hA : ∀ q, s.heap.size ≤ q → Af q) {k16 : Int32 → Int32 → Int32 → Int32 → Int32 → Int32 → Int32 → Int32 → Int32 → Int64 → (Nat → Int32) → (Nat → Int32) → (Nat → Int32) → (Nat → Int32) → Option (Int32 × Int32 × Int32 × Int32 × Int32 × Int32 × Int32 × Int32 × Int32 × Int32 × Int64 × (Nat → Int32) × (Nat → Int32) × (Nat → Int32) × (Nat → Int32))} (hk16 : SX9_winter_16 p l e s m args below meth c D cy ad P V I J A B Af res k16) : SX9_winter_16 p l e s m args below meth c D cy ad P V I J A B Af res (fX9_winter_16 (A 1) (A 2) (B 3) (B 4) k16) := by
  intro m_thrown m_taped m_size m_place m_begin m_token m_told m_wrong m_given m_word m_lines m_lineWhat m_lineA m_lineB H locs ls hW hl hf
  unfold fX9_winter_16 at hf
  refine lv_aload_n C0.1 C0.2.1 dX9_winter_16 rfl (lv_at hl 0 rfl) ?_
  refine s_get (v := .int m_token) C0 hK hW 0 6 LY_X9_0 rfl fg_X9_167 rfl dX9_winter_17 ?_
  refine lv_if_eq (tgt := 35) C0.1 C0.2.1 dX9_winter_20 (by decide) (fun hc1 => ?_) (fun hc1 => ?_)
  · have hf := ite_t hc1 hf
    refine lv_aload_n C0.1 C0.2.1 dX9_winter_35 rfl (lv_at hl 0 rfl) ?_
    refine lv_iconst (v := 5) C0.1 C0.2.1 dX9_winter_36 kI_5 ?_
    refine lv_iconst (v := 0) C0.1 C0.2.1 dX9_winter_37 kI_0 ?_
    obtain ⟨y2, hy2, hf⟩ := b_some hf
    refine c_Vv C0 hK hN hl.1 hW hA (KX9_laysLines l D cy  ad P V (gp I [(0, 0, m_thrown), (0, 1, m_taped), (0, 3, m_size), (0, 4, m_place), (0, 5, m_begin), (0, 6, m_token), (0, 8, m_told), (0, 9, m_wrong), (0, 38, m_given)]) (gp J [(0, 7, m_word)]) (gm A [(28, m_lines), (29, m_lineWhat), (30, m_lineA), (31, m_lineB)]) (gm B []) 5 0 hy2) (JN_id rfl rfl rfl rfl) (Uw_V uw_1412 uw_1414 us_65 uw_14 uw_1415) rfl rfl hd_X9_laysLines ⟨rfl, rfl⟩ rfl (dn_some LY_X9_0) rfl rfl rfl dX9_winter_38 ⟨Nat.zero_le _, Nat.zero_le _⟩ (fun H locs hW => ?_)
    have hW : wd D (dn cy LY_X9 ad P V (gp I [(0, 0, m_thrown), (0, 1, m_taped), (0, 3, m_size), (0, 4, m_place), (0, 5, m_begin), (0, 6, m_token), (0, 8, m_told), (0, 9, m_wrong), (0, 38, m_given)]) (gp J [(0, 7, m_word)]) (gm A [(28, y2.1), (29, y2.2.1), (30, y2.2.2.1), (31, y2.2.2.2)]) (gm B [])) Af s.heap H locs := hW
    refine lv_iconst (v := 0) C0.1 C0.2.1 dX9_winter_41 kI_0 ?_
    obtain rfl := Option.some.inj hf
    exact r_int C0 hK hW dX9_winter_42
  · have hf := ite_f hc1 hf
    refine lv_aload_n C0.1 C0.2.1 dX9_winter_23 rfl (lv_at hl 0 rfl) ?_
    obtain ⟨y3, hy3, hf⟩ := b_some hf
    refine c_Vi C0 hK hN hl.1 hW hA (KX9_readsLine l D cy  ad P V (gp I [(0, 0, m_thrown), (0, 1, m_taped), (0, 3, m_size), (0, 4, m_place), (0, 5, m_begin), (0, 6, m_token), (0, 8, m_told), (0, 9, m_wrong), (0, 38, m_given)]) (gp J [(0, 7, m_word)]) (gm A [(28, m_lines), (29, m_lineWhat), (30, m_lineA), (31, m_lineB)]) (gm B [])  hy3) (JN_id rfl rfl rfl rfl) (Uw_V uw_1404 uw_1406 us_63 uw_14 uw_1407) rfl rfl hd_X9_readsLine ⟨rfl, rfl⟩ rfl (dn_some LY_X9_0) rfl rfl rfl dX9_winter_24 ⟨Nat.zero_le _, Nat.zero_le _⟩ (fun H locs hW => ?_)
    have hW : wd D (dn cy LY_X9 ad P V (gp I [(0, 0, m_thrown), (0, 1, m_taped), (0, 3, m_size), (0, 4, y3.2.1), (0, 5, y3.2.2.1), (0, 6, y3.2.2.2.1), (0, 8, y3.2.2.2.2.1), (0, 9, y3.2.2.2.2.2.1), (0, 38, y3.2.2.2.2.2.2.1)]) (gp J [(0, 7, y3.2.2.2.2.2.2.2.1)]) (gm A [(28, y3.2.2.2.2.2.2.2.2.1), (29, y3.2.2.2.2.2.2.2.2.2.1), (30, y3.2.2.2.2.2.2.2.2.2.2.1), (31, y3.2.2.2.2.2.2.2.2.2.2.2)]) (gm B [])) Af s.heap H locs := hW
    refine lv_if_ne (tgt := 16) C0.1 C0.2.1 dX9_winter_27 (by decide) (fun hc4 => ?_) (fun hc4 => ?_)
    · have hf := ite_f hc4 hf
      exact hk16 m_thrown m_taped m_size y3.2.1 y3.2.2.1 y3.2.2.2.1 y3.2.2.2.2.1 y3.2.2.2.2.2.1 y3.2.2.2.2.2.2.1 y3.2.2.2.2.2.2.2.1 y3.2.2.2.2.2.2.2.2.1 y3.2.2.2.2.2.2.2.2.2.1 y3.2.2.2.2.2.2.2.2.2.2.1 y3.2.2.2.2.2.2.2.2.2.2.2 H locs ls hW hl hf
    · have hf := ite_t hc4 hf
      refine lv_aload_n C0.1 C0.2.1 dX9_winter_30 rfl (lv_at hl 0 rfl) ?_
      refine s_get (v := .int y3.2.2.2.2.2.1) C0 hK hW 0 9 LY_X9_0 rfl fg_X9_178 rfl dX9_winter_31 ?_
      obtain rfl := Option.some.inj hf
      exact r_int C0 hK hW dX9_winter_34
theorem TX9_winter_16 {p : Program} {l : Launch} {e : Env} {s : State} {m : MethodId} {args : Array Value} {below : List Frame} {meth : Method} {c : Code} {D : va_G} {cy : Nat → ClassId} {ad : Nat → Nat} {P : MP} {V : MV} {I : MI} {J : MJ} {A : MI} {B : MJ} {Af : Nat → Prop} {res : Int32 × Int32 × Int32 × Int32 × Int32 × Int32 × Int32 × Int32 × Int32 × Int32 × Int64 × (Nat → Int32) × (Nat → Int32) × (Nat → Int32) × (Nat → Int32)} (C0 : CX p s m args meth c cX9_winter 1 (some .int) RX9) (hK : va_K D vwCl (tyG cy) s) (hN : NWs s) (hA : ∀ q, s.heap.size ≤ q → Af q) : ∀ n, SX9_winter_16 p l e s m args below meth c D cy ad P V I J A B Af res (itr (fun kk => fX9_winter_16 (A 1) (A 2) (B 3) (B 4) kk) (fun _ _ _ _ _ _ _ _ _ _ _ _ _ _ => none) n) := by
  intro n
  induction n with
  | zero => intro m_thrown m_taped m_size m_place m_begin m_token m_told m_wrong m_given m_word m_lines m_lineWhat m_lineA m_lineB H locs ls hW hl hf; exact (nomatch (show (none : Option (Int32 × Int32 × Int32 × Int32 × Int32 × Int32 × Int32 × Int32 × Int32 × Int32 × Int64 × (Nat → Int32) × (Nat → Int32) × (Nat → Int32) × (Nat → Int32))) = some res from hf))
  | succ n ih => exact tX9_winter_16 C0 hK hN hA  ih
def fX9_winter (m_tape : (Nat → Int32)) (m_terrace : (Nat → Int32)) (m_holeName : (Nat → Int64)) (m_guestName : (Nat → Int64)) (m_thrown : Int32) (m_taped : Int32) (m_size : Int32) (m_place : Int32) (m_begin : Int32) (m_token : Int32) (m_told : Int32) (m_wrong : Int32) (m_given : Int32) (m_word : Int64) (m_lines : (Nat → Int32)) (m_lineWhat : (Nat → Int32)) (m_lineA : (Nat → Int32)) (m_lineB : (Nat → Int32)) : Option (Int32 × Int32 × Int32 × Int32 × Int32 × Int32 × Int32 × Int32 × Int32 × Int32 × Int64 × (Nat → Int32) × (Nat → Int32) × (Nat → Int32) × (Nat → Int32)) := Option.bind (fX9_begins m_tape m_taped m_size m_place m_begin m_token m_told m_word) fun y1 => (itr (fun kk => fX9_winter_16 m_tape m_terrace m_holeName m_guestName kk) (fun _ _ _ _ _ _ _ _ _ _ _ _ _ _ => none) FU 0 y1.1 y1.2.1 y1.2.2.1 y1.2.2.2.1 y1.2.2.2.2.1 y1.2.2.2.2.2.1 m_wrong m_given y1.2.2.2.2.2.2 (upd m_lines 5 0) m_lineWhat m_lineA m_lineB)
set_option maxHeartbeats 4000000 in
set_option maxRecDepth 100000 in
theorem KX9_winter (l : Launch) (D : va_G) (cy : Nat → ClassId) (ad : Nat → Nat) (P : MP) (V : MV) (I : MI) (J : MJ) (A : MI) (B : MJ) {res : Int32 × Int32 × Int32 × Int32 × Int32 × Int32 × Int32 × Int32 × Int32 × Int32 × Int64 × (Nat → Int32) × (Nat → Int32) × (Nat → Int32) × (Nat → Int32)} (hf : fX9_winter (A 1) (A 2) (B 3) (B 4) (I 0 0) (I 0 1) (I 0 3) (I 0 4) (I 0 5) (I 0 6) (I 0 8) (I 0 9) (I 0 38) (J 0 7) (A 28) (A 29) (A 30) (A 31) = some res) : CG l yX9_winter cX9_winter 1 (some .int) rmX9_winter D cy (dn cy LY_X9 ad P V I J A B) [.ref (ad 0)] (some (.int res.1)) (dn cy LY_X9 ad P V (gp I [(0, 0, res.2.1), (0, 1, res.2.2.1), (0, 3, res.2.2.2.1), (0, 4, res.2.2.2.2.1), (0, 5, res.2.2.2.2.2.1), (0, 6, res.2.2.2.2.2.2.1), (0, 8, res.2.2.2.2.2.2.2.1), (0, 9, res.2.2.2.2.2.2.2.2.1), (0, 38, res.2.2.2.2.2.2.2.2.2.1)]) (gp J [(0, 7, res.2.2.2.2.2.2.2.2.2.2.1)]) (gm A [(28, res.2.2.2.2.2.2.2.2.2.2.2.1), (29, res.2.2.2.2.2.2.2.2.2.2.2.2.1), (30, res.2.2.2.2.2.2.2.2.2.2.2.2.2.1), (31, res.2.2.2.2.2.2.2.2.2.2.2.2.2.2)]) (gm B [])) := by
  refine CG.of (own := RX9) (by decide) rfl rfl ?_
  intro p e s m below meth c ls Af C0 hK hN hA hW hl
  have hW : wd D (dn cy LY_X9 ad P V (gp I [(0, 0, (I 0 0)), (0, 1, (I 0 1)), (0, 3, (I 0 3)), (0, 4, (I 0 4)), (0, 5, (I 0 5)), (0, 6, (I 0 6)), (0, 8, (I 0 8)), (0, 9, (I 0 9)), (0, 38, (I 0 38))]) (gp J [(0, 7, (J 0 7))]) (gm A [(28, (A 28)), (29, (A 29)), (30, (A 30)), (31, (A 31))]) (gm B [])) Af s.heap s.heap [] := wd_sel [(0, 0), (0, 1), (0, 3), (0, 4), (0, 5), (0, 6), (0, 8), (0, 9), (0, 38)] [(0, 7)] [28, 29, 30, 31] [] hW
  have hl : lv_has ls 1 [(0, .ref (ad 0))] := hl
  unfold fX9_winter at hf
  refine lv_aload_n C0.1 C0.2.1 dX9_winter_0 rfl (lv_at hl 0 rfl) ?_
  refine lv_iconst (v := 0) C0.1 C0.2.1 dX9_winter_1 kI_0 ?_
  refine s_putI C0 hK hW 0 0 LY_X9_0 rfl fg_X9_142 fp_X9_0 rfl dX9_winter_2 (fun H locs hW => ?_)
  have hW : wd D (dn cy LY_X9 ad P V (gp I [(0, 0, 0), (0, 1, (I 0 1)), (0, 3, (I 0 3)), (0, 4, (I 0 4)), (0, 5, (I 0 5)), (0, 6, (I 0 6)), (0, 8, (I 0 8)), (0, 9, (I 0 9)), (0, 38, (I 0 38))]) (gp J [(0, 7, (J 0 7))]) (gm A [(28, (A 28)), (29, (A 29)), (30, (A 30)), (31, (A 31))]) (gm B [])) Af s.heap H locs := hW
  refine lv_aload_n C0.1 C0.2.1 dX9_winter_5 rfl (lv_at hl 0 rfl) ?_
  refine s_get (v := .ref (ad 28)) C0 hK hW 0 40 LY_X9_0 rfl fg_X9_93 rfl dX9_winter_6 ?_
  refine lv_iconst (v := 5) C0.1 C0.2.1 dX9_winter_9 kI_5 ?_
  refine lv_iconst (v := 0) C0.1 C0.2.1 dX9_winter_10 kI_0 ?_
  refine s_iast (f := (upd (A 28) 5 0)) C0 hK hW 28 LY_X9_28 rfl rfl (congrArg (fun z => upd _ z _) tc_5) dX9_winter_11 (fun H locs hW => ?_)
  have hW : wd D (dn cy LY_X9 ad P V (gp I [(0, 0, 0), (0, 1, (I 0 1)), (0, 3, (I 0 3)), (0, 4, (I 0 4)), (0, 5, (I 0 5)), (0, 6, (I 0 6)), (0, 8, (I 0 8)), (0, 9, (I 0 9)), (0, 38, (I 0 38))]) (gp J [(0, 7, (J 0 7))]) (gm A [(28, (upd (A 28) 5 0)), (29, (A 29)), (30, (A 30)), (31, (A 31))]) (gm B [])) Af s.heap H locs := hW
  refine lv_aload_n C0.1 C0.2.1 dX9_winter_12 rfl (lv_at hl 0 rfl) ?_
  obtain ⟨y1, hy1, hf⟩ := b_some hf
  refine c_Vv C0 hK hN hl.1 hW hA (KX9_begins l D cy  ad P V (gp I [(0, 0, 0), (0, 1, (I 0 1)), (0, 3, (I 0 3)), (0, 4, (I 0 4)), (0, 5, (I 0 5)), (0, 6, (I 0 6)), (0, 8, (I 0 8)), (0, 9, (I 0 9)), (0, 38, (I 0 38))]) (gp J [(0, 7, (J 0 7))]) (gm A [(28, (upd (A 28) 5 0)), (29, (A 29)), (30, (A 30)), (31, (A 31))]) (gm B [])  hy1) (JN_id rfl rfl rfl rfl) (Uw_V uw_1259 uw_1261 us_37 uw_14 uw_1262) rfl rfl hd_X9_begins ⟨rfl, rfl⟩ rfl (dn_some LY_X9_0) rfl rfl rfl dX9_winter_13 ⟨Nat.zero_le _, Nat.zero_le _⟩ (fun H locs hW => ?_)
  have hW : wd D (dn cy LY_X9 ad P V (gp I [(0, 0, 0), (0, 1, y1.1), (0, 3, y1.2.1), (0, 4, y1.2.2.1), (0, 5, y1.2.2.2.1), (0, 6, y1.2.2.2.2.1), (0, 8, y1.2.2.2.2.2.1), (0, 9, (I 0 9)), (0, 38, (I 0 38))]) (gp J [(0, 7, y1.2.2.2.2.2.2)]) (gm A [(28, (upd (A 28) 5 0)), (29, (A 29)), (30, (A 30)), (31, (A 31))]) (gm B [])) Af s.heap H locs := hW
  exact TX9_winter_16 C0 hK hN hA  FU 0 y1.1 y1.2.1 y1.2.2.1 y1.2.2.2.1 y1.2.2.2.2.1 y1.2.2.2.2.2.1 (I 0 9) (I 0 38) y1.2.2.2.2.2.2 (upd (A 28) 5 0) (A 29) (A 30) (A 31) _ _ ls hW hl hf
-- X9_isHole
def rmX9_isHole : Room := { frames := 1, cells := 0, slots := 0, locals := 21 }
def fX9_isHole (m_terrace : (Nat → Int32)) (v1 : Int32) : Option (Int32) := if v1 < 0 then (some (0)) else (if (m_terrace 0) ≤ v1 then (some (0)) else (some (1)))
set_option maxHeartbeats 4000000 in
set_option maxRecDepth 100000 in
theorem KX9_isHole (l : Launch) (D : va_G) (cy : Nat → ClassId) (ad : Nat → Nat) (P : MP) (V : MV) (I : MI) (J : MJ) (A : MI) (B : MJ) (v1 : Int32) {res : Int32} (hf : fX9_isHole (A 2) v1 = some res) : CG l yX9_isHole cX9_isHole 2 (some .boolean) rmX9_isHole D cy (dn cy LY_X9 ad P V I J A B) [.ref (ad 0), .int v1] (some (.int res)) (dn cy LY_X9 ad P V (gp I []) (gp J []) (gm A []) (gm B [])) := by
  refine CG.of (own := RX9) (by decide) rfl rfl ?_
  intro p e s m below meth c ls Af C0 hK hN hA hW hl
  have hW : wd D (dn cy LY_X9 ad P V (gp I []) (gp J []) (gm A []) (gm B [])) Af s.heap s.heap [] := wd_sel [] [] [] [] hW
  have hl : lv_has ls 2 [(0, .ref (ad 0)), (1, .int v1)] := hl
  unfold fX9_isHole at hf
  refine lv_iload_n C0.1 C0.2.1 dX9_isHole_0 rfl (lv_at hl 1 rfl) ?_
  refine lv_if_lt (tgt := 18) C0.1 C0.2.1 dX9_isHole_1 (by decide) (fun hc1 => ?_) (fun hc1 => ?_)
  · have hf := ite_t hc1 hf
    refine lv_iconst (v := 0) C0.1 C0.2.1 dX9_isHole_18 kI_0 ?_
    obtain rfl := Option.some.inj hf
    exact r_bool C0 hK hW (v' := 0) rfl dX9_isHole_19
  · have hf := ite_f hc1 hf
    refine lv_iload_n C0.1 C0.2.1 dX9_isHole_4 rfl (lv_at hl 1 rfl) ?_
    refine lv_aload_n C0.1 C0.2.1 dX9_isHole_5 rfl (lv_at hl 0 rfl) ?_
    refine s_get (v := .ref (ad 2)) C0 hK hW 0 10 LY_X9_0 rfl fg_X9_13 rfl dX9_isHole_6 ?_
    refine lv_iconst (v := 0) C0.1 C0.2.1 dX9_isHole_9 kI_0 ?_
    refine s_iald (v := ((A 2) 0)) C0 hK hW 2 LY_X9_2 rfl (congrArg _ tc_0) dX9_isHole_10 ?_
    refine lv_icmp_ge (tgt := 18) C0.1 C0.2.1 dX9_isHole_11 (by decide) (fun hc2 => ?_) (fun hc2 => ?_)
    · have hf := ite_t hc2 hf
      refine lv_iconst (v := 0) C0.1 C0.2.1 dX9_isHole_18 kI_0 ?_
      obtain rfl := Option.some.inj hf
      exact r_bool C0 hK hW (v' := 0) rfl dX9_isHole_19
    · have hf := ite_f hc2 hf
      refine lv_iconst (v := 1) C0.1 C0.2.1 dX9_isHole_14 kI_1 ?_
      refine lv_goto (tgt := 19) C0.1 C0.2.1 dX9_isHole_15 (by decide) ?_
      obtain rfl := Option.some.inj hf
      exact r_bool C0 hK hW (v' := 1) rfl dX9_isHole_19
-- X9_isGuest
def rmX9_isGuest : Room := { frames := 1, cells := 0, slots := 0, locals := 21 }
def fX9_isGuest (m_terrace : (Nat → Int32)) (v1 : Int32) : Option (Int32) := if v1 < 0 then (some (0)) else (if (m_terrace 1) ≤ v1 then (some (0)) else (some (1)))
set_option maxHeartbeats 4000000 in
set_option maxRecDepth 100000 in
theorem KX9_isGuest (l : Launch) (D : va_G) (cy : Nat → ClassId) (ad : Nat → Nat) (P : MP) (V : MV) (I : MI) (J : MJ) (A : MI) (B : MJ) (v1 : Int32) {res : Int32} (hf : fX9_isGuest (A 2) v1 = some res) : CG l yX9_isGuest cX9_isGuest 2 (some .boolean) rmX9_isGuest D cy (dn cy LY_X9 ad P V I J A B) [.ref (ad 0), .int v1] (some (.int res)) (dn cy LY_X9 ad P V (gp I []) (gp J []) (gm A []) (gm B [])) := by
  refine CG.of (own := RX9) (by decide) rfl rfl ?_
  intro p e s m below meth c ls Af C0 hK hN hA hW hl
  have hW : wd D (dn cy LY_X9 ad P V (gp I []) (gp J []) (gm A []) (gm B [])) Af s.heap s.heap [] := wd_sel [] [] [] [] hW
  have hl : lv_has ls 2 [(0, .ref (ad 0)), (1, .int v1)] := hl
  unfold fX9_isGuest at hf
  refine lv_iload_n C0.1 C0.2.1 dX9_isGuest_0 rfl (lv_at hl 1 rfl) ?_
  refine lv_if_lt (tgt := 18) C0.1 C0.2.1 dX9_isGuest_1 (by decide) (fun hc1 => ?_) (fun hc1 => ?_)
  · have hf := ite_t hc1 hf
    refine lv_iconst (v := 0) C0.1 C0.2.1 dX9_isGuest_18 kI_0 ?_
    obtain rfl := Option.some.inj hf
    exact r_bool C0 hK hW (v' := 0) rfl dX9_isGuest_19
  · have hf := ite_f hc1 hf
    refine lv_iload_n C0.1 C0.2.1 dX9_isGuest_4 rfl (lv_at hl 1 rfl) ?_
    refine lv_aload_n C0.1 C0.2.1 dX9_isGuest_5 rfl (lv_at hl 0 rfl) ?_
    refine s_get (v := .ref (ad 2)) C0 hK hW 0 10 LY_X9_0 rfl fg_X9_13 rfl dX9_isGuest_6 ?_
    refine lv_iconst (v := 1) C0.1 C0.2.1 dX9_isGuest_9 kI_1 ?_
    refine s_iald (v := ((A 2) 1)) C0 hK hW 2 LY_X9_2 rfl (congrArg _ tc_1) dX9_isGuest_10 ?_
    refine lv_icmp_ge (tgt := 18) C0.1 C0.2.1 dX9_isGuest_11 (by decide) (fun hc2 => ?_) (fun hc2 => ?_)
    · have hf := ite_t hc2 hf
      refine lv_iconst (v := 0) C0.1 C0.2.1 dX9_isGuest_18 kI_0 ?_
      obtain rfl := Option.some.inj hf
      exact r_bool C0 hK hW (v' := 0) rfl dX9_isGuest_19
    · have hf := ite_f hc2 hf
      refine lv_iconst (v := 1) C0.1 C0.2.1 dX9_isGuest_14 kI_1 ?_
      refine lv_goto (tgt := 19) C0.1 C0.2.1 dX9_isGuest_15 (by decide) ?_
      obtain rfl := Option.some.inj hf
      exact r_bool C0 hK hW (v' := 1) rfl dX9_isGuest_19
-- X9_isSeized
def rmX9_isSeized : Room := { frames := 1, cells := 0, slots := 0, locals := 21 }
def fX9_isSeized (m_s : (Nat → Int32)) (v1 : Int32) : Option (Int32) := if (((m_s 1) >>> (v1 &&& 31)) &&& 1) = 1 then (some (1)) else (some (0))
set_option maxHeartbeats 4000000 in
set_option maxRecDepth 100000 in
theorem KX9_isSeized (l : Launch) (D : va_G) (cy : Nat → ClassId) (ad : Nat → Nat) (P : MP) (V : MV) (I : MI) (J : MJ) (A : MI) (B : MJ) (v1 : Int32) {res : Int32} (hf : fX9_isSeized (A 35) v1 = some res) : CG l yX9_isSeized cX9_isSeized 2 (some .boolean) rmX9_isSeized D cy (dn cy LY_X9 ad P V I J A B) [.ref (ad 0), .int v1] (some (.int res)) (dn cy LY_X9 ad P V (gp I []) (gp J []) (gm A []) (gm B [])) := by
  refine CG.of (own := RX9) (by decide) rfl rfl ?_
  intro p e s m below meth c ls Af C0 hK hN hA hW hl
  have hW : wd D (dn cy LY_X9 ad P V (gp I []) (gp J []) (gm A []) (gm B [])) Af s.heap s.heap [] := wd_sel [] [] [] [] hW
  have hl : lv_has ls 2 [(0, .ref (ad 0)), (1, .int v1)] := hl
  unfold fX9_isSeized at hf
  refine lv_aload_n C0.1 C0.2.1 dX9_isSeized_0 rfl (lv_at hl 0 rfl) ?_
  refine s_get (v := .ref (ad 35)) C0 hK hW 0 47 LY_X9_0 rfl fg_X9_114 rfl dX9_isSeized_1 ?_
  refine lv_iconst (v := 1) C0.1 C0.2.1 dX9_isSeized_4 kI_1 ?_
  refine s_iald (v := ((A 35) 1)) C0 hK hW 35 LY_X9_35 rfl (congrArg _ tc_1) dX9_isSeized_5 ?_
  refine lv_iload_n C0.1 C0.2.1 dX9_isSeized_6 rfl (lv_at hl 1 rfl) ?_
  refine lv_ishr C0.1 C0.2.1 dX9_isSeized_7 ?_
  refine lv_iconst (v := 1) C0.1 C0.2.1 dX9_isSeized_8 kI_1 ?_
  refine lv_iand C0.1 C0.2.1 dX9_isSeized_9 ?_
  refine lv_iconst (v := 1) C0.1 C0.2.1 dX9_isSeized_10 kI_1 ?_
  refine lv_icmp_ne (tgt := 18) C0.1 C0.2.1 dX9_isSeized_11 (by decide) (fun hc1 => ?_) (fun hc1 => ?_)
  · have hf := ite_f hc1 hf
    refine lv_iconst (v := 0) C0.1 C0.2.1 dX9_isSeized_18 kI_0 ?_
    obtain rfl := Option.some.inj hf
    exact r_bool C0 hK hW (v' := 0) rfl dX9_isSeized_19
  · have hf := ite_t hc1 hf
    refine lv_iconst (v := 1) C0.1 C0.2.1 dX9_isSeized_14 kI_1 ?_
    refine lv_goto (tgt := 19) C0.1 C0.2.1 dX9_isSeized_15 (by decide) ?_
    obtain rfl := Option.some.inj hf
    exact r_bool C0 hK hW (v' := 1) rfl dX9_isSeized_19
-- X9_isOutside
def rmX9_isOutside : Room := { frames := 2, cells := 0, slots := 0, locals := 42 }
def fX9_isOutside (m_s : (Nat → Int32)) (v1 : Int32) : Option (Int32) := bif inb (8 + v1) 13 then (if (m_s (Int32.toNatClampNeg (8 + v1))) = 0 then (Option.bind (fX9_isSeized m_s v1) fun y3 => (if y3 = 0 then (some (1)) else (some (0)))) else (some (0))) else none
set_option maxHeartbeats 4000000 in
set_option maxRecDepth 100000 in
theorem KX9_isOutside (l : Launch) (D : va_G) (cy : Nat → ClassId) (ad : Nat → Nat) (P : MP) (V : MV) (I : MI) (J : MJ) (A : MI) (B : MJ) (v1 : Int32) {res : Int32} (hf : fX9_isOutside (A 35) v1 = some res) : CG l yX9_isOutside cX9_isOutside 2 (some .boolean) rmX9_isOutside D cy (dn cy LY_X9 ad P V I J A B) [.ref (ad 0), .int v1] (some (.int res)) (dn cy LY_X9 ad P V (gp I []) (gp J []) (gm A []) (gm B [])) := by
  refine CG.of (own := RX9) (by decide) rfl rfl ?_
  intro p e s m below meth c ls Af C0 hK hN hA hW hl
  have hW : wd D (dn cy LY_X9 ad P V (gp I []) (gp J []) (gm A []) (gm B [])) Af s.heap s.heap [] := wd_sel [] [] [] [] hW
  have hl : lv_has ls 2 [(0, .ref (ad 0)), (1, .int v1)] := hl
  unfold fX9_isOutside at hf
  refine lv_aload_n C0.1 C0.2.1 dX9_isOutside_0 rfl (lv_at hl 0 rfl) ?_
  refine s_get (v := .ref (ad 35)) C0 hK hW 0 47 LY_X9_0 rfl fg_X9_114 rfl dX9_isOutside_1 ?_
  refine lv_bipush (v := 8) C0.1 C0.2.1 dX9_isOutside_4 kB_8 ?_
  refine lv_iload_n C0.1 C0.2.1 dX9_isOutside_6 rfl (lv_at hl 1 rfl) ?_
  refine lv_iadd C0.1 C0.2.1 dX9_isOutside_7 ?_
  obtain ⟨hb1, hf⟩ := g_some hf
  refine s_iald (v := ((A 35) (Int32.toNatClampNeg (8 + v1)))) C0 hK hW 35 LY_X9_35 hb1 rfl dX9_isOutside_8 ?_
  refine lv_if_ne (tgt := 24) C0.1 C0.2.1 dX9_isOutside_9 (by decide) (fun hc2 => ?_) (fun hc2 => ?_)
  · have hf := ite_f hc2 hf
    refine lv_iconst (v := 0) C0.1 C0.2.1 dX9_isOutside_24 kI_0 ?_
    obtain rfl := Option.some.inj hf
    exact r_bool C0 hK hW (v' := 0) rfl dX9_isOutside_25
  · have hf := ite_t hc2 hf
    refine lv_aload_n C0.1 C0.2.1 dX9_isOutside_12 rfl (lv_at hl 0 rfl) ?_
    refine lv_iload_n C0.1 C0.2.1 dX9_isOutside_13 rfl (lv_at hl 1 rfl) ?_
    obtain ⟨y3, hy3, hf⟩ := b_some hf
    refine c_Vi C0 hK hN hl.1 hW hA (KX9_isSeized l D cy  ad P V (gp I []) (gp J []) (gm A []) (gm B []) v1 hy3) (JN_id rfl rfl rfl rfl) (Uw_V uw_1467 uw_1469 us_76 uw_14 uw_1470) rfl rfl hd_X9_isSeized ⟨rfl, rfl⟩ rfl (dn_some LY_X9_0) rfl rfl rfl dX9_isOutside_14 ⟨Nat.zero_le _, Nat.zero_le _⟩ (fun H locs hW => ?_)
    have hW : wd D (dn cy LY_X9 ad P V (gp I []) (gp J []) (gm A []) (gm B [])) Af s.heap H locs := hW
    refine lv_if_ne (tgt := 24) C0.1 C0.2.1 dX9_isOutside_17 (by decide) (fun hc4 => ?_) (fun hc4 => ?_)
    · have hf := ite_f hc4 hf
      refine lv_iconst (v := 0) C0.1 C0.2.1 dX9_isOutside_24 kI_0 ?_
      obtain rfl := Option.some.inj hf
      exact r_bool C0 hK hW (v' := 0) rfl dX9_isOutside_25
    · have hf := ite_t hc4 hf
      refine lv_iconst (v := 1) C0.1 C0.2.1 dX9_isOutside_20 kI_1 ?_
      refine lv_goto (tgt := 25) C0.1 C0.2.1 dX9_isOutside_21 (by decide) ?_
      obtain rfl := Option.some.inj hf
      exact r_bool C0 hK hW (v' := 1) rfl dX9_isOutside_25
-- X9_outsiders
def rmX9_outsiders : Room := { frames := 3, cells := 0, slots := 0, locals := 63 }
def SX9_outsiders_4 (p : Program) (l : Launch) (e : Env) (s : State) (m : MethodId) (args : Array Value) (below : List Frame) (meth : Method) (c : Code) (D : va_G) (cy : Nat → ClassId) (ad : Nat → Nat) (P : MP) (V : MV) (I : MI) (J : MJ) (A : MI) (B : MJ) (Af : Nat → Prop) (res : Int32) (k : Int32 → Int32 → Option (Int32)) : Prop := ∀ (v1 : Int32) (v2 : Int32) (H : Heap) (locs : List Loc) (ls : Array Slot), wd D (dn cy LY_X9 ad P V (gp I []) (gp J []) (gm A []) (gm B [])) Af s.heap H locs → lv_has ls 3 [(0, .ref (ad 0)), (1, .int v1), (2, .int v2)] → k v1 v2 = some res → W p l e rmX9_outsiders s m args below meth c H locs 0 0 (ZQ below D cy (dn cy LY_X9 ad P V (gp I []) (gp J []) (gm A []) (gm B [])) (some (.int res)) Af args s) (F0 m 4 ls [])
def fX9_outsiders_4 (m_terrace : (Nat → Int32)) (m_s : (Nat → Int32)) (k4 : Int32 → Int32 → Option (Int32)) (v1 : Int32) (v2 : Int32) : Option (Int32) := if (m_terrace 1) ≤ v2 then (some (v1)) else (Option.bind (fX9_isOutside m_s v2) fun y2 => (if y2 = 0 then (k4 (v1 ||| 0) (v2 + 1)) else (k4 (v1 ||| (1 <<< (v2 &&& 31))) (v2 + 1))))
set_option maxHeartbeats 4000000 in
set_option maxRecDepth 100000 in
theorem tX9_outsiders_4 {p : Program} {l : Launch} {e : Env} {s : State} {m : MethodId} {args : Array Value} {below : List Frame} {meth : Method} {c : Code} {D : va_G} {cy : Nat → ClassId} {ad : Nat → Nat} {P : MP} {V : MV} {I : MI} {J : MJ} {A : MI} {B : MJ} {Af : Nat → Prop} {res : Int32} (C0 : CX p s m args meth c cX9_outsiders 3 (some .int) RX9) (hK : va_K D vwCl (tyG cy) s) (hN : NWs s) (hA : ∀ q, s.heap.size ≤ q → Af q) {k4 : Int32 → Int32 → Option (Int32)} (hk4 : SX9_outsiders_4 p l e s m args below meth c D cy ad P V I J A B Af res k4) : SX9_outsiders_4 p l e s m args below meth c D cy ad P V I J A B Af res (fX9_outsiders_4 (A 2) (A 35) k4) := by
  intro v1 v2 H locs ls hW hl hf
  unfold fX9_outsiders_4 at hf
  refine lv_iload_n C0.1 C0.2.1 dX9_outsiders_4 rfl (lv_at hl 2 rfl) ?_
  refine lv_aload_n C0.1 C0.2.1 dX9_outsiders_5 rfl (lv_at hl 0 rfl) ?_
  refine s_get (v := .ref (ad 2)) C0 hK hW 0 10 LY_X9_0 rfl fg_X9_13 rfl dX9_outsiders_6 ?_
  refine lv_iconst (v := 1) C0.1 C0.2.1 dX9_outsiders_9 kI_1 ?_
  refine s_iald (v := ((A 2) 1)) C0 hK hW 2 LY_X9_2 rfl (congrArg _ tc_1) dX9_outsiders_10 ?_
  refine lv_icmp_ge (tgt := 38) C0.1 C0.2.1 dX9_outsiders_11 (by decide) (fun hc1 => ?_) (fun hc1 => ?_)
  · have hf := ite_t hc1 hf
    refine lv_iload_n C0.1 C0.2.1 dX9_outsiders_38 rfl (lv_at hl 1 rfl) ?_
    obtain rfl := Option.some.inj hf
    exact r_int C0 hK hW dX9_outsiders_39
  · have hf := ite_f hc1 hf
    refine lv_iload_n C0.1 C0.2.1 dX9_outsiders_14 rfl (lv_at hl 1 rfl) ?_
    refine lv_aload_n C0.1 C0.2.1 dX9_outsiders_15 rfl (lv_at hl 0 rfl) ?_
    refine lv_iload_n C0.1 C0.2.1 dX9_outsiders_16 rfl (lv_at hl 2 rfl) ?_
    obtain ⟨y2, hy2, hf⟩ := b_some hf
    refine c_Vi C0 hK hN hl.1 hW hA (KX9_isOutside l D cy  ad P V (gp I []) (gp J []) (gm A []) (gm B []) v2 hy2) (JN_id rfl rfl rfl rfl) (Uw_V uw_1479 uw_1481 us_79 uw_14 uw_1482) rfl rfl hd_X9_isOutside ⟨rfl, rfl⟩ rfl (dn_some LY_X9_0) rfl rfl rfl dX9_outsiders_17 ⟨Nat.zero_le _, Nat.zero_le _⟩ (fun H locs hW => ?_)
    have hW : wd D (dn cy LY_X9 ad P V (gp I []) (gp J []) (gm A []) (gm B [])) Af s.heap H locs := hW
    refine lv_if_eq (tgt := 29) C0.1 C0.2.1 dX9_outsiders_20 (by decide) (fun hc3 => ?_) (fun hc3 => ?_)
    · have hf := ite_t hc3 hf
      refine lv_iconst (v := 0) C0.1 C0.2.1 dX9_outsiders_29 kI_0 ?_
      refine lv_ior C0.1 C0.2.1 dX9_outsiders_30 ?_
      refine lv_istore_n (lv' := [(1, .int (v1 ||| 0)), (0, .ref (ad 0)), (2, .int v2)]) C0.1 C0.2.1 dX9_outsiders_31 rfl hl (by decide) rfl (fun ls hl => ?_)
      refine lv_iinc (v := (v2 + 1)) (lv' := [(2, .int (v2 + 1)), (1, .int (v1 ||| 0)), (0, .ref (ad 0))]) C0.1 C0.2.1 dX9_outsiders_32 hl (k := 2) rfl (congrArg (fun z => _ + z) kI_1) (by decide) rfl (fun ls hl => ?_)
      refine lv_goto (tgt := 4) C0.1 C0.2.1 dX9_outsiders_35 (by decide) ?_
      exact hk4 (v1 ||| 0) (v2 + 1) H locs ls hW (lv_sub hl [2, 1, 0] rfl) hf
    · have hf := ite_f hc3 hf
      refine lv_iconst (v := 1) C0.1 C0.2.1 dX9_outsiders_23 kI_1 ?_
      refine lv_iload_n C0.1 C0.2.1 dX9_outsiders_24 rfl (lv_at hl 2 rfl) ?_
      refine lv_ishl C0.1 C0.2.1 dX9_outsiders_25 ?_
      refine lv_goto (tgt := 30) C0.1 C0.2.1 dX9_outsiders_26 (by decide) ?_
      refine lv_ior C0.1 C0.2.1 dX9_outsiders_30 ?_
      refine lv_istore_n (lv' := [(1, .int (v1 ||| (1 <<< (v2 &&& 31)))), (0, .ref (ad 0)), (2, .int v2)]) C0.1 C0.2.1 dX9_outsiders_31 rfl hl (by decide) rfl (fun ls hl => ?_)
      refine lv_iinc (v := (v2 + 1)) (lv' := [(2, .int (v2 + 1)), (1, .int (v1 ||| (1 <<< (v2 &&& 31)))), (0, .ref (ad 0))]) C0.1 C0.2.1 dX9_outsiders_32 hl (k := 2) rfl (congrArg (fun z => _ + z) kI_1) (by decide) rfl (fun ls hl => ?_)
      refine lv_goto (tgt := 4) C0.1 C0.2.1 dX9_outsiders_35 (by decide) ?_
      exact hk4 (v1 ||| (1 <<< (v2 &&& 31))) (v2 + 1) H locs ls hW (lv_sub hl [2, 1, 0] rfl) hf
theorem TX9_outsiders_4 {p : Program} {l : Launch} {e : Env} {s : State} {m : MethodId} {args : Array Value} {below : List Frame} {meth : Method} {c : Code} {D : va_G} {cy : Nat → ClassId} {ad : Nat → Nat} {P : MP} {V : MV} {I : MI} {J : MJ} {A : MI} {B : MJ} {Af : Nat → Prop} {res : Int32} (C0 : CX p s m args meth c cX9_outsiders 3 (some .int) RX9) (hK : va_K D vwCl (tyG cy) s) (hN : NWs s) (hA : ∀ q, s.heap.size ≤ q → Af q) : ∀ n, SX9_outsiders_4 p l e s m args below meth c D cy ad P V I J A B Af res (itr (fun kk => fX9_outsiders_4 (A 2) (A 35) kk) (fun _ _ => none) n) := by
  intro n
  induction n with
  | zero => intro v1 v2 H locs ls hW hl hf; exact (nomatch (show (none : Option (Int32)) = some res from hf))
  | succ n ih => exact tX9_outsiders_4 C0 hK hN hA  ih
def fX9_outsiders (m_terrace : (Nat → Int32)) (m_s : (Nat → Int32)) : Option (Int32) := itr (fun kk => fX9_outsiders_4 m_terrace m_s kk) (fun _ _ => none) FU 0 0
set_option maxHeartbeats 4000000 in
set_option maxRecDepth 100000 in
theorem KX9_outsiders (l : Launch) (D : va_G) (cy : Nat → ClassId) (ad : Nat → Nat) (P : MP) (V : MV) (I : MI) (J : MJ) (A : MI) (B : MJ) {res : Int32} (hf : fX9_outsiders (A 2) (A 35) = some res) : CG l yX9_outsiders cX9_outsiders 3 (some .int) rmX9_outsiders D cy (dn cy LY_X9 ad P V I J A B) [.ref (ad 0)] (some (.int res)) (dn cy LY_X9 ad P V (gp I []) (gp J []) (gm A []) (gm B [])) := by
  refine CG.of (own := RX9) (by decide) rfl rfl ?_
  intro p e s m below meth c ls Af C0 hK hN hA hW hl
  have hW : wd D (dn cy LY_X9 ad P V (gp I []) (gp J []) (gm A []) (gm B [])) Af s.heap s.heap [] := wd_sel [] [] [] [] hW
  have hl : lv_has ls 3 [(0, .ref (ad 0))] := hl
  unfold fX9_outsiders at hf
  refine lv_iconst (v := 0) C0.1 C0.2.1 dX9_outsiders_0 kI_0 ?_
  refine lv_istore_n (lv' := [(1, .int 0), (0, .ref (ad 0))]) C0.1 C0.2.1 dX9_outsiders_1 rfl hl (by decide) rfl (fun ls hl => ?_)
  refine lv_iconst (v := 0) C0.1 C0.2.1 dX9_outsiders_2 kI_0 ?_
  refine lv_istore_n (lv' := [(2, .int 0), (1, .int 0), (0, .ref (ad 0))]) C0.1 C0.2.1 dX9_outsiders_3 rfl hl (by decide) rfl (fun ls hl => ?_)
  exact TX9_outsiders_4 C0 hK hN hA  FU 0 0 _ _ ls hW (lv_sub hl [2, 1, 0] rfl) hf
-- X9_insideOf
def rmX9_insideOf : Room := { frames := 1, cells := 0, slots := 0, locals := 21 }
def SX9_insideOf_4 (p : Program) (l : Launch) (e : Env) (s : State) (m : MethodId) (args : Array Value) (below : List Frame) (meth : Method) (c : Code) (D : va_G) (cy : Nat → ClassId) (ad : Nat → Nat) (P : MP) (V : MV) (I : MI) (J : MJ) (A : MI) (B : MJ) (Af : Nat → Prop) (res : Int32) (k : Int32 → Int32 → Int32 → Option (Int32)) : Prop := ∀ (v1 : Int32) (v2 : Int32) (v3 : Int32) (H : Heap) (locs : List Loc) (ls : Array Slot), wd D (dn cy LY_X9 ad P V (gp I []) (gp J []) (gm A []) (gm B [])) Af s.heap H locs → lv_has ls 4 [(0, .ref (ad 0)), (1, .int v1), (2, .int v2), (3, .int v3)] → k v1 v2 v3 = some res → W p l e rmX9_insideOf s m args below meth c H locs 0 0 (ZQ below D cy (dn cy LY_X9 ad P V (gp I []) (gp J []) (gm A []) (gm B [])) (some (.int res)) Af args s) (F0 m 4 ls [])
def fX9_insideOf_4 (m_terrace : (Nat → Int32)) (m_s : (Nat → Int32)) (k4 : Int32 → Int32 → Int32 → Option (Int32)) (v1 : Int32) (v2 : Int32) (v3 : Int32) : Option (Int32) := if (m_terrace 1) ≤ v3 then (some (v2)) else (bif inb (8 + v3) 13 then (if (m_s (Int32.toNatClampNeg (8 + v3))) = (v1 + 1) then (k4 v1 (v2 ||| (1 <<< (v3 &&& 31))) (v3 + 1)) else (k4 v1 (v2 ||| 0) (v3 + 1))) else none)
set_option maxHeartbeats 4000000 in
set_option maxRecDepth 100000 in
theorem tX9_insideOf_4 {p : Program} {l : Launch} {e : Env} {s : State} {m : MethodId} {args : Array Value} {below : List Frame} {meth : Method} {c : Code} {D : va_G} {cy : Nat → ClassId} {ad : Nat → Nat} {P : MP} {V : MV} {I : MI} {J : MJ} {A : MI} {B : MJ} {Af : Nat → Prop} {res : Int32} (C0 : CX p s m args meth c cX9_insideOf 4 (some .int) RX9) (hK : va_K D vwCl (tyG cy) s) (hN : NWs s) (hA : ∀ q, s.heap.size ≤ q → Af q) {k4 : Int32 → Int32 → Int32 → Option (Int32)} (hk4 : SX9_insideOf_4 p l e s m args below meth c D cy ad P V I J A B Af res k4) : SX9_insideOf_4 p l e s m args below meth c D cy ad P V I J A B Af res (fX9_insideOf_4 (A 2) (A 35) k4) := by
  intro v1 v2 v3 H locs ls hW hl hf
  unfold fX9_insideOf_4 at hf
  refine lv_iload_n C0.1 C0.2.1 dX9_insideOf_4 rfl (lv_at hl 3 rfl) ?_
  refine lv_aload_n C0.1 C0.2.1 dX9_insideOf_5 rfl (lv_at hl 0 rfl) ?_
  refine s_get (v := .ref (ad 2)) C0 hK hW 0 10 LY_X9_0 rfl fg_X9_13 rfl dX9_insideOf_6 ?_
  refine lv_iconst (v := 1) C0.1 C0.2.1 dX9_insideOf_9 kI_1 ?_
  refine s_iald (v := ((A 2) 1)) C0 hK hW 2 LY_X9_2 rfl (congrArg _ tc_1) dX9_insideOf_10 ?_
  refine lv_icmp_ge (tgt := 45) C0.1 C0.2.1 dX9_insideOf_11 (by decide) (fun hc1 => ?_) (fun hc1 => ?_)
  · have hf := ite_t hc1 hf
    refine lv_iload_n C0.1 C0.2.1 dX9_insideOf_45 rfl (lv_at hl 2 rfl) ?_
    obtain rfl := Option.some.inj hf
    exact r_int C0 hK hW dX9_insideOf_46
  · have hf := ite_f hc1 hf
    refine lv_iload_n C0.1 C0.2.1 dX9_insideOf_14 rfl (lv_at hl 2 rfl) ?_
    refine lv_aload_n C0.1 C0.2.1 dX9_insideOf_15 rfl (lv_at hl 0 rfl) ?_
    refine s_get (v := .ref (ad 35)) C0 hK hW 0 47 LY_X9_0 rfl fg_X9_114 rfl dX9_insideOf_16 ?_
    refine lv_bipush (v := 8) C0.1 C0.2.1 dX9_insideOf_19 kB_8 ?_
    refine lv_iload_n C0.1 C0.2.1 dX9_insideOf_21 rfl (lv_at hl 3 rfl) ?_
    refine lv_iadd C0.1 C0.2.1 dX9_insideOf_22 ?_
    obtain ⟨hb2, hf⟩ := g_some hf
    refine s_iald (v := ((A 35) (Int32.toNatClampNeg (8 + v3)))) C0 hK hW 35 LY_X9_35 hb2 rfl dX9_insideOf_23 ?_
    refine lv_iload_n C0.1 C0.2.1 dX9_insideOf_24 rfl (lv_at hl 1 rfl) ?_
    refine lv_iconst (v := 1) C0.1 C0.2.1 dX9_insideOf_25 kI_1 ?_
    refine lv_iadd C0.1 C0.2.1 dX9_insideOf_26 ?_
    refine lv_icmp_ne (tgt := 36) C0.1 C0.2.1 dX9_insideOf_27 (by decide) (fun hc3 => ?_) (fun hc3 => ?_)
    · have hf := ite_f hc3 hf
      refine lv_iconst (v := 0) C0.1 C0.2.1 dX9_insideOf_36 kI_0 ?_
      refine lv_ior C0.1 C0.2.1 dX9_insideOf_37 ?_
      refine lv_istore_n (lv' := [(2, .int (v2 ||| 0)), (0, .ref (ad 0)), (1, .int v1), (3, .int v3)]) C0.1 C0.2.1 dX9_insideOf_38 rfl hl (by decide) rfl (fun ls hl => ?_)
      refine lv_iinc (v := (v3 + 1)) (lv' := [(3, .int (v3 + 1)), (2, .int (v2 ||| 0)), (0, .ref (ad 0)), (1, .int v1)]) C0.1 C0.2.1 dX9_insideOf_39 hl (k := 3) rfl (congrArg (fun z => _ + z) kI_1) (by decide) rfl (fun ls hl => ?_)
      refine lv_goto (tgt := 4) C0.1 C0.2.1 dX9_insideOf_42 (by decide) ?_
      exact hk4 v1 (v2 ||| 0) (v3 + 1) H locs ls hW (lv_sub hl [2, 3, 1, 0] rfl) hf
    · have hf := ite_t hc3 hf
      refine lv_iconst (v := 1) C0.1 C0.2.1 dX9_insideOf_30 kI_1 ?_
      refine lv_iload_n C0.1 C0.2.1 dX9_insideOf_31 rfl (lv_at hl 3 rfl) ?_
      refine lv_ishl C0.1 C0.2.1 dX9_insideOf_32 ?_
      refine lv_goto (tgt := 37) C0.1 C0.2.1 dX9_insideOf_33 (by decide) ?_
      refine lv_ior C0.1 C0.2.1 dX9_insideOf_37 ?_
      refine lv_istore_n (lv' := [(2, .int (v2 ||| (1 <<< (v3 &&& 31)))), (0, .ref (ad 0)), (1, .int v1), (3, .int v3)]) C0.1 C0.2.1 dX9_insideOf_38 rfl hl (by decide) rfl (fun ls hl => ?_)
      refine lv_iinc (v := (v3 + 1)) (lv' := [(3, .int (v3 + 1)), (2, .int (v2 ||| (1 <<< (v3 &&& 31)))), (0, .ref (ad 0)), (1, .int v1)]) C0.1 C0.2.1 dX9_insideOf_39 hl (k := 3) rfl (congrArg (fun z => _ + z) kI_1) (by decide) rfl (fun ls hl => ?_)
      refine lv_goto (tgt := 4) C0.1 C0.2.1 dX9_insideOf_42 (by decide) ?_
      exact hk4 v1 (v2 ||| (1 <<< (v3 &&& 31))) (v3 + 1) H locs ls hW (lv_sub hl [2, 3, 1, 0] rfl) hf
theorem TX9_insideOf_4 {p : Program} {l : Launch} {e : Env} {s : State} {m : MethodId} {args : Array Value} {below : List Frame} {meth : Method} {c : Code} {D : va_G} {cy : Nat → ClassId} {ad : Nat → Nat} {P : MP} {V : MV} {I : MI} {J : MJ} {A : MI} {B : MJ} {Af : Nat → Prop} {res : Int32} (C0 : CX p s m args meth c cX9_insideOf 4 (some .int) RX9) (hK : va_K D vwCl (tyG cy) s) (hN : NWs s) (hA : ∀ q, s.heap.size ≤ q → Af q) : ∀ n, SX9_insideOf_4 p l e s m args below meth c D cy ad P V I J A B Af res (itr (fun kk => fX9_insideOf_4 (A 2) (A 35) kk) (fun _ _ _ => none) n) := by
  intro n
  induction n with
  | zero => intro v1 v2 v3 H locs ls hW hl hf; exact (nomatch (show (none : Option (Int32)) = some res from hf))
  | succ n ih => exact tX9_insideOf_4 C0 hK hN hA  ih
def fX9_insideOf (m_terrace : (Nat → Int32)) (m_s : (Nat → Int32)) (v1 : Int32) : Option (Int32) := itr (fun kk => fX9_insideOf_4 m_terrace m_s kk) (fun _ _ _ => none) FU v1 0 0
set_option maxHeartbeats 4000000 in
set_option maxRecDepth 100000 in
theorem KX9_insideOf (l : Launch) (D : va_G) (cy : Nat → ClassId) (ad : Nat → Nat) (P : MP) (V : MV) (I : MI) (J : MJ) (A : MI) (B : MJ) (v1 : Int32) {res : Int32} (hf : fX9_insideOf (A 2) (A 35) v1 = some res) : CG l yX9_insideOf cX9_insideOf 4 (some .int) rmX9_insideOf D cy (dn cy LY_X9 ad P V I J A B) [.ref (ad 0), .int v1] (some (.int res)) (dn cy LY_X9 ad P V (gp I []) (gp J []) (gm A []) (gm B [])) := by
  refine CG.of (own := RX9) (by decide) rfl rfl ?_
  intro p e s m below meth c ls Af C0 hK hN hA hW hl
  have hW : wd D (dn cy LY_X9 ad P V (gp I []) (gp J []) (gm A []) (gm B [])) Af s.heap s.heap [] := wd_sel [] [] [] [] hW
  have hl : lv_has ls 4 [(0, .ref (ad 0)), (1, .int v1)] := hl
  unfold fX9_insideOf at hf
  refine lv_iconst (v := 0) C0.1 C0.2.1 dX9_insideOf_0 kI_0 ?_
  refine lv_istore_n (lv' := [(2, .int 0), (0, .ref (ad 0)), (1, .int v1)]) C0.1 C0.2.1 dX9_insideOf_1 rfl hl (by decide) rfl (fun ls hl => ?_)
  refine lv_iconst (v := 0) C0.1 C0.2.1 dX9_insideOf_2 kI_0 ?_
  refine lv_istore_n (lv' := [(3, .int 0), (2, .int 0), (0, .ref (ad 0)), (1, .int v1)]) C0.1 C0.2.1 dX9_insideOf_3 rfl hl (by decide) rfl (fun ls hl => ?_)
  exact TX9_insideOf_4 C0 hK hN hA  FU v1 0 0 _ _ ls hW (lv_sub hl [2, 3, 1, 0] rfl) hf
-- X9_areAtWar
def rmX9_areAtWar : Room := { frames := 1, cells := 0, slots := 0, locals := 21 }
def fX9_areAtWar (m_guestFlag : (Nat → Int32)) (m_wars : (Nat → Int32)) (v1 : Int32) (v2 : Int32) : Option (Int32) := bif inb v1 10 then (bif inb (m_guestFlag (Int32.toNatClampNeg v1)) 20 then (bif inb v2 10 then (if (((m_wars (Int32.toNatClampNeg (m_guestFlag (Int32.toNatClampNeg v1)))) >>> ((m_guestFlag (Int32.toNatClampNeg v2)) &&& 31)) &&& 1) = 1 then (some (1)) else (some (0))) else none) else none) else none
set_option maxHeartbeats 4000000 in
set_option maxRecDepth 100000 in
theorem KX9_areAtWar (l : Launch) (D : va_G) (cy : Nat → ClassId) (ad : Nat → Nat) (P : MP) (V : MV) (I : MI) (J : MJ) (A : MI) (B : MJ) (v1 : Int32) (v2 : Int32) {res : Int32} (hf : fX9_areAtWar (A 10) (A 11) v1 v2 = some res) : CG l yX9_areAtWar cX9_areAtWar 3 (some .boolean) rmX9_areAtWar D cy (dn cy LY_X9 ad P V I J A B) [.ref (ad 0), .int v1, .int v2] (some (.int res)) (dn cy LY_X9 ad P V (gp I []) (gp J []) (gm A []) (gm B [])) := by
  refine CG.of (own := RX9) (by decide) rfl rfl ?_
  intro p e s m below meth c ls Af C0 hK hN hA hW hl
  have hW : wd D (dn cy LY_X9 ad P V (gp I []) (gp J []) (gm A []) (gm B [])) Af s.heap s.heap [] := wd_sel [] [] [] [] hW
  have hl : lv_has ls 3 [(0, .ref (ad 0)), (1, .int v1), (2, .int v2)] := hl
  unfold fX9_areAtWar at hf
  refine lv_aload_n C0.1 C0.2.1 dX9_areAtWar_0 rfl (lv_at hl 0 rfl) ?_
  refine s_get (v := .ref (ad 11)) C0 hK hW 0 19 LY_X9_0 rfl fg_X9_41 rfl dX9_areAtWar_1 ?_
  refine lv_aload_n C0.1 C0.2.1 dX9_areAtWar_4 rfl (lv_at hl 0 rfl) ?_
  refine s_get (v := .ref (ad 10)) C0 hK hW 0 18 LY_X9_0 rfl fg_X9_38 rfl dX9_areAtWar_5 ?_
  refine lv_iload_n C0.1 C0.2.1 dX9_areAtWar_8 rfl (lv_at hl 1 rfl) ?_
  obtain ⟨hb1, hf⟩ := g_some hf
  refine s_iald (v := ((A 10) (Int32.toNatClampNeg v1))) C0 hK hW 10 LY_X9_10 hb1 rfl dX9_areAtWar_9 ?_
  obtain ⟨hb2, hf⟩ := g_some hf
  refine s_iald (v := ((A 11) (Int32.toNatClampNeg ((A 10) (Int32.toNatClampNeg v1))))) C0 hK hW 11 LY_X9_11 hb2 rfl dX9_areAtWar_10 ?_
  refine lv_aload_n C0.1 C0.2.1 dX9_areAtWar_11 rfl (lv_at hl 0 rfl) ?_
  refine s_get (v := .ref (ad 10)) C0 hK hW 0 18 LY_X9_0 rfl fg_X9_38 rfl dX9_areAtWar_12 ?_
  refine lv_iload_n C0.1 C0.2.1 dX9_areAtWar_15 rfl (lv_at hl 2 rfl) ?_
  obtain ⟨hb3, hf⟩ := g_some hf
  refine s_iald (v := ((A 10) (Int32.toNatClampNeg v2))) C0 hK hW 10 LY_X9_10 hb3 rfl dX9_areAtWar_16 ?_
  refine lv_ishr C0.1 C0.2.1 dX9_areAtWar_17 ?_
  refine lv_iconst (v := 1) C0.1 C0.2.1 dX9_areAtWar_18 kI_1 ?_
  refine lv_iand C0.1 C0.2.1 dX9_areAtWar_19 ?_
  refine lv_iconst (v := 1) C0.1 C0.2.1 dX9_areAtWar_20 kI_1 ?_
  refine lv_icmp_ne (tgt := 28) C0.1 C0.2.1 dX9_areAtWar_21 (by decide) (fun hc4 => ?_) (fun hc4 => ?_)
  · have hf := ite_f hc4 hf
    refine lv_iconst (v := 0) C0.1 C0.2.1 dX9_areAtWar_28 kI_0 ?_
    obtain rfl := Option.some.inj hf
    exact r_bool C0 hK hW (v' := 0) rfl dX9_areAtWar_29
  · have hf := ite_t hc4 hf
    refine lv_iconst (v := 1) C0.1 C0.2.1 dX9_areAtWar_24 kI_1 ?_
    refine lv_goto (tgt := 29) C0.1 C0.2.1 dX9_areAtWar_25 (by decide) ?_
    obtain rfl := Option.some.inj hf
    exact r_bool C0 hK hW (v' := 1) rfl dX9_areAtWar_29
-- X9_foesIn
def rmX9_foesIn : Room := { frames := 2, cells := 0, slots := 0, locals := 43 }
def SX9_foesIn_5 (p : Program) (l : Launch) (e : Env) (s : State) (m : MethodId) (args : Array Value) (below : List Frame) (meth : Method) (c : Code) (D : va_G) (cy : Nat → ClassId) (ad : Nat → Nat) (P : MP) (V : MV) (I : MI) (J : MJ) (A : MI) (B : MJ) (Af : Nat → Prop) (res : Int32) (k : Int32 → Int32 → Int32 → Int32 → Option (Int32)) : Prop := ∀ (v1 : Int32) (v2 : Int32) (v3 : Int32) (v4 : Int32) (H : Heap) (locs : List Loc) (ls : Array Slot), wd D (dn cy LY_X9 ad P V (gp I []) (gp J []) (gm A []) (gm B [])) Af s.heap H locs → lv_has ls 5 [(0, .ref (ad 0)), (1, .int v1), (2, .int v2), (3, .int v3), (4, .int v4)] → k v1 v2 v3 v4 = some res → W p l e rmX9_foesIn s m args below meth c H locs 0 0 (ZQ below D cy (dn cy LY_X9 ad P V (gp I []) (gp J []) (gm A []) (gm B [])) (some (.int res)) Af args s) (F0 m 5 ls [])
def fX9_foesIn_5 (m_terrace : (Nat → Int32)) (m_guestFlag : (Nat → Int32)) (m_wars : (Nat → Int32)) (k5 : Int32 → Int32 → Int32 → Int32 → Option (Int32)) (v1 : Int32) (v2 : Int32) (v3 : Int32) (v4 : Int32) : Option (Int32) := if (m_terrace 1) ≤ v4 then (some (v3)) else (if ((v2 >>> (v4 &&& 31)) &&& 1) = 1 then (Option.bind (fX9_areAtWar m_guestFlag m_wars v1 v4) fun y3 => (if y3 = 0 then (k5 v1 v2 (v3 ||| 0) (v4 + 1)) else (k5 v1 v2 (v3 ||| (1 <<< (v4 &&& 31))) (v4 + 1)))) else (k5 v1 v2 (v3 ||| 0) (v4 + 1)))
set_option maxHeartbeats 4000000 in
set_option maxRecDepth 100000 in
theorem tX9_foesIn_5 {p : Program} {l : Launch} {e : Env} {s : State} {m : MethodId} {args : Array Value} {below : List Frame} {meth : Method} {c : Code} {D : va_G} {cy : Nat → ClassId} {ad : Nat → Nat} {P : MP} {V : MV} {I : MI} {J : MJ} {A : MI} {B : MJ} {Af : Nat → Prop} {res : Int32} (C0 : CX p s m args meth c cX9_foesIn 5 (some .int) RX9) (hK : va_K D vwCl (tyG cy) s) (hN : NWs s) (hA : ∀ q, s.heap.size ≤ q → Af q) {k5 : Int32 → Int32 → Int32 → Int32 → Option (Int32)} (hk5 : SX9_foesIn_5 p l e s m args below meth c D cy ad P V I J A B Af res k5) : SX9_foesIn_5 p l e s m args below meth c D cy ad P V I J A B Af res (fX9_foesIn_5 (A 2) (A 10) (A 11) k5) := by
  intro v1 v2 v3 v4 H locs ls hW hl hf
  unfold fX9_foesIn_5 at hf
  refine lv_iload C0.1 C0.2.1 dX9_foesIn_5 (lv_at hl 4 rfl) ?_
  refine lv_aload_n C0.1 C0.2.1 dX9_foesIn_7 rfl (lv_at hl 0 rfl) ?_
  refine s_get (v := .ref (ad 2)) C0 hK hW 0 10 LY_X9_0 rfl fg_X9_13 rfl dX9_foesIn_8 ?_
  refine lv_iconst (v := 1) C0.1 C0.2.1 dX9_foesIn_11 kI_1 ?_
  refine s_iald (v := ((A 2) 1)) C0 hK hW 2 LY_X9_2 rfl (congrArg _ tc_1) dX9_foesIn_12 ?_
  refine lv_icmp_ge (tgt := 53) C0.1 C0.2.1 dX9_foesIn_13 (by decide) (fun hc1 => ?_) (fun hc1 => ?_)
  · have hf := ite_t hc1 hf
    refine lv_iload_n C0.1 C0.2.1 dX9_foesIn_53 rfl (lv_at hl 3 rfl) ?_
    obtain rfl := Option.some.inj hf
    exact r_int C0 hK hW dX9_foesIn_54
  · have hf := ite_f hc1 hf
    refine lv_iload_n C0.1 C0.2.1 dX9_foesIn_16 rfl (lv_at hl 3 rfl) ?_
    refine lv_iload_n C0.1 C0.2.1 dX9_foesIn_17 rfl (lv_at hl 2 rfl) ?_
    refine lv_iload C0.1 C0.2.1 dX9_foesIn_18 (lv_at hl 4 rfl) ?_
    refine lv_ishr C0.1 C0.2.1 dX9_foesIn_20 ?_
    refine lv_iconst (v := 1) C0.1 C0.2.1 dX9_foesIn_21 kI_1 ?_
    refine lv_iand C0.1 C0.2.1 dX9_foesIn_22 ?_
    refine lv_iconst (v := 1) C0.1 C0.2.1 dX9_foesIn_23 kI_1 ?_
    refine lv_icmp_ne (tgt := 44) C0.1 C0.2.1 dX9_foesIn_24 (by decide) (fun hc2 => ?_) (fun hc2 => ?_)
    · have hf := ite_f hc2 hf
      refine lv_iconst (v := 0) C0.1 C0.2.1 dX9_foesIn_44 kI_0 ?_
      refine lv_ior C0.1 C0.2.1 dX9_foesIn_45 ?_
      refine lv_istore_n (lv' := [(3, .int (v3 ||| 0)), (0, .ref (ad 0)), (1, .int v1), (2, .int v2), (4, .int v4)]) C0.1 C0.2.1 dX9_foesIn_46 rfl hl (by decide) rfl (fun ls hl => ?_)
      refine lv_iinc (v := (v4 + 1)) (lv' := [(4, .int (v4 + 1)), (3, .int (v3 ||| 0)), (0, .ref (ad 0)), (1, .int v1), (2, .int v2)]) C0.1 C0.2.1 dX9_foesIn_47 hl (k := 4) rfl (congrArg (fun z => _ + z) kI_1) (by decide) rfl (fun ls hl => ?_)
      refine lv_goto (tgt := 5) C0.1 C0.2.1 dX9_foesIn_50 (by decide) ?_
      exact hk5 v1 v2 (v3 ||| 0) (v4 + 1) H locs ls hW (lv_sub hl [2, 3, 4, 1, 0] rfl) hf
    · have hf := ite_t hc2 hf
      refine lv_aload_n C0.1 C0.2.1 dX9_foesIn_27 rfl (lv_at hl 0 rfl) ?_
      refine lv_iload_n C0.1 C0.2.1 dX9_foesIn_28 rfl (lv_at hl 1 rfl) ?_
      refine lv_iload C0.1 C0.2.1 dX9_foesIn_29 (lv_at hl 4 rfl) ?_
      obtain ⟨y3, hy3, hf⟩ := b_some hf
      refine c_Vi C0 hK hN hl.1 hW hA (KX9_areAtWar l D cy  ad P V (gp I []) (gp J []) (gm A []) (gm B []) v1 v4 hy3) (JN_id rfl rfl rfl rfl) (Uw_V uw_1436 uw_1438 us_70 uw_14 uw_1439) rfl rfl hd_X9_areAtWar ⟨rfl, rfl⟩ rfl (dn_some LY_X9_0) rfl rfl rfl dX9_foesIn_31 ⟨Nat.zero_le _, Nat.zero_le _⟩ (fun H locs hW => ?_)
      have hW : wd D (dn cy LY_X9 ad P V (gp I []) (gp J []) (gm A []) (gm B [])) Af s.heap H locs := hW
      refine lv_if_eq (tgt := 44) C0.1 C0.2.1 dX9_foesIn_34 (by decide) (fun hc4 => ?_) (fun hc4 => ?_)
      · have hf := ite_t hc4 hf
        refine lv_iconst (v := 0) C0.1 C0.2.1 dX9_foesIn_44 kI_0 ?_
        refine lv_ior C0.1 C0.2.1 dX9_foesIn_45 ?_
        refine lv_istore_n (lv' := [(3, .int (v3 ||| 0)), (0, .ref (ad 0)), (1, .int v1), (2, .int v2), (4, .int v4)]) C0.1 C0.2.1 dX9_foesIn_46 rfl hl (by decide) rfl (fun ls hl => ?_)
        refine lv_iinc (v := (v4 + 1)) (lv' := [(4, .int (v4 + 1)), (3, .int (v3 ||| 0)), (0, .ref (ad 0)), (1, .int v1), (2, .int v2)]) C0.1 C0.2.1 dX9_foesIn_47 hl (k := 4) rfl (congrArg (fun z => _ + z) kI_1) (by decide) rfl (fun ls hl => ?_)
        refine lv_goto (tgt := 5) C0.1 C0.2.1 dX9_foesIn_50 (by decide) ?_
        exact hk5 v1 v2 (v3 ||| 0) (v4 + 1) H locs ls hW (lv_sub hl [2, 3, 4, 1, 0] rfl) hf
      · have hf := ite_f hc4 hf
        refine lv_iconst (v := 1) C0.1 C0.2.1 dX9_foesIn_37 kI_1 ?_
        refine lv_iload C0.1 C0.2.1 dX9_foesIn_38 (lv_at hl 4 rfl) ?_
        refine lv_ishl C0.1 C0.2.1 dX9_foesIn_40 ?_
        refine lv_goto (tgt := 45) C0.1 C0.2.1 dX9_foesIn_41 (by decide) ?_
        refine lv_ior C0.1 C0.2.1 dX9_foesIn_45 ?_
        refine lv_istore_n (lv' := [(3, .int (v3 ||| (1 <<< (v4 &&& 31)))), (0, .ref (ad 0)), (1, .int v1), (2, .int v2), (4, .int v4)]) C0.1 C0.2.1 dX9_foesIn_46 rfl hl (by decide) rfl (fun ls hl => ?_)
        refine lv_iinc (v := (v4 + 1)) (lv' := [(4, .int (v4 + 1)), (3, .int (v3 ||| (1 <<< (v4 &&& 31)))), (0, .ref (ad 0)), (1, .int v1), (2, .int v2)]) C0.1 C0.2.1 dX9_foesIn_47 hl (k := 4) rfl (congrArg (fun z => _ + z) kI_1) (by decide) rfl (fun ls hl => ?_)
        refine lv_goto (tgt := 5) C0.1 C0.2.1 dX9_foesIn_50 (by decide) ?_
        exact hk5 v1 v2 (v3 ||| (1 <<< (v4 &&& 31))) (v4 + 1) H locs ls hW (lv_sub hl [2, 3, 4, 1, 0] rfl) hf
theorem TX9_foesIn_5 {p : Program} {l : Launch} {e : Env} {s : State} {m : MethodId} {args : Array Value} {below : List Frame} {meth : Method} {c : Code} {D : va_G} {cy : Nat → ClassId} {ad : Nat → Nat} {P : MP} {V : MV} {I : MI} {J : MJ} {A : MI} {B : MJ} {Af : Nat → Prop} {res : Int32} (C0 : CX p s m args meth c cX9_foesIn 5 (some .int) RX9) (hK : va_K D vwCl (tyG cy) s) (hN : NWs s) (hA : ∀ q, s.heap.size ≤ q → Af q) : ∀ n, SX9_foesIn_5 p l e s m args below meth c D cy ad P V I J A B Af res (itr (fun kk => fX9_foesIn_5 (A 2) (A 10) (A 11) kk) (fun _ _ _ _ => none) n) := by
  intro n
  induction n with
  | zero => intro v1 v2 v3 v4 H locs ls hW hl hf; exact (nomatch (show (none : Option (Int32)) = some res from hf))
  | succ n ih => exact tX9_foesIn_5 C0 hK hN hA  ih
def fX9_foesIn (m_terrace : (Nat → Int32)) (m_guestFlag : (Nat → Int32)) (m_wars : (Nat → Int32)) (v1 : Int32) (v2 : Int32) : Option (Int32) := itr (fun kk => fX9_foesIn_5 m_terrace m_guestFlag m_wars kk) (fun _ _ _ _ => none) FU v1 v2 0 0
set_option maxHeartbeats 4000000 in
set_option maxRecDepth 100000 in
theorem KX9_foesIn (l : Launch) (D : va_G) (cy : Nat → ClassId) (ad : Nat → Nat) (P : MP) (V : MV) (I : MI) (J : MJ) (A : MI) (B : MJ) (v1 : Int32) (v2 : Int32) {res : Int32} (hf : fX9_foesIn (A 2) (A 10) (A 11) v1 v2 = some res) : CG l yX9_foesIn cX9_foesIn 5 (some .int) rmX9_foesIn D cy (dn cy LY_X9 ad P V I J A B) [.ref (ad 0), .int v1, .int v2] (some (.int res)) (dn cy LY_X9 ad P V (gp I []) (gp J []) (gm A []) (gm B [])) := by
  refine CG.of (own := RX9) (by decide) rfl rfl ?_
  intro p e s m below meth c ls Af C0 hK hN hA hW hl
  have hW : wd D (dn cy LY_X9 ad P V (gp I []) (gp J []) (gm A []) (gm B [])) Af s.heap s.heap [] := wd_sel [] [] [] [] hW
  have hl : lv_has ls 5 [(0, .ref (ad 0)), (1, .int v1), (2, .int v2)] := hl
  unfold fX9_foesIn at hf
  refine lv_iconst (v := 0) C0.1 C0.2.1 dX9_foesIn_0 kI_0 ?_
  refine lv_istore_n (lv' := [(3, .int 0), (0, .ref (ad 0)), (1, .int v1), (2, .int v2)]) C0.1 C0.2.1 dX9_foesIn_1 rfl hl (by decide) rfl (fun ls hl => ?_)
  refine lv_iconst (v := 0) C0.1 C0.2.1 dX9_foesIn_2 kI_0 ?_
  refine lv_istore (lv' := [(4, .int 0), (3, .int 0), (0, .ref (ad 0)), (1, .int v1), (2, .int v2)]) C0.1 C0.2.1 dX9_foesIn_3 hl (by decide) rfl (fun ls hl => ?_)
  exact TX9_foesIn_5 C0 hK hN hA  FU v1 v2 0 0 _ _ ls hW (lv_sub hl [2, 3, 4, 1, 0] rfl) hf
-- X9_isTakenBy
def rmX9_isTakenBy : Room := { frames := 4, cells := 0, slots := 0, locals := 89 }
def SX9_isTakenBy_138 (p : Program) (l : Launch) (e : Env) (s : State) (m : MethodId) (args : Array Value) (below : List Frame) (meth : Method) (c : Code) (D : va_G) (cy : Nat → ClassId) (ad : Nat → Nat) (P : MP) (V : MV) (I : MI) (J : MJ) (A : MI) (B : MJ) (Af : Nat → Prop) (res : Int32 × (Nat → Int32) × (Nat → Int32) × (Nat → Int32) × (Nat → Int32) × (Nat → Int32) × (Nat → Int32) × (Nat → Int32) × (Nat → Int32) × (Nat → Int32) × (Nat → Int32)) (k : (Nat → Int32) → (Nat → Int32) → (Nat → Int32) → (Nat → Int32) → (Nat → Int32) → (Nat → Int32) → (Nat → Int32) → (Nat → Int32) → (Nat → Int32) → (Nat → Int32) → Int32 → Int32 → Option (Int32 × (Nat → Int32) × (Nat → Int32) × (Nat → Int32) × (Nat → Int32) × (Nat → Int32) × (Nat → Int32) × (Nat → Int32) × (Nat → Int32) × (Nat → Int32) × (Nat → Int32))) : Prop := ∀ (m_kept : (Nat → Int32)) (m_keptBy : (Nat → Int32)) (m_ahead : (Nat → Int32)) (m_against : (Nat → Int32)) (m_sum : (Nat → Int32)) (m_sumBy : (Nat → Int32)) (m_term : (Nat → Int32)) (m_termBy : (Nat → Int32)) (m_byNot : (Nat → Int32)) (m_valueOf : (Nat → Int32)) (x0 : Int32) (x1 : Int32) (H : Heap) (locs : List Loc) (ls : Array Slot), wd D (dn cy LY_X9 ad P V (gp I []) (gp J []) (gm A [(18, m_kept), (19, m_keptBy), (20, m_ahead), (21, m_against), (22, m_sum), (23, m_sumBy), (24, m_term), (25, m_termBy), (26, m_byNot), (27, m_valueOf)]) (gm B [])) Af s.heap H locs → lv_has ls 5 [(0, .ref (ad 0))] → k m_kept m_keptBy m_ahead m_against m_sum m_sumBy m_term m_termBy m_byNot m_valueOf x0 x1 = some res → W p l e rmX9_isTakenBy s m args below meth c H locs 0 0 (ZQ below D cy (dn cy LY_X9 ad P V (gp I []) (gp J []) (gm A [(18, res.2.1), (19, res.2.2.1), (20, res.2.2.2.1), (21, res.2.2.2.2.1), (22, res.2.2.2.2.2.1), (23, res.2.2.2.2.2.2.1), (24, res.2.2.2.2.2.2.2.1), (25, res.2.2.2.2.2.2.2.2.1), (26, res.2.2.2.2.2.2.2.2.2.1), (27, res.2.2.2.2.2.2.2.2.2.2)]) (gm B [])) (some (.int res.1)) Af args s) (F0 m 138 ls [.int x0, .int x1, .ref (ad 27)])
def SX9_isTakenBy_51 (p : Program) (l : Launch) (e : Env) (s : State) (m : MethodId) (args : Array Value) (below : List Frame) (meth : Method) (c : Code) (D : va_G) (cy : Nat → ClassId) (ad : Nat → Nat) (P : MP) (V : MV) (I : MI) (J : MJ) (A : MI) (B : MJ) (Af : Nat → Prop) (res : Int32 × (Nat → Int32) × (Nat → Int32) × (Nat → Int32) × (Nat → Int32) × (Nat → Int32) × (Nat → Int32) × (Nat → Int32) × (Nat → Int32) × (Nat → Int32) × (Nat → Int32)) (k : (Nat → Int32) → (Nat → Int32) → (Nat → Int32) → (Nat → Int32) → (Nat → Int32) → (Nat → Int32) → (Nat → Int32) → (Nat → Int32) → (Nat → Int32) → (Nat → Int32) → Int32 → Int32 → Int32 → Int32 → Option (Int32 × (Nat → Int32) × (Nat → Int32) × (Nat → Int32) × (Nat → Int32) × (Nat → Int32) × (Nat → Int32) × (Nat → Int32) × (Nat → Int32) × (Nat → Int32) × (Nat → Int32))) : Prop := ∀ (m_kept : (Nat → Int32)) (m_keptBy : (Nat → Int32)) (m_ahead : (Nat → Int32)) (m_against : (Nat → Int32)) (m_sum : (Nat → Int32)) (m_sumBy : (Nat → Int32)) (m_term : (Nat → Int32)) (m_termBy : (Nat → Int32)) (m_byNot : (Nat → Int32)) (m_valueOf : (Nat → Int32)) (v1 : Int32) (v2 : Int32) (v3 : Int32) (v4 : Int32) (H : Heap) (locs : List Loc) (ls : Array Slot), wd D (dn cy LY_X9 ad P V (gp I []) (gp J []) (gm A [(18, m_kept), (19, m_keptBy), (20, m_ahead), (21, m_against), (22, m_sum), (23, m_sumBy), (24, m_term), (25, m_termBy), (26, m_byNot), (27, m_valueOf)]) (gm B [])) Af s.heap H locs → lv_has ls 5 [(0, .ref (ad 0)), (1, .int v1), (2, .int v2), (3, .int v3), (4, .int v4)] → k m_kept m_keptBy m_ahead m_against m_sum m_sumBy m_term m_termBy m_byNot m_valueOf v1 v2 v3 v4 = some res → W p l e rmX9_isTakenBy s m args below meth c H locs 0 0 (ZQ below D cy (dn cy LY_X9 ad P V (gp I []) (gp J []) (gm A [(18, res.2.1), (19, res.2.2.1), (20, res.2.2.2.1), (21, res.2.2.2.2.1), (22, res.2.2.2.2.2.1), (23, res.2.2.2.2.2.2.1), (24, res.2.2.2.2.2.2.2.1), (25, res.2.2.2.2.2.2.2.2.1), (26, res.2.2.2.2.2.2.2.2.2.1), (27, res.2.2.2.2.2.2.2.2.2.2)]) (gm B [])) (some (.int res.1)) Af args s) (F0 m 51 ls [])
def fX9_isTakenBy_138 (m_terrace : (Nat → Int32)) (m_holeFlag : (Nat → Int32)) (m_kind : (Nat → Int32)) (m_guestFlag : (Nat → Int32)) (m_wars : (Nat → Int32)) (m_lineFrom : (Nat → Int32)) (m_lineTo : (Nat → Int32)) (m_codes : (Nat → Int32)) (m_s : (Nat → Int32)) (m_kept : (Nat → Int32)) (m_keptBy : (Nat → Int32)) (m_ahead : (Nat → Int32)) (m_against : (Nat → Int32)) (m_sum : (Nat → Int32)) (m_sumBy : (Nat → Int32)) (m_term : (Nat → Int32)) (m_termBy : (Nat → Int32)) (m_byNot : (Nat → Int32)) (m_valueOf : (Nat → Int32)) (x0 : Int32) (x1 : Int32) : Option (Int32 × (Nat → Int32) × (Nat → Int32) × (Nat → Int32) × (Nat → Int32) × (Nat → Int32) × (Nat → Int32) × (Nat → Int32) × (Nat → Int32) × (Nat → Int32) × (Nat → Int32)) := bif inb x1 20 then (Option.bind (fX9_worked m_lineFrom m_lineTo m_codes (upd (upd m_valueOf (Int32.toNatClampNeg x1) x0) 4 (m_s 0)) m_kept m_keptBy m_ahead m_against m_sum m_sumBy m_term m_termBy m_byNot 0) fun y2 => (if y2.1 = 0 then (some (0, y2.2.1, y2.2.2.1, y2.2.2.2.1, y2.2.2.2.2.1, y2.2.2.2.2.2.1, y2.2.2.2.2.2.2.1, y2.2.2.2.2.2.2.2.1, y2.2.2.2.2.2.2.2.2.1, y2.2.2.2.2.2.2.2.2.2, (upd (upd m_valueOf (Int32.toNatClampNeg x1) x0) 4 (m_s 0)))) else (some (1, y2.2.1, y2.2.2.1, y2.2.2.2.1, y2.2.2.2.2.1, y2.2.2.2.2.2.1, y2.2.2.2.2.2.2.1, y2.2.2.2.2.2.2.2.1, y2.2.2.2.2.2.2.2.2.1, y2.2.2.2.2.2.2.2.2.2, (upd (upd m_valueOf (Int32.toNatClampNeg x1) x0) 4 (m_s 0)))))) else none
set_option maxHeartbeats 4000000 in
set_option maxRecDepth 100000 in
theorem tX9_isTakenBy_138 {p : Program} {l : Launch} {e : Env} {s : State} {m : MethodId} {args : Array Value} {below : List Frame} {meth : Method} {c : Code} {D : va_G} {cy : Nat → ClassId} {ad : Nat → Nat} {P : MP} {V : MV} {I : MI} {J : MJ} {A : MI} {B : MJ} {Af : Nat → Prop} {res : Int32 × (Nat → Int32) × (Nat → Int32) × (Nat → Int32) × (Nat → Int32) × (Nat → Int32) × (Nat → Int32) × (Nat → Int32) × (Nat → Int32) × (Nat → Int32) × (Nat → Int32)} (C0 : CX p s m args meth c cX9_isTakenBy 5 (some .boolean) RX9) (hK : va_K D vwCl (tyG cy) s) (hN : NWs s) (hA : ∀ q, s.heap.size ≤ q → Af q) : SX9_isTakenBy_138 p l e s m args below meth c D cy ad P V I J A B Af res (fX9_isTakenBy_138 (A 2) (A 5) (A 9) (A 10) (A 11) (A 13) (A 14) (A 15) (A 35)) := by
  intro m_kept m_keptBy m_ahead m_against m_sum m_sumBy m_term m_termBy m_byNot m_valueOf x0 x1 H locs ls hW hl hf
  unfold fX9_isTakenBy_138 at hf
  obtain ⟨hb1, hf⟩ := g_some hf
  refine s_iast (f := (upd m_valueOf (Int32.toNatClampNeg x1) x0)) C0 hK hW 27 LY_X9_27 hb1 rfl rfl dX9_isTakenBy_138 (fun H locs hW => ?_)
  have hW : wd D (dn cy LY_X9 ad P V (gp I []) (gp J []) (gm A [(18, m_kept), (19, m_keptBy), (20, m_ahead), (21, m_against), (22, m_sum), (23, m_sumBy), (24, m_term), (25, m_termBy), (26, m_byNot), (27, (upd m_valueOf (Int32.toNatClampNeg x1) x0))]) (gm B [])) Af s.heap H locs := hW
  refine lv_aload_n C0.1 C0.2.1 dX9_isTakenBy_139 rfl (lv_at hl 0 rfl) ?_
  refine s_get (v := .ref (ad 27)) C0 hK hW 0 37 LY_X9_0 rfl fg_X9_90 rfl dX9_isTakenBy_140 ?_
  refine lv_iconst (v := 4) C0.1 C0.2.1 dX9_isTakenBy_143 kI_4 ?_
  refine lv_aload_n C0.1 C0.2.1 dX9_isTakenBy_144 rfl (lv_at hl 0 rfl) ?_
  refine s_get (v := .ref (ad 35)) C0 hK hW 0 47 LY_X9_0 rfl fg_X9_114 rfl dX9_isTakenBy_145 ?_
  refine lv_iconst (v := 0) C0.1 C0.2.1 dX9_isTakenBy_148 kI_0 ?_
  refine s_iald (v := ((A 35) 0)) C0 hK hW 35 LY_X9_35 rfl (congrArg _ tc_0) dX9_isTakenBy_149 ?_
  refine s_iast (f := (upd (upd m_valueOf (Int32.toNatClampNeg x1) x0) 4 ((A 35) 0))) C0 hK hW 27 LY_X9_27 rfl rfl (congrArg (fun z => upd _ z _) tc_4) dX9_isTakenBy_150 (fun H locs hW => ?_)
  have hW : wd D (dn cy LY_X9 ad P V (gp I []) (gp J []) (gm A [(18, m_kept), (19, m_keptBy), (20, m_ahead), (21, m_against), (22, m_sum), (23, m_sumBy), (24, m_term), (25, m_termBy), (26, m_byNot), (27, (upd (upd m_valueOf (Int32.toNatClampNeg x1) x0) 4 ((A 35) 0)))]) (gm B [])) Af s.heap H locs := hW
  refine lv_aload_n C0.1 C0.2.1 dX9_isTakenBy_151 rfl (lv_at hl 0 rfl) ?_
  refine lv_iconst (v := 0) C0.1 C0.2.1 dX9_isTakenBy_152 kI_0 ?_
  obtain ⟨y2, hy2, hf⟩ := b_some hf
  refine c_Vi C0 hK hN hl.1 hW hA (KX9_worked l D cy  ad P V (gp I []) (gp J []) (gm A [(18, m_kept), (19, m_keptBy), (20, m_ahead), (21, m_against), (22, m_sum), (23, m_sumBy), (24, m_term), (25, m_termBy), (26, m_byNot), (27, (upd (upd m_valueOf (Int32.toNatClampNeg x1) x0) 4 ((A 35) 0)))]) (gm B []) 0 hy2) (JN_id rfl rfl rfl rfl) (Uw_V uw_1443 uw_1445 us_71 uw_14 uw_1446) rfl rfl hd_X9_worked ⟨rfl, rfl⟩ rfl (dn_some LY_X9_0) rfl rfl rfl dX9_isTakenBy_153 ⟨Nat.zero_le _, Nat.zero_le _⟩ (fun H locs hW => ?_)
  have hW : wd D (dn cy LY_X9 ad P V (gp I []) (gp J []) (gm A [(18, y2.2.1), (19, y2.2.2.1), (20, y2.2.2.2.1), (21, y2.2.2.2.2.1), (22, y2.2.2.2.2.2.1), (23, y2.2.2.2.2.2.2.1), (24, y2.2.2.2.2.2.2.2.1), (25, y2.2.2.2.2.2.2.2.2.1), (26, y2.2.2.2.2.2.2.2.2.2), (27, (upd (upd m_valueOf (Int32.toNatClampNeg x1) x0) 4 ((A 35) 0)))]) (gm B [])) Af s.heap H locs := hW
  refine lv_if_eq (tgt := 163) C0.1 C0.2.1 dX9_isTakenBy_156 (by decide) (fun hc3 => ?_) (fun hc3 => ?_)
  · have hf := ite_t hc3 hf
    refine lv_iconst (v := 0) C0.1 C0.2.1 dX9_isTakenBy_163 kI_0 ?_
    obtain rfl := Option.some.inj hf
    exact r_bool C0 hK hW (v' := 0) rfl dX9_isTakenBy_164
  · have hf := ite_f hc3 hf
    refine lv_iconst (v := 1) C0.1 C0.2.1 dX9_isTakenBy_159 kI_1 ?_
    refine lv_goto (tgt := 164) C0.1 C0.2.1 dX9_isTakenBy_160 (by decide) ?_
    obtain rfl := Option.some.inj hf
    exact r_bool C0 hK hW (v' := 1) rfl dX9_isTakenBy_164
def fX9_isTakenBy_51 (m_terrace : (Nat → Int32)) (m_holeFlag : (Nat → Int32)) (m_kind : (Nat → Int32)) (m_guestFlag : (Nat → Int32)) (m_wars : (Nat → Int32)) (m_lineFrom : (Nat → Int32)) (m_lineTo : (Nat → Int32)) (m_codes : (Nat → Int32)) (m_s : (Nat → Int32)) (m_kept : (Nat → Int32)) (m_keptBy : (Nat → Int32)) (m_ahead : (Nat → Int32)) (m_against : (Nat → Int32)) (m_sum : (Nat → Int32)) (m_sumBy : (Nat → Int32)) (m_term : (Nat → Int32)) (m_termBy : (Nat → Int32)) (m_byNot : (Nat → Int32)) (m_valueOf : (Nat → Int32)) (v1 : Int32) (v2 : Int32) (v3 : Int32) (v4 : Int32) : Option (Int32 × (Nat → Int32) × (Nat → Int32) × (Nat → Int32) × (Nat → Int32) × (Nat → Int32) × (Nat → Int32) × (Nat → Int32) × (Nat → Int32) × (Nat → Int32) × (Nat → Int32)) := bif inb v2 10 then (if (m_kind (Int32.toNatClampNeg v2)) = 2 then (some (1, m_kept, m_keptBy, m_ahead, m_against, m_sum, m_sumBy, m_term, m_termBy, m_byNot, m_valueOf)) else (if (m_lineTo 0) = (m_lineFrom 0) then (Option.bind (fX9_bits v3) fun y8 => (if v4 ≤ (y8 * 4) then (some (0, m_kept, m_keptBy, m_ahead, m_against, m_sum, m_sumBy, m_term, m_termBy, m_byNot, m_valueOf)) else (some (1, m_kept, m_keptBy, m_ahead, m_against, m_sum, m_sumBy, m_term, m_termBy, m_byNot, m_valueOf)))) else (Option.bind (fX9_bits v3) fun y4 => (bif inb v2 10 then (bif inb v1 10 then (if (m_guestFlag (Int32.toNatClampNeg v2)) = (m_holeFlag (Int32.toNatClampNeg v1)) then (fX9_isTakenBy_138 m_terrace m_holeFlag m_kind m_guestFlag m_wars m_lineFrom m_lineTo m_codes m_s m_kept m_keptBy m_ahead m_against m_sum m_sumBy m_term m_termBy m_byNot (upd (upd m_valueOf 1 v4) 2 y4) 1 3) else (fX9_isTakenBy_138 m_terrace m_holeFlag m_kind m_guestFlag m_wars m_lineFrom m_lineTo m_codes m_s m_kept m_keptBy m_ahead m_against m_sum m_sumBy m_term m_termBy m_byNot (upd (upd m_valueOf 1 v4) 2 y4) 0 3)) else none) else none)))) else none
set_option maxHeartbeats 4000000 in
set_option maxRecDepth 100000 in
theorem tX9_isTakenBy_51 {p : Program} {l : Launch} {e : Env} {s : State} {m : MethodId} {args : Array Value} {below : List Frame} {meth : Method} {c : Code} {D : va_G} {cy : Nat → ClassId} {ad : Nat → Nat} {P : MP} {V : MV} {I : MI} {J : MJ} {A : MI} {B : MJ} {Af : Nat → Prop} {res : Int32 × (Nat → Int32) × (Nat → Int32) × (Nat → Int32) × (Nat → Int32) × (Nat → Int32) × (Nat → Int32) × (Nat → Int32) × (Nat → Int32) × (Nat → Int32) × (Nat → Int32)} (C0 : CX p s m args meth c cX9_isTakenBy 5 (some .boolean) RX9) (hK : va_K D vwCl (tyG cy) s) (hN : NWs s) (hA : ∀ q, s.heap.size ≤ q → Af q) : SX9_isTakenBy_51 p l e s m args below meth c D cy ad P V I J A B Af res (fX9_isTakenBy_51 (A 2) (A 5) (A 9) (A 10) (A 11) (A 13) (A 14) (A 15) (A 35)) := by
  intro m_kept m_keptBy m_ahead m_against m_sum m_sumBy m_term m_termBy m_byNot m_valueOf v1 v2 v3 v4 H locs ls hW hl hf
  unfold fX9_isTakenBy_51 at hf
  refine lv_aload_n C0.1 C0.2.1 dX9_isTakenBy_51 rfl (lv_at hl 0 rfl) ?_
  refine s_get (v := .ref (ad 9)) C0 hK hW 0 17 LY_X9_0 rfl fg_X9_35 rfl dX9_isTakenBy_52 ?_
  refine lv_iload_n C0.1 C0.2.1 dX9_isTakenBy_55 rfl (lv_at hl 2 rfl) ?_
  obtain ⟨hb1, hf⟩ := g_some hf
  refine s_iald (v := ((A 9) (Int32.toNatClampNeg v2))) C0 hK hW 9 LY_X9_9 hb1 rfl dX9_isTakenBy_56 ?_
  refine lv_iconst (v := 2) C0.1 C0.2.1 dX9_isTakenBy_57 kI_2 ?_
  refine lv_icmp_ne (tgt := 63) C0.1 C0.2.1 dX9_isTakenBy_58 (by decide) (fun hc2 => ?_) (fun hc2 => ?_)
  · have hf := ite_f hc2 hf
    refine lv_aload_n C0.1 C0.2.1 dX9_isTakenBy_63 rfl (lv_at hl 0 rfl) ?_
    refine s_get (v := .ref (ad 14)) C0 hK hW 0 22 LY_X9_0 rfl fg_X9_50 rfl dX9_isTakenBy_64 ?_
    refine lv_iconst (v := 0) C0.1 C0.2.1 dX9_isTakenBy_67 kI_0 ?_
    refine s_iald (v := ((A 14) 0)) C0 hK hW 14 LY_X9_14 rfl (congrArg _ tc_0) dX9_isTakenBy_68 ?_
    refine lv_aload_n C0.1 C0.2.1 dX9_isTakenBy_69 rfl (lv_at hl 0 rfl) ?_
    refine s_get (v := .ref (ad 13)) C0 hK hW 0 21 LY_X9_0 rfl fg_X9_47 rfl dX9_isTakenBy_70 ?_
    refine lv_iconst (v := 0) C0.1 C0.2.1 dX9_isTakenBy_73 kI_0 ?_
    refine s_iald (v := ((A 13) 0)) C0 hK hW 13 LY_X9_13 rfl (congrArg _ tc_0) dX9_isTakenBy_74 ?_
    refine lv_icmp_ne (tgt := 95) C0.1 C0.2.1 dX9_isTakenBy_75 (by decide) (fun hc3 => ?_) (fun hc3 => ?_)
    · have hf := ite_f hc3 hf
      refine lv_aload_n C0.1 C0.2.1 dX9_isTakenBy_95 rfl (lv_at hl 0 rfl) ?_
      refine s_get (v := .ref (ad 27)) C0 hK hW 0 37 LY_X9_0 rfl fg_X9_90 rfl dX9_isTakenBy_96 ?_
      refine lv_iconst (v := 1) C0.1 C0.2.1 dX9_isTakenBy_99 kI_1 ?_
      refine lv_iload C0.1 C0.2.1 dX9_isTakenBy_100 (lv_at hl 4 rfl) ?_
      refine s_iast (f := (upd m_valueOf 1 v4)) C0 hK hW 27 LY_X9_27 rfl rfl (congrArg (fun z => upd _ z _) tc_1) dX9_isTakenBy_102 (fun H locs hW => ?_)
      have hW : wd D (dn cy LY_X9 ad P V (gp I []) (gp J []) (gm A [(18, m_kept), (19, m_keptBy), (20, m_ahead), (21, m_against), (22, m_sum), (23, m_sumBy), (24, m_term), (25, m_termBy), (26, m_byNot), (27, (upd m_valueOf 1 v4))]) (gm B [])) Af s.heap H locs := hW
      refine lv_aload_n C0.1 C0.2.1 dX9_isTakenBy_103 rfl (lv_at hl 0 rfl) ?_
      refine s_get (v := .ref (ad 27)) C0 hK hW 0 37 LY_X9_0 rfl fg_X9_90 rfl dX9_isTakenBy_104 ?_
      refine lv_iconst (v := 2) C0.1 C0.2.1 dX9_isTakenBy_107 kI_2 ?_
      refine lv_iload_n C0.1 C0.2.1 dX9_isTakenBy_108 rfl (lv_at hl 3 rfl) ?_
      obtain ⟨y4, hy4, hf⟩ := b_some hf
      refine c_Si C0 hK hN hl.1 hW hA (KX9_bits l D cy  (fun q => ad (pl_LY_X9_LY_0_.getD q 0)) (fun q => P (pl_LY_X9_LY_0_.getD q 0)) (fun q => Vx LY_X9 ad V (pl_LY_X9_LY_0_.getD q 0)) (fun q => gp I [] (pl_LY_X9_LY_0_.getD q 0)) (fun q => gp J [] (pl_LY_X9_LY_0_.getD q 0)) (fun q => gm A [(18, m_kept), (19, m_keptBy), (20, m_ahead), (21, m_against), (22, m_sum), (23, m_sumBy), (24, m_term), (25, m_termBy), (26, m_byNot), (27, (upd m_valueOf 1 v4))] (pl_LY_X9_LY_0_.getD q 0)) (fun q => gm B [] (pl_LY_X9_LY_0_.getD q 0)) v3 hy4) (JN_subC (pl := pl_LY_X9_LY_0_) sb_LY_X9_LY_0_ rfl rfl rfl rfl rfl rfl rfl rfl rfl) ⟨uw_1440, uw_1441, uw_14, uw_1442⟩ rfl rfl hd_X9_bits ⟨rfl, rfl⟩ rfl rfl rfl dX9_isTakenBy_109 ⟨Nat.zero_le _, Nat.zero_le _⟩ (fun H locs hW => ?_)
      have hW : wd D (dn cy LY_X9 ad P V (gp I []) (gp J []) (gm A [(18, m_kept), (19, m_keptBy), (20, m_ahead), (21, m_against), (22, m_sum), (23, m_sumBy), (24, m_term), (25, m_termBy), (26, m_byNot), (27, (upd m_valueOf 1 v4))]) (gm B [])) Af s.heap H locs := hW
      refine s_iast (f := (upd (upd m_valueOf 1 v4) 2 y4)) C0 hK hW 27 LY_X9_27 rfl rfl (congrArg (fun z => upd _ z _) tc_2) dX9_isTakenBy_112 (fun H locs hW => ?_)
      have hW : wd D (dn cy LY_X9 ad P V (gp I []) (gp J []) (gm A [(18, m_kept), (19, m_keptBy), (20, m_ahead), (21, m_against), (22, m_sum), (23, m_sumBy), (24, m_term), (25, m_termBy), (26, m_byNot), (27, (upd (upd m_valueOf 1 v4) 2 y4))]) (gm B [])) Af s.heap H locs := hW
      refine lv_aload_n C0.1 C0.2.1 dX9_isTakenBy_113 rfl (lv_at hl 0 rfl) ?_
      refine s_get (v := .ref (ad 27)) C0 hK hW 0 37 LY_X9_0 rfl fg_X9_90 rfl dX9_isTakenBy_114 ?_
      refine lv_iconst (v := 3) C0.1 C0.2.1 dX9_isTakenBy_117 kI_3 ?_
      refine lv_aload_n C0.1 C0.2.1 dX9_isTakenBy_118 rfl (lv_at hl 0 rfl) ?_
      refine s_get (v := .ref (ad 10)) C0 hK hW 0 18 LY_X9_0 rfl fg_X9_38 rfl dX9_isTakenBy_119 ?_
      refine lv_iload_n C0.1 C0.2.1 dX9_isTakenBy_122 rfl (lv_at hl 2 rfl) ?_
      obtain ⟨hb5, hf⟩ := g_some hf
      refine s_iald (v := ((A 10) (Int32.toNatClampNeg v2))) C0 hK hW 10 LY_X9_10 hb5 rfl dX9_isTakenBy_123 ?_
      refine lv_aload_n C0.1 C0.2.1 dX9_isTakenBy_124 rfl (lv_at hl 0 rfl) ?_
      refine s_get (v := .ref (ad 5)) C0 hK hW 0 13 LY_X9_0 rfl fg_X9_23 rfl dX9_isTakenBy_125 ?_
      refine lv_iload_n C0.1 C0.2.1 dX9_isTakenBy_128 rfl (lv_at hl 1 rfl) ?_
      obtain ⟨hb6, hf⟩ := g_some hf
      refine s_iald (v := ((A 5) (Int32.toNatClampNeg v1))) C0 hK hW 5 LY_X9_5 hb6 rfl dX9_isTakenBy_129 ?_
      refine lv_icmp_ne (tgt := 137) C0.1 C0.2.1 dX9_isTakenBy_130 (by decide) (fun hc7 => ?_) (fun hc7 => ?_)
      · have hf := ite_f hc7 hf
        refine lv_iconst (v := 0) C0.1 C0.2.1 dX9_isTakenBy_137 kI_0 ?_
        exact tX9_isTakenBy_138 C0 hK hN hA  m_kept m_keptBy m_ahead m_against m_sum m_sumBy m_term m_termBy m_byNot (upd (upd m_valueOf 1 v4) 2 y4) 0 3 H locs ls hW (lv_sub hl [0] rfl) hf
      · have hf := ite_t hc7 hf
        refine lv_iconst (v := 1) C0.1 C0.2.1 dX9_isTakenBy_133 kI_1 ?_
        refine lv_goto (tgt := 138) C0.1 C0.2.1 dX9_isTakenBy_134 (by decide) ?_
        exact tX9_isTakenBy_138 C0 hK hN hA  m_kept m_keptBy m_ahead m_against m_sum m_sumBy m_term m_termBy m_byNot (upd (upd m_valueOf 1 v4) 2 y4) 1 3 H locs ls hW (lv_sub hl [0] rfl) hf
    · have hf := ite_t hc3 hf
      refine lv_iload_n C0.1 C0.2.1 dX9_isTakenBy_78 rfl (lv_at hl 3 rfl) ?_
      obtain ⟨y8, hy8, hf⟩ := b_some hf
      refine c_Si C0 hK hN hl.1 hW hA (KX9_bits l D cy  (fun q => ad (pl_LY_X9_LY_0_.getD q 0)) (fun q => P (pl_LY_X9_LY_0_.getD q 0)) (fun q => Vx LY_X9 ad V (pl_LY_X9_LY_0_.getD q 0)) (fun q => gp I [] (pl_LY_X9_LY_0_.getD q 0)) (fun q => gp J [] (pl_LY_X9_LY_0_.getD q 0)) (fun q => gm A [(18, m_kept), (19, m_keptBy), (20, m_ahead), (21, m_against), (22, m_sum), (23, m_sumBy), (24, m_term), (25, m_termBy), (26, m_byNot), (27, m_valueOf)] (pl_LY_X9_LY_0_.getD q 0)) (fun q => gm B [] (pl_LY_X9_LY_0_.getD q 0)) v3 hy8) (JN_subC (pl := pl_LY_X9_LY_0_) sb_LY_X9_LY_0_ rfl rfl rfl rfl rfl rfl rfl rfl rfl) ⟨uw_1440, uw_1441, uw_14, uw_1442⟩ rfl rfl hd_X9_bits ⟨rfl, rfl⟩ rfl rfl rfl dX9_isTakenBy_79 ⟨Nat.zero_le _, Nat.zero_le _⟩ (fun H locs hW => ?_)
      have hW : wd D (dn cy LY_X9 ad P V (gp I []) (gp J []) (gm A [(18, m_kept), (19, m_keptBy), (20, m_ahead), (21, m_against), (22, m_sum), (23, m_sumBy), (24, m_term), (25, m_termBy), (26, m_byNot), (27, m_valueOf)]) (gm B [])) Af s.heap H locs := hW
      refine lv_iconst (v := 4) C0.1 C0.2.1 dX9_isTakenBy_82 kI_4 ?_
      refine lv_imul C0.1 C0.2.1 dX9_isTakenBy_83 ?_
      refine lv_iload C0.1 C0.2.1 dX9_isTakenBy_84 (lv_at hl 4 rfl) ?_
      refine lv_icmp_ge (tgt := 93) C0.1 C0.2.1 dX9_isTakenBy_86 (by decide) (fun hc9 => ?_) (fun hc9 => ?_)
      · have hf := ite_t hc9 hf
        refine lv_iconst (v := 0) C0.1 C0.2.1 dX9_isTakenBy_93 kI_0 ?_
        obtain rfl := Option.some.inj hf
        exact r_bool C0 hK hW (v' := 0) rfl dX9_isTakenBy_94
      · have hf := ite_f hc9 hf
        refine lv_iconst (v := 1) C0.1 C0.2.1 dX9_isTakenBy_89 kI_1 ?_
        refine lv_goto (tgt := 94) C0.1 C0.2.1 dX9_isTakenBy_90 (by decide) ?_
        obtain rfl := Option.some.inj hf
        exact r_bool C0 hK hW (v' := 1) rfl dX9_isTakenBy_94
  · have hf := ite_t hc2 hf
    refine lv_iconst (v := 1) C0.1 C0.2.1 dX9_isTakenBy_61 kI_1 ?_
    obtain rfl := Option.some.inj hf
    exact r_bool C0 hK hW (v' := 1) rfl dX9_isTakenBy_62
def fX9_isTakenBy (m_terrace : (Nat → Int32)) (m_holeFlag : (Nat → Int32)) (m_kind : (Nat → Int32)) (m_guestFlag : (Nat → Int32)) (m_wars : (Nat → Int32)) (m_lineFrom : (Nat → Int32)) (m_lineTo : (Nat → Int32)) (m_codes : (Nat → Int32)) (m_s : (Nat → Int32)) (m_kept : (Nat → Int32)) (m_keptBy : (Nat → Int32)) (m_ahead : (Nat → Int32)) (m_against : (Nat → Int32)) (m_sum : (Nat → Int32)) (m_sumBy : (Nat → Int32)) (m_term : (Nat → Int32)) (m_termBy : (Nat → Int32)) (m_byNot : (Nat → Int32)) (m_valueOf : (Nat → Int32)) (v1 : Int32) (v2 : Int32) : Option (Int32 × (Nat → Int32) × (Nat → Int32) × (Nat → Int32) × (Nat → Int32) × (Nat → Int32) × (Nat → Int32) × (Nat → Int32) × (Nat → Int32) × (Nat → Int32) × (Nat → Int32)) := bif inb v2 10 then (if (m_kind (Int32.toNatClampNeg v2)) = 3 then (some (1, m_kept, m_keptBy, m_ahead, m_against, m_sum, m_sumBy, m_term, m_termBy, m_byNot, m_valueOf)) else (Option.bind (fX9_insideOf m_terrace m_s v1) fun y3 => (bif inb (3 + v1) 13 then (if (m_s (Int32.toNatClampNeg (3 + v1))) = 0 then (some (0, m_kept, m_keptBy, m_ahead, m_against, m_sum, m_sumBy, m_term, m_termBy, m_byNot, m_valueOf)) else (if 20 ≤ (m_s (Int32.toNatClampNeg (3 + v1))) then (fX9_isTakenBy_51 m_terrace m_holeFlag m_kind m_guestFlag m_wars m_lineFrom m_lineTo m_codes m_s m_kept m_keptBy m_ahead m_against m_sum m_sumBy m_term m_termBy m_byNot m_valueOf v1 v2 y3 (m_s (Int32.toNatClampNeg (3 + v1)))) else (Option.bind (fX9_foesIn m_terrace m_guestFlag m_wars v2 y3) fun y7 => (if y7 = 0 then (fX9_isTakenBy_51 m_terrace m_holeFlag m_kind m_guestFlag m_wars m_lineFrom m_lineTo m_codes m_s m_kept m_keptBy m_ahead m_against m_sum m_sumBy m_term m_termBy m_byNot m_valueOf v1 v2 y3 (m_s (Int32.toNatClampNeg (3 + v1)))) else (some (0, m_kept, m_keptBy, m_ahead, m_against, m_sum, m_sumBy, m_term, m_termBy, m_byNot, m_valueOf)))))) else none))) else none
set_option maxHeartbeats 4000000 in
set_option maxRecDepth 100000 in
theorem KX9_isTakenBy (l : Launch) (D : va_G) (cy : Nat → ClassId) (ad : Nat → Nat) (P : MP) (V : MV) (I : MI) (J : MJ) (A : MI) (B : MJ) (v1 : Int32) (v2 : Int32) {res : Int32 × (Nat → Int32) × (Nat → Int32) × (Nat → Int32) × (Nat → Int32) × (Nat → Int32) × (Nat → Int32) × (Nat → Int32) × (Nat → Int32) × (Nat → Int32) × (Nat → Int32)} (hf : fX9_isTakenBy (A 2) (A 5) (A 9) (A 10) (A 11) (A 13) (A 14) (A 15) (A 35) (A 18) (A 19) (A 20) (A 21) (A 22) (A 23) (A 24) (A 25) (A 26) (A 27) v1 v2 = some res) : CG l yX9_isTakenBy cX9_isTakenBy 5 (some .boolean) rmX9_isTakenBy D cy (dn cy LY_X9 ad P V I J A B) [.ref (ad 0), .int v1, .int v2] (some (.int res.1)) (dn cy LY_X9 ad P V (gp I []) (gp J []) (gm A [(18, res.2.1), (19, res.2.2.1), (20, res.2.2.2.1), (21, res.2.2.2.2.1), (22, res.2.2.2.2.2.1), (23, res.2.2.2.2.2.2.1), (24, res.2.2.2.2.2.2.2.1), (25, res.2.2.2.2.2.2.2.2.1), (26, res.2.2.2.2.2.2.2.2.2.1), (27, res.2.2.2.2.2.2.2.2.2.2)]) (gm B [])) := by
  refine CG.of (own := RX9) (by decide) rfl rfl ?_
  intro p e s m below meth c ls Af C0 hK hN hA hW hl
  have hW : wd D (dn cy LY_X9 ad P V (gp I []) (gp J []) (gm A [(18, (A 18)), (19, (A 19)), (20, (A 20)), (21, (A 21)), (22, (A 22)), (23, (A 23)), (24, (A 24)), (25, (A 25)), (26, (A 26)), (27, (A 27))]) (gm B [])) Af s.heap s.heap [] := wd_sel [] [] [18, 19, 20, 21, 22, 23, 24, 25, 26, 27] [] hW
  have hl : lv_has ls 5 [(0, .ref (ad 0)), (1, .int v1), (2, .int v2)] := hl
  unfold fX9_isTakenBy at hf
  refine lv_aload_n C0.1 C0.2.1 dX9_isTakenBy_0 rfl (lv_at hl 0 rfl) ?_
  refine s_get (v := .ref (ad 9)) C0 hK hW 0 17 LY_X9_0 rfl fg_X9_35 rfl dX9_isTakenBy_1 ?_
  refine lv_iload_n C0.1 C0.2.1 dX9_isTakenBy_4 rfl (lv_at hl 2 rfl) ?_
  obtain ⟨hb1, hf⟩ := g_some hf
  refine s_iald (v := ((A 9) (Int32.toNatClampNeg v2))) C0 hK hW 9 LY_X9_9 hb1 rfl dX9_isTakenBy_5 ?_
  refine lv_iconst (v := 3) C0.1 C0.2.1 dX9_isTakenBy_6 kI_3 ?_
  refine lv_icmp_ne (tgt := 12) C0.1 C0.2.1 dX9_isTakenBy_7 (by decide) (fun hc2 => ?_) (fun hc2 => ?_)
  · have hf := ite_f hc2 hf
    refine lv_aload_n C0.1 C0.2.1 dX9_isTakenBy_12 rfl (lv_at hl 0 rfl) ?_
    refine lv_iload_n C0.1 C0.2.1 dX9_isTakenBy_13 rfl (lv_at hl 1 rfl) ?_
    obtain ⟨y3, hy3, hf⟩ := b_some hf
    refine c_Vi C0 hK hN hl.1 hW hA (KX9_insideOf l D cy  ad P V (gp I []) (gp J []) (gm A [(18, (A 18)), (19, (A 19)), (20, (A 20)), (21, (A 21)), (22, (A 22)), (23, (A 23)), (24, (A 24)), (25, (A 25)), (26, (A 26)), (27, (A 27))]) (gm B []) v1 hy3) (JN_id rfl rfl rfl rfl) (Uw_V uw_1424 uw_1426 us_67 uw_14 uw_1427) rfl rfl hd_X9_insideOf ⟨rfl, rfl⟩ rfl (dn_some LY_X9_0) rfl rfl rfl dX9_isTakenBy_14 ⟨Nat.zero_le _, Nat.zero_le _⟩ (fun H locs hW => ?_)
    have hW : wd D (dn cy LY_X9 ad P V (gp I []) (gp J []) (gm A [(18, (A 18)), (19, (A 19)), (20, (A 20)), (21, (A 21)), (22, (A 22)), (23, (A 23)), (24, (A 24)), (25, (A 25)), (26, (A 26)), (27, (A 27))]) (gm B [])) Af s.heap H locs := hW
    refine lv_istore_n (lv' := [(3, .int y3), (0, .ref (ad 0)), (1, .int v1), (2, .int v2)]) C0.1 C0.2.1 dX9_isTakenBy_17 rfl hl (by decide) rfl (fun ls hl => ?_)
    refine lv_aload_n C0.1 C0.2.1 dX9_isTakenBy_18 rfl (lv_at hl 1 rfl) ?_
    refine s_get (v := .ref (ad 35)) C0 hK hW 0 47 LY_X9_0 rfl fg_X9_114 rfl dX9_isTakenBy_19 ?_
    refine lv_iconst (v := 3) C0.1 C0.2.1 dX9_isTakenBy_22 kI_3 ?_
    refine lv_iload_n C0.1 C0.2.1 dX9_isTakenBy_23 rfl (lv_at hl 2 rfl) ?_
    refine lv_iadd C0.1 C0.2.1 dX9_isTakenBy_24 ?_
    obtain ⟨hb4, hf⟩ := g_some hf
    refine s_iald (v := ((A 35) (Int32.toNatClampNeg (3 + v1)))) C0 hK hW 35 LY_X9_35 hb4 rfl dX9_isTakenBy_25 ?_
    refine lv_istore (lv' := [(4, .int ((A 35) (Int32.toNatClampNeg (3 + v1)))), (3, .int y3), (0, .ref (ad 0)), (1, .int v1), (2, .int v2)]) C0.1 C0.2.1 dX9_isTakenBy_26 hl (by decide) rfl (fun ls hl => ?_)
    refine lv_iload C0.1 C0.2.1 dX9_isTakenBy_28 (lv_at hl 0 rfl) ?_
    refine lv_if_eq (tgt := 49) C0.1 C0.2.1 dX9_isTakenBy_30 (by decide) (fun hc5 => ?_) (fun hc5 => ?_)
    · have hf := ite_t hc5 hf
      refine lv_iconst (v := 0) C0.1 C0.2.1 dX9_isTakenBy_49 kI_0 ?_
      obtain rfl := Option.some.inj hf
      exact r_bool C0 hK hW (v' := 0) rfl dX9_isTakenBy_50
    · have hf := ite_f hc5 hf
      refine lv_iload C0.1 C0.2.1 dX9_isTakenBy_33 (lv_at hl 0 rfl) ?_
      refine lv_bipush (v := 20) C0.1 C0.2.1 dX9_isTakenBy_35 kB_20 ?_
      refine lv_icmp_ge (tgt := 51) C0.1 C0.2.1 dX9_isTakenBy_37 (by decide) (fun hc6 => ?_) (fun hc6 => ?_)
      · have hf := ite_t hc6 hf
        exact tX9_isTakenBy_51 C0 hK hN hA  (A 18) (A 19) (A 20) (A 21) (A 22) (A 23) (A 24) (A 25) (A 26) (A 27) v1 v2 y3 ((A 35) (Int32.toNatClampNeg (3 + v1))) _ _ ls hW (lv_sub hl [2, 3, 4, 1, 0] rfl) hf
      · have hf := ite_f hc6 hf
        refine lv_aload_n C0.1 C0.2.1 dX9_isTakenBy_40 rfl (lv_at hl 2 rfl) ?_
        refine lv_iload_n C0.1 C0.2.1 dX9_isTakenBy_41 rfl (lv_at hl 4 rfl) ?_
        refine lv_iload_n C0.1 C0.2.1 dX9_isTakenBy_42 rfl (lv_at hl 1 rfl) ?_
        obtain ⟨y7, hy7, hf⟩ := b_some hf
        refine c_Vi C0 hK hN hl.1 hW hA (KX9_foesIn l D cy  ad P V (gp I []) (gp J []) (gm A [(18, (A 18)), (19, (A 19)), (20, (A 20)), (21, (A 21)), (22, (A 22)), (23, (A 23)), (24, (A 24)), (25, (A 25)), (26, (A 26)), (27, (A 27))]) (gm B []) v2 y3 hy7) (JN_id rfl rfl rfl rfl) (Uw_V uw_1432 uw_1434 us_69 uw_14 uw_1435) rfl rfl hd_X9_foesIn ⟨rfl, rfl⟩ rfl (dn_some LY_X9_0) rfl rfl rfl dX9_isTakenBy_43 ⟨Nat.zero_le _, Nat.zero_le _⟩ (fun H locs hW => ?_)
        have hW : wd D (dn cy LY_X9 ad P V (gp I []) (gp J []) (gm A [(18, (A 18)), (19, (A 19)), (20, (A 20)), (21, (A 21)), (22, (A 22)), (23, (A 23)), (24, (A 24)), (25, (A 25)), (26, (A 26)), (27, (A 27))]) (gm B [])) Af s.heap H locs := hW
        refine lv_if_eq (tgt := 51) C0.1 C0.2.1 dX9_isTakenBy_46 (by decide) (fun hc8 => ?_) (fun hc8 => ?_)
        · have hf := ite_t hc8 hf
          exact tX9_isTakenBy_51 C0 hK hN hA  (A 18) (A 19) (A 20) (A 21) (A 22) (A 23) (A 24) (A 25) (A 26) (A 27) v1 v2 y3 ((A 35) (Int32.toNatClampNeg (3 + v1))) _ _ ls hW (lv_sub hl [2, 3, 4, 1, 0] rfl) hf
        · have hf := ite_f hc8 hf
          refine lv_iconst (v := 0) C0.1 C0.2.1 dX9_isTakenBy_49 kI_0 ?_
          obtain rfl := Option.some.inj hf
          exact r_bool C0 hK hW (v' := 0) rfl dX9_isTakenBy_50
  · have hf := ite_t hc2 hf
    refine lv_iconst (v := 1) C0.1 C0.2.1 dX9_isTakenBy_10 kI_1 ?_
    obtain rfl := Option.some.inj hf
    exact r_bool C0 hK hW (v' := 1) rfl dX9_isTakenBy_11
-- X9_canDown
def rmX9_canDown : Room := { frames := 5, cells := 0, slots := 0, locals := 113 }
def fX9_canDown (m_terrace : (Nat → Int32)) (m_holeFlag : (Nat → Int32)) (m_kind : (Nat → Int32)) (m_guestFlag : (Nat → Int32)) (m_wars : (Nat → Int32)) (m_lineFrom : (Nat → Int32)) (m_lineTo : (Nat → Int32)) (m_codes : (Nat → Int32)) (m_s : (Nat → Int32)) (m_kept : (Nat → Int32)) (m_keptBy : (Nat → Int32)) (m_ahead : (Nat → Int32)) (m_against : (Nat → Int32)) (m_sum : (Nat → Int32)) (m_sumBy : (Nat → Int32)) (m_term : (Nat → Int32)) (m_termBy : (Nat → Int32)) (m_byNot : (Nat → Int32)) (m_valueOf : (Nat → Int32)) (v1 : Int32) (v2 : Int32) : Option (Int32 × (Nat → Int32) × (Nat → Int32) × (Nat → Int32) × (Nat → Int32) × (Nat → Int32) × (Nat → Int32) × (Nat → Int32) × (Nat → Int32) × (Nat → Int32) × (Nat → Int32)) := Option.bind (fX9_isOutside m_s v1) fun y1 => (if y1 = 0 then (some (0, m_kept, m_keptBy, m_ahead, m_against, m_sum, m_sumBy, m_term, m_termBy, m_byNot, m_valueOf)) else (Option.bind (fX9_isTakenBy m_terrace m_holeFlag m_kind m_guestFlag m_wars m_lineFrom m_lineTo m_codes m_s m_kept m_keptBy m_ahead m_against m_sum m_sumBy m_term m_termBy m_byNot m_valueOf v2 v1) fun y3 => (if y3.1 = 0 then (some (0, y3.2.1, y3.2.2.1, y3.2.2.2.1, y3.2.2.2.2.1, y3.2.2.2.2.2.1, y3.2.2.2.2.2.2.1, y3.2.2.2.2.2.2.2.1, y3.2.2.2.2.2.2.2.2.1, y3.2.2.2.2.2.2.2.2.2.1, y3.2.2.2.2.2.2.2.2.2.2)) else (some (1, y3.2.1, y3.2.2.1, y3.2.2.2.1, y3.2.2.2.2.1, y3.2.2.2.2.2.1, y3.2.2.2.2.2.2.1, y3.2.2.2.2.2.2.2.1, y3.2.2.2.2.2.2.2.2.1, y3.2.2.2.2.2.2.2.2.2.1, y3.2.2.2.2.2.2.2.2.2.2)))))
set_option maxHeartbeats 4000000 in
set_option maxRecDepth 100000 in
theorem KX9_canDown (l : Launch) (D : va_G) (cy : Nat → ClassId) (ad : Nat → Nat) (P : MP) (V : MV) (I : MI) (J : MJ) (A : MI) (B : MJ) (v1 : Int32) (v2 : Int32) {res : Int32 × (Nat → Int32) × (Nat → Int32) × (Nat → Int32) × (Nat → Int32) × (Nat → Int32) × (Nat → Int32) × (Nat → Int32) × (Nat → Int32) × (Nat → Int32) × (Nat → Int32)} (hf : fX9_canDown (A 2) (A 5) (A 9) (A 10) (A 11) (A 13) (A 14) (A 15) (A 35) (A 18) (A 19) (A 20) (A 21) (A 22) (A 23) (A 24) (A 25) (A 26) (A 27) v1 v2 = some res) : CG l yX9_canDown cX9_canDown 3 (some .boolean) rmX9_canDown D cy (dn cy LY_X9 ad P V I J A B) [.ref (ad 0), .int v1, .int v2] (some (.int res.1)) (dn cy LY_X9 ad P V (gp I []) (gp J []) (gm A [(18, res.2.1), (19, res.2.2.1), (20, res.2.2.2.1), (21, res.2.2.2.2.1), (22, res.2.2.2.2.2.1), (23, res.2.2.2.2.2.2.1), (24, res.2.2.2.2.2.2.2.1), (25, res.2.2.2.2.2.2.2.2.1), (26, res.2.2.2.2.2.2.2.2.2.1), (27, res.2.2.2.2.2.2.2.2.2.2)]) (gm B [])) := by
  refine CG.of (own := RX9) (by decide) rfl rfl ?_
  intro p e s m below meth c ls Af C0 hK hN hA hW hl
  have hW : wd D (dn cy LY_X9 ad P V (gp I []) (gp J []) (gm A [(18, (A 18)), (19, (A 19)), (20, (A 20)), (21, (A 21)), (22, (A 22)), (23, (A 23)), (24, (A 24)), (25, (A 25)), (26, (A 26)), (27, (A 27))]) (gm B [])) Af s.heap s.heap [] := wd_sel [] [] [18, 19, 20, 21, 22, 23, 24, 25, 26, 27] [] hW
  have hl : lv_has ls 3 [(0, .ref (ad 0)), (1, .int v1), (2, .int v2)] := hl
  unfold fX9_canDown at hf
  refine lv_aload_n C0.1 C0.2.1 dX9_canDown_0 rfl (lv_at hl 0 rfl) ?_
  refine lv_iload_n C0.1 C0.2.1 dX9_canDown_1 rfl (lv_at hl 1 rfl) ?_
  obtain ⟨y1, hy1, hf⟩ := b_some hf
  refine c_Vi C0 hK hN hl.1 hW hA (KX9_isOutside l D cy  ad P V (gp I []) (gp J []) (gm A [(18, (A 18)), (19, (A 19)), (20, (A 20)), (21, (A 21)), (22, (A 22)), (23, (A 23)), (24, (A 24)), (25, (A 25)), (26, (A 26)), (27, (A 27))]) (gm B []) v1 hy1) (JN_id rfl rfl rfl rfl) (Uw_V uw_1479 uw_1481 us_79 uw_14 uw_1482) rfl rfl hd_X9_isOutside ⟨rfl, rfl⟩ rfl (dn_some LY_X9_0) rfl rfl rfl dX9_canDown_2 ⟨Nat.zero_le _, Nat.zero_le _⟩ (fun H locs hW => ?_)
  have hW : wd D (dn cy LY_X9 ad P V (gp I []) (gp J []) (gm A [(18, (A 18)), (19, (A 19)), (20, (A 20)), (21, (A 21)), (22, (A 22)), (23, (A 23)), (24, (A 24)), (25, (A 25)), (26, (A 26)), (27, (A 27))]) (gm B [])) Af s.heap H locs := hW
  refine lv_if_eq (tgt := 21) C0.1 C0.2.1 dX9_canDown_5 (by decide) (fun hc2 => ?_) (fun hc2 => ?_)
  · have hf := ite_t hc2 hf
    refine lv_iconst (v := 0) C0.1 C0.2.1 dX9_canDown_21 kI_0 ?_
    obtain rfl := Option.some.inj hf
    exact r_bool C0 hK hW (v' := 0) rfl dX9_canDown_22
  · have hf := ite_f hc2 hf
    refine lv_aload_n C0.1 C0.2.1 dX9_canDown_8 rfl (lv_at hl 0 rfl) ?_
    refine lv_iload_n C0.1 C0.2.1 dX9_canDown_9 rfl (lv_at hl 2 rfl) ?_
    refine lv_iload_n C0.1 C0.2.1 dX9_canDown_10 rfl (lv_at hl 1 rfl) ?_
    obtain ⟨y3, hy3, hf⟩ := b_some hf
    refine c_Vi C0 hK hN hl.1 hW hA (KX9_isTakenBy l D cy  ad P V (gp I []) (gp J []) (gm A [(18, (A 18)), (19, (A 19)), (20, (A 20)), (21, (A 21)), (22, (A 22)), (23, (A 23)), (24, (A 24)), (25, (A 25)), (26, (A 26)), (27, (A 27))]) (gm B []) v2 v1 hy3) (JN_id rfl rfl rfl rfl) (Uw_V uw_1428 uw_1430 us_68 uw_14 uw_1431) rfl rfl hd_X9_isTakenBy ⟨rfl, rfl⟩ rfl (dn_some LY_X9_0) rfl rfl rfl dX9_canDown_11 ⟨Nat.zero_le _, Nat.zero_le _⟩ (fun H locs hW => ?_)
    have hW : wd D (dn cy LY_X9 ad P V (gp I []) (gp J []) (gm A [(18, y3.2.1), (19, y3.2.2.1), (20, y3.2.2.2.1), (21, y3.2.2.2.2.1), (22, y3.2.2.2.2.2.1), (23, y3.2.2.2.2.2.2.1), (24, y3.2.2.2.2.2.2.2.1), (25, y3.2.2.2.2.2.2.2.2.1), (26, y3.2.2.2.2.2.2.2.2.2.1), (27, y3.2.2.2.2.2.2.2.2.2.2)]) (gm B [])) Af s.heap H locs := hW
    refine lv_if_eq (tgt := 21) C0.1 C0.2.1 dX9_canDown_14 (by decide) (fun hc4 => ?_) (fun hc4 => ?_)
    · have hf := ite_t hc4 hf
      refine lv_iconst (v := 0) C0.1 C0.2.1 dX9_canDown_21 kI_0 ?_
      obtain rfl := Option.some.inj hf
      exact r_bool C0 hK hW (v' := 0) rfl dX9_canDown_22
    · have hf := ite_f hc4 hf
      refine lv_iconst (v := 1) C0.1 C0.2.1 dX9_canDown_17 kI_1 ?_
      refine lv_goto (tgt := 22) C0.1 C0.2.1 dX9_canDown_18 (by decide) ?_
      obtain rfl := Option.some.inj hf
      exact r_bool C0 hK hW (v' := 1) rfl dX9_canDown_22
