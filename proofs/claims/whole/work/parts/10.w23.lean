-- X9_full
def rmX9_full : Room := { frames := 6, cells := 0, slots := 0, locals := 135 }
def SX9_full_24 (p : Program) (l : Launch) (e : Env) (s : State) (m : MethodId) (args : Array Value) (below : List Frame) (meth : Method) (c : Code) (D : va_G) (cy : Nat → ClassId) (ad : Nat → Nat) (P : MP) (V : MV) (I : MI) (J : MJ) (A : MI) (B : MJ) (Af : Nat → Prop) (res : Int32 × Int32 × (Nat → Int32) × (Nat → Int32) × (Nat → Int32) × (Nat → Int32) × (Nat → Int32) × (Nat → Int32) × (Nat → Int32) × (Nat → Int32) × (Nat → Int32) × (Nat → Int32)) (k : Int32 → (Nat → Int32) → (Nat → Int32) → (Nat → Int32) → (Nat → Int32) → (Nat → Int32) → (Nat → Int32) → (Nat → Int32) → (Nat → Int32) → (Nat → Int32) → (Nat → Int32) → Int32 → Int32 → Int32 → Int32 → Option (Int32 × Int32 × (Nat → Int32) × (Nat → Int32) × (Nat → Int32) × (Nat → Int32) × (Nat → Int32) × (Nat → Int32) × (Nat → Int32) × (Nat → Int32) × (Nat → Int32) × (Nat → Int32))) : Prop := ∀ (m_thrown : Int32) (m_kept : (Nat → Int32)) (m_keptBy : (Nat → Int32)) (m_ahead : (Nat → Int32)) (m_against : (Nat → Int32)) (m_sum : (Nat → Int32)) (m_sumBy : (Nat → Int32)) (m_term : (Nat → Int32)) (m_termBy : (Nat → Int32)) (m_byNot : (Nat → Int32)) (m_valueOf : (Nat → Int32)) (v1 : Int32) (v2 : Int32) (v3 : Int32) (v4 : Int32) (H : Heap) (locs : List Loc) (ls : Array Slot), wd D (dn cy LY_X9 ad P V (gp I [(0, 0, m_thrown)]) (gp J []) (gm A [(18, m_kept), (19, m_keptBy), (20, m_ahead), (21, m_against), (22, m_sum), (23, m_sumBy), (24, m_term), (25, m_termBy), (26, m_byNot), (27, m_valueOf)]) (gm B [])) Af s.heap H locs → lv_has ls 5 [(0, .ref (ad 0)), (1, .int v1), (2, .int v2), (3, .int v3), (4, .int v4)] → k m_thrown m_kept m_keptBy m_ahead m_against m_sum m_sumBy m_term m_termBy m_byNot m_valueOf v1 v2 v3 v4 = some res → W p l e rmX9_full s m args below meth c H locs 0 0 (ZQ below D cy (dn cy LY_X9 ad P V (gp I [(0, 0, res.2.1)]) (gp J []) (gm A [(18, res.2.2.1), (19, res.2.2.2.1), (20, res.2.2.2.2.1), (21, res.2.2.2.2.2.1), (22, res.2.2.2.2.2.2.1), (23, res.2.2.2.2.2.2.2.1), (24, res.2.2.2.2.2.2.2.2.1), (25, res.2.2.2.2.2.2.2.2.2.1), (26, res.2.2.2.2.2.2.2.2.2.2.1), (27, res.2.2.2.2.2.2.2.2.2.2.2)]) (gm B [])) (some (.int res.1)) Af args s) (F0 m 24 ls [])
def SX9_full_9 (p : Program) (l : Launch) (e : Env) (s : State) (m : MethodId) (args : Array Value) (below : List Frame) (meth : Method) (c : Code) (D : va_G) (cy : Nat → ClassId) (ad : Nat → Nat) (P : MP) (V : MV) (I : MI) (J : MJ) (A : MI) (B : MJ) (Af : Nat → Prop) (res : Int32 × Int32 × (Nat → Int32) × (Nat → Int32) × (Nat → Int32) × (Nat → Int32) × (Nat → Int32) × (Nat → Int32) × (Nat → Int32) × (Nat → Int32) × (Nat → Int32) × (Nat → Int32)) (k : Int32 → (Nat → Int32) → (Nat → Int32) → (Nat → Int32) → (Nat → Int32) → (Nat → Int32) → (Nat → Int32) → (Nat → Int32) → (Nat → Int32) → (Nat → Int32) → (Nat → Int32) → Int32 → Int32 → Option (Int32 × Int32 × (Nat → Int32) × (Nat → Int32) × (Nat → Int32) × (Nat → Int32) × (Nat → Int32) × (Nat → Int32) × (Nat → Int32) × (Nat → Int32) × (Nat → Int32) × (Nat → Int32))) : Prop := ∀ (m_thrown : Int32) (m_kept : (Nat → Int32)) (m_keptBy : (Nat → Int32)) (m_ahead : (Nat → Int32)) (m_against : (Nat → Int32)) (m_sum : (Nat → Int32)) (m_sumBy : (Nat → Int32)) (m_term : (Nat → Int32)) (m_termBy : (Nat → Int32)) (m_byNot : (Nat → Int32)) (m_valueOf : (Nat → Int32)) (v1 : Int32) (v2 : Int32) (H : Heap) (locs : List Loc) (ls : Array Slot), wd D (dn cy LY_X9 ad P V (gp I [(0, 0, m_thrown)]) (gp J []) (gm A [(18, m_kept), (19, m_keptBy), (20, m_ahead), (21, m_against), (22, m_sum), (23, m_sumBy), (24, m_term), (25, m_termBy), (26, m_byNot), (27, m_valueOf)]) (gm B [])) Af s.heap H locs → lv_has ls 5 [(0, .ref (ad 0)), (1, .int v1), (2, .int v2)] → k m_thrown m_kept m_keptBy m_ahead m_against m_sum m_sumBy m_term m_termBy m_byNot m_valueOf v1 v2 = some res → W p l e rmX9_full s m args below meth c H locs 0 0 (ZQ below D cy (dn cy LY_X9 ad P V (gp I [(0, 0, res.2.1)]) (gp J []) (gm A [(18, res.2.2.1), (19, res.2.2.2.1), (20, res.2.2.2.2.1), (21, res.2.2.2.2.2.1), (22, res.2.2.2.2.2.2.1), (23, res.2.2.2.2.2.2.2.1), (24, res.2.2.2.2.2.2.2.2.1), (25, res.2.2.2.2.2.2.2.2.2.1), (26, res.2.2.2.2.2.2.2.2.2.2.1), (27, res.2.2.2.2.2.2.2.2.2.2.2)]) (gm B [])) (some (.int res.1)) Af args s) (F0 m 9 ls [])
def fX9_full_24 (m_terrace : (Nat → Int32)) (m_holeFlag : (Nat → Int32)) (m_kind : (Nat → Int32)) (m_guestFlag : (Nat → Int32)) (m_wars : (Nat → Int32)) (m_lineFrom : (Nat → Int32)) (m_lineTo : (Nat → Int32)) (m_codes : (Nat → Int32)) (m_s : (Nat → Int32)) (k9 : Int32 → (Nat → Int32) → (Nat → Int32) → (Nat → Int32) → (Nat → Int32) → (Nat → Int32) → (Nat → Int32) → (Nat → Int32) → (Nat → Int32) → (Nat → Int32) → (Nat → Int32) → Int32 → Int32 → Option (Int32 × Int32 × (Nat → Int32) × (Nat → Int32) × (Nat → Int32) × (Nat → Int32) × (Nat → Int32) × (Nat → Int32) × (Nat → Int32) × (Nat → Int32) × (Nat → Int32) × (Nat → Int32))) (k24 : Int32 → (Nat → Int32) → (Nat → Int32) → (Nat → Int32) → (Nat → Int32) → (Nat → Int32) → (Nat → Int32) → (Nat → Int32) → (Nat → Int32) → (Nat → Int32) → (Nat → Int32) → Int32 → Int32 → Int32 → Int32 → Option (Int32 × Int32 × (Nat → Int32) × (Nat → Int32) × (Nat → Int32) × (Nat → Int32) × (Nat → Int32) × (Nat → Int32) × (Nat → Int32) × (Nat → Int32) × (Nat → Int32) × (Nat → Int32))) (m_thrown : Int32) (m_kept : (Nat → Int32)) (m_keptBy : (Nat → Int32)) (m_ahead : (Nat → Int32)) (m_against : (Nat → Int32)) (m_sum : (Nat → Int32)) (m_sumBy : (Nat → Int32)) (m_term : (Nat → Int32)) (m_termBy : (Nat → Int32)) (m_byNot : (Nat → Int32)) (m_valueOf : (Nat → Int32)) (v1 : Int32) (v2 : Int32) (v3 : Int32) (v4 : Int32) : Option (Int32 × Int32 × (Nat → Int32) × (Nat → Int32) × (Nat → Int32) × (Nat → Int32) × (Nat → Int32) × (Nat → Int32) × (Nat → Int32) × (Nat → Int32) × (Nat → Int32) × (Nat → Int32)) := if (m_terrace 1) ≤ v4 then (if v3 = 0 then (k9 m_thrown m_kept m_keptBy m_ahead m_against m_sum m_sumBy m_term m_termBy m_byNot m_valueOf (v1 ||| 0) (v2 + 1)) else (k9 m_thrown m_kept m_keptBy m_ahead m_against m_sum m_sumBy m_term m_termBy m_byNot m_valueOf (v1 ||| (1 <<< (v2 &&& 31))) (v2 + 1))) else (if v3 = 0 then (k24 m_thrown m_kept m_keptBy m_ahead m_against m_sum m_sumBy m_term m_termBy m_byNot m_valueOf v1 v2 0 (v4 + 1)) else (Option.bind (fX9_canDown m_terrace m_holeFlag m_kind m_guestFlag m_wars m_lineFrom m_lineTo m_codes m_s m_kept m_keptBy m_ahead m_against m_sum m_sumBy m_term m_termBy m_byNot m_valueOf v4 v2) fun y4 => (if y4.1 = 0 then (k24 m_thrown y4.2.1 y4.2.2.1 y4.2.2.2.1 y4.2.2.2.2.1 y4.2.2.2.2.2.1 y4.2.2.2.2.2.2.1 y4.2.2.2.2.2.2.2.1 y4.2.2.2.2.2.2.2.2.1 y4.2.2.2.2.2.2.2.2.2.1 y4.2.2.2.2.2.2.2.2.2.2 v1 v2 1 (v4 + 1)) else (k24 m_thrown y4.2.1 y4.2.2.1 y4.2.2.2.1 y4.2.2.2.2.1 y4.2.2.2.2.2.1 y4.2.2.2.2.2.2.1 y4.2.2.2.2.2.2.2.1 y4.2.2.2.2.2.2.2.2.1 y4.2.2.2.2.2.2.2.2.2.1 y4.2.2.2.2.2.2.2.2.2.2 v1 v2 0 (v4 + 1)))))
set_option maxHeartbeats 4000000 in
set_option maxRecDepth 100000 in
theorem tX9_full_24 {p : Program} {l : Launch} {e : Env} {s : State} {m : MethodId} {args : Array Value} {below : List Frame} {meth : Method} {c : Code} {D : va_G} {cy : Nat → ClassId} {ad : Nat → Nat} {P : MP} {V : MV} {I : MI} {J : MJ} {A : MI} {B : MJ} {Af : Nat → Prop} {res : Int32 × Int32 × (Nat → Int32) × (Nat → Int32) × (Nat → Int32) × (Nat → Int32) × (Nat → Int32) × (Nat → Int32) × (Nat → Int32) × (Nat → Int32) × (Nat → Int32) × (Nat → Int32)} (C0 : CX p s m args meth c cX9_full 5 (some .int) RX9) (hK : va_K D vwCl (tyG cy) s) (hN : NWs s) (hA : ∀ q, s.heap.size ≤ q → Af q) {k9 : Int32 → (Nat → Int32) → (Nat → Int32) → (Nat → Int32) → (Nat → Int32) → (Nat → Int32) → (Nat → Int32) → (Nat → Int32) → (Nat → Int32) → (Nat → Int32) → (Nat → Int32) → Int32 → Int32 → Option (Int32 × Int32 × (Nat → Int32) × (Nat → Int32) × (Nat → Int32) × (Nat → Int32) × (Nat → Int32) × (Nat → Int32) × (Nat → Int32) × (Nat → Int32) × (Nat → Int32) × (Nat → Int32))} (hk9 : SX9_full_9 p l e s m args below meth c D cy ad P V I J A B Af res k9) {k24 : Int32 → (Nat → Int32) → (Nat → Int32) → (Nat → Int32) → (Nat → Int32) → (Nat → Int32) → (Nat → Int32) → (Nat → Int32) → (Nat → Int32) → (Nat → Int32) → (Nat → Int32) → Int32 → Int32 → Int32 → Int32 → Option (Int32 × Int32 × (Nat → Int32) × (Nat → Int32) × (Nat → Int32) × (Nat → Int32) × (Nat → Int32) × (Nat → Int32) × (Nat → Int32) × (Nat → Int32) × (Nat → Int32) × (Nat → Int32))} (hk24 : SX9_full_24 p l e s m args below meth c D cy ad P V I J A B Af res k24) : SX9_full_24 p l e s m args below meth c D cy ad P V I J A B Af res (fX9_full_24 (A 2) (A 5) (A 9) (A 10) (A 11) (A 13) (A 14) (A 15) (A 35) k9 k24) := by
  intro m_thrown m_kept m_keptBy m_ahead m_against m_sum m_sumBy m_term m_termBy m_byNot m_valueOf v1 v2 v3 v4 H locs ls hW hl hf
  unfold fX9_full_24 at hf
  refine lv_iload C0.1 C0.2.1 dX9_full_24 (lv_at hl 4 rfl) ?_
  refine lv_aload_n C0.1 C0.2.1 dX9_full_26 rfl (lv_at hl 0 rfl) ?_
  refine s_get (v := .ref (ad 2)) C0 hK hW 0 10 LY_X9_0 rfl fg_X9_13 rfl dX9_full_27 ?_
  refine lv_iconst (v := 1) C0.1 C0.2.1 dX9_full_30 kI_1 ?_
  refine s_iald (v := ((A 2) 1)) C0 hK hW 2 LY_X9_2 rfl (congrArg _ tc_1) dX9_full_31 ?_
  refine lv_icmp_ge (tgt := 61) C0.1 C0.2.1 dX9_full_32 (by decide) (fun hc1 => ?_) (fun hc1 => ?_)
  · have hf := ite_t hc1 hf
    refine lv_iload_n C0.1 C0.2.1 dX9_full_61 rfl (lv_at hl 1 rfl) ?_
    refine lv_iload_n C0.1 C0.2.1 dX9_full_62 rfl (lv_at hl 3 rfl) ?_
    refine lv_if_eq (tgt := 72) C0.1 C0.2.1 dX9_full_63 (by decide) (fun hc2 => ?_) (fun hc2 => ?_)
    · have hf := ite_t hc2 hf
      refine lv_iconst (v := 0) C0.1 C0.2.1 dX9_full_72 kI_0 ?_
      refine lv_ior C0.1 C0.2.1 dX9_full_73 ?_
      refine lv_istore_n (lv' := [(1, .int (v1 ||| 0)), (0, .ref (ad 0)), (2, .int v2), (3, .int v3), (4, .int v4)]) C0.1 C0.2.1 dX9_full_74 rfl hl (by decide) rfl (fun ls hl => ?_)
      refine lv_iinc (v := (v2 + 1)) (lv' := [(2, .int (v2 + 1)), (1, .int (v1 ||| 0)), (0, .ref (ad 0)), (3, .int v3), (4, .int v4)]) C0.1 C0.2.1 dX9_full_75 hl (k := 2) rfl (congrArg (fun z => _ + z) kI_1) (by decide) rfl (fun ls hl => ?_)
      refine lv_goto (tgt := 9) C0.1 C0.2.1 dX9_full_78 (by decide) ?_
      exact hk9 m_thrown m_kept m_keptBy m_ahead m_against m_sum m_sumBy m_term m_termBy m_byNot m_valueOf (v1 ||| 0) (v2 + 1) H locs ls hW (lv_sub hl [2, 1, 0] rfl) hf
    · have hf := ite_f hc2 hf
      refine lv_iconst (v := 1) C0.1 C0.2.1 dX9_full_66 kI_1 ?_
      refine lv_iload_n C0.1 C0.2.1 dX9_full_67 rfl (lv_at hl 2 rfl) ?_
      refine lv_ishl C0.1 C0.2.1 dX9_full_68 ?_
      refine lv_goto (tgt := 73) C0.1 C0.2.1 dX9_full_69 (by decide) ?_
      refine lv_ior C0.1 C0.2.1 dX9_full_73 ?_
      refine lv_istore_n (lv' := [(1, .int (v1 ||| (1 <<< (v2 &&& 31)))), (0, .ref (ad 0)), (2, .int v2), (3, .int v3), (4, .int v4)]) C0.1 C0.2.1 dX9_full_74 rfl hl (by decide) rfl (fun ls hl => ?_)
      refine lv_iinc (v := (v2 + 1)) (lv' := [(2, .int (v2 + 1)), (1, .int (v1 ||| (1 <<< (v2 &&& 31)))), (0, .ref (ad 0)), (3, .int v3), (4, .int v4)]) C0.1 C0.2.1 dX9_full_75 hl (k := 2) rfl (congrArg (fun z => _ + z) kI_1) (by decide) rfl (fun ls hl => ?_)
      refine lv_goto (tgt := 9) C0.1 C0.2.1 dX9_full_78 (by decide) ?_
      exact hk9 m_thrown m_kept m_keptBy m_ahead m_against m_sum m_sumBy m_term m_termBy m_byNot m_valueOf (v1 ||| (1 <<< (v2 &&& 31))) (v2 + 1) H locs ls hW (lv_sub hl [2, 1, 0] rfl) hf
  · have hf := ite_f hc1 hf
    refine lv_iload_n C0.1 C0.2.1 dX9_full_35 rfl (lv_at hl 3 rfl) ?_
    refine lv_if_eq (tgt := 53) C0.1 C0.2.1 dX9_full_36 (by decide) (fun hc3 => ?_) (fun hc3 => ?_)
    · have hf := ite_t hc3 hf
      refine lv_iconst (v := 0) C0.1 C0.2.1 dX9_full_53 kI_0 ?_
      refine lv_istore_n (lv' := [(3, .int 0), (0, .ref (ad 0)), (1, .int v1), (2, .int v2), (4, .int v4)]) C0.1 C0.2.1 dX9_full_54 rfl hl (by decide) rfl (fun ls hl => ?_)
      refine lv_iinc (v := (v4 + 1)) (lv' := [(4, .int (v4 + 1)), (3, .int 0), (0, .ref (ad 0)), (1, .int v1), (2, .int v2)]) C0.1 C0.2.1 dX9_full_55 hl (k := 4) rfl (congrArg (fun z => _ + z) kI_1) (by decide) rfl (fun ls hl => ?_)
      refine lv_goto (tgt := 24) C0.1 C0.2.1 dX9_full_58 (by decide) ?_
      exact hk24 m_thrown m_kept m_keptBy m_ahead m_against m_sum m_sumBy m_term m_termBy m_byNot m_valueOf v1 v2 0 (v4 + 1) H locs ls hW (lv_sub hl [2, 3, 4, 1, 0] rfl) hf
    · have hf := ite_f hc3 hf
      refine lv_aload_n C0.1 C0.2.1 dX9_full_39 rfl (lv_at hl 0 rfl) ?_
      refine lv_iload C0.1 C0.2.1 dX9_full_40 (lv_at hl 4 rfl) ?_
      refine lv_iload_n C0.1 C0.2.1 dX9_full_42 rfl (lv_at hl 2 rfl) ?_
      obtain ⟨y4, hy4, hf⟩ := b_some hf
      refine c_Vi C0 hK hN hl.1 hW hA (KX9_canDown l D cy  ad P V (gp I [(0, 0, m_thrown)]) (gp J []) (gm A [(18, m_kept), (19, m_keptBy), (20, m_ahead), (21, m_against), (22, m_sum), (23, m_sumBy), (24, m_term), (25, m_termBy), (26, m_byNot), (27, m_valueOf)]) (gm B []) v4 v2 hy4) (JN_id rfl rfl rfl rfl) (Uw_V uw_1487 uw_1489 us_80 uw_14 uw_1490) rfl rfl hd_X9_canDown ⟨rfl, rfl⟩ rfl (dn_some LY_X9_0) rfl rfl rfl dX9_full_43 ⟨Nat.zero_le _, Nat.zero_le _⟩ (fun H locs hW => ?_)
      have hW : wd D (dn cy LY_X9 ad P V (gp I [(0, 0, m_thrown)]) (gp J []) (gm A [(18, y4.2.1), (19, y4.2.2.1), (20, y4.2.2.2.1), (21, y4.2.2.2.2.1), (22, y4.2.2.2.2.2.1), (23, y4.2.2.2.2.2.2.1), (24, y4.2.2.2.2.2.2.2.1), (25, y4.2.2.2.2.2.2.2.2.1), (26, y4.2.2.2.2.2.2.2.2.2.1), (27, y4.2.2.2.2.2.2.2.2.2.2)]) (gm B [])) Af s.heap H locs := hW
      refine lv_if_ne (tgt := 53) C0.1 C0.2.1 dX9_full_46 (by decide) (fun hc5 => ?_) (fun hc5 => ?_)
      · have hf := ite_f hc5 hf
        refine lv_iconst (v := 0) C0.1 C0.2.1 dX9_full_53 kI_0 ?_
        refine lv_istore_n (lv' := [(3, .int 0), (0, .ref (ad 0)), (1, .int v1), (2, .int v2), (4, .int v4)]) C0.1 C0.2.1 dX9_full_54 rfl hl (by decide) rfl (fun ls hl => ?_)
        refine lv_iinc (v := (v4 + 1)) (lv' := [(4, .int (v4 + 1)), (3, .int 0), (0, .ref (ad 0)), (1, .int v1), (2, .int v2)]) C0.1 C0.2.1 dX9_full_55 hl (k := 4) rfl (congrArg (fun z => _ + z) kI_1) (by decide) rfl (fun ls hl => ?_)
        refine lv_goto (tgt := 24) C0.1 C0.2.1 dX9_full_58 (by decide) ?_
        exact hk24 m_thrown y4.2.1 y4.2.2.1 y4.2.2.2.1 y4.2.2.2.2.1 y4.2.2.2.2.2.1 y4.2.2.2.2.2.2.1 y4.2.2.2.2.2.2.2.1 y4.2.2.2.2.2.2.2.2.1 y4.2.2.2.2.2.2.2.2.2.1 y4.2.2.2.2.2.2.2.2.2.2 v1 v2 0 (v4 + 1) H locs ls hW (lv_sub hl [2, 3, 4, 1, 0] rfl) hf
      · have hf := ite_t hc5 hf
        refine lv_iconst (v := 1) C0.1 C0.2.1 dX9_full_49 kI_1 ?_
        refine lv_goto (tgt := 54) C0.1 C0.2.1 dX9_full_50 (by decide) ?_
        refine lv_istore_n (lv' := [(3, .int 1), (0, .ref (ad 0)), (1, .int v1), (2, .int v2), (4, .int v4)]) C0.1 C0.2.1 dX9_full_54 rfl hl (by decide) rfl (fun ls hl => ?_)
        refine lv_iinc (v := (v4 + 1)) (lv' := [(4, .int (v4 + 1)), (3, .int 1), (0, .ref (ad 0)), (1, .int v1), (2, .int v2)]) C0.1 C0.2.1 dX9_full_55 hl (k := 4) rfl (congrArg (fun z => _ + z) kI_1) (by decide) rfl (fun ls hl => ?_)
        refine lv_goto (tgt := 24) C0.1 C0.2.1 dX9_full_58 (by decide) ?_
        exact hk24 m_thrown y4.2.1 y4.2.2.1 y4.2.2.2.1 y4.2.2.2.2.1 y4.2.2.2.2.2.1 y4.2.2.2.2.2.2.1 y4.2.2.2.2.2.2.2.1 y4.2.2.2.2.2.2.2.2.1 y4.2.2.2.2.2.2.2.2.2.1 y4.2.2.2.2.2.2.2.2.2.2 v1 v2 1 (v4 + 1) H locs ls hW (lv_sub hl [2, 3, 4, 1, 0] rfl) hf
theorem TX9_full_24 {p : Program} {l : Launch} {e : Env} {s : State} {m : MethodId} {args : Array Value} {below : List Frame} {meth : Method} {c : Code} {D : va_G} {cy : Nat → ClassId} {ad : Nat → Nat} {P : MP} {V : MV} {I : MI} {J : MJ} {A : MI} {B : MJ} {Af : Nat → Prop} {res : Int32 × Int32 × (Nat → Int32) × (Nat → Int32) × (Nat → Int32) × (Nat → Int32) × (Nat → Int32) × (Nat → Int32) × (Nat → Int32) × (Nat → Int32) × (Nat → Int32) × (Nat → Int32)} (C0 : CX p s m args meth c cX9_full 5 (some .int) RX9) (hK : va_K D vwCl (tyG cy) s) (hN : NWs s) (hA : ∀ q, s.heap.size ≤ q → Af q) {k9 : Int32 → (Nat → Int32) → (Nat → Int32) → (Nat → Int32) → (Nat → Int32) → (Nat → Int32) → (Nat → Int32) → (Nat → Int32) → (Nat → Int32) → (Nat → Int32) → (Nat → Int32) → Int32 → Int32 → Option (Int32 × Int32 × (Nat → Int32) × (Nat → Int32) × (Nat → Int32) × (Nat → Int32) × (Nat → Int32) × (Nat → Int32) × (Nat → Int32) × (Nat → Int32) × (Nat → Int32) × (Nat → Int32))} (hk9 : SX9_full_9 p l e s m args below meth c D cy ad P V I J A B Af res k9) : ∀ n, SX9_full_24 p l e s m args below meth c D cy ad P V I J A B Af res (itr (fun kk => fX9_full_24 (A 2) (A 5) (A 9) (A 10) (A 11) (A 13) (A 14) (A 15) (A 35) k9 kk) (fun _ _ _ _ _ _ _ _ _ _ _ _ _ _ _ => none) n) := by
  intro n
  induction n with
  | zero => intro m_thrown m_kept m_keptBy m_ahead m_against m_sum m_sumBy m_term m_termBy m_byNot m_valueOf v1 v2 v3 v4 H locs ls hW hl hf; exact (nomatch (show (none : Option (Int32 × Int32 × (Nat → Int32) × (Nat → Int32) × (Nat → Int32) × (Nat → Int32) × (Nat → Int32) × (Nat → Int32) × (Nat → Int32) × (Nat → Int32) × (Nat → Int32) × (Nat → Int32))) = some res from hf))
  | succ n ih => exact tX9_full_24 C0 hK hN hA hk9 ih
def fX9_full_9 (m_terrace : (Nat → Int32)) (m_holeFlag : (Nat → Int32)) (m_kind : (Nat → Int32)) (m_guestFlag : (Nat → Int32)) (m_wars : (Nat → Int32)) (m_lineFrom : (Nat → Int32)) (m_lineTo : (Nat → Int32)) (m_codes : (Nat → Int32)) (m_s : (Nat → Int32)) (k9 : Int32 → (Nat → Int32) → (Nat → Int32) → (Nat → Int32) → (Nat → Int32) → (Nat → Int32) → (Nat → Int32) → (Nat → Int32) → (Nat → Int32) → (Nat → Int32) → (Nat → Int32) → Int32 → Int32 → Option (Int32 × Int32 × (Nat → Int32) × (Nat → Int32) × (Nat → Int32) × (Nat → Int32) × (Nat → Int32) × (Nat → Int32) × (Nat → Int32) × (Nat → Int32) × (Nat → Int32) × (Nat → Int32))) (m_thrown : Int32) (m_kept : (Nat → Int32)) (m_keptBy : (Nat → Int32)) (m_ahead : (Nat → Int32)) (m_against : (Nat → Int32)) (m_sum : (Nat → Int32)) (m_sumBy : (Nat → Int32)) (m_term : (Nat → Int32)) (m_termBy : (Nat → Int32)) (m_byNot : (Nat → Int32)) (m_valueOf : (Nat → Int32)) (v1 : Int32) (v2 : Int32) : Option (Int32 × Int32 × (Nat → Int32) × (Nat → Int32) × (Nat → Int32) × (Nat → Int32) × (Nat → Int32) × (Nat → Int32) × (Nat → Int32) × (Nat → Int32) × (Nat → Int32) × (Nat → Int32)) := if (m_terrace 0) ≤ v2 then (some (v1, m_thrown, m_kept, m_keptBy, m_ahead, m_against, m_sum, m_sumBy, m_term, m_termBy, m_byNot, m_valueOf)) else (itr (fun kk => fX9_full_24 m_terrace m_holeFlag m_kind m_guestFlag m_wars m_lineFrom m_lineTo m_codes m_s k9 kk) (fun _ _ _ _ _ _ _ _ _ _ _ _ _ _ _ => none) FU m_thrown m_kept m_keptBy m_ahead m_against m_sum m_sumBy m_term m_termBy m_byNot m_valueOf v1 v2 1 0)
set_option maxHeartbeats 4000000 in
set_option maxRecDepth 100000 in
theorem tX9_full_9 {p : Program} {l : Launch} {e : Env} {s : State} {m : MethodId} {args : Array Value} {below : List Frame} {meth : Method} {c : Code} {D : va_G} {cy : Nat → ClassId} {ad : Nat → Nat} {P : MP} {V : MV} {I : MI} {J : MJ} {A : MI} {B : MJ} {Af : Nat → Prop} {res : Int32 × Int32 × (Nat → Int32) × (Nat → Int32) × (Nat → Int32) × (Nat → Int32) × (Nat → Int32) × (Nat → Int32) × (Nat → Int32) × (Nat → Int32) × (Nat → Int32) × (Nat → Int32)} (C0 : CX p s m args meth c cX9_full 5 (some .int) RX9) (hK : va_K D vwCl (tyG cy) s) (hN : NWs s) (hA : ∀ q, s.heap.size ≤ q → Af q) {k9 : Int32 → (Nat → Int32) → (Nat → Int32) → (Nat → Int32) → (Nat → Int32) → (Nat → Int32) → (Nat → Int32) → (Nat → Int32) → (Nat → Int32) → (Nat → Int32) → (Nat → Int32) → Int32 → Int32 → Option (Int32 × Int32 × (Nat → Int32) × (Nat → Int32) × (Nat → Int32) × (Nat → Int32) × (Nat → Int32) × (Nat → Int32) × (Nat → Int32) × (Nat → Int32) × (Nat → Int32) × (Nat → Int32))} (hk9 : SX9_full_9 p l e s m args below meth c D cy ad P V I J A B Af res k9) : SX9_full_9 p l e s m args below meth c D cy ad P V I J A B Af res (fX9_full_9 (A 2) (A 5) (A 9) (A 10) (A 11) (A 13) (A 14) (A 15) (A 35) k9) := by
  intro m_thrown m_kept m_keptBy m_ahead m_against m_sum m_sumBy m_term m_termBy m_byNot m_valueOf v1 v2 H locs ls hW hl hf
  unfold fX9_full_9 at hf
  refine lv_iload_n C0.1 C0.2.1 dX9_full_9 rfl (lv_at hl 2 rfl) ?_
  refine lv_aload_n C0.1 C0.2.1 dX9_full_10 rfl (lv_at hl 0 rfl) ?_
  refine s_get (v := .ref (ad 2)) C0 hK hW 0 10 LY_X9_0 rfl fg_X9_13 rfl dX9_full_11 ?_
  refine lv_iconst (v := 0) C0.1 C0.2.1 dX9_full_14 kI_0 ?_
  refine s_iald (v := ((A 2) 0)) C0 hK hW 2 LY_X9_2 rfl (congrArg _ tc_0) dX9_full_15 ?_
  refine lv_icmp_ge (tgt := 81) C0.1 C0.2.1 dX9_full_16 (by decide) (fun hc1 => ?_) (fun hc1 => ?_)
  · have hf := ite_t hc1 hf
    refine lv_iload_n C0.1 C0.2.1 dX9_full_81 rfl (lv_at hl 1 rfl) ?_
    obtain rfl := Option.some.inj hf
    exact r_int C0 hK hW dX9_full_82
  · have hf := ite_f hc1 hf
    refine lv_iconst (v := 1) C0.1 C0.2.1 dX9_full_19 kI_1 ?_
    refine lv_istore_n (lv' := [(3, .int 1), (0, .ref (ad 0)), (1, .int v1), (2, .int v2)]) C0.1 C0.2.1 dX9_full_20 rfl hl (by decide) rfl (fun ls hl => ?_)
    refine lv_iconst (v := 0) C0.1 C0.2.1 dX9_full_21 kI_0 ?_
    refine lv_istore (lv' := [(4, .int 0), (3, .int 1), (0, .ref (ad 0)), (1, .int v1), (2, .int v2)]) C0.1 C0.2.1 dX9_full_22 hl (by decide) rfl (fun ls hl => ?_)
    exact TX9_full_24 C0 hK hN hA hk9 FU m_thrown m_kept m_keptBy m_ahead m_against m_sum m_sumBy m_term m_termBy m_byNot m_valueOf v1 v2 1 0 H locs ls hW (lv_sub hl [2, 3, 4, 1, 0] rfl) hf
theorem TX9_full_9 {p : Program} {l : Launch} {e : Env} {s : State} {m : MethodId} {args : Array Value} {below : List Frame} {meth : Method} {c : Code} {D : va_G} {cy : Nat → ClassId} {ad : Nat → Nat} {P : MP} {V : MV} {I : MI} {J : MJ} {A : MI} {B : MJ} {Af : Nat → Prop} {res : Int32 × Int32 × (Nat → Int32) × (Nat → Int32) × (Nat → Int32) × (Nat → Int32) × (Nat → Int32) × (Nat → Int32) × (Nat → Int32) × (Nat → Int32) × (Nat → Int32) × (Nat → Int32)} (C0 : CX p s m args meth c cX9_full 5 (some .int) RX9) (hK : va_K D vwCl (tyG cy) s) (hN : NWs s) (hA : ∀ q, s.heap.size ≤ q → Af q) : ∀ n, SX9_full_9 p l e s m args below meth c D cy ad P V I J A B Af res (itr (fun kk => fX9_full_9 (A 2) (A 5) (A 9) (A 10) (A 11) (A 13) (A 14) (A 15) (A 35) kk) (fun _ _ _ _ _ _ _ _ _ _ _ _ _ => none) n) := by
  intro n
  induction n with
  | zero => intro m_thrown m_kept m_keptBy m_ahead m_against m_sum m_sumBy m_term m_termBy m_byNot m_valueOf v1 v2 H locs ls hW hl hf; exact (nomatch (show (none : Option (Int32 × Int32 × (Nat → Int32) × (Nat → Int32) × (Nat → Int32) × (Nat → Int32) × (Nat → Int32) × (Nat → Int32) × (Nat → Int32) × (Nat → Int32) × (Nat → Int32) × (Nat → Int32))) = some res from hf))
  | succ n ih => exact tX9_full_9 C0 hK hN hA  ih
def fX9_full (m_terrace : (Nat → Int32)) (m_holeFlag : (Nat → Int32)) (m_kind : (Nat → Int32)) (m_guestFlag : (Nat → Int32)) (m_wars : (Nat → Int32)) (m_lineFrom : (Nat → Int32)) (m_lineTo : (Nat → Int32)) (m_codes : (Nat → Int32)) (m_s : (Nat → Int32)) (m_thrown : Int32) (m_kept : (Nat → Int32)) (m_keptBy : (Nat → Int32)) (m_ahead : (Nat → Int32)) (m_against : (Nat → Int32)) (m_sum : (Nat → Int32)) (m_sumBy : (Nat → Int32)) (m_term : (Nat → Int32)) (m_termBy : (Nat → Int32)) (m_byNot : (Nat → Int32)) (m_valueOf : (Nat → Int32)) : Option (Int32 × Int32 × (Nat → Int32) × (Nat → Int32) × (Nat → Int32) × (Nat → Int32) × (Nat → Int32) × (Nat → Int32) × (Nat → Int32) × (Nat → Int32) × (Nat → Int32) × (Nat → Int32)) := itr (fun kk => fX9_full_9 m_terrace m_holeFlag m_kind m_guestFlag m_wars m_lineFrom m_lineTo m_codes m_s kk) (fun _ _ _ _ _ _ _ _ _ _ _ _ _ => none) FU 0 m_kept m_keptBy m_ahead m_against m_sum m_sumBy m_term m_termBy m_byNot m_valueOf 0 0
set_option maxHeartbeats 4000000 in
set_option maxRecDepth 100000 in
theorem KX9_full (l : Launch) (D : va_G) (cy : Nat → ClassId) (ad : Nat → Nat) (P : MP) (V : MV) (I : MI) (J : MJ) (A : MI) (B : MJ) {res : Int32 × Int32 × (Nat → Int32) × (Nat → Int32) × (Nat → Int32) × (Nat → Int32) × (Nat → Int32) × (Nat → Int32) × (Nat → Int32) × (Nat → Int32) × (Nat → Int32) × (Nat → Int32)} (hf : fX9_full (A 2) (A 5) (A 9) (A 10) (A 11) (A 13) (A 14) (A 15) (A 35) (I 0 0) (A 18) (A 19) (A 20) (A 21) (A 22) (A 23) (A 24) (A 25) (A 26) (A 27) = some res) : CG l yX9_full cX9_full 5 (some .int) rmX9_full D cy (dn cy LY_X9 ad P V I J A B) [.ref (ad 0)] (some (.int res.1)) (dn cy LY_X9 ad P V (gp I [(0, 0, res.2.1)]) (gp J []) (gm A [(18, res.2.2.1), (19, res.2.2.2.1), (20, res.2.2.2.2.1), (21, res.2.2.2.2.2.1), (22, res.2.2.2.2.2.2.1), (23, res.2.2.2.2.2.2.2.1), (24, res.2.2.2.2.2.2.2.2.1), (25, res.2.2.2.2.2.2.2.2.2.1), (26, res.2.2.2.2.2.2.2.2.2.2.1), (27, res.2.2.2.2.2.2.2.2.2.2.2)]) (gm B [])) := by
  refine CG.of (own := RX9) (by decide) rfl rfl ?_
  intro p e s m below meth c ls Af C0 hK hN hA hW hl
  have hW : wd D (dn cy LY_X9 ad P V (gp I [(0, 0, (I 0 0))]) (gp J []) (gm A [(18, (A 18)), (19, (A 19)), (20, (A 20)), (21, (A 21)), (22, (A 22)), (23, (A 23)), (24, (A 24)), (25, (A 25)), (26, (A 26)), (27, (A 27))]) (gm B [])) Af s.heap s.heap [] := wd_sel [(0, 0)] [] [18, 19, 20, 21, 22, 23, 24, 25, 26, 27] [] hW
  have hl : lv_has ls 5 [(0, .ref (ad 0))] := hl
  unfold fX9_full at hf
  refine lv_aload_n C0.1 C0.2.1 dX9_full_0 rfl (lv_at hl 0 rfl) ?_
  refine lv_iconst (v := 0) C0.1 C0.2.1 dX9_full_1 kI_0 ?_
  refine s_putI C0 hK hW 0 0 LY_X9_0 rfl fg_X9_142 fp_X9_0 rfl dX9_full_2 (fun H locs hW => ?_)
  have hW : wd D (dn cy LY_X9 ad P V (gp I [(0, 0, 0)]) (gp J []) (gm A [(18, (A 18)), (19, (A 19)), (20, (A 20)), (21, (A 21)), (22, (A 22)), (23, (A 23)), (24, (A 24)), (25, (A 25)), (26, (A 26)), (27, (A 27))]) (gm B [])) Af s.heap H locs := hW
  refine lv_iconst (v := 0) C0.1 C0.2.1 dX9_full_5 kI_0 ?_
  refine lv_istore_n (lv' := [(1, .int 0), (0, .ref (ad 0))]) C0.1 C0.2.1 dX9_full_6 rfl hl (by decide) rfl (fun ls hl => ?_)
  refine lv_iconst (v := 0) C0.1 C0.2.1 dX9_full_7 kI_0 ?_
  refine lv_istore_n (lv' := [(2, .int 0), (1, .int 0), (0, .ref (ad 0))]) C0.1 C0.2.1 dX9_full_8 rfl hl (by decide) rfl (fun ls hl => ?_)
  exact TX9_full_9 C0 hK hN hA  FU 0 (A 18) (A 19) (A 20) (A 21) (A 22) (A 23) (A 24) (A 25) (A 26) (A 27) 0 0 _ _ ls hW (lv_sub hl [2, 1, 0] rfl) hf
-- X9_pairs
def rmX9_pairs : Room := { frames := 2, cells := 0, slots := 0, locals := 43 }
def SX9_pairs_21 (p : Program) (l : Launch) (e : Env) (s : State) (m : MethodId) (args : Array Value) (below : List Frame) (meth : Method) (c : Code) (D : va_G) (cy : Nat → ClassId) (ad : Nat → Nat) (P : MP) (V : MV) (I : MI) (J : MJ) (A : MI) (B : MJ) (Af : Nat → Prop) (res : Int32 × Int32) (k : Int32 → Int32 → Int32 → Int32 → Option (Int32 × Int32)) : Prop := ∀ (m_thrown : Int32) (v1 : Int32) (v2 : Int32) (v3 : Int32) (H : Heap) (locs : List Loc) (ls : Array Slot), wd D (dn cy LY_X9 ad P V (gp I [(0, 0, m_thrown)]) (gp J []) (gm A []) (gm B [])) Af s.heap H locs → lv_has ls 4 [(0, .ref (ad 0)), (1, .int v1), (2, .int v2), (3, .int v3)] → k m_thrown v1 v2 v3 = some res → W p l e rmX9_pairs s m args below meth c H locs 0 0 (ZQ below D cy (dn cy LY_X9 ad P V (gp I [(0, 0, res.2)]) (gp J []) (gm A []) (gm B [])) (some (.int res.1)) Af args s) (F0 m 21 ls [])
def SX9_pairs_9 (p : Program) (l : Launch) (e : Env) (s : State) (m : MethodId) (args : Array Value) (below : List Frame) (meth : Method) (c : Code) (D : va_G) (cy : Nat → ClassId) (ad : Nat → Nat) (P : MP) (V : MV) (I : MI) (J : MJ) (A : MI) (B : MJ) (Af : Nat → Prop) (res : Int32 × Int32) (k : Int32 → Int32 → Int32 → Option (Int32 × Int32)) : Prop := ∀ (m_thrown : Int32) (v1 : Int32) (v2 : Int32) (H : Heap) (locs : List Loc) (ls : Array Slot), wd D (dn cy LY_X9 ad P V (gp I [(0, 0, m_thrown)]) (gp J []) (gm A []) (gm B [])) Af s.heap H locs → lv_has ls 4 [(0, .ref (ad 0)), (1, .int v1), (2, .int v2)] → k m_thrown v1 v2 = some res → W p l e rmX9_pairs s m args below meth c H locs 0 0 (ZQ below D cy (dn cy LY_X9 ad P V (gp I [(0, 0, res.2)]) (gp J []) (gm A []) (gm B [])) (some (.int res.1)) Af args s) (F0 m 9 ls [])
def fX9_pairs_21 (m_terrace : (Nat → Int32)) (m_guestFlag : (Nat → Int32)) (m_wars : (Nat → Int32)) (k9 : Int32 → Int32 → Int32 → Option (Int32 × Int32)) (k21 : Int32 → Int32 → Int32 → Int32 → Option (Int32 × Int32)) (m_thrown : Int32) (v1 : Int32) (v2 : Int32) (v3 : Int32) : Option (Int32 × Int32) := if v2 ≤ v3 then (k9 m_thrown v1 (v2 + 1)) else (Option.bind (fX9_areAtWar m_guestFlag m_wars v2 v3) fun y2 => (if y2 = 0 then (k21 m_thrown (v1 + 0) v2 (v3 + 1)) else (k21 m_thrown (v1 + 1) v2 (v3 + 1))))
set_option maxHeartbeats 4000000 in
set_option maxRecDepth 100000 in
theorem tX9_pairs_21 {p : Program} {l : Launch} {e : Env} {s : State} {m : MethodId} {args : Array Value} {below : List Frame} {meth : Method} {c : Code} {D : va_G} {cy : Nat → ClassId} {ad : Nat → Nat} {P : MP} {V : MV} {I : MI} {J : MJ} {A : MI} {B : MJ} {Af : Nat → Prop} {res : Int32 × Int32} (C0 : CX p s m args meth c cX9_pairs 4 (some .int) RX9) (hK : va_K D vwCl (tyG cy) s) (hN : NWs s) (hA : ∀ q, s.heap.size ≤ q → Af q) {k9 : Int32 → Int32 → Int32 → Option (Int32 × Int32)} (hk9 : SX9_pairs_9 p l e s m args below meth c D cy ad P V I J A B Af res k9) {k21 : Int32 → Int32 → Int32 → Int32 → Option (Int32 × Int32)} (hk21 : SX9_pairs_21 p l e s m args below meth c D cy ad P V I J A B Af res k21) : SX9_pairs_21 p l e s m args below meth c D cy ad P V I J A B Af res (fX9_pairs_21 (A 2) (A 10) (A 11) k9 k21) := by
  intro m_thrown v1 v2 v3 H locs ls hW hl hf
  unfold fX9_pairs_21 at hf
  refine lv_iload_n C0.1 C0.2.1 dX9_pairs_21 rfl (lv_at hl 3 rfl) ?_
  refine lv_iload_n C0.1 C0.2.1 dX9_pairs_22 rfl (lv_at hl 2 rfl) ?_
  refine lv_icmp_ge (tgt := 49) C0.1 C0.2.1 dX9_pairs_23 (by decide) (fun hc1 => ?_) (fun hc1 => ?_)
  · have hf := ite_t hc1 hf
    refine lv_iinc (v := (v2 + 1)) (lv' := [(2, .int (v2 + 1)), (0, .ref (ad 0)), (1, .int v1), (3, .int v3)]) C0.1 C0.2.1 dX9_pairs_49 hl (k := 2) rfl (congrArg (fun z => _ + z) kI_1) (by decide) rfl (fun ls hl => ?_)
    refine lv_goto (tgt := 9) C0.1 C0.2.1 dX9_pairs_52 (by decide) ?_
    exact hk9 m_thrown v1 (v2 + 1) H locs ls hW (lv_sub hl [1, 2, 0] rfl) hf
  · have hf := ite_f hc1 hf
    refine lv_iload_n C0.1 C0.2.1 dX9_pairs_26 rfl (lv_at hl 1 rfl) ?_
    refine lv_aload_n C0.1 C0.2.1 dX9_pairs_27 rfl (lv_at hl 0 rfl) ?_
    refine lv_iload_n C0.1 C0.2.1 dX9_pairs_28 rfl (lv_at hl 2 rfl) ?_
    refine lv_iload_n C0.1 C0.2.1 dX9_pairs_29 rfl (lv_at hl 3 rfl) ?_
    obtain ⟨y2, hy2, hf⟩ := b_some hf
    refine c_Vi C0 hK hN hl.1 hW hA (KX9_areAtWar l D cy  ad P V (gp I [(0, 0, m_thrown)]) (gp J []) (gm A []) (gm B []) v2 v3 hy2) (JN_id rfl rfl rfl rfl) (Uw_V uw_1436 uw_1438 us_70 uw_14 uw_1439) rfl rfl hd_X9_areAtWar ⟨rfl, rfl⟩ rfl (dn_some LY_X9_0) rfl rfl rfl dX9_pairs_30 ⟨Nat.zero_le _, Nat.zero_le _⟩ (fun H locs hW => ?_)
    have hW : wd D (dn cy LY_X9 ad P V (gp I [(0, 0, m_thrown)]) (gp J []) (gm A []) (gm B [])) Af s.heap H locs := hW
    refine lv_if_eq (tgt := 40) C0.1 C0.2.1 dX9_pairs_33 (by decide) (fun hc3 => ?_) (fun hc3 => ?_)
    · have hf := ite_t hc3 hf
      refine lv_iconst (v := 0) C0.1 C0.2.1 dX9_pairs_40 kI_0 ?_
      refine lv_iadd C0.1 C0.2.1 dX9_pairs_41 ?_
      refine lv_istore_n (lv' := [(1, .int (v1 + 0)), (0, .ref (ad 0)), (2, .int v2), (3, .int v3)]) C0.1 C0.2.1 dX9_pairs_42 rfl hl (by decide) rfl (fun ls hl => ?_)
      refine lv_iinc (v := (v3 + 1)) (lv' := [(3, .int (v3 + 1)), (1, .int (v1 + 0)), (0, .ref (ad 0)), (2, .int v2)]) C0.1 C0.2.1 dX9_pairs_43 hl (k := 3) rfl (congrArg (fun z => _ + z) kI_1) (by decide) rfl (fun ls hl => ?_)
      refine lv_goto (tgt := 21) C0.1 C0.2.1 dX9_pairs_46 (by decide) ?_
      exact hk21 m_thrown (v1 + 0) v2 (v3 + 1) H locs ls hW (lv_sub hl [2, 1, 3, 0] rfl) hf
    · have hf := ite_f hc3 hf
      refine lv_iconst (v := 1) C0.1 C0.2.1 dX9_pairs_36 kI_1 ?_
      refine lv_goto (tgt := 41) C0.1 C0.2.1 dX9_pairs_37 (by decide) ?_
      refine lv_iadd C0.1 C0.2.1 dX9_pairs_41 ?_
      refine lv_istore_n (lv' := [(1, .int (v1 + 1)), (0, .ref (ad 0)), (2, .int v2), (3, .int v3)]) C0.1 C0.2.1 dX9_pairs_42 rfl hl (by decide) rfl (fun ls hl => ?_)
      refine lv_iinc (v := (v3 + 1)) (lv' := [(3, .int (v3 + 1)), (1, .int (v1 + 1)), (0, .ref (ad 0)), (2, .int v2)]) C0.1 C0.2.1 dX9_pairs_43 hl (k := 3) rfl (congrArg (fun z => _ + z) kI_1) (by decide) rfl (fun ls hl => ?_)
      refine lv_goto (tgt := 21) C0.1 C0.2.1 dX9_pairs_46 (by decide) ?_
      exact hk21 m_thrown (v1 + 1) v2 (v3 + 1) H locs ls hW (lv_sub hl [2, 1, 3, 0] rfl) hf
theorem TX9_pairs_21 {p : Program} {l : Launch} {e : Env} {s : State} {m : MethodId} {args : Array Value} {below : List Frame} {meth : Method} {c : Code} {D : va_G} {cy : Nat → ClassId} {ad : Nat → Nat} {P : MP} {V : MV} {I : MI} {J : MJ} {A : MI} {B : MJ} {Af : Nat → Prop} {res : Int32 × Int32} (C0 : CX p s m args meth c cX9_pairs 4 (some .int) RX9) (hK : va_K D vwCl (tyG cy) s) (hN : NWs s) (hA : ∀ q, s.heap.size ≤ q → Af q) {k9 : Int32 → Int32 → Int32 → Option (Int32 × Int32)} (hk9 : SX9_pairs_9 p l e s m args below meth c D cy ad P V I J A B Af res k9) : ∀ n, SX9_pairs_21 p l e s m args below meth c D cy ad P V I J A B Af res (itr (fun kk => fX9_pairs_21 (A 2) (A 10) (A 11) k9 kk) (fun _ _ _ _ => none) n) := by
  intro n
  induction n with
  | zero => intro m_thrown v1 v2 v3 H locs ls hW hl hf; exact (nomatch (show (none : Option (Int32 × Int32)) = some res from hf))
  | succ n ih => exact tX9_pairs_21 C0 hK hN hA hk9 ih
def fX9_pairs_9 (m_terrace : (Nat → Int32)) (m_guestFlag : (Nat → Int32)) (m_wars : (Nat → Int32)) (k9 : Int32 → Int32 → Int32 → Option (Int32 × Int32)) (m_thrown : Int32) (v1 : Int32) (v2 : Int32) : Option (Int32 × Int32) := if (m_terrace 1) ≤ v2 then (some (v1, m_thrown)) else (itr (fun kk => fX9_pairs_21 m_terrace m_guestFlag m_wars k9 kk) (fun _ _ _ _ => none) FU m_thrown v1 v2 0)
set_option maxHeartbeats 4000000 in
set_option maxRecDepth 100000 in
theorem tX9_pairs_9 {p : Program} {l : Launch} {e : Env} {s : State} {m : MethodId} {args : Array Value} {below : List Frame} {meth : Method} {c : Code} {D : va_G} {cy : Nat → ClassId} {ad : Nat → Nat} {P : MP} {V : MV} {I : MI} {J : MJ} {A : MI} {B : MJ} {Af : Nat → Prop} {res : Int32 × Int32} (C0 : CX p s m args meth c cX9_pairs 4 (some .int) RX9) (hK : va_K D vwCl (tyG cy) s) (hN : NWs s) (hA : ∀ q, s.heap.size ≤ q → Af q) {k9 : Int32 → Int32 → Int32 → Option (Int32 × Int32)} (hk9 : SX9_pairs_9 p l e s m args below meth c D cy ad P V I J A B Af res k9) : SX9_pairs_9 p l e s m args below meth c D cy ad P V I J A B Af res (fX9_pairs_9 (A 2) (A 10) (A 11) k9) := by
  intro m_thrown v1 v2 H locs ls hW hl hf
  unfold fX9_pairs_9 at hf
  refine lv_iload_n C0.1 C0.2.1 dX9_pairs_9 rfl (lv_at hl 2 rfl) ?_
  refine lv_aload_n C0.1 C0.2.1 dX9_pairs_10 rfl (lv_at hl 0 rfl) ?_
  refine s_get (v := .ref (ad 2)) C0 hK hW 0 10 LY_X9_0 rfl fg_X9_13 rfl dX9_pairs_11 ?_
  refine lv_iconst (v := 1) C0.1 C0.2.1 dX9_pairs_14 kI_1 ?_
  refine s_iald (v := ((A 2) 1)) C0 hK hW 2 LY_X9_2 rfl (congrArg _ tc_1) dX9_pairs_15 ?_
  refine lv_icmp_ge (tgt := 55) C0.1 C0.2.1 dX9_pairs_16 (by decide) (fun hc1 => ?_) (fun hc1 => ?_)
  · have hf := ite_t hc1 hf
    refine lv_iload_n C0.1 C0.2.1 dX9_pairs_55 rfl (lv_at hl 1 rfl) ?_
    obtain rfl := Option.some.inj hf
    exact r_int C0 hK hW dX9_pairs_56
  · have hf := ite_f hc1 hf
    refine lv_iconst (v := 0) C0.1 C0.2.1 dX9_pairs_19 kI_0 ?_
    refine lv_istore_n (lv' := [(3, .int 0), (0, .ref (ad 0)), (1, .int v1), (2, .int v2)]) C0.1 C0.2.1 dX9_pairs_20 rfl hl (by decide) rfl (fun ls hl => ?_)
    exact TX9_pairs_21 C0 hK hN hA hk9 FU m_thrown v1 v2 0 H locs ls hW (lv_sub hl [1, 2, 3, 0] rfl) hf
theorem TX9_pairs_9 {p : Program} {l : Launch} {e : Env} {s : State} {m : MethodId} {args : Array Value} {below : List Frame} {meth : Method} {c : Code} {D : va_G} {cy : Nat → ClassId} {ad : Nat → Nat} {P : MP} {V : MV} {I : MI} {J : MJ} {A : MI} {B : MJ} {Af : Nat → Prop} {res : Int32 × Int32} (C0 : CX p s m args meth c cX9_pairs 4 (some .int) RX9) (hK : va_K D vwCl (tyG cy) s) (hN : NWs s) (hA : ∀ q, s.heap.size ≤ q → Af q) : ∀ n, SX9_pairs_9 p l e s m args below meth c D cy ad P V I J A B Af res (itr (fun kk => fX9_pairs_9 (A 2) (A 10) (A 11) kk) (fun _ _ _ => none) n) := by
  intro n
  induction n with
  | zero => intro m_thrown v1 v2 H locs ls hW hl hf; exact (nomatch (show (none : Option (Int32 × Int32)) = some res from hf))
  | succ n ih => exact tX9_pairs_9 C0 hK hN hA  ih
def fX9_pairs (m_terrace : (Nat → Int32)) (m_guestFlag : (Nat → Int32)) (m_wars : (Nat → Int32)) (m_thrown : Int32) : Option (Int32 × Int32) := itr (fun kk => fX9_pairs_9 m_terrace m_guestFlag m_wars kk) (fun _ _ _ => none) FU 0 0 0
set_option maxHeartbeats 4000000 in
set_option maxRecDepth 100000 in
theorem KX9_pairs (l : Launch) (D : va_G) (cy : Nat → ClassId) (ad : Nat → Nat) (P : MP) (V : MV) (I : MI) (J : MJ) (A : MI) (B : MJ) {res : Int32 × Int32} (hf : fX9_pairs (A 2) (A 10) (A 11) (I 0 0) = some res) : CG l yX9_pairs cX9_pairs 4 (some .int) rmX9_pairs D cy (dn cy LY_X9 ad P V I J A B) [.ref (ad 0)] (some (.int res.1)) (dn cy LY_X9 ad P V (gp I [(0, 0, res.2)]) (gp J []) (gm A []) (gm B [])) := by
  refine CG.of (own := RX9) (by decide) rfl rfl ?_
  intro p e s m below meth c ls Af C0 hK hN hA hW hl
  have hW : wd D (dn cy LY_X9 ad P V (gp I [(0, 0, (I 0 0))]) (gp J []) (gm A []) (gm B [])) Af s.heap s.heap [] := wd_sel [(0, 0)] [] [] [] hW
  have hl : lv_has ls 4 [(0, .ref (ad 0))] := hl
  unfold fX9_pairs at hf
  refine lv_aload_n C0.1 C0.2.1 dX9_pairs_0 rfl (lv_at hl 0 rfl) ?_
  refine lv_iconst (v := 0) C0.1 C0.2.1 dX9_pairs_1 kI_0 ?_
  refine s_putI C0 hK hW 0 0 LY_X9_0 rfl fg_X9_142 fp_X9_0 rfl dX9_pairs_2 (fun H locs hW => ?_)
  have hW : wd D (dn cy LY_X9 ad P V (gp I [(0, 0, 0)]) (gp J []) (gm A []) (gm B [])) Af s.heap H locs := hW
  refine lv_iconst (v := 0) C0.1 C0.2.1 dX9_pairs_5 kI_0 ?_
  refine lv_istore_n (lv' := [(1, .int 0), (0, .ref (ad 0))]) C0.1 C0.2.1 dX9_pairs_6 rfl hl (by decide) rfl (fun ls hl => ?_)
  refine lv_iconst (v := 0) C0.1 C0.2.1 dX9_pairs_7 kI_0 ?_
  refine lv_istore_n (lv' := [(2, .int 0), (1, .int 0), (0, .ref (ad 0))]) C0.1 C0.2.1 dX9_pairs_8 rfl hl (by decide) rfl (fun ls hl => ?_)
  exact TX9_pairs_9 C0 hK hN hA  FU 0 0 0 _ _ ls hW (lv_sub hl [2, 1, 0] rfl) hf
-- X9_line
def rmX9_line : Room := { frames := 4, cells := 0, slots := 0, locals := 87 }
def fX9_line (m_colder : Int32) (m_terrace : (Nat → Int32)) (m_burns : (Nat → Int32)) (m_kind : (Nat → Int32)) (m_guestFlag : (Nat → Int32)) (m_wars : (Nat → Int32)) (m_cold : (Nat → Int32)) (m_thrown : Int32) (m_s : (Nat → Int32)) (m_before : (Nat → Int32)) (v1 : Int32) (v2 : Int32) : Option (Int32 × Int32 × (Nat → Int32) × (Nat → Int32)) := Option.bind (fX9_isGuest m_terrace v1) fun y1 => (if y1 = 0 then (some ((-1), 0, m_s, m_before)) else (Option.bind (fX9_isGuest m_terrace v2) fun y3 => (if y3 = 0 then (some ((-1), 0, m_s, m_before)) else (bif inb (8 + v1) 13 then (if (m_s (Int32.toNatClampNeg (8 + v1))) = 0 then (some ((-1), 0, m_s, m_before)) else (bif inb (8 + v1) 13 then (bif inb (8 + v2) 13 then (if (m_s (Int32.toNatClampNeg (8 + v1))) = (m_s (Int32.toNatClampNeg (8 + v2))) then (Option.bind (fX9_areAtWar m_guestFlag m_wars v1 v2) fun y10 => (if y10 = 0 then (some ((-1), 0, m_s, m_before)) else (bif inb (8 + v1) 13 then (Option.bind (fX9_emptyIn m_colder m_terrace m_burns m_kind m_cold m_s m_before ((m_s (Int32.toNatClampNeg (8 + v1))) - 1) 20) fun y13 => (some (y13.1, 0, y13.2.1, y13.2.2))) else none))) else (some ((-1), 0, m_s, m_before))) else none) else none)) else none))))
set_option maxHeartbeats 4000000 in
set_option maxRecDepth 100000 in
theorem KX9_line (l : Launch) (D : va_G) (cy : Nat → ClassId) (ad : Nat → Nat) (P : MP) (V : MV) (I : MI) (J : MJ) (A : MI) (B : MJ) (v1 : Int32) (v2 : Int32) {res : Int32 × Int32 × (Nat → Int32) × (Nat → Int32)} (hf : fX9_line (I 0 54) (A 2) (A 7) (A 9) (A 10) (A 11) (A 12) (I 0 0) (A 35) (A 37) v1 v2 = some res) : CG l yX9_line cX9_line 3 (some .int) rmX9_line D cy (dn cy LY_X9 ad P V I J A B) [.ref (ad 0), .int v1, .int v2] (some (.int res.1)) (dn cy LY_X9 ad P V (gp I [(0, 0, res.2.1)]) (gp J []) (gm A [(35, res.2.2.1), (37, res.2.2.2)]) (gm B [])) := by
  refine CG.of (own := RX9) (by decide) rfl rfl ?_
  intro p e s m below meth c ls Af C0 hK hN hA hW hl
  have hW : wd D (dn cy LY_X9 ad P V (gp I [(0, 0, (I 0 0))]) (gp J []) (gm A [(35, (A 35)), (37, (A 37))]) (gm B [])) Af s.heap s.heap [] := wd_sel [(0, 0)] [] [35, 37] [] hW
  have hl : lv_has ls 3 [(0, .ref (ad 0)), (1, .int v1), (2, .int v2)] := hl
  unfold fX9_line at hf
  refine lv_aload_n C0.1 C0.2.1 dX9_line_0 rfl (lv_at hl 0 rfl) ?_
  refine lv_iconst (v := 0) C0.1 C0.2.1 dX9_line_1 kI_0 ?_
  refine s_putI C0 hK hW 0 0 LY_X9_0 rfl fg_X9_142 fp_X9_0 rfl dX9_line_2 (fun H locs hW => ?_)
  have hW : wd D (dn cy LY_X9 ad P V (gp I [(0, 0, 0)]) (gp J []) (gm A [(35, (A 35)), (37, (A 37))]) (gm B [])) Af s.heap H locs := hW
  refine lv_aload_n C0.1 C0.2.1 dX9_line_5 rfl (lv_at hl 0 rfl) ?_
  refine lv_iload_n C0.1 C0.2.1 dX9_line_6 rfl (lv_at hl 1 rfl) ?_
  obtain ⟨y1, hy1, hf⟩ := b_some hf
  refine c_Vi C0 hK hN hl.1 hW hA (KX9_isGuest l D cy  ad P V (gp I [(0, 0, 0)]) (gp J []) (gm A [(35, (A 35)), (37, (A 37))]) (gm B []) v1 hy1) (JN_id rfl rfl rfl rfl) (Uw_V uw_1463 uw_1465 us_75 uw_14 uw_1466) rfl rfl hd_X9_isGuest ⟨rfl, rfl⟩ rfl (dn_some LY_X9_0) rfl rfl rfl dX9_line_7 ⟨Nat.zero_le _, Nat.zero_le _⟩ (fun H locs hW => ?_)
  have hW : wd D (dn cy LY_X9 ad P V (gp I [(0, 0, 0)]) (gp J []) (gm A [(35, (A 35)), (37, (A 37))]) (gm B [])) Af s.heap H locs := hW
  refine lv_if_eq (tgt := 63) C0.1 C0.2.1 dX9_line_10 (by decide) (fun hc2 => ?_) (fun hc2 => ?_)
  · have hf := ite_t hc2 hf
    refine lv_iconst (v := (-1)) C0.1 C0.2.1 dX9_line_63 kI_m1 ?_
    obtain rfl := Option.some.inj hf
    exact r_int C0 hK hW dX9_line_64
  · have hf := ite_f hc2 hf
    refine lv_aload_n C0.1 C0.2.1 dX9_line_13 rfl (lv_at hl 0 rfl) ?_
    refine lv_iload_n C0.1 C0.2.1 dX9_line_14 rfl (lv_at hl 2 rfl) ?_
    obtain ⟨y3, hy3, hf⟩ := b_some hf
    refine c_Vi C0 hK hN hl.1 hW hA (KX9_isGuest l D cy  ad P V (gp I [(0, 0, 0)]) (gp J []) (gm A [(35, (A 35)), (37, (A 37))]) (gm B []) v2 hy3) (JN_id rfl rfl rfl rfl) (Uw_V uw_1463 uw_1465 us_75 uw_14 uw_1466) rfl rfl hd_X9_isGuest ⟨rfl, rfl⟩ rfl (dn_some LY_X9_0) rfl rfl rfl dX9_line_15 ⟨Nat.zero_le _, Nat.zero_le _⟩ (fun H locs hW => ?_)
    have hW : wd D (dn cy LY_X9 ad P V (gp I [(0, 0, 0)]) (gp J []) (gm A [(35, (A 35)), (37, (A 37))]) (gm B [])) Af s.heap H locs := hW
    refine lv_if_eq (tgt := 63) C0.1 C0.2.1 dX9_line_18 (by decide) (fun hc4 => ?_) (fun hc4 => ?_)
    · have hf := ite_t hc4 hf
      refine lv_iconst (v := (-1)) C0.1 C0.2.1 dX9_line_63 kI_m1 ?_
      obtain rfl := Option.some.inj hf
      exact r_int C0 hK hW dX9_line_64
    · have hf := ite_f hc4 hf
      refine lv_aload_n C0.1 C0.2.1 dX9_line_21 rfl (lv_at hl 0 rfl) ?_
      refine s_get (v := .ref (ad 35)) C0 hK hW 0 47 LY_X9_0 rfl fg_X9_114 rfl dX9_line_22 ?_
      refine lv_bipush (v := 8) C0.1 C0.2.1 dX9_line_25 kB_8 ?_
      refine lv_iload_n C0.1 C0.2.1 dX9_line_27 rfl (lv_at hl 1 rfl) ?_
      refine lv_iadd C0.1 C0.2.1 dX9_line_28 ?_
      obtain ⟨hb5, hf⟩ := g_some hf
      refine s_iald (v := ((A 35) (Int32.toNatClampNeg (8 + v1)))) C0 hK hW 35 LY_X9_35 hb5 rfl dX9_line_29 ?_
      refine lv_if_eq (tgt := 63) C0.1 C0.2.1 dX9_line_30 (by decide) (fun hc6 => ?_) (fun hc6 => ?_)
      · have hf := ite_t hc6 hf
        refine lv_iconst (v := (-1)) C0.1 C0.2.1 dX9_line_63 kI_m1 ?_
        obtain rfl := Option.some.inj hf
        exact r_int C0 hK hW dX9_line_64
      · have hf := ite_f hc6 hf
        refine lv_aload_n C0.1 C0.2.1 dX9_line_33 rfl (lv_at hl 0 rfl) ?_
        refine s_get (v := .ref (ad 35)) C0 hK hW 0 47 LY_X9_0 rfl fg_X9_114 rfl dX9_line_34 ?_
        refine lv_bipush (v := 8) C0.1 C0.2.1 dX9_line_37 kB_8 ?_
        refine lv_iload_n C0.1 C0.2.1 dX9_line_39 rfl (lv_at hl 1 rfl) ?_
        refine lv_iadd C0.1 C0.2.1 dX9_line_40 ?_
        obtain ⟨hb7, hf⟩ := g_some hf
        refine s_iald (v := ((A 35) (Int32.toNatClampNeg (8 + v1)))) C0 hK hW 35 LY_X9_35 hb7 rfl dX9_line_41 ?_
        refine lv_aload_n C0.1 C0.2.1 dX9_line_42 rfl (lv_at hl 0 rfl) ?_
        refine s_get (v := .ref (ad 35)) C0 hK hW 0 47 LY_X9_0 rfl fg_X9_114 rfl dX9_line_43 ?_
        refine lv_bipush (v := 8) C0.1 C0.2.1 dX9_line_46 kB_8 ?_
        refine lv_iload_n C0.1 C0.2.1 dX9_line_48 rfl (lv_at hl 2 rfl) ?_
        refine lv_iadd C0.1 C0.2.1 dX9_line_49 ?_
        obtain ⟨hb8, hf⟩ := g_some hf
        refine s_iald (v := ((A 35) (Int32.toNatClampNeg (8 + v2)))) C0 hK hW 35 LY_X9_35 hb8 rfl dX9_line_50 ?_
        refine lv_icmp_ne (tgt := 63) C0.1 C0.2.1 dX9_line_51 (by decide) (fun hc9 => ?_) (fun hc9 => ?_)
        · have hf := ite_f hc9 hf
          refine lv_iconst (v := (-1)) C0.1 C0.2.1 dX9_line_63 kI_m1 ?_
          obtain rfl := Option.some.inj hf
          exact r_int C0 hK hW dX9_line_64
        · have hf := ite_t hc9 hf
          refine lv_aload_n C0.1 C0.2.1 dX9_line_54 rfl (lv_at hl 0 rfl) ?_
          refine lv_iload_n C0.1 C0.2.1 dX9_line_55 rfl (lv_at hl 1 rfl) ?_
          refine lv_iload_n C0.1 C0.2.1 dX9_line_56 rfl (lv_at hl 2 rfl) ?_
          obtain ⟨y10, hy10, hf⟩ := b_some hf
          refine c_Vi C0 hK hN hl.1 hW hA (KX9_areAtWar l D cy  ad P V (gp I [(0, 0, 0)]) (gp J []) (gm A [(35, (A 35)), (37, (A 37))]) (gm B []) v1 v2 hy10) (JN_id rfl rfl rfl rfl) (Uw_V uw_1436 uw_1438 us_70 uw_14 uw_1439) rfl rfl hd_X9_areAtWar ⟨rfl, rfl⟩ rfl (dn_some LY_X9_0) rfl rfl rfl dX9_line_57 ⟨Nat.zero_le _, Nat.zero_le _⟩ (fun H locs hW => ?_)
          have hW : wd D (dn cy LY_X9 ad P V (gp I [(0, 0, 0)]) (gp J []) (gm A [(35, (A 35)), (37, (A 37))]) (gm B [])) Af s.heap H locs := hW
          refine lv_if_ne (tgt := 65) C0.1 C0.2.1 dX9_line_60 (by decide) (fun hc11 => ?_) (fun hc11 => ?_)
          · have hf := ite_f hc11 hf
            refine lv_aload_n C0.1 C0.2.1 dX9_line_65 rfl (lv_at hl 0 rfl) ?_
            refine lv_aload_n C0.1 C0.2.1 dX9_line_66 rfl (lv_at hl 0 rfl) ?_
            refine s_get (v := .ref (ad 35)) C0 hK hW 0 47 LY_X9_0 rfl fg_X9_114 rfl dX9_line_67 ?_
            refine lv_bipush (v := 8) C0.1 C0.2.1 dX9_line_70 kB_8 ?_
            refine lv_iload_n C0.1 C0.2.1 dX9_line_72 rfl (lv_at hl 1 rfl) ?_
            refine lv_iadd C0.1 C0.2.1 dX9_line_73 ?_
            obtain ⟨hb12, hf⟩ := g_some hf
            refine s_iald (v := ((A 35) (Int32.toNatClampNeg (8 + v1)))) C0 hK hW 35 LY_X9_35 hb12 rfl dX9_line_74 ?_
            refine lv_iconst (v := 1) C0.1 C0.2.1 dX9_line_75 kI_1 ?_
            refine lv_isub C0.1 C0.2.1 dX9_line_76 ?_
            refine lv_bipush (v := 20) C0.1 C0.2.1 dX9_line_77 kB_20 ?_
            obtain ⟨y13, hy13, hf⟩ := b_some hf
            refine c_Vi C0 hK hN hl.1 hW hA (KX9_emptyIn l D cy  ad P V (gp I [(0, 0, 0)]) (gp J []) (gm A [(35, (A 35)), (37, (A 37))]) (gm B []) (((A 35) (Int32.toNatClampNeg (8 + v1))) - 1) 20 hy13) (JN_id rfl rfl rfl rfl) (Uw_V uw_1548 uw_1550 us_87 uw_14 uw_1551) rfl rfl hd_X9_emptyIn ⟨rfl, rfl⟩ rfl (dn_some LY_X9_0) rfl rfl rfl dX9_line_79 ⟨Nat.zero_le _, Nat.zero_le _⟩ (fun H locs hW => ?_)
            have hW : wd D (dn cy LY_X9 ad P V (gp I [(0, 0, 0)]) (gp J []) (gm A [(35, y13.2.1), (37, y13.2.2)]) (gm B [])) Af s.heap H locs := hW
            obtain rfl := Option.some.inj hf
            exact r_int C0 hK hW dX9_line_82
          · have hf := ite_t hc11 hf
            refine lv_iconst (v := (-1)) C0.1 C0.2.1 dX9_line_63 kI_m1 ?_
            obtain rfl := Option.some.inj hf
            exact r_int C0 hK hW dX9_line_64
-- X9_hear
def rmX9_hear : Room := { frames := 2, cells := 0, slots := 0, locals := 43 }
def fX9_hear (m_thrown : Int32) (m_heards : (Nat → Int32)) (m_heardDays : (Nat → Int32)) (m_heardSome : (Nat → Int32)) (v1 : Int32) (v2 : Int32) : Option (Int32 × Int32 × (Nat → Int32) × (Nat → Int32) × (Nat → Int32)) := Option.bind (fX9_within v1 1 30) fun y1 => (if y1 = 0 then (some (0, 0, m_heards, m_heardDays, m_heardSome)) else (if (m_heards 0) = 8 then (some (0, 0, m_heards, m_heardDays, m_heardSome)) else (bif inb (m_heards 0) 40 then (bif inb (m_heards 0) 40 then (some (1, 0, (upd m_heards 0 ((m_heards 0) + 1)), (upd m_heardDays (Int32.toNatClampNeg (m_heards 0)) v1), (upd m_heardSome (Int32.toNatClampNeg (m_heards 0)) (vp_nar .boolean v2)))) else none) else none)))
set_option maxHeartbeats 4000000 in
set_option maxRecDepth 100000 in
theorem KX9_hear (l : Launch) (D : va_G) (cy : Nat → ClassId) (ad : Nat → Nat) (P : MP) (V : MV) (I : MI) (J : MJ) (A : MI) (B : MJ) (v1 : Int32) (v2 : Int32) {res : Int32 × Int32 × (Nat → Int32) × (Nat → Int32) × (Nat → Int32)} (hf : fX9_hear (I 0 0) (A 32) (A 33) (A 34) v1 v2 = some res) : CG l yX9_hear cX9_hear 3 (some .boolean) rmX9_hear D cy (dn cy LY_X9 ad P V I J A B) [.ref (ad 0), .int v1, .int v2] (some (.int res.1)) (dn cy LY_X9 ad P V (gp I [(0, 0, res.2.1)]) (gp J []) (gm A [(32, res.2.2.1), (33, res.2.2.2.1), (34, res.2.2.2.2)]) (gm B [])) := by
  refine CG.of (own := RX9) (by decide) rfl rfl ?_
  intro p e s m below meth c ls Af C0 hK hN hA hW hl
  have hW : wd D (dn cy LY_X9 ad P V (gp I [(0, 0, (I 0 0))]) (gp J []) (gm A [(32, (A 32)), (33, (A 33)), (34, (A 34))]) (gm B [])) Af s.heap s.heap [] := wd_sel [(0, 0)] [] [32, 33, 34] [] hW
  have hl : lv_has ls 3 [(0, .ref (ad 0)), (1, .int v1), (2, .int v2)] := hl
  unfold fX9_hear at hf
  refine lv_aload_n C0.1 C0.2.1 dX9_hear_0 rfl (lv_at hl 0 rfl) ?_
  refine lv_iconst (v := 0) C0.1 C0.2.1 dX9_hear_1 kI_0 ?_
  refine s_putI C0 hK hW 0 0 LY_X9_0 rfl fg_X9_142 fp_X9_0 rfl dX9_hear_2 (fun H locs hW => ?_)
  have hW : wd D (dn cy LY_X9 ad P V (gp I [(0, 0, 0)]) (gp J []) (gm A [(32, (A 32)), (33, (A 33)), (34, (A 34))]) (gm B [])) Af s.heap H locs := hW
  refine lv_iload_n C0.1 C0.2.1 dX9_hear_5 rfl (lv_at hl 1 rfl) ?_
  refine lv_iconst (v := 1) C0.1 C0.2.1 dX9_hear_6 kI_1 ?_
  refine lv_bipush (v := 30) C0.1 C0.2.1 dX9_hear_7 kB_30 ?_
  obtain ⟨y1, hy1, hf⟩ := b_some hf
  refine c_Si C0 hK hN hl.1 hW hA (KX9_within l D cy  (fun q => ad (pl_LY_X9_LY_0_.getD q 0)) (fun q => P (pl_LY_X9_LY_0_.getD q 0)) (fun q => Vx LY_X9 ad V (pl_LY_X9_LY_0_.getD q 0)) (fun q => gp I [(0, 0, 0)] (pl_LY_X9_LY_0_.getD q 0)) (fun q => gp J [] (pl_LY_X9_LY_0_.getD q 0)) (fun q => gm A [(32, (A 32)), (33, (A 33)), (34, (A 34))] (pl_LY_X9_LY_0_.getD q 0)) (fun q => gm B [] (pl_LY_X9_LY_0_.getD q 0)) v1 1 30 hy1) (JN_subC (pl := pl_LY_X9_LY_0_) sb_LY_X9_LY_0_ rfl rfl rfl rfl rfl rfl rfl rfl rfl) ⟨uw_1331, uw_1332, uw_14, uw_1333⟩ rfl rfl hd_X9_within ⟨rfl, rfl⟩ rfl rfl rfl dX9_hear_9 ⟨Nat.zero_le _, Nat.zero_le _⟩ (fun H locs hW => ?_)
  have hW : wd D (dn cy LY_X9 ad P V (gp I [(0, 0, 0)]) (gp J []) (gm A [(32, (A 32)), (33, (A 33)), (34, (A 34))]) (gm B [])) Af s.heap H locs := hW
  refine lv_if_eq (tgt := 26) C0.1 C0.2.1 dX9_hear_12 (by decide) (fun hc2 => ?_) (fun hc2 => ?_)
  · have hf := ite_t hc2 hf
    refine lv_iconst (v := 0) C0.1 C0.2.1 dX9_hear_26 kI_0 ?_
    obtain rfl := Option.some.inj hf
    exact r_bool C0 hK hW (v' := 0) rfl dX9_hear_27
  · have hf := ite_f hc2 hf
    refine lv_aload_n C0.1 C0.2.1 dX9_hear_15 rfl (lv_at hl 0 rfl) ?_
    refine s_get (v := .ref (ad 32)) C0 hK hW 0 44 LY_X9_0 rfl fg_X9_105 rfl dX9_hear_16 ?_
    refine lv_iconst (v := 0) C0.1 C0.2.1 dX9_hear_19 kI_0 ?_
    refine s_iald (v := ((A 32) 0)) C0 hK hW 32 LY_X9_32 rfl (congrArg _ tc_0) dX9_hear_20 ?_
    refine lv_bipush (v := 8) C0.1 C0.2.1 dX9_hear_21 kB_8 ?_
    refine lv_icmp_ne (tgt := 28) C0.1 C0.2.1 dX9_hear_23 (by decide) (fun hc3 => ?_) (fun hc3 => ?_)
    · have hf := ite_f hc3 hf
      refine lv_aload_n C0.1 C0.2.1 dX9_hear_28 rfl (lv_at hl 0 rfl) ?_
      refine s_get (v := .ref (ad 33)) C0 hK hW 0 45 LY_X9_0 rfl fg_X9_108 rfl dX9_hear_29 ?_
      refine lv_aload_n C0.1 C0.2.1 dX9_hear_32 rfl (lv_at hl 0 rfl) ?_
      refine s_get (v := .ref (ad 32)) C0 hK hW 0 44 LY_X9_0 rfl fg_X9_105 rfl dX9_hear_33 ?_
      refine lv_iconst (v := 0) C0.1 C0.2.1 dX9_hear_36 kI_0 ?_
      refine s_iald (v := ((A 32) 0)) C0 hK hW 32 LY_X9_32 rfl (congrArg _ tc_0) dX9_hear_37 ?_
      refine lv_iload_n C0.1 C0.2.1 dX9_hear_38 rfl (lv_at hl 1 rfl) ?_
      obtain ⟨hb4, hf⟩ := g_some hf
      refine s_iast (f := (upd (A 33) (Int32.toNatClampNeg ((A 32) 0)) v1)) C0 hK hW 33 LY_X9_33 hb4 rfl rfl dX9_hear_39 (fun H locs hW => ?_)
      have hW : wd D (dn cy LY_X9 ad P V (gp I [(0, 0, 0)]) (gp J []) (gm A [(32, (A 32)), (33, (upd (A 33) (Int32.toNatClampNeg ((A 32) 0)) v1)), (34, (A 34))]) (gm B [])) Af s.heap H locs := hW
      refine lv_aload_n C0.1 C0.2.1 dX9_hear_40 rfl (lv_at hl 0 rfl) ?_
      refine s_get (v := .ref (ad 34)) C0 hK hW 0 46 LY_X9_0 rfl fg_X9_111 rfl dX9_hear_41 ?_
      refine lv_aload_n C0.1 C0.2.1 dX9_hear_44 rfl (lv_at hl 0 rfl) ?_
      refine s_get (v := .ref (ad 32)) C0 hK hW 0 44 LY_X9_0 rfl fg_X9_105 rfl dX9_hear_45 ?_
      refine lv_iconst (v := 0) C0.1 C0.2.1 dX9_hear_48 kI_0 ?_
      refine s_iald (v := ((A 32) 0)) C0 hK hW 32 LY_X9_32 rfl (congrArg _ tc_0) dX9_hear_49 ?_
      refine lv_iload_n C0.1 C0.2.1 dX9_hear_50 rfl (lv_at hl 2 rfl) ?_
      obtain ⟨hb5, hf⟩ := g_some hf
      refine s_zast (f := (upd (A 34) (Int32.toNatClampNeg ((A 32) 0)) (vp_nar .boolean v2))) C0 hK hW 34 LY_X9_34 hb5 rfl rfl dX9_hear_51 (fun H locs hW => ?_)
      have hW : wd D (dn cy LY_X9 ad P V (gp I [(0, 0, 0)]) (gp J []) (gm A [(32, (A 32)), (33, (upd (A 33) (Int32.toNatClampNeg ((A 32) 0)) v1)), (34, (upd (A 34) (Int32.toNatClampNeg ((A 32) 0)) (vp_nar .boolean v2)))]) (gm B [])) Af s.heap H locs := hW
      refine lv_aload_n C0.1 C0.2.1 dX9_hear_52 rfl (lv_at hl 0 rfl) ?_
      refine s_get (v := .ref (ad 32)) C0 hK hW 0 44 LY_X9_0 rfl fg_X9_105 rfl dX9_hear_53 ?_
      refine lv_iconst (v := 0) C0.1 C0.2.1 dX9_hear_56 kI_0 ?_
      refine lv_dup2_11 C0.1 C0.2.1 dX9_hear_57 rfl rfl ?_
      refine s_iald (v := ((A 32) 0)) C0 hK hW 32 LY_X9_32 rfl (congrArg _ tc_0) dX9_hear_58 ?_
      refine lv_iconst (v := 1) C0.1 C0.2.1 dX9_hear_59 kI_1 ?_
      refine lv_iadd C0.1 C0.2.1 dX9_hear_60 ?_
      refine s_iast (f := (upd (A 32) 0 (((A 32) 0) + 1))) C0 hK hW 32 LY_X9_32 rfl rfl (congrArg (fun z => upd _ z _) tc_0) dX9_hear_61 (fun H locs hW => ?_)
      have hW : wd D (dn cy LY_X9 ad P V (gp I [(0, 0, 0)]) (gp J []) (gm A [(32, (upd (A 32) 0 (((A 32) 0) + 1))), (33, (upd (A 33) (Int32.toNatClampNeg ((A 32) 0)) v1)), (34, (upd (A 34) (Int32.toNatClampNeg ((A 32) 0)) (vp_nar .boolean v2)))]) (gm B [])) Af s.heap H locs := hW
      refine lv_iconst (v := 1) C0.1 C0.2.1 dX9_hear_62 kI_1 ?_
      obtain rfl := Option.some.inj hf
      exact r_bool C0 hK hW (v' := 1) rfl dX9_hear_63
    · have hf := ite_t hc3 hf
      refine lv_iconst (v := 0) C0.1 C0.2.1 dX9_hear_26 kI_0 ?_
      obtain rfl := Option.some.inj hf
      exact r_bool C0 hK hW (v' := 0) rfl dX9_hear_27
-- X9_leavesSome
def rmX9_leavesSome : Room := { frames := 2, cells := 0, slots := 0, locals := 42 }
def SX9_leavesSome_5 (p : Program) (l : Launch) (e : Env) (s : State) (m : MethodId) (args : Array Value) (below : List Frame) (meth : Method) (c : Code) (D : va_G) (cy : Nat → ClassId) (ad : Nat → Nat) (P : MP) (V : MV) (I : MI) (J : MJ) (A : MI) (B : MJ) (Af : Nat → Prop) (res : Int32) (k : Int32 → Int32 → Int32 → Option (Int32)) : Prop := ∀ (v2 : Int32) (v3 : Int32) (v4 : Int32) (H : Heap) (locs : List Loc) (ls : Array Slot), wd D (dn cy LY_X9 ad P V (gp I []) (gp J []) (gm A []) (gm B [])) Af s.heap H locs → lv_has ls 5 [(0, .ref (ad 0)), (2, .int v2), (3, .int v3), (4, .int v4)] → k v2 v3 v4 = some res → W p l e rmX9_leavesSome s m args below meth c H locs 0 0 (ZQ below D cy (dn cy LY_X9 ad P V (gp I []) (gp J []) (gm A []) (gm B [])) (some (.int res)) Af args s) (F0 m 5 ls [])
def fX9_leavesSome_5 (m_terrace : (Nat → Int32)) (m_cold : (Nat → Int32)) (m_s : (Nat → Int32)) (k5 : Int32 → Int32 → Int32 → Option (Int32)) (v2 : Int32) (v3 : Int32) (v4 : Int32) : Option (Int32) := if v2 ≤ v4 then (if v3 ≤ 0 then (some (0)) else (some (1))) else (Option.bind (fX9_coldOf m_terrace m_cold ((m_s 0) + v4)) fun y3 => (k5 v2 (v3 - (2 * y3)) (v4 + 1)))
set_option maxHeartbeats 4000000 in
set_option maxRecDepth 100000 in
theorem tX9_leavesSome_5 {p : Program} {l : Launch} {e : Env} {s : State} {m : MethodId} {args : Array Value} {below : List Frame} {meth : Method} {c : Code} {D : va_G} {cy : Nat → ClassId} {ad : Nat → Nat} {P : MP} {V : MV} {I : MI} {J : MJ} {A : MI} {B : MJ} {Af : Nat → Prop} {res : Int32} (C0 : CX p s m args meth c cX9_leavesSome 5 (some .boolean) RX9) (hK : va_K D vwCl (tyG cy) s) (hN : NWs s) (hA : ∀ q, s.heap.size ≤ q → Af q) {k5 : Int32 → Int32 → Int32 → Option (Int32)} (hk5 : SX9_leavesSome_5 p l e s m args below meth c D cy ad P V I J A B Af res k5) : SX9_leavesSome_5 p l e s m args below meth c D cy ad P V I J A B Af res (fX9_leavesSome_5 (A 2) (A 12) (A 35) k5) := by
  intro v2 v3 v4 H locs ls hW hl hf
  unfold fX9_leavesSome_5 at hf
  refine lv_iload C0.1 C0.2.1 dX9_leavesSome_5 (lv_at hl 3 rfl) ?_
  refine lv_iload_n C0.1 C0.2.1 dX9_leavesSome_7 rfl (lv_at hl 1 rfl) ?_
  refine lv_icmp_ge (tgt := 35) C0.1 C0.2.1 dX9_leavesSome_8 (by decide) (fun hc1 => ?_) (fun hc1 => ?_)
  · have hf := ite_t hc1 hf
    refine lv_iload_n C0.1 C0.2.1 dX9_leavesSome_35 rfl (lv_at hl 2 rfl) ?_
    refine lv_if_le (tgt := 43) C0.1 C0.2.1 dX9_leavesSome_36 (by decide) (fun hc2 => ?_) (fun hc2 => ?_)
    · have hf := ite_t hc2 hf
      refine lv_iconst (v := 0) C0.1 C0.2.1 dX9_leavesSome_43 kI_0 ?_
      obtain rfl := Option.some.inj hf
      exact r_bool C0 hK hW (v' := 0) rfl dX9_leavesSome_44
    · have hf := ite_f hc2 hf
      refine lv_iconst (v := 1) C0.1 C0.2.1 dX9_leavesSome_39 kI_1 ?_
      refine lv_goto (tgt := 44) C0.1 C0.2.1 dX9_leavesSome_40 (by decide) ?_
      obtain rfl := Option.some.inj hf
      exact r_bool C0 hK hW (v' := 1) rfl dX9_leavesSome_44
  · have hf := ite_f hc1 hf
    refine lv_iload_n C0.1 C0.2.1 dX9_leavesSome_11 rfl (lv_at hl 2 rfl) ?_
    refine lv_iconst (v := 2) C0.1 C0.2.1 dX9_leavesSome_12 kI_2 ?_
    refine lv_aload_n C0.1 C0.2.1 dX9_leavesSome_13 rfl (lv_at hl 0 rfl) ?_
    refine lv_aload_n C0.1 C0.2.1 dX9_leavesSome_14 rfl (lv_at hl 0 rfl) ?_
    refine s_get (v := .ref (ad 35)) C0 hK hW 0 47 LY_X9_0 rfl fg_X9_114 rfl dX9_leavesSome_15 ?_
    refine lv_iconst (v := 0) C0.1 C0.2.1 dX9_leavesSome_18 kI_0 ?_
    refine s_iald (v := ((A 35) 0)) C0 hK hW 35 LY_X9_35 rfl (congrArg _ tc_0) dX9_leavesSome_19 ?_
    refine lv_iload C0.1 C0.2.1 dX9_leavesSome_20 (lv_at hl 3 rfl) ?_
    refine lv_iadd C0.1 C0.2.1 dX9_leavesSome_22 ?_
    obtain ⟨y3, hy3, hf⟩ := b_some hf
    refine c_Vi C0 hK hN hl.1 hW hA (KX9_coldOf l D cy  ad P V (gp I []) (gp J []) (gm A []) (gm B []) (((A 35) 0) + v4) hy3) (JN_id rfl rfl rfl rfl) (Uw_V uw_1527 uw_1529 us_85 uw_14 uw_1530) rfl rfl hd_X9_coldOf ⟨rfl, rfl⟩ rfl (dn_some LY_X9_0) rfl rfl rfl dX9_leavesSome_23 ⟨Nat.zero_le _, Nat.zero_le _⟩ (fun H locs hW => ?_)
    have hW : wd D (dn cy LY_X9 ad P V (gp I []) (gp J []) (gm A []) (gm B [])) Af s.heap H locs := hW
    refine lv_imul C0.1 C0.2.1 dX9_leavesSome_26 ?_
    refine lv_isub C0.1 C0.2.1 dX9_leavesSome_27 ?_
    refine lv_istore_n (lv' := [(3, .int (v3 - (2 * y3))), (0, .ref (ad 0)), (2, .int v2), (4, .int v4)]) C0.1 C0.2.1 dX9_leavesSome_28 rfl hl (by decide) rfl (fun ls hl => ?_)
    refine lv_iinc (v := (v4 + 1)) (lv' := [(4, .int (v4 + 1)), (3, .int (v3 - (2 * y3))), (0, .ref (ad 0)), (2, .int v2)]) C0.1 C0.2.1 dX9_leavesSome_29 hl (k := 3) rfl (congrArg (fun z => _ + z) kI_1) (by decide) rfl (fun ls hl => ?_)
    refine lv_goto (tgt := 5) C0.1 C0.2.1 dX9_leavesSome_32 (by decide) ?_
    exact hk5 v2 (v3 - (2 * y3)) (v4 + 1) H locs ls hW (lv_sub hl [2, 3, 1, 0] rfl) hf
theorem TX9_leavesSome_5 {p : Program} {l : Launch} {e : Env} {s : State} {m : MethodId} {args : Array Value} {below : List Frame} {meth : Method} {c : Code} {D : va_G} {cy : Nat → ClassId} {ad : Nat → Nat} {P : MP} {V : MV} {I : MI} {J : MJ} {A : MI} {B : MJ} {Af : Nat → Prop} {res : Int32} (C0 : CX p s m args meth c cX9_leavesSome 5 (some .boolean) RX9) (hK : va_K D vwCl (tyG cy) s) (hN : NWs s) (hA : ∀ q, s.heap.size ≤ q → Af q) : ∀ n, SX9_leavesSome_5 p l e s m args below meth c D cy ad P V I J A B Af res (itr (fun kk => fX9_leavesSome_5 (A 2) (A 12) (A 35) kk) (fun _ _ _ => none) n) := by
  intro n
  induction n with
  | zero => intro v2 v3 v4 H locs ls hW hl hf; exact (nomatch (show (none : Option (Int32)) = some res from hf))
  | succ n ih => exact tX9_leavesSome_5 C0 hK hN hA  ih
def fX9_leavesSome (m_terrace : (Nat → Int32)) (m_cold : (Nat → Int32)) (m_s : (Nat → Int32)) (v1 : Int32) (v2 : Int32) : Option (Int32) := itr (fun kk => fX9_leavesSome_5 m_terrace m_cold m_s kk) (fun _ _ _ => none) FU v2 v1 0
set_option maxHeartbeats 4000000 in
set_option maxRecDepth 100000 in
theorem KX9_leavesSome (l : Launch) (D : va_G) (cy : Nat → ClassId) (ad : Nat → Nat) (P : MP) (V : MV) (I : MI) (J : MJ) (A : MI) (B : MJ) (v1 : Int32) (v2 : Int32) {res : Int32} (hf : fX9_leavesSome (A 2) (A 12) (A 35) v1 v2 = some res) : CG l yX9_leavesSome cX9_leavesSome 5 (some .boolean) rmX9_leavesSome D cy (dn cy LY_X9 ad P V I J A B) [.ref (ad 0), .int v1, .int v2] (some (.int res)) (dn cy LY_X9 ad P V (gp I []) (gp J []) (gm A []) (gm B [])) := by
  refine CG.of (own := RX9) (by decide) rfl rfl ?_
  intro p e s m below meth c ls Af C0 hK hN hA hW hl
  have hW : wd D (dn cy LY_X9 ad P V (gp I []) (gp J []) (gm A []) (gm B [])) Af s.heap s.heap [] := wd_sel [] [] [] [] hW
  have hl : lv_has ls 5 [(0, .ref (ad 0)), (1, .int v1), (2, .int v2)] := hl
  unfold fX9_leavesSome at hf
  refine lv_iload_n C0.1 C0.2.1 dX9_leavesSome_0 rfl (lv_at hl 1 rfl) ?_
  refine lv_istore_n (lv' := [(3, .int v1), (0, .ref (ad 0)), (1, .int v1), (2, .int v2)]) C0.1 C0.2.1 dX9_leavesSome_1 rfl hl (by decide) rfl (fun ls hl => ?_)
  refine lv_iconst (v := 0) C0.1 C0.2.1 dX9_leavesSome_2 kI_0 ?_
  refine lv_istore (lv' := [(4, .int 0), (3, .int v1), (0, .ref (ad 0)), (1, .int v1), (2, .int v2)]) C0.1 C0.2.1 dX9_leavesSome_3 hl (by decide) rfl (fun ls hl => ?_)
  exact TX9_leavesSome_5 C0 hK hN hA  FU v2 v1 0 _ _ ls hW (lv_sub hl [2, 4, 1, 0] rfl) hf
-- X9_isAsHeard
def rmX9_isAsHeard : Room := { frames := 3, cells := 0, slots := 0, locals := 66 }
def SX9_isAsHeard_2 (p : Program) (l : Launch) (e : Env) (s : State) (m : MethodId) (args : Array Value) (below : List Frame) (meth : Method) (c : Code) (D : va_G) (cy : Nat → ClassId) (ad : Nat → Nat) (P : MP) (V : MV) (I : MI) (J : MJ) (A : MI) (B : MJ) (Af : Nat → Prop) (res : Int32) (k : Int32 → Int32 → Option (Int32)) : Prop := ∀ (v1 : Int32) (v2 : Int32) (H : Heap) (locs : List Loc) (ls : Array Slot), wd D (dn cy LY_X9 ad P V (gp I []) (gp J []) (gm A []) (gm B [])) Af s.heap H locs → lv_has ls 3 [(0, .ref (ad 0)), (1, .int v1), (2, .int v2)] → k v1 v2 = some res → W p l e rmX9_isAsHeard s m args below meth c H locs 0 0 (ZQ below D cy (dn cy LY_X9 ad P V (gp I []) (gp J []) (gm A []) (gm B [])) (some (.int res)) Af args s) (F0 m 2 ls [])
def fX9_isAsHeard_2 (m_terrace : (Nat → Int32)) (m_cold : (Nat → Int32)) (m_heards : (Nat → Int32)) (m_heardDays : (Nat → Int32)) (m_heardSome : (Nat → Int32)) (m_s : (Nat → Int32)) (k2 : Int32 → Int32 → Option (Int32)) (v1 : Int32) (v2 : Int32) : Option (Int32) := if (m_heards 0) ≤ v2 then (some (1)) else (bif inb v2 40 then (Option.bind (fX9_leavesSome m_terrace m_cold m_s v1 (m_heardDays (Int32.toNatClampNeg v2))) fun y3 => (bif inb v2 40 then (if y3 = (m_heardSome (Int32.toNatClampNeg v2)) then (k2 v1 (v2 + 1)) else (some (0))) else none)) else none)
set_option maxHeartbeats 4000000 in
set_option maxRecDepth 100000 in
theorem tX9_isAsHeard_2 {p : Program} {l : Launch} {e : Env} {s : State} {m : MethodId} {args : Array Value} {below : List Frame} {meth : Method} {c : Code} {D : va_G} {cy : Nat → ClassId} {ad : Nat → Nat} {P : MP} {V : MV} {I : MI} {J : MJ} {A : MI} {B : MJ} {Af : Nat → Prop} {res : Int32} (C0 : CX p s m args meth c cX9_isAsHeard 3 (some .boolean) RX9) (hK : va_K D vwCl (tyG cy) s) (hN : NWs s) (hA : ∀ q, s.heap.size ≤ q → Af q) {k2 : Int32 → Int32 → Option (Int32)} (hk2 : SX9_isAsHeard_2 p l e s m args below meth c D cy ad P V I J A B Af res k2) : SX9_isAsHeard_2 p l e s m args below meth c D cy ad P V I J A B Af res (fX9_isAsHeard_2 (A 2) (A 12) (A 32) (A 33) (A 34) (A 35) k2) := by
  intro v1 v2 H locs ls hW hl hf
  unfold fX9_isAsHeard_2 at hf
  refine lv_iload_n C0.1 C0.2.1 dX9_isAsHeard_2 rfl (lv_at hl 2 rfl) ?_
  refine lv_aload_n C0.1 C0.2.1 dX9_isAsHeard_3 rfl (lv_at hl 0 rfl) ?_
  refine s_get (v := .ref (ad 32)) C0 hK hW 0 44 LY_X9_0 rfl fg_X9_105 rfl dX9_isAsHeard_4 ?_
  refine lv_iconst (v := 0) C0.1 C0.2.1 dX9_isAsHeard_7 kI_0 ?_
  refine s_iald (v := ((A 32) 0)) C0 hK hW 32 LY_X9_32 rfl (congrArg _ tc_0) dX9_isAsHeard_8 ?_
  refine lv_icmp_ge (tgt := 40) C0.1 C0.2.1 dX9_isAsHeard_9 (by decide) (fun hc1 => ?_) (fun hc1 => ?_)
  · have hf := ite_t hc1 hf
    refine lv_iconst (v := 1) C0.1 C0.2.1 dX9_isAsHeard_40 kI_1 ?_
    obtain rfl := Option.some.inj hf
    exact r_bool C0 hK hW (v' := 1) rfl dX9_isAsHeard_41
  · have hf := ite_f hc1 hf
    refine lv_aload_n C0.1 C0.2.1 dX9_isAsHeard_12 rfl (lv_at hl 0 rfl) ?_
    refine lv_iload_n C0.1 C0.2.1 dX9_isAsHeard_13 rfl (lv_at hl 1 rfl) ?_
    refine lv_aload_n C0.1 C0.2.1 dX9_isAsHeard_14 rfl (lv_at hl 0 rfl) ?_
    refine s_get (v := .ref (ad 33)) C0 hK hW 0 45 LY_X9_0 rfl fg_X9_108 rfl dX9_isAsHeard_15 ?_
    refine lv_iload_n C0.1 C0.2.1 dX9_isAsHeard_18 rfl (lv_at hl 2 rfl) ?_
    obtain ⟨hb2, hf⟩ := g_some hf
    refine s_iald (v := ((A 33) (Int32.toNatClampNeg v2))) C0 hK hW 33 LY_X9_33 hb2 rfl dX9_isAsHeard_19 ?_
    obtain ⟨y3, hy3, hf⟩ := b_some hf
    refine c_Vi C0 hK hN hl.1 hW hA (KX9_leavesSome l D cy  ad P V (gp I []) (gp J []) (gm A []) (gm B []) v1 ((A 33) (Int32.toNatClampNeg v2)) hy3) (JN_id rfl rfl rfl rfl) (Uw_V uw_1612 uw_1614 us_93 uw_14 uw_1615) rfl rfl hd_X9_leavesSome ⟨rfl, rfl⟩ rfl (dn_some LY_X9_0) rfl rfl rfl dX9_isAsHeard_20 ⟨Nat.zero_le _, Nat.zero_le _⟩ (fun H locs hW => ?_)
    have hW : wd D (dn cy LY_X9 ad P V (gp I []) (gp J []) (gm A []) (gm B [])) Af s.heap H locs := hW
    refine lv_aload_n C0.1 C0.2.1 dX9_isAsHeard_23 rfl (lv_at hl 0 rfl) ?_
    refine s_get (v := .ref (ad 34)) C0 hK hW 0 46 LY_X9_0 rfl fg_X9_111 rfl dX9_isAsHeard_24 ?_
    refine lv_iload_n C0.1 C0.2.1 dX9_isAsHeard_27 rfl (lv_at hl 2 rfl) ?_
    obtain ⟨hb4, hf⟩ := g_some hf
    refine s_zald (v := ((A 34) (Int32.toNatClampNeg v2))) C0 hK hW 34 LY_X9_34 hb4 rfl dX9_isAsHeard_28 ?_
    refine lv_icmp_eq (tgt := 34) C0.1 C0.2.1 dX9_isAsHeard_29 (by decide) (fun hc5 => ?_) (fun hc5 => ?_)
    · have hf := ite_t hc5 hf
      refine lv_iinc (v := (v2 + 1)) (lv' := [(2, .int (v2 + 1)), (0, .ref (ad 0)), (1, .int v1)]) C0.1 C0.2.1 dX9_isAsHeard_34 hl (k := 2) rfl (congrArg (fun z => _ + z) kI_1) (by decide) rfl (fun ls hl => ?_)
      refine lv_goto (tgt := 2) C0.1 C0.2.1 dX9_isAsHeard_37 (by decide) ?_
      exact hk2 v1 (v2 + 1) H locs ls hW (lv_sub hl [1, 2, 0] rfl) hf
    · have hf := ite_f hc5 hf
      refine lv_iconst (v := 0) C0.1 C0.2.1 dX9_isAsHeard_32 kI_0 ?_
      obtain rfl := Option.some.inj hf
      exact r_bool C0 hK hW (v' := 0) rfl dX9_isAsHeard_33
theorem TX9_isAsHeard_2 {p : Program} {l : Launch} {e : Env} {s : State} {m : MethodId} {args : Array Value} {below : List Frame} {meth : Method} {c : Code} {D : va_G} {cy : Nat → ClassId} {ad : Nat → Nat} {P : MP} {V : MV} {I : MI} {J : MJ} {A : MI} {B : MJ} {Af : Nat → Prop} {res : Int32} (C0 : CX p s m args meth c cX9_isAsHeard 3 (some .boolean) RX9) (hK : va_K D vwCl (tyG cy) s) (hN : NWs s) (hA : ∀ q, s.heap.size ≤ q → Af q) : ∀ n, SX9_isAsHeard_2 p l e s m args below meth c D cy ad P V I J A B Af res (itr (fun kk => fX9_isAsHeard_2 (A 2) (A 12) (A 32) (A 33) (A 34) (A 35) kk) (fun _ _ => none) n) := by
  intro n
  induction n with
  | zero => intro v1 v2 H locs ls hW hl hf; exact (nomatch (show (none : Option (Int32)) = some res from hf))
  | succ n ih => exact tX9_isAsHeard_2 C0 hK hN hA  ih
def fX9_isAsHeard (m_terrace : (Nat → Int32)) (m_cold : (Nat → Int32)) (m_heards : (Nat → Int32)) (m_heardDays : (Nat → Int32)) (m_heardSome : (Nat → Int32)) (m_s : (Nat → Int32)) (v1 : Int32) : Option (Int32) := itr (fun kk => fX9_isAsHeard_2 m_terrace m_cold m_heards m_heardDays m_heardSome m_s kk) (fun _ _ => none) FU v1 0
set_option maxHeartbeats 4000000 in
set_option maxRecDepth 100000 in
theorem KX9_isAsHeard (l : Launch) (D : va_G) (cy : Nat → ClassId) (ad : Nat → Nat) (P : MP) (V : MV) (I : MI) (J : MJ) (A : MI) (B : MJ) (v1 : Int32) {res : Int32} (hf : fX9_isAsHeard (A 2) (A 12) (A 32) (A 33) (A 34) (A 35) v1 = some res) : CG l yX9_isAsHeard cX9_isAsHeard 3 (some .boolean) rmX9_isAsHeard D cy (dn cy LY_X9 ad P V I J A B) [.ref (ad 0), .int v1] (some (.int res)) (dn cy LY_X9 ad P V (gp I []) (gp J []) (gm A []) (gm B [])) := by
  refine CG.of (own := RX9) (by decide) rfl rfl ?_
  intro p e s m below meth c ls Af C0 hK hN hA hW hl
  have hW : wd D (dn cy LY_X9 ad P V (gp I []) (gp J []) (gm A []) (gm B [])) Af s.heap s.heap [] := wd_sel [] [] [] [] hW
  have hl : lv_has ls 3 [(0, .ref (ad 0)), (1, .int v1)] := hl
  unfold fX9_isAsHeard at hf
  refine lv_iconst (v := 0) C0.1 C0.2.1 dX9_isAsHeard_0 kI_0 ?_
  refine lv_istore_n (lv' := [(2, .int 0), (0, .ref (ad 0)), (1, .int v1)]) C0.1 C0.2.1 dX9_isAsHeard_1 rfl hl (by decide) rfl (fun ls hl => ?_)
  exact TX9_isAsHeard_2 C0 hK hN hA  FU v1 0 _ _ ls hW (lv_sub hl [1, 2, 0] rfl) hf
-- X9_coals
def rmX9_coals : Room := { frames := 4, cells := 0, slots := 0, locals := 88 }
def SX9_coals_26 (p : Program) (l : Launch) (e : Env) (s : State) (m : MethodId) (args : Array Value) (below : List Frame) (meth : Method) (c : Code) (D : va_G) (cy : Nat → ClassId) (ad : Nat → Nat) (P : MP) (V : MV) (I : MI) (J : MJ) (A : MI) (B : MJ) (Af : Nat → Prop) (res : Int32 × Int32) (k : Int32 → Int32 → Int32 → Int32 → Int32 → Int32 → Option (Int32 × Int32)) : Prop := ∀ (m_thrown : Int32) (v1 : Int32) (v2 : Int32) (v3 : Int32) (v4 : Int32) (v5 : Int32) (H : Heap) (locs : List Loc) (ls : Array Slot), wd D (dn cy LY_X9 ad P V (gp I [(0, 0, m_thrown)]) (gp J []) (gm A []) (gm B [])) Af s.heap H locs → lv_has ls 6 [(0, .ref (ad 0)), (1, .int v1), (2, .int v2), (3, .int v3), (4, .int v4), (5, .int v5)] → k m_thrown v1 v2 v3 v4 v5 = some res → W p l e rmX9_coals s m args below meth c H locs 0 0 (ZQ below D cy (dn cy LY_X9 ad P V (gp I [(0, 0, res.2)]) (gp J []) (gm A []) (gm B [])) (some (.int res.1)) Af args s) (F0 m 26 ls [])
def fX9_coals_26 (m_terrace : (Nat → Int32)) (m_cold : (Nat → Int32)) (m_heards : (Nat → Int32)) (m_heardDays : (Nat → Int32)) (m_heardSome : (Nat → Int32)) (m_s : (Nat → Int32)) (k26 : Int32 → Int32 → Int32 → Int32 → Int32 → Int32 → Option (Int32 × Int32)) (m_thrown : Int32) (v1 : Int32) (v2 : Int32) (v3 : Int32) (v4 : Int32) (v5 : Int32) : Option (Int32 × Int32) := if 61 ≤ v5 then (if v1 = 0 then (some (v2, m_thrown)) else (if v1 = 1 then (some (v3, m_thrown)) else (some (v4, m_thrown)))) else (Option.bind (fX9_isAsHeard m_terrace m_cold m_heards m_heardDays m_heardSome m_s v5) fun y4 => (if y4 = 0 then (k26 m_thrown v1 v2 v3 v4 (v5 + 1)) else (if 0 ≤ v3 then (k26 m_thrown v1 (v2 + 1) v3 v5 (v5 + 1)) else (k26 m_thrown v1 (v2 + 1) v5 v5 (v5 + 1)))))
set_option maxHeartbeats 4000000 in
set_option maxRecDepth 100000 in
theorem tX9_coals_26 {p : Program} {l : Launch} {e : Env} {s : State} {m : MethodId} {args : Array Value} {below : List Frame} {meth : Method} {c : Code} {D : va_G} {cy : Nat → ClassId} {ad : Nat → Nat} {P : MP} {V : MV} {I : MI} {J : MJ} {A : MI} {B : MJ} {Af : Nat → Prop} {res : Int32 × Int32} (C0 : CX p s m args meth c cX9_coals 6 (some .int) RX9) (hK : va_K D vwCl (tyG cy) s) (hN : NWs s) (hA : ∀ q, s.heap.size ≤ q → Af q) {k26 : Int32 → Int32 → Int32 → Int32 → Int32 → Int32 → Option (Int32 × Int32)} (hk26 : SX9_coals_26 p l e s m args below meth c D cy ad P V I J A B Af res k26) : SX9_coals_26 p l e s m args below meth c D cy ad P V I J A B Af res (fX9_coals_26 (A 2) (A 12) (A 32) (A 33) (A 34) (A 35) k26) := by
  intro m_thrown v1 v2 v3 v4 v5 H locs ls hW hl hf
  unfold fX9_coals_26 at hf
  refine lv_iload C0.1 C0.2.1 dX9_coals_26 (lv_at hl 5 rfl) ?_
  refine lv_bipush (v := 61) C0.1 C0.2.1 dX9_coals_28 kB_61 ?_
  refine lv_icmp_ge (tgt := 65) C0.1 C0.2.1 dX9_coals_30 (by decide) (fun hc1 => ?_) (fun hc1 => ?_)
  · have hf := ite_t hc1 hf
    refine lv_iload_n C0.1 C0.2.1 dX9_coals_65 rfl (lv_at hl 1 rfl) ?_
    refine lv_if_ne (tgt := 73) C0.1 C0.2.1 dX9_coals_66 (by decide) (fun hc2 => ?_) (fun hc2 => ?_)
    · have hf := ite_f hc2 hf
      refine lv_iload_n C0.1 C0.2.1 dX9_coals_73 rfl (lv_at hl 1 rfl) ?_
      refine lv_iconst (v := 1) C0.1 C0.2.1 dX9_coals_74 kI_1 ?_
      refine lv_icmp_ne (tgt := 82) C0.1 C0.2.1 dX9_coals_75 (by decide) (fun hc3 => ?_) (fun hc3 => ?_)
      · have hf := ite_f hc3 hf
        refine lv_iload C0.1 C0.2.1 dX9_coals_82 (lv_at hl 4 rfl) ?_
        obtain rfl := Option.some.inj hf
        exact r_int C0 hK hW dX9_coals_84
      · have hf := ite_t hc3 hf
        refine lv_iload_n C0.1 C0.2.1 dX9_coals_78 rfl (lv_at hl 3 rfl) ?_
        refine lv_goto (tgt := 84) C0.1 C0.2.1 dX9_coals_79 (by decide) ?_
        obtain rfl := Option.some.inj hf
        exact r_int C0 hK hW dX9_coals_84
    · have hf := ite_t hc2 hf
      refine lv_iload_n C0.1 C0.2.1 dX9_coals_69 rfl (lv_at hl 2 rfl) ?_
      refine lv_goto (tgt := 84) C0.1 C0.2.1 dX9_coals_70 (by decide) ?_
      obtain rfl := Option.some.inj hf
      exact r_int C0 hK hW dX9_coals_84
  · have hf := ite_f hc1 hf
    refine lv_aload_n C0.1 C0.2.1 dX9_coals_33 rfl (lv_at hl 0 rfl) ?_
    refine lv_iload C0.1 C0.2.1 dX9_coals_34 (lv_at hl 5 rfl) ?_
    obtain ⟨y4, hy4, hf⟩ := b_some hf
    refine c_Vi C0 hK hN hl.1 hW hA (KX9_isAsHeard l D cy  ad P V (gp I [(0, 0, m_thrown)]) (gp J []) (gm A []) (gm B []) v5 hy4) (JN_id rfl rfl rfl rfl) (Uw_V uw_1608 uw_1610 us_92 uw_14 uw_1611) rfl rfl hd_X9_isAsHeard ⟨rfl, rfl⟩ rfl (dn_some LY_X9_0) rfl rfl rfl dX9_coals_36 ⟨Nat.zero_le _, Nat.zero_le _⟩ (fun H locs hW => ?_)
    have hW : wd D (dn cy LY_X9 ad P V (gp I [(0, 0, m_thrown)]) (gp J []) (gm A []) (gm B [])) Af s.heap H locs := hW
    refine lv_if_ne (tgt := 45) C0.1 C0.2.1 dX9_coals_39 (by decide) (fun hc5 => ?_) (fun hc5 => ?_)
    · have hf := ite_f hc5 hf
      refine lv_iinc (v := (v2 + 1)) (lv' := [(2, .int (v2 + 1)), (0, .ref (ad 0)), (1, .int v1), (3, .int v3), (4, .int v4), (5, .int v5)]) C0.1 C0.2.1 dX9_coals_45 hl (k := 2) rfl (congrArg (fun z => _ + z) kI_1) (by decide) rfl (fun ls hl => ?_)
      refine lv_iload_n C0.1 C0.2.1 dX9_coals_48 rfl (lv_at hl 3 rfl) ?_
      refine lv_if_ge (tgt := 55) C0.1 C0.2.1 dX9_coals_49 (by decide) (fun hc6 => ?_) (fun hc6 => ?_)
      · have hf := ite_t hc6 hf
        refine lv_iload C0.1 C0.2.1 dX9_coals_55 (lv_at hl 5 rfl) ?_
        refine lv_istore (lv' := [(4, .int v5), (2, .int (v2 + 1)), (0, .ref (ad 0)), (1, .int v1), (3, .int v3), (5, .int v5)]) C0.1 C0.2.1 dX9_coals_57 hl (by decide) rfl (fun ls hl => ?_)
        refine lv_iinc (v := (v5 + 1)) (lv' := [(5, .int (v5 + 1)), (4, .int v5), (2, .int (v2 + 1)), (0, .ref (ad 0)), (1, .int v1), (3, .int v3)]) C0.1 C0.2.1 dX9_coals_59 hl (k := 5) rfl (congrArg (fun z => _ + z) kI_1) (by decide) rfl (fun ls hl => ?_)
        refine lv_goto (tgt := 26) C0.1 C0.2.1 dX9_coals_62 (by decide) ?_
        exact hk26 m_thrown v1 (v2 + 1) v3 v5 (v5 + 1) H locs ls hW (lv_sub hl [3, 4, 2, 5, 1, 0] rfl) hf
      · have hf := ite_f hc6 hf
        refine lv_iload C0.1 C0.2.1 dX9_coals_52 (lv_at hl 5 rfl) ?_
        refine lv_istore_n (lv' := [(3, .int v5), (2, .int (v2 + 1)), (0, .ref (ad 0)), (1, .int v1), (4, .int v4), (5, .int v5)]) C0.1 C0.2.1 dX9_coals_54 rfl hl (by decide) rfl (fun ls hl => ?_)
        refine lv_iload C0.1 C0.2.1 dX9_coals_55 (lv_at hl 5 rfl) ?_
        refine lv_istore (lv' := [(4, .int v5), (3, .int v5), (2, .int (v2 + 1)), (0, .ref (ad 0)), (1, .int v1), (5, .int v5)]) C0.1 C0.2.1 dX9_coals_57 hl (by decide) rfl (fun ls hl => ?_)
        refine lv_iinc (v := (v5 + 1)) (lv' := [(5, .int (v5 + 1)), (4, .int v5), (3, .int v5), (2, .int (v2 + 1)), (0, .ref (ad 0)), (1, .int v1)]) C0.1 C0.2.1 dX9_coals_59 hl (k := 5) rfl (congrArg (fun z => _ + z) kI_1) (by decide) rfl (fun ls hl => ?_)
        refine lv_goto (tgt := 26) C0.1 C0.2.1 dX9_coals_62 (by decide) ?_
        exact hk26 m_thrown v1 (v2 + 1) v5 v5 (v5 + 1) H locs ls hW (lv_sub hl [4, 5, 3, 2, 1, 0] rfl) hf
    · have hf := ite_t hc5 hf
      refine lv_goto (tgt := 59) C0.1 C0.2.1 dX9_coals_42 (by decide) ?_
      refine lv_iinc (v := (v5 + 1)) (lv' := [(5, .int (v5 + 1)), (0, .ref (ad 0)), (1, .int v1), (2, .int v2), (3, .int v3), (4, .int v4)]) C0.1 C0.2.1 dX9_coals_59 hl (k := 5) rfl (congrArg (fun z => _ + z) kI_1) (by decide) rfl (fun ls hl => ?_)
      refine lv_goto (tgt := 26) C0.1 C0.2.1 dX9_coals_62 (by decide) ?_
      exact hk26 m_thrown v1 v2 v3 v4 (v5 + 1) H locs ls hW (lv_sub hl [1, 2, 3, 4, 5, 0] rfl) hf
theorem TX9_coals_26 {p : Program} {l : Launch} {e : Env} {s : State} {m : MethodId} {args : Array Value} {below : List Frame} {meth : Method} {c : Code} {D : va_G} {cy : Nat → ClassId} {ad : Nat → Nat} {P : MP} {V : MV} {I : MI} {J : MJ} {A : MI} {B : MJ} {Af : Nat → Prop} {res : Int32 × Int32} (C0 : CX p s m args meth c cX9_coals 6 (some .int) RX9) (hK : va_K D vwCl (tyG cy) s) (hN : NWs s) (hA : ∀ q, s.heap.size ≤ q → Af q) : ∀ n, SX9_coals_26 p l e s m args below meth c D cy ad P V I J A B Af res (itr (fun kk => fX9_coals_26 (A 2) (A 12) (A 32) (A 33) (A 34) (A 35) kk) (fun _ _ _ _ _ _ => none) n) := by
  intro n
  induction n with
  | zero => intro m_thrown v1 v2 v3 v4 v5 H locs ls hW hl hf; exact (nomatch (show (none : Option (Int32 × Int32)) = some res from hf))
  | succ n ih => exact tX9_coals_26 C0 hK hN hA  ih
def fX9_coals (m_terrace : (Nat → Int32)) (m_cold : (Nat → Int32)) (m_heards : (Nat → Int32)) (m_heardDays : (Nat → Int32)) (m_heardSome : (Nat → Int32)) (m_s : (Nat → Int32)) (m_thrown : Int32) (v1 : Int32) : Option (Int32 × Int32) := Option.bind (fX9_within v1 0 2) fun y1 => (if y1 = 0 then (some ((-1), 0)) else (itr (fun kk => fX9_coals_26 m_terrace m_cold m_heards m_heardDays m_heardSome m_s kk) (fun _ _ _ _ _ _ => none) FU 0 v1 0 (-1) (-1) 0))
set_option maxHeartbeats 4000000 in
set_option maxRecDepth 100000 in
theorem KX9_coals (l : Launch) (D : va_G) (cy : Nat → ClassId) (ad : Nat → Nat) (P : MP) (V : MV) (I : MI) (J : MJ) (A : MI) (B : MJ) (v1 : Int32) {res : Int32 × Int32} (hf : fX9_coals (A 2) (A 12) (A 32) (A 33) (A 34) (A 35) (I 0 0) v1 = some res) : CG l yX9_coals cX9_coals 6 (some .int) rmX9_coals D cy (dn cy LY_X9 ad P V I J A B) [.ref (ad 0), .int v1] (some (.int res.1)) (dn cy LY_X9 ad P V (gp I [(0, 0, res.2)]) (gp J []) (gm A []) (gm B [])) := by
  refine CG.of (own := RX9) (by decide) rfl rfl ?_
  intro p e s m below meth c ls Af C0 hK hN hA hW hl
  have hW : wd D (dn cy LY_X9 ad P V (gp I [(0, 0, (I 0 0))]) (gp J []) (gm A []) (gm B [])) Af s.heap s.heap [] := wd_sel [(0, 0)] [] [] [] hW
  have hl : lv_has ls 6 [(0, .ref (ad 0)), (1, .int v1)] := hl
  unfold fX9_coals at hf
  refine lv_aload_n C0.1 C0.2.1 dX9_coals_0 rfl (lv_at hl 0 rfl) ?_
  refine lv_iconst (v := 0) C0.1 C0.2.1 dX9_coals_1 kI_0 ?_
  refine s_putI C0 hK hW 0 0 LY_X9_0 rfl fg_X9_142 fp_X9_0 rfl dX9_coals_2 (fun H locs hW => ?_)
  have hW : wd D (dn cy LY_X9 ad P V (gp I [(0, 0, 0)]) (gp J []) (gm A []) (gm B [])) Af s.heap H locs := hW
  refine lv_iload_n C0.1 C0.2.1 dX9_coals_5 rfl (lv_at hl 1 rfl) ?_
  refine lv_iconst (v := 0) C0.1 C0.2.1 dX9_coals_6 kI_0 ?_
  refine lv_iconst (v := 2) C0.1 C0.2.1 dX9_coals_7 kI_2 ?_
  obtain ⟨y1, hy1, hf⟩ := b_some hf
  refine c_Si C0 hK hN hl.1 hW hA (KX9_within l D cy  (fun q => ad (pl_LY_X9_LY_0_.getD q 0)) (fun q => P (pl_LY_X9_LY_0_.getD q 0)) (fun q => Vx LY_X9 ad V (pl_LY_X9_LY_0_.getD q 0)) (fun q => gp I [(0, 0, 0)] (pl_LY_X9_LY_0_.getD q 0)) (fun q => gp J [] (pl_LY_X9_LY_0_.getD q 0)) (fun q => gm A [] (pl_LY_X9_LY_0_.getD q 0)) (fun q => gm B [] (pl_LY_X9_LY_0_.getD q 0)) v1 0 2 hy1) (JN_subC (pl := pl_LY_X9_LY_0_) sb_LY_X9_LY_0_ rfl rfl rfl rfl rfl rfl rfl rfl rfl) ⟨uw_1331, uw_1332, uw_14, uw_1333⟩ rfl rfl hd_X9_within ⟨rfl, rfl⟩ rfl rfl rfl dX9_coals_8 ⟨Nat.zero_le _, Nat.zero_le _⟩ (fun H locs hW => ?_)
  have hW : wd D (dn cy LY_X9 ad P V (gp I [(0, 0, 0)]) (gp J []) (gm A []) (gm B [])) Af s.heap H locs := hW
  refine lv_if_ne (tgt := 16) C0.1 C0.2.1 dX9_coals_11 (by decide) (fun hc2 => ?_) (fun hc2 => ?_)
  · have hf := ite_f hc2 hf
    refine lv_iconst (v := 0) C0.1 C0.2.1 dX9_coals_16 kI_0 ?_
    refine lv_istore_n (lv' := [(2, .int 0), (0, .ref (ad 0)), (1, .int v1)]) C0.1 C0.2.1 dX9_coals_17 rfl hl (by decide) rfl (fun ls hl => ?_)
    refine lv_iconst (v := (-1)) C0.1 C0.2.1 dX9_coals_18 kI_m1 ?_
    refine lv_istore_n (lv' := [(3, .int (-1)), (2, .int 0), (0, .ref (ad 0)), (1, .int v1)]) C0.1 C0.2.1 dX9_coals_19 rfl hl (by decide) rfl (fun ls hl => ?_)
    refine lv_iconst (v := (-1)) C0.1 C0.2.1 dX9_coals_20 kI_m1 ?_
    refine lv_istore (lv' := [(4, .int (-1)), (3, .int (-1)), (2, .int 0), (0, .ref (ad 0)), (1, .int v1)]) C0.1 C0.2.1 dX9_coals_21 hl (by decide) rfl (fun ls hl => ?_)
    refine lv_iconst (v := 0) C0.1 C0.2.1 dX9_coals_23 kI_0 ?_
    refine lv_istore (lv' := [(5, .int 0), (4, .int (-1)), (3, .int (-1)), (2, .int 0), (0, .ref (ad 0)), (1, .int v1)]) C0.1 C0.2.1 dX9_coals_24 hl (by decide) rfl (fun ls hl => ?_)
    exact TX9_coals_26 C0 hK hN hA  FU 0 v1 0 (-1) (-1) 0 _ _ ls hW (lv_sub hl [4, 5, 3, 2, 1, 0] rfl) hf
  · have hf := ite_t hc2 hf
    refine lv_iconst (v := (-1)) C0.1 C0.2.1 dX9_coals_14 kI_m1 ?_
    obtain rfl := Option.some.inj hf
    exact r_int C0 hK hW dX9_coals_15
-- X9_ask
def rmX9_ask : Room := { frames := 5, cells := 0, slots := 0, locals := 113 }
def SX9_ask_31 (p : Program) (l : Launch) (e : Env) (s : State) (m : MethodId) (args : Array Value) (below : List Frame) (meth : Method) (c : Code) (D : va_G) (cy : Nat → ClassId) (ad : Nat → Nat) (P : MP) (V : MV) (I : MI) (J : MJ) (A : MI) (B : MJ) (Af : Nat → Prop) (res : Int32 × Int32) (k : Int32 → Int32 → Int32 → Int32 → Int32 → Int32 → Int32 → Option (Int32 × Int32)) : Prop := ∀ (m_thrown : Int32) (v1 : Int32) (v2 : Int32) (v3 : Int32) (v4 : Int32) (v5 : Int32) (v6 : Int32) (H : Heap) (locs : List Loc) (ls : Array Slot), wd D (dn cy LY_X9 ad P V (gp I [(0, 0, m_thrown)]) (gp J []) (gm A []) (gm B [])) Af s.heap H locs → lv_has ls 7 [(0, .ref (ad 0)), (1, .int v1), (2, .int v2), (3, .int v3), (4, .int v4), (5, .int v5), (6, .int v6)] → k m_thrown v1 v2 v3 v4 v5 v6 = some res → W p l e rmX9_ask s m args below meth c H locs 0 0 (ZQ below D cy (dn cy LY_X9 ad P V (gp I [(0, 0, res.2)]) (gp J []) (gm A []) (gm B [])) (some (.int res.1)) Af args s) (F0 m 31 ls [])
def SX9_ask_18 (p : Program) (l : Launch) (e : Env) (s : State) (m : MethodId) (args : Array Value) (below : List Frame) (meth : Method) (c : Code) (D : va_G) (cy : Nat → ClassId) (ad : Nat → Nat) (P : MP) (V : MV) (I : MI) (J : MJ) (A : MI) (B : MJ) (Af : Nat → Prop) (res : Int32 × Int32) (k : Int32 → Int32 → Int32 → Int32 → Int32 → Option (Int32 × Int32)) : Prop := ∀ (m_thrown : Int32) (v1 : Int32) (v2 : Int32) (v3 : Int32) (v4 : Int32) (H : Heap) (locs : List Loc) (ls : Array Slot), wd D (dn cy LY_X9 ad P V (gp I [(0, 0, m_thrown)]) (gp J []) (gm A []) (gm B [])) Af s.heap H locs → lv_has ls 7 [(0, .ref (ad 0)), (1, .int v1), (2, .int v2), (3, .int v3), (4, .int v4)] → k m_thrown v1 v2 v3 v4 = some res → W p l e rmX9_ask s m args below meth c H locs 0 0 (ZQ below D cy (dn cy LY_X9 ad P V (gp I [(0, 0, res.2)]) (gp J []) (gm A []) (gm B [])) (some (.int res.1)) Af args s) (F0 m 18 ls [])
def fX9_ask_31 (m_terrace : (Nat → Int32)) (m_cold : (Nat → Int32)) (m_heards : (Nat → Int32)) (m_heardDays : (Nat → Int32)) (m_heardSome : (Nat → Int32)) (m_s : (Nat → Int32)) (k18 : Int32 → Int32 → Int32 → Int32 → Int32 → Option (Int32 × Int32)) (k31 : Int32 → Int32 → Int32 → Int32 → Int32 → Int32 → Int32 → Option (Int32 × Int32)) (m_thrown : Int32) (v1 : Int32) (v2 : Int32) (v3 : Int32) (v4 : Int32) (v5 : Int32) (v6 : Int32) : Option (Int32 × Int32) := if 61 ≤ v6 then (if (imax v5 (v1 - v5)) < v2 then (k18 m_thrown v1 (imax v5 (v1 - v5)) v4 (v4 + 1)) else (k18 m_thrown v1 v2 v3 (v4 + 1))) else (Option.bind (fX9_isAsHeard m_terrace m_cold m_heards m_heardDays m_heardSome m_s v6) fun y3 => (if y3 = 0 then (k31 m_thrown v1 v2 v3 v4 (v5 + 0) (v6 + 1)) else (Option.bind (fX9_leavesSome m_terrace m_cold m_s v6 v4) fun y5 => (if y5 = 0 then (k31 m_thrown v1 v2 v3 v4 (v5 + 0) (v6 + 1)) else (k31 m_thrown v1 v2 v3 v4 (v5 + 1) (v6 + 1))))))
set_option maxHeartbeats 4000000 in
set_option maxRecDepth 100000 in
theorem tX9_ask_31 {p : Program} {l : Launch} {e : Env} {s : State} {m : MethodId} {args : Array Value} {below : List Frame} {meth : Method} {c : Code} {D : va_G} {cy : Nat → ClassId} {ad : Nat → Nat} {P : MP} {V : MV} {I : MI} {J : MJ} {A : MI} {B : MJ} {Af : Nat → Prop} {res : Int32 × Int32} (C0 : CX p s m args meth c cX9_ask 7 (some .int) RX9) (hK : va_K D vwCl (tyG cy) s) (hN : NWs s) (hA : ∀ q, s.heap.size ≤ q → Af q) {k18 : Int32 → Int32 → Int32 → Int32 → Int32 → Option (Int32 × Int32)} (hk18 : SX9_ask_18 p l e s m args below meth c D cy ad P V I J A B Af res k18) {k31 : Int32 → Int32 → Int32 → Int32 → Int32 → Int32 → Int32 → Option (Int32 × Int32)} (hk31 : SX9_ask_31 p l e s m args below meth c D cy ad P V I J A B Af res k31) : SX9_ask_31 p l e s m args below meth c D cy ad P V I J A B Af res (fX9_ask_31 (A 2) (A 12) (A 32) (A 33) (A 34) (A 35) k18 k31) := by
  intro m_thrown v1 v2 v3 v4 v5 v6 H locs ls hW hl hf
  unfold fX9_ask_31 at hf
  refine lv_iload C0.1 C0.2.1 dX9_ask_31 (lv_at hl 6 rfl) ?_
  refine lv_bipush (v := 61) C0.1 C0.2.1 dX9_ask_33 kB_61 ?_
  refine lv_icmp_ge (tgt := 74) C0.1 C0.2.1 dX9_ask_35 (by decide) (fun hc1 => ?_) (fun hc1 => ?_)
  · have hf := ite_t hc1 hf
    refine lv_iload C0.1 C0.2.1 dX9_ask_74 (lv_at hl 5 rfl) ?_
    refine lv_iload_n C0.1 C0.2.1 dX9_ask_76 rfl (lv_at hl 1 rfl) ?_
    refine lv_iload C0.1 C0.2.1 dX9_ask_77 (lv_at hl 5 rfl) ?_
    refine lv_isub C0.1 C0.2.1 dX9_ask_79 ?_
    refine s_max C0 hl.1 uw_1531 uw_745 uw_16 uw_746 (Nat.le_of_ble_eq_true rfl) (Nat.le_of_ble_eq_true rfl) (Nat.zero_le _) (Nat.zero_le _) dX9_ask_80 ?_
    refine lv_istore (lv' := [(5, .int (imax v5 (v1 - v5))), (0, .ref (ad 0)), (1, .int v1), (2, .int v2), (3, .int v3), (4, .int v4), (6, .int v6)]) C0.1 C0.2.1 dX9_ask_83 hl (by decide) rfl (fun ls hl => ?_)
    refine lv_iload C0.1 C0.2.1 dX9_ask_85 (lv_at hl 0 rfl) ?_
    refine lv_iload_n C0.1 C0.2.1 dX9_ask_87 rfl (lv_at hl 3 rfl) ?_
    refine lv_icmp_lt (tgt := 94) C0.1 C0.2.1 dX9_ask_88 (by decide) (fun hc2 => ?_) (fun hc2 => ?_)
    · have hf := ite_t hc2 hf
      refine lv_iload C0.1 C0.2.1 dX9_ask_94 (lv_at hl 0 rfl) ?_
      refine lv_istore_n (lv' := [(2, .int (imax v5 (v1 - v5))), (5, .int (imax v5 (v1 - v5))), (0, .ref (ad 0)), (1, .int v1), (3, .int v3), (4, .int v4), (6, .int v6)]) C0.1 C0.2.1 dX9_ask_96 rfl hl (by decide) rfl (fun ls hl => ?_)
      refine lv_iload C0.1 C0.2.1 dX9_ask_97 (lv_at hl 5 rfl) ?_
      refine lv_istore_n (lv' := [(3, .int v4), (2, .int (imax v5 (v1 - v5))), (5, .int (imax v5 (v1 - v5))), (0, .ref (ad 0)), (1, .int v1), (4, .int v4), (6, .int v6)]) C0.1 C0.2.1 dX9_ask_99 rfl hl (by decide) rfl (fun ls hl => ?_)
      refine lv_iinc (v := (v4 + 1)) (lv' := [(4, .int (v4 + 1)), (3, .int v4), (2, .int (imax v5 (v1 - v5))), (5, .int (imax v5 (v1 - v5))), (0, .ref (ad 0)), (1, .int v1), (6, .int v6)]) C0.1 C0.2.1 dX9_ask_100 hl (k := 5) rfl (congrArg (fun z => _ + z) kI_1) (by decide) rfl (fun ls hl => ?_)
      refine lv_goto (tgt := 18) C0.1 C0.2.1 dX9_ask_103 (by decide) ?_
      exact hk18 m_thrown v1 (imax v5 (v1 - v5)) v4 (v4 + 1) H locs ls hW (lv_sub hl [4, 5, 2, 1, 0] rfl) hf
    · have hf := ite_f hc2 hf
      refine lv_goto (tgt := 100) C0.1 C0.2.1 dX9_ask_91 (by decide) ?_
      refine lv_iinc (v := (v4 + 1)) (lv' := [(4, .int (v4 + 1)), (5, .int (imax v5 (v1 - v5))), (0, .ref (ad 0)), (1, .int v1), (2, .int v2), (3, .int v3), (6, .int v6)]) C0.1 C0.2.1 dX9_ask_100 hl (k := 5) rfl (congrArg (fun z => _ + z) kI_1) (by decide) rfl (fun ls hl => ?_)
      refine lv_goto (tgt := 18) C0.1 C0.2.1 dX9_ask_103 (by decide) ?_
      exact hk18 m_thrown v1 v2 v3 (v4 + 1) H locs ls hW (lv_sub hl [2, 3, 4, 5, 0] rfl) hf
  · have hf := ite_f hc1 hf
    refine lv_iload C0.1 C0.2.1 dX9_ask_38 (lv_at hl 5 rfl) ?_
    refine lv_aload_n C0.1 C0.2.1 dX9_ask_40 rfl (lv_at hl 0 rfl) ?_
    refine lv_iload C0.1 C0.2.1 dX9_ask_41 (lv_at hl 6 rfl) ?_
    obtain ⟨y3, hy3, hf⟩ := b_some hf
    refine c_Vi C0 hK hN hl.1 hW hA (KX9_isAsHeard l D cy  ad P V (gp I [(0, 0, m_thrown)]) (gp J []) (gm A []) (gm B []) v6 hy3) (JN_id rfl rfl rfl rfl) (Uw_V uw_1608 uw_1610 us_92 uw_14 uw_1611) rfl rfl hd_X9_isAsHeard ⟨rfl, rfl⟩ rfl (dn_some LY_X9_0) rfl rfl rfl dX9_ask_43 ⟨Nat.zero_le _, Nat.zero_le _⟩ (fun H locs hW => ?_)
    have hW : wd D (dn cy LY_X9 ad P V (gp I [(0, 0, m_thrown)]) (gp J []) (gm A []) (gm B [])) Af s.heap H locs := hW
    refine lv_if_eq (tgt := 64) C0.1 C0.2.1 dX9_ask_46 (by decide) (fun hc4 => ?_) (fun hc4 => ?_)
    · have hf := ite_t hc4 hf
      refine lv_iconst (v := 0) C0.1 C0.2.1 dX9_ask_64 kI_0 ?_
      refine lv_iadd C0.1 C0.2.1 dX9_ask_65 ?_
      refine lv_istore (lv' := [(5, .int (v5 + 0)), (0, .ref (ad 0)), (1, .int v1), (2, .int v2), (3, .int v3), (4, .int v4), (6, .int v6)]) C0.1 C0.2.1 dX9_ask_66 hl (by decide) rfl (fun ls hl => ?_)
      refine lv_iinc (v := (v6 + 1)) (lv' := [(6, .int (v6 + 1)), (5, .int (v5 + 0)), (0, .ref (ad 0)), (1, .int v1), (2, .int v2), (3, .int v3), (4, .int v4)]) C0.1 C0.2.1 dX9_ask_68 hl (k := 6) rfl (congrArg (fun z => _ + z) kI_1) (by decide) rfl (fun ls hl => ?_)
      refine lv_goto (tgt := 31) C0.1 C0.2.1 dX9_ask_71 (by decide) ?_
      exact hk31 m_thrown v1 v2 v3 v4 (v5 + 0) (v6 + 1) H locs ls hW (lv_sub hl [2, 3, 4, 5, 6, 1, 0] rfl) hf
    · have hf := ite_f hc4 hf
      refine lv_aload_n C0.1 C0.2.1 dX9_ask_49 rfl (lv_at hl 0 rfl) ?_
      refine lv_iload C0.1 C0.2.1 dX9_ask_50 (lv_at hl 6 rfl) ?_
      refine lv_iload C0.1 C0.2.1 dX9_ask_52 (lv_at hl 4 rfl) ?_
      obtain ⟨y5, hy5, hf⟩ := b_some hf
      refine c_Vi C0 hK hN hl.1 hW hA (KX9_leavesSome l D cy  ad P V (gp I [(0, 0, m_thrown)]) (gp J []) (gm A []) (gm B []) v6 v4 hy5) (JN_id rfl rfl rfl rfl) (Uw_V uw_1612 uw_1614 us_93 uw_14 uw_1615) rfl rfl hd_X9_leavesSome ⟨rfl, rfl⟩ rfl (dn_some LY_X9_0) rfl rfl rfl dX9_ask_54 ⟨Nat.zero_le _, Nat.zero_le _⟩ (fun H locs hW => ?_)
      have hW : wd D (dn cy LY_X9 ad P V (gp I [(0, 0, m_thrown)]) (gp J []) (gm A []) (gm B [])) Af s.heap H locs := hW
      refine lv_if_eq (tgt := 64) C0.1 C0.2.1 dX9_ask_57 (by decide) (fun hc6 => ?_) (fun hc6 => ?_)
      · have hf := ite_t hc6 hf
        refine lv_iconst (v := 0) C0.1 C0.2.1 dX9_ask_64 kI_0 ?_
        refine lv_iadd C0.1 C0.2.1 dX9_ask_65 ?_
        refine lv_istore (lv' := [(5, .int (v5 + 0)), (0, .ref (ad 0)), (1, .int v1), (2, .int v2), (3, .int v3), (4, .int v4), (6, .int v6)]) C0.1 C0.2.1 dX9_ask_66 hl (by decide) rfl (fun ls hl => ?_)
        refine lv_iinc (v := (v6 + 1)) (lv' := [(6, .int (v6 + 1)), (5, .int (v5 + 0)), (0, .ref (ad 0)), (1, .int v1), (2, .int v2), (3, .int v3), (4, .int v4)]) C0.1 C0.2.1 dX9_ask_68 hl (k := 6) rfl (congrArg (fun z => _ + z) kI_1) (by decide) rfl (fun ls hl => ?_)
        refine lv_goto (tgt := 31) C0.1 C0.2.1 dX9_ask_71 (by decide) ?_
        exact hk31 m_thrown v1 v2 v3 v4 (v5 + 0) (v6 + 1) H locs ls hW (lv_sub hl [2, 3, 4, 5, 6, 1, 0] rfl) hf
      · have hf := ite_f hc6 hf
        refine lv_iconst (v := 1) C0.1 C0.2.1 dX9_ask_60 kI_1 ?_
        refine lv_goto (tgt := 65) C0.1 C0.2.1 dX9_ask_61 (by decide) ?_
        refine lv_iadd C0.1 C0.2.1 dX9_ask_65 ?_
        refine lv_istore (lv' := [(5, .int (v5 + 1)), (0, .ref (ad 0)), (1, .int v1), (2, .int v2), (3, .int v3), (4, .int v4), (6, .int v6)]) C0.1 C0.2.1 dX9_ask_66 hl (by decide) rfl (fun ls hl => ?_)
        refine lv_iinc (v := (v6 + 1)) (lv' := [(6, .int (v6 + 1)), (5, .int (v5 + 1)), (0, .ref (ad 0)), (1, .int v1), (2, .int v2), (3, .int v3), (4, .int v4)]) C0.1 C0.2.1 dX9_ask_68 hl (k := 6) rfl (congrArg (fun z => _ + z) kI_1) (by decide) rfl (fun ls hl => ?_)
        refine lv_goto (tgt := 31) C0.1 C0.2.1 dX9_ask_71 (by decide) ?_
        exact hk31 m_thrown v1 v2 v3 v4 (v5 + 1) (v6 + 1) H locs ls hW (lv_sub hl [2, 3, 4, 5, 6, 1, 0] rfl) hf
theorem TX9_ask_31 {p : Program} {l : Launch} {e : Env} {s : State} {m : MethodId} {args : Array Value} {below : List Frame} {meth : Method} {c : Code} {D : va_G} {cy : Nat → ClassId} {ad : Nat → Nat} {P : MP} {V : MV} {I : MI} {J : MJ} {A : MI} {B : MJ} {Af : Nat → Prop} {res : Int32 × Int32} (C0 : CX p s m args meth c cX9_ask 7 (some .int) RX9) (hK : va_K D vwCl (tyG cy) s) (hN : NWs s) (hA : ∀ q, s.heap.size ≤ q → Af q) {k18 : Int32 → Int32 → Int32 → Int32 → Int32 → Option (Int32 × Int32)} (hk18 : SX9_ask_18 p l e s m args below meth c D cy ad P V I J A B Af res k18) : ∀ n, SX9_ask_31 p l e s m args below meth c D cy ad P V I J A B Af res (itr (fun kk => fX9_ask_31 (A 2) (A 12) (A 32) (A 33) (A 34) (A 35) k18 kk) (fun _ _ _ _ _ _ _ => none) n) := by
  intro n
  induction n with
  | zero => intro m_thrown v1 v2 v3 v4 v5 v6 H locs ls hW hl hf; exact (nomatch (show (none : Option (Int32 × Int32)) = some res from hf))
  | succ n ih => exact tX9_ask_31 C0 hK hN hA hk18 ih
def fX9_ask_18 (m_terrace : (Nat → Int32)) (m_cold : (Nat → Int32)) (m_heards : (Nat → Int32)) (m_heardDays : (Nat → Int32)) (m_heardSome : (Nat → Int32)) (m_s : (Nat → Int32)) (k18 : Int32 → Int32 → Int32 → Int32 → Int32 → Option (Int32 × Int32)) (m_thrown : Int32) (v1 : Int32) (v2 : Int32) (v3 : Int32) (v4 : Int32) : Option (Int32 × Int32) := if 31 ≤ v4 then (some (v3, m_thrown)) else (itr (fun kk => fX9_ask_31 m_terrace m_cold m_heards m_heardDays m_heardSome m_s k18 kk) (fun _ _ _ _ _ _ _ => none) FU m_thrown v1 v2 v3 v4 0 0)
set_option maxHeartbeats 4000000 in
set_option maxRecDepth 100000 in
theorem tX9_ask_18 {p : Program} {l : Launch} {e : Env} {s : State} {m : MethodId} {args : Array Value} {below : List Frame} {meth : Method} {c : Code} {D : va_G} {cy : Nat → ClassId} {ad : Nat → Nat} {P : MP} {V : MV} {I : MI} {J : MJ} {A : MI} {B : MJ} {Af : Nat → Prop} {res : Int32 × Int32} (C0 : CX p s m args meth c cX9_ask 7 (some .int) RX9) (hK : va_K D vwCl (tyG cy) s) (hN : NWs s) (hA : ∀ q, s.heap.size ≤ q → Af q) {k18 : Int32 → Int32 → Int32 → Int32 → Int32 → Option (Int32 × Int32)} (hk18 : SX9_ask_18 p l e s m args below meth c D cy ad P V I J A B Af res k18) : SX9_ask_18 p l e s m args below meth c D cy ad P V I J A B Af res (fX9_ask_18 (A 2) (A 12) (A 32) (A 33) (A 34) (A 35) k18) := by
  intro m_thrown v1 v2 v3 v4 H locs ls hW hl hf
  unfold fX9_ask_18 at hf
  refine lv_iload C0.1 C0.2.1 dX9_ask_18 (lv_at hl 4 rfl) ?_
  refine lv_bipush (v := 31) C0.1 C0.2.1 dX9_ask_20 kB_31 ?_
  refine lv_icmp_ge (tgt := 106) C0.1 C0.2.1 dX9_ask_22 (by decide) (fun hc1 => ?_) (fun hc1 => ?_)
  · have hf := ite_t hc1 hf
    refine lv_iload_n C0.1 C0.2.1 dX9_ask_106 rfl (lv_at hl 3 rfl) ?_
    obtain rfl := Option.some.inj hf
    exact r_int C0 hK hW dX9_ask_107
  · have hf := ite_f hc1 hf
    refine lv_iconst (v := 0) C0.1 C0.2.1 dX9_ask_25 kI_0 ?_
    refine lv_istore (lv' := [(5, .int 0), (0, .ref (ad 0)), (1, .int v1), (2, .int v2), (3, .int v3), (4, .int v4)]) C0.1 C0.2.1 dX9_ask_26 hl (by decide) rfl (fun ls hl => ?_)
    refine lv_iconst (v := 0) C0.1 C0.2.1 dX9_ask_28 kI_0 ?_
    refine lv_istore (lv' := [(6, .int 0), (5, .int 0), (0, .ref (ad 0)), (1, .int v1), (2, .int v2), (3, .int v3), (4, .int v4)]) C0.1 C0.2.1 dX9_ask_29 hl (by decide) rfl (fun ls hl => ?_)
    exact TX9_ask_31 C0 hK hN hA hk18 FU m_thrown v1 v2 v3 v4 0 0 H locs ls hW (lv_sub hl [2, 3, 4, 5, 6, 1, 0] rfl) hf
theorem TX9_ask_18 {p : Program} {l : Launch} {e : Env} {s : State} {m : MethodId} {args : Array Value} {below : List Frame} {meth : Method} {c : Code} {D : va_G} {cy : Nat → ClassId} {ad : Nat → Nat} {P : MP} {V : MV} {I : MI} {J : MJ} {A : MI} {B : MJ} {Af : Nat → Prop} {res : Int32 × Int32} (C0 : CX p s m args meth c cX9_ask 7 (some .int) RX9) (hK : va_K D vwCl (tyG cy) s) (hN : NWs s) (hA : ∀ q, s.heap.size ≤ q → Af q) : ∀ n, SX9_ask_18 p l e s m args below meth c D cy ad P V I J A B Af res (itr (fun kk => fX9_ask_18 (A 2) (A 12) (A 32) (A 33) (A 34) (A 35) kk) (fun _ _ _ _ _ => none) n) := by
  intro n
  induction n with
  | zero => intro m_thrown v1 v2 v3 v4 H locs ls hW hl hf; exact (nomatch (show (none : Option (Int32 × Int32)) = some res from hf))
  | succ n ih => exact tX9_ask_18 C0 hK hN hA  ih
def fX9_ask (m_terrace : (Nat → Int32)) (m_cold : (Nat → Int32)) (m_heards : (Nat → Int32)) (m_heardDays : (Nat → Int32)) (m_heardSome : (Nat → Int32)) (m_s : (Nat → Int32)) (m_thrown : Int32) : Option (Int32 × Int32) := Option.bind (fX9_coals m_terrace m_cold m_heards m_heardDays m_heardSome m_s 0 0) fun y1 => (itr (fun kk => fX9_ask_18 m_terrace m_cold m_heards m_heardDays m_heardSome m_s kk) (fun _ _ _ _ _ => none) FU y1.2 y1.1 y1.1 (-1) 1)
set_option maxHeartbeats 4000000 in
set_option maxRecDepth 100000 in
theorem KX9_ask (l : Launch) (D : va_G) (cy : Nat → ClassId) (ad : Nat → Nat) (P : MP) (V : MV) (I : MI) (J : MJ) (A : MI) (B : MJ) {res : Int32 × Int32} (hf : fX9_ask (A 2) (A 12) (A 32) (A 33) (A 34) (A 35) (I 0 0) = some res) : CG l yX9_ask cX9_ask 7 (some .int) rmX9_ask D cy (dn cy LY_X9 ad P V I J A B) [.ref (ad 0)] (some (.int res.1)) (dn cy LY_X9 ad P V (gp I [(0, 0, res.2)]) (gp J []) (gm A []) (gm B [])) := by
  refine CG.of (own := RX9) (by decide) rfl rfl ?_
  intro p e s m below meth c ls Af C0 hK hN hA hW hl
  have hW : wd D (dn cy LY_X9 ad P V (gp I [(0, 0, (I 0 0))]) (gp J []) (gm A []) (gm B [])) Af s.heap s.heap [] := wd_sel [(0, 0)] [] [] [] hW
  have hl : lv_has ls 7 [(0, .ref (ad 0))] := hl
  unfold fX9_ask at hf
  refine lv_aload_n C0.1 C0.2.1 dX9_ask_0 rfl (lv_at hl 0 rfl) ?_
  refine lv_iconst (v := 0) C0.1 C0.2.1 dX9_ask_1 kI_0 ?_
  refine s_putI C0 hK hW 0 0 LY_X9_0 rfl fg_X9_142 fp_X9_0 rfl dX9_ask_2 (fun H locs hW => ?_)
  have hW : wd D (dn cy LY_X9 ad P V (gp I [(0, 0, 0)]) (gp J []) (gm A []) (gm B [])) Af s.heap H locs := hW
  refine lv_aload_n C0.1 C0.2.1 dX9_ask_5 rfl (lv_at hl 0 rfl) ?_
  refine lv_iconst (v := 0) C0.1 C0.2.1 dX9_ask_6 kI_0 ?_
  obtain ⟨y1, hy1, hf⟩ := b_some hf
  refine c_Vi C0 hK hN hl.1 hW hA (KX9_coals l D cy  ad P V (gp I [(0, 0, 0)]) (gp J []) (gm A []) (gm B []) 0 hy1) (JN_id rfl rfl rfl rfl) (Uw_V uw_1620 uw_1605 uw_1606 uw_14 uw_1607) rfl rfl hd_X9_coals ⟨rfl, rfl⟩ rfl (dn_some LY_X9_0) rfl rfl rfl dX9_ask_7 ⟨Nat.zero_le _, Nat.zero_le _⟩ (fun H locs hW => ?_)
  have hW : wd D (dn cy LY_X9 ad P V (gp I [(0, 0, y1.2)]) (gp J []) (gm A []) (gm B [])) Af s.heap H locs := hW
  refine lv_istore_n (lv' := [(1, .int y1.1), (0, .ref (ad 0))]) C0.1 C0.2.1 dX9_ask_10 rfl hl (by decide) rfl (fun ls hl => ?_)
  refine lv_iload_n C0.1 C0.2.1 dX9_ask_11 rfl (lv_at hl 0 rfl) ?_
  refine lv_istore_n (lv' := [(2, .int y1.1), (1, .int y1.1), (0, .ref (ad 0))]) C0.1 C0.2.1 dX9_ask_12 rfl hl (by decide) rfl (fun ls hl => ?_)
  refine lv_iconst (v := (-1)) C0.1 C0.2.1 dX9_ask_13 kI_m1 ?_
  refine lv_istore_n (lv' := [(3, .int (-1)), (2, .int y1.1), (1, .int y1.1), (0, .ref (ad 0))]) C0.1 C0.2.1 dX9_ask_14 rfl hl (by decide) rfl (fun ls hl => ?_)
  refine lv_iconst (v := 1) C0.1 C0.2.1 dX9_ask_15 kI_1 ?_
  refine lv_istore (lv' := [(4, .int 1), (3, .int (-1)), (2, .int y1.1), (1, .int y1.1), (0, .ref (ad 0))]) C0.1 C0.2.1 dX9_ask_16 hl (by decide) rfl (fun ls hl => ?_)
  exact TX9_ask_18 C0 hK hN hA  FU y1.2 y1.1 y1.1 (-1) 1 _ _ ls hW (lv_sub hl [4, 3, 2, 1, 0] rfl) hf
