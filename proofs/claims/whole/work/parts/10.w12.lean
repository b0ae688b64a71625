-- X9_isWord
def rmX9_isWord : Room := { frames := 1, cells := 0, slots := 0, locals := 21 }
def fX9_isWord (m_token : Int32) (m_word : Int64) (v1 : Int64) : Option (Int32) := if m_token = 1 then (if (lg_cmp m_word v1) = 0 then (some (1)) else (some (0))) else (some (0))
set_option maxHeartbeats 4000000 in
set_option maxRecDepth 100000 in
theorem KX9_isWord (l : Launch) (D : va_G) (cy : Nat → ClassId) (ad : Nat → Nat) (P : MP) (V : MV) (I : MI) (J : MJ) (A : MI) (B : MJ) (v1 : Int64) {res : Int32} (hf : fX9_isWord (I 0 6) (J 0 7) v1 = some res) : CG l yX9_isWord cX9_isWord 3 (some .boolean) rmX9_isWord D cy (dn cy LY_X9 ad P V I J A B) [.ref (ad 0), .long v1] (some (.int res)) (dn cy LY_X9 ad P V (gp I []) (gp J []) (gm A []) (gm B [])) := by
  refine CG.of (own := RX9) (by decide) rfl rfl ?_
  intro p e s m below meth c ls Af C0 hK hN hA hW hl
  have hW : wd D (dn cy LY_X9 ad P V (gp I []) (gp J []) (gm A []) (gm B [])) Af s.heap s.heap [] := wd_sel [] [] [] [] hW
  have hl : lv_has ls 3 [(0, .ref (ad 0)), (1, .long v1)] := hl
  unfold fX9_isWord at hf
  refine lv_aload_n C0.1 C0.2.1 dX9_isWord_0 rfl (lv_at hl 0 rfl) ?_
  refine s_get (v := .int (I 0 6)) C0 hK hW 0 6 LY_X9_0 rfl fg_X9_167 rfl dX9_isWord_1 ?_
  refine lv_iconst (v := 1) C0.1 C0.2.1 dX9_isWord_4 kI_1 ?_
  refine lv_icmp_ne (tgt := 21) C0.1 C0.2.1 dX9_isWord_5 (by decide) (fun hc1 => ?_) (fun hc1 => ?_)
  · have hf := ite_f hc1 hf
    refine lv_iconst (v := 0) C0.1 C0.2.1 dX9_isWord_21 kI_0 ?_
    obtain rfl := Option.some.inj hf
    exact r_bool C0 hK hW (v' := 0) rfl dX9_isWord_22
  · have hf := ite_t hc1 hf
    refine lv_aload_n C0.1 C0.2.1 dX9_isWord_8 rfl (lv_at hl 0 rfl) ?_
    refine s_get (v := .long (J 0 7)) C0 hK hW 0 7 LY_X9_0 rfl fg_X9_160 rfl dX9_isWord_9 ?_
    refine lv_lload_n C0.1 C0.2.1 dX9_isWord_12 rfl (lv_at hl 1 rfl) ?_
    refine W.lcmp C0.1 C0.2.1 dX9_isWord_13 ?_
    refine lv_if_ne (tgt := 21) C0.1 C0.2.1 dX9_isWord_14 (by decide) (fun hc2 => ?_) (fun hc2 => ?_)
    · have hf := ite_f hc2 hf
      refine lv_iconst (v := 0) C0.1 C0.2.1 dX9_isWord_21 kI_0 ?_
      obtain rfl := Option.some.inj hf
      exact r_bool C0 hK hW (v' := 0) rfl dX9_isWord_22
    · have hf := ite_t hc2 hf
      refine lv_iconst (v := 1) C0.1 C0.2.1 dX9_isWord_17 kI_1 ?_
      refine lv_goto (tgt := 22) C0.1 C0.2.1 dX9_isWord_18 (by decide) ?_
      obtain rfl := Option.some.inj hf
      exact r_bool C0 hK hW (v' := 1) rfl dX9_isWord_22
-- X9_isSign
def rmX9_isSign : Room := { frames := 1, cells := 0, slots := 0, locals := 21 }
def fX9_isSign (m_begin : Int32) (m_token : Int32) (m_tape : (Nat → Int32)) (v1 : Int32) : Option (Int32) := if m_token = 3 then (bif inb m_begin 1000 then (if (m_tape (Int32.toNatClampNeg m_begin)) = v1 then (some (1)) else (some (0))) else none) else (some (0))
set_option maxHeartbeats 4000000 in
set_option maxRecDepth 100000 in
theorem KX9_isSign (l : Launch) (D : va_G) (cy : Nat → ClassId) (ad : Nat → Nat) (P : MP) (V : MV) (I : MI) (J : MJ) (A : MI) (B : MJ) (v1 : Int32) {res : Int32} (hf : fX9_isSign (I 0 5) (I 0 6) (A 1) v1 = some res) : CG l yX9_isSign cX9_isSign 2 (some .boolean) rmX9_isSign D cy (dn cy LY_X9 ad P V I J A B) [.ref (ad 0), .int v1] (some (.int res)) (dn cy LY_X9 ad P V (gp I []) (gp J []) (gm A []) (gm B [])) := by
  refine CG.of (own := RX9) (by decide) rfl rfl ?_
  intro p e s m below meth c ls Af C0 hK hN hA hW hl
  have hW : wd D (dn cy LY_X9 ad P V (gp I []) (gp J []) (gm A []) (gm B [])) Af s.heap s.heap [] := wd_sel [] [] [] [] hW
  have hl : lv_has ls 2 [(0, .ref (ad 0)), (1, .int v1)] := hl
  unfold fX9_isSign at hf
  refine lv_aload_n C0.1 C0.2.1 dX9_isSign_0 rfl (lv_at hl 0 rfl) ?_
  refine s_get (v := .int (I 0 6)) C0 hK hW 0 6 LY_X9_0 rfl fg_X9_167 rfl dX9_isSign_1 ?_
  refine lv_iconst (v := 3) C0.1 C0.2.1 dX9_isSign_4 kI_3 ?_
  refine lv_icmp_ne (tgt := 25) C0.1 C0.2.1 dX9_isSign_5 (by decide) (fun hc1 => ?_) (fun hc1 => ?_)
  · have hf := ite_f hc1 hf
    refine lv_iconst (v := 0) C0.1 C0.2.1 dX9_isSign_25 kI_0 ?_
    obtain rfl := Option.some.inj hf
    exact r_bool C0 hK hW (v' := 0) rfl dX9_isSign_26
  · have hf := ite_t hc1 hf
    refine lv_aload_n C0.1 C0.2.1 dX9_isSign_8 rfl (lv_at hl 0 rfl) ?_
    refine s_get (v := .ref (ad 1)) C0 hK hW 0 2 LY_X9_0 rfl fg_X9_7 rfl dX9_isSign_9 ?_
    refine lv_aload_n C0.1 C0.2.1 dX9_isSign_12 rfl (lv_at hl 0 rfl) ?_
    refine s_get (v := .int (I 0 5)) C0 hK hW 0 5 LY_X9_0 rfl fg_X9_157 rfl dX9_isSign_13 ?_
    obtain ⟨hb2, hf⟩ := g_some hf
    refine s_iald (v := ((A 1) (Int32.toNatClampNeg (I 0 5)))) C0 hK hW 1 LY_X9_1 hb2 rfl dX9_isSign_16 ?_
    refine lv_iload_n C0.1 C0.2.1 dX9_isSign_17 rfl (lv_at hl 1 rfl) ?_
    refine lv_icmp_ne (tgt := 25) C0.1 C0.2.1 dX9_isSign_18 (by decide) (fun hc3 => ?_) (fun hc3 => ?_)
    · have hf := ite_f hc3 hf
      refine lv_iconst (v := 0) C0.1 C0.2.1 dX9_isSign_25 kI_0 ?_
      obtain rfl := Option.some.inj hf
      exact r_bool C0 hK hW (v' := 0) rfl dX9_isSign_26
    · have hf := ite_t hc3 hf
      refine lv_iconst (v := 1) C0.1 C0.2.1 dX9_isSign_21 kI_1 ?_
      refine lv_goto (tgt := 26) C0.1 C0.2.1 dX9_isSign_22 (by decide) ?_
      obtain rfl := Option.some.inj hf
      exact r_bool C0 hK hW (v' := 1) rfl dX9_isSign_26
-- X9_fails
def rmX9_fails : Room := { frames := 1, cells := 0, slots := 0, locals := 21 }
def fX9_fails (m_begin : Int32) (m_wrong : Int32) (v1 : Int32) : Option (Int32 × Int32) := some (0, (v1 + (16 * m_begin)))
set_option maxHeartbeats 4000000 in
set_option maxRecDepth 100000 in
theorem KX9_fails (l : Launch) (D : va_G) (cy : Nat → ClassId) (ad : Nat → Nat) (P : MP) (V : MV) (I : MI) (J : MJ) (A : MI) (B : MJ) (v1 : Int32) {res : Int32 × Int32} (hf : fX9_fails (I 0 5) (I 0 9) v1 = some res) : CG l yX9_fails cX9_fails 2 (some .boolean) rmX9_fails D cy (dn cy LY_X9 ad P V I J A B) [.ref (ad 0), .int v1] (some (.int res.1)) (dn cy LY_X9 ad P V (gp I [(0, 9, res.2)]) (gp J []) (gm A []) (gm B [])) := by
  refine CG.of (own := RX9) (by decide) rfl rfl ?_
  intro p e s m below meth c ls Af C0 hK hN hA hW hl
  have hW : wd D (dn cy LY_X9 ad P V (gp I [(0, 9, (I 0 9))]) (gp J []) (gm A []) (gm B [])) Af s.heap s.heap [] := wd_sel [(0, 9)] [] [] [] hW
  have hl : lv_has ls 2 [(0, .ref (ad 0)), (1, .int v1)] := hl
  unfold fX9_fails at hf
  refine lv_aload_n C0.1 C0.2.1 dX9_fails_0 rfl (lv_at hl 0 rfl) ?_
  refine lv_iload_n C0.1 C0.2.1 dX9_fails_1 rfl (lv_at hl 1 rfl) ?_
  refine lv_bipush (v := 16) C0.1 C0.2.1 dX9_fails_2 kB_16 ?_
  refine lv_aload_n C0.1 C0.2.1 dX9_fails_4 rfl (lv_at hl 0 rfl) ?_
  refine s_get (v := .int (I 0 5)) C0 hK hW 0 5 LY_X9_0 rfl fg_X9_157 rfl dX9_fails_5 ?_
  refine lv_imul C0.1 C0.2.1 dX9_fails_8 ?_
  refine lv_iadd C0.1 C0.2.1 dX9_fails_9 ?_
  refine s_putI C0 hK hW 0 9 LY_X9_0 rfl fg_X9_178 fp_X9_9 rfl dX9_fails_10 (fun H locs hW => ?_)
  have hW : wd D (dn cy LY_X9 ad P V (gp I [(0, 9, (v1 + (16 * (I 0 5))))]) (gp J []) (gm A []) (gm B [])) Af s.heap H locs := hW
  refine lv_iconst (v := 0) C0.1 C0.2.1 dX9_fails_13 kI_0 ?_
  obtain rfl := Option.some.inj hf
  exact r_bool C0 hK hW (v' := 0) rfl dX9_fails_14
-- X9_puts
def rmX9_puts : Room := { frames := 1, cells := 0, slots := 0, locals := 21 }
def fX9_puts (m_code : Int32) (m_codes : (Nat → Int32)) (v1 : Int32) : Option (Int32 × (Nat → Int32)) := bif inb m_code 2000 then (some ((m_code + 1), (upd m_codes (Int32.toNatClampNeg m_code) v1))) else none
set_option maxHeartbeats 4000000 in
set_option maxRecDepth 100000 in
theorem KX9_puts (l : Launch) (D : va_G) (cy : Nat → ClassId) (ad : Nat → Nat) (P : MP) (V : MV) (I : MI) (J : MJ) (A : MI) (B : MJ) (v1 : Int32) {res : Int32 × (Nat → Int32)} (hf : fX9_puts (I 0 24) (A 15) v1 = some res) : CG l yX9_puts cX9_puts 2 none rmX9_puts D cy (dn cy LY_X9 ad P V I J A B) [.ref (ad 0), .int v1] none (dn cy LY_X9 ad P V (gp I [(0, 24, res.1)]) (gp J []) (gm A [(15, res.2)]) (gm B [])) := by
  refine CG.of (own := RX9) (by decide) rfl rfl ?_
  intro p e s m below meth c ls Af C0 hK hN hA hW hl
  have hW : wd D (dn cy LY_X9 ad P V (gp I [(0, 24, (I 0 24))]) (gp J []) (gm A [(15, (A 15))]) (gm B [])) Af s.heap s.heap [] := wd_sel [(0, 24)] [] [15] [] hW
  have hl : lv_has ls 2 [(0, .ref (ad 0)), (1, .int v1)] := hl
  unfold fX9_puts at hf
  refine lv_aload_n C0.1 C0.2.1 dX9_puts_0 rfl (lv_at hl 0 rfl) ?_
  refine s_get (v := .ref (ad 15)) C0 hK hW 0 23 LY_X9_0 rfl fg_X9_53 rfl dX9_puts_1 ?_
  refine lv_aload_n C0.1 C0.2.1 dX9_puts_4 rfl (lv_at hl 0 rfl) ?_
  refine s_get (v := .int (I 0 24)) C0 hK hW 0 24 LY_X9_0 rfl fg_X9_181 rfl dX9_puts_5 ?_
  refine lv_iload_n C0.1 C0.2.1 dX9_puts_8 rfl (lv_at hl 1 rfl) ?_
  obtain ⟨hb1, hf⟩ := g_some hf
  refine s_iast (f := (upd (A 15) (Int32.toNatClampNeg (I 0 24)) v1)) C0 hK hW 15 LY_X9_15 hb1 rfl rfl dX9_puts_9 (fun H locs hW => ?_)
  have hW : wd D (dn cy LY_X9 ad P V (gp I [(0, 24, (I 0 24))]) (gp J []) (gm A [(15, (upd (A 15) (Int32.toNatClampNeg (I 0 24)) v1))]) (gm B [])) Af s.heap H locs := hW
  refine lv_aload_n C0.1 C0.2.1 dX9_puts_10 rfl (lv_at hl 0 rfl) ?_
  refine lv_dup C0.1 C0.2.1 dX9_puts_11 rfl ?_
  refine s_get (v := .int (I 0 24)) C0 hK hW 0 24 LY_X9_0 rfl fg_X9_181 rfl dX9_puts_12 ?_
  refine lv_iconst (v := 1) C0.1 C0.2.1 dX9_puts_15 kI_1 ?_
  refine lv_iadd C0.1 C0.2.1 dX9_puts_16 ?_
  refine s_putI C0 hK hW 0 24 LY_X9_0 rfl fg_X9_181 fp_X9_24 rfl dX9_puts_17 (fun H locs hW => ?_)
  have hW : wd D (dn cy LY_X9 ad P V (gp I [(0, 24, ((I 0 24) + 1))]) (gp J []) (gm A [(15, (upd (A 15) (Int32.toNatClampNeg (I 0 24)) v1))]) (gm B [])) Af s.heap H locs := hW
  obtain rfl := Option.some.inj hf
  exact r_void C0 hK hW dX9_puts_20
-- X9_fact
def rmX9_fact : Room := { frames := 1, cells := 0, slots := 0, locals := 21 }
def fX9_fact (m_token : Int32) (m_word : Int64) : Option (Int32) := if m_token = 1 then (if (lg_cmp m_word 240023) = 0 then (some (1)) else (if (lg_cmp m_word 136960988) = 0 then (some (2)) else (if (lg_cmp m_word 375062) = 0 then (some (3)) else (if (lg_cmp m_word 80006) = 0 then (some (4)) else (some (0)))))) else (some (0))
set_option maxHeartbeats 4000000 in
set_option maxRecDepth 100000 in
theorem KX9_fact (l : Launch) (D : va_G) (cy : Nat → ClassId) (ad : Nat → Nat) (P : MP) (V : MV) (I : MI) (J : MJ) (A : MI) (B : MJ) {res : Int32} (hf : fX9_fact (I 0 6) (J 0 7) = some res) : CG l yX9_fact cX9_fact 1 (some .int) rmX9_fact D cy (dn cy LY_X9 ad P V I J A B) [.ref (ad 0)] (some (.int res)) (dn cy LY_X9 ad P V (gp I []) (gp J []) (gm A []) (gm B [])) := by
  refine CG.of (own := RX9) (by decide) rfl rfl ?_
  intro p e s m below meth c ls Af C0 hK hN hA hW hl
  have hW : wd D (dn cy LY_X9 ad P V (gp I []) (gp J []) (gm A []) (gm B [])) Af s.heap s.heap [] := wd_sel [] [] [] [] hW
  have hl : lv_has ls 1 [(0, .ref (ad 0))] := hl
  unfold fX9_fact at hf
  refine lv_aload_n C0.1 C0.2.1 dX9_fact_0 rfl (lv_at hl 0 rfl) ?_
  refine s_get (v := .int (I 0 6)) C0 hK hW 0 6 LY_X9_0 rfl fg_X9_167 rfl dX9_fact_1 ?_
  refine lv_iconst (v := 1) C0.1 C0.2.1 dX9_fact_4 kI_1 ?_
  refine lv_icmp_eq (tgt := 10) C0.1 C0.2.1 dX9_fact_5 (by decide) (fun hc1 => ?_) (fun hc1 => ?_)
  · have hf := ite_t hc1 hf
    refine lv_aload_n C0.1 C0.2.1 dX9_fact_10 rfl (lv_at hl 0 rfl) ?_
    refine s_get (v := .long (J 0 7)) C0 hK hW 0 7 LY_X9_0 rfl fg_X9_160 rfl dX9_fact_11 ?_
    refine lv_ldc2 (v := 240023) C0.1 C0.2.1 C0.2.2.2.2.1 (C0.2.2.2.2.2.1 _ uw_1378) dX9_fact_14 ?_
    refine W.lcmp C0.1 C0.2.1 dX9_fact_17 ?_
    refine lv_if_ne (tgt := 23) C0.1 C0.2.1 dX9_fact_18 (by decide) (fun hc2 => ?_) (fun hc2 => ?_)
    · have hf := ite_f hc2 hf
      refine lv_aload_n C0.1 C0.2.1 dX9_fact_23 rfl (lv_at hl 0 rfl) ?_
      refine s_get (v := .long (J 0 7)) C0 hK hW 0 7 LY_X9_0 rfl fg_X9_160 rfl dX9_fact_24 ?_
      refine lv_ldc2 (v := 136960988) C0.1 C0.2.1 C0.2.2.2.2.1 (C0.2.2.2.2.2.1 _ uw_1379) dX9_fact_27 ?_
      refine W.lcmp C0.1 C0.2.1 dX9_fact_30 ?_
      refine lv_if_ne (tgt := 36) C0.1 C0.2.1 dX9_fact_31 (by decide) (fun hc3 => ?_) (fun hc3 => ?_)
      · have hf := ite_f hc3 hf
        refine lv_aload_n C0.1 C0.2.1 dX9_fact_36 rfl (lv_at hl 0 rfl) ?_
        refine s_get (v := .long (J 0 7)) C0 hK hW 0 7 LY_X9_0 rfl fg_X9_160 rfl dX9_fact_37 ?_
        refine lv_ldc2 (v := 375062) C0.1 C0.2.1 C0.2.2.2.2.1 (C0.2.2.2.2.2.1 _ uw_1380) dX9_fact_40 ?_
        refine W.lcmp C0.1 C0.2.1 dX9_fact_43 ?_
        refine lv_if_ne (tgt := 51) C0.1 C0.2.1 dX9_fact_44 (by decide) (fun hc4 => ?_) (fun hc4 => ?_)
        · have hf := ite_f hc4 hf
          refine lv_aload_n C0.1 C0.2.1 dX9_fact_51 rfl (lv_at hl 0 rfl) ?_
          refine s_get (v := .long (J 0 7)) C0 hK hW 0 7 LY_X9_0 rfl fg_X9_160 rfl dX9_fact_52 ?_
          refine lv_ldc2 (v := 80006) C0.1 C0.2.1 C0.2.2.2.2.1 (C0.2.2.2.2.2.1 _ uw_1381) dX9_fact_55 ?_
          refine W.lcmp C0.1 C0.2.1 dX9_fact_58 ?_
          refine lv_if_ne (tgt := 66) C0.1 C0.2.1 dX9_fact_59 (by decide) (fun hc5 => ?_) (fun hc5 => ?_)
          · have hf := ite_f hc5 hf
            refine lv_iconst (v := 0) C0.1 C0.2.1 dX9_fact_66 kI_0 ?_
            obtain rfl := Option.some.inj hf
            exact r_int C0 hK hW dX9_fact_67
          · have hf := ite_t hc5 hf
            refine lv_iconst (v := 4) C0.1 C0.2.1 dX9_fact_62 kI_4 ?_
            refine lv_goto (tgt := 67) C0.1 C0.2.1 dX9_fact_63 (by decide) ?_
            obtain rfl := Option.some.inj hf
            exact r_int C0 hK hW dX9_fact_67
        · have hf := ite_t hc4 hf
          refine lv_iconst (v := 3) C0.1 C0.2.1 dX9_fact_47 kI_3 ?_
          refine lv_goto (tgt := 67) C0.1 C0.2.1 dX9_fact_48 (by decide) ?_
          obtain rfl := Option.some.inj hf
          exact r_int C0 hK hW dX9_fact_67
      · have hf := ite_t hc3 hf
        refine lv_iconst (v := 2) C0.1 C0.2.1 dX9_fact_34 kI_2 ?_
        obtain rfl := Option.some.inj hf
        exact r_int C0 hK hW dX9_fact_35
    · have hf := ite_t hc2 hf
      refine lv_iconst (v := 1) C0.1 C0.2.1 dX9_fact_21 kI_1 ?_
      obtain rfl := Option.some.inj hf
      exact r_int C0 hK hW dX9_fact_22
  · have hf := ite_f hc1 hf
    refine lv_iconst (v := 0) C0.1 C0.2.1 dX9_fact_8 kI_0 ?_
    obtain rfl := Option.some.inj hf
    exact r_int C0 hK hW dX9_fact_9
-- X9_reads
def rmX9_reads : Room := { frames := 3, cells := 0, slots := 0, locals := 63 }
def SX9_reads_172 (p : Program) (l : Launch) (e : Env) (s : State) (m : MethodId) (args : Array Value) (below : List Frame) (meth : Method) (c : Code) (D : va_G) (cy : Nat → ClassId) (ad : Nat → Nat) (P : MP) (V : MV) (I : MI) (J : MJ) (A : MI) (B : MJ) (Af : Nat → Prop) (res : Int32 × Int32 × Int32 × Int32 × Int32 × Int32 × Int32 × Int64 × (Nat → Int32) × (Nat → Int32) × (Nat → Int32)) (k : Int32 → Int32 → Int32 → Int32 → Int32 → Int32 → Int64 → (Nat → Int32) → (Nat → Int32) → (Nat → Int32) → Int32 → Int32 → Option (Int32 × Int32 × Int32 × Int32 × Int32 × Int32 × Int32 × Int64 × (Nat → Int32) × (Nat → Int32) × (Nat → Int32))) : Prop := ∀ (m_place : Int32) (m_begin : Int32) (m_token : Int32) (m_told : Int32) (m_wrong : Int32) (m_code : Int32) (m_word : Int64) (m_codes : (Nat → Int32)) (m_opened : (Nat → Int32)) (m_compared : (Nat → Int32)) (v1 : Int32) (v2 : Int32) (H : Heap) (locs : List Loc) (ls : Array Slot), wd D (dn cy LY_X9 ad P V (gp I [(0, 4, m_place), (0, 5, m_begin), (0, 6, m_token), (0, 8, m_told), (0, 9, m_wrong), (0, 24, m_code)]) (gp J [(0, 7, m_word)]) (gm A [(15, m_codes), (16, m_opened), (17, m_compared)]) (gm B [])) Af s.heap H locs → lv_has ls 6 [(0, .ref (ad 0)), (1, .int v1), (2, .int v2)] → k m_place m_begin m_token m_told m_wrong m_code m_word m_codes m_opened m_compared v1 v2 = some res → W p l e rmX9_reads s m args below meth c H locs 0 0 (ZQ below D cy (dn cy LY_X9 ad P V (gp I [(0, 4, res.2.1), (0, 5, res.2.2.1), (0, 6, res.2.2.2.1), (0, 8, res.2.2.2.2.1), (0, 9, res.2.2.2.2.2.1), (0, 24, res.2.2.2.2.2.2.1)]) (gp J [(0, 7, res.2.2.2.2.2.2.2.1)]) (gm A [(15, res.2.2.2.2.2.2.2.2.1), (16, res.2.2.2.2.2.2.2.2.2.1), (17, res.2.2.2.2.2.2.2.2.2.2)]) (gm B [])) (some (.int res.1)) Af args s) (F0 m 172 ls [])
def SX9_reads_120 (p : Program) (l : Launch) (e : Env) (s : State) (m : MethodId) (args : Array Value) (below : List Frame) (meth : Method) (c : Code) (D : va_G) (cy : Nat → ClassId) (ad : Nat → Nat) (P : MP) (V : MV) (I : MI) (J : MJ) (A : MI) (B : MJ) (Af : Nat → Prop) (res : Int32 × Int32 × Int32 × Int32 × Int32 × Int32 × Int32 × Int64 × (Nat → Int32) × (Nat → Int32) × (Nat → Int32)) (k : Int32 → Int32 → Int32 → Int32 → Int32 → Int32 → Int64 → (Nat → Int32) → (Nat → Int32) → (Nat → Int32) → Int32 → Int32 → Int32 → Int32 → Option (Int32 × Int32 × Int32 × Int32 × Int32 × Int32 × Int32 × Int64 × (Nat → Int32) × (Nat → Int32) × (Nat → Int32))) : Prop := ∀ (m_place : Int32) (m_begin : Int32) (m_token : Int32) (m_told : Int32) (m_wrong : Int32) (m_code : Int32) (m_word : Int64) (m_codes : (Nat → Int32)) (m_opened : (Nat → Int32)) (m_compared : (Nat → Int32)) (v1 : Int32) (v2 : Int32) (x0 : Int32) (x1 : Int32) (H : Heap) (locs : List Loc) (ls : Array Slot), wd D (dn cy LY_X9 ad P V (gp I [(0, 4, m_place), (0, 5, m_begin), (0, 6, m_token), (0, 8, m_told), (0, 9, m_wrong), (0, 24, m_code)]) (gp J [(0, 7, m_word)]) (gm A [(15, m_codes), (16, m_opened), (17, m_compared)]) (gm B [])) Af s.heap H locs → lv_has ls 6 [(0, .ref (ad 0)), (1, .int v1), (2, .int v2)] → k m_place m_begin m_token m_told m_wrong m_code m_word m_codes m_opened m_compared v1 v2 x0 x1 = some res → W p l e rmX9_reads s m args below meth c H locs 0 0 (ZQ below D cy (dn cy LY_X9 ad P V (gp I [(0, 4, res.2.1), (0, 5, res.2.2.1), (0, 6, res.2.2.2.1), (0, 8, res.2.2.2.2.1), (0, 9, res.2.2.2.2.2.1), (0, 24, res.2.2.2.2.2.2.1)]) (gp J [(0, 7, res.2.2.2.2.2.2.2.1)]) (gm A [(15, res.2.2.2.2.2.2.2.2.1), (16, res.2.2.2.2.2.2.2.2.2.1), (17, res.2.2.2.2.2.2.2.2.2.2)]) (gm B [])) (some (.int res.1)) Af args s) (F0 m 120 ls [.int x0, .int x1, .ref (ad 16)])
def SX9_reads_99 (p : Program) (l : Launch) (e : Env) (s : State) (m : MethodId) (args : Array Value) (below : List Frame) (meth : Method) (c : Code) (D : va_G) (cy : Nat → ClassId) (ad : Nat → Nat) (P : MP) (V : MV) (I : MI) (J : MJ) (A : MI) (B : MJ) (Af : Nat → Prop) (res : Int32 × Int32 × Int32 × Int32 × Int32 × Int32 × Int32 × Int64 × (Nat → Int32) × (Nat → Int32) × (Nat → Int32)) (k : Int32 → Int32 → Int32 → Int32 → Int32 → Int32 → Int64 → (Nat → Int32) → (Nat → Int32) → (Nat → Int32) → Int32 → Int32 → Int32 → Int32 → Option (Int32 × Int32 × Int32 × Int32 × Int32 × Int32 × Int32 × Int64 × (Nat → Int32) × (Nat → Int32) × (Nat → Int32))) : Prop := ∀ (m_place : Int32) (m_begin : Int32) (m_token : Int32) (m_told : Int32) (m_wrong : Int32) (m_code : Int32) (m_word : Int64) (m_codes : (Nat → Int32)) (m_opened : (Nat → Int32)) (m_compared : (Nat → Int32)) (v1 : Int32) (v2 : Int32) (v4 : Int32) (x0 : Int32) (H : Heap) (locs : List Loc) (ls : Array Slot), wd D (dn cy LY_X9 ad P V (gp I [(0, 4, m_place), (0, 5, m_begin), (0, 6, m_token), (0, 8, m_told), (0, 9, m_wrong), (0, 24, m_code)]) (gp J [(0, 7, m_word)]) (gm A [(15, m_codes), (16, m_opened), (17, m_compared)]) (gm B [])) Af s.heap H locs → lv_has ls 6 [(0, .ref (ad 0)), (1, .int v1), (2, .int v2), (4, .int v4)] → k m_place m_begin m_token m_told m_wrong m_code m_word m_codes m_opened m_compared v1 v2 v4 x0 = some res → W p l e rmX9_reads s m args below meth c H locs 0 0 (ZQ below D cy (dn cy LY_X9 ad P V (gp I [(0, 4, res.2.1), (0, 5, res.2.2.1), (0, 6, res.2.2.2.1), (0, 8, res.2.2.2.2.1), (0, 9, res.2.2.2.2.2.1), (0, 24, res.2.2.2.2.2.2.1)]) (gp J [(0, 7, res.2.2.2.2.2.2.2.1)]) (gm A [(15, res.2.2.2.2.2.2.2.2.1), (16, res.2.2.2.2.2.2.2.2.2.1), (17, res.2.2.2.2.2.2.2.2.2.2)]) (gm B [])) (some (.int res.1)) Af args s) (F0 m 99 ls [.int x0, .ref (ad 0)])
def SX9_reads_86 (p : Program) (l : Launch) (e : Env) (s : State) (m : MethodId) (args : Array Value) (below : List Frame) (meth : Method) (c : Code) (D : va_G) (cy : Nat → ClassId) (ad : Nat → Nat) (P : MP) (V : MV) (I : MI) (J : MJ) (A : MI) (B : MJ) (Af : Nat → Prop) (res : Int32 × Int32 × Int32 × Int32 × Int32 × Int32 × Int32 × Int64 × (Nat → Int32) × (Nat → Int32) × (Nat → Int32)) (k : Int32 → Int32 → Int32 → Int32 → Int32 → Int32 → Int64 → (Nat → Int32) → (Nat → Int32) → (Nat → Int32) → Int32 → Int32 → Int32 → Option (Int32 × Int32 × Int32 × Int32 × Int32 × Int32 × Int32 × Int64 × (Nat → Int32) × (Nat → Int32) × (Nat → Int32))) : Prop := ∀ (m_place : Int32) (m_begin : Int32) (m_token : Int32) (m_told : Int32) (m_wrong : Int32) (m_code : Int32) (m_word : Int64) (m_codes : (Nat → Int32)) (m_opened : (Nat → Int32)) (m_compared : (Nat → Int32)) (v1 : Int32) (v2 : Int32) (v4 : Int32) (H : Heap) (locs : List Loc) (ls : Array Slot), wd D (dn cy LY_X9 ad P V (gp I [(0, 4, m_place), (0, 5, m_begin), (0, 6, m_token), (0, 8, m_told), (0, 9, m_wrong), (0, 24, m_code)]) (gp J [(0, 7, m_word)]) (gm A [(15, m_codes), (16, m_opened), (17, m_compared)]) (gm B [])) Af s.heap H locs → lv_has ls 6 [(0, .ref (ad 0)), (1, .int v1), (2, .int v2), (4, .int v4)] → k m_place m_begin m_token m_told m_wrong m_code m_word m_codes m_opened m_compared v1 v2 v4 = some res → W p l e rmX9_reads s m args below meth c H locs 0 0 (ZQ below D cy (dn cy LY_X9 ad P V (gp I [(0, 4, res.2.1), (0, 5, res.2.2.1), (0, 6, res.2.2.2.1), (0, 8, res.2.2.2.2.1), (0, 9, res.2.2.2.2.2.1), (0, 24, res.2.2.2.2.2.2.1)]) (gp J [(0, 7, res.2.2.2.2.2.2.2.1)]) (gm A [(15, res.2.2.2.2.2.2.2.2.1), (16, res.2.2.2.2.2.2.2.2.2.1), (17, res.2.2.2.2.2.2.2.2.2.2)]) (gm B [])) (some (.int res.1)) Af args s) (F0 m 86 ls [])
def SX9_reads_152 (p : Program) (l : Launch) (e : Env) (s : State) (m : MethodId) (args : Array Value) (below : List Frame) (meth : Method) (c : Code) (D : va_G) (cy : Nat → ClassId) (ad : Nat → Nat) (P : MP) (V : MV) (I : MI) (J : MJ) (A : MI) (B : MJ) (Af : Nat → Prop) (res : Int32 × Int32 × Int32 × Int32 × Int32 × Int32 × Int32 × Int64 × (Nat → Int32) × (Nat → Int32) × (Nat → Int32)) (k : Int32 → Int32 → Int32 → Int32 → Int32 → Int32 → Int64 → (Nat → Int32) → (Nat → Int32) → (Nat → Int32) → Int32 → Int32 → Option (Int32 × Int32 × Int32 × Int32 × Int32 × Int32 × Int32 × Int64 × (Nat → Int32) × (Nat → Int32) × (Nat → Int32))) : Prop := ∀ (m_place : Int32) (m_begin : Int32) (m_token : Int32) (m_told : Int32) (m_wrong : Int32) (m_code : Int32) (m_word : Int64) (m_codes : (Nat → Int32)) (m_opened : (Nat → Int32)) (m_compared : (Nat → Int32)) (v1 : Int32) (v2 : Int32) (H : Heap) (locs : List Loc) (ls : Array Slot), wd D (dn cy LY_X9 ad P V (gp I [(0, 4, m_place), (0, 5, m_begin), (0, 6, m_token), (0, 8, m_told), (0, 9, m_wrong), (0, 24, m_code)]) (gp J [(0, 7, m_word)]) (gm A [(15, m_codes), (16, m_opened), (17, m_compared)]) (gm B [])) Af s.heap H locs → lv_has ls 6 [(0, .ref (ad 0)), (1, .int v1), (2, .int v2)] → k m_place m_begin m_token m_told m_wrong m_code m_word m_codes m_opened m_compared v1 v2 = some res → W p l e rmX9_reads s m args below meth c H locs 0 0 (ZQ below D cy (dn cy LY_X9 ad P V (gp I [(0, 4, res.2.1), (0, 5, res.2.2.1), (0, 6, res.2.2.2.1), (0, 8, res.2.2.2.2.1), (0, 9, res.2.2.2.2.2.1), (0, 24, res.2.2.2.2.2.2.1)]) (gp J [(0, 7, res.2.2.2.2.2.2.2.1)]) (gm A [(15, res.2.2.2.2.2.2.2.2.1), (16, res.2.2.2.2.2.2.2.2.2.1), (17, res.2.2.2.2.2.2.2.2.2.2)]) (gm B [])) (some (.int res.1)) Af args s) (F0 m 152 ls [])
def SX9_reads_147 (p : Program) (l : Launch) (e : Env) (s : State) (m : MethodId) (args : Array Value) (below : List Frame) (meth : Method) (c : Code) (D : va_G) (cy : Nat → ClassId) (ad : Nat → Nat) (P : MP) (V : MV) (I : MI) (J : MJ) (A : MI) (B : MJ) (Af : Nat → Prop) (res : Int32 × Int32 × Int32 × Int32 × Int32 × Int32 × Int32 × Int64 × (Nat → Int32) × (Nat → Int32) × (Nat → Int32)) (k : Int32 → Int32 → Int32 → Int32 → Int32 → Int32 → Int64 → (Nat → Int32) → (Nat → Int32) → (Nat → Int32) → Int32 → Int32 → Option (Int32 × Int32 × Int32 × Int32 × Int32 × Int32 × Int32 × Int64 × (Nat → Int32) × (Nat → Int32) × (Nat → Int32))) : Prop := ∀ (m_place : Int32) (m_begin : Int32) (m_token : Int32) (m_told : Int32) (m_wrong : Int32) (m_code : Int32) (m_word : Int64) (m_codes : (Nat → Int32)) (m_opened : (Nat → Int32)) (m_compared : (Nat → Int32)) (v1 : Int32) (x0 : Int32) (H : Heap) (locs : List Loc) (ls : Array Slot), wd D (dn cy LY_X9 ad P V (gp I [(0, 4, m_place), (0, 5, m_begin), (0, 6, m_token), (0, 8, m_told), (0, 9, m_wrong), (0, 24, m_code)]) (gp J [(0, 7, m_word)]) (gm A [(15, m_codes), (16, m_opened), (17, m_compared)]) (gm B [])) Af s.heap H locs → lv_has ls 6 [(0, .ref (ad 0)), (1, .int v1)] → k m_place m_begin m_token m_told m_wrong m_code m_word m_codes m_opened m_compared v1 x0 = some res → W p l e rmX9_reads s m args below meth c H locs 0 0 (ZQ below D cy (dn cy LY_X9 ad P V (gp I [(0, 4, res.2.1), (0, 5, res.2.2.1), (0, 6, res.2.2.2.1), (0, 8, res.2.2.2.2.1), (0, 9, res.2.2.2.2.2.1), (0, 24, res.2.2.2.2.2.2.1)]) (gp J [(0, 7, res.2.2.2.2.2.2.2.1)]) (gm A [(15, res.2.2.2.2.2.2.2.2.1), (16, res.2.2.2.2.2.2.2.2.2.1), (17, res.2.2.2.2.2.2.2.2.2.2)]) (gm B [])) (some (.int res.1)) Af args s) (F0 m 147 ls [.int x0, .ref (ad 0)])
def SX9_reads_65 (p : Program) (l : Launch) (e : Env) (s : State) (m : MethodId) (args : Array Value) (below : List Frame) (meth : Method) (c : Code) (D : va_G) (cy : Nat → ClassId) (ad : Nat → Nat) (P : MP) (V : MV) (I : MI) (J : MJ) (A : MI) (B : MJ) (Af : Nat → Prop) (res : Int32 × Int32 × Int32 × Int32 × Int32 × Int32 × Int32 × Int64 × (Nat → Int32) × (Nat → Int32) × (Nat → Int32)) (k : Int32 → Int32 → Int32 → Int32 → Int32 → Int32 → Int64 → (Nat → Int32) → (Nat → Int32) → (Nat → Int32) → Int32 → Int32 → Int32 → Int32 → Int32 → Option (Int32 × Int32 × Int32 × Int32 × Int32 × Int32 × Int32 × Int64 × (Nat → Int32) × (Nat → Int32) × (Nat → Int32))) : Prop := ∀ (m_place : Int32) (m_begin : Int32) (m_token : Int32) (m_told : Int32) (m_wrong : Int32) (m_code : Int32) (m_word : Int64) (m_codes : (Nat → Int32)) (m_opened : (Nat → Int32)) (m_compared : (Nat → Int32)) (v1 : Int32) (v2 : Int32) (v3 : Int32) (v4 : Int32) (v5 : Int32) (H : Heap) (locs : List Loc) (ls : Array Slot), wd D (dn cy LY_X9 ad P V (gp I [(0, 4, m_place), (0, 5, m_begin), (0, 6, m_token), (0, 8, m_told), (0, 9, m_wrong), (0, 24, m_code)]) (gp J [(0, 7, m_word)]) (gm A [(15, m_codes), (16, m_opened), (17, m_compared)]) (gm B [])) Af s.heap H locs → lv_has ls 6 [(0, .ref (ad 0)), (1, .int v1), (2, .int v2), (3, .int v3), (4, .int v4), (5, .int v5)] → k m_place m_begin m_token m_told m_wrong m_code m_word m_codes m_opened m_compared v1 v2 v3 v4 v5 = some res → W p l e rmX9_reads s m args below meth c H locs 0 0 (ZQ below D cy (dn cy LY_X9 ad P V (gp I [(0, 4, res.2.1), (0, 5, res.2.2.1), (0, 6, res.2.2.2.1), (0, 8, res.2.2.2.2.1), (0, 9, res.2.2.2.2.2.1), (0, 24, res.2.2.2.2.2.2.1)]) (gp J [(0, 7, res.2.2.2.2.2.2.2.1)]) (gm A [(15, res.2.2.2.2.2.2.2.2.1), (16, res.2.2.2.2.2.2.2.2.2.1), (17, res.2.2.2.2.2.2.2.2.2.2)]) (gm B [])) (some (.int res.1)) Af args s) (F0 m 65 ls [])
def SX9_reads_424 (p : Program) (l : Launch) (e : Env) (s : State) (m : MethodId) (args : Array Value) (below : List Frame) (meth : Method) (c : Code) (D : va_G) (cy : Nat → ClassId) (ad : Nat → Nat) (P : MP) (V : MV) (I : MI) (J : MJ) (A : MI) (B : MJ) (Af : Nat → Prop) (res : Int32 × Int32 × Int32 × Int32 × Int32 × Int32 × Int32 × Int64 × (Nat → Int32) × (Nat → Int32) × (Nat → Int32)) (k : Int32 → Int32 → Int32 → Int32 → Int32 → Int32 → Int64 → (Nat → Int32) → (Nat → Int32) → (Nat → Int32) → Int32 → Int32 → Option (Int32 × Int32 × Int32 × Int32 × Int32 × Int32 × Int32 × Int64 × (Nat → Int32) × (Nat → Int32) × (Nat → Int32))) : Prop := ∀ (m_place : Int32) (m_begin : Int32) (m_token : Int32) (m_told : Int32) (m_wrong : Int32) (m_code : Int32) (m_word : Int64) (m_codes : (Nat → Int32)) (m_opened : (Nat → Int32)) (m_compared : (Nat → Int32)) (v1 : Int32) (v2 : Int32) (H : Heap) (locs : List Loc) (ls : Array Slot), wd D (dn cy LY_X9 ad P V (gp I [(0, 4, m_place), (0, 5, m_begin), (0, 6, m_token), (0, 8, m_told), (0, 9, m_wrong), (0, 24, m_code)]) (gp J [(0, 7, m_word)]) (gm A [(15, m_codes), (16, m_opened), (17, m_compared)]) (gm B [])) Af s.heap H locs → lv_has ls 6 [(0, .ref (ad 0)), (1, .int v1), (2, .int v2)] → k m_place m_begin m_token m_told m_wrong m_code m_word m_codes m_opened m_compared v1 v2 = some res → W p l e rmX9_reads s m args below meth c H locs 0 0 (ZQ below D cy (dn cy LY_X9 ad P V (gp I [(0, 4, res.2.1), (0, 5, res.2.2.1), (0, 6, res.2.2.2.1), (0, 8, res.2.2.2.2.1), (0, 9, res.2.2.2.2.2.1), (0, 24, res.2.2.2.2.2.2.1)]) (gp J [(0, 7, res.2.2.2.2.2.2.2.1)]) (gm A [(15, res.2.2.2.2.2.2.2.2.1), (16, res.2.2.2.2.2.2.2.2.2.1), (17, res.2.2.2.2.2.2.2.2.2.2)]) (gm B [])) (some (.int res.1)) Af args s) (F0 m 424 ls [])
def SX9_reads_237 (p : Program) (l : Launch) (e : Env) (s : State) (m : MethodId) (args : Array Value) (below : List Frame) (meth : Method) (c : Code) (D : va_G) (cy : Nat → ClassId) (ad : Nat → Nat) (P : MP) (V : MV) (I : MI) (J : MJ) (A : MI) (B : MJ) (Af : Nat → Prop) (res : Int32 × Int32 × Int32 × Int32 × Int32 × Int32 × Int32 × Int64 × (Nat → Int32) × (Nat → Int32) × (Nat → Int32)) (k : Int32 → Int32 → Int32 → Int32 → Int32 → Int32 → Int64 → (Nat → Int32) → (Nat → Int32) → (Nat → Int32) → Int32 → Int32 → Option (Int32 × Int32 × Int32 × Int32 × Int32 × Int32 × Int32 × Int64 × (Nat → Int32) × (Nat → Int32) × (Nat → Int32))) : Prop := ∀ (m_place : Int32) (m_begin : Int32) (m_token : Int32) (m_told : Int32) (m_wrong : Int32) (m_code : Int32) (m_word : Int64) (m_codes : (Nat → Int32)) (m_opened : (Nat → Int32)) (m_compared : (Nat → Int32)) (v1 : Int32) (x0 : Int32) (H : Heap) (locs : List Loc) (ls : Array Slot), wd D (dn cy LY_X9 ad P V (gp I [(0, 4, m_place), (0, 5, m_begin), (0, 6, m_token), (0, 8, m_told), (0, 9, m_wrong), (0, 24, m_code)]) (gp J [(0, 7, m_word)]) (gm A [(15, m_codes), (16, m_opened), (17, m_compared)]) (gm B [])) Af s.heap H locs → lv_has ls 6 [(0, .ref (ad 0)), (1, .int v1)] → k m_place m_begin m_token m_told m_wrong m_code m_word m_codes m_opened m_compared v1 x0 = some res → W p l e rmX9_reads s m args below meth c H locs 0 0 (ZQ below D cy (dn cy LY_X9 ad P V (gp I [(0, 4, res.2.1), (0, 5, res.2.2.1), (0, 6, res.2.2.2.1), (0, 8, res.2.2.2.2.1), (0, 9, res.2.2.2.2.2.1), (0, 24, res.2.2.2.2.2.2.1)]) (gp J [(0, 7, res.2.2.2.2.2.2.2.1)]) (gm A [(15, res.2.2.2.2.2.2.2.2.1), (16, res.2.2.2.2.2.2.2.2.2.1), (17, res.2.2.2.2.2.2.2.2.2.2)]) (gm B [])) (some (.int res.1)) Af args s) (F0 m 237 ls [.int x0, .ref (ad 0)])
def SX9_reads_206 (p : Program) (l : Launch) (e : Env) (s : State) (m : MethodId) (args : Array Value) (below : List Frame) (meth : Method) (c : Code) (D : va_G) (cy : Nat → ClassId) (ad : Nat → Nat) (P : MP) (V : MV) (I : MI) (J : MJ) (A : MI) (B : MJ) (Af : Nat → Prop) (res : Int32 × Int32 × Int32 × Int32 × Int32 × Int32 × Int32 × Int64 × (Nat → Int32) × (Nat → Int32) × (Nat → Int32)) (k : Int32 → Int32 → Int32 → Int32 → Int32 → Int32 → Int64 → (Nat → Int32) → (Nat → Int32) → (Nat → Int32) → Int32 → Option (Int32 × Int32 × Int32 × Int32 × Int32 × Int32 × Int32 × Int64 × (Nat → Int32) × (Nat → Int32) × (Nat → Int32))) : Prop := ∀ (m_place : Int32) (m_begin : Int32) (m_token : Int32) (m_told : Int32) (m_wrong : Int32) (m_code : Int32) (m_word : Int64) (m_codes : (Nat → Int32)) (m_opened : (Nat → Int32)) (m_compared : (Nat → Int32)) (v1 : Int32) (H : Heap) (locs : List Loc) (ls : Array Slot), wd D (dn cy LY_X9 ad P V (gp I [(0, 4, m_place), (0, 5, m_begin), (0, 6, m_token), (0, 8, m_told), (0, 9, m_wrong), (0, 24, m_code)]) (gp J [(0, 7, m_word)]) (gm A [(15, m_codes), (16, m_opened), (17, m_compared)]) (gm B [])) Af s.heap H locs → lv_has ls 6 [(0, .ref (ad 0)), (1, .int v1)] → k m_place m_begin m_token m_told m_wrong m_code m_word m_codes m_opened m_compared v1 = some res → W p l e rmX9_reads s m args below meth c H locs 0 0 (ZQ below D cy (dn cy LY_X9 ad P V (gp I [(0, 4, res.2.1), (0, 5, res.2.2.1), (0, 6, res.2.2.2.1), (0, 8, res.2.2.2.2.1), (0, 9, res.2.2.2.2.2.1), (0, 24, res.2.2.2.2.2.2.1)]) (gp J [(0, 7, res.2.2.2.2.2.2.2.1)]) (gm A [(15, res.2.2.2.2.2.2.2.2.1), (16, res.2.2.2.2.2.2.2.2.2.1), (17, res.2.2.2.2.2.2.2.2.2.2)]) (gm B [])) (some (.int res.1)) Af args s) (F0 m 206 ls [])
def SX9_reads_289 (p : Program) (l : Launch) (e : Env) (s : State) (m : MethodId) (args : Array Value) (below : List Frame) (meth : Method) (c : Code) (D : va_G) (cy : Nat → ClassId) (ad : Nat → Nat) (P : MP) (V : MV) (I : MI) (J : MJ) (A : MI) (B : MJ) (Af : Nat → Prop) (res : Int32 × Int32 × Int32 × Int32 × Int32 × Int32 × Int32 × Int64 × (Nat → Int32) × (Nat → Int32) × (Nat → Int32)) (k : Int32 → Int32 → Int32 → Int32 → Int32 → Int32 → Int64 → (Nat → Int32) → (Nat → Int32) → (Nat → Int32) → Int32 → Int32 → Option (Int32 × Int32 × Int32 × Int32 × Int32 × Int32 × Int32 × Int64 × (Nat → Int32) × (Nat → Int32) × (Nat → Int32))) : Prop := ∀ (m_place : Int32) (m_begin : Int32) (m_token : Int32) (m_told : Int32) (m_wrong : Int32) (m_code : Int32) (m_word : Int64) (m_codes : (Nat → Int32)) (m_opened : (Nat → Int32)) (m_compared : (Nat → Int32)) (v1 : Int32) (x0 : Int32) (H : Heap) (locs : List Loc) (ls : Array Slot), wd D (dn cy LY_X9 ad P V (gp I [(0, 4, m_place), (0, 5, m_begin), (0, 6, m_token), (0, 8, m_told), (0, 9, m_wrong), (0, 24, m_code)]) (gp J [(0, 7, m_word)]) (gm A [(15, m_codes), (16, m_opened), (17, m_compared)]) (gm B [])) Af s.heap H locs → lv_has ls 6 [(0, .ref (ad 0)), (1, .int v1)] → k m_place m_begin m_token m_told m_wrong m_code m_word m_codes m_opened m_compared v1 x0 = some res → W p l e rmX9_reads s m args below meth c H locs 0 0 (ZQ below D cy (dn cy LY_X9 ad P V (gp I [(0, 4, res.2.1), (0, 5, res.2.2.1), (0, 6, res.2.2.2.1), (0, 8, res.2.2.2.2.1), (0, 9, res.2.2.2.2.2.1), (0, 24, res.2.2.2.2.2.2.1)]) (gp J [(0, 7, res.2.2.2.2.2.2.2.1)]) (gm A [(15, res.2.2.2.2.2.2.2.2.1), (16, res.2.2.2.2.2.2.2.2.2.1), (17, res.2.2.2.2.2.2.2.2.2.2)]) (gm B [])) (some (.int res.1)) Af args s) (F0 m 289 ls [.int x0, .ref (ad 0)])
def SX9_reads_342 (p : Program) (l : Launch) (e : Env) (s : State) (m : MethodId) (args : Array Value) (below : List Frame) (meth : Method) (c : Code) (D : va_G) (cy : Nat → ClassId) (ad : Nat → Nat) (P : MP) (V : MV) (I : MI) (J : MJ) (A : MI) (B : MJ) (Af : Nat → Prop) (res : Int32 × Int32 × Int32 × Int32 × Int32 × Int32 × Int32 × Int64 × (Nat → Int32) × (Nat → Int32) × (Nat → Int32)) (k : Int32 → Int32 → Int32 → Int32 → Int32 → Int32 → Int64 → (Nat → Int32) → (Nat → Int32) → (Nat → Int32) → Int32 → Int32 → Option (Int32 × Int32 × Int32 × Int32 × Int32 × Int32 × Int32 × Int64 × (Nat → Int32) × (Nat → Int32) × (Nat → Int32))) : Prop := ∀ (m_place : Int32) (m_begin : Int32) (m_token : Int32) (m_told : Int32) (m_wrong : Int32) (m_code : Int32) (m_word : Int64) (m_codes : (Nat → Int32)) (m_opened : (Nat → Int32)) (m_compared : (Nat → Int32)) (v1 : Int32) (x0 : Int32) (H : Heap) (locs : List Loc) (ls : Array Slot), wd D (dn cy LY_X9 ad P V (gp I [(0, 4, m_place), (0, 5, m_begin), (0, 6, m_token), (0, 8, m_told), (0, 9, m_wrong), (0, 24, m_code)]) (gp J [(0, 7, m_word)]) (gm A [(15, m_codes), (16, m_opened), (17, m_compared)]) (gm B [])) Af s.heap H locs → lv_has ls 6 [(0, .ref (ad 0)), (1, .int v1)] → k m_place m_begin m_token m_told m_wrong m_code m_word m_codes m_opened m_compared v1 x0 = some res → W p l e rmX9_reads s m args below meth c H locs 0 0 (ZQ below D cy (dn cy LY_X9 ad P V (gp I [(0, 4, res.2.1), (0, 5, res.2.2.1), (0, 6, res.2.2.2.1), (0, 8, res.2.2.2.2.1), (0, 9, res.2.2.2.2.2.1), (0, 24, res.2.2.2.2.2.2.1)]) (gp J [(0, 7, res.2.2.2.2.2.2.2.1)]) (gm A [(15, res.2.2.2.2.2.2.2.2.1), (16, res.2.2.2.2.2.2.2.2.2.1), (17, res.2.2.2.2.2.2.2.2.2.2)]) (gm B [])) (some (.int res.1)) Af args s) (F0 m 342 ls [.int x0, .ref (ad 0)])
def SX9_reads_324 (p : Program) (l : Launch) (e : Env) (s : State) (m : MethodId) (args : Array Value) (below : List Frame) (meth : Method) (c : Code) (D : va_G) (cy : Nat → ClassId) (ad : Nat → Nat) (P : MP) (V : MV) (I : MI) (J : MJ) (A : MI) (B : MJ) (Af : Nat → Prop) (res : Int32 × Int32 × Int32 × Int32 × Int32 × Int32 × Int32 × Int64 × (Nat → Int32) × (Nat → Int32) × (Nat → Int32)) (k : Int32 → Int32 → Int32 → Int32 → Int32 → Int32 → Int64 → (Nat → Int32) → (Nat → Int32) → (Nat → Int32) → Int32 → Option (Int32 × Int32 × Int32 × Int32 × Int32 × Int32 × Int32 × Int64 × (Nat → Int32) × (Nat → Int32) × (Nat → Int32))) : Prop := ∀ (m_place : Int32) (m_begin : Int32) (m_token : Int32) (m_told : Int32) (m_wrong : Int32) (m_code : Int32) (m_word : Int64) (m_codes : (Nat → Int32)) (m_opened : (Nat → Int32)) (m_compared : (Nat → Int32)) (v1 : Int32) (H : Heap) (locs : List Loc) (ls : Array Slot), wd D (dn cy LY_X9 ad P V (gp I [(0, 4, m_place), (0, 5, m_begin), (0, 6, m_token), (0, 8, m_told), (0, 9, m_wrong), (0, 24, m_code)]) (gp J [(0, 7, m_word)]) (gm A [(15, m_codes), (16, m_opened), (17, m_compared)]) (gm B [])) Af s.heap H locs → lv_has ls 6 [(0, .ref (ad 0)), (1, .int v1)] → k m_place m_begin m_token m_told m_wrong m_code m_word m_codes m_opened m_compared v1 = some res → W p l e rmX9_reads s m args below meth c H locs 0 0 (ZQ below D cy (dn cy LY_X9 ad P V (gp I [(0, 4, res.2.1), (0, 5, res.2.2.1), (0, 6, res.2.2.2.1), (0, 8, res.2.2.2.2.1), (0, 9, res.2.2.2.2.2.1), (0, 24, res.2.2.2.2.2.2.1)]) (gp J [(0, 7, res.2.2.2.2.2.2.2.1)]) (gm A [(15, res.2.2.2.2.2.2.2.2.1), (16, res.2.2.2.2.2.2.2.2.2.1), (17, res.2.2.2.2.2.2.2.2.2.2)]) (gm B [])) (some (.int res.1)) Af args s) (F0 m 324 ls [])
def SX9_reads_379 (p : Program) (l : Launch) (e : Env) (s : State) (m : MethodId) (args : Array Value) (below : List Frame) (meth : Method) (c : Code) (D : va_G) (cy : Nat → ClassId) (ad : Nat → Nat) (P : MP) (V : MV) (I : MI) (J : MJ) (A : MI) (B : MJ) (Af : Nat → Prop) (res : Int32 × Int32 × Int32 × Int32 × Int32 × Int32 × Int32 × Int64 × (Nat → Int32) × (Nat → Int32) × (Nat → Int32)) (k : Int32 → Int32 → Int32 → Int32 → Int32 → Int32 → Int64 → (Nat → Int32) → (Nat → Int32) → (Nat → Int32) → Int32 → Int32 → Option (Int32 × Int32 × Int32 × Int32 × Int32 × Int32 × Int32 × Int64 × (Nat → Int32) × (Nat → Int32) × (Nat → Int32))) : Prop := ∀ (m_place : Int32) (m_begin : Int32) (m_token : Int32) (m_told : Int32) (m_wrong : Int32) (m_code : Int32) (m_word : Int64) (m_codes : (Nat → Int32)) (m_opened : (Nat → Int32)) (m_compared : (Nat → Int32)) (v1 : Int32) (v2 : Int32) (H : Heap) (locs : List Loc) (ls : Array Slot), wd D (dn cy LY_X9 ad P V (gp I [(0, 4, m_place), (0, 5, m_begin), (0, 6, m_token), (0, 8, m_told), (0, 9, m_wrong), (0, 24, m_code)]) (gp J [(0, 7, m_word)]) (gm A [(15, m_codes), (16, m_opened), (17, m_compared)]) (gm B [])) Af s.heap H locs → lv_has ls 6 [(0, .ref (ad 0)), (1, .int v1), (2, .int v2)] → k m_place m_begin m_token m_told m_wrong m_code m_word m_codes m_opened m_compared v1 v2 = some res → W p l e rmX9_reads s m args below meth c H locs 0 0 (ZQ below D cy (dn cy LY_X9 ad P V (gp I [(0, 4, res.2.1), (0, 5, res.2.2.1), (0, 6, res.2.2.2.1), (0, 8, res.2.2.2.2.1), (0, 9, res.2.2.2.2.2.1), (0, 24, res.2.2.2.2.2.2.1)]) (gp J [(0, 7, res.2.2.2.2.2.2.2.1)]) (gm A [(15, res.2.2.2.2.2.2.2.2.1), (16, res.2.2.2.2.2.2.2.2.2.1), (17, res.2.2.2.2.2.2.2.2.2.2)]) (gm B [])) (some (.int res.1)) Af args s) (F0 m 379 ls [])
def SX9_reads_418 (p : Program) (l : Launch) (e : Env) (s : State) (m : MethodId) (args : Array Value) (below : List Frame) (meth : Method) (c : Code) (D : va_G) (cy : Nat → ClassId) (ad : Nat → Nat) (P : MP) (V : MV) (I : MI) (J : MJ) (A : MI) (B : MJ) (Af : Nat → Prop) (res : Int32 × Int32 × Int32 × Int32 × Int32 × Int32 × Int32 × Int64 × (Nat → Int32) × (Nat → Int32) × (Nat → Int32)) (k : Int32 → Int32 → Int32 → Int32 → Int32 → Int32 → Int64 → (Nat → Int32) → (Nat → Int32) → (Nat → Int32) → Option (Int32 × Int32 × Int32 × Int32 × Int32 × Int32 × Int32 × Int64 × (Nat → Int32) × (Nat → Int32) × (Nat → Int32))) : Prop := ∀ (m_place : Int32) (m_begin : Int32) (m_token : Int32) (m_told : Int32) (m_wrong : Int32) (m_code : Int32) (m_word : Int64) (m_codes : (Nat → Int32)) (m_opened : (Nat → Int32)) (m_compared : (Nat → Int32)) (H : Heap) (locs : List Loc) (ls : Array Slot), wd D (dn cy LY_X9 ad P V (gp I [(0, 4, m_place), (0, 5, m_begin), (0, 6, m_token), (0, 8, m_told), (0, 9, m_wrong), (0, 24, m_code)]) (gp J [(0, 7, m_word)]) (gm A [(15, m_codes), (16, m_opened), (17, m_compared)]) (gm B [])) Af s.heap H locs → lv_has ls 6 [(0, .ref (ad 0))] → k m_place m_begin m_token m_told m_wrong m_code m_word m_codes m_opened m_compared = some res → W p l e rmX9_reads s m args below meth c H locs 0 0 (ZQ below D cy (dn cy LY_X9 ad P V (gp I [(0, 4, res.2.1), (0, 5, res.2.2.1), (0, 6, res.2.2.2.1), (0, 8, res.2.2.2.2.1), (0, 9, res.2.2.2.2.2.1), (0, 24, res.2.2.2.2.2.2.1)]) (gp J [(0, 7, res.2.2.2.2.2.2.2.1)]) (gm A [(15, res.2.2.2.2.2.2.2.2.1), (16, res.2.2.2.2.2.2.2.2.2.1), (17, res.2.2.2.2.2.2.2.2.2.2)]) (gm B [])) (some (.int res.1)) Af args s) (F0 m 418 ls [])
def SX9_reads_399 (p : Program) (l : Launch) (e : Env) (s : State) (m : MethodId) (args : Array Value) (below : List Frame) (meth : Method) (c : Code) (D : va_G) (cy : Nat → ClassId) (ad : Nat → Nat) (P : MP) (V : MV) (I : MI) (J : MJ) (A : MI) (B : MJ) (Af : Nat → Prop) (res : Int32 × Int32 × Int32 × Int32 × Int32 × Int32 × Int32 × Int64 × (Nat → Int32) × (Nat → Int32) × (Nat → Int32)) (k : Int32 → Int32 → Int32 → Int32 → Int32 → Int32 → Int64 → (Nat → Int32) → (Nat → Int32) → (Nat → Int32) → Int32 → Option (Int32 × Int32 × Int32 × Int32 × Int32 × Int32 × Int32 × Int64 × (Nat → Int32) × (Nat → Int32) × (Nat → Int32))) : Prop := ∀ (m_place : Int32) (m_begin : Int32) (m_token : Int32) (m_told : Int32) (m_wrong : Int32) (m_code : Int32) (m_word : Int64) (m_codes : (Nat → Int32)) (m_opened : (Nat → Int32)) (m_compared : (Nat → Int32)) (v1 : Int32) (H : Heap) (locs : List Loc) (ls : Array Slot), wd D (dn cy LY_X9 ad P V (gp I [(0, 4, m_place), (0, 5, m_begin), (0, 6, m_token), (0, 8, m_told), (0, 9, m_wrong), (0, 24, m_code)]) (gp J [(0, 7, m_word)]) (gm A [(15, m_codes), (16, m_opened), (17, m_compared)]) (gm B [])) Af s.heap H locs → lv_has ls 6 [(0, .ref (ad 0)), (1, .int v1)] → k m_place m_begin m_token m_told m_wrong m_code m_word m_codes m_opened m_compared v1 = some res → W p l e rmX9_reads s m args below meth c H locs 0 0 (ZQ below D cy (dn cy LY_X9 ad P V (gp I [(0, 4, res.2.1), (0, 5, res.2.2.1), (0, 6, res.2.2.2.1), (0, 8, res.2.2.2.2.1), (0, 9, res.2.2.2.2.2.1), (0, 24, res.2.2.2.2.2.2.1)]) (gp J [(0, 7, res.2.2.2.2.2.2.2.1)]) (gm A [(15, res.2.2.2.2.2.2.2.2.1), (16, res.2.2.2.2.2.2.2.2.2.1), (17, res.2.2.2.2.2.2.2.2.2.2)]) (gm B [])) (some (.int res.1)) Af args s) (F0 m 399 ls [])
def SX9_reads_304 (p : Program) (l : Launch) (e : Env) (s : State) (m : MethodId) (args : Array Value) (below : List Frame) (meth : Method) (c : Code) (D : va_G) (cy : Nat → ClassId) (ad : Nat → Nat) (P : MP) (V : MV) (I : MI) (J : MJ) (A : MI) (B : MJ) (Af : Nat → Prop) (res : Int32 × Int32 × Int32 × Int32 × Int32 × Int32 × Int32 × Int64 × (Nat → Int32) × (Nat → Int32) × (Nat → Int32)) (k : Int32 → Int32 → Int32 → Int32 → Int32 → Int32 → Int64 → (Nat → Int32) → (Nat → Int32) → (Nat → Int32) → Int32 → Int32 → Option (Int32 × Int32 × Int32 × Int32 × Int32 × Int32 × Int32 × Int64 × (Nat → Int32) × (Nat → Int32) × (Nat → Int32))) : Prop := ∀ (m_place : Int32) (m_begin : Int32) (m_token : Int32) (m_told : Int32) (m_wrong : Int32) (m_code : Int32) (m_word : Int64) (m_codes : (Nat → Int32)) (m_opened : (Nat → Int32)) (m_compared : (Nat → Int32)) (v1 : Int32) (v2 : Int32) (H : Heap) (locs : List Loc) (ls : Array Slot), wd D (dn cy LY_X9 ad P V (gp I [(0, 4, m_place), (0, 5, m_begin), (0, 6, m_token), (0, 8, m_told), (0, 9, m_wrong), (0, 24, m_code)]) (gp J [(0, 7, m_word)]) (gm A [(15, m_codes), (16, m_opened), (17, m_compared)]) (gm B [])) Af s.heap H locs → lv_has ls 6 [(0, .ref (ad 0)), (1, .int v1), (2, .int v2)] → k m_place m_begin m_token m_told m_wrong m_code m_word m_codes m_opened m_compared v1 v2 = some res → W p l e rmX9_reads s m args below meth c H locs 0 0 (ZQ below D cy (dn cy LY_X9 ad P V (gp I [(0, 4, res.2.1), (0, 5, res.2.2.1), (0, 6, res.2.2.2.1), (0, 8, res.2.2.2.2.1), (0, 9, res.2.2.2.2.2.1), (0, 24, res.2.2.2.2.2.2.1)]) (gp J [(0, 7, res.2.2.2.2.2.2.2.1)]) (gm A [(15, res.2.2.2.2.2.2.2.2.1), (16, res.2.2.2.2.2.2.2.2.2.1), (17, res.2.2.2.2.2.2.2.2.2.2)]) (gm B [])) (some (.int res.1)) Af args s) (F0 m 304 ls [])
def SX9_reads_263 (p : Program) (l : Launch) (e : Env) (s : State) (m : MethodId) (args : Array Value) (below : List Frame) (meth : Method) (c : Code) (D : va_G) (cy : Nat → ClassId) (ad : Nat → Nat) (P : MP) (V : MV) (I : MI) (J : MJ) (A : MI) (B : MJ) (Af : Nat → Prop) (res : Int32 × Int32 × Int32 × Int32 × Int32 × Int32 × Int32 × Int64 × (Nat → Int32) × (Nat → Int32) × (Nat → Int32)) (k : Int32 → Int32 → Int32 → Int32 → Int32 → Int32 → Int64 → (Nat → Int32) → (Nat → Int32) → (Nat → Int32) → Int32 → Int32 → Option (Int32 × Int32 × Int32 × Int32 × Int32 × Int32 × Int32 × Int64 × (Nat → Int32) × (Nat → Int32) × (Nat → Int32))) : Prop := ∀ (m_place : Int32) (m_begin : Int32) (m_token : Int32) (m_told : Int32) (m_wrong : Int32) (m_code : Int32) (m_word : Int64) (m_codes : (Nat → Int32)) (m_opened : (Nat → Int32)) (m_compared : (Nat → Int32)) (v1 : Int32) (v2 : Int32) (H : Heap) (locs : List Loc) (ls : Array Slot), wd D (dn cy LY_X9 ad P V (gp I [(0, 4, m_place), (0, 5, m_begin), (0, 6, m_token), (0, 8, m_told), (0, 9, m_wrong), (0, 24, m_code)]) (gp J [(0, 7, m_word)]) (gm A [(15, m_codes), (16, m_opened), (17, m_compared)]) (gm B [])) Af s.heap H locs → lv_has ls 6 [(0, .ref (ad 0)), (1, .int v1), (2, .int v2)] → k m_place m_begin m_token m_told m_wrong m_code m_word m_codes m_opened m_compared v1 v2 = some res → W p l e rmX9_reads s m args below meth c H locs 0 0 (ZQ below D cy (dn cy LY_X9 ad P V (gp I [(0, 4, res.2.1), (0, 5, res.2.2.1), (0, 6, res.2.2.2.1), (0, 8, res.2.2.2.2.1), (0, 9, res.2.2.2.2.2.1), (0, 24, res.2.2.2.2.2.2.1)]) (gp J [(0, 7, res.2.2.2.2.2.2.2.1)]) (gm A [(15, res.2.2.2.2.2.2.2.2.1), (16, res.2.2.2.2.2.2.2.2.2.1), (17, res.2.2.2.2.2.2.2.2.2.2)]) (gm B [])) (some (.int res.1)) Af args s) (F0 m 263 ls [])
def SX9_reads_11 (p : Program) (l : Launch) (e : Env) (s : State) (m : MethodId) (args : Array Value) (below : List Frame) (meth : Method) (c : Code) (D : va_G) (cy : Nat → ClassId) (ad : Nat → Nat) (P : MP) (V : MV) (I : MI) (J : MJ) (A : MI) (B : MJ) (Af : Nat → Prop) (res : Int32 × Int32 × Int32 × Int32 × Int32 × Int32 × Int32 × Int64 × (Nat → Int32) × (Nat → Int32) × (Nat → Int32)) (k : Int32 → Int32 → Int32 → Int32 → Int32 → Int32 → Int64 → (Nat → Int32) → (Nat → Int32) → (Nat → Int32) → Int32 → Int32 → Option (Int32 × Int32 × Int32 × Int32 × Int32 × Int32 × Int32 × Int64 × (Nat → Int32) × (Nat → Int32) × (Nat → Int32))) : Prop := ∀ (m_place : Int32) (m_begin : Int32) (m_token : Int32) (m_told : Int32) (m_wrong : Int32) (m_code : Int32) (m_word : Int64) (m_codes : (Nat → Int32)) (m_opened : (Nat → Int32)) (m_compared : (Nat → Int32)) (v1 : Int32) (v2 : Int32) (H : Heap) (locs : List Loc) (ls : Array Slot), wd D (dn cy LY_X9 ad P V (gp I [(0, 4, m_place), (0, 5, m_begin), (0, 6, m_token), (0, 8, m_told), (0, 9, m_wrong), (0, 24, m_code)]) (gp J [(0, 7, m_word)]) (gm A [(15, m_codes), (16, m_opened), (17, m_compared)]) (gm B [])) Af s.heap H locs → lv_has ls 6 [(0, .ref (ad 0)), (1, .int v1), (2, .int v2)] → k m_place m_begin m_token m_told m_wrong m_code m_word m_codes m_opened m_compared v1 v2 = some res → W p l e rmX9_reads s m args below meth c H locs 0 0 (ZQ below D cy (dn cy LY_X9 ad P V (gp I [(0, 4, res.2.1), (0, 5, res.2.2.1), (0, 6, res.2.2.2.1), (0, 8, res.2.2.2.2.1), (0, 9, res.2.2.2.2.2.1), (0, 24, res.2.2.2.2.2.2.1)]) (gp J [(0, 7, res.2.2.2.2.2.2.2.1)]) (gm A [(15, res.2.2.2.2.2.2.2.2.1), (16, res.2.2.2.2.2.2.2.2.2.1), (17, res.2.2.2.2.2.2.2.2.2.2)]) (gm B [])) (some (.int res.1)) Af args s) (F0 m 11 ls [])
def fX9_reads_172 (m_size : Int32) (m_tape : (Nat → Int32)) (k11 : Int32 → Int32 → Int32 → Int32 → Int32 → Int32 → Int64 → (Nat → Int32) → (Nat → Int32) → (Nat → Int32) → Int32 → Int32 → Option (Int32 × Int32 × Int32 × Int32 × Int32 × Int32 × Int32 × Int64 × (Nat → Int32) × (Nat → Int32) × (Nat → Int32))) (m_place : Int32) (m_begin : Int32) (m_token : Int32) (m_told : Int32) (m_wrong : Int32) (m_code : Int32) (m_word : Int64) (m_codes : (Nat → Int32)) (m_opened : (Nat → Int32)) (m_compared : (Nat → Int32)) (v1 : Int32) (v2 : Int32) : Option (Int32 × Int32 × Int32 × Int32 × Int32 × Int32 × Int32 × Int64 × (Nat → Int32) × (Nat → Int32) × (Nat → Int32)) := Option.bind (fX9_nextToken m_size m_tape m_place m_begin m_token m_told m_word) fun y1 => (k11 y1.1 y1.2.1 y1.2.2.1 y1.2.2.2.1 m_wrong m_code y1.2.2.2.2 m_codes m_opened m_compared v1 v2)
set_option maxHeartbeats 4000000 in
set_option maxRecDepth 100000 in
theorem tX9_reads_172 {p : Program} {l : Launch} {e : Env} {s : State} {m : MethodId} {args : Array Value} {below : List Frame} {meth : Method} {c : Code} {D : va_G} {cy : Nat → ClassId} {ad : Nat → Nat} {P : MP} {V : MV} {I : MI} {J : MJ} {A : MI} {B : MJ} {Af : Nat → Prop} {res : Int32 × Int32 × Int32 × Int32 × Int32 × Int32 × Int32 × Int64 × (Nat → Int32) × (Nat → Int32) × (Nat → Int32)} (C0 : CX p s m args meth c cX9_reads 6 (some .boolean) RX9) (hK : va_K D vwCl (tyG cy) s) (hN : NWs s) (hA : ∀ q, s.heap.size ≤ q → Af q) {k11 : Int32 → Int32 → Int32 → Int32 → Int32 → Int32 → Int64 → (Nat → Int32) → (Nat → Int32) → (Nat → Int32) → Int32 → Int32 → Option (Int32 × Int32 × Int32 × Int32 × Int32 × Int32 × Int32 × Int64 × (Nat → Int32) × (Nat → Int32) × (Nat → Int32))} (hk11 : SX9_reads_11 p l e s m args below meth c D cy ad P V I J A B Af res k11) : SX9_reads_172 p l e s m args below meth c D cy ad P V I J A B Af res (fX9_reads_172 (I 0 3) (A 1) k11) := by
  intro m_place m_begin m_token m_told m_wrong m_code m_word m_codes m_opened m_compared v1 v2 H locs ls hW hl hf
  unfold fX9_reads_172 at hf
  refine lv_aload_n C0.1 C0.2.1 dX9_reads_172 rfl (lv_at hl 0 rfl) ?_
  obtain ⟨y1, hy1, hf⟩ := b_some hf
  refine c_Vv C0 hK hN hl.1 hW hA (KX9_nextToken l D cy  ad P V (gp I [(0, 4, m_place), (0, 5, m_begin), (0, 6, m_token), (0, 8, m_told), (0, 9, m_wrong), (0, 24, m_code)]) (gp J [(0, 7, m_word)]) (gm A [(15, m_codes), (16, m_opened), (17, m_compared)]) (gm B [])  hy1) (JN_id rfl rfl rfl rfl) (Uw_V uw_1263 uw_1265 us_38 uw_14 uw_1266) rfl rfl hd_X9_nextToken ⟨rfl, rfl⟩ rfl (dn_some LY_X9_0) rfl rfl rfl dX9_reads_173 ⟨Nat.zero_le _, Nat.zero_le _⟩ (fun H locs hW => ?_)
  have hW : wd D (dn cy LY_X9 ad P V (gp I [(0, 4, y1.1), (0, 5, y1.2.1), (0, 6, y1.2.2.1), (0, 8, y1.2.2.2.1), (0, 9, m_wrong), (0, 24, m_code)]) (gp J [(0, 7, y1.2.2.2.2)]) (gm A [(15, m_codes), (16, m_opened), (17, m_compared)]) (gm B [])) Af s.heap H locs := hW
  refine lv_goto (tgt := 11) C0.1 C0.2.1 dX9_reads_176 (by decide) ?_
  exact hk11 y1.1 y1.2.1 y1.2.2.1 y1.2.2.2.1 m_wrong m_code y1.2.2.2.2 m_codes m_opened m_compared v1 v2 H locs ls hW hl hf
def fX9_reads_120 (m_size : Int32) (m_tape : (Nat → Int32)) (k11 : Int32 → Int32 → Int32 → Int32 → Int32 → Int32 → Int64 → (Nat → Int32) → (Nat → Int32) → (Nat → Int32) → Int32 → Int32 → Option (Int32 × Int32 × Int32 × Int32 × Int32 × Int32 × Int32 × Int64 × (Nat → Int32) × (Nat → Int32) × (Nat → Int32))) (m_place : Int32) (m_begin : Int32) (m_token : Int32) (m_told : Int32) (m_wrong : Int32) (m_code : Int32) (m_word : Int64) (m_codes : (Nat → Int32)) (m_opened : (Nat → Int32)) (m_compared : (Nat → Int32)) (v1 : Int32) (v2 : Int32) (x0 : Int32) (x1 : Int32) : Option (Int32 × Int32 × Int32 × Int32 × Int32 × Int32 × Int32 × Int64 × (Nat → Int32) × (Nat → Int32) × (Nat → Int32)) := bif inb x1 7 then (bif inb v1 7 then (fX9_reads_172 m_size m_tape k11 m_place m_begin m_token m_told m_wrong m_code m_word m_codes (upd m_opened (Int32.toNatClampNeg x1) x0) (upd m_compared (Int32.toNatClampNeg v1) (vp_nar .boolean 0)) v1 v2) else none) else none
set_option maxHeartbeats 4000000 in
set_option maxRecDepth 100000 in
theorem tX9_reads_120 {p : Program} {l : Launch} {e : Env} {s : State} {m : MethodId} {args : Array Value} {below : List Frame} {meth : Method} {c : Code} {D : va_G} {cy : Nat → ClassId} {ad : Nat → Nat} {P : MP} {V : MV} {I : MI} {J : MJ} {A : MI} {B : MJ} {Af : Nat → Prop} {res : Int32 × Int32 × Int32 × Int32 × Int32 × Int32 × Int32 × Int64 × (Nat → Int32) × (Nat → Int32) × (Nat → Int32)} (C0 : CX p s m args meth c cX9_reads 6 (some .boolean) RX9) (hK : va_K D vwCl (tyG cy) s) (hN : NWs s) (hA : ∀ q, s.heap.size ≤ q → Af q) {k11 : Int32 → Int32 → Int32 → Int32 → Int32 → Int32 → Int64 → (Nat → Int32) → (Nat → Int32) → (Nat → Int32) → Int32 → Int32 → Option (Int32 × Int32 × Int32 × Int32 × Int32 × Int32 × Int32 × Int64 × (Nat → Int32) × (Nat → Int32) × (Nat → Int32))} (hk11 : SX9_reads_11 p l e s m args below meth c D cy ad P V I J A B Af res k11) : SX9_reads_120 p l e s m args below meth c D cy ad P V I J A B Af res (fX9_reads_120 (I 0 3) (A 1) k11) := by
  intro m_place m_begin m_token m_told m_wrong m_code m_word m_codes m_opened m_compared v1 v2 x0 x1 H locs ls hW hl hf
  unfold fX9_reads_120 at hf
  obtain ⟨hb1, hf⟩ := g_some hf
  refine s_iast (f := (upd m_opened (Int32.toNatClampNeg x1) x0)) C0 hK hW 16 LY_X9_16 hb1 rfl rfl dX9_reads_120 (fun H locs hW => ?_)
  have hW : wd D (dn cy LY_X9 ad P V (gp I [(0, 4, m_place), (0, 5, m_begin), (0, 6, m_token), (0, 8, m_told), (0, 9, m_wrong), (0, 24, m_code)]) (gp J [(0, 7, m_word)]) (gm A [(15, m_codes), (16, (upd m_opened (Int32.toNatClampNeg x1) x0)), (17, m_compared)]) (gm B [])) Af s.heap H locs := hW
  refine lv_aload_n C0.1 C0.2.1 dX9_reads_121 rfl (lv_at hl 0 rfl) ?_
  refine s_get (v := .ref (ad 17)) C0 hK hW 0 27 LY_X9_0 rfl fg_X9_59 rfl dX9_reads_122 ?_
  refine lv_iload_n C0.1 C0.2.1 dX9_reads_125 rfl (lv_at hl 1 rfl) ?_
  refine lv_iconst (v := 0) C0.1 C0.2.1 dX9_reads_126 kI_0 ?_
  obtain ⟨hb2, hf⟩ := g_some hf
  refine s_zast (f := (upd m_compared (Int32.toNatClampNeg v1) (vp_nar .boolean 0))) C0 hK hW 17 LY_X9_17 hb2 rfl rfl dX9_reads_127 (fun H locs hW => ?_)
  have hW : wd D (dn cy LY_X9 ad P V (gp I [(0, 4, m_place), (0, 5, m_begin), (0, 6, m_token), (0, 8, m_told), (0, 9, m_wrong), (0, 24, m_code)]) (gp J [(0, 7, m_word)]) (gm A [(15, m_codes), (16, (upd m_opened (Int32.toNatClampNeg x1) x0)), (17, (upd m_compared (Int32.toNatClampNeg v1) (vp_nar .boolean 0)))]) (gm B [])) Af s.heap H locs := hW
  refine lv_goto (tgt := 172) C0.1 C0.2.1 dX9_reads_128 (by decide) ?_
  exact tX9_reads_172 C0 hK hN hA hk11 m_place m_begin m_token m_told m_wrong m_code m_word m_codes (upd m_opened (Int32.toNatClampNeg x1) x0) (upd m_compared (Int32.toNatClampNeg v1) (vp_nar .boolean 0)) v1 v2 H locs ls hW hl hf
def fX9_reads_99 (m_size : Int32) (m_tape : (Nat → Int32)) (k11 : Int32 → Int32 → Int32 → Int32 → Int32 → Int32 → Int64 → (Nat → Int32) → (Nat → Int32) → (Nat → Int32) → Int32 → Int32 → Option (Int32 × Int32 × Int32 × Int32 × Int32 × Int32 × Int32 × Int64 × (Nat → Int32) × (Nat → Int32) × (Nat → Int32))) (m_place : Int32) (m_begin : Int32) (m_token : Int32) (m_told : Int32) (m_wrong : Int32) (m_code : Int32) (m_word : Int64) (m_codes : (Nat → Int32)) (m_opened : (Nat → Int32)) (m_compared : (Nat → Int32)) (v1 : Int32) (v2 : Int32) (v4 : Int32) (x0 : Int32) : Option (Int32 × Int32 × Int32 × Int32 × Int32 × Int32 × Int32 × Int64 × (Nat → Int32) × (Nat → Int32) × (Nat → Int32)) := Option.bind (fX9_puts m_code m_codes x0) fun y1 => (if v4 = 0 then (fX9_reads_120 m_size m_tape k11 m_place m_begin m_token m_told m_wrong y1.1 m_word y1.2 m_opened m_compared (v1 + 1) v2 2 (v1 + 1)) else (fX9_reads_120 m_size m_tape k11 m_place m_begin m_token m_told m_wrong y1.1 m_word y1.2 m_opened m_compared (v1 + 1) v2 1 (v1 + 1)))
set_option maxHeartbeats 4000000 in
set_option maxRecDepth 100000 in
theorem tX9_reads_99 {p : Program} {l : Launch} {e : Env} {s : State} {m : MethodId} {args : Array Value} {below : List Frame} {meth : Method} {c : Code} {D : va_G} {cy : Nat → ClassId} {ad : Nat → Nat} {P : MP} {V : MV} {I : MI} {J : MJ} {A : MI} {B : MJ} {Af : Nat → Prop} {res : Int32 × Int32 × Int32 × Int32 × Int32 × Int32 × Int32 × Int64 × (Nat → Int32) × (Nat → Int32) × (Nat → Int32)} (C0 : CX p s m args meth c cX9_reads 6 (some .boolean) RX9) (hK : va_K D vwCl (tyG cy) s) (hN : NWs s) (hA : ∀ q, s.heap.size ≤ q → Af q) {k11 : Int32 → Int32 → Int32 → Int32 → Int32 → Int32 → Int64 → (Nat → Int32) → (Nat → Int32) → (Nat → Int32) → Int32 → Int32 → Option (Int32 × Int32 × Int32 × Int32 × Int32 × Int32 × Int32 × Int64 × (Nat → Int32) × (Nat → Int32) × (Nat → Int32))} (hk11 : SX9_reads_11 p l e s m args below meth c D cy ad P V I J A B Af res k11) : SX9_reads_99 p l e s m args below meth c D cy ad P V I J A B Af res (fX9_reads_99 (I 0 3) (A 1) k11) := by
  intro m_place m_begin m_token m_told m_wrong m_code m_word m_codes m_opened m_compared v1 v2 v4 x0 H locs ls hW hl hf
  unfold fX9_reads_99 at hf
  obtain ⟨y1, hy1, hf⟩ := b_some hf
  refine c_Vv C0 hK hN hl.1 hW hA (KX9_puts l D cy  ad P V (gp I [(0, 4, m_place), (0, 5, m_begin), (0, 6, m_token), (0, 8, m_told), (0, 9, m_wrong), (0, 24, m_code)]) (gp J [(0, 7, m_word)]) (gm A [(15, m_codes), (16, m_opened), (17, m_compared)]) (gm B []) x0 hy1) (JN_id rfl rfl rfl rfl) (Uw_V uw_1382 uw_1384 us_60 uw_14 uw_1385) rfl rfl hd_X9_puts ⟨rfl, rfl⟩ rfl (dn_some LY_X9_0) rfl rfl rfl dX9_reads_99 ⟨Nat.zero_le _, Nat.zero_le _⟩ (fun H locs hW => ?_)
  have hW : wd D (dn cy LY_X9 ad P V (gp I [(0, 4, m_place), (0, 5, m_begin), (0, 6, m_token), (0, 8, m_told), (0, 9, m_wrong), (0, 24, y1.1)]) (gp J [(0, 7, m_word)]) (gm A [(15, y1.2), (16, m_opened), (17, m_compared)]) (gm B [])) Af s.heap H locs := hW
  refine lv_iinc (v := (v1 + 1)) (lv' := [(1, .int (v1 + 1)), (0, .ref (ad 0)), (2, .int v2), (4, .int v4)]) C0.1 C0.2.1 dX9_reads_102 hl (k := 1) rfl (congrArg (fun z => _ + z) kI_1) (by decide) rfl (fun ls hl => ?_)
  refine lv_aload_n C0.1 C0.2.1 dX9_reads_105 rfl (lv_at hl 1 rfl) ?_
  refine s_get (v := .ref (ad 16)) C0 hK hW 0 26 LY_X9_0 rfl fg_X9_56 rfl dX9_reads_106 ?_
  refine lv_iload_n C0.1 C0.2.1 dX9_reads_109 rfl (lv_at hl 0 rfl) ?_
  refine lv_iload C0.1 C0.2.1 dX9_reads_110 (lv_at hl 3 rfl) ?_
  refine lv_if_eq (tgt := 119) C0.1 C0.2.1 dX9_reads_112 (by decide) (fun hc2 => ?_) (fun hc2 => ?_)
  · have hf := ite_t hc2 hf
    refine lv_iconst (v := 2) C0.1 C0.2.1 dX9_reads_119 kI_2 ?_
    exact tX9_reads_120 C0 hK hN hA hk11 m_place m_begin m_token m_told m_wrong y1.1 m_word y1.2 m_opened m_compared (v1 + 1) v2 2 (v1 + 1) H locs ls hW (lv_sub hl [1, 0, 2] rfl) hf
  · have hf := ite_f hc2 hf
    refine lv_iconst (v := 1) C0.1 C0.2.1 dX9_reads_115 kI_1 ?_
    refine lv_goto (tgt := 120) C0.1 C0.2.1 dX9_reads_116 (by decide) ?_
    exact tX9_reads_120 C0 hK hN hA hk11 m_place m_begin m_token m_told m_wrong y1.1 m_word y1.2 m_opened m_compared (v1 + 1) v2 1 (v1 + 1) H locs ls hW (lv_sub hl [1, 0, 2] rfl) hf
def fX9_reads_86 (m_size : Int32) (m_tape : (Nat → Int32)) (k11 : Int32 → Int32 → Int32 → Int32 → Int32 → Int32 → Int64 → (Nat → Int32) → (Nat → Int32) → (Nat → Int32) → Int32 → Int32 → Option (Int32 × Int32 × Int32 × Int32 × Int32 × Int32 × Int32 × Int64 × (Nat → Int32) × (Nat → Int32) × (Nat → Int32))) (m_place : Int32) (m_begin : Int32) (m_token : Int32) (m_told : Int32) (m_wrong : Int32) (m_code : Int32) (m_word : Int64) (m_codes : (Nat → Int32)) (m_opened : (Nat → Int32)) (m_compared : (Nat → Int32)) (v1 : Int32) (v2 : Int32) (v4 : Int32) : Option (Int32 × Int32 × Int32 × Int32 × Int32 × Int32 × Int32 × Int64 × (Nat → Int32) × (Nat → Int32) × (Nat → Int32)) := if v4 = 0 then (fX9_reads_99 m_size m_tape k11 m_place m_begin m_token m_told m_wrong m_code m_word m_codes m_opened m_compared v1 v2 v4 28) else (fX9_reads_99 m_size m_tape k11 m_place m_begin m_token m_told m_wrong m_code m_word m_codes m_opened m_compared v1 v2 v4 30)
set_option maxHeartbeats 4000000 in
set_option maxRecDepth 100000 in
theorem tX9_reads_86 {p : Program} {l : Launch} {e : Env} {s : State} {m : MethodId} {args : Array Value} {below : List Frame} {meth : Method} {c : Code} {D : va_G} {cy : Nat → ClassId} {ad : Nat → Nat} {P : MP} {V : MV} {I : MI} {J : MJ} {A : MI} {B : MJ} {Af : Nat → Prop} {res : Int32 × Int32 × Int32 × Int32 × Int32 × Int32 × Int32 × Int64 × (Nat → Int32) × (Nat → Int32) × (Nat → Int32)} (C0 : CX p s m args meth c cX9_reads 6 (some .boolean) RX9) (hK : va_K D vwCl (tyG cy) s) (hN : NWs s) (hA : ∀ q, s.heap.size ≤ q → Af q) {k11 : Int32 → Int32 → Int32 → Int32 → Int32 → Int32 → Int64 → (Nat → Int32) → (Nat → Int32) → (Nat → Int32) → Int32 → Int32 → Option (Int32 × Int32 × Int32 × Int32 × Int32 × Int32 × Int32 × Int64 × (Nat → Int32) × (Nat → Int32) × (Nat → Int32))} (hk11 : SX9_reads_11 p l e s m args below meth c D cy ad P V I J A B Af res k11) : SX9_reads_86 p l e s m args below meth c D cy ad P V I J A B Af res (fX9_reads_86 (I 0 3) (A 1) k11) := by
  intro m_place m_begin m_token m_told m_wrong m_code m_word m_codes m_opened m_compared v1 v2 v4 H locs ls hW hl hf
  unfold fX9_reads_86 at hf
  refine lv_aload_n C0.1 C0.2.1 dX9_reads_86 rfl (lv_at hl 0 rfl) ?_
  refine lv_iload C0.1 C0.2.1 dX9_reads_87 (lv_at hl 3 rfl) ?_
  refine lv_if_eq (tgt := 97) C0.1 C0.2.1 dX9_reads_89 (by decide) (fun hc1 => ?_) (fun hc1 => ?_)
  · have hf := ite_t hc1 hf
    refine lv_bipush (v := 28) C0.1 C0.2.1 dX9_reads_97 kB_28 ?_
    exact tX9_reads_99 C0 hK hN hA hk11 m_place m_begin m_token m_told m_wrong m_code m_word m_codes m_opened m_compared v1 v2 v4 28 H locs ls hW hl hf
  · have hf := ite_f hc1 hf
    refine lv_bipush (v := 30) C0.1 C0.2.1 dX9_reads_92 kB_30 ?_
    refine lv_goto (tgt := 99) C0.1 C0.2.1 dX9_reads_94 (by decide) ?_
    exact tX9_reads_99 C0 hK hN hA hk11 m_place m_begin m_token m_told m_wrong m_code m_word m_codes m_opened m_compared v1 v2 v4 30 H locs ls hW hl hf
def fX9_reads_152 (m_size : Int32) (m_tape : (Nat → Int32)) (k11 : Int32 → Int32 → Int32 → Int32 → Int32 → Int32 → Int64 → (Nat → Int32) → (Nat → Int32) → (Nat → Int32) → Int32 → Int32 → Option (Int32 × Int32 × Int32 × Int32 × Int32 × Int32 × Int32 × Int64 × (Nat → Int32) × (Nat → Int32) × (Nat → Int32))) (k152 : Int32 → Int32 → Int32 → Int32 → Int32 → Int32 → Int64 → (Nat → Int32) → (Nat → Int32) → (Nat → Int32) → Int32 → Int32 → Option (Int32 × Int32 × Int32 × Int32 × Int32 × Int32 × Int32 × Int64 × (Nat → Int32) × (Nat → Int32) × (Nat → Int32))) (m_place : Int32) (m_begin : Int32) (m_token : Int32) (m_told : Int32) (m_wrong : Int32) (m_code : Int32) (m_word : Int64) (m_codes : (Nat → Int32)) (m_opened : (Nat → Int32)) (m_compared : (Nat → Int32)) (v1 : Int32) (v2 : Int32) : Option (Int32 × Int32 × Int32 × Int32 × Int32 × Int32 × Int32 × Int64 × (Nat → Int32) × (Nat → Int32) × (Nat → Int32)) := if v1 ≤ 0 then (fX9_reads_172 m_size m_tape k11 m_place m_begin m_token m_told m_wrong m_code m_word m_codes m_opened m_compared v1 v2) else (bif inb v1 7 then (if (m_opened (Int32.toNatClampNeg v1)) = 1 then (k152 m_place m_begin m_token m_told m_wrong m_code m_word m_codes m_opened m_compared (v1 + (-1)) v2) else (fX9_reads_172 m_size m_tape k11 m_place m_begin m_token m_told m_wrong m_code m_word m_codes m_opened m_compared v1 v2)) else none)
set_option maxHeartbeats 4000000 in
set_option maxRecDepth 100000 in
theorem tX9_reads_152 {p : Program} {l : Launch} {e : Env} {s : State} {m : MethodId} {args : Array Value} {below : List Frame} {meth : Method} {c : Code} {D : va_G} {cy : Nat → ClassId} {ad : Nat → Nat} {P : MP} {V : MV} {I : MI} {J : MJ} {A : MI} {B : MJ} {Af : Nat → Prop} {res : Int32 × Int32 × Int32 × Int32 × Int32 × Int32 × Int32 × Int64 × (Nat → Int32) × (Nat → Int32) × (Nat → Int32)} (C0 : CX p s m args meth c cX9_reads 6 (some .boolean) RX9) (hK : va_K D vwCl (tyG cy) s) (hN : NWs s) (hA : ∀ q, s.heap.size ≤ q → Af q) {k11 : Int32 → Int32 → Int32 → Int32 → Int32 → Int32 → Int64 → (Nat → Int32) → (Nat → Int32) → (Nat → Int32) → Int32 → Int32 → Option (Int32 × Int32 × Int32 × Int32 × Int32 × Int32 × Int32 × Int64 × (Nat → Int32) × (Nat → Int32) × (Nat → Int32))} (hk11 : SX9_reads_11 p l e s m args below meth c D cy ad P V I J A B Af res k11) {k152 : Int32 → Int32 → Int32 → Int32 → Int32 → Int32 → Int64 → (Nat → Int32) → (Nat → Int32) → (Nat → Int32) → Int32 → Int32 → Option (Int32 × Int32 × Int32 × Int32 × Int32 × Int32 × Int32 × Int64 × (Nat → Int32) × (Nat → Int32) × (Nat → Int32))} (hk152 : SX9_reads_152 p l e s m args below meth c D cy ad P V I J A B Af res k152) : SX9_reads_152 p l e s m args below meth c D cy ad P V I J A B Af res (fX9_reads_152 (I 0 3) (A 1) k11 k152) := by
  intro m_place m_begin m_token m_told m_wrong m_code m_word m_codes m_opened m_compared v1 v2 H locs ls hW hl hf
  unfold fX9_reads_152 at hf
  refine lv_iload_n C0.1 C0.2.1 dX9_reads_152 rfl (lv_at hl 1 rfl) ?_
  refine lv_if_le (tgt := 172) C0.1 C0.2.1 dX9_reads_153 (by decide) (fun hc1 => ?_) (fun hc1 => ?_)
  · have hf := ite_t hc1 hf
    exact tX9_reads_172 C0 hK hN hA hk11 m_place m_begin m_token m_told m_wrong m_code m_word m_codes m_opened m_compared v1 v2 H locs ls hW hl hf
  · have hf := ite_f hc1 hf
    refine lv_aload_n C0.1 C0.2.1 dX9_reads_156 rfl (lv_at hl 0 rfl) ?_
    refine s_get (v := .ref (ad 16)) C0 hK hW 0 26 LY_X9_0 rfl fg_X9_56 rfl dX9_reads_157 ?_
    refine lv_iload_n C0.1 C0.2.1 dX9_reads_160 rfl (lv_at hl 1 rfl) ?_
    obtain ⟨hb2, hf⟩ := g_some hf
    refine s_iald (v := (m_opened (Int32.toNatClampNeg v1))) C0 hK hW 16 LY_X9_16 hb2 rfl dX9_reads_161 ?_
    refine lv_iconst (v := 1) C0.1 C0.2.1 dX9_reads_162 kI_1 ?_
    refine lv_icmp_ne (tgt := 172) C0.1 C0.2.1 dX9_reads_163 (by decide) (fun hc3 => ?_) (fun hc3 => ?_)
    · have hf := ite_f hc3 hf
      exact tX9_reads_172 C0 hK hN hA hk11 m_place m_begin m_token m_told m_wrong m_code m_word m_codes m_opened m_compared v1 v2 H locs ls hW hl hf
    · have hf := ite_t hc3 hf
      refine lv_iinc (v := (v1 + (-1))) (lv' := [(1, .int (v1 + (-1))), (0, .ref (ad 0)), (2, .int v2)]) C0.1 C0.2.1 dX9_reads_166 hl (k := 1) rfl (congrArg (fun z => _ + z) kI_m1) (by decide) rfl (fun ls hl => ?_)
      refine lv_goto (tgt := 152) C0.1 C0.2.1 dX9_reads_169 (by decide) ?_
      exact hk152 m_place m_begin m_token m_told m_wrong m_code m_word m_codes m_opened m_compared (v1 + (-1)) v2 H locs ls hW (lv_sub hl [1, 0, 2] rfl) hf
theorem TX9_reads_152 {p : Program} {l : Launch} {e : Env} {s : State} {m : MethodId} {args : Array Value} {below : List Frame} {meth : Method} {c : Code} {D : va_G} {cy : Nat → ClassId} {ad : Nat → Nat} {P : MP} {V : MV} {I : MI} {J : MJ} {A : MI} {B : MJ} {Af : Nat → Prop} {res : Int32 × Int32 × Int32 × Int32 × Int32 × Int32 × Int32 × Int64 × (Nat → Int32) × (Nat → Int32) × (Nat → Int32)} (C0 : CX p s m args meth c cX9_reads 6 (some .boolean) RX9) (hK : va_K D vwCl (tyG cy) s) (hN : NWs s) (hA : ∀ q, s.heap.size ≤ q → Af q) {k11 : Int32 → Int32 → Int32 → Int32 → Int32 → Int32 → Int64 → (Nat → Int32) → (Nat → Int32) → (Nat → Int32) → Int32 → Int32 → Option (Int32 × Int32 × Int32 × Int32 × Int32 × Int32 × Int32 × Int64 × (Nat → Int32) × (Nat → Int32) × (Nat → Int32))} (hk11 : SX9_reads_11 p l e s m args below meth c D cy ad P V I J A B Af res k11) : ∀ n, SX9_reads_152 p l e s m args below meth c D cy ad P V I J A B Af res (itr (fun kk => fX9_reads_152 (I 0 3) (A 1) k11 kk) (fun _ _ _ _ _ _ _ _ _ _ _ _ => none) n) := by
  intro n
  induction n with
  | zero => intro m_place m_begin m_token m_told m_wrong m_code m_word m_codes m_opened m_compared v1 v2 H locs ls hW hl hf; exact (nomatch (show (none : Option (Int32 × Int32 × Int32 × Int32 × Int32 × Int32 × Int32 × Int64 × (Nat → Int32) × (Nat → Int32) × (Nat → Int32))) = some res from hf))
  | succ n ih => exact tX9_reads_152 C0 hK hN hA hk11 ih
def fX9_reads_147 (m_size : Int32) (m_tape : (Nat → Int32)) (k11 : Int32 → Int32 → Int32 → Int32 → Int32 → Int32 → Int64 → (Nat → Int32) → (Nat → Int32) → (Nat → Int32) → Int32 → Int32 → Option (Int32 × Int32 × Int32 × Int32 × Int32 × Int32 × Int32 × Int64 × (Nat → Int32) × (Nat → Int32) × (Nat → Int32))) (m_place : Int32) (m_begin : Int32) (m_token : Int32) (m_told : Int32) (m_wrong : Int32) (m_code : Int32) (m_word : Int64) (m_codes : (Nat → Int32)) (m_opened : (Nat → Int32)) (m_compared : (Nat → Int32)) (v1 : Int32) (x0 : Int32) : Option (Int32 × Int32 × Int32 × Int32 × Int32 × Int32 × Int32 × Int64 × (Nat → Int32) × (Nat → Int32) × (Nat → Int32)) := Option.bind (fX9_puts m_code m_codes x0) fun y1 => (itr (fun kk => fX9_reads_152 m_size m_tape k11 kk) (fun _ _ _ _ _ _ _ _ _ _ _ _ => none) FU m_place m_begin m_token m_told m_wrong y1.1 m_word y1.2 m_opened m_compared v1 0)
set_option maxHeartbeats 4000000 in
set_option maxRecDepth 100000 in
theorem tX9_reads_147 {p : Program} {l : Launch} {e : Env} {s : State} {m : MethodId} {args : Array Value} {below : List Frame} {meth : Method} {c : Code} {D : va_G} {cy : Nat → ClassId} {ad : Nat → Nat} {P : MP} {V : MV} {I : MI} {J : MJ} {A : MI} {B : MJ} {Af : Nat → Prop} {res : Int32 × Int32 × Int32 × Int32 × Int32 × Int32 × Int32 × Int64 × (Nat → Int32) × (Nat → Int32) × (Nat → Int32)} (C0 : CX p s m args meth c cX9_reads 6 (some .boolean) RX9) (hK : va_K D vwCl (tyG cy) s) (hN : NWs s) (hA : ∀ q, s.heap.size ≤ q → Af q) {k11 : Int32 → Int32 → Int32 → Int32 → Int32 → Int32 → Int64 → (Nat → Int32) → (Nat → Int32) → (Nat → Int32) → Int32 → Int32 → Option (Int32 × Int32 × Int32 × Int32 × Int32 × Int32 × Int32 × Int64 × (Nat → Int32) × (Nat → Int32) × (Nat → Int32))} (hk11 : SX9_reads_11 p l e s m args below meth c D cy ad P V I J A B Af res k11) : SX9_reads_147 p l e s m args below meth c D cy ad P V I J A B Af res (fX9_reads_147 (I 0 3) (A 1) k11) := by
  intro m_place m_begin m_token m_told m_wrong m_code m_word m_codes m_opened m_compared v1 x0 H locs ls hW hl hf
  unfold fX9_reads_147 at hf
  obtain ⟨y1, hy1, hf⟩ := b_some hf
  refine c_Vv C0 hK hN hl.1 hW hA (KX9_puts l D cy  ad P V (gp I [(0, 4, m_place), (0, 5, m_begin), (0, 6, m_token), (0, 8, m_told), (0, 9, m_wrong), (0, 24, m_code)]) (gp J [(0, 7, m_word)]) (gm A [(15, m_codes), (16, m_opened), (17, m_compared)]) (gm B []) x0 hy1) (JN_id rfl rfl rfl rfl) (Uw_V uw_1382 uw_1384 us_60 uw_14 uw_1385) rfl rfl hd_X9_puts ⟨rfl, rfl⟩ rfl (dn_some LY_X9_0) rfl rfl rfl dX9_reads_147 ⟨Nat.zero_le _, Nat.zero_le _⟩ (fun H locs hW => ?_)
  have hW : wd D (dn cy LY_X9 ad P V (gp I [(0, 4, m_place), (0, 5, m_begin), (0, 6, m_token), (0, 8, m_told), (0, 9, m_wrong), (0, 24, y1.1)]) (gp J [(0, 7, m_word)]) (gm A [(15, y1.2), (16, m_opened), (17, m_compared)]) (gm B [])) Af s.heap H locs := hW
  refine lv_iconst (v := 0) C0.1 C0.2.1 dX9_reads_150 kI_0 ?_
  refine lv_istore_n (lv' := [(2, .int 0), (0, .ref (ad 0)), (1, .int v1)]) C0.1 C0.2.1 dX9_reads_151 rfl hl (by decide) rfl (fun ls hl => ?_)
  exact TX9_reads_152 C0 hK hN hA hk11 FU m_place m_begin m_token m_told m_wrong y1.1 m_word y1.2 m_opened m_compared v1 0 H locs ls hW (lv_sub hl [1, 2, 0] rfl) hf
def fX9_reads_65 (m_size : Int32) (m_tape : (Nat → Int32)) (k11 : Int32 → Int32 → Int32 → Int32 → Int32 → Int32 → Int64 → (Nat → Int32) → (Nat → Int32) → (Nat → Int32) → Int32 → Int32 → Option (Int32 × Int32 × Int32 × Int32 × Int32 × Int32 × Int32 × Int64 × (Nat → Int32) × (Nat → Int32) × (Nat → Int32))) (m_place : Int32) (m_begin : Int32) (m_token : Int32) (m_told : Int32) (m_wrong : Int32) (m_code : Int32) (m_word : Int64) (m_codes : (Nat → Int32)) (m_opened : (Nat → Int32)) (m_compared : (Nat → Int32)) (v1 : Int32) (v2 : Int32) (v3 : Int32) (v4 : Int32) (v5 : Int32) : Option (Int32 × Int32 × Int32 × Int32 × Int32 × Int32 × Int32 × Int64 × (Nat → Int32) × (Nat → Int32) × (Nat → Int32)) := if v1 = 5 then (Option.bind (fX9_fails m_begin m_wrong 5) fun y5 => (some ((vp_nar .boolean y5.1), m_place, m_begin, m_token, m_told, y5.2, m_code, m_word, m_codes, m_opened, m_compared))) else (if v4 = 0 then (if v5 = 0 then (if v3 ≤ 0 then (fX9_reads_147 m_size m_tape k11 m_place m_begin m_token m_told m_wrong m_code m_word m_codes m_opened m_compared v1 (100 + m_told)) else (fX9_reads_147 m_size m_tape k11 m_place m_begin m_token m_told m_wrong m_code m_word m_codes m_opened m_compared v1 v3)) else (fX9_reads_86 m_size m_tape k11 m_place m_begin m_token m_told m_wrong m_code m_word m_codes m_opened m_compared v1 v2 v4)) else (fX9_reads_86 m_size m_tape k11 m_place m_begin m_token m_told m_wrong m_code m_word m_codes m_opened m_compared v1 v2 v4))
set_option maxHeartbeats 4000000 in
set_option maxRecDepth 100000 in
theorem tX9_reads_65 {p : Program} {l : Launch} {e : Env} {s : State} {m : MethodId} {args : Array Value} {below : List Frame} {meth : Method} {c : Code} {D : va_G} {cy : Nat → ClassId} {ad : Nat → Nat} {P : MP} {V : MV} {I : MI} {J : MJ} {A : MI} {B : MJ} {Af : Nat → Prop} {res : Int32 × Int32 × Int32 × Int32 × Int32 × Int32 × Int32 × Int64 × (Nat → Int32) × (Nat → Int32) × (Nat → Int32)} (C0 : CX p s m args meth c cX9_reads 6 (some .boolean) RX9) (hK : va_K D vwCl (tyG cy) s) (hN : NWs s) (hA : ∀ q, s.heap.size ≤ q → Af q) {k11 : Int32 → Int32 → Int32 → Int32 → Int32 → Int32 → Int64 → (Nat → Int32) → (Nat → Int32) → (Nat → Int32) → Int32 → Int32 → Option (Int32 × Int32 × Int32 × Int32 × Int32 × Int32 × Int32 × Int64 × (Nat → Int32) × (Nat → Int32) × (Nat → Int32))} (hk11 : SX9_reads_11 p l e s m args below meth c D cy ad P V I J A B Af res k11) : SX9_reads_65 p l e s m args below meth c D cy ad P V I J A B Af res (fX9_reads_65 (I 0 3) (A 1) k11) := by
  intro m_place m_begin m_token m_told m_wrong m_code m_word m_codes m_opened m_compared v1 v2 v3 v4 v5 H locs ls hW hl hf
  unfold fX9_reads_65 at hf
  refine lv_iload_n C0.1 C0.2.1 dX9_reads_65 rfl (lv_at hl 1 rfl) ?_
  refine lv_iconst (v := 5) C0.1 C0.2.1 dX9_reads_66 kI_5 ?_
  refine lv_icmp_ne (tgt := 76) C0.1 C0.2.1 dX9_reads_67 (by decide) (fun hc1 => ?_) (fun hc1 => ?_)
  · have hf := ite_f hc1 hf
    refine lv_iload C0.1 C0.2.1 dX9_reads_76 (lv_at hl 4 rfl) ?_
    refine lv_if_ne (tgt := 86) C0.1 C0.2.1 dX9_reads_78 (by decide) (fun hc2 => ?_) (fun hc2 => ?_)
    · have hf := ite_f hc2 hf
      exact tX9_reads_86 C0 hK hN hA hk11 m_place m_begin m_token m_told m_wrong m_code m_word m_codes m_opened m_compared v1 v2 v4 H locs ls hW (lv_sub hl [0, 1, 2, 4] rfl) hf
    · have hf := ite_t hc2 hf
      refine lv_iload C0.1 C0.2.1 dX9_reads_81 (lv_at hl 5 rfl) ?_
      refine lv_if_eq (tgt := 131) C0.1 C0.2.1 dX9_reads_83 (by decide) (fun hc3 => ?_) (fun hc3 => ?_)
      · have hf := ite_t hc3 hf
        refine lv_aload_n C0.1 C0.2.1 dX9_reads_131 rfl (lv_at hl 0 rfl) ?_
        refine lv_iload_n C0.1 C0.2.1 dX9_reads_132 rfl (lv_at hl 3 rfl) ?_
        refine lv_if_le (tgt := 140) C0.1 C0.2.1 dX9_reads_133 (by decide) (fun hc4 => ?_) (fun hc4 => ?_)
        · have hf := ite_t hc4 hf
          refine lv_bipush (v := 100) C0.1 C0.2.1 dX9_reads_140 kB_100 ?_
          refine lv_aload_n C0.1 C0.2.1 dX9_reads_142 rfl (lv_at hl 0 rfl) ?_
          refine s_get (v := .int m_told) C0 hK hW 0 8 LY_X9_0 rfl fg_X9_164 rfl dX9_reads_143 ?_
          refine lv_iadd C0.1 C0.2.1 dX9_reads_146 ?_
          exact tX9_reads_147 C0 hK hN hA hk11 m_place m_begin m_token m_told m_wrong m_code m_word m_codes m_opened m_compared v1 (100 + m_told) H locs ls hW (lv_sub hl [0, 1] rfl) hf
        · have hf := ite_f hc4 hf
          refine lv_iload_n C0.1 C0.2.1 dX9_reads_136 rfl (lv_at hl 3 rfl) ?_
          refine lv_goto (tgt := 147) C0.1 C0.2.1 dX9_reads_137 (by decide) ?_
          exact tX9_reads_147 C0 hK hN hA hk11 m_place m_begin m_token m_told m_wrong m_code m_word m_codes m_opened m_compared v1 v3 H locs ls hW (lv_sub hl [0, 1] rfl) hf
      · have hf := ite_f hc3 hf
        exact tX9_reads_86 C0 hK hN hA hk11 m_place m_begin m_token m_told m_wrong m_code m_word m_codes m_opened m_compared v1 v2 v4 H locs ls hW (lv_sub hl [0, 1, 2, 4] rfl) hf
  · have hf := ite_t hc1 hf
    refine lv_aload_n C0.1 C0.2.1 dX9_reads_70 rfl (lv_at hl 0 rfl) ?_
    refine lv_iconst (v := 5) C0.1 C0.2.1 dX9_reads_71 kI_5 ?_
    obtain ⟨y5, hy5, hf⟩ := b_some hf
    refine c_Vi C0 hK hN hl.1 hW hA (KX9_fails l D cy  ad P V (gp I [(0, 4, m_place), (0, 5, m_begin), (0, 6, m_token), (0, 8, m_told), (0, 9, m_wrong), (0, 24, m_code)]) (gp J [(0, 7, m_word)]) (gm A [(15, m_codes), (16, m_opened), (17, m_compared)]) (gm B []) 5 hy5) (JN_id rfl rfl rfl rfl) (Uw_V uw_1282 uw_1284 us_42 uw_14 uw_1285) rfl rfl hd_X9_fails ⟨rfl, rfl⟩ rfl (dn_some LY_X9_0) rfl rfl rfl dX9_reads_72 ⟨Nat.zero_le _, Nat.zero_le _⟩ (fun H locs hW => ?_)
    have hW : wd D (dn cy LY_X9 ad P V (gp I [(0, 4, m_place), (0, 5, m_begin), (0, 6, m_token), (0, 8, m_told), (0, 9, y5.2), (0, 24, m_code)]) (gp J [(0, 7, m_word)]) (gm A [(15, m_codes), (16, m_opened), (17, m_compared)]) (gm B [])) Af s.heap H locs := hW
    obtain rfl := Option.some.inj hf
    exact r_bool C0 hK hW (v' := (vp_nar .boolean y5.1)) rfl dX9_reads_75
def fX9_reads_424 (m_size : Int32) (m_tape : (Nat → Int32)) (k11 : Int32 → Int32 → Int32 → Int32 → Int32 → Int32 → Int64 → (Nat → Int32) → (Nat → Int32) → (Nat → Int32) → Int32 → Int32 → Option (Int32 × Int32 × Int32 × Int32 × Int32 × Int32 × Int32 × Int64 × (Nat → Int32) × (Nat → Int32) × (Nat → Int32))) (m_place : Int32) (m_begin : Int32) (m_token : Int32) (m_told : Int32) (m_wrong : Int32) (m_code : Int32) (m_word : Int64) (m_codes : (Nat → Int32)) (m_opened : (Nat → Int32)) (m_compared : (Nat → Int32)) (v1 : Int32) (v2 : Int32) : Option (Int32 × Int32 × Int32 × Int32 × Int32 × Int32 × Int32 × Int64 × (Nat → Int32) × (Nat → Int32) × (Nat → Int32)) := Option.bind (fX9_nextToken m_size m_tape m_place m_begin m_token m_told m_word) fun y1 => (k11 y1.1 y1.2.1 y1.2.2.1 y1.2.2.2.1 m_wrong m_code y1.2.2.2.2 m_codes m_opened m_compared v1 v2)
set_option maxHeartbeats 4000000 in
set_option maxRecDepth 100000 in
theorem tX9_reads_424 {p : Program} {l : Launch} {e : Env} {s : State} {m : MethodId} {args : Array Value} {below : List Frame} {meth : Method} {c : Code} {D : va_G} {cy : Nat → ClassId} {ad : Nat → Nat} {P : MP} {V : MV} {I : MI} {J : MJ} {A : MI} {B : MJ} {Af : Nat → Prop} {res : Int32 × Int32 × Int32 × Int32 × Int32 × Int32 × Int32 × Int64 × (Nat → Int32) × (Nat → Int32) × (Nat → Int32)} (C0 : CX p s m args meth c cX9_reads 6 (some .boolean) RX9) (hK : va_K D vwCl (tyG cy) s) (hN : NWs s) (hA : ∀ q, s.heap.size ≤ q → Af q) {k11 : Int32 → Int32 → Int32 → Int32 → Int32 → Int32 → Int64 → (Nat → Int32) → (Nat → Int32) → (Nat → Int32) → Int32 → Int32 → Option (Int32 × Int32 × Int32 × Int32 × Int32 × Int32 × Int32 × Int64 × (Nat → Int32) × (Nat → Int32) × (Nat → Int32))} (hk11 : SX9_reads_11 p l e s m args below meth c D cy ad P V I J A B Af res k11) : SX9_reads_424 p l e s m args below meth c D cy ad P V I J A B Af res (fX9_reads_424 (I 0 3) (A 1) k11) := by
  intro m_place m_begin m_token m_told m_wrong m_code m_word m_codes m_opened m_compared v1 v2 H locs ls hW hl hf
  unfold fX9_reads_424 at hf
  refine lv_aload_n C0.1 C0.2.1 dX9_reads_424 rfl (lv_at hl 0 rfl) ?_
  obtain ⟨y1, hy1, hf⟩ := b_some hf
  refine c_Vv C0 hK hN hl.1 hW hA (KX9_nextToken l D cy  ad P V (gp I [(0, 4, m_place), (0, 5, m_begin), (0, 6, m_token), (0, 8, m_told), (0, 9, m_wrong), (0, 24, m_code)]) (gp J [(0, 7, m_word)]) (gm A [(15, m_codes), (16, m_opened), (17, m_compared)]) (gm B [])  hy1) (JN_id rfl rfl rfl rfl) (Uw_V uw_1263 uw_1265 us_38 uw_14 uw_1266) rfl rfl hd_X9_nextToken ⟨rfl, rfl⟩ rfl (dn_some LY_X9_0) rfl rfl rfl dX9_reads_425 ⟨Nat.zero_le _, Nat.zero_le _⟩ (fun H locs hW => ?_)
  have hW : wd D (dn cy LY_X9 ad P V (gp I [(0, 4, y1.1), (0, 5, y1.2.1), (0, 6, y1.2.2.1), (0, 8, y1.2.2.2.1), (0, 9, m_wrong), (0, 24, m_code)]) (gp J [(0, 7, y1.2.2.2.2)]) (gm A [(15, m_codes), (16, m_opened), (17, m_compared)]) (gm B [])) Af s.heap H locs := hW
  refine lv_goto (tgt := 11) C0.1 C0.2.1 dX9_reads_428 (by decide) ?_
  exact hk11 y1.1 y1.2.1 y1.2.2.1 y1.2.2.2.1 m_wrong m_code y1.2.2.2.2 m_codes m_opened m_compared v1 v2 H locs ls hW hl hf
def fX9_reads_237 (m_size : Int32) (m_tape : (Nat → Int32)) (k11 : Int32 → Int32 → Int32 → Int32 → Int32 → Int32 → Int64 → (Nat → Int32) → (Nat → Int32) → (Nat → Int32) → Int32 → Int32 → Option (Int32 × Int32 × Int32 × Int32 × Int32 × Int32 × Int32 × Int64 × (Nat → Int32) × (Nat → Int32) × (Nat → Int32))) (m_place : Int32) (m_begin : Int32) (m_token : Int32) (m_told : Int32) (m_wrong : Int32) (m_code : Int32) (m_word : Int64) (m_codes : (Nat → Int32)) (m_opened : (Nat → Int32)) (m_compared : (Nat → Int32)) (v1 : Int32) (x0 : Int32) : Option (Int32 × Int32 × Int32 × Int32 × Int32 × Int32 × Int32 × Int64 × (Nat → Int32) × (Nat → Int32) × (Nat → Int32)) := Option.bind (fX9_puts m_code m_codes x0) fun y1 => (fX9_reads_424 m_size m_tape k11 m_place m_begin m_token m_told m_wrong y1.1 m_word y1.2 m_opened m_compared v1 1)
set_option maxHeartbeats 4000000 in
set_option maxRecDepth 100000 in
theorem tX9_reads_237 {p : Program} {l : Launch} {e : Env} {s : State} {m : MethodId} {args : Array Value} {below : List Frame} {meth : Method} {c : Code} {D : va_G} {cy : Nat → ClassId} {ad : Nat → Nat} {P : MP} {V : MV} {I : MI} {J : MJ} {A : MI} {B : MJ} {Af : Nat → Prop} {res : Int32 × Int32 × Int32 × Int32 × Int32 × Int32 × Int32 × Int64 × (Nat → Int32) × (Nat → Int32) × (Nat → Int32)} (C0 : CX p s m args meth c cX9_reads 6 (some .boolean) RX9) (hK : va_K D vwCl (tyG cy) s) (hN : NWs s) (hA : ∀ q, s.heap.size ≤ q → Af q) {k11 : Int32 → Int32 → Int32 → Int32 → Int32 → Int32 → Int64 → (Nat → Int32) → (Nat → Int32) → (Nat → Int32) → Int32 → Int32 → Option (Int32 × Int32 × Int32 × Int32 × Int32 × Int32 × Int32 × Int64 × (Nat → Int32) × (Nat → Int32) × (Nat → Int32))} (hk11 : SX9_reads_11 p l e s m args below meth c D cy ad P V I J A B Af res k11) : SX9_reads_237 p l e s m args below meth c D cy ad P V I J A B Af res (fX9_reads_237 (I 0 3) (A 1) k11) := by
  intro m_place m_begin m_token m_told m_wrong m_code m_word m_codes m_opened m_compared v1 x0 H locs ls hW hl hf
  unfold fX9_reads_237 at hf
  obtain ⟨y1, hy1, hf⟩ := b_some hf
  refine c_Vv C0 hK hN hl.1 hW hA (KX9_puts l D cy  ad P V (gp I [(0, 4, m_place), (0, 5, m_begin), (0, 6, m_token), (0, 8, m_told), (0, 9, m_wrong), (0, 24, m_code)]) (gp J [(0, 7, m_word)]) (gm A [(15, m_codes), (16, m_opened), (17, m_compared)]) (gm B []) x0 hy1) (JN_id rfl rfl rfl rfl) (Uw_V uw_1382 uw_1384 us_60 uw_14 uw_1385) rfl rfl hd_X9_puts ⟨rfl, rfl⟩ rfl (dn_some LY_X9_0) rfl rfl rfl dX9_reads_237 ⟨Nat.zero_le _, Nat.zero_le _⟩ (fun H locs hW => ?_)
  have hW : wd D (dn cy LY_X9 ad P V (gp I [(0, 4, m_place), (0, 5, m_begin), (0, 6, m_token), (0, 8, m_told), (0, 9, m_wrong), (0, 24, y1.1)]) (gp J [(0, 7, m_word)]) (gm A [(15, y1.2), (16, m_opened), (17, m_compared)]) (gm B [])) Af s.heap H locs := hW
  refine lv_iconst (v := 1) C0.1 C0.2.1 dX9_reads_240 kI_1 ?_
  refine lv_istore_n (lv' := [(2, .int 1), (0, .ref (ad 0)), (1, .int v1)]) C0.1 C0.2.1 dX9_reads_241 rfl hl (by decide) rfl (fun ls hl => ?_)
  refine lv_goto (tgt := 424) C0.1 C0.2.1 dX9_reads_242 (by decide) ?_
  exact tX9_reads_424 C0 hK hN hA hk11 m_place m_begin m_token m_told m_wrong y1.1 m_word y1.2 m_opened m_compared v1 1 H locs ls hW (lv_sub hl [1, 2, 0] rfl) hf
def fX9_reads_206 (m_size : Int32) (m_tape : (Nat → Int32)) (k11 : Int32 → Int32 → Int32 → Int32 → Int32 → Int32 → Int64 → (Nat → Int32) → (Nat → Int32) → (Nat → Int32) → Int32 → Int32 → Option (Int32 × Int32 × Int32 × Int32 × Int32 × Int32 × Int32 × Int64 × (Nat → Int32) × (Nat → Int32) × (Nat → Int32))) (m_place : Int32) (m_begin : Int32) (m_token : Int32) (m_told : Int32) (m_wrong : Int32) (m_code : Int32) (m_word : Int64) (m_codes : (Nat → Int32)) (m_opened : (Nat → Int32)) (m_compared : (Nat → Int32)) (v1 : Int32) : Option (Int32 × Int32 × Int32 × Int32 × Int32 × Int32 × Int32 × Int64 × (Nat → Int32) × (Nat → Int32) × (Nat → Int32)) := Option.bind (fX9_isSign m_begin m_token m_tape 43) fun y1 => (if y1 = 0 then (Option.bind (fX9_isSign m_begin m_token m_tape 45) fun y3 => (if y3 = 0 then (fX9_reads_237 m_size m_tape k11 m_place m_begin m_token m_told m_wrong m_code m_word m_codes m_opened m_compared v1 22) else (fX9_reads_237 m_size m_tape k11 m_place m_begin m_token m_told m_wrong m_code m_word m_codes m_opened m_compared v1 21))) else (fX9_reads_237 m_size m_tape k11 m_place m_begin m_token m_told m_wrong m_code m_word m_codes m_opened m_compared v1 20))
set_option maxHeartbeats 4000000 in
set_option maxRecDepth 100000 in
theorem tX9_reads_206 {p : Program} {l : Launch} {e : Env} {s : State} {m : MethodId} {args : Array Value} {below : List Frame} {meth : Method} {c : Code} {D : va_G} {cy : Nat → ClassId} {ad : Nat → Nat} {P : MP} {V : MV} {I : MI} {J : MJ} {A : MI} {B : MJ} {Af : Nat → Prop} {res : Int32 × Int32 × Int32 × Int32 × Int32 × Int32 × Int32 × Int64 × (Nat → Int32) × (Nat → Int32) × (Nat → Int32)} (C0 : CX p s m args meth c cX9_reads 6 (some .boolean) RX9) (hK : va_K D vwCl (tyG cy) s) (hN : NWs s) (hA : ∀ q, s.heap.size ≤ q → Af q) {k11 : Int32 → Int32 → Int32 → Int32 → Int32 → Int32 → Int64 → (Nat → Int32) → (Nat → Int32) → (Nat → Int32) → Int32 → Int32 → Option (Int32 × Int32 × Int32 × Int32 × Int32 × Int32 × Int32 × Int64 × (Nat → Int32) × (Nat → Int32) × (Nat → Int32))} (hk11 : SX9_reads_11 p l e s m args below meth c D cy ad P V I J A B Af res k11) : SX9_reads_206 p l e s m args below meth c D cy ad P V I J A B Af res (fX9_reads_206 (I 0 3) (A 1) k11) := by
  intro m_place m_begin m_token m_told m_wrong m_code m_word m_codes m_opened m_compared v1 H locs ls hW hl hf
  unfold fX9_reads_206 at hf
  refine lv_aload_n C0.1 C0.2.1 dX9_reads_206 rfl (lv_at hl 0 rfl) ?_
  refine lv_aload_n C0.1 C0.2.1 dX9_reads_207 rfl (lv_at hl 0 rfl) ?_
  refine lv_bipush (v := 43) C0.1 C0.2.1 dX9_reads_208 kB_43 ?_
  obtain ⟨y1, hy1, hf⟩ := b_some hf
  refine c_Vi C0 hK hN hl.1 hW hA (KX9_isSign l D cy  ad P V (gp I [(0, 4, m_place), (0, 5, m_begin), (0, 6, m_token), (0, 8, m_told), (0, 9, m_wrong), (0, 24, m_code)]) (gp J [(0, 7, m_word)]) (gm A [(15, m_codes), (16, m_opened), (17, m_compared)]) (gm B []) 43 hy1) (JN_id rfl rfl rfl rfl) (Uw_V uw_1338 uw_1340 us_50 uw_14 uw_1341) rfl rfl hd_X9_isSign ⟨rfl, rfl⟩ rfl (dn_some LY_X9_0) rfl rfl rfl dX9_reads_210 ⟨Nat.zero_le _, Nat.zero_le _⟩ (fun H locs hW => ?_)
  have hW : wd D (dn cy LY_X9 ad P V (gp I [(0, 4, m_place), (0, 5, m_begin), (0, 6, m_token), (0, 8, m_told), (0, 9, m_wrong), (0, 24, m_code)]) (gp J [(0, 7, m_word)]) (gm A [(15, m_codes), (16, m_opened), (17, m_compared)]) (gm B [])) Af s.heap H locs := hW
  refine lv_if_eq (tgt := 221) C0.1 C0.2.1 dX9_reads_213 (by decide) (fun hc2 => ?_) (fun hc2 => ?_)
  · have hf := ite_t hc2 hf
    refine lv_aload_n C0.1 C0.2.1 dX9_reads_221 rfl (lv_at hl 0 rfl) ?_
    refine lv_bipush (v := 45) C0.1 C0.2.1 dX9_reads_222 kB_45 ?_
    obtain ⟨y3, hy3, hf⟩ := b_some hf
    refine c_Vi C0 hK hN hl.1 hW hA (KX9_isSign l D cy  ad P V (gp I [(0, 4, m_place), (0, 5, m_begin), (0, 6, m_token), (0, 8, m_told), (0, 9, m_wrong), (0, 24, m_code)]) (gp J [(0, 7, m_word)]) (gm A [(15, m_codes), (16, m_opened), (17, m_compared)]) (gm B []) 45 hy3) (JN_id rfl rfl rfl rfl) (Uw_V uw_1338 uw_1340 us_50 uw_14 uw_1341) rfl rfl hd_X9_isSign ⟨rfl, rfl⟩ rfl (dn_some LY_X9_0) rfl rfl rfl dX9_reads_224 ⟨Nat.zero_le _, Nat.zero_le _⟩ (fun H locs hW => ?_)
    have hW : wd D (dn cy LY_X9 ad P V (gp I [(0, 4, m_place), (0, 5, m_begin), (0, 6, m_token), (0, 8, m_told), (0, 9, m_wrong), (0, 24, m_code)]) (gp J [(0, 7, m_word)]) (gm A [(15, m_codes), (16, m_opened), (17, m_compared)]) (gm B [])) Af s.heap H locs := hW
    refine lv_if_eq (tgt := 235) C0.1 C0.2.1 dX9_reads_227 (by decide) (fun hc4 => ?_) (fun hc4 => ?_)
    · have hf := ite_t hc4 hf
      refine lv_bipush (v := 22) C0.1 C0.2.1 dX9_reads_235 kB_22 ?_
      exact tX9_reads_237 C0 hK hN hA hk11 m_place m_begin m_token m_told m_wrong m_code m_word m_codes m_opened m_compared v1 22 H locs ls hW hl hf
    · have hf := ite_f hc4 hf
      refine lv_bipush (v := 21) C0.1 C0.2.1 dX9_reads_230 kB_21 ?_
      refine lv_goto (tgt := 237) C0.1 C0.2.1 dX9_reads_232 (by decide) ?_
      exact tX9_reads_237 C0 hK hN hA hk11 m_place m_begin m_token m_told m_wrong m_code m_word m_codes m_opened m_compared v1 21 H locs ls hW hl hf
  · have hf := ite_f hc2 hf
    refine lv_bipush (v := 20) C0.1 C0.2.1 dX9_reads_216 kB_20 ?_
    refine lv_goto (tgt := 237) C0.1 C0.2.1 dX9_reads_218 (by decide) ?_
    exact tX9_reads_237 C0 hK hN hA hk11 m_place m_begin m_token m_told m_wrong m_code m_word m_codes m_opened m_compared v1 20 H locs ls hW hl hf
def fX9_reads_289 (m_size : Int32) (m_tape : (Nat → Int32)) (k11 : Int32 → Int32 → Int32 → Int32 → Int32 → Int32 → Int64 → (Nat → Int32) → (Nat → Int32) → (Nat → Int32) → Int32 → Int32 → Option (Int32 × Int32 × Int32 × Int32 × Int32 × Int32 × Int32 × Int64 × (Nat → Int32) × (Nat → Int32) × (Nat → Int32))) (m_place : Int32) (m_begin : Int32) (m_token : Int32) (m_told : Int32) (m_wrong : Int32) (m_code : Int32) (m_word : Int64) (m_codes : (Nat → Int32)) (m_opened : (Nat → Int32)) (m_compared : (Nat → Int32)) (v1 : Int32) (x0 : Int32) : Option (Int32 × Int32 × Int32 × Int32 × Int32 × Int32 × Int32 × Int64 × (Nat → Int32) × (Nat → Int32) × (Nat → Int32)) := Option.bind (fX9_puts m_code m_codes x0) fun y1 => (bif inb v1 7 then (fX9_reads_424 m_size m_tape k11 m_place m_begin m_token m_told m_wrong y1.1 m_word y1.2 m_opened (upd m_compared (Int32.toNatClampNeg v1) (vp_nar .boolean 1)) v1 1) else none)
set_option maxHeartbeats 4000000 in
set_option maxRecDepth 100000 in
theorem tX9_reads_289 {p : Program} {l : Launch} {e : Env} {s : State} {m : MethodId} {args : Array Value} {below : List Frame} {meth : Method} {c : Code} {D : va_G} {cy : Nat → ClassId} {ad : Nat → Nat} {P : MP} {V : MV} {I : MI} {J : MJ} {A : MI} {B : MJ} {Af : Nat → Prop} {res : Int32 × Int32 × Int32 × Int32 × Int32 × Int32 × Int32 × Int64 × (Nat → Int32) × (Nat → Int32) × (Nat → Int32)} (C0 : CX p s m args meth c cX9_reads 6 (some .boolean) RX9) (hK : va_K D vwCl (tyG cy) s) (hN : NWs s) (hA : ∀ q, s.heap.size ≤ q → Af q) {k11 : Int32 → Int32 → Int32 → Int32 → Int32 → Int32 → Int64 → (Nat → Int32) → (Nat → Int32) → (Nat → Int32) → Int32 → Int32 → Option (Int32 × Int32 × Int32 × Int32 × Int32 × Int32 × Int32 × Int64 × (Nat → Int32) × (Nat → Int32) × (Nat → Int32))} (hk11 : SX9_reads_11 p l e s m args below meth c D cy ad P V I J A B Af res k11) : SX9_reads_289 p l e s m args below meth c D cy ad P V I J A B Af res (fX9_reads_289 (I 0 3) (A 1) k11) := by
  intro m_place m_begin m_token m_told m_wrong m_code m_word m_codes m_opened m_compared v1 x0 H locs ls hW hl hf
  unfold fX9_reads_289 at hf
  obtain ⟨y1, hy1, hf⟩ := b_some hf
  refine c_Vv C0 hK hN hl.1 hW hA (KX9_puts l D cy  ad P V (gp I [(0, 4, m_place), (0, 5, m_begin), (0, 6, m_token), (0, 8, m_told), (0, 9, m_wrong), (0, 24, m_code)]) (gp J [(0, 7, m_word)]) (gm A [(15, m_codes), (16, m_opened), (17, m_compared)]) (gm B []) x0 hy1) (JN_id rfl rfl rfl rfl) (Uw_V uw_1382 uw_1384 us_60 uw_14 uw_1385) rfl rfl hd_X9_puts ⟨rfl, rfl⟩ rfl (dn_some LY_X9_0) rfl rfl rfl dX9_reads_289 ⟨Nat.zero_le _, Nat.zero_le _⟩ (fun H locs hW => ?_)
  have hW : wd D (dn cy LY_X9 ad P V (gp I [(0, 4, m_place), (0, 5, m_begin), (0, 6, m_token), (0, 8, m_told), (0, 9, m_wrong), (0, 24, y1.1)]) (gp J [(0, 7, m_word)]) (gm A [(15, y1.2), (16, m_opened), (17, m_compared)]) (gm B [])) Af s.heap H locs := hW
  refine lv_aload_n C0.1 C0.2.1 dX9_reads_292 rfl (lv_at hl 0 rfl) ?_
  refine s_get (v := .ref (ad 17)) C0 hK hW 0 27 LY_X9_0 rfl fg_X9_59 rfl dX9_reads_293 ?_
  refine lv_iload_n C0.1 C0.2.1 dX9_reads_296 rfl (lv_at hl 1 rfl) ?_
  refine lv_iconst (v := 1) C0.1 C0.2.1 dX9_reads_297 kI_1 ?_
  obtain ⟨hb2, hf⟩ := g_some hf
  refine s_zast (f := (upd m_compared (Int32.toNatClampNeg v1) (vp_nar .boolean 1))) C0 hK hW 17 LY_X9_17 hb2 rfl rfl dX9_reads_298 (fun H locs hW => ?_)
  have hW : wd D (dn cy LY_X9 ad P V (gp I [(0, 4, m_place), (0, 5, m_begin), (0, 6, m_token), (0, 8, m_told), (0, 9, m_wrong), (0, 24, y1.1)]) (gp J [(0, 7, m_word)]) (gm A [(15, y1.2), (16, m_opened), (17, (upd m_compared (Int32.toNatClampNeg v1) (vp_nar .boolean 1)))]) (gm B [])) Af s.heap H locs := hW
  refine lv_iconst (v := 1) C0.1 C0.2.1 dX9_reads_299 kI_1 ?_
  refine lv_istore_n (lv' := [(2, .int 1), (0, .ref (ad 0)), (1, .int v1)]) C0.1 C0.2.1 dX9_reads_300 rfl hl (by decide) rfl (fun ls hl => ?_)
  refine lv_goto (tgt := 424) C0.1 C0.2.1 dX9_reads_301 (by decide) ?_
  exact tX9_reads_424 C0 hK hN hA hk11 m_place m_begin m_token m_told m_wrong y1.1 m_word y1.2 m_opened (upd m_compared (Int32.toNatClampNeg v1) (vp_nar .boolean 1)) v1 1 H locs ls hW (lv_sub hl [1, 2, 0] rfl) hf
def fX9_reads_342 (m_size : Int32) (m_tape : (Nat → Int32)) (k11 : Int32 → Int32 → Int32 → Int32 → Int32 → Int32 → Int64 → (Nat → Int32) → (Nat → Int32) → (Nat → Int32) → Int32 → Int32 → Option (Int32 × Int32 × Int32 × Int32 × Int32 × Int32 × Int32 × Int64 × (Nat → Int32) × (Nat → Int32) × (Nat → Int32))) (m_place : Int32) (m_begin : Int32) (m_token : Int32) (m_told : Int32) (m_wrong : Int32) (m_code : Int32) (m_word : Int64) (m_codes : (Nat → Int32)) (m_opened : (Nat → Int32)) (m_compared : (Nat → Int32)) (v1 : Int32) (x0 : Int32) : Option (Int32 × Int32 × Int32 × Int32 × Int32 × Int32 × Int32 × Int64 × (Nat → Int32) × (Nat → Int32) × (Nat → Int32)) := Option.bind (fX9_puts m_code m_codes x0) fun y1 => (bif inb v1 7 then (fX9_reads_424 m_size m_tape k11 m_place m_begin m_token m_told m_wrong y1.1 m_word y1.2 m_opened (upd m_compared (Int32.toNatClampNeg v1) (vp_nar .boolean 0)) v1 1) else none)
set_option maxHeartbeats 4000000 in
set_option maxRecDepth 100000 in
theorem tX9_reads_342 {p : Program} {l : Launch} {e : Env} {s : State} {m : MethodId} {args : Array Value} {below : List Frame} {meth : Method} {c : Code} {D : va_G} {cy : Nat → ClassId} {ad : Nat → Nat} {P : MP} {V : MV} {I : MI} {J : MJ} {A : MI} {B : MJ} {Af : Nat → Prop} {res : Int32 × Int32 × Int32 × Int32 × Int32 × Int32 × Int32 × Int64 × (Nat → Int32) × (Nat → Int32) × (Nat → Int32)} (C0 : CX p s m args meth c cX9_reads 6 (some .boolean) RX9) (hK : va_K D vwCl (tyG cy) s) (hN : NWs s) (hA : ∀ q, s.heap.size ≤ q → Af q) {k11 : Int32 → Int32 → Int32 → Int32 → Int32 → Int32 → Int64 → (Nat → Int32) → (Nat → Int32) → (Nat → Int32) → Int32 → Int32 → Option (Int32 × Int32 × Int32 × Int32 × Int32 × Int32 × Int32 × Int64 × (Nat → Int32) × (Nat → Int32) × (Nat → Int32))} (hk11 : SX9_reads_11 p l e s m args below meth c D cy ad P V I J A B Af res k11) : SX9_reads_342 p l e s m args below meth c D cy ad P V I J A B Af res (fX9_reads_342 (I 0 3) (A 1) k11) := by
  intro m_place m_begin m_token m_told m_wrong m_code m_word m_codes m_opened m_compared v1 x0 H locs ls hW hl hf
  unfold fX9_reads_342 at hf
  obtain ⟨y1, hy1, hf⟩ := b_some hf
  refine c_Vv C0 hK hN hl.1 hW hA (KX9_puts l D cy  ad P V (gp I [(0, 4, m_place), (0, 5, m_begin), (0, 6, m_token), (0, 8, m_told), (0, 9, m_wrong), (0, 24, m_code)]) (gp J [(0, 7, m_word)]) (gm A [(15, m_codes), (16, m_opened), (17, m_compared)]) (gm B []) x0 hy1) (JN_id rfl rfl rfl rfl) (Uw_V uw_1382 uw_1384 us_60 uw_14 uw_1385) rfl rfl hd_X9_puts ⟨rfl, rfl⟩ rfl (dn_some LY_X9_0) rfl rfl rfl dX9_reads_342 ⟨Nat.zero_le _, Nat.zero_le _⟩ (fun H locs hW => ?_)
  have hW : wd D (dn cy LY_X9 ad P V (gp I [(0, 4, m_place), (0, 5, m_begin), (0, 6, m_token), (0, 8, m_told), (0, 9, m_wrong), (0, 24, y1.1)]) (gp J [(0, 7, m_word)]) (gm A [(15, y1.2), (16, m_opened), (17, m_compared)]) (gm B [])) Af s.heap H locs := hW
  refine lv_aload_n C0.1 C0.2.1 dX9_reads_345 rfl (lv_at hl 0 rfl) ?_
  refine s_get (v := .ref (ad 17)) C0 hK hW 0 27 LY_X9_0 rfl fg_X9_59 rfl dX9_reads_346 ?_
  refine lv_iload_n C0.1 C0.2.1 dX9_reads_349 rfl (lv_at hl 1 rfl) ?_
  refine lv_iconst (v := 0) C0.1 C0.2.1 dX9_reads_350 kI_0 ?_
  obtain ⟨hb2, hf⟩ := g_some hf
  refine s_zast (f := (upd m_compared (Int32.toNatClampNeg v1) (vp_nar .boolean 0))) C0 hK hW 17 LY_X9_17 hb2 rfl rfl dX9_reads_351 (fun H locs hW => ?_)
  have hW : wd D (dn cy LY_X9 ad P V (gp I [(0, 4, m_place), (0, 5, m_begin), (0, 6, m_token), (0, 8, m_told), (0, 9, m_wrong), (0, 24, y1.1)]) (gp J [(0, 7, m_word)]) (gm A [(15, y1.2), (16, m_opened), (17, (upd m_compared (Int32.toNatClampNeg v1) (vp_nar .boolean 0)))]) (gm B [])) Af s.heap H locs := hW
  refine lv_iconst (v := 1) C0.1 C0.2.1 dX9_reads_352 kI_1 ?_
  refine lv_istore_n (lv' := [(2, .int 1), (0, .ref (ad 0)), (1, .int v1)]) C0.1 C0.2.1 dX9_reads_353 rfl hl (by decide) rfl (fun ls hl => ?_)
  refine lv_goto (tgt := 424) C0.1 C0.2.1 dX9_reads_354 (by decide) ?_
  exact tX9_reads_424 C0 hK hN hA hk11 m_place m_begin m_token m_told m_wrong y1.1 m_word y1.2 m_opened (upd m_compared (Int32.toNatClampNeg v1) (vp_nar .boolean 0)) v1 1 H locs ls hW (lv_sub hl [1, 2, 0] rfl) hf
def fX9_reads_324 (m_size : Int32) (m_tape : (Nat → Int32)) (k11 : Int32 → Int32 → Int32 → Int32 → Int32 → Int32 → Int64 → (Nat → Int32) → (Nat → Int32) → (Nat → Int32) → Int32 → Int32 → Option (Int32 × Int32 × Int32 × Int32 × Int32 × Int32 × Int32 × Int64 × (Nat → Int32) × (Nat → Int32) × (Nat → Int32))) (m_place : Int32) (m_begin : Int32) (m_token : Int32) (m_told : Int32) (m_wrong : Int32) (m_code : Int32) (m_word : Int64) (m_codes : (Nat → Int32)) (m_opened : (Nat → Int32)) (m_compared : (Nat → Int32)) (v1 : Int32) : Option (Int32 × Int32 × Int32 × Int32 × Int32 × Int32 × Int32 × Int64 × (Nat → Int32) × (Nat → Int32) × (Nat → Int32)) := Option.bind (fX9_isWord m_token m_word 1111) fun y1 => (if y1 = 0 then (fX9_reads_342 m_size m_tape k11 m_place m_begin m_token m_told m_wrong m_code m_word m_codes m_opened m_compared v1 27) else (fX9_reads_342 m_size m_tape k11 m_place m_begin m_token m_told m_wrong m_code m_word m_codes m_opened m_compared v1 26))
set_option maxHeartbeats 4000000 in
set_option maxRecDepth 100000 in
theorem tX9_reads_324 {p : Program} {l : Launch} {e : Env} {s : State} {m : MethodId} {args : Array Value} {below : List Frame} {meth : Method} {c : Code} {D : va_G} {cy : Nat → ClassId} {ad : Nat → Nat} {P : MP} {V : MV} {I : MI} {J : MJ} {A : MI} {B : MJ} {Af : Nat → Prop} {res : Int32 × Int32 × Int32 × Int32 × Int32 × Int32 × Int32 × Int64 × (Nat → Int32) × (Nat → Int32) × (Nat → Int32)} (C0 : CX p s m args meth c cX9_reads 6 (some .boolean) RX9) (hK : va_K D vwCl (tyG cy) s) (hN : NWs s) (hA : ∀ q, s.heap.size ≤ q → Af q) {k11 : Int32 → Int32 → Int32 → Int32 → Int32 → Int32 → Int64 → (Nat → Int32) → (Nat → Int32) → (Nat → Int32) → Int32 → Int32 → Option (Int32 × Int32 × Int32 × Int32 × Int32 × Int32 × Int32 × Int64 × (Nat → Int32) × (Nat → Int32) × (Nat → Int32))} (hk11 : SX9_reads_11 p l e s m args below meth c D cy ad P V I J A B Af res k11) : SX9_reads_324 p l e s m args below meth c D cy ad P V I J A B Af res (fX9_reads_324 (I 0 3) (A 1) k11) := by
  intro m_place m_begin m_token m_told m_wrong m_code m_word m_codes m_opened m_compared v1 H locs ls hW hl hf
  unfold fX9_reads_324 at hf
  refine lv_aload_n C0.1 C0.2.1 dX9_reads_324 rfl (lv_at hl 0 rfl) ?_
  refine lv_aload_n C0.1 C0.2.1 dX9_reads_325 rfl (lv_at hl 0 rfl) ?_
  refine lv_ldc2 (v := 1111) C0.1 C0.2.1 C0.2.2.2.2.1 (C0.2.2.2.2.2.1 _ uw_1313) dX9_reads_326 ?_
  obtain ⟨y1, hy1, hf⟩ := b_some hf
  refine c_Vi C0 hK hN hl.1 hW hA (KX9_isWord l D cy  ad P V (gp I [(0, 4, m_place), (0, 5, m_begin), (0, 6, m_token), (0, 8, m_told), (0, 9, m_wrong), (0, 24, m_code)]) (gp J [(0, 7, m_word)]) (gm A [(15, m_codes), (16, m_opened), (17, m_compared)]) (gm B []) 1111 hy1) (JN_id rfl rfl rfl rfl) (Uw_V uw_1274 uw_1276 us_40 uw_14 uw_1277) rfl rfl hd_X9_isWord ⟨rfl, rfl⟩ rfl (dn_some LY_X9_0) rfl rfl rfl dX9_reads_329 ⟨Nat.zero_le _, Nat.zero_le _⟩ (fun H locs hW => ?_)
  have hW : wd D (dn cy LY_X9 ad P V (gp I [(0, 4, m_place), (0, 5, m_begin), (0, 6, m_token), (0, 8, m_told), (0, 9, m_wrong), (0, 24, m_code)]) (gp J [(0, 7, m_word)]) (gm A [(15, m_codes), (16, m_opened), (17, m_compared)]) (gm B [])) Af s.heap H locs := hW
  refine lv_if_eq (tgt := 340) C0.1 C0.2.1 dX9_reads_332 (by decide) (fun hc2 => ?_) (fun hc2 => ?_)
  · have hf := ite_t hc2 hf
    refine lv_bipush (v := 27) C0.1 C0.2.1 dX9_reads_340 kB_27 ?_
    exact tX9_reads_342 C0 hK hN hA hk11 m_place m_begin m_token m_told m_wrong m_code m_word m_codes m_opened m_compared v1 27 H locs ls hW hl hf
  · have hf := ite_f hc2 hf
    refine lv_bipush (v := 26) C0.1 C0.2.1 dX9_reads_335 kB_26 ?_
    refine lv_goto (tgt := 342) C0.1 C0.2.1 dX9_reads_337 (by decide) ?_
    exact tX9_reads_342 C0 hK hN hA hk11 m_place m_begin m_token m_told m_wrong m_code m_word m_codes m_opened m_compared v1 26 H locs ls hW hl hf
def fX9_reads_379 (m_size : Int32) (m_tape : (Nat → Int32)) (k11 : Int32 → Int32 → Int32 → Int32 → Int32 → Int32 → Int64 → (Nat → Int32) → (Nat → Int32) → (Nat → Int32) → Int32 → Int32 → Option (Int32 × Int32 × Int32 × Int32 × Int32 × Int32 × Int32 × Int64 × (Nat → Int32) × (Nat → Int32) × (Nat → Int32))) (k379 : Int32 → Int32 → Int32 → Int32 → Int32 → Int32 → Int64 → (Nat → Int32) → (Nat → Int32) → (Nat → Int32) → Int32 → Int32 → Option (Int32 × Int32 × Int32 × Int32 × Int32 × Int32 × Int32 × Int64 × (Nat → Int32) × (Nat → Int32) × (Nat → Int32))) (m_place : Int32) (m_begin : Int32) (m_token : Int32) (m_told : Int32) (m_wrong : Int32) (m_code : Int32) (m_word : Int64) (m_codes : (Nat → Int32)) (m_opened : (Nat → Int32)) (m_compared : (Nat → Int32)) (v1 : Int32) (v2 : Int32) : Option (Int32 × Int32 × Int32 × Int32 × Int32 × Int32 × Int32 × Int64 × (Nat → Int32) × (Nat → Int32) × (Nat → Int32)) := if v1 ≤ 0 then (fX9_reads_424 m_size m_tape k11 m_place m_begin m_token m_told m_wrong m_code m_word m_codes m_opened m_compared v1 v2) else (bif inb v1 7 then (if (m_opened (Int32.toNatClampNeg v1)) = 1 then (k379 m_place m_begin m_token m_told m_wrong m_code m_word m_codes m_opened m_compared (v1 + (-1)) v2) else (fX9_reads_424 m_size m_tape k11 m_place m_begin m_token m_told m_wrong m_code m_word m_codes m_opened m_compared v1 v2)) else none)
set_option maxHeartbeats 4000000 in
set_option maxRecDepth 100000 in
theorem tX9_reads_379 {p : Program} {l : Launch} {e : Env} {s : State} {m : MethodId} {args : Array Value} {below : List Frame} {meth : Method} {c : Code} {D : va_G} {cy : Nat → ClassId} {ad : Nat → Nat} {P : MP} {V : MV} {I : MI} {J : MJ} {A : MI} {B : MJ} {Af : Nat → Prop} {res : Int32 × Int32 × Int32 × Int32 × Int32 × Int32 × Int32 × Int64 × (Nat → Int32) × (Nat → Int32) × (Nat → Int32)} (C0 : CX p s m args meth c cX9_reads 6 (some .boolean) RX9) (hK : va_K D vwCl (tyG cy) s) (hN : NWs s) (hA : ∀ q, s.heap.size ≤ q → Af q) {k11 : Int32 → Int32 → Int32 → Int32 → Int32 → Int32 → Int64 → (Nat → Int32) → (Nat → Int32) → (Nat → Int32) → Int32 → Int32 → Option (Int32 × Int32 × Int32 × Int32 × Int32 × Int32 × Int32 × Int64 × (Nat → Int32) × (Nat → Int32) × (Nat → Int32))} (hk11 : SX9_reads_11 p l e s m args below meth c D cy ad P V I J A B Af res k11) {k379 : Int32 → Int32 → Int32 → Int32 → Int32 → Int32 → Int64 → (Nat → Int32) → (Nat → Int32) → (Nat → Int32) → Int32 → Int32 → Option (Int32 × Int32 × Int32 × Int32 × Int32 × Int32 × Int32 × Int64 × (Nat → Int32) × (Nat → Int32) × (Nat → Int32))} (hk379 : SX9_reads_379 p l e s m args below meth c D cy ad P V I J A B Af res k379) : SX9_reads_379 p l e s m args below meth c D cy ad P V I J A B Af res (fX9_reads_379 (I 0 3) (A 1) k11 k379) := by
  intro m_place m_begin m_token m_told m_wrong m_code m_word m_codes m_opened m_compared v1 v2 H locs ls hW hl hf
  unfold fX9_reads_379 at hf
  refine lv_iload_n C0.1 C0.2.1 dX9_reads_379 rfl (lv_at hl 1 rfl) ?_
  refine lv_if_le (tgt := 424) C0.1 C0.2.1 dX9_reads_380 (by decide) (fun hc1 => ?_) (fun hc1 => ?_)
  · have hf := ite_t hc1 hf
    exact tX9_reads_424 C0 hK hN hA hk11 m_place m_begin m_token m_told m_wrong m_code m_word m_codes m_opened m_compared v1 v2 H locs ls hW hl hf
  · have hf := ite_f hc1 hf
    refine lv_aload_n C0.1 C0.2.1 dX9_reads_383 rfl (lv_at hl 0 rfl) ?_
    refine s_get (v := .ref (ad 16)) C0 hK hW 0 26 LY_X9_0 rfl fg_X9_56 rfl dX9_reads_384 ?_
    refine lv_iload_n C0.1 C0.2.1 dX9_reads_387 rfl (lv_at hl 1 rfl) ?_
    obtain ⟨hb2, hf⟩ := g_some hf
    refine s_iald (v := (m_opened (Int32.toNatClampNeg v1))) C0 hK hW 16 LY_X9_16 hb2 rfl dX9_reads_388 ?_
    refine lv_iconst (v := 1) C0.1 C0.2.1 dX9_reads_389 kI_1 ?_
    refine lv_icmp_ne (tgt := 424) C0.1 C0.2.1 dX9_reads_390 (by decide) (fun hc3 => ?_) (fun hc3 => ?_)
    · have hf := ite_f hc3 hf
      exact tX9_reads_424 C0 hK hN hA hk11 m_place m_begin m_token m_told m_wrong m_code m_word m_codes m_opened m_compared v1 v2 H locs ls hW hl hf
    · have hf := ite_t hc3 hf
      refine lv_iinc (v := (v1 + (-1))) (lv' := [(1, .int (v1 + (-1))), (0, .ref (ad 0)), (2, .int v2)]) C0.1 C0.2.1 dX9_reads_393 hl (k := 1) rfl (congrArg (fun z => _ + z) kI_m1) (by decide) rfl (fun ls hl => ?_)
      refine lv_goto (tgt := 379) C0.1 C0.2.1 dX9_reads_396 (by decide) ?_
      exact hk379 m_place m_begin m_token m_told m_wrong m_code m_word m_codes m_opened m_compared (v1 + (-1)) v2 H locs ls hW (lv_sub hl [1, 0, 2] rfl) hf
theorem TX9_reads_379 {p : Program} {l : Launch} {e : Env} {s : State} {m : MethodId} {args : Array Value} {below : List Frame} {meth : Method} {c : Code} {D : va_G} {cy : Nat → ClassId} {ad : Nat → Nat} {P : MP} {V : MV} {I : MI} {J : MJ} {A : MI} {B : MJ} {Af : Nat → Prop} {res : Int32 × Int32 × Int32 × Int32 × Int32 × Int32 × Int32 × Int64 × (Nat → Int32) × (Nat → Int32) × (Nat → Int32)} (C0 : CX p s m args meth c cX9_reads 6 (some .boolean) RX9) (hK : va_K D vwCl (tyG cy) s) (hN : NWs s) (hA : ∀ q, s.heap.size ≤ q → Af q) {k11 : Int32 → Int32 → Int32 → Int32 → Int32 → Int32 → Int64 → (Nat → Int32) → (Nat → Int32) → (Nat → Int32) → Int32 → Int32 → Option (Int32 × Int32 × Int32 × Int32 × Int32 × Int32 × Int32 × Int64 × (Nat → Int32) × (Nat → Int32) × (Nat → Int32))} (hk11 : SX9_reads_11 p l e s m args below meth c D cy ad P V I J A B Af res k11) : ∀ n, SX9_reads_379 p l e s m args below meth c D cy ad P V I J A B Af res (itr (fun kk => fX9_reads_379 (I 0 3) (A 1) k11 kk) (fun _ _ _ _ _ _ _ _ _ _ _ _ => none) n) := by
  intro n
  induction n with
  | zero => intro m_place m_begin m_token m_told m_wrong m_code m_word m_codes m_opened m_compared v1 v2 H locs ls hW hl hf; exact (nomatch (show (none : Option (Int32 × Int32 × Int32 × Int32 × Int32 × Int32 × Int32 × Int64 × (Nat → Int32) × (Nat → Int32) × (Nat → Int32))) = some res from hf))
  | succ n ih => exact tX9_reads_379 C0 hK hN hA hk11 ih
def fX9_reads_418 (m_size : Int32) (m_tape : (Nat → Int32)) (m_place : Int32) (m_begin : Int32) (m_token : Int32) (m_told : Int32) (m_wrong : Int32) (m_code : Int32) (m_word : Int64) (m_codes : (Nat → Int32)) (m_opened : (Nat → Int32)) (m_compared : (Nat → Int32)) : Option (Int32 × Int32 × Int32 × Int32 × Int32 × Int32 × Int32 × Int64 × (Nat → Int32) × (Nat → Int32) × (Nat → Int32)) := Option.bind (fX9_fails m_begin m_wrong 1) fun y1 => (some ((vp_nar .boolean y1.1), m_place, m_begin, m_token, m_told, y1.2, m_code, m_word, m_codes, m_opened, m_compared))
set_option maxHeartbeats 4000000 in
set_option maxRecDepth 100000 in
theorem tX9_reads_418 {p : Program} {l : Launch} {e : Env} {s : State} {m : MethodId} {args : Array Value} {below : List Frame} {meth : Method} {c : Code} {D : va_G} {cy : Nat → ClassId} {ad : Nat → Nat} {P : MP} {V : MV} {I : MI} {J : MJ} {A : MI} {B : MJ} {Af : Nat → Prop} {res : Int32 × Int32 × Int32 × Int32 × Int32 × Int32 × Int32 × Int64 × (Nat → Int32) × (Nat → Int32) × (Nat → Int32)} (C0 : CX p s m args meth c cX9_reads 6 (some .boolean) RX9) (hK : va_K D vwCl (tyG cy) s) (hN : NWs s) (hA : ∀ q, s.heap.size ≤ q → Af q) : SX9_reads_418 p l e s m args below meth c D cy ad P V I J A B Af res (fX9_reads_418 (I 0 3) (A 1)) := by
  intro m_place m_begin m_token m_told m_wrong m_code m_word m_codes m_opened m_compared H locs ls hW hl hf
  unfold fX9_reads_418 at hf
  refine lv_aload_n C0.1 C0.2.1 dX9_reads_418 rfl (lv_at hl 0 rfl) ?_
  refine lv_iconst (v := 1) C0.1 C0.2.1 dX9_reads_419 kI_1 ?_
  obtain ⟨y1, hy1, hf⟩ := b_some hf
  refine c_Vi C0 hK hN hl.1 hW hA (KX9_fails l D cy  ad P V (gp I [(0, 4, m_place), (0, 5, m_begin), (0, 6, m_token), (0, 8, m_told), (0, 9, m_wrong), (0, 24, m_code)]) (gp J [(0, 7, m_word)]) (gm A [(15, m_codes), (16, m_opened), (17, m_compared)]) (gm B []) 1 hy1) (JN_id rfl rfl rfl rfl) (Uw_V uw_1282 uw_1284 us_42 uw_14 uw_1285) rfl rfl hd_X9_fails ⟨rfl, rfl⟩ rfl (dn_some LY_X9_0) rfl rfl rfl dX9_reads_420 ⟨Nat.zero_le _, Nat.zero_le _⟩ (fun H locs hW => ?_)
  have hW : wd D (dn cy LY_X9 ad P V (gp I [(0, 4, m_place), (0, 5, m_begin), (0, 6, m_token), (0, 8, m_told), (0, 9, y1.2), (0, 24, m_code)]) (gp J [(0, 7, m_word)]) (gm A [(15, m_codes), (16, m_opened), (17, m_compared)]) (gm B [])) Af s.heap H locs := hW
  obtain rfl := Option.some.inj hf
  exact r_bool C0 hK hW (v' := (vp_nar .boolean y1.1)) rfl dX9_reads_423
def fX9_reads_399 (m_size : Int32) (m_tape : (Nat → Int32)) (m_place : Int32) (m_begin : Int32) (m_token : Int32) (m_told : Int32) (m_wrong : Int32) (m_code : Int32) (m_word : Int64) (m_codes : (Nat → Int32)) (m_opened : (Nat → Int32)) (m_compared : (Nat → Int32)) (v1 : Int32) : Option (Int32 × Int32 × Int32 × Int32 × Int32 × Int32 × Int32 × Int64 × (Nat → Int32) × (Nat → Int32) × (Nat → Int32)) := if v1 = 0 then (Option.bind (fX9_isSign m_begin m_token m_tape 59) fun y2 => (if y2 = 0 then (fX9_reads_418 m_size m_tape m_place m_begin m_token m_told m_wrong m_code m_word m_codes m_opened m_compared) else (Option.bind (fX9_nextToken m_size m_tape m_place m_begin m_token m_told m_word) fun y4 => (some (1, y4.1, y4.2.1, y4.2.2.1, y4.2.2.2.1, m_wrong, m_code, y4.2.2.2.2, m_codes, m_opened, m_compared))))) else (fX9_reads_418 m_size m_tape m_place m_begin m_token m_told m_wrong m_code m_word m_codes m_opened m_compared)
set_option maxHeartbeats 4000000 in
set_option maxRecDepth 100000 in
theorem tX9_reads_399 {p : Program} {l : Launch} {e : Env} {s : State} {m : MethodId} {args : Array Value} {below : List Frame} {meth : Method} {c : Code} {D : va_G} {cy : Nat → ClassId} {ad : Nat → Nat} {P : MP} {V : MV} {I : MI} {J : MJ} {A : MI} {B : MJ} {Af : Nat → Prop} {res : Int32 × Int32 × Int32 × Int32 × Int32 × Int32 × Int32 × Int64 × (Nat → Int32) × (Nat → Int32) × (Nat → Int32)} (C0 : CX p s m args meth c cX9_reads 6 (some .boolean) RX9) (hK : va_K D vwCl (tyG cy) s) (hN : NWs s) (hA : ∀ q, s.heap.size ≤ q → Af q) : SX9_reads_399 p l e s m args below meth c D cy ad P V I J A B Af res (fX9_reads_399 (I 0 3) (A 1)) := by
  intro m_place m_begin m_token m_told m_wrong m_code m_word m_codes m_opened m_compared v1 H locs ls hW hl hf
  unfold fX9_reads_399 at hf
  refine lv_iload_n C0.1 C0.2.1 dX9_reads_399 rfl (lv_at hl 1 rfl) ?_
  refine lv_if_ne (tgt := 418) C0.1 C0.2.1 dX9_reads_400 (by decide) (fun hc1 => ?_) (fun hc1 => ?_)
  · have hf := ite_f hc1 hf
    exact tX9_reads_418 C0 hK hN hA  m_place m_begin m_token m_told m_wrong m_code m_word m_codes m_opened m_compared H locs ls hW (lv_sub hl [0] rfl) hf
  · have hf := ite_t hc1 hf
    refine lv_aload_n C0.1 C0.2.1 dX9_reads_403 rfl (lv_at hl 0 rfl) ?_
    refine lv_bipush (v := 59) C0.1 C0.2.1 dX9_reads_404 kB_59 ?_
    obtain ⟨y2, hy2, hf⟩ := b_some hf
    refine c_Vi C0 hK hN hl.1 hW hA (KX9_isSign l D cy  ad P V (gp I [(0, 4, m_place), (0, 5, m_begin), (0, 6, m_token), (0, 8, m_told), (0, 9, m_wrong), (0, 24, m_code)]) (gp J [(0, 7, m_word)]) (gm A [(15, m_codes), (16, m_opened), (17, m_compared)]) (gm B []) 59 hy2) (JN_id rfl rfl rfl rfl) (Uw_V uw_1338 uw_1340 us_50 uw_14 uw_1341) rfl rfl hd_X9_isSign ⟨rfl, rfl⟩ rfl (dn_some LY_X9_0) rfl rfl rfl dX9_reads_406 ⟨Nat.zero_le _, Nat.zero_le _⟩ (fun H locs hW => ?_)
    have hW : wd D (dn cy LY_X9 ad P V (gp I [(0, 4, m_place), (0, 5, m_begin), (0, 6, m_token), (0, 8, m_told), (0, 9, m_wrong), (0, 24, m_code)]) (gp J [(0, 7, m_word)]) (gm A [(15, m_codes), (16, m_opened), (17, m_compared)]) (gm B [])) Af s.heap H locs := hW
    refine lv_if_eq (tgt := 418) C0.1 C0.2.1 dX9_reads_409 (by decide) (fun hc3 => ?_) (fun hc3 => ?_)
    · have hf := ite_t hc3 hf
      exact tX9_reads_418 C0 hK hN hA  m_place m_begin m_token m_told m_wrong m_code m_word m_codes m_opened m_compared H locs ls hW (lv_sub hl [0] rfl) hf
    · have hf := ite_f hc3 hf
      refine lv_aload_n C0.1 C0.2.1 dX9_reads_412 rfl (lv_at hl 0 rfl) ?_
      obtain ⟨y4, hy4, hf⟩ := b_some hf
      refine c_Vv C0 hK hN hl.1 hW hA (KX9_nextToken l D cy  ad P V (gp I [(0, 4, m_place), (0, 5, m_begin), (0, 6, m_token), (0, 8, m_told), (0, 9, m_wrong), (0, 24, m_code)]) (gp J [(0, 7, m_word)]) (gm A [(15, m_codes), (16, m_opened), (17, m_compared)]) (gm B [])  hy4) (JN_id rfl rfl rfl rfl) (Uw_V uw_1263 uw_1265 us_38 uw_14 uw_1266) rfl rfl hd_X9_nextToken ⟨rfl, rfl⟩ rfl (dn_some LY_X9_0) rfl rfl rfl dX9_reads_413 ⟨Nat.zero_le _, Nat.zero_le _⟩ (fun H locs hW => ?_)
      have hW : wd D (dn cy LY_X9 ad P V (gp I [(0, 4, y4.1), (0, 5, y4.2.1), (0, 6, y4.2.2.1), (0, 8, y4.2.2.2.1), (0, 9, m_wrong), (0, 24, m_code)]) (gp J [(0, 7, y4.2.2.2.2)]) (gm A [(15, m_codes), (16, m_opened), (17, m_compared)]) (gm B [])) Af s.heap H locs := hW
      refine lv_iconst (v := 1) C0.1 C0.2.1 dX9_reads_416 kI_1 ?_
      obtain rfl := Option.some.inj hf
      exact r_bool C0 hK hW (v' := 1) rfl dX9_reads_417
def fX9_reads_304 (m_size : Int32) (m_tape : (Nat → Int32)) (k11 : Int32 → Int32 → Int32 → Int32 → Int32 → Int32 → Int64 → (Nat → Int32) → (Nat → Int32) → (Nat → Int32) → Int32 → Int32 → Option (Int32 × Int32 × Int32 × Int32 × Int32 × Int32 × Int32 × Int64 × (Nat → Int32) × (Nat → Int32) × (Nat → Int32))) (m_place : Int32) (m_begin : Int32) (m_token : Int32) (m_told : Int32) (m_wrong : Int32) (m_code : Int32) (m_word : Int64) (m_codes : (Nat → Int32)) (m_opened : (Nat → Int32)) (m_compared : (Nat → Int32)) (v1 : Int32) (v2 : Int32) : Option (Int32 × Int32 × Int32 × Int32 × Int32 × Int32 × Int32 × Int64 × (Nat → Int32) × (Nat → Int32) × (Nat → Int32)) := Option.bind (fX9_isWord m_token m_word 1111) fun y1 => (if y1 = 0 then (Option.bind (fX9_isWord m_token m_word 423) fun y3 => (if y3 = 0 then (Option.bind (fX9_isSign m_begin m_token m_tape 41) fun y5 => (if y5 = 0 then (fX9_reads_399 m_size m_tape m_place m_begin m_token m_told m_wrong m_code m_word m_codes m_opened m_compared v1) else (if v1 ≤ 0 then (fX9_reads_399 m_size m_tape m_place m_begin m_token m_told m_wrong m_code m_word m_codes m_opened m_compared v1) else (Option.bind (fX9_puts m_code m_codes 29) fun y8 => (itr (fun kk => fX9_reads_379 m_size m_tape k11 kk) (fun _ _ _ _ _ _ _ _ _ _ _ _ => none) FU m_place m_begin m_token m_told m_wrong y8.1 m_word y8.2 m_opened m_compared (v1 + (-1)) v2))))) else (fX9_reads_324 m_size m_tape k11 m_place m_begin m_token m_told m_wrong m_code m_word m_codes m_opened m_compared v1))) else (fX9_reads_324 m_size m_tape k11 m_place m_begin m_token m_told m_wrong m_code m_word m_codes m_opened m_compared v1))
set_option maxHeartbeats 4000000 in
set_option maxRecDepth 100000 in
theorem tX9_reads_304 {p : Program} {l : Launch} {e : Env} {s : State} {m : MethodId} {args : Array Value} {below : List Frame} {meth : Method} {c : Code} {D : va_G} {cy : Nat → ClassId} {ad : Nat → Nat} {P : MP} {V : MV} {I : MI} {J : MJ} {A : MI} {B : MJ} {Af : Nat → Prop} {res : Int32 × Int32 × Int32 × Int32 × Int32 × Int32 × Int32 × Int64 × (Nat → Int32) × (Nat → Int32) × (Nat → Int32)} (C0 : CX p s m args meth c cX9_reads 6 (some .boolean) RX9) (hK : va_K D vwCl (tyG cy) s) (hN : NWs s) (hA : ∀ q, s.heap.size ≤ q → Af q) {k11 : Int32 → Int32 → Int32 → Int32 → Int32 → Int32 → Int64 → (Nat → Int32) → (Nat → Int32) → (Nat → Int32) → Int32 → Int32 → Option (Int32 × Int32 × Int32 × Int32 × Int32 × Int32 × Int32 × Int64 × (Nat → Int32) × (Nat → Int32) × (Nat → Int32))} (hk11 : SX9_reads_11 p l e s m args below meth c D cy ad P V I J A B Af res k11) : SX9_reads_304 p l e s m args below meth c D cy ad P V I J A B Af res (fX9_reads_304 (I 0 3) (A 1) k11) := by
  intro m_place m_begin m_token m_told m_wrong m_code m_word m_codes m_opened m_compared v1 v2 H locs ls hW hl hf
  unfold fX9_reads_304 at hf
  refine lv_aload_n C0.1 C0.2.1 dX9_reads_304 rfl (lv_at hl 0 rfl) ?_
  refine lv_ldc2 (v := 1111) C0.1 C0.2.1 C0.2.2.2.2.1 (C0.2.2.2.2.2.1 _ uw_1313) dX9_reads_305 ?_
  obtain ⟨y1, hy1, hf⟩ := b_some hf
  refine c_Vi C0 hK hN hl.1 hW hA (KX9_isWord l D cy  ad P V (gp I [(0, 4, m_place), (0, 5, m_begin), (0, 6, m_token), (0, 8, m_told), (0, 9, m_wrong), (0, 24, m_code)]) (gp J [(0, 7, m_word)]) (gm A [(15, m_codes), (16, m_opened), (17, m_compared)]) (gm B []) 1111 hy1) (JN_id rfl rfl rfl rfl) (Uw_V uw_1274 uw_1276 us_40 uw_14 uw_1277) rfl rfl hd_X9_isWord ⟨rfl, rfl⟩ rfl (dn_some LY_X9_0) rfl rfl rfl dX9_reads_308 ⟨Nat.zero_le _, Nat.zero_le _⟩ (fun H locs hW => ?_)
  have hW : wd D (dn cy LY_X9 ad P V (gp I [(0, 4, m_place), (0, 5, m_begin), (0, 6, m_token), (0, 8, m_told), (0, 9, m_wrong), (0, 24, m_code)]) (gp J [(0, 7, m_word)]) (gm A [(15, m_codes), (16, m_opened), (17, m_compared)]) (gm B [])) Af s.heap H locs := hW
  refine lv_if_ne (tgt := 324) C0.1 C0.2.1 dX9_reads_311 (by decide) (fun hc2 => ?_) (fun hc2 => ?_)
  · have hf := ite_f hc2 hf
    exact tX9_reads_324 C0 hK hN hA hk11 m_place m_begin m_token m_told m_wrong m_code m_word m_codes m_opened m_compared v1 H locs ls hW (lv_sub hl [0, 1] rfl) hf
  · have hf := ite_t hc2 hf
    refine lv_aload_n C0.1 C0.2.1 dX9_reads_314 rfl (lv_at hl 0 rfl) ?_
    refine lv_ldc2 (v := 423) C0.1 C0.2.1 C0.2.2.2.2.1 (C0.2.2.2.2.2.1 _ uw_1314) dX9_reads_315 ?_
    obtain ⟨y3, hy3, hf⟩ := b_some hf
    refine c_Vi C0 hK hN hl.1 hW hA (KX9_isWord l D cy  ad P V (gp I [(0, 4, m_place), (0, 5, m_begin), (0, 6, m_token), (0, 8, m_told), (0, 9, m_wrong), (0, 24, m_code)]) (gp J [(0, 7, m_word)]) (gm A [(15, m_codes), (16, m_opened), (17, m_compared)]) (gm B []) 423 hy3) (JN_id rfl rfl rfl rfl) (Uw_V uw_1274 uw_1276 us_40 uw_14 uw_1277) rfl rfl hd_X9_isWord ⟨rfl, rfl⟩ rfl (dn_some LY_X9_0) rfl rfl rfl dX9_reads_318 ⟨Nat.zero_le _, Nat.zero_le _⟩ (fun H locs hW => ?_)
    have hW : wd D (dn cy LY_X9 ad P V (gp I [(0, 4, m_place), (0, 5, m_begin), (0, 6, m_token), (0, 8, m_told), (0, 9, m_wrong), (0, 24, m_code)]) (gp J [(0, 7, m_word)]) (gm A [(15, m_codes), (16, m_opened), (17, m_compared)]) (gm B [])) Af s.heap H locs := hW
    refine lv_if_eq (tgt := 357) C0.1 C0.2.1 dX9_reads_321 (by decide) (fun hc4 => ?_) (fun hc4 => ?_)
    · have hf := ite_t hc4 hf
      refine lv_aload_n C0.1 C0.2.1 dX9_reads_357 rfl (lv_at hl 0 rfl) ?_
      refine lv_bipush (v := 41) C0.1 C0.2.1 dX9_reads_358 kB_41 ?_
      obtain ⟨y5, hy5, hf⟩ := b_some hf
      refine c_Vi C0 hK hN hl.1 hW hA (KX9_isSign l D cy  ad P V (gp I [(0, 4, m_place), (0, 5, m_begin), (0, 6, m_token), (0, 8, m_told), (0, 9, m_wrong), (0, 24, m_code)]) (gp J [(0, 7, m_word)]) (gm A [(15, m_codes), (16, m_opened), (17, m_compared)]) (gm B []) 41 hy5) (JN_id rfl rfl rfl rfl) (Uw_V uw_1338 uw_1340 us_50 uw_14 uw_1341) rfl rfl hd_X9_isSign ⟨rfl, rfl⟩ rfl (dn_some LY_X9_0) rfl rfl rfl dX9_reads_360 ⟨Nat.zero_le _, Nat.zero_le _⟩ (fun H locs hW => ?_)
      have hW : wd D (dn cy LY_X9 ad P V (gp I [(0, 4, m_place), (0, 5, m_begin), (0, 6, m_token), (0, 8, m_told), (0, 9, m_wrong), (0, 24, m_code)]) (gp J [(0, 7, m_word)]) (gm A [(15, m_codes), (16, m_opened), (17, m_compared)]) (gm B [])) Af s.heap H locs := hW
      refine lv_if_eq (tgt := 399) C0.1 C0.2.1 dX9_reads_363 (by decide) (fun hc6 => ?_) (fun hc6 => ?_)
      · have hf := ite_t hc6 hf
        exact tX9_reads_399 C0 hK hN hA  m_place m_begin m_token m_told m_wrong m_code m_word m_codes m_opened m_compared v1 H locs ls hW (lv_sub hl [0, 1] rfl) hf
      · have hf := ite_f hc6 hf
        refine lv_iload_n C0.1 C0.2.1 dX9_reads_366 rfl (lv_at hl 1 rfl) ?_
        refine lv_if_le (tgt := 399) C0.1 C0.2.1 dX9_reads_367 (by decide) (fun hc7 => ?_) (fun hc7 => ?_)
        · have hf := ite_t hc7 hf
          exact tX9_reads_399 C0 hK hN hA  m_place m_begin m_token m_told m_wrong m_code m_word m_codes m_opened m_compared v1 H locs ls hW (lv_sub hl [0, 1] rfl) hf
        · have hf := ite_f hc7 hf
          refine lv_aload_n C0.1 C0.2.1 dX9_reads_370 rfl (lv_at hl 0 rfl) ?_
          refine lv_bipush (v := 29) C0.1 C0.2.1 dX9_reads_371 kB_29 ?_
          obtain ⟨y8, hy8, hf⟩ := b_some hf
          refine c_Vv C0 hK hN hl.1 hW hA (KX9_puts l D cy  ad P V (gp I [(0, 4, m_place), (0, 5, m_begin), (0, 6, m_token), (0, 8, m_told), (0, 9, m_wrong), (0, 24, m_code)]) (gp J [(0, 7, m_word)]) (gm A [(15, m_codes), (16, m_opened), (17, m_compared)]) (gm B []) 29 hy8) (JN_id rfl rfl rfl rfl) (Uw_V uw_1382 uw_1384 us_60 uw_14 uw_1385) rfl rfl hd_X9_puts ⟨rfl, rfl⟩ rfl (dn_some LY_X9_0) rfl rfl rfl dX9_reads_373 ⟨Nat.zero_le _, Nat.zero_le _⟩ (fun H locs hW => ?_)
          have hW : wd D (dn cy LY_X9 ad P V (gp I [(0, 4, m_place), (0, 5, m_begin), (0, 6, m_token), (0, 8, m_told), (0, 9, m_wrong), (0, 24, y8.1)]) (gp J [(0, 7, m_word)]) (gm A [(15, y8.2), (16, m_opened), (17, m_compared)]) (gm B [])) Af s.heap H locs := hW
          refine lv_iinc (v := (v1 + (-1))) (lv' := [(1, .int (v1 + (-1))), (0, .ref (ad 0)), (2, .int v2)]) C0.1 C0.2.1 dX9_reads_376 hl (k := 1) rfl (congrArg (fun z => _ + z) kI_m1) (by decide) rfl (fun ls hl => ?_)
          exact TX9_reads_379 C0 hK hN hA hk11 FU m_place m_begin m_token m_told m_wrong y8.1 m_word y8.2 m_opened m_compared (v1 + (-1)) v2 H locs ls hW (lv_sub hl [1, 0, 2] rfl) hf
    · have hf := ite_f hc4 hf
      exact tX9_reads_324 C0 hK hN hA hk11 m_place m_begin m_token m_told m_wrong m_code m_word m_codes m_opened m_compared v1 H locs ls hW (lv_sub hl [0, 1] rfl) hf
def fX9_reads_263 (m_size : Int32) (m_tape : (Nat → Int32)) (k11 : Int32 → Int32 → Int32 → Int32 → Int32 → Int32 → Int64 → (Nat → Int32) → (Nat → Int32) → (Nat → Int32) → Int32 → Int32 → Option (Int32 × Int32 × Int32 × Int32 × Int32 × Int32 × Int32 × Int64 × (Nat → Int32) × (Nat → Int32) × (Nat → Int32))) (m_place : Int32) (m_begin : Int32) (m_token : Int32) (m_told : Int32) (m_wrong : Int32) (m_code : Int32) (m_word : Int64) (m_codes : (Nat → Int32)) (m_opened : (Nat → Int32)) (m_compared : (Nat → Int32)) (v1 : Int32) (v2 : Int32) : Option (Int32 × Int32 × Int32 × Int32 × Int32 × Int32 × Int32 × Int64 × (Nat → Int32) × (Nat → Int32) × (Nat → Int32)) := bif inb v1 7 then (if (m_compared (Int32.toNatClampNeg v1)) = 0 then (Option.bind (fX9_isSign m_begin m_token m_tape 60) fun y3 => (if y3 = 0 then (fX9_reads_289 m_size m_tape k11 m_place m_begin m_token m_told m_wrong m_code m_word m_codes m_opened m_compared v1 25) else (fX9_reads_289 m_size m_tape k11 m_place m_begin m_token m_told m_wrong m_code m_word m_codes m_opened m_compared v1 24))) else (fX9_reads_304 m_size m_tape k11 m_place m_begin m_token m_told m_wrong m_code m_word m_codes m_opened m_compared v1 v2)) else none
set_option maxHeartbeats 4000000 in
set_option maxRecDepth 100000 in
theorem tX9_reads_263 {p : Program} {l : Launch} {e : Env} {s : State} {m : MethodId} {args : Array Value} {below : List Frame} {meth : Method} {c : Code} {D : va_G} {cy : Nat → ClassId} {ad : Nat → Nat} {P : MP} {V : MV} {I : MI} {J : MJ} {A : MI} {B : MJ} {Af : Nat → Prop} {res : Int32 × Int32 × Int32 × Int32 × Int32 × Int32 × Int32 × Int64 × (Nat → Int32) × (Nat → Int32) × (Nat → Int32)} (C0 : CX p s m args meth c cX9_reads 6 (some .boolean) RX9) (hK : va_K D vwCl (tyG cy) s) (hN : NWs s) (hA : ∀ q, s.heap.size ≤ q → Af q) {k11 : Int32 → Int32 → Int32 → Int32 → Int32 → Int32 → Int64 → (Nat → Int32) → (Nat → Int32) → (Nat → Int32) → Int32 → Int32 → Option (Int32 × Int32 × Int32 × Int32 × Int32 × Int32 × Int32 × Int64 × (Nat → Int32) × (Nat → Int32) × (Nat → Int32))} (hk11 : SX9_reads_11 p l e s m args below meth c D cy ad P V I J A B Af res k11) : SX9_reads_263 p l e s m args below meth c D cy ad P V I J A B Af res (fX9_reads_263 (I 0 3) (A 1) k11) := by
  intro m_place m_begin m_token m_told m_wrong m_code m_word m_codes m_opened m_compared v1 v2 H locs ls hW hl hf
  unfold fX9_reads_263 at hf
  refine lv_aload_n C0.1 C0.2.1 dX9_reads_263 rfl (lv_at hl 0 rfl) ?_
  refine s_get (v := .ref (ad 17)) C0 hK hW 0 27 LY_X9_0 rfl fg_X9_59 rfl dX9_reads_264 ?_
  refine lv_iload_n C0.1 C0.2.1 dX9_reads_267 rfl (lv_at hl 1 rfl) ?_
  obtain ⟨hb1, hf⟩ := g_some hf
  refine s_zald (v := (m_compared (Int32.toNatClampNeg v1))) C0 hK hW 17 LY_X9_17 hb1 rfl dX9_reads_268 ?_
  refine lv_if_ne (tgt := 304) C0.1 C0.2.1 dX9_reads_269 (by decide) (fun hc2 => ?_) (fun hc2 => ?_)
  · have hf := ite_f hc2 hf
    exact tX9_reads_304 C0 hK hN hA hk11 m_place m_begin m_token m_told m_wrong m_code m_word m_codes m_opened m_compared v1 v2 H locs ls hW hl hf
  · have hf := ite_t hc2 hf
    refine lv_aload_n C0.1 C0.2.1 dX9_reads_272 rfl (lv_at hl 0 rfl) ?_
    refine lv_aload_n C0.1 C0.2.1 dX9_reads_273 rfl (lv_at hl 0 rfl) ?_
    refine lv_bipush (v := 60) C0.1 C0.2.1 dX9_reads_274 kB_60 ?_
    obtain ⟨y3, hy3, hf⟩ := b_some hf
    refine c_Vi C0 hK hN hl.1 hW hA (KX9_isSign l D cy  ad P V (gp I [(0, 4, m_place), (0, 5, m_begin), (0, 6, m_token), (0, 8, m_told), (0, 9, m_wrong), (0, 24, m_code)]) (gp J [(0, 7, m_word)]) (gm A [(15, m_codes), (16, m_opened), (17, m_compared)]) (gm B []) 60 hy3) (JN_id rfl rfl rfl rfl) (Uw_V uw_1338 uw_1340 us_50 uw_14 uw_1341) rfl rfl hd_X9_isSign ⟨rfl, rfl⟩ rfl (dn_some LY_X9_0) rfl rfl rfl dX9_reads_276 ⟨Nat.zero_le _, Nat.zero_le _⟩ (fun H locs hW => ?_)
    have hW : wd D (dn cy LY_X9 ad P V (gp I [(0, 4, m_place), (0, 5, m_begin), (0, 6, m_token), (0, 8, m_told), (0, 9, m_wrong), (0, 24, m_code)]) (gp J [(0, 7, m_word)]) (gm A [(15, m_codes), (16, m_opened), (17, m_compared)]) (gm B [])) Af s.heap H locs := hW
    refine lv_if_eq (tgt := 287) C0.1 C0.2.1 dX9_reads_279 (by decide) (fun hc4 => ?_) (fun hc4 => ?_)
    · have hf := ite_t hc4 hf
      refine lv_bipush (v := 25) C0.1 C0.2.1 dX9_reads_287 kB_25 ?_
      exact tX9_reads_289 C0 hK hN hA hk11 m_place m_begin m_token m_told m_wrong m_code m_word m_codes m_opened m_compared v1 25 H locs ls hW (lv_sub hl [0, 1] rfl) hf
    · have hf := ite_f hc4 hf
      refine lv_bipush (v := 24) C0.1 C0.2.1 dX9_reads_282 kB_24 ?_
      refine lv_goto (tgt := 289) C0.1 C0.2.1 dX9_reads_284 (by decide) ?_
      exact tX9_reads_289 C0 hK hN hA hk11 m_place m_begin m_token m_told m_wrong m_code m_word m_codes m_opened m_compared v1 24 H locs ls hW (lv_sub hl [0, 1] rfl) hf
def fX9_reads_11 (m_size : Int32) (m_tape : (Nat → Int32)) (k11 : Int32 → Int32 → Int32 → Int32 → Int32 → Int32 → Int64 → (Nat → Int32) → (Nat → Int32) → (Nat → Int32) → Int32 → Int32 → Option (Int32 × Int32 × Int32 × Int32 × Int32 × Int32 × Int32 × Int64 × (Nat → Int32) × (Nat → Int32) × (Nat → Int32))) (m_place : Int32) (m_begin : Int32) (m_token : Int32) (m_told : Int32) (m_wrong : Int32) (m_code : Int32) (m_word : Int64) (m_codes : (Nat → Int32)) (m_opened : (Nat → Int32)) (m_compared : (Nat → Int32)) (v1 : Int32) (v2 : Int32) : Option (Int32 × Int32 × Int32 × Int32 × Int32 × Int32 × Int32 × Int64 × (Nat → Int32) × (Nat → Int32) × (Nat → Int32)) := if v2 = 0 then (Option.bind (fX9_isSign m_begin m_token m_tape 43) fun y2 => (if y2 = 0 then (Option.bind (fX9_isSign m_begin m_token m_tape 45) fun y4 => (if y4 = 0 then (Option.bind (fX9_isSign m_begin m_token m_tape 42) fun y6 => (if y6 = 0 then (Option.bind (fX9_isSign m_begin m_token m_tape 60) fun y8 => (if y8 = 0 then (Option.bind (fX9_isSign m_begin m_token m_tape 61) fun y10 => (if y10 = 0 then (fX9_reads_304 m_size m_tape k11 m_place m_begin m_token m_told m_wrong m_code m_word m_codes m_opened m_compared v1 v2) else (fX9_reads_263 m_size m_tape k11 m_place m_begin m_token m_told m_wrong m_code m_word m_codes m_opened m_compared v1 v2))) else (fX9_reads_263 m_size m_tape k11 m_place m_begin m_token m_told m_wrong m_code m_word m_codes m_opened m_compared v1 v2))) else (fX9_reads_206 m_size m_tape k11 m_place m_begin m_token m_told m_wrong m_code m_word m_codes m_opened m_compared v1))) else (fX9_reads_206 m_size m_tape k11 m_place m_begin m_token m_told m_wrong m_code m_word m_codes m_opened m_compared v1))) else (fX9_reads_206 m_size m_tape k11 m_place m_begin m_token m_told m_wrong m_code m_word m_codes m_opened m_compared v1))) else (Option.bind (fX9_fact m_token m_word) fun y12 => (Option.bind (fX9_isWord m_token m_word 10631) fun y13 => (Option.bind (fX9_isSign m_begin m_token m_tape 40) fun y14 => (if y12 = 0 then (if y13 = 0 then (if y14 = 0 then (if m_token = 2 then (fX9_reads_65 m_size m_tape k11 m_place m_begin m_token m_told m_wrong m_code m_word m_codes m_opened m_compared v1 v2 y12 y13 y14) else (Option.bind (fX9_fails m_begin m_wrong 1) fun y19 => (some ((vp_nar .boolean y19.1), m_place, m_begin, m_token, m_told, y19.2, m_code, m_word, m_codes, m_opened, m_compared)))) else (fX9_reads_65 m_size m_tape k11 m_place m_begin m_token m_told m_wrong m_code m_word m_codes m_opened m_compared v1 v2 y12 y13 y14)) else (fX9_reads_65 m_size m_tape k11 m_place m_begin m_token m_told m_wrong m_code m_word m_codes m_opened m_compared v1 v2 y12 y13 y14)) else (fX9_reads_65 m_size m_tape k11 m_place m_begin m_token m_told m_wrong m_code m_word m_codes m_opened m_compared v1 v2 y12 y13 y14)))))
set_option maxHeartbeats 4000000 in
set_option maxRecDepth 100000 in
theorem tX9_reads_11 {p : Program} {l : Launch} {e : Env} {s : State} {m : MethodId} {args : Array Value} {below : List Frame} {meth : Method} {c : Code} {D : va_G} {cy : Nat → ClassId} {ad : Nat → Nat} {P : MP} {V : MV} {I : MI} {J : MJ} {A : MI} {B : MJ} {Af : Nat → Prop} {res : Int32 × Int32 × Int32 × Int32 × Int32 × Int32 × Int32 × Int64 × (Nat → Int32) × (Nat → Int32) × (Nat → Int32)} (C0 : CX p s m args meth c cX9_reads 6 (some .boolean) RX9) (hK : va_K D vwCl (tyG cy) s) (hN : NWs s) (hA : ∀ q, s.heap.size ≤ q → Af q) {k11 : Int32 → Int32 → Int32 → Int32 → Int32 → Int32 → Int64 → (Nat → Int32) → (Nat → Int32) → (Nat → Int32) → Int32 → Int32 → Option (Int32 × Int32 × Int32 × Int32 × Int32 × Int32 × Int32 × Int64 × (Nat → Int32) × (Nat → Int32) × (Nat → Int32))} (hk11 : SX9_reads_11 p l e s m args below meth c D cy ad P V I J A B Af res k11) : SX9_reads_11 p l e s m args below meth c D cy ad P V I J A B Af res (fX9_reads_11 (I 0 3) (A 1) k11) := by
  intro m_place m_begin m_token m_told m_wrong m_code m_word m_codes m_opened m_compared v1 v2 H locs ls hW hl hf
  unfold fX9_reads_11 at hf
  refine lv_iload_n C0.1 C0.2.1 dX9_reads_11 rfl (lv_at hl 2 rfl) ?_
  refine lv_if_eq (tgt := 179) C0.1 C0.2.1 dX9_reads_12 (by decide) (fun hc1 => ?_) (fun hc1 => ?_)
  · have hf := ite_t hc1 hf
    refine lv_aload_n C0.1 C0.2.1 dX9_reads_179 rfl (lv_at hl 0 rfl) ?_
    refine lv_bipush (v := 43) C0.1 C0.2.1 dX9_reads_180 kB_43 ?_
    obtain ⟨y2, hy2, hf⟩ := b_some hf
    refine c_Vi C0 hK hN hl.1 hW hA (KX9_isSign l D cy  ad P V (gp I [(0, 4, m_place), (0, 5, m_begin), (0, 6, m_token), (0, 8, m_told), (0, 9, m_wrong), (0, 24, m_code)]) (gp J [(0, 7, m_word)]) (gm A [(15, m_codes), (16, m_opened), (17, m_compared)]) (gm B []) 43 hy2) (JN_id rfl rfl rfl rfl) (Uw_V uw_1338 uw_1340 us_50 uw_14 uw_1341) rfl rfl hd_X9_isSign ⟨rfl, rfl⟩ rfl (dn_some LY_X9_0) rfl rfl rfl dX9_reads_182 ⟨Nat.zero_le _, Nat.zero_le _⟩ (fun H locs hW => ?_)
    have hW : wd D (dn cy LY_X9 ad P V (gp I [(0, 4, m_place), (0, 5, m_begin), (0, 6, m_token), (0, 8, m_told), (0, 9, m_wrong), (0, 24, m_code)]) (gp J [(0, 7, m_word)]) (gm A [(15, m_codes), (16, m_opened), (17, m_compared)]) (gm B [])) Af s.heap H locs := hW
    refine lv_if_ne (tgt := 206) C0.1 C0.2.1 dX9_reads_185 (by decide) (fun hc3 => ?_) (fun hc3 => ?_)
    · have hf := ite_f hc3 hf
      exact tX9_reads_206 C0 hK hN hA hk11 m_place m_begin m_token m_told m_wrong m_code m_word m_codes m_opened m_compared v1 H locs ls hW (lv_sub hl [0, 1] rfl) hf
    · have hf := ite_t hc3 hf
      refine lv_aload_n C0.1 C0.2.1 dX9_reads_188 rfl (lv_at hl 0 rfl) ?_
      refine lv_bipush (v := 45) C0.1 C0.2.1 dX9_reads_189 kB_45 ?_
      obtain ⟨y4, hy4, hf⟩ := b_some hf
      refine c_Vi C0 hK hN hl.1 hW hA (KX9_isSign l D cy  ad P V (gp I [(0, 4, m_place), (0, 5, m_begin), (0, 6, m_token), (0, 8, m_told), (0, 9, m_wrong), (0, 24, m_code)]) (gp J [(0, 7, m_word)]) (gm A [(15, m_codes), (16, m_opened), (17, m_compared)]) (gm B []) 45 hy4) (JN_id rfl rfl rfl rfl) (Uw_V uw_1338 uw_1340 us_50 uw_14 uw_1341) rfl rfl hd_X9_isSign ⟨rfl, rfl⟩ rfl (dn_some LY_X9_0) rfl rfl rfl dX9_reads_191 ⟨Nat.zero_le _, Nat.zero_le _⟩ (fun H locs hW => ?_)
      have hW : wd D (dn cy LY_X9 ad P V (gp I [(0, 4, m_place), (0, 5, m_begin), (0, 6, m_token), (0, 8, m_told), (0, 9, m_wrong), (0, 24, m_code)]) (gp J [(0, 7, m_word)]) (gm A [(15, m_codes), (16, m_opened), (17, m_compared)]) (gm B [])) Af s.heap H locs := hW
      refine lv_if_ne (tgt := 206) C0.1 C0.2.1 dX9_reads_194 (by decide) (fun hc5 => ?_) (fun hc5 => ?_)
      · have hf := ite_f hc5 hf
        exact tX9_reads_206 C0 hK hN hA hk11 m_place m_begin m_token m_told m_wrong m_code m_word m_codes m_opened m_compared v1 H locs ls hW (lv_sub hl [0, 1] rfl) hf
      · have hf := ite_t hc5 hf
        refine lv_aload_n C0.1 C0.2.1 dX9_reads_197 rfl (lv_at hl 0 rfl) ?_
        refine lv_bipush (v := 42) C0.1 C0.2.1 dX9_reads_198 kB_42 ?_
        obtain ⟨y6, hy6, hf⟩ := b_some hf
        refine c_Vi C0 hK hN hl.1 hW hA (KX9_isSign l D cy  ad P V (gp I [(0, 4, m_place), (0, 5, m_begin), (0, 6, m_token), (0, 8, m_told), (0, 9, m_wrong), (0, 24, m_code)]) (gp J [(0, 7, m_word)]) (gm A [(15, m_codes), (16, m_opened), (17, m_compared)]) (gm B []) 42 hy6) (JN_id rfl rfl rfl rfl) (Uw_V uw_1338 uw_1340 us_50 uw_14 uw_1341) rfl rfl hd_X9_isSign ⟨rfl, rfl⟩ rfl (dn_some LY_X9_0) rfl rfl rfl dX9_reads_200 ⟨Nat.zero_le _, Nat.zero_le _⟩ (fun H locs hW => ?_)
        have hW : wd D (dn cy LY_X9 ad P V (gp I [(0, 4, m_place), (0, 5, m_begin), (0, 6, m_token), (0, 8, m_told), (0, 9, m_wrong), (0, 24, m_code)]) (gp J [(0, 7, m_word)]) (gm A [(15, m_codes), (16, m_opened), (17, m_compared)]) (gm B [])) Af s.heap H locs := hW
        refine lv_if_eq (tgt := 245) C0.1 C0.2.1 dX9_reads_203 (by decide) (fun hc7 => ?_) (fun hc7 => ?_)
        · have hf := ite_t hc7 hf
          refine lv_aload_n C0.1 C0.2.1 dX9_reads_245 rfl (lv_at hl 0 rfl) ?_
          refine lv_bipush (v := 60) C0.1 C0.2.1 dX9_reads_246 kB_60 ?_
          obtain ⟨y8, hy8, hf⟩ := b_some hf
          refine c_Vi C0 hK hN hl.1 hW hA (KX9_isSign l D cy  ad P V (gp I [(0, 4, m_place), (0, 5, m_begin), (0, 6, m_token), (0, 8, m_told), (0, 9, m_wrong), (0, 24, m_code)]) (gp J [(0, 7, m_word)]) (gm A [(15, m_codes), (16, m_opened), (17, m_compared)]) (gm B []) 60 hy8) (JN_id rfl rfl rfl rfl) (Uw_V uw_1338 uw_1340 us_50 uw_14 uw_1341) rfl rfl hd_X9_isSign ⟨rfl, rfl⟩ rfl (dn_some LY_X9_0) rfl rfl rfl dX9_reads_248 ⟨Nat.zero_le _, Nat.zero_le _⟩ (fun H locs hW => ?_)
          have hW : wd D (dn cy LY_X9 ad P V (gp I [(0, 4, m_place), (0, 5, m_begin), (0, 6, m_token), (0, 8, m_told), (0, 9, m_wrong), (0, 24, m_code)]) (gp J [(0, 7, m_word)]) (gm A [(15, m_codes), (16, m_opened), (17, m_compared)]) (gm B [])) Af s.heap H locs := hW
          refine lv_if_ne (tgt := 263) C0.1 C0.2.1 dX9_reads_251 (by decide) (fun hc9 => ?_) (fun hc9 => ?_)
          · have hf := ite_f hc9 hf
            exact tX9_reads_263 C0 hK hN hA hk11 m_place m_begin m_token m_told m_wrong m_code m_word m_codes m_opened m_compared v1 v2 H locs ls hW hl hf
          · have hf := ite_t hc9 hf
            refine lv_aload_n C0.1 C0.2.1 dX9_reads_254 rfl (lv_at hl 0 rfl) ?_
            refine lv_bipush (v := 61) C0.1 C0.2.1 dX9_reads_255 kB_61 ?_
            obtain ⟨y10, hy10, hf⟩ := b_some hf
            refine c_Vi C0 hK hN hl.1 hW hA (KX9_isSign l D cy  ad P V (gp I [(0, 4, m_place), (0, 5, m_begin), (0, 6, m_token), (0, 8, m_told), (0, 9, m_wrong), (0, 24, m_code)]) (gp J [(0, 7, m_word)]) (gm A [(15, m_codes), (16, m_opened), (17, m_compared)]) (gm B []) 61 hy10) (JN_id rfl rfl rfl rfl) (Uw_V uw_1338 uw_1340 us_50 uw_14 uw_1341) rfl rfl hd_X9_isSign ⟨rfl, rfl⟩ rfl (dn_some LY_X9_0) rfl rfl rfl dX9_reads_257 ⟨Nat.zero_le _, Nat.zero_le _⟩ (fun H locs hW => ?_)
            have hW : wd D (dn cy LY_X9 ad P V (gp I [(0, 4, m_place), (0, 5, m_begin), (0, 6, m_token), (0, 8, m_told), (0, 9, m_wrong), (0, 24, m_code)]) (gp J [(0, 7, m_word)]) (gm A [(15, m_codes), (16, m_opened), (17, m_compared)]) (gm B [])) Af s.heap H locs := hW
            refine lv_if_eq (tgt := 304) C0.1 C0.2.1 dX9_reads_260 (by decide) (fun hc11 => ?_) (fun hc11 => ?_)
            · have hf := ite_t hc11 hf
              exact tX9_reads_304 C0 hK hN hA hk11 m_place m_begin m_token m_told m_wrong m_code m_word m_codes m_opened m_compared v1 v2 H locs ls hW hl hf
            · have hf := ite_f hc11 hf
              exact tX9_reads_263 C0 hK hN hA hk11 m_place m_begin m_token m_told m_wrong m_code m_word m_codes m_opened m_compared v1 v2 H locs ls hW hl hf
        · have hf := ite_f hc7 hf
          exact tX9_reads_206 C0 hK hN hA hk11 m_place m_begin m_token m_told m_wrong m_code m_word m_codes m_opened m_compared v1 H locs ls hW (lv_sub hl [0, 1] rfl) hf
  · have hf := ite_f hc1 hf
    refine lv_aload_n C0.1 C0.2.1 dX9_reads_15 rfl (lv_at hl 0 rfl) ?_
    obtain ⟨y12, hy12, hf⟩ := b_some hf
    refine c_Vi C0 hK hN hl.1 hW hA (KX9_fact l D cy  ad P V (gp I [(0, 4, m_place), (0, 5, m_begin), (0, 6, m_token), (0, 8, m_told), (0, 9, m_wrong), (0, 24, m_code)]) (gp J [(0, 7, m_word)]) (gm A [(15, m_codes), (16, m_opened), (17, m_compared)]) (gm B [])  hy12) (JN_id rfl rfl rfl rfl) (Uw_V uw_1374 uw_1376 us_59 uw_14 uw_1377) rfl rfl hd_X9_fact ⟨rfl, rfl⟩ rfl (dn_some LY_X9_0) rfl rfl rfl dX9_reads_16 ⟨Nat.zero_le _, Nat.zero_le _⟩ (fun H locs hW => ?_)
    have hW : wd D (dn cy LY_X9 ad P V (gp I [(0, 4, m_place), (0, 5, m_begin), (0, 6, m_token), (0, 8, m_told), (0, 9, m_wrong), (0, 24, m_code)]) (gp J [(0, 7, m_word)]) (gm A [(15, m_codes), (16, m_opened), (17, m_compared)]) (gm B [])) Af s.heap H locs := hW
    refine lv_istore_n (lv' := [(3, .int y12), (0, .ref (ad 0)), (1, .int v1), (2, .int v2)]) C0.1 C0.2.1 dX9_reads_19 rfl hl (by decide) rfl (fun ls hl => ?_)
    refine lv_aload_n C0.1 C0.2.1 dX9_reads_20 rfl (lv_at hl 1 rfl) ?_
    refine lv_ldc2 (v := 10631) C0.1 C0.2.1 C0.2.2.2.2.1 (C0.2.2.2.2.2.1 _ uw_1312) dX9_reads_21 ?_
    obtain ⟨y13, hy13, hf⟩ := b_some hf
    refine c_Vi C0 hK hN hl.1 hW hA (KX9_isWord l D cy  ad P V (gp I [(0, 4, m_place), (0, 5, m_begin), (0, 6, m_token), (0, 8, m_told), (0, 9, m_wrong), (0, 24, m_code)]) (gp J [(0, 7, m_word)]) (gm A [(15, m_codes), (16, m_opened), (17, m_compared)]) (gm B []) 10631 hy13) (JN_id rfl rfl rfl rfl) (Uw_V uw_1274 uw_1276 us_40 uw_14 uw_1277) rfl rfl hd_X9_isWord ⟨rfl, rfl⟩ rfl (dn_some LY_X9_0) rfl rfl rfl dX9_reads_24 ⟨Nat.zero_le _, Nat.zero_le _⟩ (fun H locs hW => ?_)
    have hW : wd D (dn cy LY_X9 ad P V (gp I [(0, 4, m_place), (0, 5, m_begin), (0, 6, m_token), (0, 8, m_told), (0, 9, m_wrong), (0, 24, m_code)]) (gp J [(0, 7, m_word)]) (gm A [(15, m_codes), (16, m_opened), (17, m_compared)]) (gm B [])) Af s.heap H locs := hW
    refine lv_istore (lv' := [(4, .int y13), (3, .int y12), (0, .ref (ad 0)), (1, .int v1), (2, .int v2)]) C0.1 C0.2.1 dX9_reads_27 hl (by decide) rfl (fun ls hl => ?_)
    refine lv_aload_n C0.1 C0.2.1 dX9_reads_29 rfl (lv_at hl 2 rfl) ?_
    refine lv_bipush (v := 40) C0.1 C0.2.1 dX9_reads_30 kB_40 ?_
    obtain ⟨y14, hy14, hf⟩ := b_some hf
    refine c_Vi C0 hK hN hl.1 hW hA (KX9_isSign l D cy  ad P V (gp I [(0, 4, m_place), (0, 5, m_begin), (0, 6, m_token), (0, 8, m_told), (0, 9, m_wrong), (0, 24, m_code)]) (gp J [(0, 7, m_word)]) (gm A [(15, m_codes), (16, m_opened), (17, m_compared)]) (gm B []) 40 hy14) (JN_id rfl rfl rfl rfl) (Uw_V uw_1338 uw_1340 us_50 uw_14 uw_1341) rfl rfl hd_X9_isSign ⟨rfl, rfl⟩ rfl (dn_some LY_X9_0) rfl rfl rfl dX9_reads_32 ⟨Nat.zero_le _, Nat.zero_le _⟩ (fun H locs hW => ?_)
    have hW : wd D (dn cy LY_X9 ad P V (gp I [(0, 4, m_place), (0, 5, m_begin), (0, 6, m_token), (0, 8, m_told), (0, 9, m_wrong), (0, 24, m_code)]) (gp J [(0, 7, m_word)]) (gm A [(15, m_codes), (16, m_opened), (17, m_compared)]) (gm B [])) Af s.heap H locs := hW
    refine lv_istore (lv' := [(5, .int y14), (4, .int y13), (3, .int y12), (0, .ref (ad 0)), (1, .int v1), (2, .int v2)]) C0.1 C0.2.1 dX9_reads_35 hl (by decide) rfl (fun ls hl => ?_)
    refine lv_iload_n C0.1 C0.2.1 dX9_reads_37 rfl (lv_at hl 2 rfl) ?_
    refine lv_if_ne (tgt := 65) C0.1 C0.2.1 dX9_reads_38 (by decide) (fun hc15 => ?_) (fun hc15 => ?_)
    · have hf := ite_f hc15 hf
      exact tX9_reads_65 C0 hK hN hA hk11 m_place m_begin m_token m_told m_wrong m_code m_word m_codes m_opened m_compared v1 v2 y12 y13 y14 H locs ls hW (lv_sub hl [3, 4, 5, 2, 1, 0] rfl) hf
    · have hf := ite_t hc15 hf
      refine lv_iload C0.1 C0.2.1 dX9_reads_41 (lv_at hl 1 rfl) ?_
      refine lv_if_ne (tgt := 65) C0.1 C0.2.1 dX9_reads_43 (by decide) (fun hc16 => ?_) (fun hc16 => ?_)
      · have hf := ite_f hc16 hf
        exact tX9_reads_65 C0 hK hN hA hk11 m_place m_begin m_token m_told m_wrong m_code m_word m_codes m_opened m_compared v1 v2 y12 y13 y14 H locs ls hW (lv_sub hl [3, 4, 5, 2, 1, 0] rfl) hf
      · have hf := ite_t hc16 hf
        refine lv_iload C0.1 C0.2.1 dX9_reads_46 (lv_at hl 0 rfl) ?_
        refine lv_if_ne (tgt := 65) C0.1 C0.2.1 dX9_reads_48 (by decide) (fun hc17 => ?_) (fun hc17 => ?_)
        · have hf := ite_f hc17 hf
          exact tX9_reads_65 C0 hK hN hA hk11 m_place m_begin m_token m_told m_wrong m_code m_word m_codes m_opened m_compared v1 v2 y12 y13 y14 H locs ls hW (lv_sub hl [3, 4, 5, 2, 1, 0] rfl) hf
        · have hf := ite_t hc17 hf
          refine lv_aload_n C0.1 C0.2.1 dX9_reads_51 rfl (lv_at hl 3 rfl) ?_
          refine s_get (v := .int m_token) C0 hK hW 0 6 LY_X9_0 rfl fg_X9_167 rfl dX9_reads_52 ?_
          refine lv_iconst (v := 2) C0.1 C0.2.1 dX9_reads_55 kI_2 ?_
          refine lv_icmp_eq (tgt := 65) C0.1 C0.2.1 dX9_reads_56 (by decide) (fun hc18 => ?_) (fun hc18 => ?_)
          · have hf := ite_t hc18 hf
            exact tX9_reads_65 C0 hK hN hA hk11 m_place m_begin m_token m_told m_wrong m_code m_word m_codes m_opened m_compared v1 v2 y12 y13 y14 H locs ls hW (lv_sub hl [3, 4, 5, 2, 1, 0] rfl) hf
          · have hf := ite_f hc18 hf
            refine lv_aload_n C0.1 C0.2.1 dX9_reads_59 rfl (lv_at hl 3 rfl) ?_
            refine lv_iconst (v := 1) C0.1 C0.2.1 dX9_reads_60 kI_1 ?_
            obtain ⟨y19, hy19, hf⟩ := b_some hf
            refine c_Vi C0 hK hN hl.1 hW hA (KX9_fails l D cy  ad P V (gp I [(0, 4, m_place), (0, 5, m_begin), (0, 6, m_token), (0, 8, m_told), (0, 9, m_wrong), (0, 24, m_code)]) (gp J [(0, 7, m_word)]) (gm A [(15, m_codes), (16, m_opened), (17, m_compared)]) (gm B []) 1 hy19) (JN_id rfl rfl rfl rfl) (Uw_V uw_1282 uw_1284 us_42 uw_14 uw_1285) rfl rfl hd_X9_fails ⟨rfl, rfl⟩ rfl (dn_some LY_X9_0) rfl rfl rfl dX9_reads_61 ⟨Nat.zero_le _, Nat.zero_le _⟩ (fun H locs hW => ?_)
            have hW : wd D (dn cy LY_X9 ad P V (gp I [(0, 4, m_place), (0, 5, m_begin), (0, 6, m_token), (0, 8, m_told), (0, 9, y19.2), (0, 24, m_code)]) (gp J [(0, 7, m_word)]) (gm A [(15, m_codes), (16, m_opened), (17, m_compared)]) (gm B [])) Af s.heap H locs := hW
            obtain rfl := Option.some.inj hf
            exact r_bool C0 hK hW (v' := (vp_nar .boolean y19.1)) rfl dX9_reads_64
theorem TX9_reads_11 {p : Program} {l : Launch} {e : Env} {s : State} {m : MethodId} {args : Array Value} {below : List Frame} {meth : Method} {c : Code} {D : va_G} {cy : Nat → ClassId} {ad : Nat → Nat} {P : MP} {V : MV} {I : MI} {J : MJ} {A : MI} {B : MJ} {Af : Nat → Prop} {res : Int32 × Int32 × Int32 × Int32 × Int32 × Int32 × Int32 × Int64 × (Nat → Int32) × (Nat → Int32) × (Nat → Int32)} (C0 : CX p s m args meth c cX9_reads 6 (some .boolean) RX9) (hK : va_K D vwCl (tyG cy) s) (hN : NWs s) (hA : ∀ q, s.heap.size ≤ q → Af q) : ∀ n, SX9_reads_11 p l e s m args below meth c D cy ad P V I J A B Af res (itr (fun kk => fX9_reads_11 (I 0 3) (A 1) kk) (fun _ _ _ _ _ _ _ _ _ _ _ _ => none) n) := by
  intro n
  induction n with
  | zero => intro m_place m_begin m_token m_told m_wrong m_code m_word m_codes m_opened m_compared v1 v2 H locs ls hW hl hf; exact (nomatch (show (none : Option (Int32 × Int32 × Int32 × Int32 × Int32 × Int32 × Int32 × Int64 × (Nat → Int32) × (Nat → Int32) × (Nat → Int32))) = some res from hf))
  | succ n ih => exact tX9_reads_11 C0 hK hN hA  ih
def fX9_reads (m_size : Int32) (m_tape : (Nat → Int32)) (m_place : Int32) (m_begin : Int32) (m_token : Int32) (m_told : Int32) (m_wrong : Int32) (m_code : Int32) (m_word : Int64) (m_codes : (Nat → Int32)) (m_opened : (Nat → Int32)) (m_compared : (Nat → Int32)) : Option (Int32 × Int32 × Int32 × Int32 × Int32 × Int32 × Int32 × Int64 × (Nat → Int32) × (Nat → Int32) × (Nat → Int32)) := itr (fun kk => fX9_reads_11 m_size m_tape kk) (fun _ _ _ _ _ _ _ _ _ _ _ _ => none) FU m_place m_begin m_token m_told m_wrong m_code m_word m_codes m_opened (upd m_compared 0 (vp_nar .boolean 0)) 0 1
set_option maxHeartbeats 4000000 in
set_option maxRecDepth 100000 in
theorem KX9_reads (l : Launch) (D : va_G) (cy : Nat → ClassId) (ad : Nat → Nat) (P : MP) (V : MV) (I : MI) (J : MJ) (A : MI) (B : MJ) {res : Int32 × Int32 × Int32 × Int32 × Int32 × Int32 × Int32 × Int64 × (Nat → Int32) × (Nat → Int32) × (Nat → Int32)} (hf : fX9_reads (I 0 3) (A 1) (I 0 4) (I 0 5) (I 0 6) (I 0 8) (I 0 9) (I 0 24) (J 0 7) (A 15) (A 16) (A 17) = some res) : CG l yX9_reads cX9_reads 6 (some .boolean) rmX9_reads D cy (dn cy LY_X9 ad P V I J A B) [.ref (ad 0)] (some (.int res.1)) (dn cy LY_X9 ad P V (gp I [(0, 4, res.2.1), (0, 5, res.2.2.1), (0, 6, res.2.2.2.1), (0, 8, res.2.2.2.2.1), (0, 9, res.2.2.2.2.2.1), (0, 24, res.2.2.2.2.2.2.1)]) (gp J [(0, 7, res.2.2.2.2.2.2.2.1)]) (gm A [(15, res.2.2.2.2.2.2.2.2.1), (16, res.2.2.2.2.2.2.2.2.2.1), (17, res.2.2.2.2.2.2.2.2.2.2)]) (gm B [])) := by
  refine CG.of (own := RX9) (by decide) rfl rfl ?_
  intro p e s m below meth c ls Af C0 hK hN hA hW hl
  have hW : wd D (dn cy LY_X9 ad P V (gp I [(0, 4, (I 0 4)), (0, 5, (I 0 5)), (0, 6, (I 0 6)), (0, 8, (I 0 8)), (0, 9, (I 0 9)), (0, 24, (I 0 24))]) (gp J [(0, 7, (J 0 7))]) (gm A [(15, (A 15)), (16, (A 16)), (17, (A 17))]) (gm B [])) Af s.heap s.heap [] := wd_sel [(0, 4), (0, 5), (0, 6), (0, 8), (0, 9), (0, 24)] [(0, 7)] [15, 16, 17] [] hW
  have hl : lv_has ls 6 [(0, .ref (ad 0))] := hl
  unfold fX9_reads at hf
  refine lv_iconst (v := 0) C0.1 C0.2.1 dX9_reads_0 kI_0 ?_
  refine lv_istore_n (lv' := [(1, .int 0), (0, .ref (ad 0))]) C0.1 C0.2.1 dX9_reads_1 rfl hl (by decide) rfl (fun ls hl => ?_)
  refine lv_iconst (v := 1) C0.1 C0.2.1 dX9_reads_2 kI_1 ?_
  refine lv_istore_n (lv' := [(2, .int 1), (1, .int 0), (0, .ref (ad 0))]) C0.1 C0.2.1 dX9_reads_3 rfl hl (by decide) rfl (fun ls hl => ?_)
  refine lv_aload_n C0.1 C0.2.1 dX9_reads_4 rfl (lv_at hl 2 rfl) ?_
  refine s_get (v := .ref (ad 17)) C0 hK hW 0 27 LY_X9_0 rfl fg_X9_59 rfl dX9_reads_5 ?_
  refine lv_iconst (v := 0) C0.1 C0.2.1 dX9_reads_8 kI_0 ?_
  refine lv_iconst (v := 0) C0.1 C0.2.1 dX9_reads_9 kI_0 ?_
  refine s_zast (f := (upd (A 17) 0 (vp_nar .boolean 0))) C0 hK hW 17 LY_X9_17 rfl rfl (congrArg (fun z => upd _ z _) tc_0) dX9_reads_10 (fun H locs hW => ?_)
  have hW : wd D (dn cy LY_X9 ad P V (gp I [(0, 4, (I 0 4)), (0, 5, (I 0 5)), (0, 6, (I 0 6)), (0, 8, (I 0 8)), (0, 9, (I 0 9)), (0, 24, (I 0 24))]) (gp J [(0, 7, (J 0 7))]) (gm A [(15, (A 15)), (16, (A 16)), (17, (upd (A 17) 0 (vp_nar .boolean 0)))]) (gm B [])) Af s.heap H locs := hW
  exact TX9_reads_11 C0 hK hN hA  FU (I 0 4) (I 0 5) (I 0 6) (I 0 8) (I 0 9) (I 0 24) (J 0 7) (A 15) (A 16) (upd (A 17) 0 (vp_nar .boolean 0)) 0 1 _ _ ls hW (lv_sub hl [2, 1, 0] rfl) hf
