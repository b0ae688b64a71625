-- X9_isKept
def rmX9_isKept : Room := { frames := 1, cells := 0, slots := 0, locals := 21 }
def fX9_isKept (m_token : Int32) (m_word : Int64) : Option (Int32) := if m_token = 1 then (if (lg_cmp m_word 168728) = 0 then (some (1)) else (if (lg_cmp m_word 126880) = 0 then (some (1)) else (if (lg_cmp m_word 70023) = 0 then (some (1)) else (if (lg_cmp m_word 1489744) = 0 then (some (1)) else (if (lg_cmp m_word 453774) = 0 then (some (1)) else (if (lg_cmp m_word 4137608) = 0 then (some (1)) else (if (lg_cmp m_word 16812) = 0 then (some (1)) else (if (lg_cmp m_word 70312) = 0 then (some (1)) else (if (lg_cmp m_word 374798) = 0 then (some (1)) else (if (lg_cmp m_word 10656676) = 0 then (some (1)) else (if (lg_cmp m_word 90302) = 0 then (some (1)) else (if (lg_cmp m_word 583) = 0 then (some (1)) else (if (lg_cmp m_word 7873077725) = 0 then (some (1)) else (if (lg_cmp m_word 1424122) = 0 then (some (1)) else (if (lg_cmp m_word 2968) = 0 then (some (1)) else (if (lg_cmp m_word 8740238) = 0 then (some (1)) else (if (lg_cmp m_word 330846583) = 0 then (some (1)) else (if (lg_cmp m_word 2949235) = 0 then (some (1)) else (if (lg_cmp m_word 2234) = 0 then (some (1)) else (if (lg_cmp m_word 10631) = 0 then (some (1)) else (if (lg_cmp m_word 1111) = 0 then (some (1)) else (if (lg_cmp m_word 423) = 0 then (some (1)) else (some (0)))))))))))))))))))))))) else (some (1))
set_option maxHeartbeats 4000000 in
set_option maxRecDepth 100000 in
theorem KX9_isKept (l : Launch) (D : va_G) (cy : Nat → ClassId) (ad : Nat → Nat) (P : MP) (V : MV) (I : MI) (J : MJ) (A : MI) (B : MJ) {res : Int32} (hf : fX9_isKept (I 0 6) (J 0 7) = some res) : CG l yX9_isKept cX9_isKept 1 (some .boolean) rmX9_isKept D cy (dn cy LY_X9 ad P V I J A B) [.ref (ad 0)] (some (.int res)) (dn cy LY_X9 ad P V (gp I []) (gp J []) (gm A []) (gm B [])) := by
  refine CG.of (own := RX9) (by decide) rfl rfl ?_
  intro p e s m below meth c ls Af C0 hK hN hA hW hl
  have hW : wd D (dn cy LY_X9 ad P V (gp I []) (gp J []) (gm A []) (gm B [])) Af s.heap s.heap [] := wd_sel [] [] [] [] hW
  have hl : lv_has ls 1 [(0, .ref (ad 0))] := hl
  unfold fX9_isKept at hf
  refine lv_aload_n C0.1 C0.2.1 dX9_isKept_0 rfl (lv_at hl 0 rfl) ?_
  refine s_get (v := .int (I 0 6)) C0 hK hW 0 6 LY_X9_0 rfl fg_X9_167 rfl dX9_isKept_1 ?_
  refine lv_iconst (v := 1) C0.1 C0.2.1 dX9_isKept_4 kI_1 ?_
  refine lv_icmp_eq (tgt := 10) C0.1 C0.2.1 dX9_isKept_5 (by decide) (fun hc1 => ?_) (fun hc1 => ?_)
  · have hf := ite_t hc1 hf
    refine lv_aload_n C0.1 C0.2.1 dX9_isKept_10 rfl (lv_at hl 0 rfl) ?_
    refine s_get (v := .long (J 0 7)) C0 hK hW 0 7 LY_X9_0 rfl fg_X9_160 rfl dX9_isKept_11 ?_
    refine lv_ldc2 (v := 168728) C0.1 C0.2.1 C0.2.2.2.2.1 (C0.2.2.2.2.2.1 _ uw_1273) dX9_isKept_14 ?_
    refine W.lcmp C0.1 C0.2.1 dX9_isKept_17 ?_
    refine lv_if_eq (tgt := 252) C0.1 C0.2.1 dX9_isKept_18 (by decide) (fun hc2 => ?_) (fun hc2 => ?_)
    · have hf := ite_t hc2 hf
      refine lv_iconst (v := 1) C0.1 C0.2.1 dX9_isKept_252 kI_1 ?_
      refine lv_goto (tgt := 257) C0.1 C0.2.1 dX9_isKept_253 (by decide) ?_
      obtain rfl := Option.some.inj hf
      exact r_bool C0 hK hW (v' := 1) rfl dX9_isKept_257
    · have hf := ite_f hc2 hf
      refine lv_aload_n C0.1 C0.2.1 dX9_isKept_21 rfl (lv_at hl 0 rfl) ?_
      refine s_get (v := .long (J 0 7)) C0 hK hW 0 7 LY_X9_0 rfl fg_X9_160 rfl dX9_isKept_22 ?_
      refine lv_ldc2 (v := 126880) C0.1 C0.2.1 C0.2.2.2.2.1 (C0.2.2.2.2.2.1 _ uw_1294) dX9_isKept_25 ?_
      refine W.lcmp C0.1 C0.2.1 dX9_isKept_28 ?_
      refine lv_if_eq (tgt := 252) C0.1 C0.2.1 dX9_isKept_29 (by decide) (fun hc3 => ?_) (fun hc3 => ?_)
      · have hf := ite_t hc3 hf
        refine lv_iconst (v := 1) C0.1 C0.2.1 dX9_isKept_252 kI_1 ?_
        refine lv_goto (tgt := 257) C0.1 C0.2.1 dX9_isKept_253 (by decide) ?_
        obtain rfl := Option.some.inj hf
        exact r_bool C0 hK hW (v' := 1) rfl dX9_isKept_257
      · have hf := ite_f hc3 hf
        refine lv_aload_n C0.1 C0.2.1 dX9_isKept_32 rfl (lv_at hl 0 rfl) ?_
        refine s_get (v := .long (J 0 7)) C0 hK hW 0 7 LY_X9_0 rfl fg_X9_160 rfl dX9_isKept_33 ?_
        refine lv_ldc2 (v := 70023) C0.1 C0.2.1 C0.2.2.2.2.1 (C0.2.2.2.2.2.1 _ uw_1295) dX9_isKept_36 ?_
        refine W.lcmp C0.1 C0.2.1 dX9_isKept_39 ?_
        refine lv_if_eq (tgt := 252) C0.1 C0.2.1 dX9_isKept_40 (by decide) (fun hc4 => ?_) (fun hc4 => ?_)
        · have hf := ite_t hc4 hf
          refine lv_iconst (v := 1) C0.1 C0.2.1 dX9_isKept_252 kI_1 ?_
          refine lv_goto (tgt := 257) C0.1 C0.2.1 dX9_isKept_253 (by decide) ?_
          obtain rfl := Option.some.inj hf
          exact r_bool C0 hK hW (v' := 1) rfl dX9_isKept_257
        · have hf := ite_f hc4 hf
          refine lv_aload_n C0.1 C0.2.1 dX9_isKept_43 rfl (lv_at hl 0 rfl) ?_
          refine s_get (v := .long (J 0 7)) C0 hK hW 0 7 LY_X9_0 rfl fg_X9_160 rfl dX9_isKept_44 ?_
          refine lv_ldc2 (v := 1489744) C0.1 C0.2.1 C0.2.2.2.2.1 (C0.2.2.2.2.2.1 _ uw_1296) dX9_isKept_47 ?_
          refine W.lcmp C0.1 C0.2.1 dX9_isKept_50 ?_
          refine lv_if_eq (tgt := 252) C0.1 C0.2.1 dX9_isKept_51 (by decide) (fun hc5 => ?_) (fun hc5 => ?_)
          · have hf := ite_t hc5 hf
            refine lv_iconst (v := 1) C0.1 C0.2.1 dX9_isKept_252 kI_1 ?_
            refine lv_goto (tgt := 257) C0.1 C0.2.1 dX9_isKept_253 (by decide) ?_
            obtain rfl := Option.some.inj hf
            exact r_bool C0 hK hW (v' := 1) rfl dX9_isKept_257
          · have hf := ite_f hc5 hf
            refine lv_aload_n C0.1 C0.2.1 dX9_isKept_54 rfl (lv_at hl 0 rfl) ?_
            refine s_get (v := .long (J 0 7)) C0 hK hW 0 7 LY_X9_0 rfl fg_X9_160 rfl dX9_isKept_55 ?_
            refine lv_ldc2 (v := 453774) C0.1 C0.2.1 C0.2.2.2.2.1 (C0.2.2.2.2.2.1 _ uw_1297) dX9_isKept_58 ?_
            refine W.lcmp C0.1 C0.2.1 dX9_isKept_61 ?_
            refine lv_if_eq (tgt := 252) C0.1 C0.2.1 dX9_isKept_62 (by decide) (fun hc6 => ?_) (fun hc6 => ?_)
            · have hf := ite_t hc6 hf
              refine lv_iconst (v := 1) C0.1 C0.2.1 dX9_isKept_252 kI_1 ?_
              refine lv_goto (tgt := 257) C0.1 C0.2.1 dX9_isKept_253 (by decide) ?_
              obtain rfl := Option.some.inj hf
              exact r_bool C0 hK hW (v' := 1) rfl dX9_isKept_257
            · have hf := ite_f hc6 hf
              refine lv_aload_n C0.1 C0.2.1 dX9_isKept_65 rfl (lv_at hl 0 rfl) ?_
              refine s_get (v := .long (J 0 7)) C0 hK hW 0 7 LY_X9_0 rfl fg_X9_160 rfl dX9_isKept_66 ?_
              refine lv_ldc2 (v := 4137608) C0.1 C0.2.1 C0.2.2.2.2.1 (C0.2.2.2.2.2.1 _ uw_1298) dX9_isKept_69 ?_
              refine W.lcmp C0.1 C0.2.1 dX9_isKept_72 ?_
              refine lv_if_eq (tgt := 252) C0.1 C0.2.1 dX9_isKept_73 (by decide) (fun hc7 => ?_) (fun hc7 => ?_)
              · have hf := ite_t hc7 hf
                refine lv_iconst (v := 1) C0.1 C0.2.1 dX9_isKept_252 kI_1 ?_
                refine lv_goto (tgt := 257) C0.1 C0.2.1 dX9_isKept_253 (by decide) ?_
                obtain rfl := Option.some.inj hf
                exact r_bool C0 hK hW (v' := 1) rfl dX9_isKept_257
              · have hf := ite_f hc7 hf
                refine lv_aload_n C0.1 C0.2.1 dX9_isKept_76 rfl (lv_at hl 0 rfl) ?_
                refine s_get (v := .long (J 0 7)) C0 hK hW 0 7 LY_X9_0 rfl fg_X9_160 rfl dX9_isKept_77 ?_
                refine lv_ldc2 (v := 16812) C0.1 C0.2.1 C0.2.2.2.2.1 (C0.2.2.2.2.2.1 _ uw_1299) dX9_isKept_80 ?_
                refine W.lcmp C0.1 C0.2.1 dX9_isKept_83 ?_
                refine lv_if_eq (tgt := 252) C0.1 C0.2.1 dX9_isKept_84 (by decide) (fun hc8 => ?_) (fun hc8 => ?_)
                · have hf := ite_t hc8 hf
                  refine lv_iconst (v := 1) C0.1 C0.2.1 dX9_isKept_252 kI_1 ?_
                  refine lv_goto (tgt := 257) C0.1 C0.2.1 dX9_isKept_253 (by decide) ?_
                  obtain rfl := Option.some.inj hf
                  exact r_bool C0 hK hW (v' := 1) rfl dX9_isKept_257
                · have hf := ite_f hc8 hf
                  refine lv_aload_n C0.1 C0.2.1 dX9_isKept_87 rfl (lv_at hl 0 rfl) ?_
                  refine s_get (v := .long (J 0 7)) C0 hK hW 0 7 LY_X9_0 rfl fg_X9_160 rfl dX9_isKept_88 ?_
                  refine lv_ldc2 (v := 70312) C0.1 C0.2.1 C0.2.2.2.2.1 (C0.2.2.2.2.2.1 _ uw_1300) dX9_isKept_91 ?_
                  refine W.lcmp C0.1 C0.2.1 dX9_isKept_94 ?_
                  refine lv_if_eq (tgt := 252) C0.1 C0.2.1 dX9_isKept_95 (by decide) (fun hc9 => ?_) (fun hc9 => ?_)
                  · have hf := ite_t hc9 hf
                    refine lv_iconst (v := 1) C0.1 C0.2.1 dX9_isKept_252 kI_1 ?_
                    refine lv_goto (tgt := 257) C0.1 C0.2.1 dX9_isKept_253 (by decide) ?_
                    obtain rfl := Option.some.inj hf
                    exact r_bool C0 hK hW (v' := 1) rfl dX9_isKept_257
                  · have hf := ite_f hc9 hf
                    refine lv_aload_n C0.1 C0.2.1 dX9_isKept_98 rfl (lv_at hl 0 rfl) ?_
                    refine s_get (v := .long (J 0 7)) C0 hK hW 0 7 LY_X9_0 rfl fg_X9_160 rfl dX9_isKept_99 ?_
                    refine lv_ldc2 (v := 374798) C0.1 C0.2.1 C0.2.2.2.2.1 (C0.2.2.2.2.2.1 _ uw_1301) dX9_isKept_102 ?_
                    refine W.lcmp C0.1 C0.2.1 dX9_isKept_105 ?_
                    refine lv_if_eq (tgt := 252) C0.1 C0.2.1 dX9_isKept_106 (by decide) (fun hc10 => ?_) (fun hc10 => ?_)
                    · have hf := ite_t hc10 hf
                      refine lv_iconst (v := 1) C0.1 C0.2.1 dX9_isKept_252 kI_1 ?_
                      refine lv_goto (tgt := 257) C0.1 C0.2.1 dX9_isKept_253 (by decide) ?_
                      obtain rfl := Option.some.inj hf
                      exact r_bool C0 hK hW (v' := 1) rfl dX9_isKept_257
                    · have hf := ite_f hc10 hf
                      refine lv_aload_n C0.1 C0.2.1 dX9_isKept_109 rfl (lv_at hl 0 rfl) ?_
                      refine s_get (v := .long (J 0 7)) C0 hK hW 0 7 LY_X9_0 rfl fg_X9_160 rfl dX9_isKept_110 ?_
                      refine lv_ldc2 (v := 10656676) C0.1 C0.2.1 C0.2.2.2.2.1 (C0.2.2.2.2.2.1 _ uw_1302) dX9_isKept_113 ?_
                      refine W.lcmp C0.1 C0.2.1 dX9_isKept_116 ?_
                      refine lv_if_eq (tgt := 252) C0.1 C0.2.1 dX9_isKept_117 (by decide) (fun hc11 => ?_) (fun hc11 => ?_)
                      · have hf := ite_t hc11 hf
                        refine lv_iconst (v := 1) C0.1 C0.2.1 dX9_isKept_252 kI_1 ?_
                        refine lv_goto (tgt := 257) C0.1 C0.2.1 dX9_isKept_253 (by decide) ?_
                        obtain rfl := Option.some.inj hf
                        exact r_bool C0 hK hW (v' := 1) rfl dX9_isKept_257
                      · have hf := ite_f hc11 hf
                        refine lv_aload_n C0.1 C0.2.1 dX9_isKept_120 rfl (lv_at hl 0 rfl) ?_
                        refine s_get (v := .long (J 0 7)) C0 hK hW 0 7 LY_X9_0 rfl fg_X9_160 rfl dX9_isKept_121 ?_
                        refine lv_ldc2 (v := 90302) C0.1 C0.2.1 C0.2.2.2.2.1 (C0.2.2.2.2.2.1 _ uw_1303) dX9_isKept_124 ?_
                        refine W.lcmp C0.1 C0.2.1 dX9_isKept_127 ?_
                        refine lv_if_eq (tgt := 252) C0.1 C0.2.1 dX9_isKept_128 (by decide) (fun hc12 => ?_) (fun hc12 => ?_)
                        · have hf := ite_t hc12 hf
                          refine lv_iconst (v := 1) C0.1 C0.2.1 dX9_isKept_252 kI_1 ?_
                          refine lv_goto (tgt := 257) C0.1 C0.2.1 dX9_isKept_253 (by decide) ?_
                          obtain rfl := Option.some.inj hf
                          exact r_bool C0 hK hW (v' := 1) rfl dX9_isKept_257
                        · have hf := ite_f hc12 hf
                          refine lv_aload_n C0.1 C0.2.1 dX9_isKept_131 rfl (lv_at hl 0 rfl) ?_
                          refine s_get (v := .long (J 0 7)) C0 hK hW 0 7 LY_X9_0 rfl fg_X9_160 rfl dX9_isKept_132 ?_
                          refine lv_ldc2 (v := 583) C0.1 C0.2.1 C0.2.2.2.2.1 (C0.2.2.2.2.2.1 _ uw_1304) dX9_isKept_135 ?_
                          refine W.lcmp C0.1 C0.2.1 dX9_isKept_138 ?_
                          refine lv_if_eq (tgt := 252) C0.1 C0.2.1 dX9_isKept_139 (by decide) (fun hc13 => ?_) (fun hc13 => ?_)
                          · have hf := ite_t hc13 hf
                            refine lv_iconst (v := 1) C0.1 C0.2.1 dX9_isKept_252 kI_1 ?_
                            refine lv_goto (tgt := 257) C0.1 C0.2.1 dX9_isKept_253 (by decide) ?_
                            obtain rfl := Option.some.inj hf
                            exact r_bool C0 hK hW (v' := 1) rfl dX9_isKept_257
                          · have hf := ite_f hc13 hf
                            refine lv_aload_n C0.1 C0.2.1 dX9_isKept_142 rfl (lv_at hl 0 rfl) ?_
                            refine s_get (v := .long (J 0 7)) C0 hK hW 0 7 LY_X9_0 rfl fg_X9_160 rfl dX9_isKept_143 ?_
                            refine lv_ldc2 (v := 7873077725) C0.1 C0.2.1 C0.2.2.2.2.1 (C0.2.2.2.2.2.1 _ uw_1305) dX9_isKept_146 ?_
                            refine W.lcmp C0.1 C0.2.1 dX9_isKept_149 ?_
                            refine lv_if_eq (tgt := 252) C0.1 C0.2.1 dX9_isKept_150 (by decide) (fun hc14 => ?_) (fun hc14 => ?_)
                            · have hf := ite_t hc14 hf
                              refine lv_iconst (v := 1) C0.1 C0.2.1 dX9_isKept_252 kI_1 ?_
                              refine lv_goto (tgt := 257) C0.1 C0.2.1 dX9_isKept_253 (by decide) ?_
                              obtain rfl := Option.some.inj hf
                              exact r_bool C0 hK hW (v' := 1) rfl dX9_isKept_257
                            · have hf := ite_f hc14 hf
                              refine lv_aload_n C0.1 C0.2.1 dX9_isKept_153 rfl (lv_at hl 0 rfl) ?_
                              refine s_get (v := .long (J 0 7)) C0 hK hW 0 7 LY_X9_0 rfl fg_X9_160 rfl dX9_isKept_154 ?_
                              refine lv_ldc2 (v := 1424122) C0.1 C0.2.1 C0.2.2.2.2.1 (C0.2.2.2.2.2.1 _ uw_1306) dX9_isKept_157 ?_
                              refine W.lcmp C0.1 C0.2.1 dX9_isKept_160 ?_
                              refine lv_if_eq (tgt := 252) C0.1 C0.2.1 dX9_isKept_161 (by decide) (fun hc15 => ?_) (fun hc15 => ?_)
                              · have hf := ite_t hc15 hf
                                refine lv_iconst (v := 1) C0.1 C0.2.1 dX9_isKept_252 kI_1 ?_
                                refine lv_goto (tgt := 257) C0.1 C0.2.1 dX9_isKept_253 (by decide) ?_
                                obtain rfl := Option.some.inj hf
                                exact r_bool C0 hK hW (v' := 1) rfl dX9_isKept_257
                              · have hf := ite_f hc15 hf
                                refine lv_aload_n C0.1 C0.2.1 dX9_isKept_164 rfl (lv_at hl 0 rfl) ?_
                                refine s_get (v := .long (J 0 7)) C0 hK hW 0 7 LY_X9_0 rfl fg_X9_160 rfl dX9_isKept_165 ?_
                                refine lv_ldc2 (v := 2968) C0.1 C0.2.1 C0.2.2.2.2.1 (C0.2.2.2.2.2.1 _ uw_1307) dX9_isKept_168 ?_
                                refine W.lcmp C0.1 C0.2.1 dX9_isKept_171 ?_
                                refine lv_if_eq (tgt := 252) C0.1 C0.2.1 dX9_isKept_172 (by decide) (fun hc16 => ?_) (fun hc16 => ?_)
                                · have hf := ite_t hc16 hf
                                  refine lv_iconst (v := 1) C0.1 C0.2.1 dX9_isKept_252 kI_1 ?_
                                  refine lv_goto (tgt := 257) C0.1 C0.2.1 dX9_isKept_253 (by decide) ?_
                                  obtain rfl := Option.some.inj hf
                                  exact r_bool C0 hK hW (v' := 1) rfl dX9_isKept_257
                                · have hf := ite_f hc16 hf
                                  refine lv_aload_n C0.1 C0.2.1 dX9_isKept_175 rfl (lv_at hl 0 rfl) ?_
                                  refine s_get (v := .long (J 0 7)) C0 hK hW 0 7 LY_X9_0 rfl fg_X9_160 rfl dX9_isKept_176 ?_
                                  refine lv_ldc2 (v := 8740238) C0.1 C0.2.1 C0.2.2.2.2.1 (C0.2.2.2.2.2.1 _ uw_1308) dX9_isKept_179 ?_
                                  refine W.lcmp C0.1 C0.2.1 dX9_isKept_182 ?_
                                  refine lv_if_eq (tgt := 252) C0.1 C0.2.1 dX9_isKept_183 (by decide) (fun hc17 => ?_) (fun hc17 => ?_)
                                  · have hf := ite_t hc17 hf
                                    refine lv_iconst (v := 1) C0.1 C0.2.1 dX9_isKept_252 kI_1 ?_
                                    refine lv_goto (tgt := 257) C0.1 C0.2.1 dX9_isKept_253 (by decide) ?_
                                    obtain rfl := Option.some.inj hf
                                    exact r_bool C0 hK hW (v' := 1) rfl dX9_isKept_257
                                  · have hf := ite_f hc17 hf
                                    refine lv_aload_n C0.1 C0.2.1 dX9_isKept_186 rfl (lv_at hl 0 rfl) ?_
                                    refine s_get (v := .long (J 0 7)) C0 hK hW 0 7 LY_X9_0 rfl fg_X9_160 rfl dX9_isKept_187 ?_
                                    refine lv_ldc2 (v := 330846583) C0.1 C0.2.1 C0.2.2.2.2.1 (C0.2.2.2.2.2.1 _ uw_1309) dX9_isKept_190 ?_
                                    refine W.lcmp C0.1 C0.2.1 dX9_isKept_193 ?_
                                    refine lv_if_eq (tgt := 252) C0.1 C0.2.1 dX9_isKept_194 (by decide) (fun hc18 => ?_) (fun hc18 => ?_)
                                    · have hf := ite_t hc18 hf
                                      refine lv_iconst (v := 1) C0.1 C0.2.1 dX9_isKept_252 kI_1 ?_
                                      refine lv_goto (tgt := 257) C0.1 C0.2.1 dX9_isKept_253 (by decide) ?_
                                      obtain rfl := Option.some.inj hf
                                      exact r_bool C0 hK hW (v' := 1) rfl dX9_isKept_257
                                    · have hf := ite_f hc18 hf
                                      refine lv_aload_n C0.1 C0.2.1 dX9_isKept_197 rfl (lv_at hl 0 rfl) ?_
                                      refine s_get (v := .long (J 0 7)) C0 hK hW 0 7 LY_X9_0 rfl fg_X9_160 rfl dX9_isKept_198 ?_
                                      refine lv_ldc2 (v := 2949235) C0.1 C0.2.1 C0.2.2.2.2.1 (C0.2.2.2.2.2.1 _ uw_1310) dX9_isKept_201 ?_
                                      refine W.lcmp C0.1 C0.2.1 dX9_isKept_204 ?_
                                      refine lv_if_eq (tgt := 252) C0.1 C0.2.1 dX9_isKept_205 (by decide) (fun hc19 => ?_) (fun hc19 => ?_)
                                      · have hf := ite_t hc19 hf
                                        refine lv_iconst (v := 1) C0.1 C0.2.1 dX9_isKept_252 kI_1 ?_
                                        refine lv_goto (tgt := 257) C0.1 C0.2.1 dX9_isKept_253 (by decide) ?_
                                        obtain rfl := Option.some.inj hf
                                        exact r_bool C0 hK hW (v' := 1) rfl dX9_isKept_257
                                      · have hf := ite_f hc19 hf
                                        refine lv_aload_n C0.1 C0.2.1 dX9_isKept_208 rfl (lv_at hl 0 rfl) ?_
                                        refine s_get (v := .long (J 0 7)) C0 hK hW 0 7 LY_X9_0 rfl fg_X9_160 rfl dX9_isKept_209 ?_
                                        refine lv_ldc2 (v := 2234) C0.1 C0.2.1 C0.2.2.2.2.1 (C0.2.2.2.2.2.1 _ uw_1311) dX9_isKept_212 ?_
                                        refine W.lcmp C0.1 C0.2.1 dX9_isKept_215 ?_
                                        refine lv_if_eq (tgt := 252) C0.1 C0.2.1 dX9_isKept_216 (by decide) (fun hc20 => ?_) (fun hc20 => ?_)
                                        · have hf := ite_t hc20 hf
                                          refine lv_iconst (v := 1) C0.1 C0.2.1 dX9_isKept_252 kI_1 ?_
                                          refine lv_goto (tgt := 257) C0.1 C0.2.1 dX9_isKept_253 (by decide) ?_
                                          obtain rfl := Option.some.inj hf
                                          exact r_bool C0 hK hW (v' := 1) rfl dX9_isKept_257
                                        · have hf := ite_f hc20 hf
                                          refine lv_aload_n C0.1 C0.2.1 dX9_isKept_219 rfl (lv_at hl 0 rfl) ?_
                                          refine s_get (v := .long (J 0 7)) C0 hK hW 0 7 LY_X9_0 rfl fg_X9_160 rfl dX9_isKept_220 ?_
                                          refine lv_ldc2 (v := 10631) C0.1 C0.2.1 C0.2.2.2.2.1 (C0.2.2.2.2.2.1 _ uw_1312) dX9_isKept_223 ?_
                                          refine W.lcmp C0.1 C0.2.1 dX9_isKept_226 ?_
                                          refine lv_if_eq (tgt := 252) C0.1 C0.2.1 dX9_isKept_227 (by decide) (fun hc21 => ?_) (fun hc21 => ?_)
                                          · have hf := ite_t hc21 hf
                                            refine lv_iconst (v := 1) C0.1 C0.2.1 dX9_isKept_252 kI_1 ?_
                                            refine lv_goto (tgt := 257) C0.1 C0.2.1 dX9_isKept_253 (by decide) ?_
                                            obtain rfl := Option.some.inj hf
                                            exact r_bool C0 hK hW (v' := 1) rfl dX9_isKept_257
                                          · have hf := ite_f hc21 hf
                                            refine lv_aload_n C0.1 C0.2.1 dX9_isKept_230 rfl (lv_at hl 0 rfl) ?_
                                            refine s_get (v := .long (J 0 7)) C0 hK hW 0 7 LY_X9_0 rfl fg_X9_160 rfl dX9_isKept_231 ?_
                                            refine lv_ldc2 (v := 1111) C0.1 C0.2.1 C0.2.2.2.2.1 (C0.2.2.2.2.2.1 _ uw_1313) dX9_isKept_234 ?_
                                            refine W.lcmp C0.1 C0.2.1 dX9_isKept_237 ?_
                                            refine lv_if_eq (tgt := 252) C0.1 C0.2.1 dX9_isKept_238 (by decide) (fun hc22 => ?_) (fun hc22 => ?_)
                                            · have hf := ite_t hc22 hf
                                              refine lv_iconst (v := 1) C0.1 C0.2.1 dX9_isKept_252 kI_1 ?_
                                              refine lv_goto (tgt := 257) C0.1 C0.2.1 dX9_isKept_253 (by decide) ?_
                                              obtain rfl := Option.some.inj hf
                                              exact r_bool C0 hK hW (v' := 1) rfl dX9_isKept_257
                                            · have hf := ite_f hc22 hf
                                              refine lv_aload_n C0.1 C0.2.1 dX9_isKept_241 rfl (lv_at hl 0 rfl) ?_
                                              refine s_get (v := .long (J 0 7)) C0 hK hW 0 7 LY_X9_0 rfl fg_X9_160 rfl dX9_isKept_242 ?_
                                              refine lv_ldc2 (v := 423) C0.1 C0.2.1 C0.2.2.2.2.1 (C0.2.2.2.2.2.1 _ uw_1314) dX9_isKept_245 ?_
                                              refine W.lcmp C0.1 C0.2.1 dX9_isKept_248 ?_
                                              refine lv_if_ne (tgt := 256) C0.1 C0.2.1 dX9_isKept_249 (by decide) (fun hc23 => ?_) (fun hc23 => ?_)
                                              · have hf := ite_f hc23 hf
                                                refine lv_iconst (v := 0) C0.1 C0.2.1 dX9_isKept_256 kI_0 ?_
                                                obtain rfl := Option.some.inj hf
                                                exact r_bool C0 hK hW (v' := 0) rfl dX9_isKept_257
                                              · have hf := ite_t hc23 hf
                                                refine lv_iconst (v := 1) C0.1 C0.2.1 dX9_isKept_252 kI_1 ?_
                                                refine lv_goto (tgt := 257) C0.1 C0.2.1 dX9_isKept_253 (by decide) ?_
                                                obtain rfl := Option.some.inj hf
                                                exact r_bool C0 hK hW (v' := 1) rfl dX9_isKept_257
  · have hf := ite_f hc1 hf
    refine lv_iconst (v := 1) C0.1 C0.2.1 dX9_isKept_8 kI_1 ?_
    obtain rfl := Option.some.inj hf
    exact r_bool C0 hK hW (v' := 1) rfl dX9_isKept_9
-- X9_holeNamed
def rmX9_holeNamed : Room := { frames := 1, cells := 0, slots := 0, locals := 21 }
def SX9_holeNamed_4 (p : Program) (l : Launch) (e : Env) (s : State) (m : MethodId) (args : Array Value) (below : List Frame) (meth : Method) (c : Code) (D : va_G) (cy : Nat → ClassId) (ad : Nat → Nat) (P : MP) (V : MV) (I : MI) (J : MJ) (A : MI) (B : MJ) (Af : Nat → Prop) (res : Int32) (k : Int32 → Int32 → Option (Int32)) : Prop := ∀ (v1 : Int32) (v2 : Int32) (H : Heap) (locs : List Loc) (ls : Array Slot), wd D (dn cy LY_X9 ad P V (gp I []) (gp J []) (gm A []) (gm B [])) Af s.heap H locs → lv_has ls 3 [(0, .ref (ad 0)), (1, .int v1), (2, .int v2)] → k v1 v2 = some res → W p l e rmX9_holeNamed s m args below meth c H locs 0 0 (ZQ below D cy (dn cy LY_X9 ad P V (gp I []) (gp J []) (gm A []) (gm B [])) (some (.int res)) Af args s) (F0 m 4 ls [])
def fX9_holeNamed_4 (m_word : Int64) (m_terrace : (Nat → Int32)) (m_holeName : (Nat → Int64)) (k4 : Int32 → Int32 → Option (Int32)) (v1 : Int32) (v2 : Int32) : Option (Int32) := bif inb ((4 * v1) + 0) 8 then (if ((5 * v1) + (m_terrace (Int32.toNatClampNeg ((4 * v1) + 0)))) ≤ v2 then (some ((-1))) else (bif inb v2 10 then (if (lg_cmp (m_holeName (Int32.toNatClampNeg v2)) m_word) = 0 then (some ((v2 - (5 * v1)))) else (k4 v1 (v2 + 1))) else none)) else none
set_option maxHeartbeats 4000000 in
set_option maxRecDepth 100000 in
theorem tX9_holeNamed_4 {p : Program} {l : Launch} {e : Env} {s : State} {m : MethodId} {args : Array Value} {below : List Frame} {meth : Method} {c : Code} {D : va_G} {cy : Nat → ClassId} {ad : Nat → Nat} {P : MP} {V : MV} {I : MI} {J : MJ} {A : MI} {B : MJ} {Af : Nat → Prop} {res : Int32} (C0 : CX p s m args meth c cX9_holeNamed 3 (some .int) RX9) (hK : va_K D vwCl (tyG cy) s) (hN : NWs s) (hA : ∀ q, s.heap.size ≤ q → Af q) {k4 : Int32 → Int32 → Option (Int32)} (hk4 : SX9_holeNamed_4 p l e s m args below meth c D cy ad P V I J A B Af res k4) : SX9_holeNamed_4 p l e s m args below meth c D cy ad P V I J A B Af res (fX9_holeNamed_4 (J 0 7) (A 2) (B 3) k4) := by
  intro v1 v2 H locs ls hW hl hf
  unfold fX9_holeNamed_4 at hf
  refine lv_iload_n C0.1 C0.2.1 dX9_holeNamed_4 rfl (lv_at hl 2 rfl) ?_
  refine lv_iconst (v := 5) C0.1 C0.2.1 dX9_holeNamed_5 kI_5 ?_
  refine lv_iload_n C0.1 C0.2.1 dX9_holeNamed_6 rfl (lv_at hl 1 rfl) ?_
  refine lv_imul C0.1 C0.2.1 dX9_holeNamed_7 ?_
  refine lv_aload_n C0.1 C0.2.1 dX9_holeNamed_8 rfl (lv_at hl 0 rfl) ?_
  refine s_get (v := .ref (ad 2)) C0 hK hW 0 10 LY_X9_0 rfl fg_X9_13 rfl dX9_holeNamed_9 ?_
  refine lv_iconst (v := 4) C0.1 C0.2.1 dX9_holeNamed_12 kI_4 ?_
  refine lv_iload_n C0.1 C0.2.1 dX9_holeNamed_13 rfl (lv_at hl 1 rfl) ?_
  refine lv_imul C0.1 C0.2.1 dX9_holeNamed_14 ?_
  refine lv_iconst (v := 0) C0.1 C0.2.1 dX9_holeNamed_15 kI_0 ?_
  refine lv_iadd C0.1 C0.2.1 dX9_holeNamed_16 ?_
  obtain ⟨hb1, hf⟩ := g_some hf
  refine s_iald (v := ((A 2) (Int32.toNatClampNeg ((4 * v1) + 0)))) C0 hK hW 2 LY_X9_2 hb1 rfl dX9_holeNamed_17 ?_
  refine lv_iadd C0.1 C0.2.1 dX9_holeNamed_18 ?_
  refine lv_icmp_ge (tgt := 48) C0.1 C0.2.1 dX9_holeNamed_19 (by decide) (fun hc2 => ?_) (fun hc2 => ?_)
  · have hf := ite_t hc2 hf
    refine lv_iconst (v := (-1)) C0.1 C0.2.1 dX9_holeNamed_48 kI_m1 ?_
    obtain rfl := Option.some.inj hf
    exact r_int C0 hK hW dX9_holeNamed_49
  · have hf := ite_f hc2 hf
    refine lv_aload_n C0.1 C0.2.1 dX9_holeNamed_22 rfl (lv_at hl 0 rfl) ?_
    refine s_get (v := .ref (ad 3)) C0 hK hW 0 11 LY_X9_0 rfl fg_X9_16 rfl dX9_holeNamed_23 ?_
    refine lv_iload_n C0.1 C0.2.1 dX9_holeNamed_26 rfl (lv_at hl 2 rfl) ?_
    obtain ⟨hb3, hf⟩ := g_some hf
    refine s_lald (v := ((B 3) (Int32.toNatClampNeg v2))) C0 hK hW 3 LY_X9_3 hb3 rfl dX9_holeNamed_27 ?_
    refine lv_aload_n C0.1 C0.2.1 dX9_holeNamed_28 rfl (lv_at hl 0 rfl) ?_
    refine s_get (v := .long (J 0 7)) C0 hK hW 0 7 LY_X9_0 rfl fg_X9_160 rfl dX9_holeNamed_29 ?_
    refine W.lcmp C0.1 C0.2.1 dX9_holeNamed_32 ?_
    refine lv_if_ne (tgt := 42) C0.1 C0.2.1 dX9_holeNamed_33 (by decide) (fun hc4 => ?_) (fun hc4 => ?_)
    · have hf := ite_f hc4 hf
      refine lv_iinc (v := (v2 + 1)) (lv' := [(2, .int (v2 + 1)), (0, .ref (ad 0)), (1, .int v1)]) C0.1 C0.2.1 dX9_holeNamed_42 hl (k := 2) rfl (congrArg (fun z => _ + z) kI_1) (by decide) rfl (fun ls hl => ?_)
      refine lv_goto (tgt := 4) C0.1 C0.2.1 dX9_holeNamed_45 (by decide) ?_
      exact hk4 v1 (v2 + 1) H locs ls hW (lv_sub hl [1, 2, 0] rfl) hf
    · have hf := ite_t hc4 hf
      refine lv_iload_n C0.1 C0.2.1 dX9_holeNamed_36 rfl (lv_at hl 2 rfl) ?_
      refine lv_iconst (v := 5) C0.1 C0.2.1 dX9_holeNamed_37 kI_5 ?_
      refine lv_iload_n C0.1 C0.2.1 dX9_holeNamed_38 rfl (lv_at hl 1 rfl) ?_
      refine lv_imul C0.1 C0.2.1 dX9_holeNamed_39 ?_
      refine lv_isub C0.1 C0.2.1 dX9_holeNamed_40 ?_
      obtain rfl := Option.some.inj hf
      exact r_int C0 hK hW dX9_holeNamed_41
theorem TX9_holeNamed_4 {p : Program} {l : Launch} {e : Env} {s : State} {m : MethodId} {args : Array Value} {below : List Frame} {meth : Method} {c : Code} {D : va_G} {cy : Nat → ClassId} {ad : Nat → Nat} {P : MP} {V : MV} {I : MI} {J : MJ} {A : MI} {B : MJ} {Af : Nat → Prop} {res : Int32} (C0 : CX p s m args meth c cX9_holeNamed 3 (some .int) RX9) (hK : va_K D vwCl (tyG cy) s) (hN : NWs s) (hA : ∀ q, s.heap.size ≤ q → Af q) : ∀ n, SX9_holeNamed_4 p l e s m args below meth c D cy ad P V I J A B Af res (itr (fun kk => fX9_holeNamed_4 (J 0 7) (A 2) (B 3) kk) (fun _ _ => none) n) := by
  intro n
  induction n with
  | zero => intro v1 v2 H locs ls hW hl hf; exact (nomatch (show (none : Option (Int32)) = some res from hf))
  | succ n ih => exact tX9_holeNamed_4 C0 hK hN hA  ih
def fX9_holeNamed (m_word : Int64) (m_terrace : (Nat → Int32)) (m_holeName : (Nat → Int64)) (v1 : Int32) : Option (Int32) := itr (fun kk => fX9_holeNamed_4 m_word m_terrace m_holeName kk) (fun _ _ => none) FU v1 (5 * v1)
set_option maxHeartbeats 4000000 in
set_option maxRecDepth 100000 in
theorem KX9_holeNamed (l : Launch) (D : va_G) (cy : Nat → ClassId) (ad : Nat → Nat) (P : MP) (V : MV) (I : MI) (J : MJ) (A : MI) (B : MJ) (v1 : Int32) {res : Int32} (hf : fX9_holeNamed (J 0 7) (A 2) (B 3) v1 = some res) : CG l yX9_holeNamed cX9_holeNamed 3 (some .int) rmX9_holeNamed D cy (dn cy LY_X9 ad P V I J A B) [.ref (ad 0), .int v1] (some (.int res)) (dn cy LY_X9 ad P V (gp I []) (gp J []) (gm A []) (gm B [])) := by
  refine CG.of (own := RX9) (by decide) rfl rfl ?_
  intro p e s m below meth c ls Af C0 hK hN hA hW hl
  have hW : wd D (dn cy LY_X9 ad P V (gp I []) (gp J []) (gm A []) (gm B [])) Af s.heap s.heap [] := wd_sel [] [] [] [] hW
  have hl : lv_has ls 3 [(0, .ref (ad 0)), (1, .int v1)] := hl
  unfold fX9_holeNamed at hf
  refine lv_iconst (v := 5) C0.1 C0.2.1 dX9_holeNamed_0 kI_5 ?_
  refine lv_iload_n C0.1 C0.2.1 dX9_holeNamed_1 rfl (lv_at hl 1 rfl) ?_
  refine lv_imul C0.1 C0.2.1 dX9_holeNamed_2 ?_
  refine lv_istore_n (lv' := [(2, .int (5 * v1)), (0, .ref (ad 0)), (1, .int v1)]) C0.1 C0.2.1 dX9_holeNamed_3 rfl hl (by decide) rfl (fun ls hl => ?_)
  exact TX9_holeNamed_4 C0 hK hN hA  FU v1 (5 * v1) _ _ ls hW (lv_sub hl [1, 2, 0] rfl) hf
-- X9_guestNamed
def rmX9_guestNamed : Room := { frames := 1, cells := 0, slots := 0, locals := 21 }
def SX9_guestNamed_4 (p : Program) (l : Launch) (e : Env) (s : State) (m : MethodId) (args : Array Value) (below : List Frame) (meth : Method) (c : Code) (D : va_G) (cy : Nat → ClassId) (ad : Nat → Nat) (P : MP) (V : MV) (I : MI) (J : MJ) (A : MI) (B : MJ) (Af : Nat → Prop) (res : Int32) (k : Int32 → Int32 → Option (Int32)) : Prop := ∀ (v1 : Int32) (v2 : Int32) (H : Heap) (locs : List Loc) (ls : Array Slot), wd D (dn cy LY_X9 ad P V (gp I []) (gp J []) (gm A []) (gm B [])) Af s.heap H locs → lv_has ls 3 [(0, .ref (ad 0)), (1, .int v1), (2, .int v2)] → k v1 v2 = some res → W p l e rmX9_guestNamed s m args below meth c H locs 0 0 (ZQ below D cy (dn cy LY_X9 ad P V (gp I []) (gp J []) (gm A []) (gm B [])) (some (.int res)) Af args s) (F0 m 4 ls [])
def fX9_guestNamed_4 (m_word : Int64) (m_terrace : (Nat → Int32)) (m_guestName : (Nat → Int64)) (k4 : Int32 → Int32 → Option (Int32)) (v1 : Int32) (v2 : Int32) : Option (Int32) := bif inb ((4 * v1) + 1) 8 then (if ((5 * v1) + (m_terrace (Int32.toNatClampNeg ((4 * v1) + 1)))) ≤ v2 then (some ((-1))) else (bif inb v2 10 then (if (lg_cmp (m_guestName (Int32.toNatClampNeg v2)) m_word) = 0 then (some ((v2 - (5 * v1)))) else (k4 v1 (v2 + 1))) else none)) else none
set_option maxHeartbeats 4000000 in
set_option maxRecDepth 100000 in
theorem tX9_guestNamed_4 {p : Program} {l : Launch} {e : Env} {s : State} {m : MethodId} {args : Array Value} {below : List Frame} {meth : Method} {c : Code} {D : va_G} {cy : Nat → ClassId} {ad : Nat → Nat} {P : MP} {V : MV} {I : MI} {J : MJ} {A : MI} {B : MJ} {Af : Nat → Prop} {res : Int32} (C0 : CX p s m args meth c cX9_guestNamed 3 (some .int) RX9) (hK : va_K D vwCl (tyG cy) s) (hN : NWs s) (hA : ∀ q, s.heap.size ≤ q → Af q) {k4 : Int32 → Int32 → Option (Int32)} (hk4 : SX9_guestNamed_4 p l e s m args below meth c D cy ad P V I J A B Af res k4) : SX9_guestNamed_4 p l e s m args below meth c D cy ad P V I J A B Af res (fX9_guestNamed_4 (J 0 7) (A 2) (B 4) k4) := by
  intro v1 v2 H locs ls hW hl hf
  unfold fX9_guestNamed_4 at hf
  refine lv_iload_n C0.1 C0.2.1 dX9_guestNamed_4 rfl (lv_at hl 2 rfl) ?_
  refine lv_iconst (v := 5) C0.1 C0.2.1 dX9_guestNamed_5 kI_5 ?_
  refine lv_iload_n C0.1 C0.2.1 dX9_guestNamed_6 rfl (lv_at hl 1 rfl) ?_
  refine lv_imul C0.1 C0.2.1 dX9_guestNamed_7 ?_
  refine lv_aload_n C0.1 C0.2.1 dX9_guestNamed_8 rfl (lv_at hl 0 rfl) ?_
  refine s_get (v := .ref (ad 2)) C0 hK hW 0 10 LY_X9_0 rfl fg_X9_13 rfl dX9_guestNamed_9 ?_
  refine lv_iconst (v := 4) C0.1 C0.2.1 dX9_guestNamed_12 kI_4 ?_
  refine lv_iload_n C0.1 C0.2.1 dX9_guestNamed_13 rfl (lv_at hl 1 rfl) ?_
  refine lv_imul C0.1 C0.2.1 dX9_guestNamed_14 ?_
  refine lv_iconst (v := 1) C0.1 C0.2.1 dX9_guestNamed_15 kI_1 ?_
  refine lv_iadd C0.1 C0.2.1 dX9_guestNamed_16 ?_
  obtain ⟨hb1, hf⟩ := g_some hf
  refine s_iald (v := ((A 2) (Int32.toNatClampNeg ((4 * v1) + 1)))) C0 hK hW 2 LY_X9_2 hb1 rfl dX9_guestNamed_17 ?_
  refine lv_iadd C0.1 C0.2.1 dX9_guestNamed_18 ?_
  refine lv_icmp_ge (tgt := 48) C0.1 C0.2.1 dX9_guestNamed_19 (by decide) (fun hc2 => ?_) (fun hc2 => ?_)
  · have hf := ite_t hc2 hf
    refine lv_iconst (v := (-1)) C0.1 C0.2.1 dX9_guestNamed_48 kI_m1 ?_
    obtain rfl := Option.some.inj hf
    exact r_int C0 hK hW dX9_guestNamed_49
  · have hf := ite_f hc2 hf
    refine lv_aload_n C0.1 C0.2.1 dX9_guestNamed_22 rfl (lv_at hl 0 rfl) ?_
    refine s_get (v := .ref (ad 4)) C0 hK hW 0 12 LY_X9_0 rfl fg_X9_20 rfl dX9_guestNamed_23 ?_
    refine lv_iload_n C0.1 C0.2.1 dX9_guestNamed_26 rfl (lv_at hl 2 rfl) ?_
    obtain ⟨hb3, hf⟩ := g_some hf
    refine s_lald (v := ((B 4) (Int32.toNatClampNeg v2))) C0 hK hW 4 LY_X9_4 hb3 rfl dX9_guestNamed_27 ?_
    refine lv_aload_n C0.1 C0.2.1 dX9_guestNamed_28 rfl (lv_at hl 0 rfl) ?_
    refine s_get (v := .long (J 0 7)) C0 hK hW 0 7 LY_X9_0 rfl fg_X9_160 rfl dX9_guestNamed_29 ?_
    refine W.lcmp C0.1 C0.2.1 dX9_guestNamed_32 ?_
    refine lv_if_ne (tgt := 42) C0.1 C0.2.1 dX9_guestNamed_33 (by decide) (fun hc4 => ?_) (fun hc4 => ?_)
    · have hf := ite_f hc4 hf
      refine lv_iinc (v := (v2 + 1)) (lv' := [(2, .int (v2 + 1)), (0, .ref (ad 0)), (1, .int v1)]) C0.1 C0.2.1 dX9_guestNamed_42 hl (k := 2) rfl (congrArg (fun z => _ + z) kI_1) (by decide) rfl (fun ls hl => ?_)
      refine lv_goto (tgt := 4) C0.1 C0.2.1 dX9_guestNamed_45 (by decide) ?_
      exact hk4 v1 (v2 + 1) H locs ls hW (lv_sub hl [1, 2, 0] rfl) hf
    · have hf := ite_t hc4 hf
      refine lv_iload_n C0.1 C0.2.1 dX9_guestNamed_36 rfl (lv_at hl 2 rfl) ?_
      refine lv_iconst (v := 5) C0.1 C0.2.1 dX9_guestNamed_37 kI_5 ?_
      refine lv_iload_n C0.1 C0.2.1 dX9_guestNamed_38 rfl (lv_at hl 1 rfl) ?_
      refine lv_imul C0.1 C0.2.1 dX9_guestNamed_39 ?_
      refine lv_isub C0.1 C0.2.1 dX9_guestNamed_40 ?_
      obtain rfl := Option.some.inj hf
      exact r_int C0 hK hW dX9_guestNamed_41
theorem TX9_guestNamed_4 {p : Program} {l : Launch} {e : Env} {s : State} {m : MethodId} {args : Array Value} {below : List Frame} {meth : Method} {c : Code} {D : va_G} {cy : Nat → ClassId} {ad : Nat → Nat} {P : MP} {V : MV} {I : MI} {J : MJ} {A : MI} {B : MJ} {Af : Nat → Prop} {res : Int32} (C0 : CX p s m args meth c cX9_guestNamed 3 (some .int) RX9) (hK : va_K D vwCl (tyG cy) s) (hN : NWs s) (hA : ∀ q, s.heap.size ≤ q → Af q) : ∀ n, SX9_guestNamed_4 p l e s m args below meth c D cy ad P V I J A B Af res (itr (fun kk => fX9_guestNamed_4 (J 0 7) (A 2) (B 4) kk) (fun _ _ => none) n) := by
  intro n
  induction n with
  | zero => intro v1 v2 H locs ls hW hl hf; exact (nomatch (show (none : Option (Int32)) = some res from hf))
  | succ n ih => exact tX9_guestNamed_4 C0 hK hN hA  ih
def fX9_guestNamed (m_word : Int64) (m_terrace : (Nat → Int32)) (m_guestName : (Nat → Int64)) (v1 : Int32) : Option (Int32) := itr (fun kk => fX9_guestNamed_4 m_word m_terrace m_guestName kk) (fun _ _ => none) FU v1 (5 * v1)
set_option maxHeartbeats 4000000 in
set_option maxRecDepth 100000 in
theorem KX9_guestNamed (l : Launch) (D : va_G) (cy : Nat → ClassId) (ad : Nat → Nat) (P : MP) (V : MV) (I : MI) (J : MJ) (A : MI) (B : MJ) (v1 : Int32) {res : Int32} (hf : fX9_guestNamed (J 0 7) (A 2) (B 4) v1 = some res) : CG l yX9_guestNamed cX9_guestNamed 3 (some .int) rmX9_guestNamed D cy (dn cy LY_X9 ad P V I J A B) [.ref (ad 0), .int v1] (some (.int res)) (dn cy LY_X9 ad P V (gp I []) (gp J []) (gm A []) (gm B [])) := by
  refine CG.of (own := RX9) (by decide) rfl rfl ?_
  intro p e s m below meth c ls Af C0 hK hN hA hW hl
  have hW : wd D (dn cy LY_X9 ad P V (gp I []) (gp J []) (gm A []) (gm B [])) Af s.heap s.heap [] := wd_sel [] [] [] [] hW
  have hl : lv_has ls 3 [(0, .ref (ad 0)), (1, .int v1)] := hl
  unfold fX9_guestNamed at hf
  refine lv_iconst (v := 5) C0.1 C0.2.1 dX9_guestNamed_0 kI_5 ?_
  refine lv_iload_n C0.1 C0.2.1 dX9_guestNamed_1 rfl (lv_at hl 1 rfl) ?_
  refine lv_imul C0.1 C0.2.1 dX9_guestNamed_2 ?_
  refine lv_istore_n (lv' := [(2, .int (5 * v1)), (0, .ref (ad 0)), (1, .int v1)]) C0.1 C0.2.1 dX9_guestNamed_3 rfl hl (by decide) rfl (fun ls hl => ?_)
  exact TX9_guestNamed_4 C0 hK hN hA  FU v1 (5 * v1) _ _ ls hW (lv_sub hl [1, 2, 0] rfl) hf
-- X9_needsNumber
def rmX9_needsNumber : Room := { frames := 3, cells := 0, slots := 0, locals := 63 }
def fX9_needsNumber (m_size : Int32) (m_tape : (Nat → Int32)) (m_place : Int32) (m_begin : Int32) (m_token : Int32) (m_told : Int32) (m_wrong : Int32) (m_given : Int32) (m_word : Int64) (v1 : Int32) (v2 : Int32) : Option (Int32 × Int32 × Int32 × Int32 × Int32 × Int32 × Int32 × Int64) := if m_token = 2 then (Option.bind (fX9_within m_told v1 v2) fun y2 => (if y2 = 0 then (Option.bind (fX9_fails m_begin m_wrong 4) fun y5 => (some ((vp_nar .boolean y5.1), m_place, m_begin, m_token, m_told, y5.2, m_given, m_word))) else (Option.bind (fX9_nextToken m_size m_tape m_place m_begin m_token m_told m_word) fun y4 => (some (1, y4.1, y4.2.1, y4.2.2.1, y4.2.2.2.1, m_wrong, m_told, y4.2.2.2.2))))) else (Option.bind (fX9_fails m_begin m_wrong 1) fun y6 => (some ((vp_nar .boolean y6.1), m_place, m_begin, m_token, m_told, y6.2, m_given, m_word)))
set_option maxHeartbeats 4000000 in
set_option maxRecDepth 100000 in
theorem KX9_needsNumber (l : Launch) (D : va_G) (cy : Nat → ClassId) (ad : Nat → Nat) (P : MP) (V : MV) (I : MI) (J : MJ) (A : MI) (B : MJ) (v1 : Int32) (v2 : Int32) {res : Int32 × Int32 × Int32 × Int32 × Int32 × Int32 × Int32 × Int64} (hf : fX9_needsNumber (I 0 3) (A 1) (I 0 4) (I 0 5) (I 0 6) (I 0 8) (I 0 9) (I 0 38) (J 0 7) v1 v2 = some res) : CG l yX9_needsNumber cX9_needsNumber 3 (some .boolean) rmX9_needsNumber D cy (dn cy LY_X9 ad P V I J A B) [.ref (ad 0), .int v1, .int v2] (some (.int res.1)) (dn cy LY_X9 ad P V (gp I [(0, 4, res.2.1), (0, 5, res.2.2.1), (0, 6, res.2.2.2.1), (0, 8, res.2.2.2.2.1), (0, 9, res.2.2.2.2.2.1), (0, 38, res.2.2.2.2.2.2.1)]) (gp J [(0, 7, res.2.2.2.2.2.2.2)]) (gm A []) (gm B [])) := by
  refine CG.of (own := RX9) (by decide) rfl rfl ?_
  intro p e s m below meth c ls Af C0 hK hN hA hW hl
  have hW : wd D (dn cy LY_X9 ad P V (gp I [(0, 4, (I 0 4)), (0, 5, (I 0 5)), (0, 6, (I 0 6)), (0, 8, (I 0 8)), (0, 9, (I 0 9)), (0, 38, (I 0 38))]) (gp J [(0, 7, (J 0 7))]) (gm A []) (gm B [])) Af s.heap s.heap [] := wd_sel [(0, 4), (0, 5), (0, 6), (0, 8), (0, 9), (0, 38)] [(0, 7)] [] [] hW
  have hl : lv_has ls 3 [(0, .ref (ad 0)), (1, .int v1), (2, .int v2)] := hl
  unfold fX9_needsNumber at hf
  refine lv_aload_n C0.1 C0.2.1 dX9_needsNumber_0 rfl (lv_at hl 0 rfl) ?_
  refine s_get (v := .int (I 0 6)) C0 hK hW 0 6 LY_X9_0 rfl fg_X9_167 rfl dX9_needsNumber_1 ?_
  refine lv_iconst (v := 2) C0.1 C0.2.1 dX9_needsNumber_4 kI_2 ?_
  refine lv_icmp_eq (tgt := 14) C0.1 C0.2.1 dX9_needsNumber_5 (by decide) (fun hc1 => ?_) (fun hc1 => ?_)
  · have hf := ite_t hc1 hf
    refine lv_aload_n C0.1 C0.2.1 dX9_needsNumber_14 rfl (lv_at hl 0 rfl) ?_
    refine s_get (v := .int (I 0 8)) C0 hK hW 0 8 LY_X9_0 rfl fg_X9_164 rfl dX9_needsNumber_15 ?_
    refine lv_iload_n C0.1 C0.2.1 dX9_needsNumber_18 rfl (lv_at hl 1 rfl) ?_
    refine lv_iload_n C0.1 C0.2.1 dX9_needsNumber_19 rfl (lv_at hl 2 rfl) ?_
    obtain ⟨y2, hy2, hf⟩ := b_some hf
    refine c_Si C0 hK hN hl.1 hW hA (KX9_within l D cy  (fun q => ad (pl_LY_X9_LY_0_.getD q 0)) (fun q => P (pl_LY_X9_LY_0_.getD q 0)) (fun q => Vx LY_X9 ad V (pl_LY_X9_LY_0_.getD q 0)) (fun q => gp I [(0, 4, (I 0 4)), (0, 5, (I 0 5)), (0, 6, (I 0 6)), (0, 8, (I 0 8)), (0, 9, (I 0 9)), (0, 38, (I 0 38))] (pl_LY_X9_LY_0_.getD q 0)) (fun q => gp J [(0, 7, (J 0 7))] (pl_LY_X9_LY_0_.getD q 0)) (fun q => gm A [] (pl_LY_X9_LY_0_.getD q 0)) (fun q => gm B [] (pl_LY_X9_LY_0_.getD q 0)) (I 0 8) v1 v2 hy2) (JN_subC (pl := pl_LY_X9_LY_0_) sb_LY_X9_LY_0_ rfl rfl rfl rfl rfl rfl rfl rfl rfl) ⟨uw_1331, uw_1332, uw_14, uw_1333⟩ rfl rfl hd_X9_within ⟨rfl, rfl⟩ rfl rfl rfl dX9_needsNumber_20 ⟨Nat.zero_le _, Nat.zero_le _⟩ (fun H locs hW => ?_)
    have hW : wd D (dn cy LY_X9 ad P V (gp I [(0, 4, (I 0 4)), (0, 5, (I 0 5)), (0, 6, (I 0 6)), (0, 8, (I 0 8)), (0, 9, (I 0 9)), (0, 38, (I 0 38))]) (gp J [(0, 7, (J 0 7))]) (gm A []) (gm B [])) Af s.heap H locs := hW
    refine lv_if_ne (tgt := 32) C0.1 C0.2.1 dX9_needsNumber_23 (by decide) (fun hc3 => ?_) (fun hc3 => ?_)
    · have hf := ite_f hc3 hf
      refine lv_aload_n C0.1 C0.2.1 dX9_needsNumber_32 rfl (lv_at hl 0 rfl) ?_
      refine lv_aload_n C0.1 C0.2.1 dX9_needsNumber_33 rfl (lv_at hl 0 rfl) ?_
      refine s_get (v := .int (I 0 8)) C0 hK hW 0 8 LY_X9_0 rfl fg_X9_164 rfl dX9_needsNumber_34 ?_
      refine s_putI C0 hK hW 0 38 LY_X9_0 rfl fg_X9_270 fp_X9_38 rfl dX9_needsNumber_37 (fun H locs hW => ?_)
      have hW : wd D (dn cy LY_X9 ad P V (gp I [(0, 4, (I 0 4)), (0, 5, (I 0 5)), (0, 6, (I 0 6)), (0, 8, (I 0 8)), (0, 9, (I 0 9)), (0, 38, (I 0 8))]) (gp J [(0, 7, (J 0 7))]) (gm A []) (gm B [])) Af s.heap H locs := hW
      refine lv_aload_n C0.1 C0.2.1 dX9_needsNumber_40 rfl (lv_at hl 0 rfl) ?_
      obtain ⟨y4, hy4, hf⟩ := b_some hf
      refine c_Vv C0 hK hN hl.1 hW hA (KX9_nextToken l D cy  ad P V (gp I [(0, 4, (I 0 4)), (0, 5, (I 0 5)), (0, 6, (I 0 6)), (0, 8, (I 0 8)), (0, 9, (I 0 9)), (0, 38, (I 0 8))]) (gp J [(0, 7, (J 0 7))]) (gm A []) (gm B [])  hy4) (JN_id rfl rfl rfl rfl) (Uw_V uw_1263 uw_1265 us_38 uw_14 uw_1266) rfl rfl hd_X9_nextToken ⟨rfl, rfl⟩ rfl (dn_some LY_X9_0) rfl rfl rfl dX9_needsNumber_41 ⟨Nat.zero_le _, Nat.zero_le _⟩ (fun H locs hW => ?_)
      have hW : wd D (dn cy LY_X9 ad P V (gp I [(0, 4, y4.1), (0, 5, y4.2.1), (0, 6, y4.2.2.1), (0, 8, y4.2.2.2.1), (0, 9, (I 0 9)), (0, 38, (I 0 8))]) (gp J [(0, 7, y4.2.2.2.2)]) (gm A []) (gm B [])) Af s.heap H locs := hW
      refine lv_iconst (v := 1) C0.1 C0.2.1 dX9_needsNumber_44 kI_1 ?_
      obtain rfl := Option.some.inj hf
      exact r_bool C0 hK hW (v' := 1) rfl dX9_needsNumber_45
    · have hf := ite_t hc3 hf
      refine lv_aload_n C0.1 C0.2.1 dX9_needsNumber_26 rfl (lv_at hl 0 rfl) ?_
      refine lv_iconst (v := 4) C0.1 C0.2.1 dX9_needsNumber_27 kI_4 ?_
      obtain ⟨y5, hy5, hf⟩ := b_some hf
      refine c_Vi C0 hK hN hl.1 hW hA (KX9_fails l D cy  ad P V (gp I [(0, 4, (I 0 4)), (0, 5, (I 0 5)), (0, 6, (I 0 6)), (0, 8, (I 0 8)), (0, 9, (I 0 9)), (0, 38, (I 0 38))]) (gp J [(0, 7, (J 0 7))]) (gm A []) (gm B []) 4 hy5) (JN_id rfl rfl rfl rfl) (Uw_V uw_1282 uw_1284 us_42 uw_14 uw_1285) rfl rfl hd_X9_fails ⟨rfl, rfl⟩ rfl (dn_some LY_X9_0) rfl rfl rfl dX9_needsNumber_28 ⟨Nat.zero_le _, Nat.zero_le _⟩ (fun H locs hW => ?_)
      have hW : wd D (dn cy LY_X9 ad P V (gp I [(0, 4, (I 0 4)), (0, 5, (I 0 5)), (0, 6, (I 0 6)), (0, 8, (I 0 8)), (0, 9, y5.2), (0, 38, (I 0 38))]) (gp J [(0, 7, (J 0 7))]) (gm A []) (gm B [])) Af s.heap H locs := hW
      obtain rfl := Option.some.inj hf
      exact r_bool C0 hK hW (v' := (vp_nar .boolean y5.1)) rfl dX9_needsNumber_31
  · have hf := ite_f hc1 hf
    refine lv_aload_n C0.1 C0.2.1 dX9_needsNumber_8 rfl (lv_at hl 0 rfl) ?_
    refine lv_iconst (v := 1) C0.1 C0.2.1 dX9_needsNumber_9 kI_1 ?_
    obtain ⟨y6, hy6, hf⟩ := b_some hf
    refine c_Vi C0 hK hN hl.1 hW hA (KX9_fails l D cy  ad P V (gp I [(0, 4, (I 0 4)), (0, 5, (I 0 5)), (0, 6, (I 0 6)), (0, 8, (I 0 8)), (0, 9, (I 0 9)), (0, 38, (I 0 38))]) (gp J [(0, 7, (J 0 7))]) (gm A []) (gm B []) 1 hy6) (JN_id rfl rfl rfl rfl) (Uw_V uw_1282 uw_1284 us_42 uw_14 uw_1285) rfl rfl hd_X9_fails ⟨rfl, rfl⟩ rfl (dn_some LY_X9_0) rfl rfl rfl dX9_needsNumber_10 ⟨Nat.zero_le _, Nat.zero_le _⟩ (fun H locs hW => ?_)
    have hW : wd D (dn cy LY_X9 ad P V (gp I [(0, 4, (I 0 4)), (0, 5, (I 0 5)), (0, 6, (I 0 6)), (0, 8, (I 0 8)), (0, 9, y6.2), (0, 38, (I 0 38))]) (gp J [(0, 7, (J 0 7))]) (gm A []) (gm B [])) Af s.heap H locs := hW
    obtain rfl := Option.some.inj hf
    exact r_bool C0 hK hW (v' := (vp_nar .boolean y6.1)) rfl dX9_needsNumber_13
-- X9_needsBoth
def rmX9_needsBoth : Room := { frames := 4, cells := 0, slots := 0, locals := 85 }
def fX9_needsBoth (m_size : Int32) (m_tape : (Nat → Int32)) (m_place : Int32) (m_begin : Int32) (m_token : Int32) (m_told : Int32) (m_wrong : Int32) (m_given : Int32) (m_word : Int64) (v1 : Int64) (v3 : Int32) (v4 : Int32) : Option (Int32 × Int32 × Int32 × Int32 × Int32 × Int32 × Int32 × Int64) := Option.bind (fX9_isWord m_token m_word v1) fun y1 => (if y1 = 0 then (Option.bind (fX9_fails m_begin m_wrong 1) fun y5 => (some ((vp_nar .boolean y5.1), m_place, m_begin, m_token, m_told, y5.2, m_given, m_word))) else (Option.bind (fX9_nextToken m_size m_tape m_place m_begin m_token m_told m_word) fun y3 => (Option.bind (fX9_needsNumber m_size m_tape y3.1 y3.2.1 y3.2.2.1 y3.2.2.2.1 m_wrong m_given y3.2.2.2.2 v3 v4) fun y4 => (some ((vp_nar .boolean y4.1), y4.2.1, y4.2.2.1, y4.2.2.2.1, y4.2.2.2.2.1, y4.2.2.2.2.2.1, y4.2.2.2.2.2.2.1, y4.2.2.2.2.2.2.2)))))
set_option maxHeartbeats 4000000 in
set_option maxRecDepth 100000 in
theorem KX9_needsBoth (l : Launch) (D : va_G) (cy : Nat → ClassId) (ad : Nat → Nat) (P : MP) (V : MV) (I : MI) (J : MJ) (A : MI) (B : MJ) (v1 : Int64) (v3 : Int32) (v4 : Int32) {res : Int32 × Int32 × Int32 × Int32 × Int32 × Int32 × Int32 × Int64} (hf : fX9_needsBoth (I 0 3) (A 1) (I 0 4) (I 0 5) (I 0 6) (I 0 8) (I 0 9) (I 0 38) (J 0 7) v1 v3 v4 = some res) : CG l yX9_needsBoth cX9_needsBoth 5 (some .boolean) rmX9_needsBoth D cy (dn cy LY_X9 ad P V I J A B) [.ref (ad 0), .long v1, .int v3, .int v4] (some (.int res.1)) (dn cy LY_X9 ad P V (gp I [(0, 4, res.2.1), (0, 5, res.2.2.1), (0, 6, res.2.2.2.1), (0, 8, res.2.2.2.2.1), (0, 9, res.2.2.2.2.2.1), (0, 38, res.2.2.2.2.2.2.1)]) (gp J [(0, 7, res.2.2.2.2.2.2.2)]) (gm A []) (gm B [])) := by
  refine CG.of (own := RX9) (by decide) rfl rfl ?_
  intro p e s m below meth c ls Af C0 hK hN hA hW hl
  have hW : wd D (dn cy LY_X9 ad P V (gp I [(0, 4, (I 0 4)), (0, 5, (I 0 5)), (0, 6, (I 0 6)), (0, 8, (I 0 8)), (0, 9, (I 0 9)), (0, 38, (I 0 38))]) (gp J [(0, 7, (J 0 7))]) (gm A []) (gm B [])) Af s.heap s.heap [] := wd_sel [(0, 4), (0, 5), (0, 6), (0, 8), (0, 9), (0, 38)] [(0, 7)] [] [] hW
  have hl : lv_has ls 5 [(0, .ref (ad 0)), (1, .long v1), (3, .int v3), (4, .int v4)] := hl
  unfold fX9_needsBoth at hf
  refine lv_aload_n C0.1 C0.2.1 dX9_needsBoth_0 rfl (lv_at hl 0 rfl) ?_
  refine lv_lload_n C0.1 C0.2.1 dX9_needsBoth_1 rfl (lv_at hl 1 rfl) ?_
  obtain ⟨y1, hy1, hf⟩ := b_some hf
  refine c_Vi C0 hK hN hl.1 hW hA (KX9_isWord l D cy  ad P V (gp I [(0, 4, (I 0 4)), (0, 5, (I 0 5)), (0, 6, (I 0 6)), (0, 8, (I 0 8)), (0, 9, (I 0 9)), (0, 38, (I 0 38))]) (gp J [(0, 7, (J 0 7))]) (gm A []) (gm B []) v1 hy1) (JN_id rfl rfl rfl rfl) (Uw_V uw_1274 uw_1276 us_40 uw_14 uw_1277) rfl rfl hd_X9_isWord ⟨rfl, rfl⟩ rfl (dn_some LY_X9_0) rfl rfl rfl dX9_needsBoth_2 ⟨Nat.zero_le _, Nat.zero_le _⟩ (fun H locs hW => ?_)
  have hW : wd D (dn cy LY_X9 ad P V (gp I [(0, 4, (I 0 4)), (0, 5, (I 0 5)), (0, 6, (I 0 6)), (0, 8, (I 0 8)), (0, 9, (I 0 9)), (0, 38, (I 0 38))]) (gp J [(0, 7, (J 0 7))]) (gm A []) (gm B [])) Af s.heap H locs := hW
  refine lv_if_ne (tgt := 14) C0.1 C0.2.1 dX9_needsBoth_5 (by decide) (fun hc2 => ?_) (fun hc2 => ?_)
  · have hf := ite_f hc2 hf
    refine lv_aload_n C0.1 C0.2.1 dX9_needsBoth_14 rfl (lv_at hl 0 rfl) ?_
    obtain ⟨y3, hy3, hf⟩ := b_some hf
    refine c_Vv C0 hK hN hl.1 hW hA (KX9_nextToken l D cy  ad P V (gp I [(0, 4, (I 0 4)), (0, 5, (I 0 5)), (0, 6, (I 0 6)), (0, 8, (I 0 8)), (0, 9, (I 0 9)), (0, 38, (I 0 38))]) (gp J [(0, 7, (J 0 7))]) (gm A []) (gm B [])  hy3) (JN_id rfl rfl rfl rfl) (Uw_V uw_1263 uw_1265 us_38 uw_14 uw_1266) rfl rfl hd_X9_nextToken ⟨rfl, rfl⟩ rfl (dn_some LY_X9_0) rfl rfl rfl dX9_needsBoth_15 ⟨Nat.zero_le _, Nat.zero_le _⟩ (fun H locs hW => ?_)
    have hW : wd D (dn cy LY_X9 ad P V (gp I [(0, 4, y3.1), (0, 5, y3.2.1), (0, 6, y3.2.2.1), (0, 8, y3.2.2.2.1), (0, 9, (I 0 9)), (0, 38, (I 0 38))]) (gp J [(0, 7, y3.2.2.2.2)]) (gm A []) (gm B [])) Af s.heap H locs := hW
    refine lv_aload_n C0.1 C0.2.1 dX9_needsBoth_18 rfl (lv_at hl 0 rfl) ?_
    refine lv_iload_n C0.1 C0.2.1 dX9_needsBoth_19 rfl (lv_at hl 2 rfl) ?_
    refine lv_iload C0.1 C0.2.1 dX9_needsBoth_20 (lv_at hl 3 rfl) ?_
    obtain ⟨y4, hy4, hf⟩ := b_some hf
    refine c_Vi C0 hK hN hl.1 hW hA (KX9_needsNumber l D cy  ad P V (gp I [(0, 4, y3.1), (0, 5, y3.2.1), (0, 6, y3.2.2.1), (0, 8, y3.2.2.2.1), (0, 9, (I 0 9)), (0, 38, (I 0 38))]) (gp J [(0, 7, y3.2.2.2.2)]) (gm A []) (gm B []) v3 v4 hy4) (JN_id rfl rfl rfl rfl) (Uw_V uw_1327 uw_1329 us_48 uw_14 uw_1330) rfl rfl hd_X9_needsNumber ⟨rfl, rfl⟩ rfl (dn_some LY_X9_0) rfl rfl rfl dX9_needsBoth_22 ⟨Nat.zero_le _, Nat.zero_le _⟩ (fun H locs hW => ?_)
    have hW : wd D (dn cy LY_X9 ad P V (gp I [(0, 4, y4.2.1), (0, 5, y4.2.2.1), (0, 6, y4.2.2.2.1), (0, 8, y4.2.2.2.2.1), (0, 9, y4.2.2.2.2.2.1), (0, 38, y4.2.2.2.2.2.2.1)]) (gp J [(0, 7, y4.2.2.2.2.2.2.2)]) (gm A []) (gm B [])) Af s.heap H locs := hW
    obtain rfl := Option.some.inj hf
    exact r_bool C0 hK hW (v' := (vp_nar .boolean y4.1)) rfl dX9_needsBoth_25
  · have hf := ite_t hc2 hf
    refine lv_aload_n C0.1 C0.2.1 dX9_needsBoth_8 rfl (lv_at hl 0 rfl) ?_
    refine lv_iconst (v := 1) C0.1 C0.2.1 dX9_needsBoth_9 kI_1 ?_
    obtain ⟨y5, hy5, hf⟩ := b_some hf
    refine c_Vi C0 hK hN hl.1 hW hA (KX9_fails l D cy  ad P V (gp I [(0, 4, (I 0 4)), (0, 5, (I 0 5)), (0, 6, (I 0 6)), (0, 8, (I 0 8)), (0, 9, (I 0 9)), (0, 38, (I 0 38))]) (gp J [(0, 7, (J 0 7))]) (gm A []) (gm B []) 1 hy5) (JN_id rfl rfl rfl rfl) (Uw_V uw_1282 uw_1284 us_42 uw_14 uw_1285) rfl rfl hd_X9_fails ⟨rfl, rfl⟩ rfl (dn_some LY_X9_0) rfl rfl rfl dX9_needsBoth_10 ⟨Nat.zero_le _, Nat.zero_le _⟩ (fun H locs hW => ?_)
    have hW : wd D (dn cy LY_X9 ad P V (gp I [(0, 4, (I 0 4)), (0, 5, (I 0 5)), (0, 6, (I 0 6)), (0, 8, (I 0 8)), (0, 9, y5.2), (0, 38, (I 0 38))]) (gp J [(0, 7, (J 0 7))]) (gm A []) (gm B [])) Af s.heap H locs := hW
    obtain rfl := Option.some.inj hf
    exact r_bool C0 hK hW (v' := (vp_nar .boolean y5.1)) rfl dX9_needsBoth_13
-- X9_closes
def rmX9_closes : Room := { frames := 3, cells := 0, slots := 0, locals := 63 }
def fX9_closes (m_size : Int32) (m_tape : (Nat → Int32)) (m_place : Int32) (m_begin : Int32) (m_token : Int32) (m_told : Int32) (m_wrong : Int32) (m_word : Int64) : Option (Int32 × Int32 × Int32 × Int32 × Int32 × Int32 × Int64) := Option.bind (fX9_isSign m_begin m_token m_tape 59) fun y1 => (if y1 = 0 then (Option.bind (fX9_fails m_begin m_wrong 1) fun y4 => (some ((vp_nar .boolean y4.1), m_place, m_begin, m_token, m_told, y4.2, m_word))) else (Option.bind (fX9_nextToken m_size m_tape m_place m_begin m_token m_told m_word) fun y3 => (some (1, y3.1, y3.2.1, y3.2.2.1, y3.2.2.2.1, m_wrong, y3.2.2.2.2))))
set_option maxHeartbeats 4000000 in
set_option maxRecDepth 100000 in
theorem KX9_closes (l : Launch) (D : va_G) (cy : Nat → ClassId) (ad : Nat → Nat) (P : MP) (V : MV) (I : MI) (J : MJ) (A : MI) (B : MJ) {res : Int32 × Int32 × Int32 × Int32 × Int32 × Int32 × Int64} (hf : fX9_closes (I 0 3) (A 1) (I 0 4) (I 0 5) (I 0 6) (I 0 8) (I 0 9) (J 0 7) = some res) : CG l yX9_closes cX9_closes 1 (some .boolean) rmX9_closes D cy (dn cy LY_X9 ad P V I J A B) [.ref (ad 0)] (some (.int res.1)) (dn cy LY_X9 ad P V (gp I [(0, 4, res.2.1), (0, 5, res.2.2.1), (0, 6, res.2.2.2.1), (0, 8, res.2.2.2.2.1), (0, 9, res.2.2.2.2.2.1)]) (gp J [(0, 7, res.2.2.2.2.2.2)]) (gm A []) (gm B [])) := by
  refine CG.of (own := RX9) (by decide) rfl rfl ?_
  intro p e s m below meth c ls Af C0 hK hN hA hW hl
  have hW : wd D (dn cy LY_X9 ad P V (gp I [(0, 4, (I 0 4)), (0, 5, (I 0 5)), (0, 6, (I 0 6)), (0, 8, (I 0 8)), (0, 9, (I 0 9))]) (gp J [(0, 7, (J 0 7))]) (gm A []) (gm B [])) Af s.heap s.heap [] := wd_sel [(0, 4), (0, 5), (0, 6), (0, 8), (0, 9)] [(0, 7)] [] [] hW
  have hl : lv_has ls 1 [(0, .ref (ad 0))] := hl
  unfold fX9_closes at hf
  refine lv_aload_n C0.1 C0.2.1 dX9_closes_0 rfl (lv_at hl 0 rfl) ?_
  refine lv_bipush (v := 59) C0.1 C0.2.1 dX9_closes_1 kB_59 ?_
  obtain ⟨y1, hy1, hf⟩ := b_some hf
  refine c_Vi C0 hK hN hl.1 hW hA (KX9_isSign l D cy  ad P V (gp I [(0, 4, (I 0 4)), (0, 5, (I 0 5)), (0, 6, (I 0 6)), (0, 8, (I 0 8)), (0, 9, (I 0 9))]) (gp J [(0, 7, (J 0 7))]) (gm A []) (gm B []) 59 hy1) (JN_id rfl rfl rfl rfl) (Uw_V uw_1338 uw_1340 us_50 uw_14 uw_1341) rfl rfl hd_X9_isSign ⟨rfl, rfl⟩ rfl (dn_some LY_X9_0) rfl rfl rfl dX9_closes_3 ⟨Nat.zero_le _, Nat.zero_le _⟩ (fun H locs hW => ?_)
  have hW : wd D (dn cy LY_X9 ad P V (gp I [(0, 4, (I 0 4)), (0, 5, (I 0 5)), (0, 6, (I 0 6)), (0, 8, (I 0 8)), (0, 9, (I 0 9))]) (gp J [(0, 7, (J 0 7))]) (gm A []) (gm B [])) Af s.heap H locs := hW
  refine lv_if_ne (tgt := 15) C0.1 C0.2.1 dX9_closes_6 (by decide) (fun hc2 => ?_) (fun hc2 => ?_)
  · have hf := ite_f hc2 hf
    refine lv_aload_n C0.1 C0.2.1 dX9_closes_15 rfl (lv_at hl 0 rfl) ?_
    obtain ⟨y3, hy3, hf⟩ := b_some hf
    refine c_Vv C0 hK hN hl.1 hW hA (KX9_nextToken l D cy  ad P V (gp I [(0, 4, (I 0 4)), (0, 5, (I 0 5)), (0, 6, (I 0 6)), (0, 8, (I 0 8)), (0, 9, (I 0 9))]) (gp J [(0, 7, (J 0 7))]) (gm A []) (gm B [])  hy3) (JN_id rfl rfl rfl rfl) (Uw_V uw_1263 uw_1265 us_38 uw_14 uw_1266) rfl rfl hd_X9_nextToken ⟨rfl, rfl⟩ rfl (dn_some LY_X9_0) rfl rfl rfl dX9_closes_16 ⟨Nat.zero_le _, Nat.zero_le _⟩ (fun H locs hW => ?_)
    have hW : wd D (dn cy LY_X9 ad P V (gp I [(0, 4, y3.1), (0, 5, y3.2.1), (0, 6, y3.2.2.1), (0, 8, y3.2.2.2.1), (0, 9, (I 0 9))]) (gp J [(0, 7, y3.2.2.2.2)]) (gm A []) (gm B [])) Af s.heap H locs := hW
    refine lv_iconst (v := 1) C0.1 C0.2.1 dX9_closes_19 kI_1 ?_
    obtain rfl := Option.some.inj hf
    exact r_bool C0 hK hW (v' := 1) rfl dX9_closes_20
  · have hf := ite_t hc2 hf
    refine lv_aload_n C0.1 C0.2.1 dX9_closes_9 rfl (lv_at hl 0 rfl) ?_
    refine lv_iconst (v := 1) C0.1 C0.2.1 dX9_closes_10 kI_1 ?_
    obtain ⟨y4, hy4, hf⟩ := b_some hf
    refine c_Vi C0 hK hN hl.1 hW hA (KX9_fails l D cy  ad P V (gp I [(0, 4, (I 0 4)), (0, 5, (I 0 5)), (0, 6, (I 0 6)), (0, 8, (I 0 8)), (0, 9, (I 0 9))]) (gp J [(0, 7, (J 0 7))]) (gm A []) (gm B []) 1 hy4) (JN_id rfl rfl rfl rfl) (Uw_V uw_1282 uw_1284 us_42 uw_14 uw_1285) rfl rfl hd_X9_fails ⟨rfl, rfl⟩ rfl (dn_some LY_X9_0) rfl rfl rfl dX9_closes_11 ⟨Nat.zero_le _, Nat.zero_le _⟩ (fun H locs hW => ?_)
    have hW : wd D (dn cy LY_X9 ad P V (gp I [(0, 4, (I 0 4)), (0, 5, (I 0 5)), (0, 6, (I 0 6)), (0, 8, (I 0 8)), (0, 9, y4.2)]) (gp J [(0, 7, (J 0 7))]) (gm A []) (gm B [])) Af s.heap H locs := hW
    obtain rfl := Option.some.inj hf
    exact r_bool C0 hK hW (v' := (vp_nar .boolean y4.1)) rfl dX9_closes_14
-- X9_needsNew
def rmX9_needsNew : Room := { frames := 3, cells := 0, slots := 0, locals := 63 }
def SX9_needsNew_29 (p : Program) (l : Launch) (e : Env) (s : State) (m : MethodId) (args : Array Value) (below : List Frame) (meth : Method) (c : Code) (D : va_G) (cy : Nat → ClassId) (ad : Nat → Nat) (P : MP) (V : MV) (I : MI) (J : MJ) (A : MI) (B : MJ) (Af : Nat → Prop) (res : Int32 × Int32 × Int32 × Int32 × Int32 × Int32 × Int64 × Int64) (k : Int32 → Int32 → Int32 → Int32 → Int32 → Int64 → Int64 → Option (Int32 × Int32 × Int32 × Int32 × Int32 × Int32 × Int64 × Int64)) : Prop := ∀ (m_place : Int32) (m_begin : Int32) (m_token : Int32) (m_told : Int32) (m_wrong : Int32) (m_word : Int64) (m_fresh : Int64) (H : Heap) (locs : List Loc) (ls : Array Slot), wd D (dn cy LY_X9 ad P V (gp I [(0, 4, m_place), (0, 5, m_begin), (0, 6, m_token), (0, 8, m_told), (0, 9, m_wrong)]) (gp J [(0, 7, m_word), (0, 39, m_fresh)]) (gm A []) (gm B [])) Af s.heap H locs → lv_has ls 1 [(0, .ref (ad 0))] → k m_place m_begin m_token m_told m_wrong m_word m_fresh = some res → W p l e rmX9_needsNew s m args below meth c H locs 0 0 (ZQ below D cy (dn cy LY_X9 ad P V (gp I [(0, 4, res.2.1), (0, 5, res.2.2.1), (0, 6, res.2.2.2.1), (0, 8, res.2.2.2.2.1), (0, 9, res.2.2.2.2.2.1)]) (gp J [(0, 7, res.2.2.2.2.2.2.1), (0, 39, res.2.2.2.2.2.2.2)]) (gm A []) (gm B [])) (some (.int res.1)) Af args s) (F0 m 29 ls [])
def fX9_needsNew_29 (m_size : Int32) (m_tape : (Nat → Int32)) (m_terrace : (Nat → Int32)) (m_holeName : (Nat → Int64)) (m_guestName : (Nat → Int64)) (m_place : Int32) (m_begin : Int32) (m_token : Int32) (m_told : Int32) (m_wrong : Int32) (m_word : Int64) (m_fresh : Int64) : Option (Int32 × Int32 × Int32 × Int32 × Int32 × Int32 × Int64 × Int64) := Option.bind (fX9_fails m_begin m_wrong 3) fun y1 => (some ((vp_nar .boolean y1.1), m_place, m_begin, m_token, m_told, y1.2, m_word, m_fresh))
set_option maxHeartbeats 4000000 in
set_option maxRecDepth 100000 in
theorem tX9_needsNew_29 {p : Program} {l : Launch} {e : Env} {s : State} {m : MethodId} {args : Array Value} {below : List Frame} {meth : Method} {c : Code} {D : va_G} {cy : Nat → ClassId} {ad : Nat → Nat} {P : MP} {V : MV} {I : MI} {J : MJ} {A : MI} {B : MJ} {Af : Nat → Prop} {res : Int32 × Int32 × Int32 × Int32 × Int32 × Int32 × Int64 × Int64} (C0 : CX p s m args meth c cX9_needsNew 1 (some .boolean) RX9) (hK : va_K D vwCl (tyG cy) s) (hN : NWs s) (hA : ∀ q, s.heap.size ≤ q → Af q) : SX9_needsNew_29 p l e s m args below meth c D cy ad P V I J A B Af res (fX9_needsNew_29 (I 0 3) (A 1) (A 2) (B 3) (B 4)) := by
  intro m_place m_begin m_token m_told m_wrong m_word m_fresh H locs ls hW hl hf
  unfold fX9_needsNew_29 at hf
  refine lv_aload_n C0.1 C0.2.1 dX9_needsNew_29 rfl (lv_at hl 0 rfl) ?_
  refine lv_iconst (v := 3) C0.1 C0.2.1 dX9_needsNew_30 kI_3 ?_
  obtain ⟨y1, hy1, hf⟩ := b_some hf
  refine c_Vi C0 hK hN hl.1 hW hA (KX9_fails l D cy  ad P V (gp I [(0, 4, m_place), (0, 5, m_begin), (0, 6, m_token), (0, 8, m_told), (0, 9, m_wrong)]) (gp J [(0, 7, m_word), (0, 39, m_fresh)]) (gm A []) (gm B []) 3 hy1) (JN_id rfl rfl rfl rfl) (Uw_V uw_1282 uw_1284 us_42 uw_14 uw_1285) rfl rfl hd_X9_fails ⟨rfl, rfl⟩ rfl (dn_some LY_X9_0) rfl rfl rfl dX9_needsNew_31 ⟨Nat.zero_le _, Nat.zero_le _⟩ (fun H locs hW => ?_)
  have hW : wd D (dn cy LY_X9 ad P V (gp I [(0, 4, m_place), (0, 5, m_begin), (0, 6, m_token), (0, 8, m_told), (0, 9, y1.2)]) (gp J [(0, 7, m_word), (0, 39, m_fresh)]) (gm A []) (gm B [])) Af s.heap H locs := hW
  obtain rfl := Option.some.inj hf
  exact r_bool C0 hK hW (v' := (vp_nar .boolean y1.1)) rfl dX9_needsNew_34
def fX9_needsNew (m_size : Int32) (m_tape : (Nat → Int32)) (m_terrace : (Nat → Int32)) (m_holeName : (Nat → Int64)) (m_guestName : (Nat → Int64)) (m_place : Int32) (m_begin : Int32) (m_token : Int32) (m_told : Int32) (m_wrong : Int32) (m_word : Int64) (m_fresh : Int64) : Option (Int32 × Int32 × Int32 × Int32 × Int32 × Int32 × Int64 × Int64) := Option.bind (fX9_isKept m_token m_word) fun y1 => (if y1 = 0 then (Option.bind (fX9_holeNamed m_word m_terrace m_holeName 1) fun y3 => (if 0 ≤ y3 then (fX9_needsNew_29 m_size m_tape m_terrace m_holeName m_guestName m_place m_begin m_token m_told m_wrong m_word m_fresh) else (Option.bind (fX9_guestNamed m_word m_terrace m_guestName 1) fun y5 => (if y5 < 0 then (Option.bind (fX9_nextToken m_size m_tape m_place m_begin m_token m_told m_word) fun y7 => (some (1, y7.1, y7.2.1, y7.2.2.1, y7.2.2.2.1, m_wrong, y7.2.2.2.2, m_word))) else (fX9_needsNew_29 m_size m_tape m_terrace m_holeName m_guestName m_place m_begin m_token m_told m_wrong m_word m_fresh))))) else (Option.bind (fX9_fails m_begin m_wrong 1) fun y8 => (some ((vp_nar .boolean y8.1), m_place, m_begin, m_token, m_told, y8.2, m_word, m_fresh))))
set_option maxHeartbeats 4000000 in
set_option maxRecDepth 100000 in
theorem KX9_needsNew (l : Launch) (D : va_G) (cy : Nat → ClassId) (ad : Nat → Nat) (P : MP) (V : MV) (I : MI) (J : MJ) (A : MI) (B : MJ) {res : Int32 × Int32 × Int32 × Int32 × Int32 × Int32 × Int64 × Int64} (hf : fX9_needsNew (I 0 3) (A 1) (A 2) (B 3) (B 4) (I 0 4) (I 0 5) (I 0 6) (I 0 8) (I 0 9) (J 0 7) (J 0 39) = some res) : CG l yX9_needsNew cX9_needsNew 1 (some .boolean) rmX9_needsNew D cy (dn cy LY_X9 ad P V I J A B) [.ref (ad 0)] (some (.int res.1)) (dn cy LY_X9 ad P V (gp I [(0, 4, res.2.1), (0, 5, res.2.2.1), (0, 6, res.2.2.2.1), (0, 8, res.2.2.2.2.1), (0, 9, res.2.2.2.2.2.1)]) (gp J [(0, 7, res.2.2.2.2.2.2.1), (0, 39, res.2.2.2.2.2.2.2)]) (gm A []) (gm B [])) := by
  refine CG.of (own := RX9) (by decide) rfl rfl ?_
  intro p e s m below meth c ls Af C0 hK hN hA hW hl
  have hW : wd D (dn cy LY_X9 ad P V (gp I [(0, 4, (I 0 4)), (0, 5, (I 0 5)), (0, 6, (I 0 6)), (0, 8, (I 0 8)), (0, 9, (I 0 9))]) (gp J [(0, 7, (J 0 7)), (0, 39, (J 0 39))]) (gm A []) (gm B [])) Af s.heap s.heap [] := wd_sel [(0, 4), (0, 5), (0, 6), (0, 8), (0, 9)] [(0, 7), (0, 39)] [] [] hW
  have hl : lv_has ls 1 [(0, .ref (ad 0))] := hl
  unfold fX9_needsNew at hf
  refine lv_aload_n C0.1 C0.2.1 dX9_needsNew_0 rfl (lv_at hl 0 rfl) ?_
  obtain ⟨y1, hy1, hf⟩ := b_some hf
  refine c_Vi C0 hK hN hl.1 hW hA (KX9_isKept l D cy  ad P V (gp I [(0, 4, (I 0 4)), (0, 5, (I 0 5)), (0, 6, (I 0 6)), (0, 8, (I 0 8)), (0, 9, (I 0 9))]) (gp J [(0, 7, (J 0 7)), (0, 39, (J 0 39))]) (gm A []) (gm B [])  hy1) (JN_id rfl rfl rfl rfl) (Uw_V uw_1290 uw_1292 us_44 uw_14 uw_1293) rfl rfl hd_X9_isKept ⟨rfl, rfl⟩ rfl (dn_some LY_X9_0) rfl rfl rfl dX9_needsNew_1 ⟨Nat.zero_le _, Nat.zero_le _⟩ (fun H locs hW => ?_)
  have hW : wd D (dn cy LY_X9 ad P V (gp I [(0, 4, (I 0 4)), (0, 5, (I 0 5)), (0, 6, (I 0 6)), (0, 8, (I 0 8)), (0, 9, (I 0 9))]) (gp J [(0, 7, (J 0 7)), (0, 39, (J 0 39))]) (gm A []) (gm B [])) Af s.heap H locs := hW
  refine lv_if_eq (tgt := 13) C0.1 C0.2.1 dX9_needsNew_4 (by decide) (fun hc2 => ?_) (fun hc2 => ?_)
  · have hf := ite_t hc2 hf
    refine lv_aload_n C0.1 C0.2.1 dX9_needsNew_13 rfl (lv_at hl 0 rfl) ?_
    refine lv_iconst (v := 1) C0.1 C0.2.1 dX9_needsNew_14 kI_1 ?_
    obtain ⟨y3, hy3, hf⟩ := b_some hf
    refine c_Vi C0 hK hN hl.1 hW hA (KX9_holeNamed l D cy  ad P V (gp I [(0, 4, (I 0 4)), (0, 5, (I 0 5)), (0, 6, (I 0 6)), (0, 8, (I 0 8)), (0, 9, (I 0 9))]) (gp J [(0, 7, (J 0 7)), (0, 39, (J 0 39))]) (gm A []) (gm B []) 1 hy3) (JN_id rfl rfl rfl rfl) (Uw_V uw_1315 uw_1317 us_45 uw_14 uw_1318) rfl rfl hd_X9_holeNamed ⟨rfl, rfl⟩ rfl (dn_some LY_X9_0) rfl rfl rfl dX9_needsNew_15 ⟨Nat.zero_le _, Nat.zero_le _⟩ (fun H locs hW => ?_)
    have hW : wd D (dn cy LY_X9 ad P V (gp I [(0, 4, (I 0 4)), (0, 5, (I 0 5)), (0, 6, (I 0 6)), (0, 8, (I 0 8)), (0, 9, (I 0 9))]) (gp J [(0, 7, (J 0 7)), (0, 39, (J 0 39))]) (gm A []) (gm B [])) Af s.heap H locs := hW
    refine lv_if_ge (tgt := 29) C0.1 C0.2.1 dX9_needsNew_18 (by decide) (fun hc4 => ?_) (fun hc4 => ?_)
    · have hf := ite_t hc4 hf
      exact tX9_needsNew_29 C0 hK hN hA  (I 0 4) (I 0 5) (I 0 6) (I 0 8) (I 0 9) (J 0 7) (J 0 39) _ _ ls hW hl hf
    · have hf := ite_f hc4 hf
      refine lv_aload_n C0.1 C0.2.1 dX9_needsNew_21 rfl (lv_at hl 0 rfl) ?_
      refine lv_iconst (v := 1) C0.1 C0.2.1 dX9_needsNew_22 kI_1 ?_
      obtain ⟨y5, hy5, hf⟩ := b_some hf
      refine c_Vi C0 hK hN hl.1 hW hA (KX9_guestNamed l D cy  ad P V (gp I [(0, 4, (I 0 4)), (0, 5, (I 0 5)), (0, 6, (I 0 6)), (0, 8, (I 0 8)), (0, 9, (I 0 9))]) (gp J [(0, 7, (J 0 7)), (0, 39, (J 0 39))]) (gm A []) (gm B []) 1 hy5) (JN_id rfl rfl rfl rfl) (Uw_V uw_1319 uw_1321 us_46 uw_14 uw_1322) rfl rfl hd_X9_guestNamed ⟨rfl, rfl⟩ rfl (dn_some LY_X9_0) rfl rfl rfl dX9_needsNew_23 ⟨Nat.zero_le _, Nat.zero_le _⟩ (fun H locs hW => ?_)
      have hW : wd D (dn cy LY_X9 ad P V (gp I [(0, 4, (I 0 4)), (0, 5, (I 0 5)), (0, 6, (I 0 6)), (0, 8, (I 0 8)), (0, 9, (I 0 9))]) (gp J [(0, 7, (J 0 7)), (0, 39, (J 0 39))]) (gm A []) (gm B [])) Af s.heap H locs := hW
      refine lv_if_lt (tgt := 35) C0.1 C0.2.1 dX9_needsNew_26 (by decide) (fun hc6 => ?_) (fun hc6 => ?_)
      · have hf := ite_t hc6 hf
        refine lv_aload_n C0.1 C0.2.1 dX9_needsNew_35 rfl (lv_at hl 0 rfl) ?_
        refine lv_aload_n C0.1 C0.2.1 dX9_needsNew_36 rfl (lv_at hl 0 rfl) ?_
        refine s_get (v := .long (J 0 7)) C0 hK hW 0 7 LY_X9_0 rfl fg_X9_160 rfl dX9_needsNew_37 ?_
        refine s_putJ C0 hK hW 0 39 LY_X9_0 rfl fg_X9_287 fp_X9_39 rfl dX9_needsNew_40 (fun H locs hW => ?_)
        have hW : wd D (dn cy LY_X9 ad P V (gp I [(0, 4, (I 0 4)), (0, 5, (I 0 5)), (0, 6, (I 0 6)), (0, 8, (I 0 8)), (0, 9, (I 0 9))]) (gp J [(0, 7, (J 0 7)), (0, 39, (J 0 7))]) (gm A []) (gm B [])) Af s.heap H locs := hW
        refine lv_aload_n C0.1 C0.2.1 dX9_needsNew_43 rfl (lv_at hl 0 rfl) ?_
        obtain ⟨y7, hy7, hf⟩ := b_some hf
        refine c_Vv C0 hK hN hl.1 hW hA (KX9_nextToken l D cy  ad P V (gp I [(0, 4, (I 0 4)), (0, 5, (I 0 5)), (0, 6, (I 0 6)), (0, 8, (I 0 8)), (0, 9, (I 0 9))]) (gp J [(0, 7, (J 0 7)), (0, 39, (J 0 7))]) (gm A []) (gm B [])  hy7) (JN_id rfl rfl rfl rfl) (Uw_V uw_1263 uw_1265 us_38 uw_14 uw_1266) rfl rfl hd_X9_nextToken ⟨rfl, rfl⟩ rfl (dn_some LY_X9_0) rfl rfl rfl dX9_needsNew_44 ⟨Nat.zero_le _, Nat.zero_le _⟩ (fun H locs hW => ?_)
        have hW : wd D (dn cy LY_X9 ad P V (gp I [(0, 4, y7.1), (0, 5, y7.2.1), (0, 6, y7.2.2.1), (0, 8, y7.2.2.2.1), (0, 9, (I 0 9))]) (gp J [(0, 7, y7.2.2.2.2), (0, 39, (J 0 7))]) (gm A []) (gm B [])) Af s.heap H locs := hW
        refine lv_iconst (v := 1) C0.1 C0.2.1 dX9_needsNew_47 kI_1 ?_
        obtain rfl := Option.some.inj hf
        exact r_bool C0 hK hW (v' := 1) rfl dX9_needsNew_48
      · have hf := ite_f hc6 hf
        exact tX9_needsNew_29 C0 hK hN hA  (I 0 4) (I 0 5) (I 0 6) (I 0 8) (I 0 9) (J 0 7) (J 0 39) _ _ ls hW hl hf
  · have hf := ite_f hc2 hf
    refine lv_aload_n C0.1 C0.2.1 dX9_needsNew_7 rfl (lv_at hl 0 rfl) ?_
    refine lv_iconst (v := 1) C0.1 C0.2.1 dX9_needsNew_8 kI_1 ?_
    obtain ⟨y8, hy8, hf⟩ := b_some hf
    refine c_Vi C0 hK hN hl.1 hW hA (KX9_fails l D cy  ad P V (gp I [(0, 4, (I 0 4)), (0, 5, (I 0 5)), (0, 6, (I 0 6)), (0, 8, (I 0 8)), (0, 9, (I 0 9))]) (gp J [(0, 7, (J 0 7)), (0, 39, (J 0 39))]) (gm A []) (gm B []) 1 hy8) (JN_id rfl rfl rfl rfl) (Uw_V uw_1282 uw_1284 us_42 uw_14 uw_1285) rfl rfl hd_X9_fails ⟨rfl, rfl⟩ rfl (dn_some LY_X9_0) rfl rfl rfl dX9_needsNew_9 ⟨Nat.zero_le _, Nat.zero_le _⟩ (fun H locs hW => ?_)
    have hW : wd D (dn cy LY_X9 ad P V (gp I [(0, 4, (I 0 4)), (0, 5, (I 0 5)), (0, 6, (I 0 6)), (0, 8, (I 0 8)), (0, 9, y8.2)]) (gp J [(0, 7, (J 0 7)), (0, 39, (J 0 39))]) (gm A []) (gm B [])) Af s.heap H locs := hW
    obtain rfl := Option.some.inj hf
    exact r_bool C0 hK hW (v' := (vp_nar .boolean y8.1)) rfl dX9_needsNew_12
-- X9_needsHole
def rmX9_needsHole : Room := { frames := 2, cells := 0, slots := 0, locals := 43 }
def fX9_needsHole (m_begin : Int32) (m_token : Int32) (m_word : Int64) (m_terrace : (Nat → Int32)) (m_holeName : (Nat → Int64)) (m_wrong : Int32) (m_given : Int32) (v1 : Int32) : Option (Int32 × Int32 × Int32) := Option.bind (fX9_isKept m_token m_word) fun y1 => (if y1 = 0 then (Option.bind (fX9_holeNamed m_word m_terrace m_holeName v1) fun y3 => (if 0 ≤ y3 then (some (1, m_wrong, y3)) else (Option.bind (fX9_fails m_begin m_wrong 2) fun y5 => (if y5.1 = 0 then (some (0, y5.2, y3)) else (some (1, y5.2, y3)))))) else (Option.bind (fX9_fails m_begin m_wrong 1) fun y7 => (some ((vp_nar .boolean y7.1), y7.2, m_given))))
set_option maxHeartbeats 4000000 in
set_option maxRecDepth 100000 in
theorem KX9_needsHole (l : Launch) (D : va_G) (cy : Nat → ClassId) (ad : Nat → Nat) (P : MP) (V : MV) (I : MI) (J : MJ) (A : MI) (B : MJ) (v1 : Int32) {res : Int32 × Int32 × Int32} (hf : fX9_needsHole (I 0 5) (I 0 6) (J 0 7) (A 2) (B 3) (I 0 9) (I 0 38) v1 = some res) : CG l yX9_needsHole cX9_needsHole 2 (some .boolean) rmX9_needsHole D cy (dn cy LY_X9 ad P V I J A B) [.ref (ad 0), .int v1] (some (.int res.1)) (dn cy LY_X9 ad P V (gp I [(0, 9, res.2.1), (0, 38, res.2.2)]) (gp J []) (gm A []) (gm B [])) := by
  refine CG.of (own := RX9) (by decide) rfl rfl ?_
  intro p e s m below meth c ls Af C0 hK hN hA hW hl
  have hW : wd D (dn cy LY_X9 ad P V (gp I [(0, 9, (I 0 9)), (0, 38, (I 0 38))]) (gp J []) (gm A []) (gm B [])) Af s.heap s.heap [] := wd_sel [(0, 9), (0, 38)] [] [] [] hW
  have hl : lv_has ls 2 [(0, .ref (ad 0)), (1, .int v1)] := hl
  unfold fX9_needsHole at hf
  refine lv_aload_n C0.1 C0.2.1 dX9_needsHole_0 rfl (lv_at hl 0 rfl) ?_
  obtain ⟨y1, hy1, hf⟩ := b_some hf
  refine c_Vi C0 hK hN hl.1 hW hA (KX9_isKept l D cy  ad P V (gp I [(0, 9, (I 0 9)), (0, 38, (I 0 38))]) (gp J []) (gm A []) (gm B [])  hy1) (JN_id rfl rfl rfl rfl) (Uw_V uw_1290 uw_1292 us_44 uw_14 uw_1293) rfl rfl hd_X9_isKept ⟨rfl, rfl⟩ rfl (dn_some LY_X9_0) rfl rfl rfl dX9_needsHole_1 ⟨Nat.zero_le _, Nat.zero_le _⟩ (fun H locs hW => ?_)
  have hW : wd D (dn cy LY_X9 ad P V (gp I [(0, 9, (I 0 9)), (0, 38, (I 0 38))]) (gp J []) (gm A []) (gm B [])) Af s.heap H locs := hW
  refine lv_if_eq (tgt := 13) C0.1 C0.2.1 dX9_needsHole_4 (by decide) (fun hc2 => ?_) (fun hc2 => ?_)
  · have hf := ite_t hc2 hf
    refine lv_aload_n C0.1 C0.2.1 dX9_needsHole_13 rfl (lv_at hl 0 rfl) ?_
    refine lv_aload_n C0.1 C0.2.1 dX9_needsHole_14 rfl (lv_at hl 0 rfl) ?_
    refine lv_iload_n C0.1 C0.2.1 dX9_needsHole_15 rfl (lv_at hl 1 rfl) ?_
    obtain ⟨y3, hy3, hf⟩ := b_some hf
    refine c_Vi C0 hK hN hl.1 hW hA (KX9_holeNamed l D cy  ad P V (gp I [(0, 9, (I 0 9)), (0, 38, (I 0 38))]) (gp J []) (gm A []) (gm B []) v1 hy3) (JN_id rfl rfl rfl rfl) (Uw_V uw_1315 uw_1317 us_45 uw_14 uw_1318) rfl rfl hd_X9_holeNamed ⟨rfl, rfl⟩ rfl (dn_some LY_X9_0) rfl rfl rfl dX9_needsHole_16 ⟨Nat.zero_le _, Nat.zero_le _⟩ (fun H locs hW => ?_)
    have hW : wd D (dn cy LY_X9 ad P V (gp I [(0, 9, (I 0 9)), (0, 38, (I 0 38))]) (gp J []) (gm A []) (gm B [])) Af s.heap H locs := hW
    refine s_putI C0 hK hW 0 38 LY_X9_0 rfl fg_X9_270 fp_X9_38 rfl dX9_needsHole_19 (fun H locs hW => ?_)
    have hW : wd D (dn cy LY_X9 ad P V (gp I [(0, 9, (I 0 9)), (0, 38, y3)]) (gp J []) (gm A []) (gm B [])) Af s.heap H locs := hW
    refine lv_aload_n C0.1 C0.2.1 dX9_needsHole_22 rfl (lv_at hl 0 rfl) ?_
    refine s_get (v := .int y3) C0 hK hW 0 38 LY_X9_0 rfl fg_X9_270 rfl dX9_needsHole_23 ?_
    refine lv_if_ge (tgt := 37) C0.1 C0.2.1 dX9_needsHole_26 (by decide) (fun hc4 => ?_) (fun hc4 => ?_)
    · have hf := ite_t hc4 hf
      refine lv_iconst (v := 1) C0.1 C0.2.1 dX9_needsHole_37 kI_1 ?_
      refine lv_goto (tgt := 42) C0.1 C0.2.1 dX9_needsHole_38 (by decide) ?_
      obtain rfl := Option.some.inj hf
      exact r_bool C0 hK hW (v' := 1) rfl dX9_needsHole_42
    · have hf := ite_f hc4 hf
      refine lv_aload_n C0.1 C0.2.1 dX9_needsHole_29 rfl (lv_at hl 0 rfl) ?_
      refine lv_iconst (v := 2) C0.1 C0.2.1 dX9_needsHole_30 kI_2 ?_
      obtain ⟨y5, hy5, hf⟩ := b_some hf
      refine c_Vi C0 hK hN hl.1 hW hA (KX9_fails l D cy  ad P V (gp I [(0, 9, (I 0 9)), (0, 38, y3)]) (gp J []) (gm A []) (gm B []) 2 hy5) (JN_id rfl rfl rfl rfl) (Uw_V uw_1282 uw_1284 us_42 uw_14 uw_1285) rfl rfl hd_X9_fails ⟨rfl, rfl⟩ rfl (dn_some LY_X9_0) rfl rfl rfl dX9_needsHole_31 ⟨Nat.zero_le _, Nat.zero_le _⟩ (fun H locs hW => ?_)
      have hW : wd D (dn cy LY_X9 ad P V (gp I [(0, 9, y5.2), (0, 38, y3)]) (gp J []) (gm A []) (gm B [])) Af s.heap H locs := hW
      refine lv_if_eq (tgt := 41) C0.1 C0.2.1 dX9_needsHole_34 (by decide) (fun hc6 => ?_) (fun hc6 => ?_)
      · have hf := ite_t hc6 hf
        refine lv_iconst (v := 0) C0.1 C0.2.1 dX9_needsHole_41 kI_0 ?_
        obtain rfl := Option.some.inj hf
        exact r_bool C0 hK hW (v' := 0) rfl dX9_needsHole_42
      · have hf := ite_f hc6 hf
        refine lv_iconst (v := 1) C0.1 C0.2.1 dX9_needsHole_37 kI_1 ?_
        refine lv_goto (tgt := 42) C0.1 C0.2.1 dX9_needsHole_38 (by decide) ?_
        obtain rfl := Option.some.inj hf
        exact r_bool C0 hK hW (v' := 1) rfl dX9_needsHole_42
  · have hf := ite_f hc2 hf
    refine lv_aload_n C0.1 C0.2.1 dX9_needsHole_7 rfl (lv_at hl 0 rfl) ?_
    refine lv_iconst (v := 1) C0.1 C0.2.1 dX9_needsHole_8 kI_1 ?_
    obtain ⟨y7, hy7, hf⟩ := b_some hf
    refine c_Vi C0 hK hN hl.1 hW hA (KX9_fails l D cy  ad P V (gp I [(0, 9, (I 0 9)), (0, 38, (I 0 38))]) (gp J []) (gm A []) (gm B []) 1 hy7) (JN_id rfl rfl rfl rfl) (Uw_V uw_1282 uw_1284 us_42 uw_14 uw_1285) rfl rfl hd_X9_fails ⟨rfl, rfl⟩ rfl (dn_some LY_X9_0) rfl rfl rfl dX9_needsHole_9 ⟨Nat.zero_le _, Nat.zero_le _⟩ (fun H locs hW => ?_)
    have hW : wd D (dn cy LY_X9 ad P V (gp I [(0, 9, y7.2), (0, 38, (I 0 38))]) (gp J []) (gm A []) (gm B [])) Af s.heap H locs := hW
    obtain rfl := Option.some.inj hf
    exact r_bool C0 hK hW (v' := (vp_nar .boolean y7.1)) rfl dX9_needsHole_12
-- X9_needsGuest
def rmX9_needsGuest : Room := { frames := 2, cells := 0, slots := 0, locals := 43 }
def fX9_needsGuest (m_begin : Int32) (m_token : Int32) (m_word : Int64) (m_terrace : (Nat → Int32)) (m_guestName : (Nat → Int64)) (m_wrong : Int32) (m_given : Int32) : Option (Int32 × Int32 × Int32) := Option.bind (fX9_isKept m_token m_word) fun y1 => (if y1 = 0 then (Option.bind (fX9_guestNamed m_word m_terrace m_guestName 0) fun y3 => (if 0 ≤ y3 then (some (1, m_wrong, y3)) else (Option.bind (fX9_fails m_begin m_wrong 2) fun y5 => (if y5.1 = 0 then (some (0, y5.2, y3)) else (some (1, y5.2, y3)))))) else (Option.bind (fX9_fails m_begin m_wrong 1) fun y7 => (some ((vp_nar .boolean y7.1), y7.2, m_given))))
set_option maxHeartbeats 4000000 in
set_option maxRecDepth 100000 in
theorem KX9_needsGuest (l : Launch) (D : va_G) (cy : Nat → ClassId) (ad : Nat → Nat) (P : MP) (V : MV) (I : MI) (J : MJ) (A : MI) (B : MJ) {res : Int32 × Int32 × Int32} (hf : fX9_needsGuest (I 0 5) (I 0 6) (J 0 7) (A 2) (B 4) (I 0 9) (I 0 38) = some res) : CG l yX9_needsGuest cX9_needsGuest 1 (some .boolean) rmX9_needsGuest D cy (dn cy LY_X9 ad P V I J A B) [.ref (ad 0)] (some (.int res.1)) (dn cy LY_X9 ad P V (gp I [(0, 9, res.2.1), (0, 38, res.2.2)]) (gp J []) (gm A []) (gm B [])) := by
  refine CG.of (own := RX9) (by decide) rfl rfl ?_
  intro p e s m below meth c ls Af C0 hK hN hA hW hl
  have hW : wd D (dn cy LY_X9 ad P V (gp I [(0, 9, (I 0 9)), (0, 38, (I 0 38))]) (gp J []) (gm A []) (gm B [])) Af s.heap s.heap [] := wd_sel [(0, 9), (0, 38)] [] [] [] hW
  have hl : lv_has ls 1 [(0, .ref (ad 0))] := hl
  unfold fX9_needsGuest at hf
  refine lv_aload_n C0.1 C0.2.1 dX9_needsGuest_0 rfl (lv_at hl 0 rfl) ?_
  obtain ⟨y1, hy1, hf⟩ := b_some hf
  refine c_Vi C0 hK hN hl.1 hW hA (KX9_isKept l D cy  ad P V (gp I [(0, 9, (I 0 9)), (0, 38, (I 0 38))]) (gp J []) (gm A []) (gm B [])  hy1) (JN_id rfl rfl rfl rfl) (Uw_V uw_1290 uw_1292 us_44 uw_14 uw_1293) rfl rfl hd_X9_isKept ⟨rfl, rfl⟩ rfl (dn_some LY_X9_0) rfl rfl rfl dX9_needsGuest_1 ⟨Nat.zero_le _, Nat.zero_le _⟩ (fun H locs hW => ?_)
  have hW : wd D (dn cy LY_X9 ad P V (gp I [(0, 9, (I 0 9)), (0, 38, (I 0 38))]) (gp J []) (gm A []) (gm B [])) Af s.heap H locs := hW
  refine lv_if_eq (tgt := 13) C0.1 C0.2.1 dX9_needsGuest_4 (by decide) (fun hc2 => ?_) (fun hc2 => ?_)
  · have hf := ite_t hc2 hf
    refine lv_aload_n C0.1 C0.2.1 dX9_needsGuest_13 rfl (lv_at hl 0 rfl) ?_
    refine lv_aload_n C0.1 C0.2.1 dX9_needsGuest_14 rfl (lv_at hl 0 rfl) ?_
    refine lv_iconst (v := 0) C0.1 C0.2.1 dX9_needsGuest_15 kI_0 ?_
    obtain ⟨y3, hy3, hf⟩ := b_some hf
    refine c_Vi C0 hK hN hl.1 hW hA (KX9_guestNamed l D cy  ad P V (gp I [(0, 9, (I 0 9)), (0, 38, (I 0 38))]) (gp J []) (gm A []) (gm B []) 0 hy3) (JN_id rfl rfl rfl rfl) (Uw_V uw_1319 uw_1321 us_46 uw_14 uw_1322) rfl rfl hd_X9_guestNamed ⟨rfl, rfl⟩ rfl (dn_some LY_X9_0) rfl rfl rfl dX9_needsGuest_16 ⟨Nat.zero_le _, Nat.zero_le _⟩ (fun H locs hW => ?_)
    have hW : wd D (dn cy LY_X9 ad P V (gp I [(0, 9, (I 0 9)), (0, 38, (I 0 38))]) (gp J []) (gm A []) (gm B [])) Af s.heap H locs := hW
    refine s_putI C0 hK hW 0 38 LY_X9_0 rfl fg_X9_270 fp_X9_38 rfl dX9_needsGuest_19 (fun H locs hW => ?_)
    have hW : wd D (dn cy LY_X9 ad P V (gp I [(0, 9, (I 0 9)), (0, 38, y3)]) (gp J []) (gm A []) (gm B [])) Af s.heap H locs := hW
    refine lv_aload_n C0.1 C0.2.1 dX9_needsGuest_22 rfl (lv_at hl 0 rfl) ?_
    refine s_get (v := .int y3) C0 hK hW 0 38 LY_X9_0 rfl fg_X9_270 rfl dX9_needsGuest_23 ?_
    refine lv_if_ge (tgt := 37) C0.1 C0.2.1 dX9_needsGuest_26 (by decide) (fun hc4 => ?_) (fun hc4 => ?_)
    · have hf := ite_t hc4 hf
      refine lv_iconst (v := 1) C0.1 C0.2.1 dX9_needsGuest_37 kI_1 ?_
      refine lv_goto (tgt := 42) C0.1 C0.2.1 dX9_needsGuest_38 (by decide) ?_
      obtain rfl := Option.some.inj hf
      exact r_bool C0 hK hW (v' := 1) rfl dX9_needsGuest_42
    · have hf := ite_f hc4 hf
      refine lv_aload_n C0.1 C0.2.1 dX9_needsGuest_29 rfl (lv_at hl 0 rfl) ?_
      refine lv_iconst (v := 2) C0.1 C0.2.1 dX9_needsGuest_30 kI_2 ?_
      obtain ⟨y5, hy5, hf⟩ := b_some hf
      refine c_Vi C0 hK hN hl.1 hW hA (KX9_fails l D cy  ad P V (gp I [(0, 9, (I 0 9)), (0, 38, y3)]) (gp J []) (gm A []) (gm B []) 2 hy5) (JN_id rfl rfl rfl rfl) (Uw_V uw_1282 uw_1284 us_42 uw_14 uw_1285) rfl rfl hd_X9_fails ⟨rfl, rfl⟩ rfl (dn_some LY_X9_0) rfl rfl rfl dX9_needsGuest_31 ⟨Nat.zero_le _, Nat.zero_le _⟩ (fun H locs hW => ?_)
      have hW : wd D (dn cy LY_X9 ad P V (gp I [(0, 9, y5.2), (0, 38, y3)]) (gp J []) (gm A []) (gm B [])) Af s.heap H locs := hW
      refine lv_if_eq (tgt := 41) C0.1 C0.2.1 dX9_needsGuest_34 (by decide) (fun hc6 => ?_) (fun hc6 => ?_)
      · have hf := ite_t hc6 hf
        refine lv_iconst (v := 0) C0.1 C0.2.1 dX9_needsGuest_41 kI_0 ?_
        obtain rfl := Option.some.inj hf
        exact r_bool C0 hK hW (v' := 0) rfl dX9_needsGuest_42
      · have hf := ite_f hc6 hf
        refine lv_iconst (v := 1) C0.1 C0.2.1 dX9_needsGuest_37 kI_1 ?_
        refine lv_goto (tgt := 42) C0.1 C0.2.1 dX9_needsGuest_38 (by decide) ?_
        obtain rfl := Option.some.inj hf
        exact r_bool C0 hK hW (v' := 1) rfl dX9_needsGuest_42
  · have hf := ite_f hc2 hf
    refine lv_aload_n C0.1 C0.2.1 dX9_needsGuest_7 rfl (lv_at hl 0 rfl) ?_
    refine lv_iconst (v := 1) C0.1 C0.2.1 dX9_needsGuest_8 kI_1 ?_
    obtain ⟨y7, hy7, hf⟩ := b_some hf
    refine c_Vi C0 hK hN hl.1 hW hA (KX9_fails l D cy  ad P V (gp I [(0, 9, (I 0 9)), (0, 38, (I 0 38))]) (gp J []) (gm A []) (gm B []) 1 hy7) (JN_id rfl rfl rfl rfl) (Uw_V uw_1282 uw_1284 us_42 uw_14 uw_1285) rfl rfl hd_X9_fails ⟨rfl, rfl⟩ rfl (dn_some LY_X9_0) rfl rfl rfl dX9_needsGuest_9 ⟨Nat.zero_le _, Nat.zero_le _⟩ (fun H locs hW => ?_)
    have hW : wd D (dn cy LY_X9 ad P V (gp I [(0, 9, y7.2), (0, 38, (I 0 38))]) (gp J []) (gm A []) (gm B [])) Af s.heap H locs := hW
    obtain rfl := Option.some.inj hf
    exact r_bool C0 hK hW (v' := (vp_nar .boolean y7.1)) rfl dX9_needsGuest_12
