/-! the case of rests -/
theorem uw_975 : (Cond.codeWith yL_rests cL_rests 7 (some .int) [(0, 14, 17, 13)]) ∈ Uw := Uw_of 975 (by decide +kernel) (by decide +kernel)
theorem hd_L_rests : yL_rests.cls ≠ "java/lang/invoke/MethodHandle" ∧ yL_rests.cls ≠ "java/lang/invoke/VarHandle" ∧ (parseMethodDescriptor yL_rests.desc).map (fun d => d.parameters.length) = some 6 := by decide +kernel
theorem lgc_eq (x : Int64) : lg_cmp x x = 0 := by
  unfold lg_cmp
  simp
section LRS
variable {p : Program} {l : Launch} {e : Env} {s : State} {m : MethodId} {below : List Frame} {meth : Method} {c : Code} {H : Heap} {locs : List Loc} {cells slots : Nat}
variable {b L j N ax am ao : Nat} {xs : Nat → Int32} {ls : Array Slot} {D : va_G} {cy : Nat → ClassId}
set_option maxHeartbeats 4000000 in
set_option maxRecDepth 10000 in
theorem lc_rests (C : LCx p l s m meth c b L xs D cy) (hj : j + 7 ≤ L) (hcs : cells + 1 ≤ room_1.cells ∧ slots + 6 ≤ room_1.slots) (hl : lv_has ls 7 (lvL b ax am ao (nI j))) (hW : LW D cy s N ax am ao H locs) (kk : LK p l e s m below meth c cells slots b j N ax am ao D cy) : W p l e room_1 s m #[.ref b] below meth c H locs cells slots (lw_Z below #[.ref b] s) (F0 m 971 ls []) := by
  obtain ⟨wx, wm, bo, hI, hW⟩ := hW
  obtain ⟨C0, hK, hNs, hX, hZ, -, -, h0, -⟩ := id C
  have hA : ∀ q, s.heap.size ≤ q → LAf s q := fun _ h => h
  have hc1 : cells + 1 + 0 ≤ room_1.cells ∧ slots + 6 + 0 ≤ room_1.slots := ⟨by omega, by omega⟩
  obtain ⟨k, r, bo2, wm2, kl, k9, kt, hb2, hI2⟩ := sp_rests l h0 D (ao := ao) (bo := bo) (xs (j + 1)) (xs (j + 2)) (xs (j + 3)) (xs (j + 4)) hI
  obtain ⟨fm, hm⟩ := hI.m
  obtain ⟨fm2, hm2⟩ := hI2.m
  refine lv_aload_n C0.1 C0.2.1 dL_law_971 rfl (lv_at hl 1 rfl) ?_
  refine la_arg 1 C hW.2.2 (lv_at hl 0 rfl) (lv_at hl 4 rfl) hj (by decide) (by decide +kernel) dL_law_972 dL_law_973 dL_law_975 dL_law_976 dL_law_977 ?_
  refine la_arg 2 C hW.2.2 (lv_at hl 0 rfl) (lv_at hl 4 rfl) hj (by decide) (by decide +kernel) dL_law_978 dL_law_979 dL_law_981 dL_law_982 dL_law_983 ?_
  refine la_arg 3 C hW.2.2 (lv_at hl 0 rfl) (lv_at hl 4 rfl) hj (by decide) (by decide +kernel) dL_law_984 dL_law_985 dL_law_987 dL_law_988 dL_law_989 ?_
  refine la_arg 4 C hW.2.2 (lv_at hl 0 rfl) (lv_at hl 4 rfl) hj (by decide) (by decide +kernel) dL_law_990 dL_law_991 dL_law_993 dL_law_994 dL_law_995 ?_
  refine lv_aload_n C0.1 C0.2.1 dL_law_996 rfl (lv_at hl 3 rfl) ?_
  refine c_SL C0 hK hNs hX hZ hl.1 (wd_a hW) hA kl ⟨uw_973, uw_974, uw_0, uw_975⟩ rfl rfl hd_L_rests ⟨rfl, rfl⟩ rfl rfl rfl dL_law_997 hcs (fun H locs hW => ?_)
  have hW := wd_c hW
  show W p l e room_1 s m #[.ref b] below meth c H locs (cells + 1) (slots + 6) (lw_Z below #[.ref b] s) (F0 m 1000 ls [.int k])
  refine lv_istore (lv' := [(5, .int k), (0, .ref b), (1, .ref ax), (2, .ref am), (3, .ref ao), (4, .int (nI j))]) C0.1 C0.2.1 dL_law_1000 hl (by decide) rfl (fun ls hl => ?_)
  refine lv_aload_n C0.1 C0.2.1 dL_law_1002 rfl (lv_at hl 3 rfl) ?_
  refine la_arg 1 C hW.2.2 (lv_at hl 1 rfl) (lv_at hl 5 rfl) hj (by decide) (by decide +kernel) dL_law_1003 dL_law_1004 dL_law_1006 dL_law_1007 dL_law_1008 ?_
  refine la_arg 2 C hW.2.2 (lv_at hl 1 rfl) (lv_at hl 5 rfl) hj (by decide) (by decide +kernel) dL_law_1009 dL_law_1010 dL_law_1012 dL_law_1013 dL_law_1014 ?_
  refine la_arg 3 C hW.2.2 (lv_at hl 1 rfl) (lv_at hl 5 rfl) hj (by decide) (by decide +kernel) dL_law_1015 dL_law_1016 dL_law_1018 dL_law_1019 dL_law_1020 ?_
  refine la_arg 4 C hW.2.2 (lv_at hl 1 rfl) (lv_at hl 5 rfl) hj (by decide) (by decide +kernel) dL_law_1021 dL_law_1022 dL_law_1024 dL_law_1025 dL_law_1026 ?_
  have hW := wd_m hW
  refine c_VAi C0 hK hNs hl.1 hW hA k9 (Uw_V uw_1625 uw_1626 uw_1627 uw_14 uw_1628) rfl rfl hd_X9_rests ⟨rfl, rfl⟩ rfl hm rfl rfl rfl dL_law_1027 hc1 (fun H locs hW => ?_)
  refine lv_istore (lv' := [(6, .int r), (5, .int k), (0, .ref b), (1, .ref ax), (2, .ref am), (3, .ref ao), (4, .int (nI j))]) C0.1 C0.2.1 dL_law_1030 hl (by decide) rfl (fun ls hl => ?_)
  refine lv_aload_n C0.1 C0.2.1 dL_law_1032 rfl (lv_at hl 4 rfl) ?_
  refine c_VAi C0 hK hNs hl.1 hW hA kt (Uw_V uw_1242 uw_1243 uw_1244 uw_14 uw_1245) rfl rfl hd_X9_thrown ⟨rfl, rfl⟩ rfl hm2 rfl rfl rfl dL_law_1033 hc1 (fun H locs hW => ?_)
  have hW := wd_b hW
  have fin : ∀ ls' : Array Slot, lv_has ls' 7 [(6, .int r), (5, .int k), (0, .ref b), (1, .ref ax), (2, .ref am), (3, .ref ao), (4, .int (nI j))] → W p l e room_1 s m #[.ref b] below meth c H locs (cells + 1) (slots + 6) (lw_Z below #[.ref b] s) (F0 m 1060 ls' []) := fun ls' hl' => by
    refine lv_goto (tgt := 1190) C0.1 C0.2.1 dL_law_1060 (by decide) ?_
    exact kk _ _ _ ⟨wx, wm2, bo2, hI2, hW⟩ (lv_sub hl' [2, 3, 4, 5, 6] rfl)
  refine lv_iload C0.1 C0.2.1 dL_law_1036 (lv_at hl 1 rfl) ?_
  refine lv_icmp_eq (tgt := 1043) C0.1 C0.2.1 dL_law_1038 (by decide) (fun _ => ?_) (fun h => absurd rfl h)
  refine lv_iload C0.1 C0.2.1 dL_law_1043 (lv_at hl 1 rfl) ?_
  refine lv_if_ne (tgt := 1060) C0.1 C0.2.1 dL_law_1045 (by decide) (fun _ => fin ls hl) (fun hk => ?_)
  refine lv_aload_n C0.1 C0.2.1 dL_law_1048 rfl (lv_at hl 5 rfl) ?_
  refine lv_iconst (v := 0) C0.1 C0.2.1 dL_law_1049 kI_0 ?_
  refine va_lald C0.1 C0.2.1 hK hW.1 wx.length 2 (cA := cy 2) (n := 1) (f := bo2) (ap_r (i := 0) rfl rfl) rfl (inb_in rfl) dL_law_1050 ?_
  refine lv_iload C0.1 C0.2.1 dL_law_1051 (lv_at hl 0 rfl) ?_
  refine lv_i2l C0.1 C0.2.1 dL_law_1053 rfl ?_
  refine W.lcmp C0.1 C0.2.1 dL_law_1054 ?_
  have h2 : bo2 (Int32.toNatClampNeg 0) = r.toInt64 := hb2 hk
  rw [h2, lgc_eq]
  exact lv_if_eq (tgt := 1060) C0.1 C0.2.1 dL_law_1055 (by decide) (fun _ => fin ls hl) (fun h => absurd rfl h)
end LRS
