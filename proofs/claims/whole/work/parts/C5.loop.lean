/-! the law's loop -/
theorem lt_7 : ∀ L, L < 7 → nI L - 7 < 0 := by decide +kernel
theorem lt_j {L j : Nat} (hL : L ≤ 3584) (hj : j ≤ 4000) (h : L < j + 7) : nI L - 7 < nI j := by
  by_cases h7 : 7 ≤ L
  · have e : nI L - 7 = nI (L - 7) := nsub (a := L) (b := 7) h7
    rw [e]
    exact nI_lt (by omega) (by omega)
  · exact Int32.lt_of_lt_of_le (lt_7 L (by omega)) (nI_le (a := 0) (b := j) (Nat.zero_le _) (by omega))
theorem LW.mono {D : va_G} {cy : Nat → ClassId} {s : State} {N ax am ao : Nat} {H : Heap} {locs : List Loc} (h : LW D cy s N ax am ao H locs) : LW D cy s (N + 1) ax am ao H locs := by
  obtain ⟨wx, wm, bo, ⟨ad, P, V, I, J, A, B, ad9, P9, V9, I9, J9, A9, B9, h1, h2, h3, h4, h5, h6, R⟩, hW⟩ := h
  exact ⟨wx, wm, bo, ⟨ad, P, V, I, J, A, B, ad9, P9, V9, I9, J9, A9, B9, h1, h2, h3, h4, h5, h6, Rel_mono (Nat.le_succ _) R⟩, hW⟩
section LLP
variable {p : Program} {l : Launch} {e : Env} {s : State} {m : MethodId} {below : List Frame} {meth : Method} {c : Code}
variable {b L ax am ao : Nat} {xs : Nat → Int32} {D : va_G} {cy : Nat → ClassId}
theorem law_sw {H : Heap} {locs : List Loc} {cells slots j N t : Nat} {ls : Array Slot} (C : LCx p l s m meth c b L xs D cy) (hN : N < 1800) (hj : j + 7 ≤ L) (hcs : cells + 1 ≤ room_1.cells ∧ slots + 6 ≤ room_1.slots) (hl : lv_has ls 7 (lvL b ax am ao (nI j))) (hW : LW D cy s N ax am ao H locs) (kk : LK p l e s m below meth c cells slots b j N ax am ao D cy) (ht : t < 2 ^ 5) : W p l e room_1 s m #[.ref b] below meth c H locs cells slots (lw_Z below #[.ref b] s) (F0 m 40 ls [.int (nI t)]) := by
  match t, ht with
  | 0, _ => exact lv_tableIn (off := 132) (tgt := 172) C.1.1 C.1.2.1 dL_law_40 (by decide) (by decide) (by decide) (by decide) (lc_feed C hN hj hcs hl hW kk)
  | 1, _ => exact lv_tableIn (off := 279) (tgt := 319) C.1.1 C.1.2.1 dL_law_40 (by decide) (by decide) (by decide) (by decide) (lc_terrace C hN hj hcs hl hW kk)
  | 2, _ => exact lv_tableIn (off := 292) (tgt := 332) C.1.1 C.1.2.1 dL_law_40 (by decide) (by decide) (by decide) (by decide) (lc_winter C hN hj hcs hl hW kk)
  | 3, _ => exact lv_tableIn (off := 305) (tgt := 345) C.1.1 C.1.2.1 dL_law_40 (by decide) (by decide) (by decide) (by decide) (lc_hole C hN hj hcs hl hW kk)
  | 4, _ => exact lv_tableIn (off := 342) (tgt := 382) C.1.1 C.1.2.1 dL_law_40 (by decide) (by decide) (by decide) (by decide) (lc_guest C hN hj hcs hl hW kk)
  | 5, _ => exact lv_tableIn (off := 379) (tgt := 419) C.1.1 C.1.2.1 dL_law_40 (by decide) (by decide) (by decide) (by decide) (lc_down C hN hj hcs hl hW kk)
  | 6, _ => exact lv_tableIn (off := 416) (tgt := 456) C.1.1 C.1.2.1 dL_law_40 (by decide) (by decide) (by decide) (by decide) (lc_up C hN hj hcs hl hW kk)
  | 7, _ => exact lv_tableIn (off := 441) (tgt := 481) C.1.1 C.1.2.1 dL_law_40 (by decide) (by decide) (by decide) (by decide) (lc_through C hN hj hcs hl hW kk)
  | 8, _ => exact lv_tableIn (off := 478) (tgt := 518) C.1.1 C.1.2.1 dL_law_40 (by decide) (by decide) (by decide) (by decide) (lc_bring C hN hj hcs hl hW kk)
  | 9, _ => exact lv_tableIn (off := 503) (tgt := 543) C.1.1 C.1.2.1 dL_law_40 (by decide) (by decide) (by decide) (by decide) (lc_day C hN hj hcs hl hW kk)
  | 10, _ => exact lv_tableIn (off := 516) (tgt := 556) C.1.1 C.1.2.1 dL_law_40 (by decide) (by decide) (by decide) (by decide) (lc_undo C hN hj hcs hl hW kk)
  | 11, _ => exact lv_tableIn (off := 529) (tgt := 569) C.1.1 C.1.2.1 dL_law_40 (by decide) (by decide) (by decide) (by decide) (lc_judged C hN hj hcs hl hW kk)
  | 12, _ => exact lv_tableIn (off := 554) (tgt := 594) C.1.1 C.1.2.1 dL_law_40 (by decide) (by decide) (by decide) (by decide) (lc_lasts C hN hj hcs hl hW kk)
  | 13, _ => exact lv_tableIn (off := 579) (tgt := 619) C.1.1 C.1.2.1 dL_law_40 (by decide) (by decide) (by decide) (by decide) (lc_safe C hN hj hcs hl hW kk)
  | 14, _ => exact lv_tableIn (off := 604) (tgt := 644) C.1.1 C.1.2.1 dL_law_40 (by decide) (by decide) (by decide) (by decide) (lc_refuge C hN hj hcs hl hW kk)
  | 15, _ => exact lv_tableIn (off := 629) (tgt := 669) C.1.1 C.1.2.1 dL_law_40 (by decide) (by decide) (by decide) (by decide) (lc_sacks C hN hj hcs hl hW kk)
  | 16, _ => exact lv_tableIn (off := 666) (tgt := 706) C.1.1 C.1.2.1 dL_law_40 (by decide) (by decide) (by decide) (by decide) (lc_lodging C hN hj hcs hl hW kk)
  | 17, _ => exact lv_tableIn (off := 703) (tgt := 743) C.1.1 C.1.2.1 dL_law_40 (by decide) (by decide) (by decide) (by decide) (lc_note C hN hj hcs hl hW kk)
  | 18, _ => exact lv_tableIn (off := 740) (tgt := 780) C.1.1 C.1.2.1 dL_law_40 (by decide) (by decide) (by decide) (by decide) (lc_full C hN hj hcs hl hW kk)
  | 19, _ => exact lv_tableIn (off := 753) (tgt := 793) C.1.1 C.1.2.1 dL_law_40 (by decide) (by decide) (by decide) (by decide) (lc_pairs C hN hj hcs hl hW kk)
  | 20, _ => exact lv_tableIn (off := 766) (tgt := 806) C.1.1 C.1.2.1 dL_law_40 (by decide) (by decide) (by decide) (by decide) (lc_line C hN hj hcs hl hW kk)
  | 21, _ => exact lv_tableIn (off := 803) (tgt := 843) C.1.1 C.1.2.1 dL_law_40 (by decide) (by decide) (by decide) (by decide) (lc_hear C hN hj hcs hl hW kk)
  | 22, _ => exact lv_tableIn (off := 856) (tgt := 896) C.1.1 C.1.2.1 dL_law_40 (by decide) (by decide) (by decide) (by decide) (lc_coals C hN hj hcs hl hW kk)
  | 23, _ => exact lv_tableIn (off := 881) (tgt := 921) C.1.1 C.1.2.1 dL_law_40 (by decide) (by decide) (by decide) (by decide) (lc_ask C hN hj hcs hl hW kk)
  | 24, _ => exact lv_tableIn (off := 894) (tgt := 934) C.1.1 C.1.2.1 dL_law_40 (by decide) (by decide) (by decide) (by decide) (lc_colder C hN hj hcs hl hW kk)
  | 25, _ => exact lv_tableIn (off := 931) (tgt := 971) C.1.1 C.1.2.1 dL_law_40 (by decide) (by decide) (by decide) (by decide) (lc_rests C hj hcs hl hW kk)
  | 26, _ => exact lv_tableIn (off := 1023) (tgt := 1063) C.1.1 C.1.2.1 dL_law_40 (by decide) (by decide) (by decide) (by decide) (lc_winters C hN hj hcs hl hW kk)
  | 27, _ => exact lv_tableIn (off := 1072) (tgt := 1112) C.1.1 C.1.2.1 dL_law_40 (by decide) (by decide) (by decide) (by decide) (lc_mark C hN hj hcs hl hW kk)
  | 28, _ => exact lv_tableIn (off := 1125) (tgt := 1165) C.1.1 C.1.2.1 dL_law_40 (by decide) (by decide) (by decide) (by decide) (lc_count C hN hj hcs hl hW kk)
  | 29, _ => exact lv_tableOut (tgt := 1190) C.1.1 C.1.2.1 dL_law_40 (Or.inr (by decide)) (by decide) (W.widen (k := cells + 1) (n := slots + 6) (by omega) (by omega) (kk _ _ _ hW.mono hl))
  | 30, _ => exact lv_tableOut (tgt := 1190) C.1.1 C.1.2.1 dL_law_40 (Or.inr (by decide)) (by decide) (W.widen (k := cells + 1) (n := slots + 6) (by omega) (by omega) (kk _ _ _ hW.mono hl))
  | 31, _ => exact lv_tableOut (tgt := 1190) C.1.1 C.1.2.1 dL_law_40 (Or.inr (by decide)) (by decide) (W.widen (k := cells + 1) (n := slots + 6) (by omega) (by omega) (kk _ _ _ hW.mono hl))
  | n + 32, h => exact absurd h (by omega)
theorem law_loop (C : LCx p l s m meth c b L xs D cy) : ∀ (n N : Nat) {H : Heap} {locs : List Loc} {cells slots : Nat} {ls : Array Slot}, N + n = 513 → cells + n ≤ room_1.cells ∧ slots + 6 * n ≤ room_1.slots → lv_has ls 7 (lvL b ax am ao (nI (7 * N))) → LW D cy s N ax am ao H locs → W p l e room_1 s m #[.ref b] below meth c H locs cells slots (lw_Z below #[.ref b] s) (F0 m 23 ls []) := by
  intro n
  have hL := C.2.2.2.2.2.2.2.2
  have hbl := C.2.2.2.2.2.2.1
  have hX := C.2.2.2.2.2.1
  induction n with
  | zero =>
    intro N H locs cells slots ls hn hcs hl hW
    obtain ⟨wx, wm, bo, hI, hW⟩ := hW
    refine lv_iload C.1.1 C.1.2.1 dL_law_23 (lv_at hl 4 rfl) ?_
    refine lv_aload_n C.1.1 C.1.2.1 dL_law_25 rfl (lv_at hl 0 rfl) ?_
    refine va_slen C.1.1 C.1.2.1 hX hbl (Nat.not_le.mpr hbl) hW.2.2 dL_law_26 ?_
    refine lv_bipush (v := 7) C.1.1 C.1.2.1 dL_law_27 (by decide +kernel) ?_
    refine lv_isub C.1.1 C.1.2.1 dL_law_29 ?_
    refine lv_icmp_gt (tgt := 1196) C.1.1 C.1.2.1 dL_law_30 (by decide) (fun _ => ?_) (fun h => absurd (lt_j hL (by omega) (by omega)) h)
    refine va_forget (fun q hq => hW.2.2.2.2 q hq) ?_
    refine W.widen (k := 601024) (n := 7293034) (Nat.le_trans (Nat.le_add_right _ _) hcs.1) (Nat.le_trans (Nat.le_add_right _ _) hcs.2) ?_
    refine lv_iconst (v := 1) C.1.1 C.1.2.1 dL_law_1196 kI_1 ?_
    exact lw_ret C.1.1 C.1.2.1 C.1.2.2.1 C.1.2.2.2.2.2.2 dL_law_1197
  | succ n ih =>
    intro N H locs cells slots ls hn hcs hl hW0
    obtain ⟨wx, wm, bo, hI, hW⟩ := id hW0
    refine lv_iload C.1.1 C.1.2.1 dL_law_23 (lv_at hl 4 rfl) ?_
    refine lv_aload_n C.1.1 C.1.2.1 dL_law_25 rfl (lv_at hl 0 rfl) ?_
    refine va_slen C.1.1 C.1.2.1 hX hbl (Nat.not_le.mpr hbl) hW.2.2 dL_law_26 ?_
    refine lv_bipush (v := 7) C.1.1 C.1.2.1 dL_law_27 (by decide +kernel) ?_
    refine lv_isub C.1.1 C.1.2.1 dL_law_29 ?_
    refine lv_icmp_gt (tgt := 1196) C.1.1 C.1.2.1 dL_law_30 (by decide) (fun _ => ?_) (fun h => ?_)
    · refine va_forget (fun q hq => hW.2.2.2.2 q hq) ?_
      refine W.widen (k := 601024) (n := 7293034) (Nat.le_trans (Nat.le_add_right _ _) hcs.1) (Nat.le_trans (Nat.le_add_right _ _) hcs.2) ?_
      refine lv_iconst (v := 1) C.1.1 C.1.2.1 dL_law_1196 kI_1 ?_
      exact lw_ret C.1.1 C.1.2.1 C.1.2.2.1 C.1.2.2.2.2.2.2 dL_law_1197
    · have hj : 7 * N + 7 ≤ L := Nat.le_of_not_lt fun q => h (lt_j hL (by omega) q)
      have e1 : (nI (7 * N)).toNatClampNeg = 7 * N := nC (by omega)
      refine lv_aload_n C.1.1 C.1.2.1 dL_law_33 rfl (lv_at hl 0 rfl) ?_
      refine lv_iload C.1.1 C.1.2.1 dL_law_34 (lv_at hl 4 rfl) ?_
      refine va_sld C.1.1 C.1.2.1 hX hbl (Nat.not_le.mpr hbl) hW.2.2 (fun q => ?_) dL_law_36 ?_
      · rcases q with q | q
        · exact nI_nlt (a := 7 * N) (b := 0) (Nat.zero_le _) (by omega) q
        · rw [e1] at q; omega
      refine lv_bipush (v := 31) C.1.1 C.1.2.1 dL_law_37 (by decide +kernel) ?_
      refine lv_iand C.1.1 C.1.2.1 dL_law_39 ?_
      obtain ⟨t, ht, et⟩ := pk_andE (xs (nI (7 * N)).toNatClampNeg) (m := 31) 5 (by decide)
      rw [et]
      refine law_sw C (by omega) hj ⟨by omega, by omega⟩ hl hW0 (fun H locs ls hW hl => ?_) ht
      refine lv_iinc (k := 4) (lv' := [(4, .int (nI (7 * (N + 1)))), (0, .ref b), (1, .ref ax), (2, .ref am), (3, .ref ao)]) C.1.1 C.1.2.1 dL_law_1190 hl rfl (by
        show nI (7 * N) + nI 7 = nI (7 * (N + 1))
        rw [nI_add]; rfl) (by decide) rfl (fun ls hl => ?_)
      refine lv_goto (tgt := 23) C.1.1 C.1.2.1 dL_law_1193 (by decide) ?_
      exact ih (N + 1) (by omega) ⟨by omega, by omega⟩ (lv_sub hl [1, 2, 3, 4, 0] rfl) hW
end LLP
