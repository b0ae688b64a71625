/-! from the law's entry to its loop -/
theorem lz_21 : Cond.classLink RL 8 RX8 ∈ Uw := Uw_of 21 (by decide +kernel) (by decide +kernel)
theorem lz_22 : Cond.instantiable RX8 14 ∈ Uw := Uw_of 22 (by decide +kernel) (by decide +kernel)
theorem lz_1045 : Cond.classLink RL 16 RX9 ∈ Uw := Uw_of 1045 (by decide +kernel) (by decide +kernel)
theorem lz_1046 : Cond.instantiable RX9 62 ∈ Uw := Uw_of 1046 (by decide +kernel) (by decide +kernel)
theorem lz_126 : Cond.arrayClass (newarray.typeOf .long) ∈ Uw := Uw_of 126 (by decide +kernel) (by decide +kernel)
theorem hdi_8 : yX8_init.cls ≠ "java/lang/invoke/MethodHandle" ∧ yX8_init.cls ≠ "java/lang/invoke/VarHandle" ∧ (parseMethodDescriptor yX8_init.desc).map (fun d => d.parameters.length) = some 0 := by decide +kernel
theorem hdi_9 : yX9_init.cls ≠ "java/lang/invoke/MethodHandle" ∧ yX9_init.cls ≠ "java/lang/invoke/VarHandle" ∧ (parseMethodDescriptor yX9_init.desc).map (fun d => d.parameters.length) = some 0 := by decide +kernel
set_option maxHeartbeats 4000000 in
set_option maxRecDepth 100000 in
theorem whole_start {p : Program} {e : Env} {s : State} {m : MethodId} {below : List Frame} {meth : Method} {c : Code} (l : Launch) (h0 : l.stackTraces = false) {b L : Nat} {xs : Nat → Int32} (hL : L ≤ 3584) (C1 : lw_At p s m meth c b L xs) : W p l e room_1 s m #[Value.ref b] below meth c s.heap [] 0 0 (lw_Z below #[Value.ref b] s) (entryFrame m ([Value.ref b] : List Value).toArray 7) := by
  obtain ⟨hx, hb, hr, hml, hown, hts, hX, hbl, hlocks, hgv⟩ := id C1
  obtain ⟨D, cy, hK⟩ := k_all hts
  obtain ⟨hXW, hO, hNs⟩ := k_X hts
  have hZ := k_Z hts hgv
  obtain ⟨KK, VV, hSX⟩ := k_S hts hgv
  have C0 : CX p s m #[.ref b] meth c cL_law 7 ret RL := ⟨hx, hb, hr, hml, hown, fun w hw => hts w (Uw_tbl hw), hlocks⟩
  have C : LCx p l s m meth c b L xs D cy := ⟨C0, hK, hNs, hXW, hZ, hX, hbl, h0, hL⟩
  have hA : ∀ q, s.heap.size ≤ q → LAf s q := fun _ h => h
  have hW : wd D [] (LAf s) s.heap s.heap [] := ⟨fun k q h => by simp at h, ⟨fun i j p q h => by simp at h, fun k q h => by simp at h⟩, va_S.rf⟩
  have hl := lv_entry ([.ref b]) (n := 7) (Nat.le_of_ble_eq_true rfl)
  rw [lg_entry_eq]
  generalize (lg_sl ([.ref b]) ++ List.replicate (7 - (lg_sl ([.ref b])).length) Slot.unset).toArray = ls at hl ⊢
  have hl : lv_has ls 7 [(0, .ref b)] := hl
  refine n_obj (ci := 8) (ty := tyX8) (fs := [.null, .null, .null, .null, .null, .null, .null, .null, .null, .null, .null, .int 0, .int 0, .long 0]) C0 hK hW hA aw_X8 tyX8_ok lz_21 lz_22 uw_1 rfl (by decide) (by decide) (by decide) dL_law_0 (fun q H hW => ?_)
  refine lv_dup C0.1 C0.2.1 dL_law_3 rfl ?_
  refine n_callY C0 hK hNs hSX hO hl.1 hW hA (KX8_init l D cy KK VV) ⟨uw_23, uw_24, uw_1, uw_25⟩ rfl rfl rfl hdi_8 ⟨rfl, rfl⟩ rfl rfl dL_law_4 (by decide) (fun H locs ad P V had hE hW => ?_)
  have hW : wd D (dn cy LY_X8 ad P V I00 (fun _ _ => 0) A00 B00) (LAf s) s.heap H locs := hW
  refine lv_astore_n (lv' := [(1, .ref q), (0, .ref b)]) C0.1 C0.2.1 dL_law_7 rfl hl (by decide) rfl (fun ls hl => ?_)
  refine n_obj (ci := 9) (ty := tyX9) (fs := [.int 0, .int 0, .null, .int 0, .int 0, .int 0, .int 0, .long 0, .int 0, .int 0, .null, .null, .null, .null, .null, .null, .null, .null, .null, .null, .null, .null, .null, .null, .int 0, .int 0, .null, .null, .null, .null, .null, .null, .null, .null, .null, .null, .null, .null, .int 0, .long 0, .null, .null, .null, .null, .null, .null, .null, .null, .null, .null, .null, .null, .null, .int 0, .int 0, .int 0, .null, .null, .int 0, .int 0, .int 0, .long 0]) C0 hK hW hA aw_X9 tyX9_ok lz_1045 lz_1046 uw_14 rfl (by decide) (by decide) (by decide) dL_law_8 (fun q9 H hW => ?_)
  refine lv_dup C0.1 C0.2.1 dL_law_11 rfl ?_
  refine n_call C0 hK hNs hl.1 hW hA (KX9_init l D cy) ⟨uw_1047, uw_1048, uw_14, uw_1049⟩ rfl rfl rfl hdi_9 ⟨rfl, rfl⟩ rfl rfl dL_law_12 (by decide) (fun H locs ad9 P9 V9 had9 _ hW => ?_)
  have hW : wd D (dn cy LY_X8 ad P V I00 (fun _ _ => 0) A00 B00 ++ dn cy LY_X9 ad9 P9 V9 I90 (gp (fun _ _ => 0) []) A90 B90) (LAf s) s.heap H locs := hW
  refine lv_astore_n (lv' := [(2, .ref q9), (1, .ref q), (0, .ref b)]) C0.1 C0.2.1 dL_law_15 rfl hl (by decide) rfl (fun ls hl => ?_)
  refine lv_iconst (v := 1) C0.1 C0.2.1 dL_law_16 kI_1 ?_
  refine n_arr 2 (at_ := .long) (ty := .long) (N := 1) (a0 := (1, .inr (.inl (fun _ => 0)))) C0 hK hW hA lz_126 rfl (fun C h => by cases h) rfl (fun cA => rfl) (by decide) (by decide) rfl (by decide) (by decide) dL_law_17 (fun ao H hW => ?_)
  refine lv_astore_n (lv' := [(3, .ref ao), (2, .ref q9), (1, .ref q), (0, .ref b)]) C0.1 C0.2.1 dL_law_19 rfl hl (by decide) rfl (fun ls hl => ?_)
  refine lv_iconst (v := 0) C0.1 C0.2.1 dL_law_20 kI_0 ?_
  refine lv_istore (lv' := [(4, .int 0), (3, .ref ao), (2, .ref q9), (1, .ref q), (0, .ref b)]) C0.1 C0.2.1 dL_law_21 hl (by decide) rfl (fun ls hl => ?_)
  rw [List.append_assoc] at hW
  have hW := wd_mid hW
  exact law_loop C 513 0 rfl (by decide) (lv_sub hl [4, 3, 2, 1, 0] rfl) ⟨_, _, _, ⟨ad, P, V, I00, _, A00, B00, ad9, P9, V9, I90, _, A90, B90, rfl, rfl, had, had9, hE.1, hE.2, Rel_00⟩, hW⟩
