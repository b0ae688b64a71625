/-! what holds at the law's entry -/
theorem tb_ {w : Cond} (i : Nat) (h : tables_1[i]? = some w) : w ∈ lw_tbl := List.mem_append_right _ (List.mem_of_getElem? h)
theorem k_arr {s : State} {args : Array Value} {ty : FieldType} (h : (Cond.arrayClass ty).before args s = true) (hp : ∀ C, ty ≠ .object C) : ∃ cA, ArrOfT s cA ty ∧ va_RA s cA ty := by
  obtain ⟨cA, kA, comp, f1, f2, f3⟩ := Cond.arrayClass_spec h
  refine ⟨cA, fun N z => ⟨(fun k h => by cases h), kA, f2, comp, f3⟩, ?_⟩
  cases ty with
  | object C => exact absurd rfl (hp C)
  | _ => exact f1
theorem k_arq {s : State} {args : Array Value} {C : String} (h : (Cond.arrayOver (.object C)).before args s = true) : ∃ cA, ArrOfT s cA (.object C) ∧ va_RA s cA (.object C) := by
  obtain ⟨comp, cA, kA, f1, f2, f3, f4, f5⟩ := Cond.arrayOver_spec h
  exact ⟨cA, fun N z => ⟨(fun k h => by cases h), kA, f3, comp, f4⟩, kA, comp, f3, f4, f1, f5⟩
theorem k_all {s : State} {args : Array Value} (hts : ∀ w ∈ lw_tbl, w.before args s = true) : ∃ (D : va_G) (cy : Nat → ClassId), va_K D vwCl (tyG cy) s := by
  have hu : ∀ w ∈ Uw, w.before args s = true := fun w hw => hts w (Uw_tbl hw)
  obtain ⟨c0, i0, k0⟩ := u_known (C := RX0) (T := TX0) (N := 5) (n := 5) hu aw_X0 (hts _ (tb_ 160 (by decide +kernel)))
  obtain ⟨c1, i1, k1⟩ := u_known (C := RX1) (T := TX1) (N := 5) (n := 5) hu aw_X1 (hts _ (tb_ 228 (by decide +kernel)))
  obtain ⟨c2, i2, k2⟩ := u_known (C := RX2) (T := TX2) (N := 8) (n := 8) hu aw_X2 (hts _ (tb_ 186 (by decide +kernel)))
  obtain ⟨c3, i3, k3⟩ := u_known (C := RX3) (T := TX3) (N := 4) (n := 4) hu aw_X3 (hts _ (tb_ 361 (by decide +kernel)))
  obtain ⟨c4, i4, k4⟩ := u_known (C := RX4) (T := TX4) (N := 5) (n := 5) hu aw_X4 (hts _ (tb_ 128 (by decide +kernel)))
  obtain ⟨c5, i5, k5⟩ := u_known (C := RX5) (T := TX5) (N := 10) (n := 10) hu aw_X5 (hts _ (tb_ 30 (by decide +kernel)))
  obtain ⟨c6, i6, k6⟩ := u_known (C := RX6) (T := TX6) (N := 18) (n := 18) hu aw_X6 (hts _ (tb_ 222 (by decide +kernel)))
  obtain ⟨c7, i7, k7⟩ := u_known (C := RX7) (T := TX7) (N := 4) (n := 4) hu aw_X7 (hts _ (tb_ 342 (by decide +kernel)))
  obtain ⟨c8, i8, k8⟩ := u_known (C := RX8) (T := TX8) (N := 14) (n := 14) hu aw_X8 (hts _ (tb_ 22 (by decide +kernel)))
  obtain ⟨c9, i9, k9⟩ := u_known (C := RX9) (T := TX9) (N := 62) (n := 62) hu aw_X9 (hts _ (tb_ 1046 (by decide +kernel)))
  obtain ⟨y0, z0⟩ := k_arr (ty := .byte) (hts _ (tb_ 125 (by decide +kernel))) (fun C h => by cases h)
  obtain ⟨y1, z1⟩ := k_arr (ty := .int) (hts _ (tb_ 158 (by decide +kernel))) (fun C h => by cases h)
  obtain ⟨y2, z2⟩ := k_arr (ty := .long) (hts _ (tb_ 126 (by decide +kernel))) (fun C h => by cases h)
  obtain ⟨y3, z3⟩ := k_arr (ty := .boolean) (hts _ (tb_ 184 (by decide +kernel))) (fun C h => by cases h)
  obtain ⟨y4, z4⟩ := k_arq (C := "CoalHoles$Mark") (hts _ (tb_ 219 (by decide +kernel)))
  obtain ⟨y5, z5⟩ := k_arq (C := "CoalHoles$State") (hts _ (tb_ 220 (by decide +kernel)))
  refine ⟨(fun k => match k with | 0 => c0 | 1 => c1 | 2 => c2 | 3 => c3 | 4 => c4 | 5 => c5 | 6 => c6 | 7 => c7 | 8 => c8 | _ => c9, fun k => match k with | 0 => i0 | 1 => i1 | 2 => i2 | 3 => i3 | 4 => i4 | 5 => i5 | 6 => i6 | 7 => i7 | 8 => i8 | _ => i9), fun k => match k with | 0 => y0 | 1 => y1 | 2 => y2 | 3 => y3 | 4 => y4 | _ => y5, fun k q hq => ?_, fun k q hq => ?_⟩
  · match k, hq with
    | 0, hq => cases hq; exact k0
    | 1, hq => cases hq; exact k1
    | 2, hq => cases hq; exact k2
    | 3, hq => cases hq; exact k3
    | 4, hq => cases hq; exact k4
    | 5, hq => cases hq; exact k5
    | 6, hq => cases hq; exact k6
    | 7, hq => cases hq; exact k7
    | 8, hq => cases hq; exact k8
    | 9, hq => cases hq; exact k9
    | k + 10, hq => exact absurd hq (by simp [vwCl])
  · match k, hq with
    | 0, hq => cases hq; exact z0
    | 1, hq => cases hq; exact z1
    | 2, hq => cases hq; exact z2
    | 3, hq => cases hq; exact z3
    | 4, hq => cases hq; exact z4
    | 5, hq => cases hq; exact z5
    | k + 6, hq => exact absurd hq (by simp [tyG])
theorem k_X {s : State} {args : Array Value} (hts : ∀ w ∈ lw_tbl, w.before args s = true) : XWs s ∧ AO2 s ∧ NWs s :=
  ⟨⟨va_Nw.of rfl (hts _ (tb_ 984 (by decide +kernel))), va_Nw.of rfl (hts _ (tb_ 986 (by decide +kernel))), va_Nw.of rfl (hts _ (tb_ 988 (by decide +kernel))), va_Nw.of rfl (hts _ (tb_ 983 (by decide +kernel)))⟩, ⟨va_AO.of (hts _ (tb_ 219 (by decide +kernel))), va_AO.of (hts _ (tb_ 220 (by decide +kernel)))⟩, NWs.of hts⟩
theorem LAf_no {s : State} : ∀ a : Nat, a < s.heap.size → ¬ LAf s a := fun a h q => absurd h (Nat.not_lt.mpr q)
theorem k_Z {s : State} {args : Array Value} (hts : ∀ w ∈ lw_tbl, w.before args s = true) (hg : (Jvm.Cond.and given_1 narrow_1).before args s = true) : ZSs (LAf s) s s.heap := by
  have hs := flat_of_before _ hg
  exact ⟨vx_Zqof (hts _ (tb_ 1008 (by decide +kernel))) (hts _ (tb_ 17 (by decide +kernel))) (hs _ (by decide +kernel)) LAf_no, vx_Zqof (hts _ (tb_ 1010 (by decide +kernel))) (hts _ (tb_ 17 (by decide +kernel))) (hs _ (by decide +kernel)) LAf_no⟩
abbrev tS_ : Term := .string "CoalHoles$Tape" 19
theorem k_el : ∀ j : Nat, j < 133 → (Cond.eq (.elem (.field tS_ "java/lang/String" "value" "[B") (.int (Int32.ofNat j))) (.int (wBy.getD j 0))) ∈ flatC (Jvm.Cond.and given_1 narrow_1) := by decide +kernel
theorem k_S {s : State} {args : Array Value} (hts : ∀ w ∈ lw_tbl, w.before args s = true) (hg : (Jvm.Cond.and given_1 narrow_1).before args s = true) : ∃ K V, SX K V (LAf s) s s.heap := by
  have hs := flat_of_before _ hg
  have hex : (Cond.exactly tS_ "java/lang/String").before args s = true := hs _ (by decide +kernel)
  have hco : (Cond.eq (.field tS_ "java/lang/String" "coder" "B") (.int 0)).before args s = true := hs _ (by decide +kernel)
  have har : (Cond.arrayOf (.field tS_ "java/lang/String" "value" "[B") .byte).before args s = true := hs _ (by decide +kernel)
  have hle : (Cond.eq (.length (.field tS_ "java/lang/String" "value" "[B")) (.int (Int32.ofNat 133))).before args s = true := hs _ (by decide +kernel)
  obtain ⟨a, c, cA, kA, q1, q2, q3, q4, q5, q6, -⟩ := Cond.exactly_spec (args := args) (first := s) (o := none) (s := s) (idx := []) (t := tS_) (cls := "java/lang/String") hex
  obtain ⟨t, ht, hT⟩ := va_Tof (f := fun j => .int (wBy.getD j 0)) (A := LAf s) (N := 133) (by decide) har (va_eqt hle) (fun j hj => va_eqt (hs _ (k_el j hj))) LAf_no
  have hq : (Cond.eq (.static "java/lang/String" "COMPACT_STRINGS" "Z") (.int 1)).before args s = true := hs _ (by decide +kernel)
  have hf : (Cond.isRef (.static "jdk/internal/util/Preconditions" "SIOOBE_FORMATTER" "Ljava/util/function/BiFunction;")).before args s = true := hs _ (by decide +kernel)
  exact ⟨a, t, va_Oof hex q1 LAf_no, vk_OFof q1 (va_eqt hco) LAf_no, vk_OFof q1 ht LAf_no, hT, vk_R.of (hts _ (tb_ 35 (by decide +kernel))) q1, va_Zof (hts _ (tb_ 45 (by decide +kernel))) (hts _ (tb_ 3 (by decide +kernel))) (va_eqt hq) LAf_no, va_Zqof (hts _ (tb_ 61 (by decide +kernel))) (hts _ (tb_ 5 (by decide +kernel))) hf LAf_no⟩
