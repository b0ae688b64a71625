/-! the law's own body: what it stands on, how it reads its script -/
def LAf (s : State) : Nat → Prop := fun q => s.heap.size ≤ q
abbrev lvL (b ax am ao : Nat) (i : Int32) : List (Nat × Value) := [(0, .ref b), (1, .ref ax), (2, .ref am), (3, .ref ao), (4, .int i)]
def LCx (p : Program) (l : Launch) (s : State) (m : MethodId) (meth : Method) (c : Code) (b L : Nat) (xs : Nat → Int32) (D : va_G) (cy : Nat → ClassId) : Prop :=
  CX p s m #[.ref b] meth c cL_law 7 ret RL ∧ va_K D vwCl (tyG cy) s ∧ NWs s ∧ XWs s ∧ ZSs (LAf s) s s.heap ∧ va_X b L xs s s.heap ∧ b < s.heap.size ∧ l.stackTraces = false ∧ L ≤ 3584
def LW (D : va_G) (cy : Nat → ClassId) (s : State) (N ax am ao : Nat) (H : Heap) (locs : List Loc) : Prop := ∃ (wx wm : va_W) (bo : Nat → Int64), LI cy N ax am wx wm ∧ wd D (wx ++ ([(ao, .inl (cy 2, 1, .inr (.inl bo)))] ++ wm)) (LAf s) s.heap H locs
def lg2 (x y : Int32) : Int64 := (x.toInt64 <<< ((32 : Int32).toInt64 &&& 63)) ||| (y.toInt64 &&& 4294967295)
def zb (x : Int32) : Bool := decide (x ≠ 0)
theorem wd_m {D : va_G} {Af : Nat → Prop} {H0 H : Heap} {locs : List Loc} {x o m : va_W} (hW : wd D (x ++ (o ++ m)) Af H0 H locs) : wd D (m ++ (x ++ o)) Af H0 H locs := by
  rw [← List.append_assoc] at hW
  exact wd_swap hW
theorem wd_b {D : va_G} {Af : Nat → Prop} {H0 H : Heap} {locs : List Loc} {x o m : va_W} (hW : wd D (m ++ (x ++ o)) Af H0 H locs) : wd D (x ++ (o ++ m)) Af H0 H locs := by
  have h := wd_swap hW
  rw [List.append_assoc] at h
  exact h
theorem wd_a {D : va_G} {Af : Nat → Prop} {H0 H : Heap} {locs : List Loc} {x o m : va_W} (hW : wd D (x ++ (o ++ m)) Af H0 H locs) : wd D ((x ++ o) ++ m) Af H0 H locs := by
  rw [List.append_assoc]; exact hW
theorem wd_c {D : va_G} {Af : Nat → Prop} {H0 H : Heap} {locs : List Loc} {x o m : va_W} (hW : wd D ((x ++ o) ++ m) Af H0 H locs) : wd D (x ++ (o ++ m)) Af H0 H locs := by
  rw [List.append_assoc] at hW; exact hW
section LA
variable {p : Program} {l : Launch} {e : Env} {R : Room} {s : State} {m : MethodId} {args : Array Value} {below : List Frame} {meth : Method} {c : Code} {H : Heap} {locs : List Loc} {cells slots : Nat} {Q : State → Prop}
variable {pc j b L : Nat} {xs : Nat → Int32} {ls : Array Slot} {rest st0 : List Value} {D : va_G} {cy : Nat → ClassId}
theorem la_rd {k : Nat} (C : LCx p l s m meth c b L xs D cy) (hS : va_S (LAf s) s.heap H locs) (hj : j + 7 ≤ L) (hk : k < 7) (d5 : decode cL_law pc = .ok (.iaload, 1)) (kk : W p l e R s m args below meth c H locs cells slots Q (F0 m (pc + 1) ls (.int (xs (j + k)) :: rest))) : W p l e R s m args below meth c H locs cells slots Q (F0 m pc ls (.int (nI j + nI k) :: .ref b :: rest)) := by
  have hL := C.2.2.2.2.2.2.2.2
  have e1 : (nI (j + k)).toNatClampNeg = j + k := nC (by omega)
  rw [nI_add]
  refine va_sld C.1.1 C.1.2.1 C.2.2.2.2.2.1 C.2.2.2.2.2.2.1 (Nat.not_le.mpr C.2.2.2.2.2.2.1) hS (fun h => ?_) d5 ?_
  · rcases h with h | h
    · exact nI_nlt (a := j + k) (b := 0) (Nat.zero_le _) (by omega) h
    · rw [e1] at h; omega
  · rw [e1]; exact kk
theorem la_arg (k : Nat) {n : Int} (C : LCx p l s m meth c b L xs D cy) (hS : va_S (LAf s) s.heap H locs) (h0 : ls[0]? = some (.val (.ref b))) (h4 : ls[4]? = some (.val (.int (nI j)))) (hj : j + 7 ≤ L) (hk : k < 7) (hn : Int32.ofInt n = nI k) (d0 : decode cL_law pc = .ok (.aload_n 0, 1)) (d1 : decode cL_law (pc + 1) = .ok (.iload 4, 2)) (d3 : decode cL_law (pc + 3) = .ok (.iconst n, 1)) (d4 : decode cL_law (pc + 4) = .ok (.iadd, 1)) (d5 : decode cL_law (pc + 5) = .ok (.iaload, 1)) (kk : W p l e R s m args below meth c H locs cells slots Q (F0 m (pc + 6) ls (.int (xs (j + k)) :: rest))) : W p l e R s m args below meth c H locs cells slots Q (F0 m pc ls rest) := by
  refine lv_aload_n C.1.1 C.1.2.1 d0 rfl h0 ?_
  refine lv_iload C.1.1 C.1.2.1 d1 h4 ?_
  refine lv_iconst C.1.1 C.1.2.1 d3 hn ?_
  refine lv_iadd C.1.1 C.1.2.1 d4 ?_
  exact la_rd C hS hj hk d5 kk
theorem la_arg6 {n : Int} (C : LCx p l s m meth c b L xs D cy) (hS : va_S (LAf s) s.heap H locs) (h0 : ls[0]? = some (.val (.ref b))) (h4 : ls[4]? = some (.val (.int (nI j)))) (hj : j + 7 ≤ L) (hn : (Int8.ofInt n).toInt32 = nI 6) (d0 : decode cL_law pc = .ok (.aload_n 0, 1)) (d1 : decode cL_law (pc + 1) = .ok (.iload 4, 2)) (d3 : decode cL_law (pc + 3) = .ok (.bipush n, 2)) (d4 : decode cL_law (pc + 5) = .ok (.iadd, 1)) (d5 : decode cL_law (pc + 6) = .ok (.iaload, 1)) (kk : W p l e R s m args below meth c H locs cells slots Q (F0 m (pc + 7) ls (.int (xs (j + 6)) :: rest))) : W p l e R s m args below meth c H locs cells slots Q (F0 m pc ls rest) := by
  refine lv_aload_n C.1.1 C.1.2.1 d0 rfl h0 ?_
  refine lv_iload C.1.1 C.1.2.1 d1 h4 ?_
  refine lv_bipush C.1.1 C.1.2.1 d3 hn ?_
  refine lv_iadd C.1.1 C.1.2.1 d4 ?_
  exact la_rd C hS hj (by omega) d5 kk
/-- the upper half of a long -/
theorem la_hi {x : Int32} {n : Int} (C : LCx p l s m meth c b L xs D cy) (hn : (Int8.ofInt n).toInt32 = 32) (d0 : decode cL_law pc = .ok (.i2l, 1)) (d1 : decode cL_law (pc + 1) = .ok (.bipush n, 2)) (d3 : decode cL_law (pc + 3) = .ok (.lshl, 1)) (kk : W p l e R s m args below meth c H locs cells slots Q (F0 m (pc + 4) ls (.long (x.toInt64 <<< ((32 : Int32).toInt64 &&& 63)) :: rest))) : W p l e R s m args below meth c H locs cells slots Q (F0 m pc ls (.int x :: rest)) := by
  refine lv_i2l C.1.1 C.1.2.1 d0 rfl ?_
  refine lv_bipush C.1.1 C.1.2.1 d1 hn ?_
  exact lv_lshl C.1.1 C.1.2.1 d3 rfl kk
/-- the lower half, and both together -/
theorem la_lo {x y : Int32} (C : LCx p l s m meth c b L xs D cy) (d0 : decode cL_law pc = .ok (.i2l, 1)) (d1 : decode cL_law (pc + 1) = .ok (.ldc2_w 19, 3)) (d4 : decode cL_law (pc + 4) = .ok (.land, 1)) (d5 : decode cL_law (pc + 5) = .ok (.lor, 1)) (kk : W p l e R s m #[.ref b] below meth c H locs cells slots Q (F0 m (pc + 6) ls (.long (lg2 x y) :: rest))) : W p l e R s m #[.ref b] below meth c H locs cells slots Q (F0 m pc ls (.int y :: .long (x.toInt64 <<< ((32 : Int32).toInt64 &&& 63)) :: rest)) := by
  refine lv_i2l C.1.1 C.1.2.1 d0 rfl ?_
  refine lv_ldc2 C.1.1 C.1.2.1 C.1.2.2.2.2.1 (C.1.2.2.2.2.2.1 _ uw_1664) d1 ?_
  refine lv_land C.1.1 C.1.2.1 d4 ?_
  exact lv_lor C.1.1 C.1.2.1 d5 kk
/-- an int that is told whether it isn't 0 -/
theorem la_bool {x : Int32} {n1 n0 : Int} (C : LCx p l s m meth c b L xs D cy) (h1 : Int32.ofInt n1 = 1) (h2 : Int32.ofInt n0 = 0) (d0 : decode cL_law pc = .ok (.ifCond .eq 7, 3)) (d3 : decode cL_law (pc + 3) = .ok (.iconst n1, 1)) (d4 : decode cL_law (pc + 4) = .ok (.goto 4, 3)) (d7 : decode cL_law (pc + 7) = .ok (.iconst n0, 1)) (kk : W p l e R s m args below meth c H locs cells slots Q (F0 m (pc + 8) ls (.int (nI (b2 (zb x))) :: rest))) : W p l e R s m args below meth c H locs cells slots Q (F0 m pc ls (.int x :: rest)) := by
  refine lv_if_eq (tgt := pc + 7) C.1.1 C.1.2.1 d0 (by omega) (fun h => ?_) (fun h => ?_)
  · refine lv_iconst C.1.1 C.1.2.1 d7 h2 ?_
    have : zb x = false := decide_eq_false (fun q => q h)
    rw [this] at kk
    exact kk
  · refine lv_iconst C.1.1 C.1.2.1 d3 h1 ?_
    refine lv_goto (tgt := pc + 8) C.1.1 C.1.2.1 d4 (by omega) ?_
    have : zb x = true := decide_eq_true h
    rw [this] at kk
    exact kk
/-- a call whose answer is an int -/
theorem c_VAi {Af : Nat → Prop} {H0 : Heap} {cc : ByteArray} {nL : Nat} {ret : Option FieldType} {own : String} {wc wc2 v : va_W} {r : Int32} {y : MethodName} {bytes : ByteArray} {maxL n idx ci b : Nat} {rety : Option FieldType} {rm : Room} {As : List Value} {q : vw_C} {fs : List Value} (C0 : CX p s m args meth c cc nL ret own) (hK : va_K D vwCl (tyG cy) s) (hN : NWs s) (hl : ls.size = nL) (hW : wd D (wc ++ v) Af H0 H locs) (hA : ∀ q, H0.size ≤ q → Af q)
    (hM : CG l y bytes maxL rety rm D cy wc (.ref b :: As) (some (.int r)) wc2) (hG : GoodIn Uw (wsV own idx q.1 y (Cond.code y bytes maxL rety :: Uw))) (hrc : rm.cells = 0) (hrs : rm.slots = 0)
    (hd : y.cls = q.1 ∧ y.cls ≠ "java/lang/invoke/MethodHandle" ∧ y.cls ≠ "java/lang/invoke/VarHandle" ∧ (parseMethodDescriptor y.desc).map (fun d => d.parameters.length) = some n) (hR : Nat.ble (rm.frames + 1) R.frames = true ∧ Nat.ble (8 + (maxL + 11) + rm.locals) R.locals = true)
    (hc : vwCl[ci]? = some q) (he : wc[0]? = some (b, .inr (ci, fs))) (hn : As.length = n) (hst : st0 = As.reverse ++ .ref b :: rest) (hrm : Nat.ble ((rest.map fun v => v.category).sum) 8 = true) (hdg : decode cc pc = .ok (.invokevirtual idx, 3)) (hcs : cells + 0 ≤ R.cells ∧ slots + 0 ≤ R.slots)
    (kk : ∀ (H : Heap) (locs : List Loc), wd D (wc2 ++ v) Af H0 H locs → W p l e R s m args below meth c H locs cells slots Q (F0 m (pc + 3) ls (.int r :: rest))) : W p l e R s m args below meth c H locs cells slots Q (F0 m pc ls st0) :=
  c_VA C0 hK hN hl hW hA hM hG hrc hrs hd hR hc he hn hst hrm hdg hcs kk
end LA
/-- what a case of the law goes on with -/
def LK (p : Program) (l : Launch) (e : Env) (s : State) (m : MethodId) (below : List Frame) (meth : Method) (c : Code) (cells slots : Nat) (b j N ax am ao : Nat) (D : va_G) (cy : Nat → ClassId) : Prop :=
  ∀ (H : Heap) (locs : List Loc) (ls : Array Slot), LW D cy s (N + 1) ax am ao H locs → lv_has ls 7 (lvL b ax am ao (nI j)) → W p l e room_1 s m #[.ref b] below meth c H locs (cells + 1) (slots + 6) (lw_Z below #[.ref b] s) (F0 m 1190 ls [])
