/-! the class's rests where it throws: NoSuchElementException, made and thrown -/
def nsE : String := "java/util/NoSuchElementException"
def nsN : List String := ["java/lang/RuntimeException", "java/lang/Exception"]
def nsB : List Cond := [.declares ⟨"java/lang/RuntimeException", "<init>", "()V"⟩, .declares ⟨"java/lang/Exception", "<init>", "()V"⟩, .declares ⟨"java/lang/Throwable", "<init>", "()V"⟩, .castable "java/util/NoSuchElementException" "java/util/NoSuchElementException"]
def XWs (U : State) : Prop := va_Nw (.declares ⟨"java/lang/RuntimeException", "<init>", "()V"⟩) U ∧ va_Nw (.declares ⟨"java/lang/Exception", "<init>", "()V"⟩) U ∧ va_Nw (.declares ⟨"java/lang/Throwable", "<init>", "()V"⟩) U ∧ va_Nw (.castable "java/util/NoSuchElementException" "java/util/NoSuchElementException") U
theorem XWs.same {s U : State} (h : XWs s) (hv : s.vm = U.vm) : XWs U := ⟨va_Nw.same rfl hv h.1, va_Nw.same rfl hv h.2.1, va_Nw.same rfl hv h.2.2.1, va_Nw.same rfl hv h.2.2.2⟩
theorem XWs.warm {s U : State} (h : XWs s) (hW : s.WarmedH U.vm) : XWs U := ⟨va_Nw.warmD hW h.1, va_Nw.warmD hW h.2.1, va_Nw.warmD hW h.2.2.1, va_Nw.warmC hW h.2.2.2⟩
def ZSs (A : Nat → Prop) (U : State) (H : Heap) : Prop := vx_Zq Bundle.tN "UNASSIGNED_STACK" Bundle.steD A U H ∧ vx_Zq Bundle.tN "SUPPRESSED_SENTINEL" Bundle.listD A U H
theorem ns_good : ∀ w ∈ (vx_at0 "CoalHoles" 270 nsE nsN).filter goodWord, w ∈ Uw := fun w hw => by
  have h : (vx_at0 "CoalHoles" 270 nsE nsN).filter goodWord = [17, 1003, 1012, 1014, 1017, 1019, 1004, 1005, 27, 28, 1006, 1011, 1015, 1031, 993, 1032, 995, 1033, 997, 1007, 1009, 999, 1021, 1022, 1023, 1024, 1024, 1025, 1026, 1027, 1027, 1028, 1029, 1004, 1020, 982, 990, 991, 992, 994, 996, 998, 1002, 1001, 1000].filterMap (fun i => tables_1[i]?) := by decide +kernel
  have hg := (List.mem_filter.mp hw).2
  rw [h] at hw
  obtain ⟨i, -, hi⟩ := List.mem_filterMap.mp hw
  exact Uw_of i hi hg
theorem ns_rest : (vx_at0 "CoalHoles" 270 nsE nsN).filter (fun w => !goodWord w) = nsB := by decide +kernel
theorem ns_at {args : Array Value} {s : State} (hU : ∀ w ∈ Uw, w.before args s = true) (hX : XWs s) : ∀ w ∈ vx_at0 "CoalHoles" 270 nsE nsN, w.before args s = true :=
  vx_hat (B := nsB) (fun w hw => hU w (ns_good w hw)) (fun w hw => by rw [ns_rest] at hw; exact hw) (vx_c (va_Nw.use rfl hX.1) (vx_c (va_Nw.use rfl hX.2.1) (vx_c (va_Nw.use rfl hX.2.2.1) (vx_c (va_Nw.use rfl hX.2.2.2) vx_n))))
theorem ns_ot : ∀ w ∈ Cond.classLink "CoalHoles" 268 nsE :: Cond.initialized nsE :: vx_at0 "CoalHoles" 270 nsE nsN, vx_ot w = true := by
  have h : (Cond.classLink "CoalHoles" 268 nsE :: Cond.initialized nsE :: vx_at0 "CoalHoles" 270 nsE nsN).all vx_ot = true := by decide +kernel
  exact fun w hw => List.all_eq_true.mp h w hw
def PT (D : va_G) (cy : Nat → ClassId) (w : va_W) (avs : List Value) (sz : Nat) : Array Value → State → Prop := va_Pc avs (fun U => U.heap.size = sz ∧ va_P D vwCl w U.heap ∧ va_K D vwCl (tyG cy) U ∧ va_D (fun _ => True) w ∧ NWs U ∧ XWs U ∧ ZSs (va_A w sz) U U.heap)
def XT (D : va_G) (cy : Nat → ClassId) (w : va_W) (Af : Nat → Prop) : String → State → State → Prop := fun E st t => E = nsE ∧ va_P D vwCl w t.heap ∧ va_K D vwCl (tyG cy) t ∧ va_F Af st t
def TG (l : Launch) (y : MethodName) (cc : ByteArray) (nL : Nat) (ret : Option FieldType) (rm : Room) (D : va_G) (cy : Nat → ClassId) (w : va_W) (avs : List Value) : Prop :=
  ∀ sz : Nat, vx_Met l y (Cond.code y cc nL ret :: Uw) rm (PT D cy w avs sz) (fun _ _ _ _ => False) (XT D cy w (va_A w sz)) 1 6 (va_A w sz)
abbrev TQ (below : List Frame) (D : va_G) (cy : Nat → ClassId) (w : va_W) (Af : Nat → Prop) (args : Array Value) (s : State) : State → Prop := vx_MQ below (fun _ _ _ _ => False) (XT D cy w Af) args s 1 6 Af
theorem TG.of {l : Launch} {y : MethodName} {cc : ByteArray} {nL : Nat} {ret : Option FieldType} {rm : Room} {D : va_G} {cy : Nat → ClassId} {w : va_W} {avs : List Value} {own : String}
    (hy : plainName y.cls = true) (ho : y.cls = own) (hn : Nat.ble (lg_sl avs).length nL = true)
    (body : ∀ (p : Program) (e : Env) (s : State) (m : MethodId) (below : List Frame) (meth : Method) (c : Code) (ls : Array Slot) (Af : Nat → Prop), CX p s m avs.toArray meth c cc nL ret own → va_K D vwCl (tyG cy) s → NWs s → XWs s → ZSs Af s s.heap → (∀ x ∈ c.exceptionTable.toList, False) → (∀ q, s.heap.size ≤ q → Af q) → wd D w Af s.heap s.heap [] → lv_has ls nL (lv_args 0 avs) →
      W p l e rm s m avs.toArray below meth c s.heap [] 0 0 (TQ below D cy w Af avs.toArray s) (F0 m 0 ls [])) : TG l y cc nL ret rm D cy w avs := by
  intro sz
  refine vx_ofW (cc := cc) (maxL := nL) (ret := ret) hy rfl ?_
  intro p e s m args below meth c s₁ B0 hml hex hv
  obtain ⟨rfl, hsz, hP, hK, hD0, hN, hX, hZ⟩ := hv
  subst hsz
  have hts := atoms_spec (ws := Cond.code y cc nL ret :: Uw) B0.pre
  have hown : s.vm.findClass own = some m.cls := by rw [← ho]; exact findClass_of_methodNamed B0.named
  have hD := hD0.self (sz := s.heap.size)
  have hl := lv_entry avs (n := nL) (Nat.le_of_ble_eq_true hn)
  show W p l e rm s m avs.toArray below meth c s.heap [] 0 0 _ (entryFrame m avs.toArray nL)
  rw [lg_entry_eq]
  generalize (lg_sl avs ++ List.replicate (nL - (lg_sl avs).length) Slot.unset).toArray = ls at hl ⊢
  exact body p e s m below meth c ls (va_A w s.heap.size) ⟨B0.exec, B0.bytes, B0.returns, hml, hown, fun w hw => hts w (List.mem_cons_of_mem _ hw), B0.notSynchronized⟩ hK hN hX hZ hex (fun q h => Or.inr h) ⟨hP, hD, va_S.rf⟩ hl
theorem ns_link : Cond.classLink "CoalHoles" 268 nsE ∈ Uw := by
  have h : (Uw.any (fun w => decide (w = Cond.classLink "CoalHoles" 268 nsE))) = true := by decide +kernel
  obtain ⟨w, hw, e⟩ := List.any_eq_true.mp h
  rw [← of_decide_eq_true e]; exact hw
section TE
variable {p : Program} {l : Launch} {e : Env} {R : Room} {s : State} {m : MethodId} {args : Array Value} {below : List Frame} {meth : Method} {c : Code} {H : Heap} {locs : List Loc}
variable {cc : ByteArray} {nL pc : Nat} {ret : Option FieldType} {ls : Array Slot} {D : va_G} {Af : Nat → Prop} {cy : Nat → ClassId} {w : va_W}
theorem thr_end (h0 : l.stackTraces = false) (C0 : CX p s m args meth c cc nL ret RX8) (hK : va_K D vwCl (tyG cy) s) (hX : XWs s) (hZ : ZSs Af s s.heap) (hex : ∀ x ∈ c.exceptionTable.toList, False) (hW : wd D w Af s.heap H locs) (hsz : ls.size = nL) (hR : Nat.ble 6 R.frames = true ∧ Nat.ble 81 R.locals = true ∧ Nat.ble 1 R.cells = true ∧ Nat.ble 6 R.slots = true)
    (d0 : decode cc pc = .ok (.new 268, 3)) (d3 : decode cc (pc + 3) = .ok (.dup, 1)) (d4 : decode cc (pc + 4) = .ok (.invokespecial 270, 3)) (d7 : decode cc (pc + 7) = .ok (.athrow, 1)) :
    W p l e R s m args below meth c H locs 0 0 (TQ below D cy w Af args s) (F0 m pc ls []) := by
  obtain ⟨c1, c2, c3, c4, c5, c6, c7⟩ := C0
  have r1 := Nat.le_of_ble_eq_true hR.1
  have r2 := Nat.le_of_ble_eq_true hR.2.1
  have r3 := Nat.le_of_ble_eq_true hR.2.2.1
  have r4 := Nat.le_of_ble_eq_true hR.2.2.2
  refine vx_throw0 (own := "CoalHoles") (cls := nsE) (names := nsN) (ik := 268) (ic := 270) (A := Af) c1 c2 h0 c5 (by decide) (by decide) (c6 _ ns_link) (c6 _ uw_20) (ns_at c6 hX) ns_ot hZ.1 hZ.2 hW.2.2 (hsz.trans c4.symm) d0 d3 d4 d7 (fun x hx => absurd (hex x hx) id) (by show 2 + 3 < R.frames; omega) (by show 0 + (13 * (2 + 1) + 42) ≤ R.locals; omega) (by omega) (by omega) c7 (fun t ha hsz2 hq => ⟨rfl, ?_, va_K.moved ha hK, ?_⟩) hW.2.2.2.2 (by omega) (by omega)
  · exact va_P.kept hW.1 (fun k q hk => hq q.1 (hW.1 k q hk).lt)
  · exact ⟨Nat.le_trans hW.2.2.1 hsz2, fun q h1 h2 => by rw [hq q (Nat.lt_of_lt_of_le h1 hW.2.2.1)]; exact hW.2.2.2.1 q h1 h2⟩
end TE
