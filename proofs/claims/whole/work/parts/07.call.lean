/-! words of nest mates: they hold at every warmer state too -/
def isNest : Cond → Bool
  | .methodLinkNest .. => true
  | _ => false
def NWs (U : State) : Prop := ∀ w ∈ lw_tbl, isNest w = true → va_Nw w U
theorem NWs.warm {s U : State} (h : NWs s) (hW : s.WarmedH U.vm) : NWs U := fun w hw hn => by
  have h1 := h w hw hn
  cases w <;> first | (cases hn; done) | exact va_Nw.warmM hW h1
theorem NWs.same {s U : State} (h : NWs s) (hW : s.vm = U.vm) : NWs U := fun w hw hn => by
  have h1 := h w hw hn
  cases w <;> first | (cases hn; done) | exact va_Nw.same rfl hW h1
theorem NWs.of {s : State} {args : Array Value} (h : ∀ w ∈ lw_tbl, w.before args s = true) : NWs s := fun w hw hn => by
  have h1 := h w hw
  cases w <;> first | (cases hn; done) | exact va_Nw.of rfl h1
/-! contracts -/
def PG (D : va_G) (cy : Nat → ClassId) (w : va_W) (avs : List Value) (sz : Nat) : Array Value → State → Prop := va_Pc avs (fun U => U.heap.size = sz ∧ va_P D vwCl w U.heap ∧ va_K D vwCl (tyG cy) U ∧ va_D (fun _ => True) w ∧ NWs U)
def QG (D : va_G) (cy : Nat → ClassId) (w2 : va_W) (rv : Option Value) (Af : Nat → Prop) : Array Value → State → Outcome → State → Prop := fun _ st oc t =>
  oc = .returned rv ∧ va_P D vwCl w2 t.heap ∧ va_K D vwCl (tyG cy) t ∧ va_D Af w2 ∧ va_F Af st t
def CG (l : Launch) (y : MethodName) (cc : ByteArray) (nL : Nat) (ret : Option FieldType) (rm : Room) (D : va_G) (cy : Nat → ClassId) (w : va_W) (avs : List Value) (rv : Option Value) (w2 : va_W) : Prop :=
  ∀ sz : Nat, Met l y (Cond.code y cc nL ret :: Uw) rm (PG D cy w avs sz) (QG D cy w2 rv (va_A w sz)) 0 0 (va_A w sz)
abbrev ZQ (below : List Frame) (D : va_G) (cy : Nat → ClassId) (w2 : va_W) (rv : Option Value) (Af : Nat → Prop) (args : Array Value) (s : State) : State → Prop := MQ below (QG D cy w2 rv Af) args s 0 0 Af
theorem PG_blind {D : va_G} {cy : Nat → ClassId} {w : va_W} {avs : List Value} {sz : Nat} : FrameBlind (PG D cy w avs sz) := fun a U g mk q => by
  obtain ⟨q0, q1, qP, qK, qD, qN⟩ := q
  exact ⟨q0, q1, qP, va_K.moved (u := U) (U := U.calling g mk a) (Vm.Alike.refl U.vm) qK, qD, qN.same rfl⟩
theorem CG.of {l : Launch} {y : MethodName} {cc : ByteArray} {nL : Nat} {ret : Option FieldType} {rm : Room} {D : va_G} {cy : Nat → ClassId} {w : va_W} {avs : List Value} {rv : Option Value} {w2 : va_W} {own : String}
    (hy : plainName y.cls = true) (ho : y.cls = own) (hn : Nat.ble (lg_sl avs).length nL = true)
    (body : ∀ (p : Program) (e : Env) (s : State) (m : MethodId) (below : List Frame) (meth : Method) (c : Code) (ls : Array Slot) (Af : Nat → Prop), CX p s m avs.toArray meth c cc nL ret own → va_K D vwCl (tyG cy) s → NWs s → (∀ q, s.heap.size ≤ q → Af q) → wd D w Af s.heap s.heap [] → lv_has ls nL (lv_args 0 avs) →
      W p l e rm s m avs.toArray below meth c s.heap [] 0 0 (ZQ below D cy w2 rv Af avs.toArray s) (F0 m 0 ls [])) : CG l y cc nL ret rm D cy w avs rv w2 := by
  intro sz
  refine Met.ofW (cc := cc) (maxL := nL) (ret := ret) hy rfl ?_
  intro p e s m args below meth c s₁ B0 hml hv
  obtain ⟨rfl, hsz, hP, hK, hD0, hN⟩ := hv
  subst hsz
  have hts := atoms_spec (ws := Cond.code y cc nL ret :: Uw) B0.pre
  have hown : s.vm.findClass own = some m.cls := by rw [← ho]; exact findClass_of_methodNamed B0.named
  have hD := hD0.self (sz := s.heap.size)
  have hl := lv_entry avs (n := nL) (Nat.le_of_ble_eq_true hn)
  rw [lg_entry_eq]
  generalize (lg_sl avs ++ List.replicate (nL - (lg_sl avs).length) Slot.unset).toArray = ls at hl ⊢
  exact body p e s m below meth c ls (va_A w s.heap.size) ⟨B0.exec, B0.bytes, B0.returns, hml, hown, fun w hw => hts w (List.mem_cons_of_mem _ hw), B0.notSynchronized⟩ hK hN (fun q h => Or.inr h) ⟨hP, hD, va_S.rf⟩ hl
section RT
variable {p : Program} {l : Launch} {e : Env} {R : Room} {s : State} {m : MethodId} {args : Array Value} {below : List Frame} {meth : Method} {c : Code} {H : Heap} {locs : List Loc}
variable {cc : ByteArray} {nL pc : Nat} {ret : Option FieldType} {own : String} {ls : Array Slot} {rest : List Value} {D : va_G} {Af : Nat → Prop} {cy : Nat → ClassId} {w2 : va_W}
theorem QG_mk (hK : va_K D vwCl (tyG cy) s) (hW : wd D w2 Af s.heap H locs) {rv : Option Value} (t : State) (ht : t.heap = H) (hv : s.WarmedH t.vm) : QG D cy w2 rv Af args s (.returned rv) t :=
  ⟨rfl, by rw [ht]; exact hW.1, va_K.moved hv.alike hK, hW.2.1, hW.2.2.F ht⟩
theorem r_int (C0 : CX p s m args meth c cc nL (some .int) own) (hK : va_K D vwCl (tyG cy) s) (hW : wd D w2 Af s.heap H locs) {v : Int32} (hdg : decode cc pc = .ok (.ireturn, 1)) :
    W p l e R s m args below meth c H locs 0 0 (ZQ below D cy w2 (some (.int v)) Af args s) (F0 m pc ls [.int v]) :=
  W.iret C0.1 C0.2.1 C0.2.2.1 (fun t ht hv => QG_mk hK hW t ht hv) hW.2.2.2.2 hdg C0.2.2.2.2.2.2
theorem r_long (C0 : CX p s m args meth c cc nL (some .long) own) (hK : va_K D vwCl (tyG cy) s) (hW : wd D w2 Af s.heap H locs) {v : Int64} (hdg : decode cc pc = .ok (.lreturn, 1)) :
    W p l e R s m args below meth c H locs 0 0 (ZQ below D cy w2 (some (.long v)) Af args s) (F0 m pc ls [.long v]) :=
  W.lret C0.1 C0.2.1 C0.2.2.1 (fun t ht hv => QG_mk hK hW t ht hv) hW.2.2.2.2 hdg C0.2.2.2.2.2.2
theorem r_void (C0 : CX p s m args meth c cc nL none own) (hK : va_K D vwCl (tyG cy) s) (hW : wd D w2 Af s.heap H locs) (hdg : decode cc pc = .ok (.return_, 1)) :
    W p l e R s m args below meth c H locs 0 0 (ZQ below D cy w2 none Af args s) (F0 m pc ls []) :=
  W.vret C0.1 C0.2.1 C0.2.2.1 (fun t ht hv => QG_mk hK hW t ht hv) hW.2.2.2.2 hdg C0.2.2.2.2.2.2
/-- a boolean's return: the machine cuts it -/
theorem W_zretN {cells slots : Nat} {Qc : Array Value → State → Outcome → State → Prop} {free : Addr → Prop} {v v' : Int32} {ty : FieldType} (hexec : p.tables.exec = Jvm.exec) (hb : c.code = cc) (hr : meth.sig.returnType = some ty) (hn : narrow ty (.int v) = .int v')
    (hq : ∀ t : State, t.heap = H → s.WarmedH t.vm → Qc args s (.returned (some (.int v'))) t) (hf : ∀ q ∈ locs, free q.base) (hdg : decode cc pc = .ok (.ireturn, 1)) (hlocks : meth.locks = false) : W p l e R s m args below meth c H locs cells slots (MQ below Qc args s cells slots free) (F0 m pc ls [.int v]) := by
  intro T hT X
  obtain ⟨fs, hret, hrun, hended, hW, hframe⟩ := X.leave (v := some (.int v')) (hlocks := hlocks) (fun h => by rw [hr] at h; cases h)
  have hmeth' : T.vm.method? m = some meth := X.method'
  refine ⟨T.setFrames fs, ?_, .returned (some (.int v')), hrun, hended, hq _ hT hW, locs, ⟨⟨_, rfl⟩, hW, hframe⟩, hf⟩
  jvm_step X.here [X.here.top, hexec, hb, hdg, hmeth', hr, hn]
  (try refine ⟨rfl, ?_⟩); (try refine ⟨rfl, ?_⟩)
  first | (intro acts; rw [hret _ acts rfl rfl rfl]) | rw [hret _ _ rfl rfl rfl]
  exact Steps.refl _
theorem r_bool (C0 : CX p s m args meth c cc nL (some .boolean) own) (hK : va_K D vwCl (tyG cy) s) (hW : wd D w2 Af s.heap H locs) {v v' : Int32} (hn : narrow .boolean (.int v) = .int v') (hdg : decode cc pc = .ok (.ireturn, 1)) :
    W p l e R s m args below meth c H locs 0 0 (ZQ below D cy w2 (some (.int v')) Af args s) (F0 m pc ls [.int v]) :=
  W_zretN C0.1 C0.2.1 C0.2.2.1 hn (fun t ht hv => QG_mk hK hW t ht hv) hW.2.2.2.2 hdg C0.2.2.2.2.2.2
end RT
/-! calls -/
/-- the callee's cells wc among the caller's w (by pl), behind the call wc2 among w3 -/
def JN (pl : List Nat) (w wc wc2 w3 : va_W) : Prop :=
  (∀ (i : Nat) (x : Nat × va_E), wc[i]? = some x → ∃ k : Nat, pl[i]? = some k ∧ w[k]? = some x) ∧
  (∀ (k : Nat) (x : Nat × va_E), w3[k]? = some x → (∃ i : Nat, pl[i]? = some k ∧ wc2[i]? = some x) ∨ (k ∉ pl ∧ w[k]? = some x)) ∧
  (∀ (i j k : Nat), pl[i]? = some k → pl[j]? = some k → i = j) ∧
  (∀ (k : Nat), (w3[k]?).map (fun x => x.1) = (w[k]?).map (fun x => x.1))
theorem JN.sub {pl : List Nat} {w wc wc2 w3 : va_W} (h : JN pl w wc wc2 w3) {D : va_G} {H : Heap} (hP : va_P D vwCl w H) : va_P D vwCl wc H := fun i x hx => by
  obtain ⟨k, -, h2⟩ := h.1 i x hx
  exact hP k x h2
theorem JN.subD {pl : List Nat} {w wc wc2 w3 : va_W} (h : JN pl w wc wc2 w3) {Af : Nat → Prop} (hD : va_D Af w) : va_D Af wc := by
  refine ⟨fun i j a b ha hb hab => ?_, fun i x hx => ?_⟩
  · obtain ⟨k1, g1, g2⟩ := h.1 i a ha
    obtain ⟨k2, g3, g4⟩ := h.1 j b hb
    have := hD.1 k1 k2 a b g2 g4 hab
    subst this
    exact h.2.2.1 i j k1 g1 g3
  · obtain ⟨k, -, h2⟩ := h.1 i x hx
    exact hD.2 k x h2
theorem JN.free {pl : List Nat} {w wc wc2 w3 : va_W} (h : JN pl w wc wc2 w3) {Af : Nat → Prop} {H0 H : Heap} {locs : List Loc} (hD : va_D Af w) (hS : va_S Af H0 H locs) (hA : ∀ q, H0.size ≤ q → Af q) : ∀ q, va_A wc H.size q → Af q := by
  intro q hq
  rcases hq with ⟨i, e, hi⟩ | hq
  · obtain ⟨k, -, h2⟩ := h.1 i (q, e) hi
    exact hD.2 k (q, e) h2
  · exact hA q (Nat.le_trans hS.1 hq)
theorem JN.join {pl : List Nat} {w wc wc2 w3 : va_W} (h : JN pl w wc wc2 w3) {D : va_G} {Af : Nat → Prop} {H H1 : Heap} (hP : va_P D vwCl w H) (hD : va_D Af w) (hk : ∀ q : Nat, q < H.size → ¬ va_A wc H.size q → H1[q]? = H[q]?) (hP1 : va_P D vwCl wc2 H1) : va_P D vwCl w3 H1 ∧ va_D Af w3 := by
  have same : ∀ (k : Nat) (x : Nat × va_E), w3[k]? = some x → ∃ y, w[k]? = some y ∧ y.1 = x.1 := by
    intro k x hx
    have h1 := h.2.2.2 k
    rw [hx] at h1
    cases hw : w[k]? with
    | none => rw [hw] at h1; cases h1
    | some y => rw [hw] at h1; exact ⟨y, rfl, (Option.some.inj h1).symm⟩
  refine ⟨fun k x hx => ?_, fun i j a b ha hb hab => ?_, fun k x hx => ?_⟩
  · rcases h.2.1 k x hx with ⟨i, -, h2⟩ | ⟨hn, h2⟩
    · exact hP1 i x h2
    · refine (hP k x h2).kept (hk x.1 (hP k x h2).lt ?_)
      intro q
      rcases q with ⟨i, e, hi⟩ | q
      · obtain ⟨k2, g1, g2⟩ := h.1 i (x.1, e) hi
        have := hD.1 k k2 x (x.1, e) h2 g2 rfl
        subst this
        exact hn (List.mem_of_getElem? g1)
      · exact absurd (hP k x h2).lt (Nat.not_lt.mpr q)
  · obtain ⟨y1, g1, g2⟩ := same i a ha
    obtain ⟨y2, g3, g4⟩ := same j b hb
    exact hD.1 i j y1 y2 g1 g3 (by rw [g2, g4, hab])
  · obtain ⟨y, g1, g2⟩ := same k x hx
    rw [← g2]; exact hD.2 k y g1
section CL
variable {p : Program} {l : Launch} {e : Env} {R : Room} {s : State} {m : MethodId} {args : Array Value} {below : List Frame} {meth : Method} {c : Code} {H : Heap} {locs : List Loc} {cells slots : Nat} {Q : State → Prop}
variable {cc : ByteArray} {nL pc : Nat} {ret : Option FieldType} {own : String} {ls : Array Slot} {rest st0 : List Value} {D : va_G} {Af : Nat → Prop} {H0 : Heap} {cy : Nat → ClassId}
theorem c_run {a : Array Value} {w wc wc2 w3 : va_W} {pl : List Nat} {rv : Option Value} (hW : wd D w Af H0 H locs) (hA : ∀ q, H0.size ≤ q → Af q) (hJ : JN pl w wc wc2 w3)
    (hr : va_Run p l e R s m args below meth c H locs cells slots 0 0 (F0 m pc ls st0) rest (QG D cy wc2 rv (va_A wc H.size) a) (va_A wc H.size))
    (kk : ∀ (H : Heap) (locs : List Loc), wd D w3 Af H0 H locs → W p l e R s m args below meth c H locs cells slots Q (F0 m (pc + 3) ls (rv.toList ++ rest))) : W p l e R s m args below meth c H locs cells slots Q (F0 m pc ls st0) := by
  intro T hT X
  obtain ⟨v, st₀, t, T', L, h0, X', hL, e1, e2, ⟨hv, hP1, -, hD1, hz, hk⟩, st⟩ := hr T hT X
  cases hv
  rw [h0] at hz hk
  have hF := hJ.free hW.2.1 hW.2.2 hA
  obtain ⟨hP3, hD3⟩ := hJ.join hW.1 hW.2.1 hk hP1
  obtain ⟨t2, a1, b1⟩ := kk T'.heap (locs ++ L) ⟨by rw [e1]; exact hP3, hD3, Nat.le_trans hW.2.2.1 (by rw [e1]; exact hz), fun q h1 h2 => by
      rw [e1, hk q (Nat.lt_of_lt_of_le h1 hW.2.2.1) (fun z => h2 (hF q z))]; exact hW.2.2.2.1 q h1 h2, fun q hq => by
      rcases List.mem_append.mp hq with h | h
      · exact hW.2.2.2.2 q h
      · exact hF _ (hL q h)⟩ T' rfl X'
  exact ⟨t2, st t2 a1, b1⟩
/-- an instance method of the class number ci, on the cell qr -/
theorem c_V {w wc wc2 w3 : va_W} {pl : List Nat} {rv : Option Value} {y : MethodName} {bytes : ByteArray} {maxL n idx ci qr b : Nat} {rety : Option FieldType} {rm : Room} {As : List Value} {q : vw_C} {fs : List Value} (C0 : CX p s m args meth c cc nL ret own) (hK : va_K D vwCl (tyG cy) s) (hN : NWs s) (hl : ls.size = nL) (hW : wd D w Af H0 H locs) (hA : ∀ q, H0.size ≤ q → Af q)
    (hM : CG l y bytes maxL rety rm D cy wc (.ref b :: As) rv wc2) (hJ : JN pl w wc wc2 w3) (hG : GoodIn Uw (wsV own idx q.1 y (Cond.code y bytes maxL rety :: Uw))) (hrc : rm.cells = 0) (hrs : rm.slots = 0)
    (hd : y.cls = q.1 ∧ y.cls ≠ "java/lang/invoke/MethodHandle" ∧ y.cls ≠ "java/lang/invoke/VarHandle" ∧ (parseMethodDescriptor y.desc).map (fun d => d.parameters.length) = some n) (hR : Nat.ble (rm.frames + 1) R.frames = true ∧ Nat.ble (8 + (maxL + 11) + rm.locals) R.locals = true)
    (hc : vwCl[ci]? = some q) (he : w[qr]? = some (b, .inr (ci, fs))) (hn : As.length = n) (hst : st0 = As.reverse ++ .ref b :: rest) (hrm : Nat.ble ((rest.map fun v => v.category).sum) 8 = true) (hdg : decode cc pc = .ok (.invokevirtual idx, 3)) (hcs : cells + 0 ≤ R.cells ∧ slots + 0 ≤ R.slots)
    (kk : ∀ (H : Heap) (locs : List Loc), wd D w3 Af H0 H locs → W p l e R s m args below meth c H locs cells slots Q (F0 m (pc + 3) ls (rv.toList ++ rest))) : W p l e R s m args below meth c H locs cells slots Q (F0 m pc ls st0) := by
  subst hst
  refine c_run hW hA hJ (va_runV (As := As) (rest := rest) (Ts := Uw) ⟨C0.1, C0.2.1, C0.2.2.2.1, C0.2.2.2.2.1, C0.2.2.2.2.2.1⟩ (hM H.size) (cwV n C0.2.2.2.2.2.1 hG rfl hrc hrs hd ⟨Nat.le_of_ble_eq_true hR.1, Nat.le_of_ble_eq_true hR.2⟩) ⟨PG_blind, va_recv hK hW.1 (ci := ci) (q0 := qr) hc he, fun U hU hv => ⟨rfl, by rw [hU], by rw [hU]; exact hJ.sub hW.1, va_K.moved hv.alike hK, (hJ.subD hW.2.1).weaken (fun _ _ _ _ => trivial), hN.warm hv⟩⟩ rfl hn hl rfl (lv_room (Nat.le_of_ble_eq_true hrm)) hdg hcs) kk
theorem c_S {w wc wc2 w3 : va_W} {pl : List Nat} {rv : Option Value} {y : MethodName} {bytes : ByteArray} {maxL n idx : Nat} {rety : Option FieldType} {rm : Room} {As : List Value} (C0 : CX p s m args meth c cc nL ret own) (hK : va_K D vwCl (tyG cy) s) (hN : NWs s) (hl : ls.size = nL) (hW : wd D w Af H0 H locs) (hA : ∀ q, H0.size ≤ q → Af q)
    (hM : CG l y bytes maxL rety rm D cy wc As rv wc2) (hJ : JN pl w wc wc2 w3) (hG : Cond.methodLink own idx y ∈ Uw ∧ Cond.static y ∈ Uw ∧ Cond.initialized y.cls ∈ Uw ∧ Cond.code y bytes maxL rety ∈ Uw) (hrc : rm.cells = 0) (hrs : rm.slots = 0)
    (hd : y.cls ≠ "java/lang/invoke/MethodHandle" ∧ y.cls ≠ "java/lang/invoke/VarHandle" ∧ (parseMethodDescriptor y.desc).map (fun d => d.parameters.length) = some n) (hR : Nat.ble (rm.frames + 1) R.frames = true ∧ Nat.ble (8 + (maxL + 11) + rm.locals) R.locals = true)
    (hn : As.length = n) (hst : st0 = As.reverse ++ rest) (hrm : Nat.ble ((rest.map fun v => v.category).sum) 8 = true) (hdg : decode cc pc = .ok (.invokestatic idx, 3)) (hcs : cells + 0 ≤ R.cells ∧ slots + 0 ≤ R.slots)
    (kk : ∀ (H : Heap) (locs : List Loc), wd D w3 Af H0 H locs → W p l e R s m args below meth c H locs cells slots Q (F0 m (pc + 3) ls (rv.toList ++ rest))) : W p l e R s m args below meth c H locs cells slots Q (F0 m pc ls st0) := by
  subst hst
  have ht := C0.2.2.2.2.2.1
  refine c_run hW hA hJ (va_runS (As := As) (rest := rest) (Ts := Uw) ⟨C0.1, C0.2.1, C0.2.2.2.1, C0.2.2.2.2.1, ht⟩ (hM H.size) ⟨callB_of n ht (Uw_cons hG.2.2.2 Uw_all) rfl hrc hrs (ht _ hG.2.2.1) (ht _ hG.1) hd ⟨Nat.le_of_ble_eq_true hR.1, Nat.le_of_ble_eq_true hR.2⟩, ht _ hG.2.1⟩ ⟨PG_blind, fun U hU hv => ⟨rfl, by rw [hU], by rw [hU]; exact hJ.sub hW.1, va_K.moved hv.alike hK, (hJ.subD hW.2.1).weaken (fun _ _ _ _ => trivial), hN.warm hv⟩⟩ rfl hn hl rfl (lv_room (Nat.le_of_ble_eq_true hrm)) hdg hcs) kk
theorem c_SN {w wc wc2 w3 : va_W} {pl : List Nat} {rv : Option Value} {y : MethodName} {bytes : ByteArray} {maxL n idx : Nat} {host : String} {rety : Option FieldType} {rm : Room} {As : List Value} (C0 : CX p s m args meth c cc nL ret own) (hK : va_K D vwCl (tyG cy) s) (hN : NWs s) (hl : ls.size = nL) (hW : wd D w Af H0 H locs) (hA : ∀ q, H0.size ≤ q → Af q)
    (hM : CG l y bytes maxL rety rm D cy wc As rv wc2) (hJ : JN pl w wc wc2 w3) (hG : Cond.methodLinkNest own idx y host ∈ lw_tbl ∧ Cond.static y ∈ Uw ∧ Cond.initialized y.cls ∈ Uw ∧ Cond.code y bytes maxL rety ∈ Uw) (hrc : rm.cells = 0) (hrs : rm.slots = 0)
    (hd : y.cls ≠ "java/lang/invoke/MethodHandle" ∧ y.cls ≠ "java/lang/invoke/VarHandle" ∧ (parseMethodDescriptor y.desc).map (fun d => d.parameters.length) = some n) (hR : Nat.ble (rm.frames + 1) R.frames = true ∧ Nat.ble (8 + (maxL + 11) + rm.locals) R.locals = true)
    (hn : As.length = n) (hst : st0 = As.reverse ++ rest) (hrm : Nat.ble ((rest.map fun v => v.category).sum) 8 = true) (hdg : decode cc pc = .ok (.invokestatic idx, 3)) (hcs : cells + 0 ≤ R.cells ∧ slots + 0 ≤ R.slots)
    (kk : ∀ (H : Heap) (locs : List Loc), wd D w3 Af H0 H locs → W p l e R s m args below meth c H locs cells slots Q (F0 m (pc + 3) ls (rv.toList ++ rest))) : W p l e R s m args below meth c H locs cells slots Q (F0 m pc ls st0) := by
  subst hst
  have ht := C0.2.2.2.2.2.1
  refine c_run hW hA hJ (va_runSN (As := As) (rest := rest) (Ts := Uw) ⟨C0.1, C0.2.1, C0.2.2.2.1, C0.2.2.2.2.1, ht⟩ (hM H.size) ⟨va_cnB n ht (Uw_cons hG.2.2.2 Uw_all) rfl hrc hrs (hN _ hG.1 rfl) (ht _ hG.2.2.1) hd ⟨Nat.le_of_ble_eq_true hR.1, Nat.le_of_ble_eq_true hR.2⟩, ht _ hG.2.1, trivial⟩ ⟨PG_blind, fun U hU hv => ⟨rfl, by rw [hU], by rw [hU]; exact hJ.sub hW.1, va_K.moved hv.alike hK, (hJ.subD hW.2.1).weaken (fun _ _ _ _ => trivial), hN.warm hv⟩⟩ rfl hn hl rfl (lv_room (Nat.le_of_ble_eq_true hrm)) hdg hcs) kk
end CL
/-! what a decompiled text says -/
theorem ite_t {c : Prop} [Decidable c] {α : Type} {a b r : α} (hc : c) (h : (if c then a else b) = r) : a = r := by rw [if_pos hc] at h; exact h
theorem ite_f {c : Prop} [Decidable c] {α : Type} {a b r : α} (hc : ¬ c) (h : (if c then a else b) = r) : b = r := by rw [if_neg hc] at h; exact h
theorem g_some {c : Bool} {α : Type} {a : Option α} {r : α} (h : (bif c then a else none) = some r) : c = true ∧ a = some r := by
  cases c with
  | false => cases h
  | true => exact ⟨rfl, h⟩
theorem z_some {c : Prop} [Decidable c] {α : Type} {a : Option α} {r : α} (h : (if c then none else a) = some r) : ¬ c ∧ a = some r := by
  by_cases hc : c
  · rw [if_pos hc] at h; cases h
  · rw [if_neg hc] at h; exact ⟨hc, h⟩
theorem b_some {α β : Type} {o : Option α} {k : α → Option β} {r : β} (h : Option.bind o k = some r) : ∃ y, o = some y ∧ k y = some r := by
  cases o with
  | none => cases h
  | some y => exact ⟨y, rfl, h⟩
def itr {σ : Type} (F : σ → σ) (b : σ) : Nat → σ
  | 0 => b
  | n + 1 => F (itr F b n)
def FU : Nat := 2200
