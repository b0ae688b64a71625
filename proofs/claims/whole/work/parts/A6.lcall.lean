/-! a call that throws, caught; a method with a table of its own -/
theorem PT_blind {D : va_G} {cy : Nat → ClassId} {w : va_W} {avs : List Value} {sz : Nat} : FrameBlind (PT D cy w avs sz) := fun a U g mk q => by
  obtain ⟨q0, q1, qP, qK, qD, qN, qX, qZ⟩ := q
  exact ⟨q0, q1, qP, va_K.moved (u := U) (U := U.calling g mk a) (Vm.Alike.refl U.vm) qK, qD, qN.same rfl, qX.same rfl, ⟨vx_Zq.moved (u := U) (U := U.calling g mk a) (Vm.Alike.refl U.vm) qZ.1, vx_Zq.moved (u := U) (U := U.calling g mk a) (Vm.Alike.refl U.vm) qZ.2⟩⟩
theorem ZSs.at {A B : Nat → Prop} {s U : State} {H0 H : Heap} {locs : List Loc} (h : ZSs A s H0) (hS : va_S A H0 H locs) (hU : U.heap = H) (hv : s.vm.Alike U.vm) (hB : ∀ q, B q → A q) : ZSs B U U.heap := by
  rw [hU]
  exact ⟨vx_Zq.moved hv ((h.1.kept hS.2.1).narrow hB), vx_Zq.moved hv ((h.2.kept hS.2.1).narrow hB)⟩
section LC
variable {p : Program} {l : Launch} {e : Env} {R : Room} {s : State} {m : MethodId} {args : Array Value} {below : List Frame} {meth : Method} {c : Code} {H : Heap} {locs : List Loc} {cells slots : Nat} {Q : State → Prop}
variable {cc : ByteArray} {nL pc : Nat} {ret : Option FieldType} {own : String} {ls : Array Slot} {rest st0 : List Value} {D : va_G} {Af : Nat → Prop} {H0 : Heap} {cy : Nat → ClassId}
theorem c_VT {w wc : va_W} {pl : List Nat} {y : MethodName} {bytes : ByteArray} {maxL n idx ci qr b : Nat} {rety : Option FieldType} {rm : Room} {As : List Value} {q : vw_C} {fs : List Value} (C0 : CX p s m args meth c cc nL ret own) (hK : va_K D vwCl (tyG cy) s) (hN : NWs s) (hX : XWs s) (hZ : ZSs Af s H0) (hl : ls.size = nL) (hW : wd D w Af H0 H locs) (hA : ∀ q, H0.size ≤ q → Af q)
    (hM : TG l y bytes maxL rety rm D cy wc (.ref b :: As)) (hJ : JN pl w wc wc w) (hG : GoodIn Uw (wsV own idx q.1 y (Cond.code y bytes maxL rety :: Uw))) (hrc : rm.cells = 1) (hrs : rm.slots = 6)
    (hd : y.cls = q.1 ∧ y.cls ≠ "java/lang/invoke/MethodHandle" ∧ y.cls ≠ "java/lang/invoke/VarHandle" ∧ (parseMethodDescriptor y.desc).map (fun d => d.parameters.length) = some n) (hR : Nat.ble (rm.frames + 1) R.frames = true ∧ Nat.ble (8 + (maxL + 11) + rm.locals) R.locals = true)
    (hc : vwCl[ci]? = some q) (he : w[qr]? = some (b, .inr (ci, fs))) (hn : As.length = n) (hst : st0 = As.reverse ++ .ref b :: rest) (hrm : Nat.ble ((rest.map fun v => v.category).sum) 8 = true) (hdg : decode cc pc = .ok (.invokevirtual idx, 3)) (hcs : cells + 1 ≤ R.cells ∧ slots + 6 ≤ R.slots)
    (kx : ∀ (ce : Cell) (q9 : Addr) (H1 : Heap) (locs1 : List Loc), wd D w Af H0 H1 locs1 → H1[q9]? = some ce → ce.vm = .none → s.vm.findClass nsE = some ce.cls → vx_W p l e R s m args below meth c H1 locs1 (cells + 1) (slots + 6) Q (F0 m pc ls rest) q9) : W p l e R s m args below meth c H locs cells slots Q (F0 m pc ls st0) := by
  subst hst
  have hF := hJ.free hW.2.1 hW.2.2 hA
  have hr := vx_runV (l := l) (p := p) (e := e) (below := below) (meth := meth) (cells := cells) (slots := slots) (locs := locs) (H := H) (g := F0 m pc ls (As.reverse ++ .ref b :: rest)) (As := As) (rest := rest) (Ts := Uw) ⟨C0.1, C0.2.1, C0.2.2.2.1, C0.2.2.2.2.1, C0.2.2.2.2.2.1⟩ (hM H.size) (cwV n C0.2.2.2.2.2.1 hG rfl hrc hrs hd ⟨Nat.le_of_ble_eq_true hR.1, Nat.le_of_ble_eq_true hR.2⟩) ⟨PT_blind, va_recv hK hW.1 (ci := ci) (q0 := qr) hc he, fun U hU hv => ⟨rfl, by rw [hU], by rw [hU]; exact hJ.sub hW.1, va_K.moved hv.alike hK, (hJ.subD hW.2.1).weaken (fun _ _ _ _ => trivial), hN.warm hv, hX.warm hv, hZ.at hW.2.2 hU hv.alike hF⟩⟩ rfl hn hl rfl (lv_room (Nat.le_of_ble_eq_true hrm)) hdg hcs
  intro T hT X
  rcases hr T hT X with ⟨v, st₀, t, T', L, h0, X', hL, e1, e2, hq, st⟩ | ⟨q9, st₀, t, T', L, E, ce, h0, X', hL, e1, e2, ⟨hE, hP1, -, hz, hk⟩, hce, hcv, hcl, st⟩
  · exact absurd hq id
  · rw [h0] at hz hk
    subst hE
    obtain ⟨hP3, hD3⟩ := hJ.join hW.1 hW.2.1 hk hP1
    obtain ⟨t2, a1, b1⟩ := kx ce q9 T'.heap (locs ++ L) ⟨by rw [e1]; exact hP3, hD3, Nat.le_trans hW.2.2.1 (by rw [e1]; exact hz), fun q h1 h2 => by
      rw [e1, hk q (Nat.lt_of_lt_of_le h1 hW.2.2.1) (fun z => h2 (hF q z))]; exact hW.2.2.2.1 q h1 h2, fun q hq => by
      rcases List.mem_append.mp hq with h | h
      · exact hW.2.2.2.2 q h
      · exact hF _ (hL q h)⟩ (by rw [e1]; exact hce) hcv hcl T' rfl X'
    exact ⟨t2, st.trans a1, b1⟩
/-- a whole number comes back, from a method that might throw -/
theorem r_intX {w2 : va_W} (C0 : CX p s m args meth c cc nL (some .int) own) (hK : va_K D vwCl (tyG cy) s) (hW : wd D w2 Af s.heap H locs) {v : Int32} {XC : String → State → State → Prop} (h1 : cells ≤ 1) (h6 : slots ≤ 6) (hdg : decode cc pc = .ok (.ireturn, 1)) :
    W p l e R s m args below meth c H locs cells slots (vx_MQ below (QG D cy w2 (some (.int v)) Af) XC args s 1 6 Af) (F0 m pc ls [.int v]) := fun T hT X =>
  vx_ret (XC := XC) (W.iret (cells := 1) (slots := 6) C0.1 C0.2.1 C0.2.2.1 (fun t ht hv => QG_mk hK hW t ht hv) hW.2.2.2.2 hdg C0.2.2.2.2.2.2) T hT (stand_widen X h1 h6)
end LC
def LG (l : Launch) (y : MethodName) (cc : ByteArray) (nL : Nat) (ret : Option FieldType) (hh : List (Nat × Nat × Nat × Nat)) (rm : Room) (D : va_G) (cy : Nat → ClassId) (w : va_W) (avs : List Value) (rv : Option Value) (w2 : va_W) : Prop :=
  ∀ sz : Nat, vx_Met l y (Cond.codeWith y cc nL ret hh :: Uw) rm (PT D cy w avs sz) (QG D cy w2 rv (va_A w sz)) (fun _ _ _ => False) 1 6 (va_A w sz)
theorem LG.of {l : Launch} {y : MethodName} {cc : ByteArray} {nL : Nat} {ret : Option FieldType} {hh : List (Nat × Nat × Nat × Nat)} {rm : Room} {D : va_G} {cy : Nat → ClassId} {w : va_W} {avs : List Value} {rv : Option Value} {w2 : va_W} {own : String}
    (hy : plainName y.cls = true) (ho : y.cls = own) (hn : Nat.ble (lg_sl avs).length nL = true)
    (body : ∀ (p : Program) (e : Env) (s : State) (m : MethodId) (below : List Frame) (meth : Method) (c : Code) (ls : Array Slot) (Af : Nat → Prop), CX p s m avs.toArray meth c cc nL ret own → va_K D vwCl (tyG cy) s → NWs s → XWs s → ZSs Af s s.heap → c.exceptionTable.toList = tableOf hh → (∀ q, s.heap.size ≤ q → Af q) → wd D w Af s.heap s.heap [] → lv_has ls nL (lv_args 0 avs) →
      W p l e rm s m avs.toArray below meth c s.heap [] 0 0 (vx_MQ below (QG D cy w2 rv Af) (fun _ _ _ => False) avs.toArray s 1 6 Af) (F0 m 0 ls [])) : LG l y cc nL ret hh rm D cy w avs rv w2 := by
  intro sz
  refine vx_ofWH (cc := cc) (maxL := nL) (ret := ret) (hh := hh) hy rfl ?_
  intro p e s m args below meth c s₁ B0 hml hv
  obtain ⟨rfl, hsz, hP, hK, hD0, hN, hX, hZ⟩ := hv
  subst hsz
  have hts := atoms_spec (ws := Cond.codeWith y cc nL ret hh :: Uw) B0.pre
  have hown : s.vm.findClass own = some m.cls := by rw [← ho]; exact findClass_of_methodNamed B0.named
  have hD := hD0.self (sz := s.heap.size)
  have hl := lv_entry avs (n := nL) (Nat.le_of_ble_eq_true hn)
  have htab := vx_table (x := y) B0 (hts _ List.mem_cons_self)
  show W p l e rm s m avs.toArray below meth c s.heap [] 0 0 _ (entryFrame m avs.toArray nL)
  rw [lg_entry_eq]
  generalize (lg_sl avs ++ List.replicate (nL - (lg_sl avs).length) Slot.unset).toArray = ls at hl ⊢
  exact body p e s m below meth c ls (va_A w s.heap.size) ⟨B0.exec, B0.bytes, B0.returns, hml, hown, fun w hw => hts w (List.mem_cons_of_mem _ hw), B0.notSynchronized⟩ hK hN hX hZ htab (fun q h => Or.inr h) ⟨hP, hD, va_S.rf⟩ hl
