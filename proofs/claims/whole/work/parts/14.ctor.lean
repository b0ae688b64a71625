/-! constructors: a blank object becomes a whole one, with cells of its own -/
def QN (D : va_G) (cy : Nat → ClassId) (lay : List Shp) (a : Nat) (I : MI) (J : MJ) (A : MI) (B : MJ) (E : (Nat → Nat) → MP → Prop) (Af : Nat → Prop) : Array Value → State → Outcome → State → Prop := fun _ st oc t =>
  oc = .returned none ∧ (∃ (ad : Nat → Nat) (P : MP) (V : MV), ad 0 = a ∧ E ad P ∧ va_P D vwCl (dn cy lay ad P V I J A B) t.heap ∧ va_D Af (dn cy lay ad P V I J A B)) ∧ va_K D vwCl (tyG cy) t ∧ va_F Af st t
def CN (l : Launch) (y : MethodName) (cc : ByteArray) (nL : Nat) (rm : Room) (D : va_G) (cy : Nat → ClassId) (ci : Nat) (fs : List Value) (lay : List Shp) (I : MI) (J : MJ) (A : MI) (B : MJ) (E : (Nat → Nat) → MP → Prop) (k n : Nat) : Prop :=
  ∀ a sz : Nat, Met l y (Cond.code y cc nL none :: Uw) rm (PG D cy [(a, .inr (ci, fs))] [.ref a] sz) (QN D cy lay a I J A B E (va_A [(a, .inr (ci, fs))] sz)) k n (va_A [(a, .inr (ci, fs))] sz)
theorem CN.of {l : Launch} {y : MethodName} {cc : ByteArray} {nL : Nat} {rm : Room} {D : va_G} {cy : Nat → ClassId} {ci : Nat} {fs : List Value} {lay : List Shp} {I : MI} {J : MJ} {A : MI} {B : MJ} {E : (Nat → Nat) → MP → Prop} {k n : Nat} {own : String}
    (hy : plainName y.cls = true) (ho : y.cls = own) (hyn : y.name = "<init>") (hn : Nat.ble 1 nL = true)
    (body : ∀ (a : Nat) (p : Program) (e : Env) (s : State) (m : MethodId) (below : List Frame) (meth : Method) (c : Code) (ls : Array Slot) (Af : Nat → Prop), CX p s m #[.ref a] meth c cc nL none own → meth.name = "<init>" → va_K D vwCl (tyG cy) s → NWs s → (∀ q, s.heap.size ≤ q → Af q) → wd D [(a, .inr (ci, fs))] Af s.heap s.heap [] → lv_has ls nL [(0, .ref a)] →
      W p l e rm s m #[.ref a] below meth c s.heap [] 0 0 (MQ below (QN D cy lay a I J A B E Af) #[.ref a] s k n Af) (F0 m 0 ls [])) : CN l y cc nL rm D cy ci fs lay I J A B E k n := by
  intro a sz
  refine Met.ofW (cc := cc) (maxL := nL) (ret := none) hy rfl ?_
  intro p e s m args below meth c s₁ B0 hml hv
  obtain ⟨rfl, hsz, hP, hK, hD0, hN⟩ := hv
  subst hsz
  have hts := atoms_spec (ws := Cond.code y cc nL none :: Uw) B0.pre
  have hown : s.vm.findClass own = some m.cls := by rw [← ho]; exact findClass_of_methodNamed B0.named
  have hin : meth.name = "<init>" := by rw [← hyn]; exact (name_of_methodNamed B0.named B0.method).1
  have hD := hD0.self (sz := s.heap.size)
  have hl := lv_entry [.ref a] (n := nL) (Nat.le_of_ble_eq_true hn)
  show W p l e _ s m #[.ref a] below meth c s.heap [] 0 0 _ (entryFrame m ([.ref a] : List Value).toArray nL)
  rw [lg_entry_eq]
  generalize (lg_sl [.ref a] ++ List.replicate (nL - (lg_sl [.ref a]).length) Slot.unset).toArray = ls at hl ⊢
  exact body a p e s m below meth c ls (va_A [(a, .inr (ci, fs))] s.heap.size) ⟨B0.exec, B0.bytes, B0.returns, hml, hown, fun w hw => hts w (List.mem_cons_of_mem _ hw), B0.notSynchronized⟩ hin hK hN (fun q h => Or.inr h) ⟨hP, hD, va_S.rf⟩ hl
section NW
variable {p : Program} {l : Launch} {e : Env} {R : Room} {s : State} {m : MethodId} {args : Array Value} {below : List Frame} {meth : Method} {c : Code} {H : Heap} {locs : List Loc} {cells slots : Nat} {Q : State → Prop}
variable {cc : ByteArray} {nL pc : Nat} {ret : Option FieldType} {own : String} {ls : Array Slot} {rest st0 : List Value} {D : va_G} {Af : Nat → Prop} {H0 : Heap} {cy : Nat → ClassId} {w : va_W}
/-- a new array of whole numbers; its class is the one that we know -/
theorem n_arr {at_ : ArrayType} {ty : FieldType} (t : Nat) (C0 : CX p s m args meth c cc nL ret own) (hK : va_K D vwCl (tyG cy) s) (hW : wd D w Af H0 H locs) (hA : ∀ q, H0.size ≤ q → Af q) (harr : Cond.arrayClass (newarray.typeOf at_) ∈ Uw) (hty : newarray.typeOf at_ = ty) (hprim : ∀ C, ty ≠ .object C) (ht : (tyG cy)[t]? = some (cy t, ty)) {n : Int32} {N : Nat} {a0 : vp_A} (ha : ∀ cA : ClassId, vp_cell cA a0 = arrV cA N (fun _ => defaultValue ty)) (hn : ¬ n < 0) (hN : n.toNatClampNeg = N) (hbytes : Nat.ble (N * componentBytes ty) 536870912 = true) (hcells : cells + 1 ≤ R.cells) (hslots : slots + N ≤ R.slots) (hdg : decode cc pc = .ok (.newarray at_, 2))
    (kk : ∀ (q : Nat) (H : Heap), wd D (w ++ [(q, .inl (cy t, a0))]) Af H0 H locs → W p l e R s m args below meth c H locs (cells + 1) (slots + N) Q (F0 m (pc + 2) ls (.ref q :: rest))) : W p l e R s m args below meth c H locs cells slots Q (F0 m pc ls (.int n :: rest)) := by
  refine va_newa C0.1 C0.2.1 (C0.2.2.2.2.2.1 _ harr) hty hK hW.1 hW.2.1 hW.2.2 hA ha hn hN (Nat.le_of_ble_eq_true hbytes) hcells hslots hdg (fun q cA H1 hK1 hP hD hS => ?_)
  have h1 : va_RA s cA ty := (hK1.2 (tyG cy).length (cA, ty) (by simp)).2
  have h2 : va_RA s (cy t) ty := (hK.2 t _ ht).2
  have e1 : cA = cy t := by
    cases ty with
    | object C => exact absurd rfl (hprim C)
    | _ => exact Option.some.inj ((show s.vm.findClass _ = some cA from h1).symm.trans (show s.vm.findClass _ = some (cy t) from h2))
  subst e1
  exact kk q H1 ⟨hP, hD, hS⟩
/-- a new blank object -/
theorem n_obj {C : String} {T : u_T} {N ci idx : Nat} {ty : Nat → FieldType} (C0 : CX p s m args meth c cc nL ret own) (hK : va_K D vwCl (tyG cy) s) (hW : wd D w Af H0 H locs) (hA : ∀ q, H0.size ≤ q → Af q) (hin : ∀ w ∈ u_ws C T N, w ∈ Uw) (hty : ∀ k, k < N → parseFieldDescriptor (T k).2.2.1 = some (ty k)) (hcl : Cond.classLink own idx C ∈ Uw) (hinst : Cond.instantiable C N ∈ Uw) (hini : Cond.initialized C ∈ Uw) (hc : vwCl[ci]? = some (C, T, N)) {fs : List Value} (hfs : ∀ j, j < N → defaultValue (ty j) = vp_V fs j) (hcells : cells + 1 ≤ R.cells) (hslots : slots + N ≤ R.slots) (hdg : decode cc pc = .ok (.new idx, 3))
    (kk : ∀ (q : Nat) (H : Heap), wd D (w ++ [(q, .inr (ci, fs))]) Af H0 H locs → W p l e R s m args below meth c H locs (cells + 1) (slots + N) Q (F0 m (pc + 3) ls (.ref q :: rest))) : W p l e R s m args below meth c H locs cells slots Q (F0 m pc ls rest) :=
  va_new C0.1 C0.2.1 C0.2.2.2.2.2.1 hin ty hty C0.2.2.2.2.1 (C0.2.2.2.2.2.1 _ hcl) (C0.2.2.2.2.2.1 _ hinst) (C0.2.2.2.2.2.1 _ hini) hK hW.1 hW.2.1 hW.2.2 hA hc hfs hcells hslots hdg (fun q H1 hP hD hS => kk q H1 ⟨hP, hD, hS⟩)
/-- a final field, in its constructor -/
theorem n_putF {C : String} {T : u_T} {N ci idx a : Nat} {ty0 : Nat → FieldType} {ty : FieldType} (C0 : CX p s m args meth c cc nL ret own) (hin2 : meth.name = "<init>") (hK : va_K D vwCl (tyG cy) s) (hW : wd D w Af H0 H locs) (q0 k : Nat) (hin : ∀ w ∈ u_ws C T N, w ∈ Uw) (hty : ∀ k, k < N → parseFieldDescriptor (T k).2.2.1 = some (ty0 k)) (hnm : ∀ a, a < N → ∀ b, b < N → a ≠ b → (T a).2.1 ≠ (T b).2.1) {fs : List Value} (he : w[q0]? = some (a, .inr (ci, fs))) (hc : vwCl[ci]? = some (C, T, N)) (hk : k < N) (hlink : Cond.fieldLink own idx (T k).1 (T k).2.1 (T k).2.2.1 ∈ Uw) (hfin : (T k).2.2.2 = true) (hdecl : (T k).1 = own) {v : Value} (hd : parseFieldDescriptor (T k).2.2.1 = some ty) (hn : narrow ty v = v) (hfit : fits ty v = true) (hl : k < fs.length) {w' : va_W} (hw : w.set q0 (a, .inr (ci, fs.set k v)) = w') (hdg : decode cc pc = .ok (.putfield idx, 3))
    (kk : ∀ (H : Heap) (locs : List Loc), wd D w' Af H0 H locs → W p l e R s m args below meth c H locs cells slots Q (F0 m (pc + 3) ls rest)) : W p l e R s m args below meth c H locs cells slots Q (F0 m pc ls (v :: .ref a :: rest)) := by
  subst hw
  exact va_putF C0.1 C0.2.1 C0.2.2.2.2.2.1 hin ty0 hty hnm C0.2.2.2.2.1 hK hW.1 hW.2.1 hW.2.2 q0 he hc k hk (C0.2.2.2.2.2.1 _ hlink) (fun _ h9 => h9) hfin hin2 hdecl hd hn hfit hl hdg (fun H locs hP hD hS => kk H locs ⟨hP, hD, hS⟩)
/-- Object's own constructor -/
theorem n_init {idx a : Nat} (C0 : CX p s m args meth c cc nL ret own) (hl : ls.size = nL) (h1 : Cond.methodLink own idx Lib.objectInit ∈ Uw) (h2 : Cond.instanceMethod Lib.objectInit ∈ Uw) (h3 : Cond.code Lib.objectInit ⟨#[0xb1]⟩ 1 none ∈ Uw) (hr : rest = []) (hf : Nat.ble 1 R.frames = true) (hlo : Nat.ble 12 R.locals = true) (hdg : decode cc pc = .ok (.invokespecial idx, 3))
    (kk : W p l e R s m args below meth c H locs cells slots Q (F0 m (pc + 3) ls rest)) : W p l e R s m args below meth c H locs cells slots Q (F0 m pc ls (.ref a :: rest)) := by
  subst hr
  refine W.objInit C0.1 C0.2.1 C0.2.2.2.2.1 (C0.2.2.2.2.2.1 _ h1) (C0.2.2.2.2.2.1 _ h2) (C0.2.2.2.2.2.1 _ h3) rfl (by rw [C0.2.2.2.1]; exact hl) rfl hdg (Nat.le_of_ble_eq_true hf) ?_ kk
  have := Nat.le_of_ble_eq_true hlo
  exact Nat.le_trans (by simp [F0, JFrame.monitorRoom]) this
theorem n_ret {k n a : Nat} {lay : List Shp} {I : MI} {J : MJ} {A : MI} {B : MJ} {E : (Nat → Nat) → MP → Prop} (C0 : CX p s m args meth c cc nL none own) (hK : va_K D vwCl (tyG cy) s) (ad : Nat → Nat) (P : MP) (V : MV) (h0 : ad 0 = a) (hE : E ad P) (hW : wd D (dn cy lay ad P V I J A B) Af s.heap H locs) (hdg : decode cc pc = .ok (.return_, 1)) :
    W p l e R s m args below meth c H locs k n (MQ below (QN D cy lay a I J A B E Af) args s k n Af) (F0 m pc ls []) :=
  W.vret C0.1 C0.2.1 C0.2.2.1 (fun t ht hv => ⟨rfl, ⟨ad, P, V, h0, hE, by rw [ht]; exact hW.1, hW.2.1⟩, va_K.moved hv.alike hK, hW.2.2.F ht⟩) hW.2.2.2.2 hdg C0.2.2.2.2.2.2
/-- behind a constructor's call: what was there, and the whole object -/
theorem n_run {a : Array Value} {q ci k n : Nat} {fs : List Value} {lay : List Shp} {I : MI} {J : MJ} {A : MI} {B : MJ} {E : (Nat → Nat) → MP → Prop} (hW : wd D (w ++ [(q, .inr (ci, fs))]) Af H0 H locs) (hA : ∀ q, H0.size ≤ q → Af q)
    (hr : va_Run p l e R s m args below meth c H locs cells slots k n (F0 m pc ls st0) rest (QN D cy lay q I J A B E (va_A [(q, .inr (ci, fs))] H.size) a) (va_A [(q, .inr (ci, fs))] H.size))
    (kk : ∀ (H : Heap) (locs : List Loc) (ad : Nat → Nat) (P : MP) (V : MV), ad 0 = q → E ad P → wd D (w ++ dn cy lay ad P V I J A B) Af H0 H locs → W p l e R s m args below meth c H locs (cells + k) (slots + n) Q (F0 m (pc + 3) ls rest)) : W p l e R s m args below meth c H locs cells slots Q (F0 m pc ls st0) := by
  intro T hT X
  obtain ⟨v, st₀, t, T', L, h0, X', hL, e1, e2, ⟨hv, ⟨ad, P, V, g0, gE, hP1, hD1⟩, -, hz, hk⟩, st⟩ := hr T hT X
  cases hv
  rw [h0] at hz hk
  have hlast : (w ++ [(q, Sum.inr (ci, fs))])[w.length]? = some (q, .inr (ci, fs)) := by simp
  have hF : ∀ x, va_A [(q, .inr (ci, fs))] H.size x → Af x := by
    intro x hx
    rcases hx with ⟨i, z, hi⟩ | hx
    · have hi0 : i = 0 := by
        cases i with
        | zero => rfl
        | succ i => simp at hi
      subst hi0
      simp only [List.getElem?_cons_zero, Option.some.injEq, Prod.mk.injEq] at hi
      rw [← hi.1]; exact hW.2.1.2 _ _ hlast
    · exact hA x (Nat.le_trans hW.2.2.1 hx)
  have hw : ∀ (i : Nat) (x : Nat × va_E), w[i]? = some x → (w ++ [(q, Sum.inr (ci, fs))])[i]? = some x := fun i x hx => by
    rw [List.getElem?_append_left (List.getElem?_eq_some_iff.mp hx).1]; exact hx
  have apart : ∀ (i : Nat) (x : Nat × va_E), w[i]? = some x → x.1 < H.size ∧ ¬ va_A [(q, .inr (ci, fs))] H.size x.1 := by
    intro i x hx
    have hl := (hW.1 i x (hw i x hx)).lt
    refine ⟨hl, fun h => ?_⟩
    rcases h with ⟨j, z, hj⟩ | h
    · have hj0 : j = 0 := by
        cases j with
        | zero => rfl
        | succ j => simp at hj
      subst hj0
      simp only [List.getElem?_cons_zero, Option.some.injEq, Prod.mk.injEq] at hj
      have := hW.2.1.1 i w.length x _ (hw i x hx) hlast hj.1.symm
      have hi := (List.getElem?_eq_some_iff.mp hx).1
      omega
    · omega
  have hPw : va_P D vwCl w T'.heap := fun i x hx => by
    obtain ⟨g1, g2⟩ := apart i x hx
    rw [e1]
    exact (hW.1 i x (hw i x hx)).kept (hk x.1 g1 g2)
  have hDw : va_D Af w := ⟨fun i j x y hx hy hxy => hW.2.1.1 i j x y (hw i x hx) (hw j y hy) hxy, fun i x hx => hW.2.1.2 i x (hw i x hx)⟩
  obtain ⟨t2, a1, b1⟩ := kk T'.heap (locs ++ L) ad P V g0 gE ⟨va_P.app hPw (by rw [e1]; exact hP1), va_D.app hDw (hD1.weaken (fun i x _ h => hF x.1 h)) (fun i j x y hx hy hxy => (apart i x hx).2 (by rw [hxy]; exact hD1.2 j y hy)), Nat.le_trans hW.2.2.1 (by rw [e1]; exact hz), fun x h1 h2 => by
      rw [e1, hk x (Nat.lt_of_lt_of_le h1 hW.2.2.1) (fun z => h2 (hF x z))]; exact hW.2.2.2.1 x h1 h2, fun x hx => by
      rcases List.mem_append.mp hx with h | h
      · exact hW.2.2.2.2 x h
      · exact hF _ (hL x h)⟩ T' rfl X'
  exact ⟨t2, st t2 a1, b1⟩
end NW
section NC
variable {p : Program} {l : Launch} {e : Env} {R : Room} {s : State} {m : MethodId} {args : Array Value} {below : List Frame} {meth : Method} {c : Code} {H : Heap} {locs : List Loc} {cells slots : Nat} {Q : State → Prop}
variable {cc : ByteArray} {nL pc : Nat} {ret : Option FieldType} {own : String} {ls : Array Slot} {rest st0 : List Value} {D : va_G} {Af : Nat → Prop} {H0 : Heap} {cy : Nat → ClassId} {w : va_W}
theorem n_call {y : MethodName} {bytes : ByteArray} {maxL idx q ci k n : Nat} {fs : List Value} {lay : List Shp} {I : MI} {J : MJ} {A : MI} {B : MJ} {E : (Nat → Nat) → MP → Prop} {rm : Room} (C0 : CX p s m args meth c cc nL ret own) (hK : va_K D vwCl (tyG cy) s) (hN : NWs s) (hl : ls.size = nL) (hW : wd D (w ++ [(q, .inr (ci, fs))]) Af H0 H locs) (hA : ∀ q, H0.size ≤ q → Af q)
    (hM : CN l y bytes maxL rm D cy ci fs lay I J A B E k n) (hG : Cond.methodLink own idx y ∈ Uw ∧ Cond.instanceMethod y ∈ Uw ∧ Cond.initialized y.cls ∈ Uw ∧ Cond.code y bytes maxL none ∈ Uw) (hrc : rm.cells = k) (hrs : rm.slots = n) (hy1 : y.name = "<init>") (hd : y.cls ≠ "java/lang/invoke/MethodHandle" ∧ y.cls ≠ "java/lang/invoke/VarHandle" ∧ (parseMethodDescriptor y.desc).map (fun d => d.parameters.length) = some 0)
    (hR : Nat.ble (rm.frames + 1) R.frames = true ∧ Nat.ble (8 + (maxL + 11) + rm.locals) R.locals = true) (hst : st0 = .ref q :: rest) (hrm : Nat.ble ((rest.map fun v => v.category).sum) 8 = true) (hdg : decode cc pc = .ok (.invokespecial idx, 3)) (hcs : cells + k ≤ R.cells ∧ slots + n ≤ R.slots)
    (kk : ∀ (H : Heap) (locs : List Loc) (ad : Nat → Nat) (P : MP) (V : MV), ad 0 = q → E ad P → wd D (w ++ dn cy lay ad P V I J A B) Af H0 H locs → W p l e R s m args below meth c H locs (cells + k) (slots + n) Q (F0 m (pc + 3) ls rest)) : W p l e R s m args below meth c H locs cells slots Q (F0 m pc ls st0) := by
  subst hst
  have ht := C0.2.2.2.2.2.1
  have hlast : (w ++ [(q, Sum.inr (ci, fs))])[w.length]? = some (q, .inr (ci, fs)) := by simp
  have hPc : va_P D vwCl [(q, .inr (ci, fs))] H := fun i x hx => by
    cases i with
    | zero => simp only [List.getElem?_cons_zero, Option.some.injEq] at hx; subst hx; exact hW.1 _ _ hlast
    | succ i => simp at hx
  have hDc : va_D (fun _ => True) [(q, Sum.inr (ci, fs))] := ⟨fun i j a b ha hb _ => by
    cases i with
    | succ i => simp at ha
    | zero =>
      cases j with
      | zero => rfl
      | succ j => simp at hb, fun _ _ _ => trivial⟩
  refine n_run hW hA (va_runI (As := []) (rest := rest) (Ts := Uw) ⟨C0.1, C0.2.1, C0.2.2.2.1, C0.2.2.2.2.1, ht⟩ (hM q H.size) (cwI 0 ht (Uw_cons hG.2.2.2 Uw_all) rfl hrc hrs (ht _ hG.2.2.1) (ht _ hG.1) (ht _ hG.2.1) hy1 hd ⟨Nat.le_of_ble_eq_true hR.1, Nat.le_of_ble_eq_true hR.2⟩) ⟨PG_blind, fun U hU hv => ⟨rfl, by rw [hU], by rw [hU]; exact hPc, va_K.moved hv.alike hK, hDc, hN.warm hv⟩⟩ rfl rfl hl rfl (lv_room (Nat.le_of_ble_eq_true hrm)) hdg hcs) kk
theorem n_callN {y : MethodName} {bytes : ByteArray} {maxL idx q ci k n : Nat} {host : String} {fs : List Value} {lay : List Shp} {I : MI} {J : MJ} {A : MI} {B : MJ} {E : (Nat → Nat) → MP → Prop} {rm : Room} (C0 : CX p s m args meth c cc nL ret own) (hK : va_K D vwCl (tyG cy) s) (hN : NWs s) (hl : ls.size = nL) (hW : wd D (w ++ [(q, .inr (ci, fs))]) Af H0 H locs) (hA : ∀ q, H0.size ≤ q → Af q)
    (hM : CN l y bytes maxL rm D cy ci fs lay I J A B E k n) (hG : Cond.methodLinkNest own idx y host ∈ lw_tbl ∧ Cond.instanceMethod y ∈ Uw ∧ Cond.initialized y.cls ∈ Uw ∧ Cond.code y bytes maxL none ∈ Uw) (hrc : rm.cells = k) (hrs : rm.slots = n) (hy1 : y.name = "<init>") (hd : y.cls ≠ "java/lang/invoke/MethodHandle" ∧ y.cls ≠ "java/lang/invoke/VarHandle" ∧ (parseMethodDescriptor y.desc).map (fun d => d.parameters.length) = some 0)
    (hR : Nat.ble (rm.frames + 1) R.frames = true ∧ Nat.ble (8 + (maxL + 11) + rm.locals) R.locals = true) (hst : st0 = .ref q :: rest) (hrm : Nat.ble ((rest.map fun v => v.category).sum) 8 = true) (hdg : decode cc pc = .ok (.invokespecial idx, 3)) (hcs : cells + k ≤ R.cells ∧ slots + n ≤ R.slots)
    (kk : ∀ (H : Heap) (locs : List Loc) (ad : Nat → Nat) (P : MP) (V : MV), ad 0 = q → E ad P → wd D (w ++ dn cy lay ad P V I J A B) Af H0 H locs → W p l e R s m args below meth c H locs (cells + k) (slots + n) Q (F0 m (pc + 3) ls rest)) : W p l e R s m args below meth c H locs cells slots Q (F0 m pc ls st0) := by
  subst hst
  have ht := C0.2.2.2.2.2.1
  have hlast : (w ++ [(q, Sum.inr (ci, fs))])[w.length]? = some (q, .inr (ci, fs)) := by simp
  have hPc : va_P D vwCl [(q, .inr (ci, fs))] H := fun i x hx => by
    cases i with
    | zero => simp only [List.getElem?_cons_zero, Option.some.injEq] at hx; subst hx; exact hW.1 _ _ hlast
    | succ i => simp at hx
  have hDc : va_D (fun _ => True) [(q, Sum.inr (ci, fs))] := ⟨fun i j a b ha hb _ => by
    cases i with
    | succ i => simp at ha
    | zero =>
      cases j with
      | zero => rfl
      | succ j => simp at hb, fun _ _ _ => trivial⟩
  refine n_run hW hA (va_runIN (As := []) (rest := rest) (Ts := Uw) ⟨C0.1, C0.2.1, C0.2.2.2.1, C0.2.2.2.2.1, ht⟩ (hM q H.size) ⟨va_cnB 0 ht (Uw_cons hG.2.2.2 Uw_all) rfl hrc hrs (hN _ hG.1 rfl) (ht _ hG.2.2.1) hd ⟨Nat.le_of_ble_eq_true hR.1, Nat.le_of_ble_eq_true hR.2⟩, hy1, ht _ hG.2.1⟩ ⟨PG_blind, fun U hU hv => ⟨rfl, by rw [hU], by rw [hU]; exact hPc, va_K.moved hv.alike hK, hDc, hN.warm hv⟩⟩ rfl rfl hl rfl (lv_room (Nat.le_of_ble_eq_true hrm)) hdg hcs) kk
end NC
