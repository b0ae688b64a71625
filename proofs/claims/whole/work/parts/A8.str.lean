/-! the String constant WORDS: its cells lie outside the world and stay as they are -/
def wTx : String := "hole flag coal burns wall guest war cold sack takes down up through bring day plain wanted envoy cat not and or left inside same date"
def wBy : List Int32 := [104, 111, 108, 101, 32, 102, 108, 97, 103, 32, 99, 111, 97, 108, 32, 98, 117, 114, 110, 115, 32, 119, 97, 108, 108, 32, 103, 117, 101, 115, 116, 32, 119, 97, 114, 32, 99, 111, 108, 100, 32, 115, 97, 99, 107, 32, 116, 97, 107, 101, 115, 32, 100, 111, 119, 110, 32, 117, 112, 32, 116, 104, 114, 111, 117, 103, 104, 32, 98, 114, 105, 110, 103, 32, 100, 97, 121, 32, 112, 108, 97, 105, 110, 32, 119, 97, 110, 116, 101, 100, 32, 101, 110, 118, 111, 121, 32, 99, 97, 116, 32, 110, 111, 116, 32, 97, 110, 100, 32, 111, 114, 32, 108, 101, 102, 116, 32, 105, 110, 115, 105, 100, 101, 32, 115, 97, 109, 101, 32, 100, 97, 116, 101]
theorem sw_29 : (Jvm.Cond.classLink "CoalHoles" (7 : Nat) "CoalHoles$Tape") ∈ Uw := Uw_of 29 (by decide +kernel) (by decide +kernel)
theorem sw_30 : (Jvm.Cond.instantiable "CoalHoles$Tape" (10 : Nat)) ∈ Uw := Uw_of 30 (by decide +kernel) (by decide +kernel)
theorem sw_31 : (Jvm.Cond.methodLink "CoalHoles" (9 : Nat) ({ cls := "CoalHoles$Tape", name := "<init>", desc := "()V" } : Jvm.MethodName)) ∈ Uw := Uw_of 31 (by decide +kernel) (by decide +kernel)
theorem sw_32 : (Jvm.Cond.instanceMethod ({ cls := "CoalHoles$Tape", name := "<init>", desc := "()V" } : Jvm.MethodName)) ∈ Uw := Uw_of 32 (by decide +kernel) (by decide +kernel)
theorem sw_33 : (Jvm.Cond.code ({ cls := "CoalHoles$Tape", name := "<init>", desc := "()V" } : Jvm.MethodName) prog_7_method_1_code (3 : Nat) (Option.none : Option Jvm.ClassFile.FieldType)) ∈ Uw := Uw_of 33 (by decide +kernel) (by decide +kernel)
theorem sw_34 : (Jvm.Cond.methodLink "CoalHoles$Tape" (3 : Nat) ({ cls := "java/lang/Object", name := "<init>", desc := "()V" } : Jvm.MethodName)) ∈ Uw := Uw_of 34 (by decide +kernel) (by decide +kernel)
theorem sw_36 : (Jvm.Cond.methodLink "CoalHoles$Tape" (21 : Nat) ({ cls := "java/lang/String", name := "length", desc := "()I" } : Jvm.MethodName)) ∈ Uw := Uw_of 36 (by decide +kernel) (by decide +kernel)
theorem sw_37 : (Jvm.Cond.instanceMethod ({ cls := "java/lang/String", name := "length", desc := "()I" } : Jvm.MethodName)) ∈ Uw := Uw_of 37 (by decide +kernel) (by decide +kernel)
theorem sw_38 : (Jvm.Cond.selects "java/lang/String" ({ cls := "java/lang/String", name := "length", desc := "()I" } : Jvm.MethodName) ({ cls := "java/lang/String", name := "length", desc := "()I" } : Jvm.MethodName)) ∈ Uw := Uw_of 38 (by decide +kernel) (by decide +kernel)
theorem sw_39 : (Jvm.Cond.code ({ cls := "java/lang/String", name := "length", desc := "()I" } : Jvm.MethodName) prog_19_method_54_code (1 : Nat) (Option.some Jvm.ClassFile.FieldType.int)) ∈ Uw := Uw_of 39 (by decide +kernel) (by decide +kernel)
theorem sw_40 : (Jvm.Cond.methodLink "java/lang/String" (335 : Nat) ({ cls := "java/lang/String", name := "coder", desc := "()B" } : Jvm.MethodName)) ∈ Uw := Uw_of 40 (by decide +kernel) (by decide +kernel)
theorem sw_41 : (Jvm.Cond.instanceMethod ({ cls := "java/lang/String", name := "coder", desc := "()B" } : Jvm.MethodName)) ∈ Uw := Uw_of 41 (by decide +kernel) (by decide +kernel)
theorem sw_42 : (Jvm.Cond.selects "java/lang/String" ({ cls := "java/lang/String", name := "coder", desc := "()B" } : Jvm.MethodName) ({ cls := "java/lang/String", name := "coder", desc := "()B" } : Jvm.MethodName)) ∈ Uw := Uw_of 42 (by decide +kernel) (by decide +kernel)
theorem sw_43 : (Jvm.Cond.code ({ cls := "java/lang/String", name := "coder", desc := "()B" } : Jvm.MethodName) prog_19_method_152_code (1 : Nat) (Option.some Jvm.ClassFile.FieldType.byte)) ∈ Uw := Uw_of 43 (by decide +kernel) (by decide +kernel)
theorem sw_44 : (Jvm.Cond.fieldLink "java/lang/String" (38 : Nat) "java/lang/String" "COMPACT_STRINGS" "Z") ∈ Uw := Uw_of 44 (by decide +kernel) (by decide +kernel)
theorem sw_46 : (Jvm.Cond.methodLink "CoalHoles$Tape" (27 : Nat) ({ cls := "java/lang/String", name := "charAt", desc := "(I)C" } : Jvm.MethodName)) ∈ Uw := Uw_of 46 (by decide +kernel) (by decide +kernel)
theorem sw_47 : (Jvm.Cond.instanceMethod ({ cls := "java/lang/String", name := "charAt", desc := "(I)C" } : Jvm.MethodName)) ∈ Uw := Uw_of 47 (by decide +kernel) (by decide +kernel)
theorem sw_48 : (Jvm.Cond.selects "java/lang/String" ({ cls := "java/lang/String", name := "charAt", desc := "(I)C" } : Jvm.MethodName) ({ cls := "java/lang/String", name := "charAt", desc := "(I)C" } : Jvm.MethodName)) ∈ Uw := Uw_of 48 (by decide +kernel) (by decide +kernel)
theorem sw_49 : (Jvm.Cond.code ({ cls := "java/lang/String", name := "charAt", desc := "(I)C" } : Jvm.MethodName) prog_19_method_56_code (2 : Nat) (Option.some Jvm.ClassFile.FieldType.char)) ∈ Uw := Uw_of 49 (by decide +kernel) (by decide +kernel)
theorem sw_50 : (Jvm.Cond.methodLink "java/lang/String" (492 : Nat) ({ cls := "java/lang/String", name := "isLatin1", desc := "()Z" } : Jvm.MethodName)) ∈ Uw := Uw_of 50 (by decide +kernel) (by decide +kernel)
theorem sw_51 : (Jvm.Cond.instanceMethod ({ cls := "java/lang/String", name := "isLatin1", desc := "()Z" } : Jvm.MethodName)) ∈ Uw := Uw_of 51 (by decide +kernel) (by decide +kernel)
theorem sw_52 : (Jvm.Cond.selects "java/lang/String" ({ cls := "java/lang/String", name := "isLatin1", desc := "()Z" } : Jvm.MethodName) ({ cls := "java/lang/String", name := "isLatin1", desc := "()Z" } : Jvm.MethodName)) ∈ Uw := Uw_of 52 (by decide +kernel) (by decide +kernel)
theorem sw_53 : (Jvm.Cond.code ({ cls := "java/lang/String", name := "isLatin1", desc := "()Z" } : Jvm.MethodName) prog_19_method_154_code (1 : Nat) (Option.some Jvm.ClassFile.FieldType.boolean)) ∈ Uw := Uw_of 53 (by decide +kernel) (by decide +kernel)
theorem sw_54 : (Jvm.Cond.methodLink "java/lang/String" (495 : Nat) ({ cls := "java/lang/StringLatin1", name := "charAt", desc := "([BI)C" } : Jvm.MethodName)) ∈ Uw := Uw_of 54 (by decide +kernel) (by decide +kernel)
theorem sw_55 : (Jvm.Cond.static ({ cls := "java/lang/StringLatin1", name := "charAt", desc := "([BI)C" } : Jvm.MethodName)) ∈ Uw := Uw_of 55 (by decide +kernel) (by decide +kernel)
theorem sw_56 : (Jvm.Cond.code ({ cls := "java/lang/StringLatin1", name := "charAt", desc := "([BI)C" } : Jvm.MethodName) prog_20_method_2_code (2 : Nat) (Option.some Jvm.ClassFile.FieldType.char)) ∈ Uw := Uw_of 56 (by decide +kernel) (by decide +kernel)
theorem sw_57 : (Jvm.Cond.methodLink "java/lang/StringLatin1" (9 : Nat) ({ cls := "java/lang/String", name := "checkIndex", desc := "(II)V" } : Jvm.MethodName)) ∈ Uw := Uw_of 57 (by decide +kernel) (by decide +kernel)
theorem sw_58 : (Jvm.Cond.static ({ cls := "java/lang/String", name := "checkIndex", desc := "(II)V" } : Jvm.MethodName)) ∈ Uw := Uw_of 58 (by decide +kernel) (by decide +kernel)
theorem sw_59 : (Jvm.Cond.code ({ cls := "java/lang/String", name := "checkIndex", desc := "(II)V" } : Jvm.MethodName) prog_19_method_155_code (2 : Nat) (Option.none : Option Jvm.ClassFile.FieldType)) ∈ Uw := Uw_of 59 (by decide +kernel) (by decide +kernel)
theorem sw_60 : (Jvm.Cond.fieldLink "java/lang/String" (1053 : Nat) "jdk/internal/util/Preconditions" "SIOOBE_FORMATTER" "Ljava/util/function/BiFunction;") ∈ Uw := Uw_of 60 (by decide +kernel) (by decide +kernel)
theorem sw_62 : (Jvm.Cond.methodLink "java/lang/String" (1059 : Nat) ({ cls := "jdk/internal/util/Preconditions", name := "checkIndex", desc := "(IILjava/util/function/BiFunction;)I" } : Jvm.MethodName)) ∈ Uw := Uw_of 62 (by decide +kernel) (by decide +kernel)
theorem sw_63 : (Jvm.Cond.static ({ cls := "jdk/internal/util/Preconditions", name := "checkIndex", desc := "(IILjava/util/function/BiFunction;)I" } : Jvm.MethodName)) ∈ Uw := Uw_of 63 (by decide +kernel) (by decide +kernel)
theorem sw_64 : (Jvm.Cond.code ({ cls := "jdk/internal/util/Preconditions", name := "checkIndex", desc := "(IILjava/util/function/BiFunction;)I" } : Jvm.MethodName) prog_26_method_11_code (3 : Nat) (Option.some Jvm.ClassFile.FieldType.int)) ∈ Uw := Uw_of 64 (by decide +kernel) (by decide +kernel)
theorem sw_1679 : (Jvm.Cond.fieldLink "java/lang/String" (9 : Nat) "java/lang/String" "value" "[B") ∈ Uw := Uw_of 1679 (by decide +kernel) (by decide +kernel)
theorem sw_1680 : (Jvm.Cond.fieldLink "java/lang/String" (15 : Nat) "java/lang/String" "coder" "B") ∈ Uw := Uw_of 1680 (by decide +kernel) (by decide +kernel)

def SX (K V : Nat) (A : Nat → Prop) (U : State) (H : Heap) : Prop := va_O "java/lang/String" K A U H ∧ va_OF "java/lang/String" "coder" "B" (.int 0) K A U H ∧ va_OF "java/lang/String" "value" "[B" (.ref V) K A U H ∧ va_T .byte V 133 (fun j => .int (wBy.getD j 0)) A U H ∧ vk_R "CoalHoles$Tape" 19 wTx K U ∧ va_Z "java/lang/String" "COMPACT_STRINGS" "Z" (.int 1) A U H ∧ va_Zq "jdk/internal/util/Preconditions" "SIOOBE_FORMATTER" "Ljava/util/function/BiFunction;" A U H
theorem SX.at {K V : Nat} {A B : Nat → Prop} {s U : State} {H0 H : Heap} {locs : List Loc} (h : SX K V A s H0) (hS : va_S A H0 H locs) (hU : U.heap = H) (hv : s.WarmedH U.vm) (hB : ∀ q, B q → A q) : SX K V B U U.heap := by
  rw [hU]
  obtain ⟨h1, h2, h3, h4, h5, h6, h7⟩ := h
  have ha := hv.alike
  exact ⟨va_O.moved ha ((h1.kept hS.2.1).narrow hB), va_OF.moved ha ((h2.kept hS.2.1).narrow hB), va_OF.moved ha ((h3.kept hS.2.1).narrow hB), va_T.moved ha ((h4.kept hS.2.1).narrow hB), h5.warm hv, va_Z.moved ha ((h6.kept hS.2.1).narrow hB), va_Zq.moved ha ((h7.kept hS.2.1).narrow hB)⟩
theorem SX.same {K V : Nat} {A : Nat → Prop} {s U : State} {H : Heap} (h : SX K V A s H) (hv : U.vm = s.vm) : SX K V A U H := by
  obtain ⟨h1, h2, h3, h4, h5, h6, h7⟩ := h
  have ha : s.vm.Alike U.vm := by rw [hv]; exact Vm.Alike.refl s.vm
  exact ⟨va_O.moved ha h1, va_OF.moved ha h2, va_OF.moved ha h3, va_T.moved ha h4, h5.same hv, va_Z.moved ha h6, va_Zq.moved ha h7⟩
def PS (D : va_G) (cy : Nat → ClassId) (K V : Nat) (avs : List Value) (sz : Nat) : Array Value → State → Prop := va_Pc avs (fun U => U.heap.size = sz ∧ va_K D vwCl (tyG cy) U ∧ SX K V (va_A [] sz) U U.heap)
theorem PS_blind {D : va_G} {cy : Nat → ClassId} {K V : Nat} {avs : List Value} {sz : Nat} : FrameBlind (PS D cy K V avs sz) := fun a U g mk q => by
  obtain ⟨q0, q1, qK, qS⟩ := q
  exact ⟨q0, q1, va_K.moved (u := U) (U := U.calling g mk a) (Vm.Alike.refl U.vm) qK, SX.same (U := U.calling g mk a) qS rfl⟩
def SG (l : Launch) (y : MethodName) (cc : ByteArray) (nL : Nat) (ret : Option FieldType) (rm : Room) (D : va_G) (cy : Nat → ClassId) (K V : Nat) (avs : List Value) (rv : Option Value) : Prop :=
  ∀ sz : Nat, Met l y (Cond.code y cc nL ret :: Uw) rm (PS D cy K V avs sz) (QG D cy [] rv (va_A [] sz)) 0 0 (va_A [] sz)
theorem wd_nil {D : va_G} {Af : Nat → Prop} {H0 : Heap} : wd D [] Af H0 H0 [] := ⟨fun i x h => by simp at h, ⟨fun i j a b ha => by simp at ha, fun i x h => by simp at h⟩, va_S.rf⟩
theorem JN_nil {w : va_W} : JN [] w [] [] w := ⟨fun i x h => by simp at h, fun k x h => Or.inr ⟨by simp, h⟩, fun i j k h => by simp at h, fun k => rfl⟩
theorem SG.of {l : Launch} {y : MethodName} {cc : ByteArray} {nL : Nat} {ret : Option FieldType} {rm : Room} {D : va_G} {cy : Nat → ClassId} {K V : Nat} {avs : List Value} {rv : Option Value} {own : String}
    (hy : plainName y.cls = true) (ho : y.cls = own) (hn : Nat.ble (lg_sl avs).length nL = true)
    (body : ∀ (p : Program) (e : Env) (s : State) (m : MethodId) (below : List Frame) (meth : Method) (c : Code) (ls : Array Slot) (Af : Nat → Prop), CX p s m avs.toArray meth c cc nL ret own → va_K D vwCl (tyG cy) s → SX K V Af s s.heap → (∀ q, s.heap.size ≤ q → Af q) → wd D [] Af s.heap s.heap [] → lv_has ls nL (lv_args 0 avs) →
      W p l e rm s m avs.toArray below meth c s.heap [] 0 0 (ZQ below D cy [] rv Af avs.toArray s) (F0 m 0 ls [])) : SG l y cc nL ret rm D cy K V avs rv := by
  intro sz
  refine Met.ofW (cc := cc) (maxL := nL) (ret := ret) hy rfl ?_
  intro p e s m args below meth c s₁ B0 hml hv
  obtain ⟨rfl, hsz, hK, hS⟩ := hv
  subst hsz
  have hts := atoms_spec (ws := Cond.code y cc nL ret :: Uw) B0.pre
  have hown : s.vm.findClass own = some m.cls := by rw [← ho]; exact findClass_of_methodNamed B0.named
  have hl := lv_entry avs (n := nL) (Nat.le_of_ble_eq_true hn)
  show W p l e rm s m avs.toArray below meth c s.heap [] 0 0 _ (entryFrame m avs.toArray nL)
  rw [lg_entry_eq]
  generalize (lg_sl avs ++ List.replicate (nL - (lg_sl avs).length) Slot.unset).toArray = ls at hl ⊢
  exact body p e s m below meth c ls (va_A [] s.heap.size) ⟨B0.exec, B0.bytes, B0.returns, hml, hown, fun w hw => hts w (List.mem_cons_of_mem _ hw), B0.notSynchronized⟩ hK hS (fun q h => Or.inr h) wd_nil hl
section SC
variable {p : Program} {l : Launch} {e : Env} {R : Room} {s : State} {m : MethodId} {args : Array Value} {below : List Frame} {meth : Method} {c : Code} {H : Heap} {locs : List Loc} {cells slots : Nat} {Q : State → Prop}
variable {cc : ByteArray} {nL pc : Nat} {ret : Option FieldType} {own : String} {ls : Array Slot} {rest st0 : List Value} {D : va_G} {Af : Nat → Prop} {cy : Nat → ClassId} {w : va_W} {K V : Nat}
theorem sc_V {rv : Option Value} {y : MethodName} {bytes : ByteArray} {maxL n idx : Nat} {rety : Option FieldType} {rm : Room} {As : List Value} (C0 : CX p s m args meth c cc nL ret own) (hK : va_K D vwCl (tyG cy) s) (hS : SX K V Af s s.heap) (hl : ls.size = nL) (hW : wd D w Af s.heap H locs) (hA : ∀ q, s.heap.size ≤ q → Af q)
    (hM : SG l y bytes maxL rety rm D cy K V (.ref K :: As) rv) (hG : GoodIn Uw (wsV own idx "java/lang/String" y (Cond.code y bytes maxL rety :: Uw))) (hrc : rm.cells = 0) (hrs : rm.slots = 0)
    (hd : y.cls = "java/lang/String" ∧ y.cls ≠ "java/lang/invoke/MethodHandle" ∧ y.cls ≠ "java/lang/invoke/VarHandle" ∧ (parseMethodDescriptor y.desc).map (fun d => d.parameters.length) = some n) (hR : Nat.ble (rm.frames + 1) R.frames = true ∧ Nat.ble (8 + (maxL + 11) + rm.locals) R.locals = true)
    (hn : As.length = n) (hst : st0 = As.reverse ++ .ref K :: rest) (hrm : Nat.ble ((rest.map fun v => v.category).sum) 8 = true) (hdg : decode cc pc = .ok (.invokevirtual idx, 3)) (hcs : cells + 0 ≤ R.cells ∧ slots + 0 ≤ R.slots)
    (kk : ∀ (H : Heap) (locs : List Loc), wd D w Af s.heap H locs → W p l e R s m args below meth c H locs cells slots Q (F0 m (pc + 3) ls (rv.toList ++ rest))) : W p l e R s m args below meth c H locs cells slots Q (F0 m pc ls st0) := by
  subst hst
  have hF := (JN_nil (w := w)).free hW.2.1 hW.2.2 hA
  obtain ⟨cell, h1, h2, h3, -⟩ := hS.1.kept hW.2.2.2.1
  exact c_run hW hA JN_nil (va_runV (As := As) (rest := rest) (Ts := Uw) ⟨C0.1, C0.2.1, C0.2.2.2.1, C0.2.2.2.2.1, C0.2.2.2.2.2.1⟩ (hM H.size) (cwV n C0.2.2.2.2.2.1 hG rfl hrc hrs hd ⟨Nat.le_of_ble_eq_true hR.1, Nat.le_of_ble_eq_true hR.2⟩) ⟨PS_blind, ⟨cell, h1, h2, h3⟩, fun U hU hv => ⟨rfl, by rw [hU], va_K.moved hv.alike hK, hS.at hW.2.2 hU hv hF⟩⟩ rfl hn hl rfl (lv_room (Nat.le_of_ble_eq_true hrm)) hdg hcs) kk
theorem sc_S {rv : Option Value} {y : MethodName} {bytes : ByteArray} {maxL n idx : Nat} {rety : Option FieldType} {rm : Room} {As : List Value} (C0 : CX p s m args meth c cc nL ret own) (hK : va_K D vwCl (tyG cy) s) (hS : SX K V Af s s.heap) (hl : ls.size = nL) (hW : wd D w Af s.heap H locs) (hA : ∀ q, s.heap.size ≤ q → Af q)
    (hM : SG l y bytes maxL rety rm D cy K V As rv) (hG : Cond.methodLink own idx y ∈ Uw ∧ Cond.static y ∈ Uw ∧ Cond.initialized y.cls ∈ Uw ∧ Cond.code y bytes maxL rety ∈ Uw) (hrc : rm.cells = 0) (hrs : rm.slots = 0)
    (hd : y.cls ≠ "java/lang/invoke/MethodHandle" ∧ y.cls ≠ "java/lang/invoke/VarHandle" ∧ (parseMethodDescriptor y.desc).map (fun d => d.parameters.length) = some n) (hR : Nat.ble (rm.frames + 1) R.frames = true ∧ Nat.ble (8 + (maxL + 11) + rm.locals) R.locals = true)
    (hn : As.length = n) (hst : st0 = As.reverse ++ rest) (hrm : Nat.ble ((rest.map fun v => v.category).sum) 8 = true) (hdg : decode cc pc = .ok (.invokestatic idx, 3)) (hcs : cells + 0 ≤ R.cells ∧ slots + 0 ≤ R.slots)
    (kk : ∀ (H : Heap) (locs : List Loc), wd D w Af s.heap H locs → W p l e R s m args below meth c H locs cells slots Q (F0 m (pc + 3) ls (rv.toList ++ rest))) : W p l e R s m args below meth c H locs cells slots Q (F0 m pc ls st0) := by
  subst hst
  have hF := (JN_nil (w := w)).free hW.2.1 hW.2.2 hA
  have ht := C0.2.2.2.2.2.1
  exact c_run hW hA JN_nil (va_runS (As := As) (rest := rest) (Ts := Uw) ⟨C0.1, C0.2.1, C0.2.2.2.1, C0.2.2.2.2.1, ht⟩ (hM H.size) ⟨callB_of n ht (Uw_cons hG.2.2.2 Uw_all) rfl hrc hrs (ht _ hG.2.2.1) (ht _ hG.1) hd ⟨Nat.le_of_ble_eq_true hR.1, Nat.le_of_ble_eq_true hR.2⟩, ht _ hG.2.1⟩ ⟨PS_blind, fun U hU hv => ⟨rfl, by rw [hU], va_K.moved hv.alike hK, hS.at hW.2.2 hU hv hF⟩⟩ rfl hn hl rfl (lv_room (Nat.le_of_ble_eq_true hrm)) hdg hcs) kk
theorem r_nar {w2 : va_W} {ty : FieldType} (C0 : CX p s m args meth c cc nL (some ty) own) (hK : va_K D vwCl (tyG cy) s) (hW : wd D w2 Af s.heap H locs) {v v' : Int32} (hn : narrow ty (.int v) = .int v') (hdg : decode cc pc = .ok (.ireturn, 1)) :
    W p l e R s m args below meth c H locs 0 0 (ZQ below D cy w2 (some (.int v')) Af args s) (F0 m pc ls [.int v]) :=
  W_zretN C0.1 C0.2.1 C0.2.2.1 hn (fun t ht hv => QG_mk hK hW t ht hv) hW.2.2.2.2 hdg C0.2.2.2.2.2.2
end SC
def rmJ0 : Room := { frames := 0, cells := 0, slots := 0, locals := 0 }
def rmJ0_length : Room := { frames := 1, cells := 0, slots := 0, locals := 20 }
def rmJ0_check : Room := { frames := 1, cells := 0, slots := 0, locals := 22 }
def rmJ1_charAt : Room := { frames := 2, cells := 0, slots := 0, locals := 43 }
def rmJ0_charAt : Room := { frames := 3, cells := 0, slots := 0, locals := 64 }
theorem KJ0_coder (l : Launch) (D : va_G) (cy : Nat → ClassId) (K V : Nat) : SG l yJ0_coder_7d493 cJ0_coder_7d493 1 (some .byte) rmJ0 D cy K V [.ref K] (some (.int 0)) := by
  refine SG.of (own := RJ0) (by decide) rfl rfl ?_
  intro p e s m below meth c ls Af C0 hK hS hA hW hl
  refine va_gets C0.1 C0.2.1 hS.2.2.2.2.2.1 hW.2.2 C0.2.2.2.2.1 (C0.2.2.2.2.2.1 _ sw_44) (fun _ h => h) dJ0_coder_7d493_0 ?_
  refine lv_if_eq (tgt := 13) C0.1 C0.2.1 dJ0_coder_7d493_3 (by decide) (fun hc => absurd hc (by decide)) (fun _ => ?_)
  refine lv_aload_n C0.1 C0.2.1 dJ0_coder_7d493_6 rfl (lv_at hl 0 rfl) ?_
  refine vk_getf C0.1 C0.2.1 hS.2.1 hW.2.2 C0.2.2.2.2.1 (C0.2.2.2.2.2.1 _ sw_1680) (fun _ h => h) dJ0_coder_7d493_7 ?_
  refine lv_goto (tgt := 14) C0.1 C0.2.1 dJ0_coder_7d493_10 (by decide) ?_
  exact r_nar C0 hK hW rfl dJ0_coder_7d493_14
theorem KJ0_isLatin1 (l : Launch) (D : va_G) (cy : Nat → ClassId) (K V : Nat) : SG l yJ0_isLatin1_aae02 cJ0_isLatin1_aae02 1 (some .boolean) rmJ0 D cy K V [.ref K] (some (.int 1)) := by
  refine SG.of (own := RJ0) (by decide) rfl rfl ?_
  intro p e s m below meth c ls Af C0 hK hS hA hW hl
  refine va_gets C0.1 C0.2.1 hS.2.2.2.2.2.1 hW.2.2 C0.2.2.2.2.1 (C0.2.2.2.2.2.1 _ sw_44) (fun _ h => h) dJ0_isLatin1_aae02_0 ?_
  refine lv_if_eq (tgt := 17) C0.1 C0.2.1 dJ0_isLatin1_aae02_3 (by decide) (fun hc => absurd hc (by decide)) (fun _ => ?_)
  refine lv_aload_n C0.1 C0.2.1 dJ0_isLatin1_aae02_6 rfl (lv_at hl 0 rfl) ?_
  refine vk_getf C0.1 C0.2.1 hS.2.1 hW.2.2 C0.2.2.2.2.1 (C0.2.2.2.2.2.1 _ sw_1680) (fun _ h => h) dJ0_isLatin1_aae02_7 ?_
  refine lv_if_ne (tgt := 17) C0.1 C0.2.1 dJ0_isLatin1_aae02_10 (by decide) (fun hc => absurd rfl hc) (fun _ => ?_)
  refine lv_iconst (v := 1) C0.1 C0.2.1 dJ0_isLatin1_aae02_13 kI_1 ?_
  refine lv_goto (tgt := 18) C0.1 C0.2.1 dJ0_isLatin1_aae02_14 (by decide) ?_
  exact r_nar C0 hK hW (by decide +kernel) dJ0_isLatin1_aae02_18
theorem KJ0_length (l : Launch) (D : va_G) (cy : Nat → ClassId) (K V : Nat) : SG l yJ0_length_8abf5 cJ0_length_8abf5 1 (some .int) rmJ0_length D cy K V [.ref K] (some (.int (nI 133))) := by
  refine SG.of (own := RJ0) (by decide) rfl rfl ?_
  intro p e s m below meth c ls Af C0 hK hS hA hW hl
  refine lv_aload_n C0.1 C0.2.1 dJ0_length_8abf5_0 rfl (lv_at hl 0 rfl) ?_
  refine vk_getf C0.1 C0.2.1 hS.2.2.1 hW.2.2 C0.2.2.2.2.1 (C0.2.2.2.2.2.1 _ sw_1679) (fun _ h => h) dJ0_length_8abf5_1 ?_
  refine va_tlen (v := nI 133) C0.1 C0.2.1 hS.2.2.2.1 hW.2.2 rfl dJ0_length_8abf5_4 ?_
  refine lv_aload_n C0.1 C0.2.1 dJ0_length_8abf5_5 rfl (lv_at hl 0 rfl) ?_
  refine sc_V (rv := some (.int 0)) (As := []) C0 hK hS hl.1 hW hA (KJ0_coder l D cy K V) (Uw_V sw_40 sw_41 sw_42 uw_3 sw_43) rfl rfl ⟨rfl, by decide, by decide, by decide +kernel⟩ ⟨rfl, rfl⟩ rfl rfl rfl dJ0_length_8abf5_6 ⟨Nat.zero_le _, Nat.zero_le _⟩ (fun H locs hW => ?_)
  refine lv_ishr C0.1 C0.2.1 dJ0_length_8abf5_9 ?_
  have hv : nI 133 >>> ((0 : Int32) &&& 31) = nI 133 := by decide +kernel
  exact hv ▸ r_int C0 hK hW dJ0_length_8abf5_10
theorem KJ3_check (l : Launch) (D : va_G) (cy : Nat → ClassId) (K V : Nat) {i : Nat} (hi : i < 133) (f : Value) (hf : f.category = 1 ∧ (f = .null ∨ ∃ t, f = .ref t)) : SG l yJ3_checkIndex_8e157 cJ3_checkIndex_8e157 3 (some .int) rmJ0 D cy K V [.int (nI i), .int (nI 133), f] (some (.int (nI i))) := by
  refine SG.of (own := RJ3) (by decide) rfl (by rcases hf.2 with h | ⟨t, h⟩ <;> subst h <;> rfl) ?_
  intro p e s m below meth c ls Af C0 hK hS hA hW hl
  have hl2 : lv_has ls 3 [(0, .int (nI i)), (1, .int (nI 133)), (2, f)] := hl
  refine lv_iload_n C0.1 C0.2.1 dJ3_checkIndex_8e157_0 rfl (lv_at hl2 0 rfl) ?_
  refine lv_if_lt (tgt := 9) C0.1 C0.2.1 dJ3_checkIndex_8e157_1 (by decide) (fun hc => absurd hc (nI_pos (by omega))) (fun _ => ?_)
  refine lv_iload_n C0.1 C0.2.1 dJ3_checkIndex_8e157_4 rfl (lv_at hl2 0 rfl) ?_
  refine lv_iload_n C0.1 C0.2.1 dJ3_checkIndex_8e157_5 rfl (lv_at hl2 1 rfl) ?_
  refine lv_icmp_lt (tgt := 16) C0.1 C0.2.1 dJ3_checkIndex_8e157_6 (by decide) (fun _ => ?_) (fun hc => absurd (nI_lt hi (by omega)) hc)
  refine lv_iload_n C0.1 C0.2.1 dJ3_checkIndex_8e157_16 rfl (lv_at hl2 0 rfl) ?_
  exact r_int C0 hK hW dJ3_checkIndex_8e157_17
theorem KJ0_check (l : Launch) (D : va_G) (cy : Nat → ClassId) (K V : Nat) {i : Nat} (hi : i < 133) : SG l yJ0_checkIndex_df160 cJ0_checkIndex_df160 2 none rmJ0_check D cy K V [.int (nI i), .int (nI 133)] none := by
  refine SG.of (own := RJ0) (by decide) rfl rfl ?_
  intro p e s m below meth c ls Af C0 hK hS hA hW hl
  refine lv_iload_n C0.1 C0.2.1 dJ0_checkIndex_df160_0 rfl (lv_at hl 0 rfl) ?_
  refine lv_iload_n C0.1 C0.2.1 dJ0_checkIndex_df160_1 rfl (lv_at hl 1 rfl) ?_
  have go : ∀ f : Value, (f.category = 1 ∧ (f = .null ∨ ∃ t, f = .ref t)) → W p l e rmJ0_check s m _ below meth c s.heap [] 0 0 (ZQ below D cy [] none Af _ s) (F0 m 5 ls [f, .int (nI 133), .int (nI i)]) := fun f hf => by
    refine sc_S (n := 3) (rv := some (.int (nI i))) (As := [.int (nI i), .int (nI 133), f]) (rest := []) C0 hK hS hl.1 hW hA (KJ3_check l D cy K V hi f hf) ⟨sw_62, sw_63, uw_5, sw_64⟩ rfl rfl ⟨by decide, by decide, by decide +kernel⟩ ⟨rfl, rfl⟩ rfl rfl rfl dJ0_checkIndex_df160_5 ⟨Nat.zero_le _, Nat.zero_le _⟩ (fun H locs hW => ?_)
    refine lv_pop C0.1 C0.2.1 dJ0_checkIndex_df160_8 rfl ?_
    exact r_void C0 hK hW dJ0_checkIndex_df160_9
  rcases hS.2.2.2.2.2.2 with hz | ⟨t, hz⟩
  · exact va_gets C0.1 C0.2.1 hz hW.2.2 C0.2.2.2.2.1 (C0.2.2.2.2.2.1 _ sw_60) (fun _ h => h) dJ0_checkIndex_df160_2 (go _ ⟨rfl, Or.inl rfl⟩)
  · exact va_gets C0.1 C0.2.1 hz hW.2.2 C0.2.2.2.2.1 (C0.2.2.2.2.2.1 _ sw_60) (fun _ h => h) dJ0_checkIndex_df160_2 (go _ ⟨rfl, Or.inr ⟨t, rfl⟩⟩)
/-- the sign at j -/
def chv (j : Nat) : Int32 := ((wBy.getD j 0 &&& 255).toUInt32 % 65536).toInt32
theorem chv_nar : ∀ j, j < 133 → narrow .char (.int (chv j)) = .int (chv j) := by decide +kernel
theorem KJ1_charAt (l : Launch) (D : va_G) (cy : Nat → ClassId) (K V : Nat) {i : Nat} (hi : i < 133) : SG l yJ1_charAt_3b067 cJ1_charAt_3b067 2 (some .char) rmJ1_charAt D cy K V [.ref V, .int (nI i)] (some (.int (chv i))) := by
  refine SG.of (own := RJ1) (by decide) rfl rfl ?_
  intro p e s m below meth c ls Af C0 hK hS hA hW hl
  refine lv_iload_n C0.1 C0.2.1 dJ1_charAt_3b067_0 rfl (lv_at hl 1 rfl) ?_
  refine lv_aload_n C0.1 C0.2.1 dJ1_charAt_3b067_1 rfl (lv_at hl 0 rfl) ?_
  refine va_tlen (v := nI 133) C0.1 C0.2.1 hS.2.2.2.1 hW.2.2 rfl dJ1_charAt_3b067_2 ?_
  refine sc_S (n := 2) (rv := none) (As := [.int (nI i), .int (nI 133)]) (rest := []) C0 hK hS hl.1 hW hA (KJ0_check l D cy K V hi) ⟨sw_57, sw_58, uw_3, sw_59⟩ rfl rfl ⟨by decide, by decide, by decide +kernel⟩ ⟨rfl, rfl⟩ rfl rfl rfl dJ1_charAt_3b067_3 ⟨Nat.zero_le _, Nat.zero_le _⟩ (fun H locs hW => ?_)
  refine lv_aload_n C0.1 C0.2.1 dJ1_charAt_3b067_6 rfl (lv_at hl 0 rfl) ?_
  refine lv_iload_n C0.1 C0.2.1 dJ1_charAt_3b067_7 rfl (lv_at hl 1 rfl) ?_
  refine va_tb (v := .int (wBy.getD i 0)) C0.1 C0.2.1 hS.2.2.2.1 hW.2.2 (vp_in_nI hi (by omega)) (by rw [nI_clamp (by omega)]) dJ1_charAt_3b067_8 ?_
  refine lv_sipush (v := 255) C0.1 C0.2.1 dJ1_charAt_3b067_9 (by decide +kernel) ?_
  refine lv_iand C0.1 C0.2.1 dJ1_charAt_3b067_12 ?_
  refine lv_i2c (v := chv i) C0.1 C0.2.1 dJ1_charAt_3b067_13 rfl ?_
  exact r_nar C0 hK hW (chv_nar i hi) dJ1_charAt_3b067_14
theorem KJ0_charAt (l : Launch) (D : va_G) (cy : Nat → ClassId) (K V : Nat) {i : Nat} (hi : i < 133) : SG l yJ0_charAt_5068e cJ0_charAt_5068e 2 (some .char) rmJ0_charAt D cy K V [.ref K, .int (nI i)] (some (.int (chv i))) := by
  refine SG.of (own := RJ0) (by decide) rfl rfl ?_
  intro p e s m below meth c ls Af C0 hK hS hA hW hl
  refine lv_aload_n C0.1 C0.2.1 dJ0_charAt_5068e_0 rfl (lv_at hl 0 rfl) ?_
  refine sc_V (rv := some (.int 1)) (As := []) (rest := []) C0 hK hS hl.1 hW hA (KJ0_isLatin1 l D cy K V) (Uw_V sw_50 sw_51 sw_52 uw_3 sw_53) rfl rfl ⟨rfl, by decide, by decide, by decide +kernel⟩ ⟨rfl, rfl⟩ rfl rfl rfl dJ0_charAt_5068e_1 ⟨Nat.zero_le _, Nat.zero_le _⟩ (fun H locs hW => ?_)
  refine lv_if_eq (tgt := 16) C0.1 C0.2.1 dJ0_charAt_5068e_4 (by decide) (fun hc => absurd hc (by decide)) (fun _ => ?_)
  refine lv_aload_n C0.1 C0.2.1 dJ0_charAt_5068e_7 rfl (lv_at hl 0 rfl) ?_
  refine vk_getf C0.1 C0.2.1 hS.2.2.1 hW.2.2 C0.2.2.2.2.1 (C0.2.2.2.2.2.1 _ sw_1679) (fun _ h => h) dJ0_charAt_5068e_8 ?_
  refine lv_iload_n C0.1 C0.2.1 dJ0_charAt_5068e_11 rfl (lv_at hl 1 rfl) ?_
  refine sc_S (n := 2) (rv := some (.int (chv i))) (As := [.ref V, .int (nI i)]) (rest := []) C0 hK hS hl.1 hW hA (KJ1_charAt l D cy K V hi) ⟨sw_54, sw_55, uw_4, sw_56⟩ rfl rfl ⟨by decide, by decide, by decide +kernel⟩ ⟨rfl, rfl⟩ rfl rfl rfl dJ0_charAt_5068e_12 ⟨Nat.zero_le _, Nat.zero_le _⟩ (fun H locs hW => ?_)
  exact r_nar C0 hK hW (chv_nar i hi) dJ0_charAt_5068e_15

