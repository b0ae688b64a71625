/-! the tape's constructor: the words out of the constant -/
def PGX (D : va_G) (cy : Nat → ClassId) (K V : Nat) (w : va_W) (avs : List Value) (sz : Nat) : Array Value → State → Prop := va_Pc avs (fun U => U.heap.size = sz ∧ va_P D vwCl w U.heap ∧ va_K D vwCl (tyG cy) U ∧ va_D (fun _ => True) w ∧ NWs U ∧ SX K V (va_A w sz) U U.heap)
theorem PGX_blind {D : va_G} {cy : Nat → ClassId} {K V : Nat} {w : va_W} {avs : List Value} {sz : Nat} : FrameBlind (PGX D cy K V w avs sz) := fun a U g mk q => by
  obtain ⟨q0, q1, qP, qK, qD, qN, qS⟩ := q
  exact ⟨q0, q1, qP, va_K.moved (u := U) (U := U.calling g mk a) (Vm.Alike.refl U.vm) qK, qD, qN.same rfl, SX.same (U := U.calling g mk a) qS rfl⟩
def CNX (l : Launch) (y : MethodName) (cc : ByteArray) (nL : Nat) (rm : Room) (D : va_G) (cy : Nat → ClassId) (K V : Nat) (ci : Nat) (fs : List Value) (lay : List Shp) (I : MI) (J : MJ) (A : MI) (B : MJ) (E : (Nat → Nat) → MP → Prop) (k n : Nat) : Prop :=
  ∀ a sz : Nat, Met l y (Cond.code y cc nL none :: Uw) rm (PGX D cy K V [(a, .inr (ci, fs))] [.ref a] sz) (QN D cy lay a I J A B E (va_A [(a, .inr (ci, fs))] sz)) k n (va_A [(a, .inr (ci, fs))] sz)
theorem CNX.of {l : Launch} {y : MethodName} {cc : ByteArray} {nL : Nat} {rm : Room} {D : va_G} {cy : Nat → ClassId} {K V : Nat} {ci : Nat} {fs : List Value} {lay : List Shp} {I : MI} {J : MJ} {A : MI} {B : MJ} {E : (Nat → Nat) → MP → Prop} {k n : Nat} {own : String}
    (hy : plainName y.cls = true) (ho : y.cls = own) (hyn : y.name = "<init>") (hn : Nat.ble 1 nL = true)
    (body : ∀ (a : Nat) (p : Program) (e : Env) (s : State) (m : MethodId) (below : List Frame) (meth : Method) (c : Code) (ls : Array Slot) (Af : Nat → Prop), CX p s m #[.ref a] meth c cc nL none own → meth.name = "<init>" → va_K D vwCl (tyG cy) s → NWs s → SX K V Af s s.heap → (∀ q, s.heap.size ≤ q → Af q) → wd D [(a, .inr (ci, fs))] Af s.heap s.heap [] → lv_has ls nL [(0, .ref a)] →
      W p l e rm s m #[.ref a] below meth c s.heap [] 0 0 (MQ below (QN D cy lay a I J A B E Af) #[.ref a] s k n Af) (F0 m 0 ls [])) : CNX l y cc nL rm D cy K V ci fs lay I J A B E k n := by
  intro a sz
  refine Met.ofW (cc := cc) (maxL := nL) (ret := none) hy rfl ?_
  intro p e s m args below meth c s₁ B0 hml hv
  obtain ⟨rfl, hsz, hP, hK, hD0, hN, hS⟩ := hv
  subst hsz
  have hts := atoms_spec (ws := Cond.code y cc nL none :: Uw) B0.pre
  have hown : s.vm.findClass own = some m.cls := by rw [← ho]; exact findClass_of_methodNamed B0.named
  have hin : meth.name = "<init>" := by rw [← hyn]; exact (name_of_methodNamed B0.named B0.method).1
  have hD := hD0.self (sz := s.heap.size)
  have hl := lv_entry [.ref a] (n := nL) (Nat.le_of_ble_eq_true hn)
  show W p l e _ s m #[.ref a] below meth c s.heap [] 0 0 _ (entryFrame m ([.ref a] : List Value).toArray nL)
  rw [lg_entry_eq]
  generalize (lg_sl [.ref a] ++ List.replicate (nL - (lg_sl [.ref a]).length) Slot.unset).toArray = ls at hl ⊢
  exact body a p e s m below meth c ls (va_A [(a, .inr (ci, fs))] s.heap.size) ⟨B0.exec, B0.bytes, B0.returns, hml, hown, fun w hw => hts w (List.mem_cons_of_mem _ hw), B0.notSynchronized⟩ hin hK hN hS (fun q h => Or.inr h) ⟨hP, hD, va_S.rf⟩ hl
section NX
variable {p : Program} {l : Launch} {e : Env} {R : Room} {s : State} {m : MethodId} {args : Array Value} {below : List Frame} {meth : Method} {c : Code} {H : Heap} {locs : List Loc} {cells slots : Nat} {Q : State → Prop}
variable {cc : ByteArray} {nL pc : Nat} {ret : Option FieldType} {own : String} {ls : Array Slot} {rest st0 : List Value} {D : va_G} {Af : Nat → Prop} {cy : Nat → ClassId} {w : va_W} {K V : Nat}
theorem n_callX {y : MethodName} {bytes : ByteArray} {maxL idx q ci k n : Nat} {fs : List Value} {lay : List Shp} {I : MI} {J : MJ} {A : MI} {B : MJ} {E : (Nat → Nat) → MP → Prop} {rm : Room} (C0 : CX p s m args meth c cc nL ret own) (hK : va_K D vwCl (tyG cy) s) (hN : NWs s) (hS : SX K V Af s s.heap) (hl : ls.size = nL) (hW : wd D (w ++ [(q, .inr (ci, fs))]) Af s.heap H locs) (hA : ∀ q, s.heap.size ≤ q → Af q)
    (hM : CNX l y bytes maxL rm D cy K V ci fs lay I J A B E k n) (hG : Cond.methodLink own idx y ∈ Uw ∧ Cond.instanceMethod y ∈ Uw ∧ Cond.initialized y.cls ∈ Uw ∧ Cond.code y bytes maxL none ∈ Uw) (hrc : rm.cells = k) (hrs : rm.slots = n) (hy1 : y.name = "<init>") (hd : y.cls ≠ "java/lang/invoke/MethodHandle" ∧ y.cls ≠ "java/lang/invoke/VarHandle" ∧ (parseMethodDescriptor y.desc).map (fun d => d.parameters.length) = some 0)
    (hR : Nat.ble (rm.frames + 1) R.frames = true ∧ Nat.ble (8 + (maxL + 11) + rm.locals) R.locals = true) (hst : st0 = .ref q :: rest) (hrm : Nat.ble ((rest.map fun v => v.category).sum) 8 = true) (hdg : decode cc pc = .ok (.invokespecial idx, 3)) (hcs : cells + k ≤ R.cells ∧ slots + n ≤ R.slots)
    (kk : ∀ (H : Heap) (locs : List Loc) (ad : Nat → Nat) (P : MP) (V : MV), ad 0 = q → E ad P → wd D (w ++ dn cy lay ad P V I J A B) Af s.heap H locs → W p l e R s m args below meth c H locs (cells + k) (slots + n) Q (F0 m (pc + 3) ls rest)) : W p l e R s m args below meth c H locs cells slots Q (F0 m pc ls st0) := by
  subst hst
  have ht := C0.2.2.2.2.2.1
  have hlast : (w ++ [(q, Sum.inr (ci, fs))])[w.length]? = some (q, .inr (ci, fs)) := by simp
  have hPc : va_P D vwCl [(q, .inr (ci, fs))] H := fun i x hx => by
    cases i with
    | zero => simp only [List.getElem?_cons_zero, Option.some.injEq] at hx; subst hx; exact hW.1 _ _ hlast
    | succ i => simp at hx
  have hDc : va_D (fun _ => True) [(q, Sum.inr (ci, fs))] := ⟨fun i j a b ha hb _ => by
    cases i with
    | succ i => simp at ha
    | zero =>
      cases j with
      | zero => rfl
      | succ j => simp at hb, fun _ _ _ => trivial⟩
  have hF : ∀ x, va_A [(q, .inr (ci, fs))] H.size x → Af x := by
    intro x hx
    rcases hx with ⟨i, z, hi⟩ | hx
    · have hi0 : i = 0 := by
        cases i with
        | zero => rfl
        | succ i => simp at hi
      subst hi0
      simp only [List.getElem?_cons_zero, Option.some.injEq, Prod.mk.injEq] at hi
      rw [← hi.1]; exact hW.2.1.2 _ _ hlast
    · exact hA x (Nat.le_trans hW.2.2.1 hx)
  refine n_run hW hA (va_runI (As := []) (rest := rest) (Ts := Uw) ⟨C0.1, C0.2.1, C0.2.2.2.1, C0.2.2.2.2.1, ht⟩ (hM q H.size) (cwI 0 ht (Uw_cons hG.2.2.2 Uw_all) rfl hrc hrs (ht _ hG.2.2.1) (ht _ hG.1) (ht _ hG.2.1) hy1 hd ⟨Nat.le_of_ble_eq_true hR.1, Nat.le_of_ble_eq_true hR.2⟩) ⟨PGX_blind, fun U hU hv => ⟨rfl, by rw [hU], by rw [hU]; exact hPc, va_K.moved hv.alike hK, hDc, hN.warm hv, hS.at hW.2.2 hU hv hF⟩⟩ rfl rfl hl rfl (lv_room (Nat.le_of_ble_eq_true hrm)) hdg hcs) kk
end NX
def tpw : Nat → Nat × (Nat → Int64)
  | 0 => (0, fun _ => 0)
  | i + 1 => if chv i = 32 then ((tpw i).1 + 1, (tpw i).2) else if (tpw i).1 < 26 then ((tpw i).1, vp_updL (tpw i).2 (tpw i).1 ((tpw i).2 (tpw i).1 <<< ((8 : Int32).toInt64 &&& 63) ||| (chv i).toInt64)) else tpw i
theorem tpw_le : ∀ i, (tpw i).1 ≤ i := by
  intro i
  induction i with
  | zero => exact Nat.le_refl 0
  | succ i ih =>
    rw [tpw]
    by_cases h : chv i = 32
    · rw [if_pos h]; exact Nat.succ_le_succ ih
    · rw [if_neg h]
      by_cases h2 : (tpw i).1 < 26
      · rw [if_pos h2]; exact Nat.le_succ_of_le ih
      · rw [if_neg h2]; exact Nat.le_succ_of_le ih
def wF : Nat → Int64 := (tpw 133).2
theorem tpw_inc (n : Nat) : nI n + Int32.ofInt 1 = nI (n + 1) := by rw [kI_1]; exact nI_1 n
abbrev w5 (cy : Nat → ClassId) (ad : Nat → Nat) (f : Nat → Int64) : va_W := dn cy LY_X5 ad (fun _ _ => none) (fun _ _ => .null) (fun _ _ => 0) (fun _ _ => 0) (fun _ _ => 0) (gm (fun _ _ => 0) [(2, f)])
def rmX5_init : Room := { frames := 4, cells := 2, slots := 1026, locals := 85 }
theorem tX5_init_25 {p : Program} {l : Launch} {e : Env} {s : State} {m : MethodId} {args : Array Value} {below : List Frame} {meth : Method} {c : Code} {D : va_G} {cy : Nat → ClassId} {ad : Nat → Nat} {Af : Nat → Prop} {K V : Nat} {Q : State → Prop} (C0 : CX p s m args meth c cX5_init 3 none RX5) (hK : va_K D vwCl (tyG cy) s) (hS : SX K V Af s s.heap) (hA : ∀ q, s.heap.size ≤ q → Af q)
    (kk : ∀ (H : Heap) (locs : List Loc) (ls : Array Slot), wd D (w5 cy ad wF) Af s.heap H locs → W p l e rmX5_init s m args below meth c H locs 2 1026 Q (F0 m 86 ls [])) :
    ∀ (n i : Nat), i + n = 133 → ∀ (H : Heap) (locs : List Loc) (ls : Array Slot), wd D (w5 cy ad (tpw i).2) Af s.heap H locs → lv_has ls 3 [(0, .ref (ad 0)), (1, .int (nI (tpw i).1)), (2, .int (nI i))] → W p l e rmX5_init s m args below meth c H locs 2 1026 Q (F0 m 25 ls []) := by
  intro n
  induction n with
  | zero =>
    intro i hi H locs ls hW hl
    have hi : i = 133 := hi
    subst hi
    refine lv_iload_n C0.1 C0.2.1 dX5_init_25 rfl (lv_at hl 2 rfl) ?_
    refine va_ldcS C0.1 C0.2.1 C0.2.2.2.2.1 hS.2.2.2.2.1 dX5_init_26 ?_
    refine sc_V (n := 0) (rv := some (.int (nI 133))) (As := []) (rest := [.int (nI 133)]) C0 hK hS hl.1 hW hA (KJ0_length l D cy K V) (Uw_V sw_36 sw_37 sw_38 uw_3 sw_39) rfl rfl ⟨rfl, by decide, by decide, by decide +kernel⟩ ⟨rfl, rfl⟩ rfl rfl rfl dX5_init_28 ⟨Nat.le_of_ble_eq_true rfl, Nat.le_of_ble_eq_true rfl⟩ (fun H locs hW => ?_)
    refine lv_icmp_ge (tgt := 86) C0.1 C0.2.1 dX5_init_31 (by decide) (fun _ => kk H locs ls hW) (fun h => absurd (nI_le (Nat.le_refl 133) (by omega)) h)
  | succ n ih =>
    intro i hi H locs ls hW hl
    have hi2 : i < 133 := by omega
    have hwl := tpw_le i
    refine lv_iload_n C0.1 C0.2.1 dX5_init_25 rfl (lv_at hl 2 rfl) ?_
    refine va_ldcS C0.1 C0.2.1 C0.2.2.2.2.1 hS.2.2.2.2.1 dX5_init_26 ?_
    refine sc_V (n := 0) (rv := some (.int (nI 133))) (As := []) (rest := [.int (nI i)]) C0 hK hS hl.1 hW hA (KJ0_length l D cy K V) (Uw_V sw_36 sw_37 sw_38 uw_3 sw_39) rfl rfl ⟨rfl, by decide, by decide, by decide +kernel⟩ ⟨rfl, rfl⟩ rfl rfl rfl dX5_init_28 ⟨Nat.le_of_ble_eq_true rfl, Nat.le_of_ble_eq_true rfl⟩ (fun H locs hW => ?_)
    refine lv_icmp_ge (tgt := 86) C0.1 C0.2.1 dX5_init_31 (by decide) (fun h => absurd h (nI_ge hi2 (by omega))) (fun _ => ?_)
    refine va_ldcS C0.1 C0.2.1 C0.2.2.2.2.1 hS.2.2.2.2.1 dX5_init_34 ?_
    refine lv_iload_n C0.1 C0.2.1 dX5_init_36 rfl (lv_at hl 2 rfl) ?_
    refine sc_V (n := 1) (rv := some (.int (chv i))) (As := [.int (nI i)]) (rest := []) C0 hK hS hl.1 hW hA (KJ0_charAt l D cy K V hi2) (Uw_V sw_46 sw_47 sw_48 uw_3 sw_49) rfl rfl ⟨rfl, by decide, by decide, by decide +kernel⟩ ⟨rfl, rfl⟩ rfl rfl rfl dX5_init_37 ⟨Nat.le_of_ble_eq_true rfl, Nat.le_of_ble_eq_true rfl⟩ (fun H locs hW => ?_)
    refine lv_bipush (v := 32) C0.1 C0.2.1 dX5_init_40 (by decide +kernel) ?_
    refine lv_icmp_ne (tgt := 51) C0.1 C0.2.1 dX5_init_42 (by decide) (fun hc => ?_) (fun hc => ?_)
    · refine lv_iload_n C0.1 C0.2.1 dX5_init_51 rfl (lv_at hl 1 rfl) ?_
      refine lv_bipush (v := nI 26) C0.1 C0.2.1 dX5_init_52 (by decide +kernel) ?_
      refine lv_icmp_ge (tgt := 80) C0.1 C0.2.1 dX5_init_54 (by decide) (fun h2 => ?_) (fun h2 => ?_)
      · have h3 : ¬ (tpw i).1 < 26 := fun h => nI_ge h (by omega) h2
        have e1 : tpw (i + 1) = tpw i := by rw [tpw, if_neg hc, if_neg h3]
        refine lv_iinc (v := nI (i + 1)) (lv' := [(2, .int (nI (i + 1))), (0, .ref (ad 0)), (1, .int (nI (tpw i).1))]) C0.1 C0.2.1 dX5_init_80 hl (k := 2) rfl (tpw_inc i) (by decide) rfl (fun ls hl => ?_)
        refine lv_goto (tgt := 25) C0.1 C0.2.1 dX5_init_83 (by decide) ?_
        refine ih (i + 1) (by omega) H locs ls (by rw [e1]; exact hW) ?_
        rw [e1]
        exact lv_sub hl [1, 2, 0] rfl
      · have h3 : (tpw i).1 < 26 := Nat.not_le.mp (fun h => h2 (nI_le h (by omega)))
        have hb : inb (nI (tpw i).1) 26 = true := nB h3 (by omega)
        have e1 : tpw (i + 1) = ((tpw i).1, vp_updL (tpw i).2 (tpw i).1 ((tpw i).2 (tpw i).1 <<< ((8 : Int32).toInt64 &&& 63) ||| (chv i).toInt64)) := by rw [tpw, if_neg hc, if_pos h3]
        refine lv_aload_n C0.1 C0.2.1 dX5_init_57 rfl (lv_at hl 0 rfl) ?_
        refine s_get (v := .ref (ad 2)) C0 hK hW 0 1 LY_X5_0 rfl fg_X5_15 rfl dX5_init_58 ?_
        refine lv_iload_n C0.1 C0.2.1 dX5_init_61 rfl (lv_at hl 1 rfl) ?_
        refine lv_aload_n C0.1 C0.2.1 dX5_init_62 rfl (lv_at hl 0 rfl) ?_
        refine s_get (v := .ref (ad 2)) C0 hK hW 0 1 LY_X5_0 rfl fg_X5_15 rfl dX5_init_63 ?_
        refine lv_iload_n C0.1 C0.2.1 dX5_init_66 rfl (lv_at hl 1 rfl) ?_
        refine s_lald (v := (tpw i).2 (tpw i).1) C0 hK hW 2 LY_X5_2 hb (by rw [nI_clamp (by omega)]; rfl) dX5_init_67 ?_
        refine lv_bipush (v := 8) C0.1 C0.2.1 dX5_init_68 (by decide +kernel) ?_
        refine lv_lshl (v := (tpw i).2 (tpw i).1 <<< ((8 : Int32).toInt64 &&& 63)) C0.1 C0.2.1 dX5_init_70 rfl ?_
        refine va_ldcS C0.1 C0.2.1 C0.2.2.2.2.1 hS.2.2.2.2.1 dX5_init_71 ?_
        refine lv_iload_n C0.1 C0.2.1 dX5_init_73 rfl (lv_at hl 2 rfl) ?_
        refine sc_V (n := 1) (rv := some (.int (chv i))) (As := [.int (nI i)]) (rest := [.long ((tpw i).2 (tpw i).1 <<< ((8 : Int32).toInt64 &&& 63)), .int (nI (tpw i).1), .ref (ad 2)]) C0 hK hS hl.1 hW hA (KJ0_charAt l D cy K V hi2) (Uw_V sw_46 sw_47 sw_48 uw_3 sw_49) rfl rfl ⟨rfl, by decide, by decide, by decide +kernel⟩ ⟨rfl, rfl⟩ rfl rfl rfl dX5_init_74 ⟨Nat.le_of_ble_eq_true rfl, Nat.le_of_ble_eq_true rfl⟩ (fun H locs hW => ?_)
        refine lv_i2l (v := (chv i).toInt64) C0.1 C0.2.1 dX5_init_77 rfl ?_
        refine lv_lor C0.1 C0.2.1 dX5_init_78 ?_
        refine s_last (LB := [(2, (tpw i).2)]) (f := vp_updL (tpw i).2 (tpw i).1 ((tpw i).2 (tpw i).1 <<< ((8 : Int32).toInt64 &&& 63) ||| (chv i).toInt64)) C0 hK hW 2 LY_X5_2 hb rfl (by rw [nI_clamp (by omega)]; rfl) dX5_init_79 (fun H locs hW => ?_)
        refine lv_iinc (v := nI (i + 1)) (lv' := [(2, .int (nI (i + 1))), (0, .ref (ad 0)), (1, .int (nI (tpw i).1))]) C0.1 C0.2.1 dX5_init_80 hl (k := 2) rfl (tpw_inc i) (by decide) rfl (fun ls hl => ?_)
        refine lv_goto (tgt := 25) C0.1 C0.2.1 dX5_init_83 (by decide) ?_
        refine ih (i + 1) (by omega) H locs ls (by rw [e1]; exact hW) ?_
        rw [e1]
        exact lv_sub hl [1, 2, 0] rfl
    · have e1 : tpw (i + 1) = ((tpw i).1 + 1, (tpw i).2) := by rw [tpw, if_pos hc]
      refine lv_iinc (v := nI ((tpw i).1 + 1)) (lv' := [(1, .int (nI ((tpw i).1 + 1))), (0, .ref (ad 0)), (2, .int (nI i))]) C0.1 C0.2.1 dX5_init_45 hl (k := 1) rfl (tpw_inc _) (by decide) rfl (fun ls hl => ?_)
      refine lv_goto (tgt := 80) C0.1 C0.2.1 dX5_init_48 (by decide) ?_
      refine lv_iinc (v := nI (i + 1)) (lv' := [(2, .int (nI (i + 1))), (1, .int (nI ((tpw i).1 + 1))), (0, .ref (ad 0))]) C0.1 C0.2.1 dX5_init_80 hl (k := 2) rfl (tpw_inc i) (by decide) rfl (fun ls hl => ?_)
      refine lv_goto (tgt := 25) C0.1 C0.2.1 dX5_init_83 (by decide) ?_
      refine ih (i + 1) (by omega) H locs ls (by rw [e1]; exact hW) ?_
      rw [e1]
      exact lv_sub hl [2, 1, 0] rfl
theorem tp_k26 : (Int16.ofInt 1000).toInt32 = 1000 := by decide +kernel
set_option maxHeartbeats 4000000 in
set_option maxRecDepth 100000 in
theorem KX5_init (l : Launch) (D : va_G) (cy : Nat → ClassId) (K V : Nat) : CNX l yX5_init cX5_init 3 rmX5_init D cy K V 5 [.null, .null, .int 0, .int 0, .int 0, .long 0, .int 0, .int 0, .int 0, .int 0] LY_X5 (fun _ _ => 0) (fun _ _ => 0) (fun _ _ => 0) (gm (fun _ _ => 0) [(2, wF)]) (fun _ _ => True) 2 1026 := by
  refine CNX.of (own := RX5) (by decide) rfl rfl rfl ?_
  intro a p e s m below meth c ls Af C0 hin hK hN hS hA hW hl
  refine lv_aload_n C0.1 C0.2.1 dX5_init_0 rfl (lv_at hl 0 rfl) ?_
  refine n_init C0 hl.1 sw_34 uw_27 uw_28 rfl rfl rfl dX5_init_1 ?_
  refine lv_aload_n C0.1 C0.2.1 dX5_init_4 rfl (lv_at hl 0 rfl) ?_
  refine lv_sipush (v := 1000) C0.1 C0.2.1 dX5_init_5 tp_k26 ?_
  refine n_arr (at_ := .byte) 0 (a0 := (1000, .inl (fun _ => 0))) (N := 1000) C0 hK hW hA cw_125 rfl (by intro C h; cases h) rfl (ha_0 1000) (by decide +kernel) (by decide +kernel) rfl (Nat.le_of_ble_eq_true rfl) (Nat.le_of_ble_eq_true rfl) dX5_init_8 (fun q1 H hW => ?_)
  refine n_putF (v := .ref q1) (w' := [(a, .inr (5, [.ref q1, .null, .int 0, .int 0, .int 0, .long 0, .int 0, .int 0, .int 0, .int 0])), (q1, .inl (cy 0, 1000, .inl (fun _ => 0)))]) (ty := tyX5 0) C0 hin hK hW 0 0 aw_X5 tyX5_ok nmX5 rfl rfl (by decide) uw_84 rfl rfl (by decide +kernel) rfl rfl (Nat.le_of_ble_eq_true rfl) rfl dX5_init_10 (fun H locs hW => ?_)
  refine lv_aload_n C0.1 C0.2.1 dX5_init_13 rfl (lv_at hl 0 rfl) ?_
  refine lv_bipush (v := 26) C0.1 C0.2.1 dX5_init_14 (by decide +kernel) ?_
  refine n_arr (at_ := .long) 2 (a0 := (26, .inr (.inl (fun _ => 0)))) (N := 26) C0 hK hW hA cw_126 rfl (by intro C h; cases h) rfl (ha_2 26) (by decide +kernel) (by decide +kernel) rfl (Nat.le_of_ble_eq_true rfl) (Nat.le_of_ble_eq_true rfl) dX5_init_16 (fun q2 H hW => ?_)
  refine n_putF (v := .ref q2) (w' := [(a, .inr (5, [.ref q1, .ref q2, .int 0, .int 0, .int 0, .long 0, .int 0, .int 0, .int 0, .int 0])), (q1, .inl (cy 0, 1000, .inl (fun _ => 0))), (q2, .inl (cy 2, 26, .inr (.inl (fun _ => 0))))]) (ty := tyX5 1) C0 hin hK hW 0 1 aw_X5 tyX5_ok nmX5 rfl rfl (by decide) uw_85 rfl rfl (by decide +kernel) rfl rfl (Nat.le_of_ble_eq_true rfl) rfl dX5_init_18 (fun H locs hW => ?_)
  have hW : wd D (w5 cy (fun q => ([a, q1, q2] : List Nat).getD q 0) (tpw 0).2) Af s.heap H locs := hW
  refine lv_iconst (v := 0) C0.1 C0.2.1 dX5_init_21 kI_0 ?_
  refine lv_istore_n (lv' := [(1, .int 0), (0, .ref a)]) C0.1 C0.2.1 dX5_init_22 rfl hl (by decide) rfl (fun ls hl => ?_)
  refine lv_iconst (v := 0) C0.1 C0.2.1 dX5_init_23 kI_0 ?_
  refine lv_istore_n (lv' := [(2, .int 0), (1, .int 0), (0, .ref a)]) C0.1 C0.2.1 dX5_init_24 rfl hl (by decide) rfl (fun ls hl => ?_)
  exact tX5_init_25 C0 hK hS hA (fun H locs ls hW => n_ret C0 hK (fun q => ([a, q1, q2] : List Nat).getD q 0) (fun _ _ => none) (fun _ _ => .null) rfl trivial hW dX5_init_86) 133 0 rfl H locs ls hW (lv_sub hl [2, 1, 0] rfl)
theorem wF_ok : WdsR wF := by
  have h : ∀ i, i < 26 → wF i = lN (Vw i) := by decide +kernel
  exact h
