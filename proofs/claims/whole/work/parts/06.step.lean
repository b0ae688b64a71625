/-! the frame of a method's walk -/
def tyG (cy : Nat → ClassId) : List (ClassId × FieldType) := [(cy 0, .byte), (cy 1, .int), (cy 2, .long), (cy 3, .boolean), (cy 4, .object "CoalHoles$Mark"), (cy 5, .object "CoalHoles$State")]
def CX (p : Program) (s : State) (m : MethodId) (args : Array Value) (meth : Method) (c : Code) (cc : ByteArray) (nL : Nat) (ret : Option FieldType) (own : String) : Prop :=
  p.tables.exec = Jvm.exec ∧ c.code = cc ∧ meth.sig.returnType = ret ∧ c.maxLocals = nL ∧ s.vm.findClass own = some m.cls ∧ (∀ w ∈ Uw, w.before args s = true) ∧ meth.locks = false
def wd (D : va_G) (w : va_W) (Af : Nat → Prop) (H0 H : Heap) (locs : List Loc) : Prop := va_P D vwCl w H ∧ va_D Af w ∧ va_S Af H0 H locs
/-- a field: its class's number, its place, and the words that an instruction of the class own with that index needs -/
def FG (own : String) (idx ci k : Nat) : Prop := ∃ (C : String) (T : u_T) (N : Nat), vwCl[ci]? = some (C, T, N) ∧ k < N ∧ Cond.fieldLink own idx (T k).1 (T k).2.1 (T k).2.2.1 ∈ Uw ∧ ∀ w ∈ u_ws C T N, w ∈ Uw
def FP (ci k : Nat) (ty : FieldType) : Prop := ∃ (C : String) (T : u_T) (N : Nat) (ty0 : Nat → FieldType), vwCl[ci]? = some (C, T, N) ∧ (∀ k, k < N → parseFieldDescriptor (T k).2.2.1 = some (ty0 k)) ∧ (∀ a, a < N → ∀ b, b < N → a ≠ b → (T a).2.1 ≠ (T b).2.1) ∧ (T k).2.2.2 = false ∧ parseFieldDescriptor (T k).2.2.1 = some ty
section ST
variable {p : Program} {l : Launch} {e : Env} {R : Room} {s : State} {m : MethodId} {args : Array Value} {below : List Frame} {meth : Method} {c : Code} {H : Heap} {locs : List Loc} {cells slots : Nat} {Q : State → Prop}
variable {cc : ByteArray} {nL pc : Nat} {ret : Option FieldType} {own : String} {ls : Array Slot} {rest : List Value} {D : va_G} {Af : Nat → Prop} {H0 : Heap}
variable {cy : Nat → ClassId} {lay : List Shp} {ad : Nat → Nat} {P : MP} {V : MV} {I : MI} {J : MJ} {A : MI} {B : MJ}
theorem s_get (C0 : CX p s m args meth c cc nL ret own) (hK : va_K D vwCl (tyG cy) s) (hW : wd D (dn cy lay ad P V I J A B) Af H0 H locs) (q k : Nat) {ci idx : Nat} {fs : List (Nat × Nat)} (hx : lay[q]? = some (.inr (ci, fs))) {f : Nat × Nat} (hf : fs[k]? = some f) (hg : FG own idx ci k) {v : Value} (hv : dF ad V I J q k f = v) (hdg : decode cc pc = .ok (.getfield idx, 3))
    (kk : W p l e R s m args below meth c H locs cells slots Q (F0 m (pc + 3) ls (v :: rest))) : W p l e R s m args below meth c H locs cells slots Q (F0 m pc ls (.ref (ad q) :: rest)) := by
  obtain ⟨C, T, N, h1, h2, h3, h4⟩ := hg
  subst hv
  exact va_get (D := D) (ci := ci) (v := dF ad V I J q k f) (C := C) (T := T) (N := N) C0.1 C0.2.1 C0.2.2.2.2.2.1 h4 C0.2.2.2.2.1 hK hW.1 q (dn_some hx) h1 k h2 (C0.2.2.2.2.2.1 _ h3) (fun _ h9 => h9) (by rw [dFs_get, hf]; simp) hdg kk
theorem s_put (C0 : CX p s m args meth c cc nL ret own) (hK : va_K D vwCl (tyG cy) s) (hW : wd D (dn cy lay ad P V I J A B) Af H0 H locs) (q k : Nat) {ci idx : Nat} {fs : List (Nat × Nat)} (hx : lay[q]? = some (.inr (ci, fs))) {f : Nat × Nat} (hf : fs[k]? = some f) (hg : FG own idx ci k) {ty : FieldType} (hp : FP ci k ty) {v : Value} (hn : narrow ty v = v) (hfit : fits ty v = true) {w' : va_W} (hw : (dn cy lay ad P V I J A B).set q (ad q, .inr (ci, (dFs ad V I J q 0 fs).set k v)) = w') (hdg : decode cc pc = .ok (.putfield idx, 3))
    (kk : ∀ (H : Heap) (locs : List Loc), wd D w' Af H0 H locs → W p l e R s m args below meth c H locs cells slots Q (F0 m (pc + 3) ls rest)) : W p l e R s m args below meth c H locs cells slots Q (F0 m pc ls (v :: .ref (ad q) :: rest)) := by
  obtain ⟨C, T, N, h1, h2, h3, h4⟩ := hg
  obtain ⟨C', T', N', ty0, g1, g2, g3, g4, g5⟩ := hp
  cases h1.symm.trans g1
  subst hw
  refine va_put (D := D) (ci := ci) (v := v) (ty := ty) (C := C) (T := T) (N := N) C0.1 C0.2.1 C0.2.2.2.2.2.1 h4 ty0 g2 g3 C0.2.2.2.2.1 hK hW.1 hW.2.1 hW.2.2 q (dn_some hx) h1 k h2 (C0.2.2.2.2.2.1 _ h3) (fun _ h9 => h9) g4 g5 hn hfit ?_ hdg (fun H locs hP hD hS => kk H locs ⟨hP, hD, hS⟩)
  rw [dFs_len]
  exact (List.getElem?_eq_some_iff.mp hf).1
theorem s_putI {LI : List (Nat × Nat × Int32)} (C0 : CX p s m args meth c cc nL ret own) (hK : va_K D vwCl (tyG cy) s) (hW : wd D (dn cy lay ad P V (gp I LI) J A B) Af H0 H locs) (q k : Nat) {ci idx t : Nat} {fs : List (Nat × Nat)} (hx : lay[q]? = some (.inr (ci, fs))) (hf : fs[k]? = some (0, t)) (hg : FG own idx ci k) (hp : FP ci k .int) (hin : kp_ LI q k = true) {v : Int32} (hdg : decode cc pc = .ok (.putfield idx, 3))
    (kk : ∀ (H : Heap) (locs : List Loc), wd D (dn cy lay ad P V (gp I (rp_ LI q k v)) J A B) Af H0 H locs → W p l e R s m args below meth c H locs cells slots Q (F0 m (pc + 3) ls rest)) : W p l e R s m args below meth c H locs cells slots Q (F0 m pc ls (.int v :: .ref (ad q) :: rest)) :=
  s_put C0 hK hW q k hx hf hg hp rfl rfl (by rw [dn_setI hx hf, gp_rp hin]) hdg kk
theorem s_putZ {LI : List (Nat × Nat × Int32)} (C0 : CX p s m args meth c cc nL ret own) (hK : va_K D vwCl (tyG cy) s) (hW : wd D (dn cy lay ad P V (gp I LI) J A B) Af H0 H locs) (q k : Nat) {ci idx t : Nat} {fs : List (Nat × Nat)} (hx : lay[q]? = some (.inr (ci, fs))) (hf : fs[k]? = some (0, t)) (hg : FG own idx ci k) (hp : FP ci k .boolean) (hin : kp_ LI q k = true) {v : Int32} (hn : narrow .boolean (.int v) = .int v) (hfit : fits .boolean (.int v) = true) (hdg : decode cc pc = .ok (.putfield idx, 3))
    (kk : ∀ (H : Heap) (locs : List Loc), wd D (dn cy lay ad P V (gp I (rp_ LI q k v)) J A B) Af H0 H locs → W p l e R s m args below meth c H locs cells slots Q (F0 m (pc + 3) ls rest)) : W p l e R s m args below meth c H locs cells slots Q (F0 m pc ls (.int v :: .ref (ad q) :: rest)) :=
  s_put C0 hK hW q k hx hf hg hp hn hfit (by rw [dn_setI hx hf, gp_rp hin]) hdg kk
theorem s_putJ {LJ : List (Nat × Nat × Int64)} (C0 : CX p s m args meth c cc nL ret own) (hK : va_K D vwCl (tyG cy) s) (hW : wd D (dn cy lay ad P V I (gp J LJ) A B) Af H0 H locs) (q k : Nat) {ci idx t : Nat} {fs : List (Nat × Nat)} (hx : lay[q]? = some (.inr (ci, fs))) (hf : fs[k]? = some (1, t)) (hg : FG own idx ci k) (hp : FP ci k .long) (hin : kp_ LJ q k = true) {v : Int64} (hdg : decode cc pc = .ok (.putfield idx, 3))
    (kk : ∀ (H : Heap) (locs : List Loc), wd D (dn cy lay ad P V I (gp J (rp_ LJ q k v)) A B) Af H0 H locs → W p l e R s m args below meth c H locs cells slots Q (F0 m (pc + 3) ls rest)) : W p l e R s m args below meth c H locs cells slots Q (F0 m pc ls (.long v :: .ref (ad q) :: rest)) :=
  s_put C0 hK hW q k hx hf hg hp rfl rfl (by rw [dn_setJ hx hf, gp_rp hin]) hdg kk
/-- index in range, as a computation -/
def inb (i : Int32) (n : Nat) : Bool := !(decide (i < 0)) && Nat.blt i.toNatClampNeg n
theorem inb_in {i : Int32} {n : Nat} (h : inb i n = true) : vp_in i n := by
  unfold inb at h
  simp only [Bool.and_eq_true, Bool.not_eq_true', decide_eq_false_iff_not] at h
  intro q
  rcases q with q | q
  · exact h.1 q
  · have h2 : i.toNatClampNeg + 1 ≤ n := by simpa [Nat.blt] using h.2
    omega
theorem s_iald (C0 : CX p s m args meth c cc nL ret own) (hK : va_K D vwCl (tyG cy) s) (hW : wd D (dn cy lay ad P V I J A B) Af H0 H locs) (q : Nat) {n : Nat} (hx : lay[q]? = some (.inl (1, n))) {i v : Int32} (hin : inb i n = true) (hv : A q i.toNatClampNeg = v) (hdg : decode cc pc = .ok (.iaload, 1))
    (kk : W p l e R s m args below meth c H locs cells slots Q (F0 m (pc + 1) ls (.int v :: rest))) : W p l e R s m args below meth c H locs cells slots Q (F0 m pc ls (.int i :: .ref (ad q) :: rest)) := by
  subst hv
  exact va_iald C0.1 C0.2.1 hK hW.1 q 1 (cA := cy 1) (n := n) (f := A q) (dn_some hx) rfl (inb_in hin) hdg kk
theorem s_bald (C0 : CX p s m args meth c cc nL ret own) (hK : va_K D vwCl (tyG cy) s) (hW : wd D (dn cy lay ad P V I J A B) Af H0 H locs) (q : Nat) {n : Nat} (hx : lay[q]? = some (.inl (0, n))) {i v : Int32} (hin : inb i n = true) (hv : A q i.toNatClampNeg = v) (hdg : decode cc pc = .ok (.baload, 1))
    (kk : W p l e R s m args below meth c H locs cells slots Q (F0 m (pc + 1) ls (.int v :: rest))) : W p l e R s m args below meth c H locs cells slots Q (F0 m pc ls (.int i :: .ref (ad q) :: rest)) := by
  subst hv
  exact va_bald C0.1 C0.2.1 hK hW.1 q 0 (cA := cy 0) (n := n) (f := A q) (dn_some hx) rfl (inb_in hin) hdg kk
theorem s_zald (C0 : CX p s m args meth c cc nL ret own) (hK : va_K D vwCl (tyG cy) s) (hW : wd D (dn cy lay ad P V I J A B) Af H0 H locs) (q : Nat) {n : Nat} (hx : lay[q]? = some (.inl (3, n))) {i v : Int32} (hin : inb i n = true) (hv : A q i.toNatClampNeg = v) (hdg : decode cc pc = .ok (.baload, 1))
    (kk : W p l e R s m args below meth c H locs cells slots Q (F0 m (pc + 1) ls (.int v :: rest))) : W p l e R s m args below meth c H locs cells slots Q (F0 m pc ls (.int i :: .ref (ad q) :: rest)) := by
  subst hv
  exact va_zald C0.1 C0.2.1 hK hW.1 q 3 (cA := cy 3) (n := n) (f := A q) (dn_some hx) rfl (inb_in hin) hdg kk
theorem s_lald (C0 : CX p s m args meth c cc nL ret own) (hK : va_K D vwCl (tyG cy) s) (hW : wd D (dn cy lay ad P V I J A B) Af H0 H locs) (q : Nat) {n : Nat} (hx : lay[q]? = some (.inl (2, n))) {i : Int32} {v : Int64} (hin : inb i n = true) (hv : B q i.toNatClampNeg = v) (hdg : decode cc pc = .ok (.laload, 1))
    (kk : W p l e R s m args below meth c H locs cells slots Q (F0 m (pc + 1) ls (.long v :: rest))) : W p l e R s m args below meth c H locs cells slots Q (F0 m pc ls (.int i :: .ref (ad q) :: rest)) := by
  subst hv
  exact va_lald C0.1 C0.2.1 hK hW.1 q 2 (cA := cy 2) (n := n) (f := B q) (dn_some hx) rfl (inb_in hin) hdg kk
theorem s_iast {LA : List (Nat × (Nat → Int32))} (C0 : CX p s m args meth c cc nL ret own) (hK : va_K D vwCl (tyG cy) s) (hW : wd D (dn cy lay ad P V I J (gm A LA) B) Af H0 H locs) (q : Nat) {n : Nat} (hx : lay[q]? = some (.inl (1, n))) {i x : Int32} (hin : inb i n = true) (hk : km_ LA q = true) {f : Nat → Int32} (hf : upd (gm A LA q) i.toNatClampNeg x = f) (hdg : decode cc pc = .ok (.iastore, 1))
    (kk : ∀ (H : Heap) (locs : List Loc), wd D (dn cy lay ad P V I J (gm A (rm_ LA q f)) B) Af H0 H locs → W p l e R s m args below meth c H locs cells slots Q (F0 m (pc + 1) ls rest)) : W p l e R s m args below meth c H locs cells slots Q (F0 m pc ls (.int x :: .int i :: .ref (ad q) :: rest)) := by
  subst hf
  refine va_iast C0.1 C0.2.1 hK hW.1 hW.2.1 hW.2.2 q 1 (cA := cy 1) (n := n) (f := gm A LA q) (dn_some hx) rfl (inb_in hin) hdg (fun H locs hP hD hS => kk H locs ?_)
  rw [dn_setA hx rfl, gm_rm hk] at hP hD
  exact ⟨hP, hD, hS⟩
theorem s_bast {LA : List (Nat × (Nat → Int32))} (C0 : CX p s m args meth c cc nL ret own) (hK : va_K D vwCl (tyG cy) s) (hW : wd D (dn cy lay ad P V I J (gm A LA) B) Af H0 H locs) (q : Nat) {n : Nat} (hx : lay[q]? = some (.inl (0, n))) {i x : Int32} (hin : inb i n = true) (hk : km_ LA q = true) {f : Nat → Int32} (hf : upd (gm A LA q) i.toNatClampNeg (vp_nar .byte x) = f) (hdg : decode cc pc = .ok (.bastore, 1))
    (kk : ∀ (H : Heap) (locs : List Loc), wd D (dn cy lay ad P V I J (gm A (rm_ LA q f)) B) Af H0 H locs → W p l e R s m args below meth c H locs cells slots Q (F0 m (pc + 1) ls rest)) : W p l e R s m args below meth c H locs cells slots Q (F0 m pc ls (.int x :: .int i :: .ref (ad q) :: rest)) := by
  subst hf
  refine va_bast C0.1 C0.2.1 hK hW.1 hW.2.1 hW.2.2 q 0 (cA := cy 0) (n := n) (f := gm A LA q) (dn_some hx) rfl (inb_in hin) hdg (fun H locs hP hD hS => kk H locs ?_)
  rw [dn_setA hx rfl, gm_rm hk] at hP hD
  exact ⟨hP, hD, hS⟩
theorem s_zast {LA : List (Nat × (Nat → Int32))} (C0 : CX p s m args meth c cc nL ret own) (hK : va_K D vwCl (tyG cy) s) (hW : wd D (dn cy lay ad P V I J (gm A LA) B) Af H0 H locs) (q : Nat) {n : Nat} (hx : lay[q]? = some (.inl (3, n))) {i x : Int32} (hin : inb i n = true) (hk : km_ LA q = true) {f : Nat → Int32} (hf : upd (gm A LA q) i.toNatClampNeg (vp_nar .boolean x) = f) (hdg : decode cc pc = .ok (.bastore, 1))
    (kk : ∀ (H : Heap) (locs : List Loc), wd D (dn cy lay ad P V I J (gm A (rm_ LA q f)) B) Af H0 H locs → W p l e R s m args below meth c H locs cells slots Q (F0 m (pc + 1) ls rest)) : W p l e R s m args below meth c H locs cells slots Q (F0 m pc ls (.int x :: .int i :: .ref (ad q) :: rest)) := by
  subst hf
  refine va_zast C0.1 C0.2.1 hK hW.1 hW.2.1 hW.2.2 q 3 (cA := cy 3) (n := n) (f := gm A LA q) (dn_some hx) rfl (inb_in hin) hdg (fun H locs hP hD hS => kk H locs ?_)
  rw [dn_setA hx rfl, gm_rm hk] at hP hD
  exact ⟨hP, hD, hS⟩
theorem s_last {LB : List (Nat × (Nat → Int64))} (C0 : CX p s m args meth c cc nL ret own) (hK : va_K D vwCl (tyG cy) s) (hW : wd D (dn cy lay ad P V I J A (gm B LB)) Af H0 H locs) (q : Nat) {n : Nat} (hx : lay[q]? = some (.inl (2, n))) {i : Int32} {x : Int64} (hin : inb i n = true) (hk : km_ LB q = true) {f : Nat → Int64} (hf : vp_updL (gm B LB q) i.toNatClampNeg x = f) (hdg : decode cc pc = .ok (.lastore, 1))
    (kk : ∀ (H : Heap) (locs : List Loc), wd D (dn cy lay ad P V I J A (gm B (rm_ LB q f))) Af H0 H locs → W p l e R s m args below meth c H locs cells slots Q (F0 m (pc + 1) ls rest)) : W p l e R s m args below meth c H locs cells slots Q (F0 m pc ls (.long x :: .int i :: .ref (ad q) :: rest)) := by
  subst hf
  refine va_last C0.1 C0.2.1 hK hW.1 hW.2.1 hW.2.2 q 2 (cA := cy 2) (n := n) (f := gm B LB q) (dn_some hx) rfl (inb_in hin) hdg (fun H locs hP hD hS => kk H locs ?_)
  rw [dn_setB hx, gm_rm hk] at hP hD
  exact ⟨hP, hD, hS⟩
theorem s_alen (C0 : CX p s m args meth c cc nL ret own) (hK : va_K D vwCl (tyG cy) s) (hW : wd D (dn cy lay ad P V I J A B) Af H0 H locs) (q : Nat) {n t : Nat} (hx : lay[q]? = some (.inl (t, n))) {ty : FieldType} (ht : (tyG cy)[t]? = some (cy t, ty)) {v : Int32} (hv : Int32.ofNat n = v) (hdg : decode cc pc = .ok (.arraylength, 1))
    (kk : W p l e R s m args below meth c H locs cells slots Q (F0 m (pc + 1) ls (.int v :: rest))) : W p l e R s m args below meth c H locs cells slots Q (F0 m pc ls (.ref (ad q) :: rest)) :=
  va_alen C0.1 C0.2.1 hK hW.1 q t (cA := cy t) (x := (n, dA P A B q t)) (dn_some hx) ht hv hdg kk
def imax (x y : Int32) : Int32 := if x < y then y else x
def imin (x y : Int32) : Int32 := if y < x then y else x
theorem s_max (C0 : CX p s m args meth c cc nL ret own) (hl : ls.size = nL) {idx : Nat} (hlink : Cond.methodLink own idx Lib.Math.max.name ∈ Uw) (hstat : Cond.static Lib.Math.max.name ∈ Uw) (hini : Cond.initialized "java/lang/Math" ∈ Uw) (hcode : Cond.code Lib.Math.max.name Lib.Math.max.code 2 (some .int) ∈ Uw)
    (hframes : 1 ≤ R.frames) (hlocals : (rest.map fun v => v.category).sum + 13 ≤ R.locals) (hc : cells ≤ R.cells) (hs : slots ≤ R.slots) {x y : Int32} (hdg : decode cc pc = .ok (.invokestatic idx, 3))
    (kk : W p l e R s m args below meth c H locs cells slots Q (F0 m (pc + 3) ls (.int (imax x y) :: rest))) : W p l e R s m args below meth c H locs cells slots Q (F0 m pc ls (.int y :: .int x :: rest)) :=
  va_mmax C0.1 C0.2.1 (by rw [C0.2.2.2.1, hl]) C0.2.2.2.2.1 (C0.2.2.2.2.2.1 _ hlink) (C0.2.2.2.2.2.1 _ hstat) (C0.2.2.2.2.2.1 _ hini) (C0.2.2.2.2.2.1 _ hcode) hframes hlocals hc hs hdg kk
theorem s_min (C0 : CX p s m args meth c cc nL ret own) (hl : ls.size = nL) {idx : Nat} (hlink : Cond.methodLink own idx Lib.Math.min.name ∈ Uw) (hstat : Cond.static Lib.Math.min.name ∈ Uw) (hini : Cond.initialized "java/lang/Math" ∈ Uw) (hcode : Cond.code Lib.Math.min.name Lib.Math.min.code 2 (some .int) ∈ Uw)
    (hframes : 1 ≤ R.frames) (hlocals : (rest.map fun v => v.category).sum + 13 ≤ R.locals) (hc : cells ≤ R.cells) (hs : slots ≤ R.slots) {x y : Int32} (hdg : decode cc pc = .ok (.invokestatic idx, 3))
    (kk : W p l e R s m args below meth c H locs cells slots Q (F0 m (pc + 3) ls (.int (imin x y) :: rest))) : W p l e R s m args below meth c H locs cells slots Q (F0 m pc ls (.int y :: .int x :: rest)) :=
  va_mmin C0.1 C0.2.1 (by rw [C0.2.2.2.1, hl]) C0.2.2.2.2.1 (C0.2.2.2.2.2.1 _ hlink) (C0.2.2.2.2.2.1 _ hstat) (C0.2.2.2.2.2.1 _ hini) (C0.2.2.2.2.2.1 _ hcode) hframes hlocals hc hs hdg kk
end ST
