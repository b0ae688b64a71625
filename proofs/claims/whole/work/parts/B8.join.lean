/-! worlds side by side: the callee's cells stand ahead, the rest behind them is kept -/
section WR
variable {D : va_G} {Af : Nat → Prop} {H0 H : Heap} {locs : List Loc}
theorem wd_re {w w' : va_W} (f : Nat → Nat) (h : ∀ (i : Nat) (x : Nat × va_E), w'[i]? = some x → w[f i]? = some x) (hi : ∀ i j : Nat, i < w'.length → j < w'.length → f i = f j → i = j) (hW : wd D w Af H0 H locs) : wd D w' Af H0 H locs :=
  ⟨fun i x hx => hW.1 (f i) x (h i x hx), ⟨fun i j a b ha hb hab => hi i j (List.getElem?_eq_some_iff.mp ha).1 (List.getElem?_eq_some_iff.mp hb).1 (hW.2.1.1 _ _ a b (h i a ha) (h j b hb) hab), fun k x hx => hW.2.1.2 _ x (h k x hx)⟩, hW.2.2⟩
theorem ap_l {u v : va_W} {i : Nat} {x : Nat × va_E} (h : u[i]? = some x) : (u ++ v)[i]? = some x := by
  rw [List.getElem?_append_left (List.getElem?_eq_some_iff.mp h).1]; exact h
theorem ap_r {u v : va_W} {i j : Nat} {x : Nat × va_E} (h : v[i]? = some x) (hj : j = u.length + i) : (u ++ v)[j]? = some x := by
  subst hj
  rw [List.getElem?_append_right (by omega), show u.length + i - u.length = i by omega]; exact h
theorem ap_c {u v : va_W} {i : Nat} {x : Nat × va_E} (h : (u ++ v)[i]? = some x) : (i < u.length ∧ u[i]? = some x) ∨ (u.length ≤ i ∧ v[i - u.length]? = some x) := by
  by_cases hi : i < u.length
  · rw [List.getElem?_append_left hi] at h; exact Or.inl ⟨hi, h⟩
  · rw [List.getElem?_append_right (by omega)] at h; exact Or.inr ⟨by omega, h⟩
theorem wd_swap {u v : va_W} (hW : wd D (u ++ v) Af H0 H locs) : wd D (v ++ u) Af H0 H locs := by
  refine wd_re (fun i => if i < v.length then u.length + i else i - v.length) (fun i x hx => ?_) (fun i j hi hj hij => ?_) hW
  · skip
    rcases ap_c hx with ⟨h1, h2⟩ | ⟨h1, h2⟩
    · rw [if_pos h1]; exact ap_r h2 rfl
    · rw [if_neg (by omega)]; exact ap_l h2
  · rw [List.length_append] at hi hj
    split at hij <;> split at hij <;> omega
theorem wd_mid {x y z : va_W} (hW : wd D (x ++ (y ++ z)) Af H0 H locs) : wd D (x ++ (z ++ y)) Af H0 H locs := by
  refine wd_re (fun i => if i < x.length then i else if i < x.length + z.length then i + y.length else i - z.length) (fun i a ha => ?_) (fun i j hi hj hij => ?_) hW
  · skip
    rcases ap_c ha with ⟨h1, h2⟩ | ⟨h1, h2⟩
    · rw [if_pos h1]; exact ap_l h2
    · rw [if_neg (by omega)]
      rcases ap_c h2 with ⟨h3, h4⟩ | ⟨h3, h4⟩
      · rw [if_pos (by omega)]
        exact ap_r (ap_r h4 rfl) (by omega)
      · have h5 := (List.getElem?_eq_some_iff.mp h4).1
        rw [if_neg (by omega)]
        exact ap_r (ap_l h4) (by omega)
  · rw [List.length_append, List.length_append] at hi hj
    split at hij <;> split at hij <;> (try split at hij) <;> (try split at hij) <;> omega
theorem wd_keepA {wc wc2 v : va_W} {H1 : Heap} {L : List Loc} (hW : wd D (wc ++ v) Af H0 H locs) (hA : ∀ q, H0.size ≤ q → Af q) (hP1 : va_P D vwCl wc2 H1) (hD1 : va_D (va_A wc H.size) wc2) (hz : H.size ≤ H1.size) (hk : ∀ q : Nat, q < H.size → ¬ va_A wc H.size q → H1[q]? = H[q]?) (hL : ∀ q ∈ L, va_A wc H.size q.base) : wd D (wc2 ++ v) Af H0 H1 (locs ++ L) := by
  have hF : ∀ q, va_A wc H.size q → Af q := by
    intro q hq
    rcases hq with ⟨i, e, hi⟩ | hq
    · exact hW.2.1.2 i (q, e) (ap_l hi)
    · exact hA q (Nat.le_trans hW.2.2.1 hq)
  have hv : ∀ (i : Nat) (x : Nat × va_E), v[i]? = some x → ¬ va_A wc H.size x.1 := by
    intro i x hx hq
    have hx2 : (wc ++ v)[wc.length + i]? = some x := ap_r hx rfl
    rcases hq with ⟨j, e, hj⟩ | hq
    · have hjl := (List.getElem?_eq_some_iff.mp hj).1
      have := hW.2.1.1 (wc.length + i) j x (x.1, e) hx2 (ap_l hj) rfl
      omega
    · exact absurd (hW.1 _ x hx2).lt (Nat.not_lt.mpr hq)
  refine ⟨fun i x hx => ?_, ⟨fun i j a b ha hb hab => ?_, fun i x hx => ?_⟩, Nat.le_trans hW.2.2.1 hz, fun q h1 h2 => ?_, fun q hq => ?_⟩
  · rcases ap_c hx with ⟨h1, h2⟩ | ⟨h1, h2⟩
    · exact hP1 i x h2
    · have h3 := hW.1 _ x (ap_r h2 rfl)
      exact h3.kept (hk x.1 h3.lt (hv _ x h2))
  · rcases ap_c ha with ⟨h1, h2⟩ | ⟨h1, h2⟩ <;> rcases ap_c hb with ⟨h3, h4⟩ | ⟨h3, h4⟩
    · exact hD1.1 i j a b h2 h4 hab
    · exact absurd (by rw [← hab]; exact hD1.2 i a h2) (hv _ b h4)
    · exact absurd (by rw [hab]; exact hD1.2 j b h4) (hv _ a h2)
    · have := hW.2.1.1 _ _ a b (ap_r h2 rfl) (ap_r h4 rfl) hab
      omega
  · rcases ap_c hx with ⟨h1, h2⟩ | ⟨h1, h2⟩
    · exact hF _ (hD1.2 i x h2)
    · exact hW.2.1.2 _ x (ap_r h2 rfl)
  · rw [hk q (Nat.lt_of_lt_of_le h1 hW.2.2.1) (fun z => h2 (hF q z))]; exact hW.2.2.2.1 q h1 h2
  · rcases List.mem_append.mp hq with h | h
    · exact hW.2.2.2.2 q h
    · exact hF _ (hL q h)
theorem wd_l {u v : va_W} (hW : wd D (u ++ v) Af H0 H locs) : va_P D vwCl u H ∧ va_D (fun _ => True) u :=
  ⟨fun i x hx => hW.1 i x (ap_l hx), fun i j a b ha hb hab => hW.2.1.1 i j a b (ap_l ha) (ap_l hb) hab, fun _ _ _ => trivial⟩
theorem wd_Af {u v : va_W} (hW : wd D (u ++ v) Af H0 H locs) (hA : ∀ q, H0.size ≤ q → Af q) : ∀ q, va_A u H.size q → Af q := by
  intro q hq
  rcases hq with ⟨i, e, hi⟩ | hq
  · exact hW.2.1.2 i (q, e) (ap_l hi)
  · exact hA q (Nat.le_trans hW.2.2.1 hq)
end WR
section CA
variable {p : Program} {l : Launch} {e : Env} {R : Room} {s : State} {m : MethodId} {args : Array Value} {below : List Frame} {meth : Method} {c : Code} {H : Heap} {locs : List Loc} {cells slots : Nat} {Q : State → Prop}
variable {cc : ByteArray} {nL pc : Nat} {ret : Option FieldType} {own : String} {ls : Array Slot} {rest st0 : List Value} {D : va_G} {Af : Nat → Prop} {H0 : Heap} {cy : Nat → ClassId}
theorem c_runA {a : Array Value} {wc wc2 v : va_W} {rv : Option Value} {k n : Nat} (hW : wd D (wc ++ v) Af H0 H locs) (hA : ∀ q, H0.size ≤ q → Af q)
    (hr : va_Run p l e R s m args below meth c H locs cells slots k n (F0 m pc ls st0) rest (QG D cy wc2 rv (va_A wc H.size) a) (va_A wc H.size))
    (kk : ∀ (H : Heap) (locs : List Loc), wd D (wc2 ++ v) Af H0 H locs → W p l e R s m args below meth c H locs (cells + k) (slots + n) Q (F0 m (pc + 3) ls (rv.toList ++ rest))) : W p l e R s m args below meth c H locs cells slots Q (F0 m pc ls st0) := by
  intro T hT X
  obtain ⟨v, st₀, t, T', L, h0, X', hL, e1, e2, ⟨hv, hP1, -, hD1, hz, hk⟩, st⟩ := hr T hT X
  cases hv
  rw [h0] at hz hk
  obtain ⟨t2, a1, b1⟩ := kk T'.heap (locs ++ L) (wd_keepA hW hA (by rw [e1]; exact hP1) hD1 (by rw [e1]; exact hz) (fun q h1 h2 => by rw [e1]; exact hk q h1 h2) hL) T' rfl X'
  exact ⟨t2, st t2 a1, b1⟩
/-- an instance method on the first cell of wc; whatever else there is, v, is kept -/
theorem c_VA {wc wc2 v : va_W} {rv : Option Value} {y : MethodName} {bytes : ByteArray} {maxL n idx ci b : Nat} {rety : Option FieldType} {rm : Room} {As : List Value} {q : vw_C} {fs : List Value} (C0 : CX p s m args meth c cc nL ret own) (hK : va_K D vwCl (tyG cy) s) (hN : NWs s) (hl : ls.size = nL) (hW : wd D (wc ++ v) Af H0 H locs) (hA : ∀ q, H0.size ≤ q → Af q)
    (hM : CG l y bytes maxL rety rm D cy wc (.ref b :: As) rv wc2) (hG : GoodIn Uw (wsV own idx q.1 y (Cond.code y bytes maxL rety :: Uw))) (hrc : rm.cells = 0) (hrs : rm.slots = 0)
    (hd : y.cls = q.1 ∧ y.cls ≠ "java/lang/invoke/MethodHandle" ∧ y.cls ≠ "java/lang/invoke/VarHandle" ∧ (parseMethodDescriptor y.desc).map (fun d => d.parameters.length) = some n) (hR : Nat.ble (rm.frames + 1) R.frames = true ∧ Nat.ble (8 + (maxL + 11) + rm.locals) R.locals = true)
    (hc : vwCl[ci]? = some q) (he : wc[0]? = some (b, .inr (ci, fs))) (hn : As.length = n) (hst : st0 = As.reverse ++ .ref b :: rest) (hrm : Nat.ble ((rest.map fun v => v.category).sum) 8 = true) (hdg : decode cc pc = .ok (.invokevirtual idx, 3)) (hcs : cells + 0 ≤ R.cells ∧ slots + 0 ≤ R.slots)
    (kk : ∀ (H : Heap) (locs : List Loc), wd D (wc2 ++ v) Af H0 H locs → W p l e R s m args below meth c H locs cells slots Q (F0 m (pc + 3) ls (rv.toList ++ rest))) : W p l e R s m args below meth c H locs cells slots Q (F0 m pc ls st0) := by
  subst hst
  refine c_runA hW hA (va_runV (As := As) (rest := rest) (Ts := Uw) ⟨C0.1, C0.2.1, C0.2.2.2.1, C0.2.2.2.2.1, C0.2.2.2.2.2.1⟩ (hM H.size) (cwV n C0.2.2.2.2.2.1 hG rfl hrc hrs hd ⟨Nat.le_of_ble_eq_true hR.1, Nat.le_of_ble_eq_true hR.2⟩) ⟨PG_blind, va_recv hK hW.1 (ci := ci) (q0 := 0) hc (ap_l he), fun U hU hv => ⟨rfl, by rw [hU], by rw [hU]; exact (wd_l hW).1, va_K.moved hv.alike hK, (wd_l hW).2, hN.warm hv⟩⟩ rfl hn hl rfl (lv_room (Nat.le_of_ble_eq_true hrm)) hdg hcs) kk
/-- a static method with an exception table that never lets one through -/
theorem c_SL {wc wc2 v : va_W} {rv : Option Value} {y : MethodName} {bytes : ByteArray} {maxL n idx : Nat} {rety : Option FieldType} {hh : List (Nat × Nat × Nat × Nat)} {rm : Room} {As : List Value} (C0 : CX p s m args meth c cc nL ret own) (hK : va_K D vwCl (tyG cy) s) (hN : NWs s) (hX : XWs s) (hZ : ZSs Af s H0) (hl : ls.size = nL) (hW : wd D (wc ++ v) Af H0 H locs) (hA : ∀ q, H0.size ≤ q → Af q)
    (hM : LG l y bytes maxL rety hh rm D cy wc As rv wc2) (hG : Cond.methodLink own idx y ∈ Uw ∧ Cond.static y ∈ Uw ∧ Cond.initialized y.cls ∈ Uw ∧ Cond.codeWith y bytes maxL rety hh ∈ Uw) (hrc : rm.cells = 1) (hrs : rm.slots = 6)
    (hd : y.cls ≠ "java/lang/invoke/MethodHandle" ∧ y.cls ≠ "java/lang/invoke/VarHandle" ∧ (parseMethodDescriptor y.desc).map (fun d => d.parameters.length) = some n) (hR : Nat.ble (rm.frames + 1) R.frames = true ∧ Nat.ble (8 + (maxL + 11) + rm.locals) R.locals = true)
    (hn : As.length = n) (hst : st0 = As.reverse ++ rest) (hrm : Nat.ble ((rest.map fun v => v.category).sum) 8 = true) (hdg : decode cc pc = .ok (.invokestatic idx, 3)) (hcs : cells + 1 ≤ R.cells ∧ slots + 6 ≤ R.slots)
    (kk : ∀ (H : Heap) (locs : List Loc), wd D (wc2 ++ v) Af H0 H locs → W p l e R s m args below meth c H locs (cells + 1) (slots + 6) Q (F0 m (pc + 3) ls (rv.toList ++ rest))) : W p l e R s m args below meth c H locs cells slots Q (F0 m pc ls st0) := by
  subst hst
  have hF := wd_Af hW hA
  have hr := vx_runSX (l := l) (p := p) (e := e) (below := below) (meth := meth) (cells := cells) (slots := slots) (locs := locs) (H := H) (g := F0 m pc ls (As.reverse ++ rest)) (As := As) (rest := rest) (Ts := Uw) (hh := hh) ⟨C0.1, C0.2.1, C0.2.2.2.1, C0.2.2.2.2.1, C0.2.2.2.2.2.1⟩ (hM H.size) (vx_cwSW n C0.2.2.2.2.2.1 (Uw_cons hG.1 (Uw_cons hG.2.1 (Uw_cons hG.2.2.1 (Uw_cons hG.2.2.2 Uw_all)))) rfl hrc hrs hd ⟨Nat.le_of_ble_eq_true hR.1, Nat.le_of_ble_eq_true hR.2⟩) ⟨PT_blind, fun U hU hv => ⟨rfl, by rw [hU], by rw [hU]; exact (wd_l hW).1, va_K.moved hv.alike hK, (wd_l hW).2, hN.warm hv, hX.warm hv, hZ.at hW.2.2 hU hv.alike hF⟩⟩ rfl hn hl rfl (lv_room (Nat.le_of_ble_eq_true hrm)) hdg hcs
  intro T hT X
  rcases hr T hT X with ⟨v, st₀, t, T', L, h0, X', hL, e1, e2, ⟨hv, hP1, -, hD1, hz, hk⟩, st⟩ | ⟨q9, st₀, t, T', L, E, ce, h0, X', hL, e1, e2, hf, -⟩
  · cases hv
    rw [h0] at hz hk
    obtain ⟨t2, a1, b1⟩ := kk T'.heap (locs ++ L) (wd_keepA hW hA (by rw [e1]; exact hP1) hD1 (by rw [e1]; exact hz) (fun q h1 h2 => by rw [e1]; exact hk q h1 h2) hL) T' rfl X'
    exact ⟨t2, st t2 a1, b1⟩
  · exact absurd hf id
end CA
