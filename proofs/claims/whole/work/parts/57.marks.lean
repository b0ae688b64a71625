/-! marks -/
abbrev Mrk : Type := Option (Sta × Pln × Hrd)
def WMk (T : Ter) (N : Nat) (o : Mrk) : Prop := ∀ x, o = some x → WS T N x.1 ∧ WL T x.2.1 ∧ WH x.2.2
def CMk (T : Ter) (o : Mrk) (laid z d b wl hz : Int32) (coal ins wg wh wv hd hs : Nat → Int32) : Prop := laid = nI (b2 o.isSome) ∧ ∀ x, o = some x → CS T x.1 z d b coal ins ∧ CL x.2.1 wl wg wh wv ∧ CH x.2.2 hz hd hs
def MMk (o : Mrk) (k : Nat) (marked laid lines wh la lb hrs hd hs : Nat → Int32) : Prop := laid k = nI (b2 o.isSome) ∧ ∀ x, o = some x → MS x.1 (fun i => marked (13 * k + i)) ∧ ML x.2.1 (1 + k) lines wh la lb ∧ MH x.2.2 (1 + k) hrs hd hs
theorem nar_m1 : vp_nar .byte (-1) = -1 := by decide +kernel
theorem nar_b5 : ∀ j, j < 5 → vp_nar .byte (nI j) = nI j := by decide +kernel
theorem c_copyL {T : Ter} {L : Pln} {ln l2 : Int32} {gs hs vs g2 h2 w2 : Nat → Int32} (hT : WT T) (hW : WL T L) (hL : CL L ln gs hs vs) : ok (fX7_copyFrom ln gs hs vs l2 g2 h2 w2) (fun r => CL L r.1 r.2.1 r.2.2.1 r.2.2.2) := by
  have hH := hT.1
  have hG := hT.2.1
  have h40 := hW.1
  unfold fX7_copyFrom
  refine ok_for4 40 (fun i _ a b c => (∀ j, j < i → a j = vp_nar .byte (gs j)) ∧ (∀ j, j < i → b j = vp_nar .byte (hs j)) ∧ (∀ j, j < i → c j = vs j)) ?_ ?_ FU 0 l2 g2 h2 w2 (Nat.zero_le _) ⟨fun j hj => by omega, fun j hj => by omega, fun j hj => by omega⟩ (by unfold FU; omega)
  · rintro k x a b c i hi ⟨h1, h3, h4⟩ hk
    unfold fX7_copyFrom_2
    simp (disch := omega) only [nlit, nI_add, pk_mul, nC, nB, nT_le, nF_le, nT_lt, nF_lt, nF_eq, nT_eq, nM1_ne, nM1_lt, b2_0, b2_1, b2_nar, nar_0, nar_1, cond_true, if_true, if_false, ob_some]
    refine hk _ _ _ _ ⟨fun j hj => ?_, fun j hj => ?_, fun j hj => ?_⟩
    · by_cases q : j = i
      · subst q; rw [pk_us]
      · rw [pk_un q]; exact h1 j (by omega)
    · by_cases q : j = i
      · subst q; rw [pk_us]
      · rw [pk_un q]; exact h3 j (by omega)
    · by_cases q : j = i
      · subst q; rw [pk_us]
      · rw [pk_un q]; exact h4 j (by omega)
  · rintro k x a b c ⟨h1, h3, h4⟩
    unfold fX7_copyFrom_2
    simp (disch := omega) only [nlit, nI_add, pk_mul, nC, nB, nT_le, nF_le, nT_lt, nF_lt, nF_eq, nT_eq, nM1_ne, nM1_lt, b2_0, b2_1, b2_nar, nar_0, nar_1, cond_true, if_true, if_false, ob_some]
    refine ok_some ⟨hL.1, fun i hi => ?_⟩
    obtain ⟨c1, c2, c3, c4⟩ := hL.2 i hi
    obtain ⟨w1, w2, w3⟩ := hW.2 i hi
    refine ⟨(h4 i (by omega)).trans c1, fun q => ?_, fun q => ?_, fun q => ?_⟩
    · show a i = _
      rw [h1 i (by omega), c2 q, nar_b5 _ (by have := w2 q; omega)]
    · show b i = _
      rw [h3 i (by omega), c3 q, nar_b5 _ (by have := w3 q; omega)]
    · show b i = _
      rw [h3 i (by omega), c4 q, nar_m1]
theorem c_copyH {X : Hrd} {sz s2 : Int32} {ds ss d2 e2 : Nat → Int32} (hW : WH X) (hX : CH X sz ds ss) : ok (fX0_copyFrom sz ds ss s2 d2 e2) (fun r => CH X r.1 r.2.1 r.2.2) := by
  have h8 := hW.1
  unfold fX0_copyFrom
  refine ok_for3 8 (fun i _ a b => (∀ j, j < i → a j = ds j) ∧ (∀ j, j < i → b j = vp_nar .boolean (ss j))) ?_ ?_ FU 0 s2 d2 e2 (Nat.zero_le _) ⟨fun j hj => by omega, fun j hj => by omega⟩ (by unfold FU; omega)
  · rintro k x a b i hi ⟨h1, h3⟩ hk
    unfold fX0_copyFrom_2
    simp (disch := omega) only [nlit, nI_add, pk_mul, nC, nB, nT_le, nF_le, nT_lt, nF_lt, nF_eq, nT_eq, nM1_ne, nM1_lt, b2_0, b2_1, b2_nar, nar_0, nar_1, cond_true, if_true, if_false, ob_some]
    refine hk _ _ _ ⟨fun j hj => ?_, fun j hj => ?_⟩
    · by_cases q : j = i
      · subst q; rw [pk_us]
      · rw [pk_un q]; exact h1 j (by omega)
    · by_cases q : j = i
      · subst q; rw [pk_us]
      · rw [pk_un q]; exact h3 j (by omega)
  · rintro k x a b ⟨h1, h3⟩
    unfold fX0_copyFrom_2
    simp (disch := omega) only [nlit, nI_add, pk_mul, nC, nB, nT_le, nF_le, nT_lt, nF_lt, nF_eq, nT_eq, nM1_ne, nM1_lt, b2_0, b2_1, b2_nar, nar_0, nar_1, cond_true, if_true, if_false, ob_some]
    refine ok_some ⟨hX.1, fun i hi => (h1 i (by omega)).trans (hX.2.1 i hi), fun i hi => ?_⟩
    show b i = _
    rw [h3 i (by omega), hX.2.2 i hi, b2_nar]
theorem m_laysL {L : Pln} {f t : Nat} {lines wh la lb : Nat → Int32} (hf : f < 6) (ht : t < 6) (hft : f ≠ t) (h40 : L.1 ≤ 40) (hL : ML L f lines wh la lb) : ok (fX9_laysLines lines wh la lb (nI f) (nI t)) (fun r => ML L t r.1 r.2.1 r.2.2.1 r.2.2.2 ∧ (∀ k, k ≠ t → r.1 k = lines k) ∧ ∀ j, (j < 40 * t ∨ 40 * t + 40 ≤ j) → r.2.1 j = wh j ∧ r.2.2.1 j = la j ∧ r.2.2.2 j = lb j) := by
  unfold fX9_laysLines
  simp (disch := omega) only [nlit, nI_add, pk_mul, nC, nB, nT_le, nF_le, nT_lt, nF_lt, nF_eq, nT_eq, nM1_ne, nM1_lt, b2_0, b2_1, b2_nar, nar_0, nar_1, cond_true, if_true, if_false, ob_some]
  refine ok_for6 40 (fun i ln a b c w1 w2 => w1 = nI f ∧ w2 = nI t ∧ ln = upd lines t (lines f) ∧ (∀ j, j < i → a (40 * t + j) = wh (40 * f + j) ∧ b (40 * t + j) = la (40 * f + j) ∧ c (40 * t + j) = lb (40 * f + j)) ∧ (∀ j, (j < 40 * t ∨ 40 * t + 40 ≤ j) → a j = wh j ∧ b j = la j ∧ c j = lb j)) ?_ ?_ FU 0 _ wh la lb (nI f) (nI t) (Nat.zero_le _) ⟨rfl, rfl, rfl, fun j hj => by omega, fun j _ => ⟨rfl, rfl, rfl⟩⟩ (by unfold FU; omega)
  · rintro k ln a b c w1 w2 i hi ⟨rfl, rfl, rfl, h1, h2⟩ hk
    unfold fX9_laysLines_14
    have hs := h2 (40 * f + i) (by omega)
    simp (disch := omega) only [nlit, nI_add, pk_mul, nC, nB, nT_le, nF_le, nT_lt, nF_lt, nF_eq, nT_eq, nM1_ne, nM1_lt, b2_0, b2_1, b2_nar, nar_0, nar_1, cond_true, if_true, if_false, ob_some, hs.1, hs.2.1, hs.2.2]
    refine hk _ _ _ _ _ _ ⟨rfl, rfl, rfl, fun j hj => ?_, fun j hj => ?_⟩
    · by_cases q : j = i
      · subst q; rw [pk_us, pk_us, pk_us]; exact ⟨rfl, rfl, rfl⟩
      · rw [pk_un (by omega), pk_un (by omega), pk_un (by omega)]; exact h1 j (by omega)
    · rw [pk_un (by omega), pk_un (by omega), pk_un (by omega)]; exact h2 j hj
  · rintro k ln a b c w1 w2 ⟨rfl, rfl, rfl, h1, h2⟩
    unfold fX9_laysLines_14
    simp (disch := omega) only [nlit, nI_add, pk_mul, nC, nB, nT_le, nF_le, nT_lt, nF_lt, nF_eq, nT_eq, nM1_ne, nM1_lt, b2_0, b2_1, b2_nar, nar_0, nar_1, cond_true, if_true, if_false, ob_some]
    refine ok_some ⟨⟨?_, fun i hi => ?_⟩, fun k hk => pk_un hk, h2⟩
    · show upd lines t (lines f) t = _
      rw [pk_us]; exact hL.1
    · obtain ⟨e1, e2, e3⟩ := h1 i (by omega)
      obtain ⟨g1, g2, g3⟩ := hL.2 i hi
      exact ⟨e1.trans g1, fun q => e2.trans (g2 q), fun q => e3.trans (g3 q)⟩
theorem m_laysH {X : Hrd} {f t : Nat} {hrs hd hs : Nat → Int32} (hf : f < 5) (ht : t < 5) (hft : f ≠ t) (h8 : X.1 ≤ 8) (hX : MH X f hrs hd hs) : ok (fX9_laysHeard hrs hd hs (nI f) (nI t)) (fun r => MH X t r.1 r.2.1 r.2.2 ∧ (∀ k, k ≠ t → r.1 k = hrs k) ∧ ∀ j, (j < 8 * t ∨ 8 * t + 8 ≤ j) → r.2.1 j = hd j ∧ r.2.2 j = hs j) := by
  unfold fX9_laysHeard
  simp (disch := omega) only [nlit, nI_add, pk_mul, nC, nB, nT_le, nF_le, nT_lt, nF_lt, nF_eq, nT_eq, nM1_ne, nM1_lt, b2_0, b2_1, b2_nar, nar_0, nar_1, cond_true, if_true, if_false, ob_some]
  refine ok_for5 8 (fun i ln a b w1 w2 => w1 = nI f ∧ w2 = nI t ∧ ln = upd hrs t (hrs f) ∧ (∀ j, j < i → a (8 * t + j) = hd (8 * f + j) ∧ b (8 * t + j) = vp_nar .boolean (hs (8 * f + j))) ∧ (∀ j, (j < 8 * t ∨ 8 * t + 8 ≤ j) → a j = hd j ∧ b j = hs j)) ?_ ?_ FU 0 _ hd hs (nI f) (nI t) (Nat.zero_le _) ⟨rfl, rfl, rfl, fun j hj => by omega, fun j _ => ⟨rfl, rfl⟩⟩ (by unfold FU; omega)
  · rintro k ln a b w1 w2 i hi ⟨rfl, rfl, rfl, h1, h2⟩ hk
    unfold fX9_laysHeard_14
    have hs := h2 (8 * f + i) (by omega)
    simp (disch := omega) only [nlit, nI_add, pk_mul, nC, nB, nT_le, nF_le, nT_lt, nF_lt, nF_eq, nT_eq, nM1_ne, nM1_lt, b2_0, b2_1, b2_nar, nar_0, nar_1, cond_true, if_true, if_false, ob_some, hs.1, hs.2]
    refine hk _ _ _ _ _ ⟨rfl, rfl, rfl, fun j hj => ?_, fun j hj => ?_⟩
    · by_cases q : j = i
      · subst q; rw [pk_us, pk_us]; exact ⟨rfl, rfl⟩
      · rw [pk_un (by omega), pk_un (by omega)]; exact h1 j (by omega)
    · rw [pk_un (by omega), pk_un (by omega)]; exact h2 j hj
  · rintro k ln a b w1 w2 ⟨rfl, rfl, rfl, h1, h2⟩
    unfold fX9_laysHeard_14
    simp (disch := omega) only [nlit, nI_add, pk_mul, nC, nB, nT_le, nF_le, nT_lt, nF_lt, nF_eq, nT_eq, nM1_ne, nM1_lt, b2_0, b2_1, b2_nar, nar_0, nar_1, cond_true, if_true, if_false, ob_some]
    refine ok_some ⟨⟨?_, fun i hi => ?_, fun i hi => ?_⟩, fun k hk => pk_un hk, h2⟩
    · show upd hrs t (hrs f) t = _
      rw [pk_us]; exact hX.1
    · exact (h1 i (by omega)).1.trans (hX.2.1 i hi)
    · show b (8 * t + i) = _
      rw [(h1 i (by omega)).2, hX.2.2 i hi, b2_nar]
theorem MMk_keep {T : Ter} {N k t : Nat} {o : Mrk} {mk ld ln wh la lb hr hd hs mk' ld' ln' wh' la' lb' hr' hd' hs' : Nat → Int32} (hW : WMk T N o) (h : MMk o k mk ld ln wh la lb hr hd hs) (hk : k < 4) (hkt : 1 + k ≠ t) (e1 : ∀ j, j < 13 → mk' (13 * k + j) = mk (13 * k + j)) (e2 : ld' k = ld k) (e3 : ∀ m, m ≠ t → ln' m = ln m) (e4 : ∀ j, (j < 40 * t ∨ 40 * t + 40 ≤ j) → wh' j = wh j ∧ la' j = la j ∧ lb' j = lb j) (e5 : ∀ m, m ≠ t → hr' m = hr m) (e6 : ∀ j, (j < 8 * t ∨ 8 * t + 8 ≤ j) → hd' j = hd j ∧ hs' j = hs j) : MMk o k mk' ld' ln' wh' la' lb' hr' hd' hs' := by
  refine ⟨e2.trans h.1, fun x hx => ?_⟩
  obtain ⟨w1, w2, w3⟩ := hW x hx
  obtain ⟨h1, h2, h3⟩ := h.2 x hx
  have h40 := w2.1
  have h8 := w3.1
  refine ⟨MS_congr h1 (fun j hj => e1 j hj), ⟨(e3 _ hkt).trans h2.1, fun i hi => ?_⟩, (e5 _ hkt).trans h3.1, fun i hi => ?_, fun i hi => ?_⟩
  · have e := e4 (40 * (1 + k) + i) (by omega)
    obtain ⟨g1, g2, g3⟩ := h2.2 i hi
    exact ⟨e.1.trans g1, fun q => e.2.1.trans (g2 q), fun q => e.2.2.trans (g3 q)⟩
  · exact (e6 (8 * (1 + k) + i) (by omega)).1.trans (h3.2.1 i hi)
  · exact (e6 (8 * (1 + k) + i) (by omega)).2.trans (h3.2.2 i hi)
section MK
variable {T : Ter} {S : Sta} {L : Pln} {X : Hrd} {N : Nat} {o : Mrk}
theorem c_keep {z d b l hz ld mz md mb ml mh : Int32} {co ins g h v hd hs mco mins mg mho mv_ mhd mhs : Nat → Int32} (hT : WT T) (hWL : WL T L) (hWH : WH X) (hs1 : CS T S z d b co ins) (hL : CL L l g h v) (hX : CH X hz hd hs) :
    ok (fX3_keep z d b l hz co ins g h v hd hs ld mz md mb ml mh mco mins mg mho mv_ mhd mhs) (fun r => CMk T (some (S, L, X)) r.1 r.2.1 r.2.2.1 r.2.2.2.1 r.2.2.2.2.1 r.2.2.2.2.2.1 r.2.2.2.2.2.2.1 r.2.2.2.2.2.2.2.1 r.2.2.2.2.2.2.2.2.1 r.2.2.2.2.2.2.2.2.2.1 r.2.2.2.2.2.2.2.2.2.2.1 r.2.2.2.2.2.2.2.2.2.2.2.1 r.2.2.2.2.2.2.2.2.2.2.2.2) := by
  unfold fX3_keep
  exact ok_bind (ok_mono (c_copyFrom hT.1 hs1) (fun y1 h1 => ok_bind (ok_mono (c_copyL hT hWL hL) (fun y2 h2 => ok_bind (ok_mono (c_copyH hWH hX) (fun y3 h3 => ok_some ⟨rfl, fun x hx => by cases hx; exact ⟨h1, h2, h3⟩⟩))))))
theorem c_back {z d b l hz mz md mb ml mh : Int32} {co ins g h v hd hs mco mins mg mho mv_ mhd mhs : Nat → Int32} (hT : WT T) (hWL : WL T L) (hWH : WH X) (hs1 : CS T S mz md mb mco mins) (hL : CL L ml mg mho mv_) (hX : CH X mh mhd mhs) :
    ok (fX3_giveBack mz md mb ml mh mco mins mg mho mv_ mhd mhs z d b l hz co ins g h v hd hs) (fun r => CS T S r.1 r.2.1 r.2.2.1 r.2.2.2.2.2.1 r.2.2.2.2.2.2.1 ∧ CL L r.2.2.2.1 r.2.2.2.2.2.2.2.1 r.2.2.2.2.2.2.2.2.1 r.2.2.2.2.2.2.2.2.2.1 ∧ CH X r.2.2.2.2.1 r.2.2.2.2.2.2.2.2.2.2.1 r.2.2.2.2.2.2.2.2.2.2.2) := by
  unfold fX3_giveBack
  exact ok_bind (ok_mono (c_copyFrom hT.1 hs1) (fun y1 h1 => ok_bind (ok_mono (c_copyL hT hWL hL) (fun y2 h2 => ok_bind (ok_mono (c_copyH hWH hX) (fun y3 h3 => ok_some ⟨h1, h2, h3⟩))))))
/-- the class's mark, by its components -/
theorem c_mark {pk z d b hz ld mz md mb ml mh l : Int32} {co ins hd hs mco mins mg mho mv_ mhd mhs g h v : Nat → Int32} {bk : Bool} (hT : WT T) (hS : WS T N S) (hWL : WL T L) (hWH : WH X) (hWo : WMk T N o) (hs1 : CS T S z d b co ins) (hL : CL L l g h v) (hX : CH X hz hd hs) (ho : CMk T o ld mz md mb ml mh mco mins mg mho mv_ mhd mhs) :
    ok (fX8_mark0 pk z d b hz ld mz md mb ml mh l co ins hd hs mco mins mg mho mv_ mhd mhs g h v (nI (b2 bk))) (fun r => (bk = true ∧ o = none ∧ r = (nI 0, pk, z, d, b, hz, ld, mz, md, mb, ml, mh, l, co, ins, hd, hs, mco, mins, mg, mho, mv_, mhd, mhs, g, h, v)) ∨ (bk = false ∧ r.1 = nI 1 ∧ r.2.1 = pk ∧ CS T S r.2.2.1 r.2.2.2.1 r.2.2.2.2.1 r.2.2.2.2.2.2.2.2.2.2.2.2.2.1 r.2.2.2.2.2.2.2.2.2.2.2.2.2.2.1 ∧ CL L r.2.2.2.2.2.2.2.2.2.2.2.2.1 r.2.2.2.2.2.2.2.2.2.2.2.2.2.2.2.2.2.2.2.2.2.2.2.2.1 r.2.2.2.2.2.2.2.2.2.2.2.2.2.2.2.2.2.2.2.2.2.2.2.2.2.1 r.2.2.2.2.2.2.2.2.2.2.2.2.2.2.2.2.2.2.2.2.2.2.2.2.2.2 ∧ CH X r.2.2.2.2.2.1 r.2.2.2.2.2.2.2.2.2.2.2.2.2.2.2.1 r.2.2.2.2.2.2.2.2.2.2.2.2.2.2.2.2.1 ∧ CMk T (some (S, L, X)) r.2.2.2.2.2.2.1 r.2.2.2.2.2.2.2.1 r.2.2.2.2.2.2.2.2.1 r.2.2.2.2.2.2.2.2.2.1 r.2.2.2.2.2.2.2.2.2.2.1 r.2.2.2.2.2.2.2.2.2.2.2.1 r.2.2.2.2.2.2.2.2.2.2.2.2.2.2.2.2.2.1 r.2.2.2.2.2.2.2.2.2.2.2.2.2.2.2.2.2.2.1 r.2.2.2.2.2.2.2.2.2.2.2.2.2.2.2.2.2.2.2.1 r.2.2.2.2.2.2.2.2.2.2.2.2.2.2.2.2.2.2.2.2.1 r.2.2.2.2.2.2.2.2.2.2.2.2.2.2.2.2.2.2.2.2.2.1 r.2.2.2.2.2.2.2.2.2.2.2.2.2.2.2.2.2.2.2.2.2.2.1 r.2.2.2.2.2.2.2.2.2.2.2.2.2.2.2.2.2.2.2.2.2.2.2.1) ∨ (bk = true ∧ ∃ x, o = some x ∧ r.1 = nI 1 ∧ r.2.1 = nI 0 ∧ CS T x.1 r.2.2.1 r.2.2.2.1 r.2.2.2.2.1 r.2.2.2.2.2.2.2.2.2.2.2.2.2.1 r.2.2.2.2.2.2.2.2.2.2.2.2.2.2.1 ∧ CL x.2.1 r.2.2.2.2.2.2.2.2.2.2.2.2.1 r.2.2.2.2.2.2.2.2.2.2.2.2.2.2.2.2.2.2.2.2.2.2.2.2.1 r.2.2.2.2.2.2.2.2.2.2.2.2.2.2.2.2.2.2.2.2.2.2.2.2.2.1 r.2.2.2.2.2.2.2.2.2.2.2.2.2.2.2.2.2.2.2.2.2.2.2.2.2.2 ∧ CH x.2.2 r.2.2.2.2.2.1 r.2.2.2.2.2.2.2.2.2.2.2.2.2.2.2.1 r.2.2.2.2.2.2.2.2.2.2.2.2.2.2.2.2.1 ∧ CMk T o r.2.2.2.2.2.2.1 r.2.2.2.2.2.2.2.1 r.2.2.2.2.2.2.2.2.1 r.2.2.2.2.2.2.2.2.2.1 r.2.2.2.2.2.2.2.2.2.2.1 r.2.2.2.2.2.2.2.2.2.2.2.1 r.2.2.2.2.2.2.2.2.2.2.2.2.2.2.2.2.2.1 r.2.2.2.2.2.2.2.2.2.2.2.2.2.2.2.2.2.2.1 r.2.2.2.2.2.2.2.2.2.2.2.2.2.2.2.2.2.2.2.1 r.2.2.2.2.2.2.2.2.2.2.2.2.2.2.2.2.2.2.2.2.1 r.2.2.2.2.2.2.2.2.2.2.2.2.2.2.2.2.2.2.2.2.2.1 r.2.2.2.2.2.2.2.2.2.2.2.2.2.2.2.2.2.2.2.2.2.2.1 r.2.2.2.2.2.2.2.2.2.2.2.2.2.2.2.2.2.2.2.2.2.2.2.1)) := by
  have hw : fX8_isWithin 0 0 3 = some (nI 1) := by decide +kernel
  unfold fX8_mark0
  rw [hw]
  refine ok_bind (ok_some (ok_f (by decide) ?_))
  cases bk with
  | false =>
    refine ok_t rfl (ok_t rfl ?_)
    exact ok_bind (ok_mono (c_keep hT hWL hWH hs1 hL hX) (fun y hy => ok_some (Or.inr (Or.inl ⟨rfl, rfl, rfl, hs1, hL, hX, hy⟩))))
  | true =>
    refine ok_f (by decide) ?_
    cases o with
    | none =>
      refine ok_t (by rw [ho.1]; rfl) (ok_some (Or.inl ⟨rfl, rfl, rfl⟩))
    | some x =>
      refine ok_f (by rw [ho.1]; exact (show ¬ nI 1 = 0 by decide)) (ok_f (by decide) ?_)
      obtain ⟨w1, w2, w3⟩ := hWo x rfl
      obtain ⟨g1, g2, g3⟩ := ho.2 x rfl
      exact ok_bind (ok_mono (c_back hT w2 w3 g1 g2 g3) (fun y hy => ok_some (Or.inr (Or.inr ⟨rfl, x, rfl, rfl, rfl, hy.1, hy.2.1, hy.2.2, ho⟩))))
theorem m_mark {j : Nat} {th done : Int32} {lines wh la lb hrs hd hs s mkd ld : Nat → Int32} {bk : Bool} (hj : j < 4) (hWL : WL T L) (hWH : WH X) (hWo : WMk T N o) (hm : MS S s) (hL : ML L 0 lines wh la lb) (hX : MH X 0 hrs hd hs) (ho : MMk o j mkd ld lines wh la lb hrs hd hs) :
    ok (fX9_mark th done lines wh la lb hrs hd hs s mkd ld (nI j) (nI (b2 bk))) (fun r => (∀ k o', k < 4 → k ≠ j → WMk T N o' → MMk o' k mkd ld lines wh la lb hrs hd hs → MMk o' k r.2.2.2.2.2.2.2.2.2.2.2.1 r.2.2.2.2.2.2.2.2.2.2.2.2 r.2.2.2.1 r.2.2.2.2.1 r.2.2.2.2.2.1 r.2.2.2.2.2.2.1 r.2.2.2.2.2.2.2.1 r.2.2.2.2.2.2.2.2.1 r.2.2.2.2.2.2.2.2.2.1) ∧ ((bk = true ∧ o = none ∧ r.1 = nI 0 ∧ r.2.2.1 = done ∧ MS S r.2.2.2.2.2.2.2.2.2.2.1 ∧ ML L 0 r.2.2.2.1 r.2.2.2.2.1 r.2.2.2.2.2.1 r.2.2.2.2.2.2.1 ∧ MH X 0 r.2.2.2.2.2.2.2.1 r.2.2.2.2.2.2.2.2.1 r.2.2.2.2.2.2.2.2.2.1 ∧ MMk o j r.2.2.2.2.2.2.2.2.2.2.2.1 r.2.2.2.2.2.2.2.2.2.2.2.2 r.2.2.2.1 r.2.2.2.2.1 r.2.2.2.2.2.1 r.2.2.2.2.2.2.1 r.2.2.2.2.2.2.2.1 r.2.2.2.2.2.2.2.2.1 r.2.2.2.2.2.2.2.2.2.1) ∨ (bk = false ∧ r.1 = nI 1 ∧ r.2.2.1 = done ∧ MS S r.2.2.2.2.2.2.2.2.2.2.1 ∧ ML L 0 r.2.2.2.1 r.2.2.2.2.1 r.2.2.2.2.2.1 r.2.2.2.2.2.2.1 ∧ MH X 0 r.2.2.2.2.2.2.2.1 r.2.2.2.2.2.2.2.2.1 r.2.2.2.2.2.2.2.2.2.1 ∧ MMk (some (S, L, X)) j r.2.2.2.2.2.2.2.2.2.2.2.1 r.2.2.2.2.2.2.2.2.2.2.2.2 r.2.2.2.1 r.2.2.2.2.1 r.2.2.2.2.2.1 r.2.2.2.2.2.2.1 r.2.2.2.2.2.2.2.1 r.2.2.2.2.2.2.2.2.1 r.2.2.2.2.2.2.2.2.2.1) ∨ (bk = true ∧ ∃ x, o = some x ∧ r.1 = nI 1 ∧ r.2.2.1 = nI 0 ∧ MS x.1 r.2.2.2.2.2.2.2.2.2.2.1 ∧ ML x.2.1 0 r.2.2.2.1 r.2.2.2.2.1 r.2.2.2.2.2.1 r.2.2.2.2.2.2.1 ∧ MH x.2.2 0 r.2.2.2.2.2.2.2.1 r.2.2.2.2.2.2.2.2.1 r.2.2.2.2.2.2.2.2.2.1 ∧ MMk o j r.2.2.2.2.2.2.2.2.2.2.2.1 r.2.2.2.2.2.2.2.2.2.2.2.2 r.2.2.2.1 r.2.2.2.2.1 r.2.2.2.2.2.1 r.2.2.2.2.2.2.1 r.2.2.2.2.2.2.2.1 r.2.2.2.2.2.2.2.2.1 r.2.2.2.2.2.2.2.2.2.1))) := by
  have h40 := hWL.1
  have h8 := hWH.1
  unfold fX9_mark fX9_within
  rw [if_neg (nI_pos (by omega)), if_neg (show ¬ (3 : Int32) < nI j from nI_nlt (a := 3) (by omega) (by omega))]
  refine ok_bind (ok_some (ok_f (by decide) ?_))
  have e13 : (13 : Int32) * nI j = nI (13 * j) := pk_mul 13 j
  have e1j : (1 : Int32) + nI j = nI (1 + j) := nI_add 1 j
  cases bk with
  | false =>
    refine ok_t rfl ?_
    unfold fX9_mark_29 fX9_mark_47 fX9_mark_59
    rw [nC (by omega), e13, e1j]
    refine ok_g (nB (by omega) (by omega)) (ok_t rfl (ok_t rfl ?_))
    refine ok_bind (ok_mono (m_laysL (f := 0) (t := 1 + j) (by omega) (by omega) (by omega) h40 hL) (fun y1 h1 => ?_))
    refine ok_bind (ok_mono (m_laysH (f := 0) (t := 1 + j) (by omega) (by omega) (by omega) h8 hX) (fun y2 h2 => ?_))
    refine ok_t rfl ?_
    refine ok_bind (ok_mono (m_copies (p := 0) (q := 13 * j) (by omega) (by omega) (by omega) (by omega)) (fun y4 h4 => ok_some ⟨fun k o' hk hkj hW' ho' => ?_, Or.inr (Or.inl ⟨rfl, rfl, rfl, hm, ?_, ?_, ?_, fun x hx => ?_⟩)⟩))
    · exact MMk_keep hW' ho' hk (by omega) (fun i hi => h4.2 _ (by omega)) (pk_un hkj) h1.2.1 h1.2.2 h2.2.1 h2.2.2
    · exact ⟨(h1.2.1 0 (by omega)).trans hL.1, fun i hi => by
        have e := h1.2.2 (40 * 0 + i) (by omega)
        obtain ⟨g1, g2, g3⟩ := hL.2 i hi
        exact ⟨e.1.trans g1, fun q => e.2.1.trans (g2 q), fun q => e.2.2.trans (g3 q)⟩⟩
    · exact ⟨(h2.2.1 0 (by omega)).trans hX.1, fun i hi => (h2.2.2 (8 * 0 + i) (by omega)).1.trans (hX.2.1 i hi), fun i hi => (h2.2.2 (8 * 0 + i) (by omega)).2.trans (hX.2.2 i hi)⟩
    · show upd ld j (vp_nar .boolean 1) j = nI 1
      rw [pk_us]; rfl
    · cases hx
      refine ⟨MS_congr hm (fun i hi => ?_), h1.1, h2.1⟩
      show y4 (13 * j + i) = s i
      rw [h4.1 i hi, Nat.zero_add]
  | true =>
    refine ok_f (by decide) ?_
    rw [nC (by omega), ho.1]
    refine ok_g (nB (by omega) (by omega)) ?_
    cases o with
    | none =>
      exact ok_t rfl (ok_some ⟨fun k o' _ _ _ h => h, Or.inl ⟨rfl, rfl, rfl, rfl, hm, hL, hX, ho⟩⟩)
    | some x =>
      refine ok_f (show ¬ nI 1 = 0 by decide) ?_
      obtain ⟨w1, w2, w3⟩ := hWo x rfl
      obtain ⟨g1, g2, g3⟩ := ho.2 x rfl
      unfold fX9_mark_29 fX9_mark_47 fX9_mark_59
      rw [nC (by omega), e13, e1j]
      refine ok_g (nB (by omega) (by omega)) (ok_f (by decide) (ok_f (by decide) ?_))
      refine ok_bind (ok_mono (m_laysL (f := 1 + j) (t := 0) (by omega) (by omega) (by omega) w2.1 g2) (fun y1 h1 => ?_))
      refine ok_bind (ok_mono (m_laysH (f := 1 + j) (t := 0) (by omega) (by omega) (by omega) w3.1 g3) (fun y2 h2 => ?_))
      refine ok_f (by decide) ?_
      refine ok_bind (ok_mono (m_copies (p := 13 * j) (q := 0) (by omega) (by omega) (by omega) (by omega)) (fun y5 h5 => ok_some ⟨fun k o' hk hkj hW' ho' => ?_, Or.inr (Or.inr ⟨rfl, x, rfl, rfl, rfl, ?_, h1.1, h2.1, ?_⟩)⟩))
      · exact MMk_keep hW' ho' hk (by omega) (fun i hi => rfl) (pk_un hkj) h1.2.1 h1.2.2 h2.2.1 h2.2.2
      · exact MS_congr g1 (fun i hi => by have := h5.1 i hi; rw [Nat.zero_add] at this; exact this)
      · have hu : upd ld j (vp_nar .boolean 1) j = ld j := by rw [pk_us, ho.1]; exact nar_1
        exact MMk_keep (ld := ld) hWo ho hj (by omega) (fun i hi => rfl) hu h1.2.1 h1.2.2 h2.2.1 h2.2.2
end MK
theorem mk_1 : fX8_mark1 = fX8_mark0 := by
  have e : fX8_isWithin 1 0 3 = fX8_isWithin 0 0 3 := by decide +kernel
  unfold fX8_mark1 fX8_mark0
  rw [e]
theorem mk_2 : fX8_mark2 = fX8_mark0 := by
  have e : fX8_isWithin 2 0 3 = fX8_isWithin 0 0 3 := by decide +kernel
  unfold fX8_mark2 fX8_mark0
  rw [e]
theorem mk_3 : fX8_mark3 = fX8_mark0 := by
  have e : fX8_isWithin 3 0 3 = fX8_isWithin 0 0 3 := by decide +kernel
  unfold fX8_mark3 fX8_mark0
  rw [e]
