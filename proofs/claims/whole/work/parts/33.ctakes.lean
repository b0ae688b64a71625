/-! the class: whom a hole takes -/
theorem oFoe_in {T : Ter} {S : Sta} {h w : Nat} : oIn T S h &&& bs (fun o => twr T w o) (tG T) = oFoe T w (oIn T S h) := by
  unfold oFoe oIn
  rw [bs_and]
  apply bs_ext
  intro k hk
  rw [bs_bit]
  simp [hk]
section CK
variable {T : Ter} {S : Sta} {N : Nat} {catB wanB len br : Int32} {cold hf ct bu be kd gf fo code coal inside : Nat → Int32}
theorem c_peace {h w : Nat} (hT : WT T) (hS : WS T N S) (hC : CT T (nI (tN T)) (nI (tH T)) (nI (tG T)) (nI (tS T)) catB wanB len cold hf ct bu be kd gf fo code) (hs : CS T S (nI (sZ S)) (nI (sD S)) br coal inside) (hh : h < tH T) (hw : w < tG T) : fX4_isPeaceful coal inside fo (nI h) (nI w) = some (nI (b2 (decide (0 < sC S h) && (decide (20 ≤ sC S h) || (oFoe T w (oIn T S h) == 0))))) := by
  have hG := hT.2.1
  have hH := hT.1
  have hc := hS.2.2.1 h (by omega)
  have hI := oIn_lt (S := S) (h := h) hT
  have hf := bs_le (p := fun o => twr T w o) hG
  have hF := oFoe_lt (w := w) (X := oIn T S h) hT
  have e := hs.2.2.2.2 h (by omega)
  have e : inside h = nI (oIn T S h) := e
  unfold fX4_isPeaceful
  simp (disch := omega) only [nlit, nI_add, pk_mul, nC, nB, nT_le, nF_le, nT_lt, nF_lt, nF_eq, nT_eq, nM1_ne, nM1_lt, b2_0, b2_1, b2_nar, nar_0, nar_1, cond_true, if_true, if_false, ob_some, hs.2.2.2.1 h hh, e, hC.2.2.2.2.2.2.2.2.2.2.2.2.2.1 w hw, q_and, oFoe_in]
  by_cases c1 : sC S h = 0
  · simp (disch := omega) only [nlit, nI_add, pk_mul, nC, nB, nT_le, nF_le, nT_lt, nF_lt, nF_eq, nT_eq, nM1_ne, nM1_lt, b2_0, b2_1, b2_nar, nar_0, nar_1, cond_true, if_true, if_false, ob_some, c1]
    rfl
  have e1 : decide (0 < sC S h) = true := decide_eq_true (by omega)
  rw [e1]
  by_cases c2 : 20 ≤ sC S h
  · simp (disch := omega) only [nlit, nI_add, pk_mul, nC, nB, nT_le, nF_le, nT_lt, nF_lt, nF_eq, nT_eq, nM1_ne, nM1_lt, b2_0, b2_1, b2_nar, nar_0, nar_1, cond_true, if_true, if_false, ob_some, c2, decide_true]
    rfl
  have e2 : decide (20 ≤ sC S h) = false := decide_eq_false c2
  rw [e2]
  by_cases c3 : oFoe T w (oIn T S h) = 0
  · simp (disch := omega) only [nlit, nI_add, pk_mul, nC, nB, nT_le, nF_le, nT_lt, nF_lt, nF_eq, nT_eq, nM1_ne, nM1_lt, b2_0, b2_1, b2_nar, nar_0, nar_1, cond_true, if_true, if_false, ob_some, c3]
    rfl
  · have e3 : (oFoe T w (oIn T S h) == 0) = false := by simpa using c3
    simp (disch := omega) only [nlit, nI_add, pk_mul, nC, nB, nT_le, nF_le, nT_lt, nF_lt, nF_eq, nT_eq, nM1_ne, nM1_lt, b2_0, b2_1, b2_nar, nar_0, nar_1, cond_true, if_true, if_false, ob_some, e3]
    rfl
theorem c_lawful {h i : Nat} {v4 wt : Int32} {st : Nat → Int32} (hT : WT T) (hC : CT T (nI (tN T)) (nI (tH T)) (nI (tG T)) (nI (tS T)) catB wanB len cold hf ct bu be kd gf fo code) (hs : CS T S (nI (sZ S)) (nI (sD S)) br coal inside) (hh : h < tH T) : ok (fX4_isLawful (nI (sD S)) len coal hf code wt st (nI h) (nI i) v4) (fun r => r.1 = nI (b2 (tal T (nI (sC S h)) (nI i) (nI (b2 (decide (nI (tfl T h) = v4)))) (nI (sD S))))) := by
  have hH := hT.1
  unfold fX4_isLawful fX4_isLawful_27
  simp (disch := omega) only [nlit, nI_add, pk_mul, nC, nB, nT_le, nF_le, nT_lt, nF_lt, nF_eq, nT_eq, nM1_ne, nM1_lt, b2_0, b2_1, b2_nar, nar_0, nar_1, cond_true, if_true, if_false, ob_some, hs.2.2.2.1 h hh, hC.2.2.2.2.2.2.2.1 h hh]
  have go : ∀ b : Bool, ok (Option.bind (fX1_allows len code wt st (nI (sC S h)) (nI i) (nI (b2 b)) (nI (sD S))) fun y1 => some (vp_nar .boolean y1.1, y1.2.1, y1.2.2)) (fun r => r.1 = nI (b2 (tal T (nI (sC S h)) (nI i) (nI (b2 b)) (nI (sD S))))) := by
    intro b
    refine ok_bind (ok_mono (hC.2.2.2.2.2.2.2.2.2.2.2.2.2.2 wt st _ _ _ _) (fun r hr => ok_some ?_))
    show vp_nar .boolean r.1 = _
    rw [hr, b2_nar]
  by_cases c : nI (tfl T h) = v4
  · rw [if_pos c, decide_eq_true c]; exact go true
  · rw [if_neg c, decide_eq_false c]; exact go false
theorem c_takes {h w : Nat} {wt : Int32} {st : Nat → Int32} (hT : WT T) (hS : WS T N S) (hC : CT T (nI (tN T)) (nI (tH T)) (nI (tG T)) (nI (tS T)) catB wanB len cold hf ct bu be kd gf fo code) (hs : CS T S (nI (sZ S)) (nI (sD S)) br coal inside) (hh : h < tH T) (hw : w < tG T) : ok (fX4_takes (nI (sD S)) len coal inside hf kd gf fo code wt st (nI h) (nI w)) (fun r => r.1 = nI (b2 (tk T S h w))) := by
  have hG := hT.2.1
  have hH := hT.1
  have hk3 := (hT.2.2.2.2.2.2.1 w hw).1
  have hgw := (hT.2.2.2.2.2.2.1 w hw).2
  have hfl := (hT.2.2.2.2.2.1 h hh).1
  have hI := oIn_lt (S := S) (h := h) hT
  have e : inside h = nI (oIn T S h) := hs.2.2.2.2 h (by omega)
  unfold fX4_takes
  simp (disch := omega) only [nlit, nI_add, pk_mul, nC, nB, nT_le, nF_le, nT_lt, nF_lt, nF_eq, nT_eq, nM1_ne, nM1_lt, b2_0, b2_1, b2_nar, nar_0, nar_1, cond_true, if_true, if_false, ob_some, hC.2.2.2.2.2.2.2.2.2.2.2.1 w hw, c_peace hT hS hC hs hh hw, e, pJ6_bits, hC.2.2.2.2.2.2.2.2.2.2.2.2.1 w hw]
  by_cases c1 : tkd T w = 3
  · simp (disch := omega) only [nlit, nI_add, pk_mul, nC, nB, nT_le, nF_le, nT_lt, nF_lt, nF_eq, nT_eq, nM1_ne, nM1_lt, b2_0, b2_1, b2_nar, nar_0, nar_1, cond_true, if_true, if_false, ob_some, c1]
    exact ok_some (by simp [tk, c1, b2])
  have e1 : (tkd T w == 3) = false := by simpa using c1
  have et : tk T S h w = ((decide (0 < sC S h) && (decide (20 ≤ sC S h) || (oFoe T w (oIn T S h) == 0))) && (tkd T w == 2 || tal T (nI (sC S h)) (nI (pop (oIn T S h))) (nI (b2 (tfl T h == tgf T w))) (nI (sD S)))) := by
    unfold tk; rw [e1]; rfl
  rw [et]
  simp (disch := omega) only [nlit, nI_add, pk_mul, nC, nB, nT_le, nF_le, nT_lt, nF_lt, nF_eq, nT_eq, nM1_ne, nM1_lt, b2_0, b2_1, b2_nar, nar_0, nar_1, cond_true, if_true, if_false, ob_some]
  cases c2 : (decide (0 < sC S h) && (decide (20 ≤ sC S h) || (oFoe T w (oIn T S h) == 0)))
  · simp (disch := omega) only [nlit, nI_add, pk_mul, nC, nB, nT_le, nF_le, nT_lt, nF_lt, nF_eq, nT_eq, nM1_ne, nM1_lt, b2_0, b2_1, b2_nar, nar_0, nar_1, cond_true, if_true, if_false, ob_some]
    exact ok_some rfl
  simp (disch := omega) only [nlit, nI_add, pk_mul, nC, nB, nT_le, nF_le, nT_lt, nF_lt, nF_eq, nT_eq, nM1_ne, nM1_lt, b2_0, b2_1, b2_nar, nar_0, nar_1, cond_true, if_true, if_false, ob_some, reduceCtorEq]
  by_cases c3 : tkd T w = 2
  · simp (disch := omega) only [nlit, nI_add, pk_mul, nC, nB, nT_le, nF_le, nT_lt, nF_lt, nF_eq, nT_eq, nM1_ne, nM1_lt, b2_0, b2_1, b2_nar, nar_0, nar_1, cond_true, if_true, if_false, ob_some, c3]
    exact ok_some rfl
  have e3 : (tkd T w == 2) = false := by simpa using c3
  rw [e3]
  simp (disch := omega) only [nlit, nI_add, pk_mul, nC, nB, nT_le, nF_le, nT_lt, nF_lt, nF_eq, nT_eq, nM1_ne, nM1_lt, b2_0, b2_1, b2_nar, nar_0, nar_1, cond_true, if_true, if_false, ob_some]
  refine ok_bind (ok_mono (c_lawful hT hC hs hh) (fun r hr => ?_))
  have ef : decide (nI (tfl T h) = nI (tgf T w)) = (tfl T h == tgf T w) := by
    rw [Bool.eq_iff_iff]
    simp [nI_eq (a := tfl T h) (b := tgf T w) (by omega) (by omega)]
  rw [ef] at hr
  simp (disch := omega) only [nlit, nI_add, pk_mul, nC, nB, nT_le, nF_le, nT_lt, nF_lt, nF_eq, nT_eq, nM1_ne, nM1_lt, b2_0, b2_1, b2_nar, nar_0, nar_1, cond_true, if_true, if_false, ob_some, hr]
  cases tal T (nI (sC S h)) (nI (pop (oIn T S h))) (nI (b2 (tfl T h == tgf T w))) (nI (sD S))
  · exact ok_some rfl
  · exact ok_some rfl
theorem c_taken {h : Nat} {wt : Int32} {st : Nat → Int32} (hT : WT T) (hS : WS T N S) (hC : CT T (nI (tN T)) (nI (tH T)) (nI (tG T)) (nI (tS T)) catB wanB len cold hf ct bu be kd gf fo code) (hs : CS T S (nI (sZ S)) (nI (sD S)) br coal inside) (hh : h < tH T) : ok (fX4_takenBits (nI (sD S)) (nI (tG T)) len coal inside hf kd gf fo code wt st (nI h)) (fun r => r.1 = nI (bs (fun w => !(oIn T S h).testBit w && tk T S h w) (tG T))) := by
  have hG := hT.2.1
  have hH := hT.1
  have hI := oIn_lt (S := S) (h := h) hT
  have e : inside h = nI (oIn T S h) := hs.2.2.2.2 h (by omega)
  unfold fX4_takenBits
  refine ok_for4 (tG T) (fun i _ _ v2 v => v2 = nI h ∧ v = nI (bs (fun w => !(oIn T S h).testBit w && tk T S h w) i)) ?_ ?_ FU 0 wt st (nI h) 0 (Nat.zero_le _) ⟨rfl, rfl⟩ (by unfold FU; omega)
  · rintro k wt st _ _ i hlt ⟨rfl, rfl⟩ hk
    unfold fX4_takenBits_5
    simp (disch := omega) only [nlit, nI_add, pk_mul, nC, nB, nT_le, nF_le, nT_lt, nF_lt, nF_eq, nT_eq, nM1_ne, nM1_lt, b2_0, b2_1, b2_nar, nar_0, nar_1, cond_true, if_true, if_false, ob_some, e, q_bit, q_one]
    have hq := fun a b => hk a b _ _ ⟨rfl, rfl⟩
    rw [← q_step (by omega)] at hq
    have h5 := bs_le (p := fun w => !(oIn T S h).testBit w && tk T S h w) (n := i) (by omega)
    cases c1 : (oIn T S h).testBit i
    · simp only [if_true]
      refine ok_bind (ok_mono (c_takes hT hS hC hs hh hlt) (fun r hr => ?_))
      rw [c1] at hq
      simp (disch := omega) only [nlit, nI_add, pk_mul, nC, nB, nT_le, nF_le, nT_lt, nF_lt, nF_eq, nT_eq, nM1_ne, nM1_lt, b2_0, b2_1, b2_nar, nar_0, nar_1, cond_true, if_true, if_false, ob_some, hr]
      cases c2 : tk T S h i
      · rw [c2] at hq
        have := hq r.2.1 r.2.2
        simp (disch := omega) only [Bool.not_false, Bool.and_false, cond_false, q_or, Nat.or_zero] at this
        exact this
      · rw [c2] at hq
        exact hq r.2.1 r.2.2
    · rw [c1] at hq
      have := hq wt st
      simp (disch := omega) only [Bool.not_true, Bool.false_and, cond_false, q_or, Nat.or_zero] at this
      exact this
  · rintro k wt st _ _ ⟨rfl, rfl⟩
    unfold fX4_takenBits_5
    simp (disch := omega) only [nlit, nI_add, pk_mul, nC, nB, nT_le, nF_le, nT_lt, nF_lt, nF_eq, nT_eq, nM1_ne, nM1_lt, b2_0, b2_1, b2_nar, nar_0, nar_1, cond_true, if_true, if_false, ob_some]
    exact ok_some rfl
theorem c_down {h w : Nat} {wt : Int32} {st : Nat → Int32} (hT : WT T) (hS : WS T N S) (hC : CT T (nI (tN T)) (nI (tH T)) (nI (tG T)) (nI (tS T)) catB wanB len cold hf ct bu be kd gf fo code) (hs : CS T S (nI (sZ S)) (nI (sD S)) br coal inside) (hh : h < tH T) (hw : w < tG T) : ok (fX4_canGoDown (nI (sZ S)) (nI (sD S)) (nI (tH T)) (nI (tG T)) len coal inside hf kd gf fo code wt st (nI w) (nI h)) (fun r => r.1 = nI (b2 ((sA S w == 0 && !(sZ S).testBit w) && tk T S h w))) := by
  have hG := hT.2.1
  have hH := hT.1
  have hO := bs_le (p := fun w => sA S w == 0 && !(sZ S).testBit w) hG
  unfold fX4_canGoDown
  simp (disch := omega) only [nlit, nI_add, pk_mul, nC, nB, nT_le, nF_le, nT_lt, nF_lt, nF_eq, nT_eq, nM1_ne, nM1_lt, b2_0, b2_1, b2_nar, nar_0, nar_1, cond_true, if_true, if_false, ob_some, c_hasG hG, c_hasH hH, inIs hG hw, inIs hH hh, c_street hH hG (hS.z hT) (fun w _ => hS.2.2.2.2.1 w) hs.2.2.2.2, q_bit, reduceCtorEq, bs_bit, hw, decide_true, Bool.true_and]
  cases c1 : (sA S w == 0 && !(sZ S).testBit w)
  · simp (disch := omega) only [nlit, nI_add, pk_mul, nC, nB, nT_le, nF_le, nT_lt, nF_lt, nF_eq, nT_eq, nM1_ne, nM1_lt, b2_0, b2_1, b2_nar, nar_0, nar_1, cond_true, if_true, if_false, ob_some]
    exact ok_some rfl
  · simp (disch := omega) only [nlit, nI_add, pk_mul, nC, nB, nT_le, nF_le, nT_lt, nF_lt, nF_eq, nT_eq, nM1_ne, nM1_lt, b2_0, b2_1, b2_nar, nar_0, nar_1, cond_true, if_true, if_false, ob_some, reduceCtorEq]
    refine ok_bind (ok_mono (c_takes hT hS hC hs hh hw) (fun r hr => ?_))
    simp (disch := omega) only [nlit, nI_add, pk_mul, nC, nB, nT_le, nF_le, nT_lt, nF_lt, nF_eq, nT_eq, nM1_ne, nM1_lt, b2_0, b2_1, b2_nar, nar_0, nar_1, cond_true, if_true, if_false, ob_some, hr]
    cases tk T S h w
    · exact ok_some rfl
    · exact ok_some rfl
theorem c_climb {w : Nat} (hT : WT T) (hS : WS T N S) (hs : CS T S (nI (sZ S)) (nI (sD S)) br coal inside) (hw : w < tG T) : fX4_canClimb (nI (tG T)) inside (nI w) = some (nI (b2 (!(sA S w == 0)))) := by
  have hG := hT.2.1
  have hH := hT.1
  have ha := hS.2.2.2.2.1 w
  unfold fX4_canClimb
  simp (disch := omega) only [nlit, nI_add, pk_mul, nC, nB, nT_le, nF_le, nT_lt, nF_lt, nF_eq, nT_eq, nM1_ne, nM1_lt, b2_0, b2_1, b2_nar, nar_0, nar_1, cond_true, if_true, if_false, ob_some, c_hasG hG, inIs hG hw, c_place hG (show sA S w ≤ 5 by omega) hw hs.2.2.2.2, reduceCtorEq]
  by_cases c : sA S w = 0
  · rw [c]; rfl
  · have e : (sA S w == 0) = false := by simpa using c
    rw [e]
    unfold plI
    rw [if_neg c]
    simp (disch := omega) only [nlit, nI_add, pk_mul, nC, nB, nT_le, nF_le, nT_lt, nF_lt, nF_eq, nT_eq, nM1_ne, nM1_lt, b2_0, b2_1, b2_nar, nar_0, nar_1, cond_true, if_true, if_false, ob_some]
    rfl
theorem c_through {h w : Nat} {wt : Int32} {st : Nat → Int32} (hT : WT T) (hS : WS T N S) (hC : CT T (nI (tN T)) (nI (tH T)) (nI (tG T)) (nI (tS T)) catB wanB len cold hf ct bu be kd gf fo code) (hs : CS T S (nI (sZ S)) (nI (sD S)) br coal inside) (hh : h < tH T) (hw : w < tG T) : ok (fX4_canGoThrough (nI (sD S)) (nI (tH T)) (nI (tG T)) len coal inside hf be kd gf fo code wt st (nI w) (nI h)) (fun r => r.1 = nI (b2 (!(sA S w == 0) && (tbe T (sA S w - 1)).testBit h && tk T S h w))) := by
  have hG := hT.2.1
  have hH := hT.1
  have ha := hS.2.2.2.2.1 w
  have hb : tbe T h < 32 := Nat.lt_of_lt_of_le (hT.2.2.2.2.2.1 h hh).2.2.2 (Nat.pow_le_pow_right (by decide) hH)
  unfold fX4_canGoThrough
  simp (disch := omega) only [nlit, nI_add, pk_mul, nC, nB, nT_le, nF_le, nT_lt, nF_lt, nF_eq, nT_eq, nM1_ne, nM1_lt, b2_0, b2_1, b2_nar, nar_0, nar_1, cond_true, if_true, if_false, ob_some, c_climb hT hS hs hw, c_hasH hH, inIs hH hh, c_place hG (show sA S w ≤ 5 by omega) hw hs.2.2.2.2, reduceCtorEq, hC.2.2.2.2.2.2.2.2.2.2.1 h hh]
  by_cases c : sA S w = 0
  · rw [c]
    exact ok_some rfl
  · have e : (sA S w == 0) = false := by simpa using c
    rw [e]
    unfold plI
    rw [if_neg c]
    have hsy := hT.2.2.2.2.2.2.2.2.2.2.1 h (sA S w - 1) hh (by omega)
    simp (disch := omega) only [nlit, nI_add, pk_mul, nC, nB, nT_le, nF_le, nT_lt, nF_lt, nF_eq, nT_eq, nM1_ne, nM1_lt, b2_0, b2_1, b2_nar, nar_0, nar_1, cond_true, if_true, if_false, ob_some, q_bit, Bool.not_false, reduceCtorEq, Bool.true_and, hsy]
    cases c1 : (tbe T (sA S w - 1)).testBit h
    · simp (disch := omega) only [nlit, nI_add, pk_mul, nC, nB, nT_le, nF_le, nT_lt, nF_lt, nF_eq, nT_eq, nM1_ne, nM1_lt, b2_0, b2_1, b2_nar, nar_0, nar_1, cond_true, if_true, if_false, ob_some]
      exact ok_some rfl
    · simp (disch := omega) only [nlit, nI_add, pk_mul, nC, nB, nT_le, nF_le, nT_lt, nF_lt, nF_eq, nT_eq, nM1_ne, nM1_lt, b2_0, b2_1, b2_nar, nar_0, nar_1, cond_true, if_true, if_false, ob_some, reduceCtorEq]
      refine ok_bind (ok_mono (c_takes hT hS hC hs hh hw) (fun r hr => ?_))
      simp (disch := omega) only [nlit, nI_add, pk_mul, nC, nB, nT_le, nF_le, nT_lt, nF_lt, nF_eq, nT_eq, nM1_ne, nM1_lt, b2_0, b2_1, b2_nar, nar_0, nar_1, cond_true, if_true, if_false, ob_some, hr]
      cases tk T S h w
      · exact ok_some rfl
      · exact ok_some rfl
end CK
