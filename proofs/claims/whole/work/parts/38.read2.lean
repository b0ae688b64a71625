section RE
variable {T : Ter} {S : Sta} {N : Nat} {catB wanB len br : Int32} {cold hf ct bu be kd gf fo code coal inside : Nat → Int32}
variable {tr hf' ct' bu' wl kd' gf' wr cd lf lt cds s : Nat → Int32}
theorem m_down {h w : Nat} {k1 k2 k3 k4 k5 k6 k7 k8 k9 vo : Nat → Int32} (hT : WT T) (hS : WS T N S) (hm : MS S s) (hM : MT T tr hf' ct' bu' wl kd' gf' wr cd lf lt cds) (hh : h < tH T) (hw : w < tG T) : ok (fX9_canDown tr hf' kd' gf' wr lf lt cds s k1 k2 k3 k4 k5 k6 k7 k8 k9 vo (nI w) (nI h)) (fun r => r.1 = nI (b2 ((sA S w == 0 && !(sZ S).testBit w) && tk T S h w))) := by
  have hG := hT.2.1
  unfold fX9_canDown
  simp (disch := omega) only [nlit, nI_add, pk_mul, nC, nB, nT_le, nF_le, nT_lt, nF_lt, nF_eq, nT_eq, nM1_ne, nM1_lt, b2_0, b2_1, b2_nar, nar_0, nar_1, cond_true, if_true, if_false, ob_some, m_outside hT hS hm (show w < 5 by omega)]
  cases q : (sA S w == 0 && !(sZ S).testBit w)
  · exact ok_some rfl
  · simp only [reduceCtorEq, if_false]
    refine ok_bind (ok_mono (m_takes hT hS hm hM hh hw) (fun r hr => ?_))
    simp only [hr, b2_0]
    cases tk T S h w
    · exact ok_some rfl
    · exact ok_some rfl
theorem m_cross {h w : Nat} {k1 k2 k3 k4 k5 k6 k7 k8 k9 vo : Nat → Int32} (hT : WT T) (hS : WS T N S) (hm : MS S s) (hM : MT T tr hf' ct' bu' wl kd' gf' wr cd lf lt cds) (hh : h < tH T) (hw : w < tG T) : ok (fX9_canCross tr hf' wl kd' gf' wr lf lt cds s k1 k2 k3 k4 k5 k6 k7 k8 k9 vo (nI w) (nI h)) (fun r => r.1 = nI (b2 (!(sA S w == 0) && (tbe T (sA S w - 1)).testBit h && tk T S h w))) := by
  have hG := hT.2.1
  have hH := hT.1
  have ha := hS.2.2.2.2.1 w
  unfold fX9_canCross
  simp (disch := omega) only [nlit, nI_add, pk_mul, nC, nB, nT_le, nF_le, nT_lt, nF_lt, nF_eq, nT_eq, nM1_ne, nM1_lt, b2_0, b2_1, b2_nar, nar_0, nar_1, cond_true, if_true, if_false, ob_some, hm.2.2.2.2 w (by omega)]
  by_cases q : sA S w = 0
  · simp (disch := omega) only [nlit, nI_add, pk_mul, nC, nB, nT_le, nF_le, nT_lt, nF_lt, nF_eq, nT_eq, nM1_ne, nM1_lt, b2_0, b2_1, b2_nar, nar_0, nar_1, cond_true, if_true, if_false, ob_some, q]
    exact ok_some rfl
  · have e : (sA S w == 0) = false := by simpa using q
    have hb : tbe T (sA S w - 1) < 32 := Nat.lt_of_lt_of_le (hT.2.2.2.2.2.1 (sA S w - 1) (by omega)).2.2.2 (Nat.pow_le_pow_right (by decide) hH)
    simp (disch := omega) only [nlit, nI_add, pk_mul, nC, nB, nT_le, nF_le, nT_lt, nF_lt, nF_eq, nT_eq, nM1_ne, nM1_lt, b2_0, b2_1, b2_nar, nar_0, nar_1, cond_true, if_true, if_false, ob_some, nsub, hM.2.2.2.2.2.2.2.2.1 (sA S w - 1) (by omega), q_bit, e, Bool.not_false, Bool.true_and]
    cases q2 : (tbe T (sA S w - 1)).testBit h
    · exact ok_some rfl
    · simp only [reduceCtorEq, if_true]
      refine ok_bind (ok_mono (m_takes hT hS hm hM hh hw) (fun r hr => ?_))
      simp only [hr, b2_0]
      cases tk T S h w
      · exact ok_some rfl
      · exact ok_some rfl
theorem p_hole {wt th : Int32} {st k1 k2 k3 k4 k5 k6 k7 k8 k9 vo : Nat → Int32} (v1 v2 : Int32) (hT : WT T) (hS : WS T N S) (hC : CT T (nI (tN T)) (nI (tH T)) (nI (tG T)) (nI (tS T)) catB wanB len cold hf ct bu be kd gf fo code) (hs : CS T S (nI (sZ S)) (nI (sD S)) br coal inside) (hM : MT T tr hf' ct' bu' wl kd' gf' wr cd lf lt cds) (hm : MS S s) :
    ∃ a, ok (fX8_hole (nI (sD S)) (nI (tH T)) (nI (tG T)) len coal inside hf bu be kd gf fo code wt st v1 v2) (fun r => r.1 = a) ∧ ok (fX9_hole tr hf' bu' wl kd' gf' wr lf lt cds s th k1 k2 k3 k4 k5 k6 k7 k8 k9 vo v1 v2) (fun r => r.1 = a) := by
  have hH := hT.1
  have hG := hT.2.1
  unfold fX8_hole fX9_hole
  simp (disch := omega) only [nlit, nI_add, pk_mul, nC, nB, nT_le, nF_le, nT_lt, nF_lt, nF_eq, nT_eq, nM1_ne, nM1_lt, b2_0, b2_1, b2_nar, nar_0, nar_1, cond_true, if_true, if_false, ob_some, c_hasH hH, m_isHole hM.1 hH, tIl, Int.reduceToNat]
  cases q : vld v1 (tH T)
  · exact ⟨-nI 1, ok_some rfl, ok_some rfl⟩
  · obtain ⟨h, hh, rfl⟩ := isIn hH q
    have hI := oIn_lt (S := S) (h := h) hT
    have ei : inside h = nI (oIn T S h) := hs.2.2.2.2 h (by omega)
    simp (disch := omega) only [nlit, nI_add, pk_mul, nC, nB, nT_le, nF_le, nT_lt, nF_lt, nF_eq, nT_eq, nM1_ne, nM1_lt, b2_0, b2_1, b2_nar, nar_0, nar_1, cond_true, if_true, if_false, ob_some, reduceCtorEq, hC.2.2.2.2.2.2.2.1 h hh, hs.2.2.2.1 h hh, hC.2.2.2.2.2.2.2.2.2.1 h hh, ei, hC.2.2.2.2.2.2.2.2.2.2.1 h hh, hM.2.2.2.2.2.1 h hh, hm.2.2.2.1 h (by omega), hM.2.2.2.2.2.2.2.1 h hh, hM.2.2.2.2.2.2.2.2.1 h hh, m_insideOf hT hS hm hM (show h < 5 by omega)]
    rcases wthn v2 0 5 (by omega) (by omega) with ⟨j, -, hj, rfl, e1, -⟩ | ⟨e1, -⟩
    · rw [e1]
      simp (disch := omega) only [nlit, nI_add, pk_mul, nC, nB, nT_le, nF_le, nT_lt, nF_lt, nF_eq, nT_eq, nM1_ne, nM1_lt, b2_0, b2_1, b2_nar, nar_0, nar_1, cond_true, if_true, if_false, ob_some]
      have hj2 : j = 0 ∨ j = 1 ∨ j = 2 ∨ j = 3 ∨ j = 4 ∨ j = 5 := by omega
      rcases hj2 with rfl | rfl | rfl | rfl | rfl | rfl
      · simp (disch := omega) only [nlit, nI_add, pk_mul, nC, nB, nT_le, nF_le, nT_lt, nF_lt, nF_eq, nT_eq, nM1_ne, nM1_lt, b2_0, b2_1, b2_nar, nar_0, nar_1, cond_true, if_true, if_false, ob_some]; exact ⟨_, ok_some rfl, ok_some rfl⟩
      · simp (disch := omega) only [nlit, nI_add, pk_mul, nC, nB, nT_le, nF_le, nT_lt, nF_lt, nF_eq, nT_eq, nM1_ne, nM1_lt, b2_0, b2_1, b2_nar, nar_0, nar_1, cond_true, if_true, if_false, ob_some]; exact ⟨_, ok_some rfl, ok_some rfl⟩
      · simp (disch := omega) only [nlit, nI_add, pk_mul, nC, nB, nT_le, nF_le, nT_lt, nF_lt, nF_eq, nT_eq, nM1_ne, nM1_lt, b2_0, b2_1, b2_nar, nar_0, nar_1, cond_true, if_true, if_false, ob_some]; exact ⟨_, ok_some rfl, ok_some rfl⟩
      · simp (disch := omega) only [nlit, nI_add, pk_mul, nC, nB, nT_le, nF_le, nT_lt, nF_lt, nF_eq, nT_eq, nM1_ne, nM1_lt, b2_0, b2_1, b2_nar, nar_0, nar_1, cond_true, if_true, if_false, ob_some]; exact ⟨_, ok_some rfl, ok_some rfl⟩
      · simp (disch := omega) only [nlit, nI_add, pk_mul, nC, nB, nT_le, nF_le, nT_lt, nF_lt, nF_eq, nT_eq, nM1_ne, nM1_lt, b2_0, b2_1, b2_nar, nar_0, nar_1, cond_true, if_true, if_false, ob_some]; exact ⟨_, ok_some rfl, ok_some rfl⟩
      · simp (disch := omega) only [nlit, nI_add, pk_mul, nC, nB, nT_le, nF_le, nT_lt, nF_lt, nF_eq, nT_eq, nM1_ne, nM1_lt, b2_0, b2_1, b2_nar, nar_0, nar_1, cond_true, if_true, if_false, ob_some]
        refine ⟨_, ok_bind (ok_mono (c_taken hT hS hC hs hh) (fun r hr => ok_some hr)), ?_⟩
        refine ok_for14 (tG T) (fun i _ _ _ _ _ _ _ _ _ _ _ v1 v3 v => v1 = nI h ∧ v3 = nI (oIn T S h) ∧ v = nI (bs (fun w => !(oIn T S h).testBit w && tk T S h w) i)) ?_ ?_ FU 0 _ _ _ _ _ _ _ _ _ _ _ (nI h) (nI (oIn T S h)) (nI 0) (Nat.zero_le _) ⟨rfl, rfl, rfl⟩ (by unfold FU; omega)
        · rintro k a1 a2 a3 a4 a5 a6 a7 a8 a9 a10 a11 _ _ _ i hlt ⟨rfl, rfl, rfl⟩ hk
          unfold fX9_hole_98
          have h5 := bs_le (p := fun w => !(oIn T S h).testBit w && tk T S h w) (n := i) (by omega)
          simp (disch := omega) only [nlit, nI_add, pk_mul, nC, nB, nT_le, nF_le, nT_lt, nF_lt, nF_eq, nT_eq, nM1_ne, nM1_lt, b2_0, b2_1, b2_nar, nar_0, nar_1, cond_true, if_true, if_false, ob_some, hM.2.1, q_bit, q_one]
          have hq := fun b1 b2 b3 b4 b5 b6 b7 b8 b9 b10 b11 => hk b1 b2 b3 b4 b5 b6 b7 b8 b9 b10 b11 _ _ _ ⟨rfl, rfl, rfl⟩
          rw [← q_step (by omega)] at hq
          cases c1 : (oIn T S h).testBit i
          · simp only [if_true]
            refine ok_bind (ok_mono (m_takes hT hS hm hM hh hlt) (fun r hr => ?_))
            rw [c1] at hq
            simp (disch := omega) only [hr, nlit, nI_add, pk_mul, nC, nB, nT_le, nF_le, nT_lt, nF_lt, nF_eq, nT_eq, nM1_ne, nM1_lt, b2_0, b2_1, b2_nar, nar_0, nar_1, cond_true, if_true, if_false, ob_some]
            cases c2 : tk T S h i
            · rw [c2] at hq
              exact hq _ _ _ _ _ _ _ _ _ _ _
            · rw [c2] at hq
              exact hq _ _ _ _ _ _ _ _ _ _ _
          · rw [c1] at hq
            simp only [reduceCtorEq, if_false]
            exact hq _ _ _ _ _ _ _ _ _ _ _
        · rintro k a1 a2 a3 a4 a5 a6 a7 a8 a9 a10 a11 _ _ _ ⟨rfl, rfl, rfl⟩
          unfold fX9_hole_98
          simp (disch := omega) only [nlit, nI_add, pk_mul, nC, nB, nT_le, nF_le, nT_lt, nF_lt, nF_eq, nT_eq, nM1_ne, nM1_lt, b2_0, b2_1, b2_nar, nar_0, nar_1, cond_true, if_true, if_false, ob_some, hM.2.1]
          exact ok_some rfl
    · rw [e1]
      simp (disch := omega) only [nlit, nI_add, pk_mul, nC, nB, nT_le, nF_le, nT_lt, nF_lt, nF_eq, nT_eq, nM1_ne, nM1_lt, b2_0, b2_1, b2_nar, nar_0, nar_1, cond_true, if_true, if_false, ob_some]
      refine ⟨-nI 1, ?_, ok_some rfl⟩
      rcases rng v2 5 (by omega) with ⟨j, hj, rfl⟩ | ⟨-, hne⟩
      · exfalso
        unfold fX9_within at e1
        simp (disch := omega) only [nlit, nI_add, pk_mul, nC, nB, nT_le, nF_le, nT_lt, nF_lt, nF_eq, nT_eq, nM1_ne, nM1_lt, b2_0, b2_1, b2_nar, nar_0, nar_1, cond_true, if_true, if_false, ob_some, Option.some.injEq] at e1
      · simp only [hne 0 (by omega), hne 1 (by omega), hne 2 (by omega), hne 3 (by omega), hne 4 (by omega), hne 5 (by omega), if_false]
        exact ok_some rfl
theorem c_foesB {w : Nat} (hT : WT T) (hS : WS T N S) (hC : CT T (nI (tN T)) (nI (tH T)) (nI (tG T)) (nI (tS T)) catB wanB len cold hf ct bu be kd gf fo code) (hs : CS T S (nI (sZ S)) (nI (sD S)) br coal inside) (hw : w < tG T) : fX4_foesBits (nI (sZ S)) (nI (tH T)) (nI (tG T)) inside fo (nI w) = some (nI (if (sZ S).testBit w then 0 else oFoe T w (if sA S w = 0 then oOut T S else oIn T S (sA S w - 1)))) := by
  have hH := hT.1
  have hG := hT.2.1
  have hZ := hS.z hT
  have ha := hS.2.2.2.2.1 w
  have hf := bs_le (p := fun o => twr T w o) hG
  have hO := oOut_lt (S := S) hT
  have hI := oIn_lt (S := S) (h := sA S w - 1) hT
  have es := c_street hH hG hZ (fun w _ => hS.2.2.2.2.1 w) hs.2.2.2.2
  have es : fX4_streetBits (nI (sZ S)) (nI (tH T)) (nI (tG T)) inside = some (nI (oOut T S)) := es
  have key : ∀ p : Nat → Bool, bs (fun o => twr T w o) (tG T) &&& bs p (tG T) = oFoe T w (bs p (tG T)) := by
    intro p
    unfold oFoe
    rw [bs_and]
    apply bs_ext
    intro k hk
    rw [bs_bit, decide_eq_true hk, Bool.true_and, Bool.and_comm]
  unfold fX4_foesBits
  simp (disch := omega) only [nlit, nI_add, pk_mul, nC, nB, nT_le, nF_le, nT_lt, nF_lt, nF_eq, nT_eq, nM1_ne, nM1_lt, b2_0, b2_1, b2_nar, nar_0, nar_1, cond_true, if_true, if_false, ob_some, q_bit, c_place hG (show sA S w ≤ 5 by omega) hw hs.2.2.2.2, es, hC.2.2.2.2.2.2.2.2.2.2.2.2.2.1 w hw]
  simp (disch := omega) only [q_and]
  cases c1 : (sZ S).testBit w
  · simp only [if_true]
    by_cases q : sA S w = 0
    · rw [q]
      have : plI 0 = -nI 1 := rfl
      simp only [this, if_true]
      rw [show oOut T S = bs (fun w => sA S w == 0 && !(sZ S).testBit w) (tG T) from rfl, key]
      rfl
    · have e : plI (sA S w) = nI (sA S w - 1) := if_neg q
      have ei : inside (sA S w - 1) = nI (oIn T S (sA S w - 1)) := hs.2.2.2.2 _ (by omega)
      simp (disch := omega) only [e, nlit, nI_add, pk_mul, nC, nB, nT_le, nF_le, nT_lt, nF_lt, nF_eq, nT_eq, nM1_ne, nM1_lt, b2_0, b2_1, b2_nar, nar_0, nar_1, cond_true, if_true, if_false, ob_some, ei, q_and, q]
      rw [show oIn T S (sA S w - 1) = bs (fun u => sA S u == sA S w - 1 + 1) (tG T) from rfl, key]
      rfl
  · rfl
theorem m_foesOf {w : Nat} (hT : WT T) (hS : WS T N S) (hM : MT T tr hf' ct' bu' wl kd' gf' wr cd lf lt cds) (hm : MS S s) (hw : w < tG T) : fX9_foesOf tr gf' wr s (nI w) = some (nI (if (sZ S).testBit w then 0 else oFoe T w (if sA S w = 0 then oOut T S else oIn T S (sA S w - 1)))) := by
  have hH := hT.1
  have hG := hT.2.1
  have hZ := hS.z hT
  have ha := hS.2.2.2.2.1 w
  have hO := oOut_lt (S := S) hT
  have hI := oIn_lt (S := S) (h := sA S w - 1) hT
  have e2 : ∀ n, n < 32 → ∀ k, k < 5 → nI n &&& (nI (2 ^ k) ^^^ (-nI 1)) = nI (bs (fun u => n.testBit u && !(u == k)) 5) := by decide +kernel
  have fin : ∀ X, X < 32 → fX9_foesOf_46 tr gf' wr s (nI w) (nI X) (nI w) = some (nI (oFoe T w X)) := by
    intro X hX
    unfold fX9_foesOf_46
    have h5 := bs_le (p := fun u => X.testBit u && !(u == w)) (n := 5) (by omega)
    simp (disch := omega) only [nlit, nI_add, pk_mul, nC, nB, nT_le, nF_le, nT_lt, nF_lt, nF_eq, nT_eq, nM1_ne, nM1_lt, b2_0, b2_1, b2_nar, nar_0, nar_1, cond_true, if_true, if_false, ob_some, q_one, e2, m_foesIn hT hM hw h5]
    congr 2
    unfold oFoe
    apply bs_ext
    intro o ho
    rw [bs_bit, decide_eq_true (show o < 5 by omega), Bool.true_and]
    by_cases q : o = w
    · subst q
      have : twr T o o = false := hT.2.2.2.2.2.2.2.2.2.1 (tgf T o) (by have := (hT.2.2.2.2.2.2.1 o ho).2; omega)
      simp [this]
    · have : (o == w) = false := by simpa using q
      simp [this]
  unfold fX9_foesOf
  simp (disch := omega) only [nlit, nI_add, pk_mul, nC, nB, nT_le, nF_le, nT_lt, nF_lt, nF_eq, nT_eq, nM1_ne, nM1_lt, b2_0, b2_1, b2_nar, nar_0, nar_1, cond_true, if_true, if_false, ob_some, m_seized hT hS hm (show w < 5 by omega), m_outsiders hT hS hm hM, hm.2.2.2.2 w (by omega)]
  cases c1 : (sZ S).testBit w
  · simp only [if_true, reduceCtorEq, if_false]
    by_cases q : sA S w = 0
    · simp only [q, if_true]
      exact fin _ hO
    · simp (disch := omega) only [nlit, nI_add, pk_mul, nC, nB, nT_le, nF_le, nT_lt, nF_lt, nF_eq, nT_eq, nM1_ne, nM1_lt, b2_0, b2_1, b2_nar, nar_0, nar_1, cond_true, if_true, if_false, ob_some, nsub, m_insideOf hT hS hm hM (show sA S w - 1 < 5 by omega), q]
      exact fin _ hI
  · rfl
theorem p_guest {th : Int32} (v1 v2 : Int32) (hT : WT T) (hS : WS T N S) (hC : CT T (nI (tN T)) (nI (tH T)) (nI (tG T)) (nI (tS T)) catB wanB len cold hf ct bu be kd gf fo code) (hs : CS T S (nI (sZ S)) (nI (sD S)) br coal inside) (hM : MT T tr hf' ct' bu' wl kd' gf' wr cd lf lt cds) (hm : MS S s) :
    ∃ a, fX8_guest (nI (sZ S)) (nI (tH T)) (nI (tG T)) inside kd gf fo v1 v2 = some a ∧ ok (fX9_guest tr kd' gf' wr s th v1 v2) (fun r => r.1 = a) := by
  have hH := hT.1
  have hG := hT.2.1
  have hZ := hS.z hT
  unfold fX8_guest fX9_guest
  simp (disch := omega) only [nlit, nI_add, pk_mul, nC, nB, nT_le, nF_le, nT_lt, nF_lt, nF_eq, nT_eq, nM1_ne, nM1_lt, b2_0, b2_1, b2_nar, nar_0, nar_1, cond_true, if_true, if_false, ob_some, c_hasG hG, m_isGuest hM.2.1 hG, tIl, Int.reduceToNat]
  cases q : vld v1 (tG T)
  · exact ⟨-nI 2, rfl, ok_some rfl⟩
  · obtain ⟨w, hw, rfl⟩ := isIn hG q
    have ha := hS.2.2.2.2.1 w
    simp (disch := omega) only [nlit, nI_add, pk_mul, nC, nB, nT_le, nF_le, nT_lt, nF_lt, nF_eq, nT_eq, nM1_ne, nM1_lt, b2_0, b2_1, b2_nar, nar_0, nar_1, cond_true, if_true, if_false, ob_some, reduceCtorEq, hC.2.2.2.2.2.2.2.2.2.2.2.1 w hw, hC.2.2.2.2.2.2.2.2.2.2.2.2.1 w hw, hM.2.2.2.2.2.2.2.2.2.1 w hw, hM.2.2.2.2.2.2.2.2.2.2.1 w hw, c_place hG (show sA S w ≤ 5 by omega) hw hs.2.2.2.2, hm.2.2.2.2 w (by omega), q_bit, m_seized hT hS hm (show w < 5 by omega), c_foesB hT hS hC hs hw, m_foesOf hT hS hM hm hw]
    rcases wthn v2 0 4 (by omega) (by omega) with ⟨j, -, hj, rfl, e1, -⟩ | ⟨e1, -⟩
    · rw [e1]
      simp (disch := omega) only [nlit, nI_add, pk_mul, nC, nB, nT_le, nF_le, nT_lt, nF_lt, nF_eq, nT_eq, nM1_ne, nM1_lt, b2_0, b2_1, b2_nar, nar_0, nar_1, cond_true, if_true, if_false, ob_some]
      have hj2 : j = 0 ∨ j = 1 ∨ j = 2 ∨ j = 3 ∨ j = 4 := by omega
      rcases hj2 with rfl | rfl | rfl | rfl | rfl
      · simp (disch := omega) only [nlit, nI_add, pk_mul, nC, nB, nT_le, nF_le, nT_lt, nF_lt, nF_eq, nT_eq, nM1_ne, nM1_lt, b2_0, b2_1, b2_nar, nar_0, nar_1, cond_true, if_true, if_false, ob_some, nsub]
        exact ⟨_, rfl, ok_some (congrArg nI (show tkd T w = 143 + tkd T w - 143 by omega))⟩
      · simp (disch := omega) only [nlit, nI_add, pk_mul, nC, nB, nT_le, nF_le, nT_lt, nF_lt, nF_eq, nT_eq, nM1_ne, nM1_lt, b2_0, b2_1, b2_nar, nar_0, nar_1, cond_true, if_true, if_false, ob_some]; exact ⟨_, rfl, ok_some rfl⟩
      · simp (disch := omega) only [nlit, nI_add, pk_mul, nC, nB, nT_le, nF_le, nT_lt, nF_lt, nF_eq, nT_eq, nM1_ne, nM1_lt, b2_0, b2_1, b2_nar, nar_0, nar_1, cond_true, if_true, if_false, ob_some]
        refine ⟨_, rfl, ok_some ?_⟩
        show nI (sA S w) - nI 1 = plI (sA S w)
        unfold plI
        split
        · rename_i z; rw [z]; rfl
        · exact nsub (by omega)
      · simp (disch := omega) only [nlit, nI_add, pk_mul, nC, nB, nT_le, nF_le, nT_lt, nF_lt, nF_eq, nT_eq, nM1_ne, nM1_lt, b2_0, b2_1, b2_nar, nar_0, nar_1, cond_true, if_true, if_false, ob_some]
        refine ⟨_, rfl, ?_⟩
        cases (sZ S).testBit w
        · exact ok_some rfl
        · exact ok_some rfl
      · simp (disch := omega) only [nlit, nI_add, pk_mul, nC, nB, nT_le, nF_le, nT_lt, nF_lt, nF_eq, nT_eq, nM1_ne, nM1_lt, b2_0, b2_1, b2_nar, nar_0, nar_1, cond_true, if_true, if_false, ob_some]; exact ⟨_, rfl, ok_some rfl⟩
    · rw [e1]
      simp (disch := omega) only [nlit, nI_add, pk_mul, nC, nB, nT_le, nF_le, nT_lt, nF_lt, nF_eq, nT_eq, nM1_ne, nM1_lt, b2_0, b2_1, b2_nar, nar_0, nar_1, cond_true, if_true, if_false, ob_some]
      refine ⟨-nI 2, ?_, ok_some rfl⟩
      rcases rng v2 4 (by omega) with ⟨j, hj, rfl⟩ | ⟨-, hne⟩
      · exfalso
        unfold fX9_within at e1
        simp (disch := omega) only [nlit, nI_add, pk_mul, nC, nB, nT_le, nF_le, nT_lt, nF_lt, nF_eq, nT_eq, nM1_ne, nM1_lt, b2_0, b2_1, b2_nar, nar_0, nar_1, cond_true, if_true, if_false, ob_some, Option.some.injEq] at e1
      · simp only [hne 0 (by omega), hne 1 (by omega), hne 2 (by omega), hne 3 (by omega), hne 4 (by omega), if_false]
end RE
