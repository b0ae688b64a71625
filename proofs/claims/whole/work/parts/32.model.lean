/-! the reference's small methods -/
section MO
variable {T : Ter} {S : Sta} {N : Nat} {tr hf ct bu wl kd gf wr cd lf lt cds s : Nat → Int32}
theorem m_seized {w : Nat} (hT : WT T) (hS : WS T N S) (hs : MS S s) (hw : w < 5) : fX9_isSeized s (nI w) = some (nI (b2 ((sZ S).testBit w))) := by
  have := hS.z hT
  unfold fX9_isSeized
  simp (disch := omega) only [nlit, nI_add, pk_mul, nC, nB, nT_le, nF_le, nT_lt, nF_lt, nF_eq, nT_eq, nM1_ne, nM1_lt, b2_0, b2_1, b2_nar, nar_0, nar_1, cond_true, if_true, if_false, ob_some, hs.2.1, q_bit]
  cases (sZ S).testBit w <;> rfl
theorem m_outside {w : Nat} (hT : WT T) (hS : WS T N S) (hs : MS S s) (hw : w < 5) : fX9_isOutside s (nI w) = some (nI (b2 (sA S w == 0 && !(sZ S).testBit w))) := by
  have h1 := hS.2.2.2.2.1 w
  have h2 := hT.1
  unfold fX9_isOutside
  simp (disch := omega) only [nlit, nI_add, pk_mul, nC, nB, nT_le, nF_le, nT_lt, nF_lt, nF_eq, nT_eq, nM1_ne, nM1_lt, b2_0, b2_1, b2_nar, nar_0, nar_1, cond_true, if_true, if_false, ob_some, hs.2.2.2.2 w hw, m_seized hT hS hs hw]
  by_cases h : sA S w = 0
  · rw [h]
    cases (sZ S).testBit w <;> rfl
  · have e : (sA S w == 0) = false := by simpa using h
    simp (disch := omega) only [nlit, nI_add, pk_mul, nC, nB, nT_le, nF_le, nT_lt, nF_lt, nF_eq, nT_eq, nM1_ne, nM1_lt, b2_0, b2_1, b2_nar, nar_0, nar_1, cond_true, if_true, if_false, ob_some, e]
    rfl
theorem m_outsiders (hT : WT T) (hS : WS T N S) (hs : MS S s) (hM : MT T tr hf ct bu wl kd gf wr cd lf lt cds) : fX9_outsiders tr s = some (nI (oOut T S)) := by
  have hG := hT.2.1
  unfold fX9_outsiders
  refine ok_eq.mp (ok_for1 (tG T) (fun i v => v = nI (bs (fun w => sA S w == 0 && !(sZ S).testBit w) i)) ?_ ?_ FU 0 0 (Nat.zero_le _) rfl (by unfold FU; omega))
  · rintro k _ i hlt rfl hk
    unfold fX9_outsiders_4
    simp (disch := omega) only [nlit, nI_add, pk_mul, nC, nB, nT_le, nF_le, nT_lt, nF_lt, nF_eq, nT_eq, nM1_ne, nM1_lt, b2_0, b2_1, b2_nar, nar_0, nar_1, cond_true, if_true, if_false, ob_some, hM.2.1, m_outside hT hS hs (show i < 5 by omega), q_one]
    have h := hk _ rfl
    rw [← q_step (by omega)] at h
    cases e : (sA S i == 0 && !(sZ S).testBit i)
    · rw [e] at h; exact h
    · rw [e] at h; exact h
  · rintro k _ rfl
    unfold fX9_outsiders_4
    simp (disch := omega) only [nlit, nI_add, pk_mul, nC, nB, nT_le, nF_le, nT_lt, nF_lt, nF_eq, nT_eq, nM1_ne, nM1_lt, b2_0, b2_1, b2_nar, nar_0, nar_1, cond_true, if_true, if_false, ob_some, hM.2.1]
    exact ok_some rfl
theorem m_insideOf {h : Nat} (hT : WT T) (hS : WS T N S) (hs : MS S s) (hM : MT T tr hf ct bu wl kd gf wr cd lf lt cds) (hh : h < 5) : fX9_insideOf tr s (nI h) = some (nI (oIn T S h)) := by
  have hG := hT.2.1
  have hH := hT.1
  unfold fX9_insideOf
  refine ok_eq.mp (ok_for2 (tG T) (fun i v1 v => v1 = nI h ∧ v = nI (bs (fun w => sA S w == h + 1) i)) ?_ ?_ FU 0 (nI h) 0 (Nat.zero_le _) ⟨rfl, rfl⟩ (by unfold FU; omega))
  · rintro k _ _ i hlt ⟨rfl, rfl⟩ hk
    unfold fX9_insideOf_4
    have ha := hS.2.2.2.2.1 i
    simp (disch := omega) only [nlit, nI_add, pk_mul, nC, nB, nT_le, nF_le, nT_lt, nF_lt, nF_eq, nT_eq, nM1_ne, nM1_lt, b2_0, b2_1, b2_nar, nar_0, nar_1, cond_true, if_true, if_false, ob_some, hM.2.1, hs.2.2.2.2 i (by omega), q_one]
    have hq := hk _ _ ⟨rfl, rfl⟩
    rw [← q_step (by omega)] at hq
    by_cases e : sA S i = h + 1
    · have e' : (sA S i == h + 1) = true := by simpa using e
      rw [e'] at hq
      simp (disch := omega) only [nlit, nI_add, pk_mul, nC, nB, nT_le, nF_le, nT_lt, nF_lt, nF_eq, nT_eq, nM1_ne, nM1_lt, b2_0, b2_1, b2_nar, nar_0, nar_1, cond_true, if_true, if_false, ob_some]
      exact hq
    · have e' : (sA S i == h + 1) = false := by simpa using e
      rw [e'] at hq
      simp (disch := omega) only [nlit, nI_add, pk_mul, nC, nB, nT_le, nF_le, nT_lt, nF_lt, nF_eq, nT_eq, nM1_ne, nM1_lt, b2_0, b2_1, b2_nar, nar_0, nar_1, cond_true, if_true, if_false, ob_some]
      exact hq
  · rintro k _ _ ⟨rfl, rfl⟩
    unfold fX9_insideOf_4
    simp (disch := omega) only [nlit, nI_add, pk_mul, nC, nB, nT_le, nF_le, nT_lt, nF_lt, nF_eq, nT_eq, nM1_ne, nM1_lt, b2_0, b2_1, b2_nar, nar_0, nar_1, cond_true, if_true, if_false, ob_some, hM.2.1]
    exact ok_some rfl
theorem m_war {a b : Nat} (hT : WT T) (hM : MT T tr hf ct bu wl kd gf wr cd lf lt cds) (ha : a < tG T) (hb : b < tG T) : fX9_areAtWar gf wr (nI a) (nI b) = some (nI (b2 (twr T a b))) := by
  have hG := hT.2.1
  have h1 := (hT.2.2.2.2.2.2.1 a ha).2
  have h2 := (hT.2.2.2.2.2.2.1 b hb).2
  have h3 := hT.2.2.2.2.2.2.2.1 (tgf T a) (by omega)
  unfold fX9_areAtWar
  simp (disch := omega) only [nlit, nI_add, pk_mul, nC, nB, nT_le, nF_le, nT_lt, nF_lt, nF_eq, nT_eq, nM1_ne, nM1_lt, b2_0, b2_1, b2_nar, nar_0, nar_1, cond_true, if_true, if_false, ob_some, hM.2.2.2.2.2.2.2.2.2.2.1 a ha, hM.2.2.2.2.2.2.2.2.2.2.1 b hb, hM.2.2.2.2.2.2.2.2.2.2.2.1 (tgf T a) (by omega), q_bit1]
  unfold twr
  cases (twb T (tgf T a)).testBit (tgf T b) <;> rfl
theorem m_foesIn {w X : Nat} (hT : WT T) (hM : MT T tr hf ct bu wl kd gf wr cd lf lt cds) (hw : w < tG T) (hX : X < 32) : fX9_foesIn tr gf wr (nI w) (nI X) = some (nI (oFoe T w X)) := by
  have hG := hT.2.1
  unfold fX9_foesIn
  refine ok_eq.mp (ok_for3 (tG T) (fun i v1 v2 v => v1 = nI w ∧ v2 = nI X ∧ v = nI (bs (fun o => X.testBit o && twr T w o) i)) ?_ ?_ FU 0 (nI w) (nI X) 0 (Nat.zero_le _) ⟨rfl, rfl, rfl⟩ (by unfold FU; omega))
  · rintro k _ _ _ i hlt ⟨rfl, rfl, rfl⟩ hk
    unfold fX9_foesIn_5
    simp (disch := omega) only [nlit, nI_add, pk_mul, nC, nB, nT_le, nF_le, nT_lt, nF_lt, nF_eq, nT_eq, nM1_ne, nM1_lt, b2_0, b2_1, b2_nar, nar_0, nar_1, cond_true, if_true, if_false, ob_some, hM.2.1, q_bit, m_war hT hM hw hlt, q_one]
    have h := hk _ _ _ ⟨rfl, rfl, rfl⟩
    rw [← q_step (by omega)] at h
    cases e1 : X.testBit i <;> cases e2 : twr T w i <;> (rw [e1, e2] at h; exact h)
  · rintro k _ _ _ ⟨rfl, rfl, rfl⟩
    unfold fX9_foesIn_5
    simp (disch := omega) only [nlit, nI_add, pk_mul, nC, nB, nT_le, nF_le, nT_lt, nF_lt, nF_eq, nT_eq, nM1_ne, nM1_lt, b2_0, b2_1, b2_nar, nar_0, nar_1, cond_true, if_true, if_false, ob_some, hM.2.1]
    exact ok_some rfl
theorem lawM_def {al : Int32 → Int32 → Int32 → Int32 → Bool} {l i : Nat} (h : ∀ l i s d : Int32, al l i s d = decide (i * 4 < l)) (hl : l ≤ 99) (hi : i ≤ 6) (s d : Int32) : al (nI l) (nI i) s d = decide (i * 4 < l) := by
  rw [h, nlit, pk_mul]
  exact decide_eq_decide.mpr (nI_ltI (by omega) (by omega))
theorem m_takes {h w : Nat} {k1 k2 k3 k4 k5 k6 k7 k8 k9 vo : Nat → Int32} (hT : WT T) (hS : WS T N S) (hs : MS S s) (hM : MT T tr hf ct bu wl kd gf wr cd lf lt cds) (hh : h < tH T) (hw : w < tG T) : ok (fX9_isTakenBy tr hf kd gf wr lf lt cds s k1 k2 k3 k4 k5 k6 k7 k8 k9 vo (nI h) (nI w)) (fun r => r.1 = nI (b2 (tk T S h w))) := by
  have hG := hT.2.1
  have hH := hT.1
  have hk3 := (hT.2.2.2.2.2.2.1 w hw).1
  have hgw := (hT.2.2.2.2.2.2.1 w hw).2
  have hfl := (hT.2.2.2.2.2.1 h hh).1
  have hc := hS.2.2.1 h (by omega)
  have hI := oIn_lt (S := S) (h := h) hT
  have hF := oFoe_lt (w := w) (X := oIn T S h) hT
  have hp := pop_lt (oIn T S h) (by omega)
  unfold fX9_isTakenBy
  simp (disch := omega) only [nlit, nI_add, pk_mul, nC, nB, nT_le, nF_le, nT_lt, nF_lt, nF_eq, nT_eq, nM1_ne, nM1_lt, b2_0, b2_1, b2_nar, nar_0, nar_1, cond_true, if_true, if_false, ob_some, hM.2.2.2.2.2.2.2.2.2.1 w hw]
  by_cases c1 : tkd T w = 3
  · simp (disch := omega) only [nlit, nI_add, pk_mul, nC, nB, nT_le, nF_le, nT_lt, nF_lt, nF_eq, nT_eq, nM1_ne, nM1_lt, b2_0, b2_1, b2_nar, nar_0, nar_1, cond_true, if_true, if_false, ob_some, c1]
    exact ok_some (by simp [tk, c1, b2])
  simp (disch := omega) only [nlit, nI_add, pk_mul, nC, nB, nT_le, nF_le, nT_lt, nF_lt, nF_eq, nT_eq, nM1_ne, nM1_lt, b2_0, b2_1, b2_nar, nar_0, nar_1, cond_true, if_true, if_false, ob_some, m_insideOf hT hS hs hM (show h < 5 by omega), hs.2.2.2.1 h (by omega)]
  have e1 : (tkd T w == 3) = false := by simpa using c1
  by_cases c2 : sC S h = 0
  · simp (disch := omega) only [nlit, nI_add, pk_mul, nC, nB, nT_le, nF_le, nT_lt, nF_lt, nF_eq, nT_eq, nM1_ne, nM1_lt, b2_0, b2_1, b2_nar, nar_0, nar_1, cond_true, if_true, if_false, ob_some]
    exact ok_some (by simp [tk, e1, c2, b2])
  simp (disch := omega) only [nlit, nI_add, pk_mul, nC, nB, nT_le, nF_le, nT_lt, nF_lt, nF_eq, nT_eq, nM1_ne, nM1_lt, b2_0, b2_1, b2_nar, nar_0, nar_1, cond_true, if_true, if_false, ob_some]
  have e2 : decide (0 < sC S h) = true := by simpa using Nat.pos_of_ne_zero c2
  have fin : (20 ≤ sC S h ∨ oFoe T w (oIn T S h) = 0) → ok (fX9_isTakenBy_51 tr hf kd gf wr lf lt cds s k1 k2 k3 k4 k5 k6 k7 k8 k9 vo (nI h) (nI w) (nI (oIn T S h)) (nI (sC S h))) (fun r => r.1 = nI (b2 (tk T S h w))) := by
    intro hc3
    have e3 : (decide (20 ≤ sC S h) || (oFoe T w (oIn T S h) == 0)) = true := by
      rcases hc3 with q | q
      · simp [q]
      · simp [q]
    have et : tk T S h w = (tkd T w == 2 || tal T (nI (sC S h)) (nI (pop (oIn T S h))) (nI (b2 (tfl T h == tgf T w))) (nI (sD S))) := by
      unfold tk; rw [e1, e2, e3]; rfl
    rw [et]
    unfold fX9_isTakenBy_51 fX9_isTakenBy_138
    simp (disch := omega) only [nlit, nI_add, pk_mul, nC, nB, nT_le, nF_le, nT_lt, nF_lt, nF_eq, nT_eq, nM1_ne, nM1_lt, b2_0, b2_1, b2_nar, nar_0, nar_1, cond_true, if_true, if_false, ob_some, hM.2.2.2.2.2.2.2.2.2.1 w hw]
    by_cases c4 : tkd T w = 2
    · simp (disch := omega) only [nlit, nI_add, pk_mul, nC, nB, nT_le, nF_le, nT_lt, nF_lt, nF_eq, nT_eq, nM1_ne, nM1_lt, b2_0, b2_1, b2_nar, nar_0, nar_1, cond_true, if_true, if_false, ob_some, c4]
      exact ok_some rfl
    have e4 : (tkd T w == 2) = false := by simpa using c4
    rw [e4, Bool.false_or]
    simp (disch := omega) only [nlit, nI_add, pk_mul, nC, nB, nT_le, nF_le, nT_lt, nF_lt, nF_eq, nT_eq, nM1_ne, nM1_lt, b2_0, b2_1, b2_nar, nar_0, nar_1, cond_true, if_true, if_false, ob_some, pX9_bits]
    rcases hM.2.2.2.2.2.2.2.2.2.2.2.2 with ⟨h1, h2⟩ | ⟨h1, h2⟩
    · rw [if_pos h1, lawM_def h2 hc hp]
      by_cases c5 : pop (oIn T S h) * 4 < sC S h
      · simp (disch := omega) only [nlit, nI_add, pk_mul, nC, nB, nT_le, nF_le, nT_lt, nF_lt, nF_eq, nT_eq, nM1_ne, nM1_lt, b2_0, b2_1, b2_nar, nar_0, nar_1, cond_true, if_true, if_false, ob_some, c5, decide_true]
        exact ok_some rfl
      · simp (disch := omega) only [nlit, nI_add, pk_mul, nC, nB, nT_le, nF_le, nT_lt, nF_lt, nF_eq, nT_eq, nM1_ne, nM1_lt, b2_0, b2_1, b2_nar, nar_0, nar_1, cond_true, if_true, if_false, ob_some, c5, decide_false]
        exact ok_some rfl
    · rw [if_neg h1]
      simp (disch := omega) only [nlit, nI_add, pk_mul, nC, nB, nT_le, nF_le, nT_lt, nF_lt, nF_eq, nT_eq, nM1_ne, nM1_lt, b2_0, b2_1, b2_nar, nar_0, nar_1, cond_true, if_true, if_false, ob_some, hM.2.2.2.2.2.2.2.2.2.2.1 w hw, hM.2.2.2.2.2.1 h hh]
      have go : ∀ b : Bool, b = (tfl T h == tgf T w) → ok (Option.bind (fX9_worked lf lt cds (upd (upd (upd (upd vo 1 (nI (sC S h))) 2 (nI (pop (oIn T S h)))) 3 (nI (b2 b))) 4 (s 0)) k1 k2 k3 k4 k5 k6 k7 k8 k9 (nI 0)) fun y2 => if y2.1 = nI 0 then some (nI 0, y2.2.1, y2.2.2.1, y2.2.2.2.1, y2.2.2.2.2.1, y2.2.2.2.2.2.1, y2.2.2.2.2.2.2.1, y2.2.2.2.2.2.2.2.1, y2.2.2.2.2.2.2.2.2.1, y2.2.2.2.2.2.2.2.2.2, (upd (upd (upd (upd vo 1 (nI (sC S h))) 2 (nI (pop (oIn T S h)))) 3 (nI (b2 b))) 4 (s 0))) else some (nI 1, y2.2.1, y2.2.2.1, y2.2.2.2.1, y2.2.2.2.2.1, y2.2.2.2.2.2.1, y2.2.2.2.2.2.2.1, y2.2.2.2.2.2.2.2.1, y2.2.2.2.2.2.2.2.2.1, y2.2.2.2.2.2.2.2.2.2, (upd (upd (upd (upd vo 1 (nI (sC S h))) 2 (nI (pop (oIn T S h)))) 3 (nI (b2 b))) 4 (s 0)))) (fun r => r.1 = nI (b2 (tal T (nI (sC S h)) (nI (pop (oIn T S h))) (nI (b2 (tfl T h == tgf T w))) (nI (sD S))))) := by
        rintro b rfl
        refine ok_bind (ok_mono (h2 _ _ _ _ _ _ _ _ _ _) (fun r hr => ?_))
        have hr : (r.1 = 0) ↔ tal T (nI (sC S h)) (nI (pop (oIn T S h))) (nI (b2 (tfl T h == tgf T w))) (s 0) = false := hr
        rw [hs.1] at hr
        cases ha : tal T (nI (sC S h)) (nI (pop (oIn T S h))) (nI (b2 (tfl T h == tgf T w))) (nI (sD S))
        · exact ok_t (hr.mpr ha) (ok_some rfl)
        · exact ok_f (fun q => by rw [hr.mp q] at ha; cases ha) (ok_some rfl)
      by_cases c6 : tgf T w = tfl T h
      · simp (disch := omega) only [nlit, nI_add, pk_mul, nC, nB, nT_le, nF_le, nT_lt, nF_lt, nF_eq, nT_eq, nM1_ne, nM1_lt, b2_0, b2_1, b2_nar, nar_0, nar_1, cond_true, if_true, if_false, ob_some]
        exact go true (by simp [c6])
      · simp (disch := omega) only [nlit, nI_add, pk_mul, nC, nB, nT_le, nF_le, nT_lt, nF_lt, nF_eq, nT_eq, nM1_ne, nM1_lt, b2_0, b2_1, b2_nar, nar_0, nar_1, cond_true, if_true, if_false, ob_some]
        exact go false (by simpa using fun q => c6 q.symm)
  by_cases c3 : 20 ≤ sC S h
  · simp (disch := omega) only [nlit, nI_add, pk_mul, nC, nB, nT_le, nF_le, nT_lt, nF_lt, nF_eq, nT_eq, nM1_ne, nM1_lt, b2_0, b2_1, b2_nar, nar_0, nar_1, cond_true, if_true, if_false, ob_some]
    exact fin (Or.inl c3)
  · simp (disch := omega) only [nlit, nI_add, pk_mul, nC, nB, nT_le, nF_le, nT_lt, nF_lt, nF_eq, nT_eq, nM1_ne, nM1_lt, b2_0, b2_1, b2_nar, nar_0, nar_1, cond_true, if_true, if_false, ob_some, m_foesIn hT hM hw hI]
    by_cases c4 : oFoe T w (oIn T S h) = 0
    · simp (disch := omega) only [nlit, nI_add, pk_mul, nC, nB, nT_le, nF_le, nT_lt, nF_lt, nF_eq, nT_eq, nM1_ne, nM1_lt, b2_0, b2_1, b2_nar, nar_0, nar_1, cond_true, if_true, if_false, ob_some, c4]
      exact fin (Or.inr c4)
    · simp (disch := omega) only [nlit, nI_add, pk_mul, nC, nB, nT_le, nF_le, nT_lt, nF_lt, nF_eq, nT_eq, nM1_ne, nM1_lt, b2_0, b2_1, b2_nar, nar_0, nar_1, cond_true, if_true, if_false, ob_some]
      have e4 : (oFoe T w (oIn T S h) == 0) = false := by simpa using c4
      exact ok_some (by simp [tk, e1, c3, e4, b2])
end MO
