/-! a day: the reference -/
section MD
variable {T : Ter} {S : Sta} {N : Nat} {tr hf ct bu wl kd gf wr cd lf lt cds s : Nat → Int32}
theorem m_day {c : Nat} (hT : WT T) (hS : WS T N S) (hN : N ≤ 2000) (hc3 : c ≤ 3) (hM : MT T tr hf ct bu wl kd gf wr cd lf lt cds) (hs : MS S s) :
    ok (fX9_passes (nI c) tr bu kd cd s) (fun r => r.1 = nI (bs (fun w => (dyA T c S w == 0 && !(sZ S).testBit w) && tkd T w == 1) (tG T)) ∧ MS (dy T c S) r.2) := by
  have hG := hT.2.1
  have hH := hT.1
  have hd := hS.1
  have hZ := hS.z hT
  have hcd := cdT_le (d := sD S) hT
  unfold fX9_passes
  refine ok_for2 (tH T) (fun i a v => v = nI (sZ S) ∧ a 0 = nI (sD S) ∧ a 1 = nI (sZ S) ∧ a 2 = sB S ∧ (∀ h, h < i → a (3 + h) = nI (dyC T c S h)) ∧ (∀ h, i ≤ h → h < 5 → a (3 + h) = nI (sC S h)) ∧ (∀ w, w < 5 → a (8 + w) = nI (sA S w))) ?_ ?_ FU 0 s (s 1) (Nat.zero_le _) ⟨hs.2.1, hs.1, hs.2.1, hs.2.2.1, fun h hh => by omega, fun h _ hh => hs.2.2.2.1 h hh, hs.2.2.2.2⟩ (by unfold FU; omega)
  · rintro k a _ i hlt ⟨rfl, h0, h1, h2, h3, h4, h5⟩ hk
    unfold fX9_passes_9
    have hc := hS.2.2.1 i (by omega)
    have hb := (hT.2.2.2.2.2.1 i hlt).2.2.1
    have hm : tbu T i * (cdT T (sD S) + c) ≤ 9 * 6 := Nat.mul_le_mul hb (by omega)
    have eC : sC S i - tbu T i * (cdT T (sD S) + c) = dyC T c S i := rfl
    have emx : imax (nI 0) (nI (sC S i) - nI (tbu T i * (cdT T (sD S) + c))) = nI (dyC T c S i) := by
      unfold imax
      by_cases q : sC S i < tbu T i * (cdT T (sD S) + c)
      · rw [if_neg (show ¬ nI 0 < nI (sC S i) - nI (tbu T i * (cdT T (sD S) + c)) from fun z => absurd (pk_sneg (a := sC S i) (b := tbu T i * (cdT T (sD S) + c)) (by omega) q) (fun y => Int32.lt_irrefl (Int32.lt_trans z y))), ← eC, show sC S i - tbu T i * (cdT T (sD S) + c) = 0 by omega]
      · rw [nsub (by omega), eC]
        by_cases q2 : 0 < dyC T c S i
        · rw [if_pos (nI_lt q2 (by omega))]
        · rw [if_neg (fun z => q2 ((nI_ltI (by omega) (by omega)).mp z)), show dyC T c S i = 0 by omega]
    simp (disch := omega) only [nlit, nI_add, pk_mul, nC, nB, nT_le, nF_le, nT_lt, nF_lt, nF_eq, nT_eq, nM1_ne, nM1_lt, b2_0, b2_1, b2_nar, nar_0, nar_1, cond_true, if_true, if_false, ob_some, hM.1, h0, m_coldOf hT hM.2.2.2.1 hM.2.2.2.2.1, h4 i (Nat.le_refl _) (by omega), hM.2.2.2.2.2.2.2.1 i hlt, emx]
    refine hk _ _ ⟨rfl, ?_, ?_, ?_, fun h hh => ?_, fun h q1 q2 => ?_, fun w hw => ?_⟩
    · rw [pk_un (by omega)]; exact h0
    · rw [pk_un (by omega)]; exact h1
    · rw [pk_un (by omega)]; exact h2
    · by_cases e : h = i
      · subst e; rw [pk_us]
      · rw [pk_un (by omega)]; exact h3 h (by omega)
    · rw [pk_un (by omega)]; exact h4 h (by omega) q2
    · rw [pk_un (by omega)]; exact h5 w hw
  · rintro k a _ ⟨rfl, h0, h1, h2, h3, h4, h5⟩
    unfold fX9_passes_9
    simp (disch := omega) only [nlit, nI_add, pk_mul, nC, nB, nT_le, nF_le, nT_lt, nF_lt, nF_eq, nT_eq, nM1_ne, nM1_lt, b2_0, b2_1, b2_nar, nar_0, nar_1, cond_true, if_true, if_false, ob_some, hM.1]
    have h3' : ∀ h, h < 5 → a (3 + h) = nI (dyC T c S h) := fun h hh => by
      rcases Nat.lt_or_ge h (tH T) with q | q
      · exact h3 h q
      · rw [h4 h q hh]
        congr 1
        unfold dyC
        rw [hS.2.2.2.1 h q, Nat.zero_sub]
    clear h4
    refine ok_for2 (tG T) (fun i a v => v = nI (sZ S) ∧ a 0 = nI (sD S) ∧ a 1 = nI (sZ S ||| bs (fun w => dyA T c S w == 0 && tkd T w == 1) i) ∧ a 2 = sB S ∧ (∀ h, h < 5 → a (3 + h) = nI (dyC T c S h)) ∧ (∀ w, w < i → a (8 + w) = nI (dyA T c S w)) ∧ (∀ w, i ≤ w → w < 5 → a (8 + w) = nI (sA S w))) ?_ ?_ FU 0 a (nI (sZ S)) (Nat.zero_le _) ⟨rfl, h0, by rw [h1]; simp [bs], h2, h3', fun w hw => by omega, fun w _ hw => h5 w hw⟩ (by unfold FU; omega)
    · clear h0 h1 h2 h3' h3 h5 k a
      rintro k a _ i hlt ⟨rfl, h0, h1, h2, h3, h4, h5⟩ hk
      have ha := hS.2.2.2.2.1 i
      have hkd := (hT.2.2.2.2.2.2.1 i hlt).1
      have hb := bs_le (p := fun w => dyA T c S w == 0 && tkd T w == 1) (n := i) (by omega)
      have hzb : sZ S ||| bs (fun w => dyA T c S w == 0 && tkd T w == 1) i < 32 := Nat.or_lt_two_pow (n := 5) hZ hb
      -- the second half of the body
      have fin : ∀ a : Nat → Int32, a 0 = nI (sD S) → a 1 = nI (sZ S ||| bs (fun w => dyA T c S w == 0 && tkd T w == 1) i) → a 2 = sB S → (∀ h, h < 5 → a (3 + h) = nI (dyC T c S h)) → (∀ w, w < i + 1 → a (8 + w) = nI (dyA T c S w)) → (∀ w, i + 1 ≤ w → w < 5 → a (8 + w) = nI (sA S w)) → ok (fX9_passes_133 (nI c) tr bu kd cd k a (nI (sZ S)) (nI i)) (fun r => r.1 = nI (bs (fun w => (dyA T c S w == 0 && !(sZ S).testBit w) && tkd T w == 1) (tG T)) ∧ MS (dy T c S) r.2) := by
        intro a h0 h1 h2 h3 h4 h5
        unfold fX9_passes_133
        have hal := Nat.le_trans (dyA_le (T := T) (c := c) (S := S) (w := i)) ha
        simp (disch := omega) only [nlit, nI_add, pk_mul, nC, nB, nT_le, nF_le, nT_lt, nF_lt, nF_eq, nT_eq, nM1_ne, nM1_lt, b2_0, b2_1, b2_nar, nar_0, nar_1, cond_true, if_true, if_false, ob_some, h4 i (by omega), hM.2.2.2.2.2.2.2.2.2.1 i hlt, h1, q_one]
        have same : (dyA T c S i == 0 && tkd T i == 1) = false → ok (k a (nI (sZ S)) (nI (i + 1))) (fun r => r.1 = nI (bs (fun w => (dyA T c S w == 0 && !(sZ S).testBit w) && tkd T w == 1) (tG T)) ∧ MS (dy T c S) r.2) := by
          intro e
          refine hk _ _ ⟨rfl, h0, ?_, h2, h3, h4, h5⟩
          rw [h1]
          simp [bs, e]
        by_cases q1 : dyA T c S i = 0
        · by_cases q2 : tkd T i = 1
          · simp (disch := omega) only [nlit, nI_add, pk_mul, nC, nB, nT_le, nF_le, nT_lt, nF_lt, nF_eq, nT_eq, nM1_ne, nM1_lt, b2_0, b2_1, b2_nar, nar_0, nar_1, cond_true, if_true, if_false, ob_some, q1, q2]
            have hp : 2 ^ i < 64 := q_pow (by omega)
            simp (disch := omega) only [q_or]
            refine hk _ _ ⟨rfl, ?_, ?_, ?_, fun h hh => ?_, fun w hw => ?_, fun w w1 w2 => ?_⟩
            · rw [pk_un (by omega)]; exact h0
            · rw [pk_us, Nat.or_assoc]
              simp [bs, q1, q2]
            · rw [pk_un (by omega)]; exact h2
            · rw [pk_un (by omega)]; exact h3 h hh
            · rw [pk_un (by omega)]; exact h4 w hw
            · rw [pk_un (by omega)]; exact h5 w w1 w2
          · simp (disch := omega) only [nlit, nI_add, pk_mul, nC, nB, nT_le, nF_le, nT_lt, nF_lt, nF_eq, nT_eq, nM1_ne, nM1_lt, b2_0, b2_1, b2_nar, nar_0, nar_1, cond_true, if_true, if_false, ob_some, q1]
            exact same (by simp [q1, q2])
        · simp (disch := omega) only [nlit, nI_add, pk_mul, nC, nB, nT_le, nF_le, nT_lt, nF_lt, nF_eq, nT_eq, nM1_ne, nM1_lt, b2_0, b2_1, b2_nar, nar_0, nar_1, cond_true, if_true, if_false, ob_some]
          exact same (by simp [q1])
      unfold fX9_passes_70
      simp (disch := omega) only [nlit, nI_add, pk_mul, nC, nB, nT_le, nF_le, nT_lt, nF_lt, nF_eq, nT_eq, nM1_ne, nM1_lt, b2_0, b2_1, b2_nar, nar_0, nar_1, cond_true, if_true, if_false, ob_some, hM.2.1, h5 i (Nat.le_refl _) (by omega), hM.2.2.2.2.2.2.2.2.2.1 i hlt]
      have stay : dyA T c S i = sA S i → ok (fX9_passes_133 (nI c) tr bu kd cd k a (nI (sZ S)) (nI i)) (fun r => r.1 = nI (bs (fun w => (dyA T c S w == 0 && !(sZ S).testBit w) && tkd T w == 1) (tG T)) ∧ MS (dy T c S) r.2) := by
        intro e
        refine fin a h0 h1 h2 h3 (fun w hw => ?_) (fun w w1 w2 => h5 w (by omega) w2)
        by_cases e2 : w = i
        · subst e2; rw [h5 w (Nat.le_refl _) (by omega), e]
        · exact h4 w (by omega)
      by_cases q0 : sA S i = 0
      · simp (disch := omega) only [nlit, nI_add, pk_mul, nC, nB, nT_le, nF_le, nT_lt, nF_lt, nF_eq, nT_eq, nM1_ne, nM1_lt, b2_0, b2_1, b2_nar, nar_0, nar_1, cond_true, if_true, if_false, ob_some, q0]
        exact stay (by unfold dyA; simp [q0])
      simp (disch := omega) only [nlit, nI_add, pk_mul, nC, nB, nT_le, nF_le, nT_lt, nF_lt, nF_eq, nT_eq, nM1_ne, nM1_lt, b2_0, b2_1, b2_nar, nar_0, nar_1, cond_true, if_true, if_false, ob_some]
      by_cases q3 : tkd T i = 3
      · simp (disch := omega) only [nlit, nI_add, pk_mul, nC, nB, nT_le, nF_le, nT_lt, nF_lt, nF_eq, nT_eq, nM1_ne, nM1_lt, b2_0, b2_1, b2_nar, nar_0, nar_1, cond_true, if_true, if_false, ob_some, q3]
        exact stay (by unfold dyA; simp [q3])
      simp (disch := omega) only [nlit, nI_add, pk_mul, nC, nB, nT_le, nF_le, nT_lt, nF_lt, nF_eq, nT_eq, nM1_ne, nM1_lt, b2_0, b2_1, b2_nar, nar_0, nar_1, cond_true, if_true, if_false, ob_some, nsub]
      have e8 : 3 + sA S i - 1 = 3 + (sA S i - 1) := by omega
      have h9 := h3 (sA S i - 1) (by omega)
      have hcl : dyC T c S (sA S i - 1) ≤ 99 := Nat.le_trans (Nat.sub_le _ _) (hS.2.2.1 _ (by omega))
      simp (disch := omega) only [e8, h9, nlit, nI_add, pk_mul, nC, nB, nT_le, nF_le, nT_lt, nF_lt, nF_eq, nT_eq, nM1_ne, nM1_lt, b2_0, b2_1, b2_nar, nar_0, nar_1, cond_true, if_true, if_false, ob_some]
      by_cases q4 : dyC T c S (sA S i - 1) = 0
      · simp (disch := omega) only [nlit, nI_add, pk_mul, nC, nB, nT_le, nF_le, nT_lt, nF_lt, nF_eq, nT_eq, nM1_ne, nM1_lt, b2_0, b2_1, b2_nar, nar_0, nar_1, cond_true, if_true, if_false, ob_some, q4]
        refine fin _ ?_ ?_ ?_ (fun h hh => ?_) (fun w hw => ?_) (fun w w1 w2 => ?_)
        · rw [pk_un (by omega)]; exact h0
        · rw [pk_un (by omega)]; exact h1
        · rw [pk_un (by omega)]; exact h2
        · rw [pk_un (by omega)]; exact h3 h hh
        · by_cases e2 : w = i
          · subst e2
            rw [pk_us]
            congr 1
            unfold dyA
            rw [if_pos ⟨q3, q0, q4⟩]
          · rw [pk_un (by omega)]; exact h4 w (by omega)
        · rw [pk_un (by omega)]; exact h5 w (by omega) w2
      · simp (disch := omega) only [nlit, nI_add, pk_mul, nC, nB, nT_le, nF_le, nT_lt, nF_lt, nF_eq, nT_eq, nM1_ne, nM1_lt, b2_0, b2_1, b2_nar, nar_0, nar_1, cond_true, if_true, if_false, ob_some]
        exact stay (by unfold dyA; simp [q4])
    · clear h0 h1 h2 h3' h3 h5 k a
      rintro k a _ ⟨rfl, h0, h1, h2, h3, h4, h5⟩
      unfold fX9_passes_70
      have hzz : dyZ T c S < 32 := Nat.lt_of_lt_of_le (dy_WS (c := c) hT hS).2.1 (Nat.pow_le_pow_right (by decide) hG)
      have h1 : a 1 = nI (dyZ T c S) := h1
      have e2 : ∀ m, m < 32 → ∀ n, n < 32 → nI m &&& (nI n ^^^ (-nI 1)) = nI (bs (fun u => m.testBit u && !n.testBit u) 5) := by decide +kernel
      simp (disch := omega) only [nlit, nI_add, pk_mul, nC, nB, nT_le, nF_le, nT_lt, nF_lt, nF_eq, nT_eq, nM1_ne, nM1_lt, b2_0, b2_1, b2_nar, nar_0, nar_1, cond_true, if_true, if_false, ob_some, hM.2.1, h0, pk_un (show (1 : Nat) ≠ 0 by decide), h1, e2]
      refine ok_some ⟨?_, ?_, ?_, ?_, fun h hh => ?_, fun w hw => ?_⟩
      · show nI _ = _
        congr 1
        apply Nat.eq_of_testBit_eq
        intro u
        rw [bs_bit, bs_bit]
        unfold dyZ
        rw [Nat.testBit_or, bs_bit]
        by_cases hu : u < tG T
        · have : u < 5 := by omega
          cases (sZ S).testBit u <;> simp [hu, this]
        · cases (sZ S).testBit u <;> simp [hu]
      · show upd a 0 (nI (sD S + 1)) 0 = _
        exact pk_us
      · show upd a 0 (nI (sD S + 1)) 1 = _
        rw [pk_un (by decide)]; exact h1
      · show upd a 0 (nI (sD S + 1)) 2 = _
        rw [pk_un (by decide)]; exact h2
      · show upd a 0 (nI (sD S + 1)) (3 + h) = _
        rw [pk_un (by omega)]; exact h3 h hh
      · show upd a 0 (nI (sD S + 1)) (8 + w) = _
        rw [pk_un (by omega)]
        rcases Nat.lt_or_ge w (tG T) with q | q
        · exact h4 w q
        · rw [h5 w q hw]
          show _ = nI (dyA T c S w)
          rw [show dyA T c S w = 0 from Nat.le_zero.mp (Nat.le_trans dyA_le (Nat.le_of_eq (hS.2.2.2.2.2.1 w q))), hS.2.2.2.2.2.1 w q]
end MD
