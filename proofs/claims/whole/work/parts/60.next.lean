section NX
variable {z : Nat → Nat} {n : Nat} {signs tape : Nat → Int32} {words : Nat → Int64}
theorem p_next {p : Nat} (cpl ctp ctk cnu : Int32) (cnm : Int64) (mb mt mnu : Int32) (mwd : Int64) (hn : n ≤ 1000) (hz : ∀ i, i < n → gdB (z i) = true) (hc : ∀ i, i < n → signs i = nI (z i)) (hm : ∀ i, i < n → tape i = nI (z i)) (hw : WdsR words) (hp : p ≤ n) :
    ∃ (q r : Nat) (ct cn' : Int32) (cm' : Int64) (mt' mn' : Int32) (mw' : Int64), p ≤ q ∧ TokR z n q r ct cn' cm' mt' mn' mw' ∧ fX5_next (nI n) signs words (nI p) cpl ctp ctk cnu cnm = some (nI r, nI q, cpl, ct, cn', cm') ∧ fX9_nextToken (nI n) tape (nI p) mb mt mnu mwd = some (nI r, nI q, mt', mn', mw') := by
  have hz7 : ∀ i, i < n → z i < 127 := fun i hi => by
    have := hz i hi
    unfold gdB at this
    simp at this
    omega
  obtain ⟨q, hq⟩ := run_ex isBl z hp
  obtain ⟨q1, q2, q3, q4⟩ := hq
  -- both come to q
  have hC : ∀ x, fX5_next_49 (nI n) signs words (nI p) cpl cpl ctk cnu cnm (nI q) = some x → fX5_next (nI n) signs words (nI p) cpl ctp ctk cnu cnm = some x := by
    intro x hx
    unfold fX5_next
    refine ok_eq.mp (ok_for6 q (fun i a1 a2 a3 a4 a5 a6 => p ≤ i ∧ a1 = nI p ∧ a2 = cpl ∧ a3 = cpl ∧ a4 = ctk ∧ a5 = cnu ∧ a6 = cnm) ?_ ?_ FU p (nI p) cpl cpl ctk cnu cnm q1 ⟨Nat.le_refl _, rfl, rfl, rfl, rfl, rfl, rfl⟩ (by unfold FU; omega))
    · rintro k a1 a2 a3 a4 a5 a6 i hi ⟨hpi, e1, e2, e3, e4, e5, e6⟩ hk
      rw [e1, e2, e3, e4, e5, e6]
      have hb := q3 i hpi hi
      unfold fX5_next_13
      rw [nC (by omega), hc i (by omega), nI_1]
      refine ok_f (nI_ge (by omega) (by omega)) (ok_g (nB (by omega) (by omega)) ?_)
      rcases hb with e | e
      · exact ok_t (by rw [e]; rfl) (hk _ _ _ _ _ _ ⟨by omega, rfl, rfl, rfl, rfl, rfl, rfl⟩)
      · exact ok_f (by rw [e]; decide) (ok_g (nB (by omega) (by omega)) (ok_t (by rw [e]; rfl) (hk _ _ _ _ _ _ ⟨by omega, rfl, rfl, rfl, rfl, rfl, rfl⟩)))
    · rintro k a1 a2 a3 a4 a5 a6 ⟨hpi, e1, e2, e3, e4, e5, e6⟩
      rw [e1, e2, e3, e4, e5, e6]
      have hx : ok (fX5_next_49 (nI n) signs words (nI p) cpl cpl ctk cnu cnm (nI q)) (fun r => r = x) := ok_eq.mpr hx
      unfold fX5_next_13
      by_cases y : q < n
      · have hnb := q4 y
        have h7 := hz7 q y
        rw [nC (by omega), hc q y]
        refine ok_f (nI_ge y (by omega)) (ok_g (nB (by omega) (by omega)) (ok_f (fun e => hnb (Or.inl ((nI_eq (b := 10) (by omega) (by omega)).mp e))) (ok_g (nB (by omega) (by omega)) (ok_f (fun e => hnb (Or.inr ((nI_eq (b := 32) (by omega) (by omega)).mp e))) hx))))
      · exact ok_t (nI_le (by omega) (by omega)) hx
  have hM : ∀ x, fX9_nextToken_52 (nI n) tape (nI q) mb mt mnu mwd = some x → fX9_nextToken (nI n) tape (nI p) mb mt mnu mwd = some x := by
    intro x hx
    unfold fX9_nextToken
    refine ok_eq.mp (ok_fst4 q (fun i a1 a2 a3 a4 => p ≤ i ∧ a1 = mb ∧ a2 = mt ∧ a3 = mnu ∧ a4 = mwd) ?_ ?_ FU p mb mt mnu mwd q1 ⟨Nat.le_refl _, rfl, rfl, rfl, rfl⟩ (by unfold FU; omega))
    · rintro k a1 a2 a3 a4 i hi ⟨hpi, e1, e2, e3, e4⟩ hk
      rw [e1, e2, e3, e4]
      have hb := q3 i hpi hi
      unfold fX9_nextToken_0 fX9_nextToken_39
      rw [nC (by omega), hm i (by omega), nI_1]
      refine ok_f (nI_ge (by omega) (by omega)) (ok_g (nB (by omega) (by omega)) ?_)
      rcases hb with e | e
      · exact ok_f (by rw [e]; decide) (ok_g (nB (by omega) (by omega)) (ok_t (by rw [e]; rfl) (hk _ _ _ _ ⟨by omega, rfl, rfl, rfl, rfl⟩)))
      · exact ok_t (by rw [e]; rfl) (hk _ _ _ _ ⟨by omega, rfl, rfl, rfl, rfl⟩)
    · rintro k a1 a2 a3 a4 ⟨hpi, e1, e2, e3, e4⟩
      rw [e1, e2, e3, e4]
      have hx : ok (fX9_nextToken_52 (nI n) tape (nI q) mb mt mnu mwd) (fun r => r = x) := ok_eq.mpr hx
      unfold fX9_nextToken_0
      by_cases y : q < n
      · have hnb := q4 y
        have h7 := hz7 q y
        rw [nC (by omega), hm q y]
        refine ok_f (nI_ge y (by omega)) (ok_g (nB (by omega) (by omega)) (ok_f (fun e => hnb (Or.inr ((nI_eq (b := 32) (by omega) (by omega)).mp e))) (ok_g (nB (by omega) (by omega)) (ok_f (fun e => hnb (Or.inl ((nI_eq (b := 10) (by omega) (by omega)).mp e))) hx))))
      · exact ok_t (nI_le (by omega) (by omega)) hx
  by_cases y : q < n
  rotate_left
  · -- the end
    have e : q = n := by omega
    subst e
    refine ⟨q, q, nI 0, cnu, cnm, nI 0, nI 0, 0, q1, ⟨Nat.le_refl _, Nat.le_refl _, Or.inl ⟨rfl, rfl, rfl, rfl⟩⟩, hC _ ?_, hM _ ?_⟩
    · unfold fX5_next_49
      rw [if_neg (nI_nlt (Nat.le_refl _) (by omega))]; rfl
    · unfold fX9_nextToken_52
      rw [if_pos rfl]; rfl
  have h7 := hz7 q y
  have hnb := q4 y
  have hg := hz q y
  have h33 : 33 ≤ z q := by
    unfold gdB at hg
    unfold isBl at hnb
    simp at hg
    omega
  have em : fX9_nextToken_52 (nI n) tape (nI q) mb mt mnu mwd = (if nI (z q) < 97 then fX9_nextToken_212 (nI n) tape (nI q) (nI q) mt 0 0 (nI (z q)) else if 122 < nI (z q) then fX9_nextToken_212 (nI n) tape (nI q) (nI q) mt 0 0 (nI (z q)) else itr (fun kk => fX9_nextToken_109 (nI n) tape kk) (fun _ _ _ _ _ => none) FU (nI q) (nI q) mt 0 0) := by
    unfold fX9_nextToken_52
    rw [if_neg (fun e => by have := (nI_eq (by omega) (by omega)).mp e; omega), nB (by omega) (by omega), nC (by omega), hm q y]; rfl
  have ecd : fX5_next_49 (nI n) signs words (nI p) cpl cpl ctk cnu cnm (nI q) = (if nI (b2 (decide (48 ≤ z q ∧ z q ≤ 57))) = 0 then (if nI (b2 (decide (97 ≤ z q ∧ z q ≤ 122))) = 0 then some (nI q + 1, nI q, cpl, nI (z q), cnu, cnm) else Option.bind (fX5_takeWord (nI q) (nI n) signs words (nI q) ctk cnm) fun y9 => some (y9.1, nI q, cpl, y9.2.1, cnu, y9.2.2)) else Option.bind (fX5_takeNumber (nI q) (nI n) signs (nI q) ctk cnu) fun y10 => some (y10.1, nI q, cpl, y10.2.1, y10.2.2, cnm)) := by
    unfold fX5_next_49
    rw [if_pos (nI_lt y (by omega)), nB (by omega) (by omega), nC (by omega), hc q y, c_digit (by omega), c_letter (by omega)]; rfl
  by_cases hd : isDg (z q)
  · -- a number
    have hd2 : 48 ≤ z q ∧ z q ≤ 57 := hd
    obtain ⟨r, hr⟩ := run_ex isDg z (show q ≤ n by omega)
    have hqr : q < r := by
      rcases Nat.lt_or_ge q r with x | x
      · exact x
      · have e : r = q := by have := hr.1; omega
        exact absurd hd (by have := hr.2.2.2; rw [e] at this; exact this y)
    have hv : nv z q (r - q) < 10000 := by
      have h1 := nv_le (z := z) (b := q) (k := r - q) (fun j hj => hr.2.2.1 (q + j) (by omega) (by omega))
      have h2 : 10 ^ min (r - q) 4 ≤ 10 ^ 4 := Nat.pow_le_pow_right (by omega) (by omega)
      omega
    have e1 := c_number (tk0 := ctk) (nu0 := cnu) hn hz7 hc hr
    have e2 := m_number (bg := mb) (tk0 := mt) (w0 := 0) hn hz7 hm hr
    refine ⟨q, r, if r - q ≤ 4 then 2 else 1, nI (nv z q (r - q)), cnm, if r - q ≤ 4 then 2 else 4, nI (nv z q (r - q)), 0, q1, ⟨by omega, hr.2.1, ?_⟩, hC _ ?_, hM _ ?_⟩
    · by_cases x : r - q ≤ 4
      · rw [if_pos x, if_pos x]
        exact Or.inr (Or.inr (Or.inl ⟨hqr, rfl, rfl, _, hv, rfl, rfl⟩))
      · rw [if_neg x, if_neg x]
        exact Or.inr (Or.inr (Or.inr (Or.inr ⟨hqr, rfl, rfl⟩)))
    · rw [ecd, decide_eq_true hd2, if_neg (by decide), e1]; rfl
    · rw [em, if_pos (show nI (z q) < 97 from nI_lt (b := 97) (by omega) (by omega))]
      unfold fX9_nextToken_212
      rw [if_neg (show ¬ nI (z q) < 48 from nI_nlt (b := 48) (by omega) (by omega)), if_neg (show ¬ 57 < nI (z q) from nI_nlt (a := 57) (by omega) (by omega))]
      exact e2
  have hd2 : ¬ (48 ≤ z q ∧ z q ≤ 57) := hd
  by_cases hl : isLt (z q)
  · -- a word
    have hl2 : 97 ≤ z q ∧ z q ≤ 122 := hl
    obtain ⟨r, hr⟩ := run_ex isLt z (show q ≤ n by omega)
    have hqr : q < r := by
      rcases Nat.lt_or_ge q r with x | x
      · exact x
      · have e : r = q := by have := hr.1; omega
        exact absurd hl (by have := hr.2.2.2; rw [e] at this; exact this y)
    have hlt : ∀ j, j < r - q → isLt (z (q + j)) := fun j hj => hr.2.2.1 (q + j) (by omega) (by omega)
    obtain ⟨t, et, ht⟩ := c_wtok (nm_lt hlt) hw
    have e1 := c_word (tk0 := ctk) (nm0 := cnm) hn hz7 hc hr et
    have e2 := m_word (tk0 := mt) (t0 := 0) hn hz7 hm hr
    refine ⟨q, r, if r - q ≤ 8 then t else 1, cnu, lN (nm z q (r - q)), if r - q ≤ 8 then 1 else 4, 0, lN (wd_ z q (r - q)), q1, ⟨by omega, hr.2.1, ?_⟩, hC _ ?_, hM _ ?_⟩
    · by_cases x : r - q ≤ 8
      · rw [if_pos x, if_pos x]
        exact Or.inr (Or.inl ⟨hqr, by omega, hlt, rfl, rfl, rfl, ht⟩)
      · rw [if_neg x, if_neg x]
        exact Or.inr (Or.inr (Or.inr (Or.inr ⟨hqr, rfl, rfl⟩)))
    · rw [ecd, decide_eq_false hd2, decide_eq_true hl2, if_pos (show nI (b2 false) = 0 from rfl), if_neg (by decide), e1]; rfl
    · rw [em, if_neg (show ¬ nI (z q) < 97 from nI_nlt (b := 97) (by omega) (by omega)), if_neg (show ¬ 122 < nI (z q) from nI_nlt (a := 122) (by omega) (by omega))]
      exact e2
  · -- a sign
    have hl2 : ¬ (97 ≤ z q ∧ z q ≤ 122) := hl
    refine ⟨q, q + 1, nI (z q), cnu, cnm, nI (if isSg (z q) = true then 3 else 4), 0, 0, q1, ⟨by omega, by omega, Or.inr (Or.inr (Or.inr (Or.inl ⟨rfl, h33, by omega, hd, hl, rfl, rfl⟩)))⟩, hC _ ?_, hM _ ?_⟩
    · rw [ecd, decide_eq_false hd2, decide_eq_false hl2, if_pos (show nI (b2 false) = 0 from rfl), if_pos (show nI (b2 false) = 0 from rfl), nI_1]
    · have e212 : fX9_nextToken_52 (nI n) tape (nI q) mb mt mnu mwd = fX9_nextToken_212 (nI n) tape (nI q) (nI q) mt 0 0 (nI (z q)) := by
        rw [em]
        by_cases x : z q < 97
        · rw [if_pos (show nI (z q) < 97 from nI_lt (b := 97) x (by omega))]
        · rw [if_neg (show ¬ nI (z q) < 97 from nI_nlt (b := 97) (by omega) (by omega)), if_pos (show 122 < nI (z q) from nI_lt (a := 122) (by omega) (by omega))]
      have e322 : fX9_nextToken_212 (nI n) tape (nI q) (nI q) mt 0 0 (nI (z q)) = fX9_nextToken_322 (nI n) tape (nI q) (nI q) mt 0 0 (nI (z q)) := by
        unfold fX9_nextToken_212
        by_cases x : z q < 48
        · rw [if_pos (show nI (z q) < 48 from nI_lt (b := 48) x (by omega))]
        · rw [if_neg (show ¬ nI (z q) < 48 from nI_nlt (b := 48) (by omega) (by omega)), if_pos (show 57 < nI (z q) from nI_lt (a := 57) (by omega) (by omega))]
      rw [e212, e322]
      unfold fX9_nextToken_322 fX9_nextToken_345 isSg
      rw [nI_1]
      simp only [nlit]
      by_cases x1 : z q < 40
      · have ed : (decide (40 ≤ z q ∧ z q ≤ 43) || z q == 45 || decide (59 ≤ z q ∧ z q ≤ 61)) = false := by simp; omega
        rw [ed]
        simp (disch := omega) only [nlit, nI_add, pk_mul, nC, nB, nT_le, nF_le, nT_lt, nF_lt, nF_eq, nT_eq, nM1_ne, nM1_lt, b2_0, b2_1, b2_nar, nar_0, nar_1, cond_true, if_true, if_false, ob_some]
        rfl
      · by_cases x2 : z q ≤ 43
        · have ed : (decide (40 ≤ z q ∧ z q ≤ 43) || z q == 45 || decide (59 ≤ z q ∧ z q ≤ 61)) = true := by simp; omega
          rw [ed]
          simp (disch := omega) only [nlit, nI_add, pk_mul, nC, nB, nT_le, nF_le, nT_lt, nF_lt, nF_eq, nT_eq, nM1_ne, nM1_lt, b2_0, b2_1, b2_nar, nar_0, nar_1, cond_true, if_true, if_false, ob_some]
        · by_cases x3 : z q = 45
          · have ed : (decide (40 ≤ z q ∧ z q ≤ 43) || z q == 45 || decide (59 ≤ z q ∧ z q ≤ 61)) = true := by simp; omega
            rw [ed]
            simp (disch := omega) only [nlit, nI_add, pk_mul, nC, nB, nT_le, nF_le, nT_lt, nF_lt, nF_eq, nT_eq, nM1_ne, nM1_lt, b2_0, b2_1, b2_nar, nar_0, nar_1, cond_true, if_true, if_false, ob_some]
          · by_cases x4 : z q < 59
            · have ed : (decide (40 ≤ z q ∧ z q ≤ 43) || z q == 45 || decide (59 ≤ z q ∧ z q ≤ 61)) = false := by simp; omega
              rw [ed]
              simp (disch := omega) only [nlit, nI_add, pk_mul, nC, nB, nT_le, nF_le, nT_lt, nF_lt, nF_eq, nT_eq, nM1_ne, nM1_lt, b2_0, b2_1, b2_nar, nar_0, nar_1, cond_true, if_true, if_false, ob_some]
              rfl
            · by_cases x5 : 61 < z q
              · have ed : (decide (40 ≤ z q ∧ z q ≤ 43) || z q == 45 || decide (59 ≤ z q ∧ z q ≤ 61)) = false := by simp; omega
                rw [ed]
                simp (disch := omega) only [nlit, nI_add, pk_mul, nC, nB, nT_le, nF_le, nT_lt, nF_lt, nF_eq, nT_eq, nM1_ne, nM1_lt, b2_0, b2_1, b2_nar, nar_0, nar_1, cond_true, if_true, if_false, ob_some]
                rfl
              · have ed : (decide (40 ≤ z q ∧ z q ≤ 43) || z q == 45 || decide (59 ≤ z q ∧ z q ≤ 61)) = true := by simp; omega
                rw [ed]
                simp (disch := omega) only [nlit, nI_add, pk_mul, nC, nB, nT_le, nF_le, nT_lt, nF_lt, nF_eq, nT_eq, nM1_ne, nM1_lt, b2_0, b2_1, b2_nar, nar_0, nar_1, cond_true, if_true, if_false, ob_some]
end NX
