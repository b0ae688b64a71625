/-! calls that read -/
theorem isubsub (a b c : Int32) : a - b - c = a - (b + c) := by
  apply Int32.toBitVec_inj.mp
  simp only [Int32.toBitVec_sub, Int32.toBitVec_add]
  exact BitVec.sub_sub ..
theorem nle_sub {b c x : Nat} (hb : b < 1000000) (hc : c < 1000000) (hx : x < 1000000) : (nI b ≤ nI c - nI x) = (b + x ≤ c) := propext (by
  rw [Int32.le_iff_toInt_le, pk_sub_toInt (by omega) (by omega), nI_toInt (by omega)]
  omega)
theorem tIl (v : Int32) (k : Int) (h0 : 0 ≤ k) (h : k < 2147483648) : (v.toInt = k) = (v = nI k.toNat) := propext ⟨fun e => Int32.toInt_inj.mp (by rw [e, nI_toInt (by omega)]; omega), fun e => by rw [e, nI_toInt (by omega)]; omega⟩
theorem rng (v : Int32) (n : Nat) (hn : n < 2147483648) : (∃ j, j ≤ n ∧ v = nI j) ∨ ((v < nI 0 ∨ nI n < v) ∧ ∀ j, j ≤ n → (v = nI j) = False) := by
  by_cases h : v < 0
  · exact Or.inr ⟨Or.inl h, fun j hj => eq_false (fun e => by rw [e] at h; exact nI_pos (by omega) h)⟩
  · obtain ⟨k, hk, rfl⟩ := nI_of h
    rcases Nat.lt_or_ge n k with q | q
    · exact Or.inr ⟨Or.inr (nI_lt q hk), fun j hj => eq_false (fun e => by
        have := (nI_eq hk (show j < 2 ^ 31 by omega)).mp e
        omega)⟩
    · exact Or.inl ⟨k, q, rfl⟩
theorem wthn (v : Int32) (a b : Nat) (ha : a ≤ b) (hb : b < 2147483648) : (∃ j, a ≤ j ∧ j ≤ b ∧ v = nI j ∧ fX9_within v (nI a) (nI b) = some (nI 1) ∧ fX8_isWithin v (nI a) (nI b) = some (nI 1)) ∨ (fX9_within v (nI a) (nI b) = some (nI 0) ∧ fX8_isWithin v (nI a) (nI b) = some (nI 0)) := by
  have e : fX8_isWithin v (nI a) (nI b) = fX9_within v (nI a) (nI b) := rfl
  rw [e]
  unfold fX9_within
  by_cases h : v < nI a
  · rw [if_pos h]; exact Or.inr ⟨rfl, rfl⟩
  · rw [if_neg h]
    by_cases h2 : nI b < v
    · rw [if_pos h2]; exact Or.inr ⟨rfl, rfl⟩
    · rw [if_neg h2]
      have h0 : ¬ v < 0 := fun z => h (Int32.lt_of_lt_of_le z (nI_pos' (by omega)))
      obtain ⟨k, hk, rfl⟩ := nI_of h0
      refine Or.inl ⟨k, ?_, ?_, rfl, rfl, rfl⟩
      · exact Nat.le_of_not_lt (fun z => h (nI_lt z (by omega)))
      · exact Nat.le_of_not_lt (fun z => h2 (nI_lt z (by omega)))
theorem m_isHole {tr : Nat → Int32} {H : Nat} (h : tr 0 = nI H) (hH : H ≤ 5) (v : Int32) : fX9_isHole tr v = some (nI (b2 (vld v H))) := by
  unfold fX9_isHole; rw [h]; exact c_hasG hH v
theorem m_isGuest {tr : Nat → Int32} {H : Nat} (h : tr 1 = nI H) (hH : H ≤ 5) (v : Int32) : fX9_isGuest tr v = some (nI (b2 (vld v H))) := by
  unfold fX9_isGuest; rw [h]; exact c_hasG hH v
theorem nC0 {T : Ter} {S : Sta} {n h : Nat} : nC_ T 0 S n h = sC S h - tbu T h * csT T (sD S) n := by simp [nC_]
section RD
variable {T : Ter} {S : Sta} {N : Nat} {catB wanB len br : Int32} {cold hf ct bu be kd gf fo code coal inside : Nat → Int32}
theorem c_until {h b : Nat} (hT : WT T) (hS : WS T N S) (hN : N ≤ 2000) (hC : CT T (nI (tN T)) (nI (tH T)) (nI (tG T)) (nI (tS T)) catB wanB len cold hf ct bu be kd gf fo code) (hs : CS T S (nI (sZ S)) (nI (sD S)) br coal inside) (hh : h < tH T) (hb : 1 ≤ b) (hb2 : b ≤ 100) : ok (fX4_daysUntilBelow (nI (sD S)) (nI (tN T)) coal cold bu (nI h) (nI b)) (fun r => Fst (fun n => nC_ T 0 S n h < b) r) := by
  have hH := hT.1
  have hd := hS.1
  have hc := hS.2.2.1 h (by omega)
  have hbu := (hT.2.2.2.2.2.1 h hh).2.2.1
  unfold fX4_daysUntilBelow
  simp (disch := omega) only [nlit, nI_add, pk_mul, nC, nB, nT_le, nF_le, nT_lt, nF_lt, nF_eq, nT_eq, nM1_ne, nM1_lt, b2_0, b2_1, b2_nar, nar_0, nar_1, cond_true, if_true, if_false, ob_some, hs.2.2.2.1 h hh]
  refine ok_for3 100 (fun i v2 v3 v4 => v2 = nI h ∧ v3 = nI b ∧ v4 = nI (sC S h) - nI (tbu T h * csT T (sD S) i) ∧ ∀ m, m < i → ¬ nC_ T 0 S m h < b) ?_ ?_ FU 0 (nI h) (nI b) (nI (sC S h)) (Nat.zero_le _) ⟨rfl, rfl, by simp [csT, nsub], fun m hm => by omega⟩ (by unfold FU; omega)
  · rintro k _ _ _ i hlt ⟨rfl, rfl, rfl, hm⟩ hk
    unfold fX4_daysUntilBelow_11
    have hcs := csT_le (d := sD S) (n := i) hT
    have hx : tbu T h * csT T (sD S) i ≤ 9 * 300 := Nat.mul_le_mul hbu (by omega)
    simp (disch := omega) only [nlit, nI_add, pk_mul, nC, nB, nT_le, nF_le, nT_lt, nF_lt, nF_eq, nT_eq, nM1_ne, nM1_lt, b2_0, b2_1, b2_nar, nar_0, nar_1, cond_true, if_true, if_false, ob_some, nle_sub, hC.2.2.2.2.2.2.2.2.2.1 h hh, c_coldOf hT hC.2.2.2.2.2.2.1]
    by_cases q : b + tbu T h * csT T (sD S) i ≤ sC S h
    · rw [if_pos q]
      refine hk _ _ _ ⟨rfl, rfl, ?_, fun m hm2 => ?_⟩
      · rw [isubsub, nI_add, ← Nat.mul_add]; rfl
      · rcases Nat.lt_succ_iff_lt_or_eq.mp hm2 with z | rfl
        · exact hm m z
        · rw [nC0]; omega
    · rw [if_neg q]
      exact ok_some (Or.inl ⟨i, hlt, by show nC_ T 0 S i h < b; rw [nC0]; omega, hm, rfl⟩)
  · rintro k _ _ _ ⟨rfl, rfl, rfl, hm⟩
    unfold fX4_daysUntilBelow_11
    simp (disch := omega) only [nlit, nI_add, pk_mul, nC, nB, nT_le, nF_le, nT_lt, nF_lt, nF_eq, nT_eq, nM1_ne, nM1_lt, b2_0, b2_1, b2_nar, nar_0, nar_1, cond_true, if_true, if_false, ob_some]
    exact ok_some (Or.inr ⟨hm, rfl⟩)
variable {tr hf' ct' bu' wl kd' gf' wr cd lf lt cds s : Nat → Int32}
theorem p_lasts {bf : Nat → Int32} {th : Int32} (v1 : Int32) (hT : WT T) (hS : WS T N S) (hN : N ≤ 1800) (hC : CT T (nI (tN T)) (nI (tH T)) (nI (tG T)) (nI (tS T)) catB wanB len cold hf ct bu be kd gf fo code) (hs : CS T S (nI (sZ S)) (nI (sD S)) br coal inside) (hM : MT T tr hf' ct' bu' wl kd' gf' wr cd lf lt cds) (hm : MS S s) :
    ∃ a, fX8_lasts (nI (sD S)) (nI (tN T)) (nI (tH T)) coal cold bu v1 = some a ∧ ok (fX9_lasts (nI 0) tr bu' kd' cd th s bf v1) (fun r => r.1 = a ∧ MS S r.2.2.1) := by
  have hH := hT.1
  unfold fX8_lasts fX9_lasts
  simp (disch := omega) only [nlit, nI_add, pk_mul, nC, nB, nT_le, nF_le, nT_lt, nF_lt, nF_eq, nT_eq, nM1_ne, nM1_lt, b2_0, b2_1, b2_nar, nar_0, nar_1, cond_true, if_true, if_false, ob_some, c_hasH hH, m_isHole hM.1 hH]
  cases q : vld v1 (tH T)
  · exact ⟨-nI 1, rfl, ok_some ⟨rfl, hm⟩⟩
  · obtain ⟨h, hh, rfl⟩ := isIn hH q
    simp only [reduceCtorEq, if_false]
    obtain ⟨a, ha, hF⟩ := c_until hT hS (by omega) hC hs hh (b := 1) (by omega) (by omega)
    refine ⟨a, by rw [ha]; rfl, ok_bind (ok_mono (m_emptyIn hT hS hN hh (b := 1) (by omega) hM hm) (fun r hr => ok_some ⟨?_, hr.2⟩))⟩
    exact Fst_uniq hr.1 hF (fun n _ => Iff.rfl)
theorem nA_ne {w : Nat} (h : sA S w ≠ 0) (n : Nat) : nA_ T 0 S n w ≠ sA S w ↔ tkd T w ≠ 3 ∧ nC_ T 0 S n (sA S w - 1) < 1 := by
  unfold nA_
  by_cases q : tkd T w ≠ 3 ∧ sA S w ≠ 0 ∧ nC_ T 0 S n (sA S w - 1) = 0
  · rw [if_pos q]
    exact ⟨fun _ => ⟨q.1, by omega⟩, fun _ e => h e.symm⟩
  · rw [if_neg q]
    exact ⟨fun z => absurd rfl z, fun z => absurd ⟨z.1, h, by omega⟩ q⟩
theorem c_safe {h w : Nat} (hT : WT T) (hS : WS T N S) (hN : N ≤ 2000) (hC : CT T (nI (tN T)) (nI (tH T)) (nI (tG T)) (nI (tS T)) catB wanB len cold hf ct bu be kd gf fo code) (hs : CS T S (nI (sZ S)) (nI (sD S)) br coal inside) (hh : h < tH T) (hw : w < tG T) : ok (fX4_safeDays (nI (sD S)) (nI (tN T)) coal cold bu kd (nI w) (nI h)) (fun r => Fst (fun n => tkd T w ≠ 3 ∧ nC_ T 0 S n h < 1) r) := by
  have hG := hT.2.1
  have hk := (hT.2.2.2.2.2.2.1 w hw).1
  unfold fX4_safeDays
  simp (disch := omega) only [nlit, nI_add, pk_mul, nC, nB, nT_le, nF_le, nT_lt, nF_lt, nF_eq, nT_eq, nM1_ne, nM1_lt, b2_0, b2_1, b2_nar, nar_0, nar_1, cond_true, if_true, if_false, ob_some, hC.2.2.2.2.2.2.2.2.2.2.2.1 w hw]
  by_cases q : tkd T w = 3
  · simp (disch := omega) only [nlit, nI_add, pk_mul, nC, nB, nT_le, nF_le, nT_lt, nF_lt, nF_eq, nT_eq, nM1_ne, nM1_lt, b2_0, b2_1, b2_nar, nar_0, nar_1, cond_true, if_true, if_false, ob_some, q]
    exact ok_some (Or.inr ⟨fun m _ z => z.1 rfl, rfl⟩)
  · simp (disch := omega) only [nlit, nI_add, pk_mul, nC, nB, nT_le, nF_le, nT_lt, nF_lt, nF_eq, nT_eq, nM1_ne, nM1_lt, b2_0, b2_1, b2_nar, nar_0, nar_1, cond_true, if_true, if_false, ob_some]
    refine ok_bind (ok_mono (c_until hT hS hN hC hs hh (b := 1) (by omega) (by omega)) (fun r hr => ok_some ?_))
    rcases hr with ⟨n, n1, n2, n3, rfl⟩ | ⟨n1, rfl⟩
    · exact Or.inl ⟨n, n1, ⟨q, n2⟩, fun m hm z => n3 m hm z.2, rfl⟩
    · exact Or.inr ⟨fun m hm z => n1 m hm z.2, rfl⟩
theorem Fst_val {p : Nat → Prop} {r : Int32} (h : Fst p r) : r = -1 ∨ ∃ n, n < 100 ∧ r = nI n := by
  rcases h with ⟨n, n1, _, _, rfl⟩ | ⟨_, rfl⟩
  · exact Or.inr ⟨n, n1, rfl⟩
  · exact Or.inl rfl
theorem p_safe {bf : Nat → Int32} {th : Int32} (v1 : Int32) (hT : WT T) (hS : WS T N S) (hN : N ≤ 1800) (hC : CT T (nI (tN T)) (nI (tH T)) (nI (tG T)) (nI (tS T)) catB wanB len cold hf ct bu be kd gf fo code) (hs : CS T S (nI (sZ S)) (nI (sD S)) br coal inside) (hM : MT T tr hf' ct' bu' wl kd' gf' wr cd lf lt cds) (hm : MS S s) :
    ∃ a, fX8_safe (nI (sD S)) (nI (tN T)) (nI (tG T)) coal inside cold bu kd v1 = some a ∧ ok (fX9_safe (nI 0) tr bu' kd' cd th s bf v1) (fun r => r.1 = a ∧ MS S r.2.2.1) := by
  have hH := hT.1
  have hG := hT.2.1
  unfold fX8_safe fX8_safe_23 fX9_safe
  simp (disch := omega) only [nlit, nI_add, pk_mul, nC, nB, nT_le, nF_le, nT_lt, nF_lt, nF_eq, nT_eq, nM1_ne, nM1_lt, b2_0, b2_1, b2_nar, nar_0, nar_1, cond_true, if_true, if_false, ob_some, c_hasG hG, m_isGuest hM.2.1 hG]
  cases q : vld v1 (tG T)
  · exact ⟨-nI 1, rfl, ok_some ⟨rfl, hm⟩⟩
  · obtain ⟨w, hw, rfl⟩ := isIn hG q
    have ha := hS.2.2.2.2.1 w
    simp (disch := omega) only [nlit, nI_add, pk_mul, nC, nB, nT_le, nF_le, nT_lt, nF_lt, nF_eq, nT_eq, nM1_ne, nM1_lt, b2_0, b2_1, b2_nar, nar_0, nar_1, cond_true, if_true, if_false, ob_some, reduceCtorEq, c_place hG (show sA S w ≤ 5 by omega) hw hs.2.2.2.2, hm.2.2.2.2 w (by omega)]
    by_cases q0 : sA S w = 0
    · simp (disch := omega) only [nlit, nI_add, pk_mul, nC, nB, nT_le, nF_le, nT_lt, nF_lt, nF_eq, nT_eq, nM1_ne, nM1_lt, b2_0, b2_1, b2_nar, nar_0, nar_1, cond_true, if_true, if_false, ob_some, q0, plI]
      exact ⟨-nI 1, rfl, ok_some ⟨rfl, hm⟩⟩
    · have e : plI (sA S w) = nI (sA S w - 1) := if_neg q0
      rw [e]
      simp (disch := omega) only [nlit, nI_add, pk_mul, nC, nB, nT_le, nF_le, nT_lt, nF_lt, nF_eq, nT_eq, nM1_ne, nM1_lt, b2_0, b2_1, b2_nar, nar_0, nar_1, cond_true, if_true, if_false, ob_some]
      obtain ⟨a, ea, hF⟩ := c_safe hT hS (by omega) hC hs (h := sA S w - 1) (by omega) hw
      refine ⟨a, by rw [ea]; rfl, ok_bind (ok_mono (m_safeFor hT hS hN hw hM hm) (fun r hr => ?_))⟩
      obtain ⟨⟨t, ht, er⟩, hr2⟩ := hr
      have et : t = a := Fst_uniq ht hF (fun n _ => nA_ne q0 n)
      subst et
      rcases Fst_val hF with z | ⟨n, hn, z⟩
      · rw [z] at er
        rw [er]
        exact ok_some ⟨z.symm, hr2⟩
      · rw [z] at er ⊢
        simp (disch := omega) only [nlit, nI_add, pk_mul, nC, nB, nT_le, nF_le, nT_lt, nF_lt, nF_eq, nT_eq, nM1_ne, nM1_lt, b2_0, b2_1, b2_nar, nar_0, nar_1, cond_true, if_true, if_false, ob_some] at er
        simp (disch := omega) only [er, nlit, nI_add, pk_mul, nC, nB, nT_le, nF_le, nT_lt, nF_lt, nF_eq, nT_eq, nM1_ne, nM1_lt, b2_0, b2_1, b2_nar, nar_0, nar_1, cond_true, if_true, if_false, ob_some]
        exact ok_some ⟨rfl, hr2⟩
end RD
