def mv (S : Sta) (w h : Nat) : Sta := (sD S, sZ S, sB S, sC S, fun u => if u = w then h else sA S u)
theorem tk_pos {T : Ter} {S : Sta} {h w : Nat} (e : tk T S h w = true) (hk : tkd T w ≠ 3) : 0 < sC S h := by
  unfold tk at e
  have e1 : (tkd T w == 3) = false := by simpa using hk
  rw [e1, Bool.false_or, Bool.and_eq_true, Bool.and_eq_true] at e
  exact of_decide_eq_true e.1.1
theorem mv_WS {T : Ter} {S : Sta} {N w h : Nat} (hS : WS T N S) (hw : w < tG T) (hh : h ≤ tH T) (hz : (sZ S).testBit w = true → h = 0) (hc : ∀ k, h = k + 1 → tkd T w ≠ 3 → 0 < sC S k) : WS T N (mv S w h) := by
  refine ⟨hS.1, hS.2.1, hS.2.2.1, hS.2.2.2.1, fun u => ?_, fun u hu => ?_, fun u hu => ?_, fun u k hu e hk => ?_⟩
  · show (if u = w then h else sA S u) ≤ _
    split
    · exact hh
    · exact hS.2.2.2.2.1 u
  · show (if u = w then h else sA S u) = 0
    rw [if_neg (by omega)]
    exact hS.2.2.2.2.2.1 u hu
  · show (if u = w then h else sA S u) = 0 ∧ _
    have h1 := hS.2.2.2.2.2.2.1 u hu
    refine ⟨?_, h1.2⟩
    split
    · rename_i q; subst q; exact hz hu
    · exact h1.1
  · have e2 : (if u = w then h else sA S u) = k + 1 := e
    show 0 < sC S k
    clear e
    by_cases q : u = w
    · rw [if_pos q] at e2; subst q; exact hc k e2 hk
    · rw [if_neg q] at e2; exact hS.2.2.2.2.2.2.2 u k hu e2 hk
theorem mv_MS {S : Sta} {w h : Nat} {s : Nat → Int32} (hm : MS S s) (hw : w < 5) : MS (mv S w h) (upd s (8 + w) (nI h)) := by
  refine ⟨?_, ?_, ?_, fun k hk => ?_, fun u hu => ?_⟩
  · rw [pk_un (by omega)]; exact hm.1
  · rw [pk_un (by omega)]; exact hm.2.1
  · rw [pk_un (by omega)]; exact hm.2.2.1
  · rw [pk_un (by omega)]; exact hm.2.2.2.1 k hk
  · show _ = nI (if u = w then h else sA S u)
    by_cases q : u = w
    · subst q; rw [pk_us, if_pos rfl]
    · rw [pk_un (by omega), if_neg q]; exact hm.2.2.2.2 u hu
theorem mv_CS {T : Ter} {S : Sta} {w h : Nat} {z d b : Int32} {coal inside r : Nat → Int32} (hs : CS T S z d b coal inside) (hr : Ins (fun u => if u = w then h else sA S u) (tG T) r) : CS T (mv S w h) z d b coal r := ⟨hs.1, hs.2.1, hs.2.2.1, hs.2.2.2.1, hr⟩
theorem Fst_ex (p : Nat → Prop) : ∃ D : Nat, D ≤ 100 ∧ ((D < 100 ∧ Fst p (nI D)) ∨ (D = 100 ∧ Fst p (-1))) := by
  by_cases h : ∃ n, n < 100 ∧ p n
  · obtain ⟨n, ⟨n1, n2⟩, n3⟩ := pk_least (fun n => n < 100 ∧ p n) h
    exact ⟨n, by omega, Or.inl ⟨n1, Or.inl ⟨n, n1, n2, fun m hm z => n3 m hm ⟨by omega, z⟩, rfl⟩⟩⟩
  · exact ⟨100, by omega, Or.inr ⟨rfl, Or.inr ⟨fun m hm z => h ⟨m, hm, z⟩, rfl⟩⟩⟩
def rfg (t : Nat → Bool) (D : Nat → Nat) : Nat → Int32 × Nat
  | 0 => (-1, 0)
  | n + 1 => if t n = false then rfg t D n else if D n ≤ (rfg t D n).2 then rfg t D n else (nI n, D n)
theorem rfg_le {t : Nat → Bool} {D : Nat → Nat} (h : ∀ n, D n ≤ 100) (n : Nat) : (rfg t D n).2 ≤ 100 := by
  induction n with
  | zero => exact Nat.zero_le _
  | succ n ih =>
    simp only [rfg]
    split
    · exact ih
    · split
      · exact ih
      · exact h n
def fv (d : Nat) : Nat := if d = 100 then 1000 else d
section RF
variable {T : Ter} {S : Sta} {N : Nat} {catB wanB len br : Int32} {cold hf ct bu be kd gf fo code coal inside : Nat → Int32}
variable {tr hf' ct' bu' wl kd' gf' wr cd lf lt cds s : Nat → Int32}
theorem p_refuge {wt th : Int32} {st bf k1 k2 k3 k4 k5 k6 k7 k8 k9 vo : Nat → Int32} (v1 : Int32) (hT : WT T) (hS : WS T N S) (hN : N ≤ 1800) (hC : CT T (nI (tN T)) (nI (tH T)) (nI (tG T)) (nI (tS T)) catB wanB len cold hf ct bu be kd gf fo code) (hs : CS T S (nI (sZ S)) (nI (sD S)) br coal inside) (hM : MT T tr hf' ct' bu' wl kd' gf' wr cd lf lt cds) (hm : MS S s) :
    ∃ a, ok (fX8_refuge (nI (sZ S)) (nI (sD S)) (nI (tN T)) (nI (tH T)) (nI (tG T)) len coal inside cold hf bu kd gf fo code wt st v1) (fun r => r.1 = a) ∧ ok (fX9_refuge (nI 0) tr hf' bu' kd' gf' wr cd lf lt cds th k1 k2 k3 k4 k5 k6 k7 k8 k9 vo s bf v1) (fun r => r.1 = a ∧ MS S r.2.2.2.2.2.2.2.2.2.2.2.2.1) := by
  have hH := hT.1
  have hG := hT.2.1
  have hZ := hS.z hT
  unfold fX8_refuge fX9_refuge
  simp (disch := omega) only [nlit, nI_add, pk_mul, nC, nB, nT_le, nF_le, nT_lt, nF_lt, nF_eq, nT_eq, nM1_ne, nM1_lt, b2_0, b2_1, b2_nar, nar_0, nar_1, cond_true, if_true, if_false, ob_some, c_hasG hG, m_isGuest hM.2.1 hG]
  cases q : vld v1 (tG T)
  · exact ⟨-nI 1, ok_some rfl, ok_some ⟨rfl, hm⟩⟩
  obtain ⟨w, hw, rfl⟩ := isIn hG q
  have hO := oOut_lt (S := S) hT
  have es : fX4_streetBits (nI (sZ S)) (nI (tH T)) (nI (tG T)) inside = some (nI (oOut T S)) := c_street hH hG hZ (fun w _ => hS.2.2.2.2.1 w) hs.2.2.2.2
  have eo : (oOut T S).testBit w = (sA S w == 0 && !(sZ S).testBit w) := by
    unfold oOut; rw [bs_bit, decide_eq_true hw, Bool.true_and]
  simp (disch := omega) only [nlit, nI_add, pk_mul, nC, nB, nT_le, nF_le, nT_lt, nF_lt, nF_eq, nT_eq, nM1_ne, nM1_lt, b2_0, b2_1, b2_nar, nar_0, nar_1, cond_true, if_true, if_false, ob_some, reduceCtorEq, es, m_outside hT hS hm (show w < 5 by omega), q_bit, eo]
  cases q2 : (sA S w == 0 && !(sZ S).testBit w)
  · exact ⟨-nI 1, ok_some rfl, ok_some ⟨rfl, hm⟩⟩
  simp only [reduceCtorEq, if_false]
  rw [Bool.and_eq_true] at q2
  have hA0 : sA S w = 0 := by simpa using q2.1
  have hZ0 : (sZ S).testBit w = false := by simpa using q2.2
  obtain ⟨D, hD⟩ := Classical.axiomOfChoice (fun h => Fst_ex (fun n => tkd T w ≠ 3 ∧ nC_ T 0 S n h < 1))
  have hDle : ∀ n, D n ≤ 100 := fun n => (hD n).1
  refine ⟨(rfg (fun h => tk T S h w) D (tH T)).1, ?_, ?_⟩
  · refine ok_for5 (tH T) (fun i _ _ v1 v2 v3 => v1 = nI w ∧ v2 = (rfg (fun h => tk T S h w) D i).1 ∧ v3 = nI (rfg (fun h => tk T S h w) D i).2) ?_ ?_ FU 0 wt st (nI w) (-nI 1) (nI 0) (Nat.zero_le _) ⟨rfl, rfl, rfl⟩ (by unfold FU; omega)
    · rintro k wt st _ _ _ i hlt ⟨rfl, rfl, rfl⟩ hk
      unfold fX8_refuge_38 fX8_refuge_96
      have hl := rfg_le (t := fun h => tk T S h w) hDle i
      have hd := hDle i
      simp (disch := omega) only [nlit, nI_add, pk_mul, nC, nB, nT_le, nF_le, nT_lt, nF_lt, nF_eq, nT_eq, nM1_ne, nM1_lt, b2_0, b2_1, b2_nar, nar_0, nar_1, cond_true, if_true, if_false, ob_some]
      refine ok_bind (ok_mono (c_takes hT hS hC hs hlt hw) (fun r hr => ?_))
      simp (disch := omega) only [hr, nlit, nI_add, pk_mul, nC, nB, nT_le, nF_le, nT_lt, nF_lt, nF_eq, nT_eq, nM1_ne, nM1_lt, b2_0, b2_1, b2_nar, nar_0, nar_1, cond_true, if_true, if_false, ob_some]
      cases c1 : tk T S i w
      · simp only [if_true]
        exact hk _ _ _ _ _ ⟨rfl, by simp only [rfg, c1, if_true], by simp only [rfg, c1, if_true]⟩
      · simp only [reduceCtorEq, if_false]
        refine ok_bind (ok_mono (c_safe hT hS (by omega) hC hs hlt hw) (fun y hy => ?_))
        have fin : ok (if nI (D i) ≤ nI (rfg (fun h => tk T S h w) D i).2 then k r.2.1 r.2.2 (nI w) (rfg (fun h => tk T S h w) D i).1 (nI (rfg (fun h => tk T S h w) D i).2) (nI (i + 1)) else k r.2.1 r.2.2 (nI w) (nI i) (nI (D i)) (nI (i + 1))) (fun r => r.1 = (rfg (fun h => tk T S h w) D (tH T)).1) := by
          by_cases q3 : D i ≤ (rfg (fun h => tk T S h w) D i).2
          · simp (disch := omega) only [nlit, nI_add, pk_mul, nC, nB, nT_le, nF_le, nT_lt, nF_lt, nF_eq, nT_eq, nM1_ne, nM1_lt, b2_0, b2_1, b2_nar, nar_0, nar_1, cond_true, if_true, if_false, ob_some]
            exact hk _ _ _ _ _ ⟨rfl, by simp only [rfg, c1, q3, if_true, reduceCtorEq, if_false], by simp only [rfg, c1, q3, if_true, reduceCtorEq, if_false]⟩
          · simp (disch := omega) only [nlit, nI_add, pk_mul, nC, nB, nT_le, nF_le, nT_lt, nF_lt, nF_eq, nT_eq, nM1_ne, nM1_lt, b2_0, b2_1, b2_nar, nar_0, nar_1, cond_true, if_true, if_false, ob_some]
            exact hk _ _ _ _ _ ⟨rfl, by simp only [rfg, c1, q3, reduceCtorEq, if_false], by simp only [rfg, c1, q3, reduceCtorEq, if_false]⟩
        rcases (hD i).2 with ⟨z1, z2⟩ | ⟨z1, z2⟩
        · have e := Fst_uniq hy z2 (fun n _ => Iff.rfl)
          subst e
          simp (disch := omega) only [nlit, nI_add, pk_mul, nC, nB, nT_le, nF_le, nT_lt, nF_lt, nF_eq, nT_eq, nM1_ne, nM1_lt, b2_0, b2_1, b2_nar, nar_0, nar_1, cond_true, if_true, if_false, ob_some] at fin ⊢
          exact fin
        · have e := Fst_uniq hy z2 (fun n _ => Iff.rfl)
          subst e
          rw [z1] at fin
          simp (disch := omega) only [nlit, nI_add, pk_mul, nC, nB, nT_le, nF_le, nT_lt, nF_lt, nF_eq, nT_eq, nM1_ne, nM1_lt, b2_0, b2_1, b2_nar, nar_0, nar_1, cond_true, if_true, if_false, ob_some] at fin ⊢
          exact fin
    · rintro k wt st _ _ _ ⟨rfl, rfl, rfl⟩
      unfold fX8_refuge_38
      simp (disch := omega) only [nlit, nI_add, pk_mul, nC, nB, nT_le, nF_le, nT_lt, nF_lt, nF_eq, nT_eq, nM1_ne, nM1_lt, b2_0, b2_1, b2_nar, nar_0, nar_1, cond_true, if_true, if_false, ob_some]
      exact ok_some rfl
  · refine ok_for16 (tH T) (fun i _ _ _ _ _ _ _ _ _ _ _ a _ v1 v2 v3 => MS S a ∧ v1 = nI w ∧ v2 = (rfg (fun h => tk T S h w) D i).1 ∧ v3 = nI (fv (rfg (fun h => tk T S h w) D i).2)) ?_ ?_ FU 0 _ _ _ _ _ _ _ _ _ _ _ s bf (nI w) (-nI 1) (nI 0) (Nat.zero_le _) ⟨hm, rfl, rfl, rfl⟩ (by unfold FU; omega)
    · rintro k a1 a2 a3 a4 a5 a6 a7 a8 a9 a10 a11 a b _ _ _ i hlt ⟨ha, rfl, rfl, rfl⟩ hk
      unfold fX9_refuge_30
      have hl := rfg_le (t := fun h => tk T S h w) hDle i
      have hd := hDle i
      have hfl : fv (rfg (fun h => tk T S h w) D i).2 ≤ 1000 := by unfold fv; split <;> omega
      have hfd : fv (D i) ≤ 1000 := by unfold fv; split <;> omega
      simp (disch := omega) only [nlit, nI_add, pk_mul, nC, nB, nT_le, nF_le, nT_lt, nF_lt, nF_eq, nT_eq, nM1_ne, nM1_lt, b2_0, b2_1, b2_nar, nar_0, nar_1, cond_true, if_true, if_false, ob_some, hM.1]
      refine ok_bind (ok_mono (m_takes hT hS ha hM hlt hw) (fun r hr => ?_))
      simp (disch := omega) only [hr, nlit, nI_add, pk_mul, nC, nB, nT_le, nF_le, nT_lt, nF_lt, nF_eq, nT_eq, nM1_ne, nM1_lt, b2_0, b2_1, b2_nar, nar_0, nar_1, cond_true, if_true, if_false, ob_some]
      cases c1 : tk T S i w
      · simp only [if_true]
        exact hk _ _ _ _ _ _ _ _ _ _ _ _ _ _ _ _ ⟨ha, rfl, by simp only [rfg, c1, if_true], by simp only [rfg, c1, if_true]⟩
      · simp only [reduceCtorEq, if_false]
        have hS2 := mv_WS (h := i + 1) hS hw (by omega) (fun z => by rw [hZ0] at z; cases z) (fun j e hk3 => by
          have : j = i := by omega
          subst this; exact tk_pos c1 hk3)
        have hm2 := mv_MS (w := w) (h := i + 1) ha (by omega)
        refine ok_bind (ok_mono (m_safeFor hT hS2 hN hw hM hm2) (fun y hy => ?_))
        obtain ⟨⟨t, ht, et⟩, hy2⟩ := hy
        have hback : MS S (upd y.2.1 (8 + w) (nI 0)) := by
          have := mv_MS (w := w) (h := 0) hy2 (by omega)
          have e : mv (mv S w (i + 1)) w 0 = S := by
            obtain ⟨s1, s2, s3, s4, s5⟩ := S
            unfold mv
            simp only [sD, sZ, sB, sC, sA]
            congr 4
            funext u
            by_cases z : u = w
            · subst z; simp only [if_true]; exact hA0.symm
            · simp only [z, if_false]
          rw [e] at this
          exact this
        have eiff : ∀ n, n < 100 → ((fun n => nA_ T 0 (mv S w (i + 1)) n w ≠ sA (mv S w (i + 1)) w) n ↔ (fun n => tkd T w ≠ 3 ∧ nC_ T 0 S n i < 1) n) := by
          intro n _
          have e1 : sA (mv S w (i + 1)) w = i + 1 := if_pos rfl
          have := nA_ne (T := T) (S := mv S w (i + 1)) (w := w) (by rw [e1]; omega) n
          rw [e1] at this
          show nA_ T 0 (mv S w (i + 1)) n w ≠ sA (mv S w (i + 1)) w ↔ _
          rw [e1]
          exact this
        have ey : y.1 = nI (fv (D i)) := by
          rcases (hD i).2 with ⟨z1, z2⟩ | ⟨z1, z2⟩
          · have e := Fst_uniq ht z2 eiff
            rw [et, e]
            have : fv (D i) = D i := if_neg (by omega)
            rw [this]
            simp (disch := omega) only [nlit, nI_add, pk_mul, nC, nB, nT_le, nF_le, nT_lt, nF_lt, nF_eq, nT_eq, nM1_ne, nM1_lt, b2_0, b2_1, b2_nar, nar_0, nar_1, cond_true, if_true, if_false, ob_some]
          · have e := Fst_uniq ht z2 eiff
            rw [et, e, z1]
            rfl
        simp (disch := omega) only [nlit, nI_add, pk_mul, nC, nB, nT_le, nF_le, nT_lt, nF_lt, nF_eq, nT_eq, nM1_ne, nM1_lt, b2_0, b2_1, b2_nar, nar_0, nar_1, cond_true, if_true, if_false, ob_some, ey, n_lt]
        by_cases q3 : D i ≤ (rfg (fun h => tk T S h w) D i).2
        · have : ¬ fv (rfg (fun h => tk T S h w) D i).2 < fv (D i) := by
            unfold fv; split <;> split <;> omega
          simp only [this, if_false]
          exact hk _ _ _ _ _ _ _ _ _ _ _ _ _ _ _ _ ⟨hback, rfl, by simp only [rfg, c1, q3, if_true, reduceCtorEq, if_false], by simp only [rfg, c1, q3, if_true, reduceCtorEq, if_false]⟩
        · have : fv (rfg (fun h => tk T S h w) D i).2 < fv (D i) := by
            unfold fv; split <;> split <;> omega
          simp only [this, if_true]
          exact hk _ _ _ _ _ _ _ _ _ _ _ _ _ _ _ _ ⟨hback, rfl, by simp only [rfg, c1, q3, reduceCtorEq, if_false], by simp only [rfg, c1, q3, reduceCtorEq, if_false]⟩
    · rintro k a1 a2 a3 a4 a5 a6 a7 a8 a9 a10 a11 a b _ _ _ ⟨ha, rfl, rfl, rfl⟩
      unfold fX9_refuge_30
      simp (disch := omega) only [nlit, nI_add, pk_mul, nC, nB, nT_le, nF_le, nT_lt, nF_lt, nF_eq, nT_eq, nM1_ne, nM1_lt, b2_0, b2_1, b2_nar, nar_0, nar_1, cond_true, if_true, if_false, ob_some, hM.1]
      exact ok_some ⟨rfl, ha⟩
theorem p_line {th : Int32} {bf : Nat → Int32} (v1 v2 : Int32) (hT : WT T) (hS : WS T N S) (hN : N ≤ 1800) (hC : CT T (nI (tN T)) (nI (tH T)) (nI (tG T)) (nI (tS T)) catB wanB len cold hf ct bu be kd gf fo code) (hs : CS T S (nI (sZ S)) (nI (sD S)) br coal inside) (hM : MT T tr hf' ct' bu' wl kd' gf' wr cd lf lt cds) (hm : MS S s) :
    ∃ a, fX8_line (nI (sD S)) (nI (tN T)) (nI (tG T)) coal inside cold bu fo v1 v2 = some a ∧ ok (fX9_line (nI 0) tr bu' kd' gf' wr cd th s bf v1 v2) (fun r => r.1 = a ∧ MS S r.2.2.1) := by
  have hH := hT.1
  have hG := hT.2.1
  unfold fX8_line fX9_line fX6_areAtWar
  simp (disch := omega) only [nlit, nI_add, pk_mul, nC, nB, nT_le, nF_le, nT_lt, nF_lt, nF_eq, nT_eq, nM1_ne, nM1_lt, b2_0, b2_1, b2_nar, nar_0, nar_1, cond_true, if_true, if_false, ob_some, c_hasG hG, m_isGuest hM.2.1 hG]
  cases q : vld v1 (tG T)
  · exact ⟨-nI 1, rfl, ok_some ⟨rfl, hm⟩⟩
  obtain ⟨a, ha, rfl⟩ := isIn hG q
  cases q2 : vld v2 (tG T)
  · exact ⟨-nI 1, rfl, ok_some ⟨rfl, hm⟩⟩
  obtain ⟨b, hb, rfl⟩ := isIn hG q2
  have ha5 := hS.2.2.2.2.1 a
  have hb5 := hS.2.2.2.2.1 b
  have hf := bs_le (p := fun o => twr T a o) hG
  simp (disch := omega) only [nlit, nI_add, pk_mul, nC, nB, nT_le, nF_le, nT_lt, nF_lt, nF_eq, nT_eq, nM1_ne, nM1_lt, b2_0, b2_1, b2_nar, nar_0, nar_1, cond_true, if_true, if_false, ob_some, reduceCtorEq, hC.2.2.2.2.2.2.2.2.2.2.2.2.2.1 a ha, q_bit, bs_bit, hb, decide_true, Bool.true_and, c_place hG (show sA S a ≤ 5 by omega) ha hs.2.2.2.2, c_place hG (show sA S b ≤ 5 by omega) hb hs.2.2.2.2, hm.2.2.2.2 a (by omega), hm.2.2.2.2 b (by omega), m_war hT hM ha hb]
  by_cases q3 : sA S a = 0
  · simp (disch := omega) only [q3, nlit, nI_add, pk_mul, nC, nB, nT_le, nF_le, nT_lt, nF_lt, nF_eq, nT_eq, nM1_ne, nM1_lt, b2_0, b2_1, b2_nar, nar_0, nar_1, cond_true, if_true, if_false, ob_some, plI]
    refine ⟨-nI 1, ?_, ok_some ⟨rfl, hm⟩⟩
    cases twr T a b <;> rfl
  have ea : plI (sA S a) = nI (sA S a - 1) := if_neg q3
  simp (disch := omega) only [nlit, nI_add, pk_mul, nC, nB, nT_le, nF_le, nT_lt, nF_lt, nF_eq, nT_eq, nM1_ne, nM1_lt, b2_0, b2_1, b2_nar, nar_0, nar_1, cond_true, if_true, if_false, ob_some, ea]
  by_cases q4 : sA S a = sA S b
  · have eb : plI (sA S b) = nI (sA S a - 1) := by rw [← q4]; exact ea
    simp (disch := omega) only [nlit, nI_add, pk_mul, nC, nB, nT_le, nF_le, nT_lt, nF_lt, nF_eq, nT_eq, nM1_ne, nM1_lt, b2_0, b2_1, b2_nar, nar_0, nar_1, cond_true, if_true, if_false, ob_some, eb]
    cases q5 : twr T a b
    · exact ⟨-nI 1, rfl, ok_some ⟨rfl, hm⟩⟩
    · simp only [reduceCtorEq, if_false]
      obtain ⟨y, hy, hF⟩ := c_until hT hS (by omega) hC hs (h := sA S a - 1) (by omega) (b := 20) (by omega) (by omega)
      simp (disch := omega) only [nlit, nI_add, pk_mul, nC, nB, nT_le, nF_le, nT_lt, nF_lt, nF_eq, nT_eq, nM1_ne, nM1_lt, b2_0, b2_1, b2_nar, nar_0, nar_1, cond_true, if_true, if_false, ob_some, nsub]
      refine ⟨y, by rw [hy]; simp (disch := omega) only [nlit, nI_add, pk_mul, nC, nB, nT_le, nF_le, nT_lt, nF_lt, nF_eq, nT_eq, nM1_ne, nM1_lt, b2_0, b2_1, b2_nar, nar_0, nar_1, cond_true, if_true, if_false, ob_some], ok_bind (ok_mono (m_emptyIn hT hS hN (h := sA S a - 1) (by omega) (b := 20) (by omega) hM hm) (fun r hr => ok_some ⟨?_, hr.2⟩))⟩
      exact Fst_uniq hr.1 hF (fun n _ => Iff.rfl)
  · have e2 : (nI (sA S a - 1) = plI (sA S b)) = False := eq_false (fun z => by
      unfold plI at z
      split at z
      · rw [nlit, nM1_ne (by omega)] at z; exact z
      · have := (nI_eq (by omega) (by omega)).mp z; omega)
    simp (disch := omega) only [nlit, nI_add, pk_mul, nC, nB, nT_le, nF_le, nT_lt, nF_lt, nF_eq, nT_eq, nM1_ne, nM1_lt, b2_0, b2_1, b2_nar, nar_0, nar_1, cond_true, if_true, if_false, ob_some, e2]
    refine ⟨-nI 1, ?_, ok_some ⟨rfl, hm⟩⟩
    cases twr T a b <;> rfl
end RF
