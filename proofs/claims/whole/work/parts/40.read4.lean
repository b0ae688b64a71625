def allN (q : Nat → Bool) : Nat → Bool
  | 0 => true
  | n + 1 => allN q n && q n
theorem allN_iff {q : Nat → Bool} {n : Nat} : allN q n = true ↔ ∀ k, k < n → q k = true := by
  induction n with
  | zero => exact ⟨fun _ k hk => by omega, fun _ => rfl⟩
  | succ n ih =>
    simp only [allN, Bool.and_eq_true, ih]
    exact ⟨fun z k hk => by
      rcases Nat.lt_succ_iff_lt_or_eq.mp hk with q | rfl
      · exact z.1 k q
      · exact z.2, fun z => ⟨fun k hk => z k (by omega), z n (by omega)⟩⟩
def cnt (q : Nat → Bool) : Nat → Nat
  | 0 => 0
  | n + 1 => cnt q n + b2 (q n)
theorem pop_step : ∀ n, n < 6 → ∀ a, a < 64 → a < 2 ^ n → pop (a ||| 2 ^ n) = pop a + 1 := by decide +kernel
theorem pop_bs {q : Nat → Bool} {n : Nat} (h : n ≤ 6) : pop (bs q n) = cnt q n := by
  induction n with
  | zero => exact (show pop 0 = 0 by decide)
  | succ n ih =>
    simp only [bs, cnt]
    have h1 := bs_lt (p := q) (n := n)
    have h2 : 2 ^ n ≤ 2 ^ 6 := Nat.pow_le_pow_right (by decide) (by omega)
    cases q n
    · simp [b2, ih (by omega)]
    · simp only [cond_true, b2]
      rw [pop_step n (by omega) _ (by omega) h1, ih (by omega)]
section RG
variable {T : Ter} {S : Sta} {N : Nat} {catB wanB len br : Int32} {cold hf ct bu be kd gf fo code coal inside : Nat → Int32}
variable {tr hf' ct' bu' wl kd' gf' wr cd lf lt cds s : Nat → Int32}
theorem p_full {wt th : Int32} {st k1 k2 k3 k4 k5 k6 k7 k8 k9 vo : Nat → Int32} (hT : WT T) (hS : WS T N S) (hC : CT T (nI (tN T)) (nI (tH T)) (nI (tG T)) (nI (tS T)) catB wanB len cold hf ct bu be kd gf fo code) (hs : CS T S (nI (sZ S)) (nI (sD S)) br coal inside) (hM : MT T tr hf' ct' bu' wl kd' gf' wr cd lf lt cds) (hm : MS S s) :
    ∃ a, ok (fX8_full (nI (sZ S)) (nI (sD S)) (nI (tH T)) (nI (tG T)) len coal inside hf kd gf fo code wt st) (fun r => r.1 = a) ∧ ok (fX9_full tr hf' kd' gf' wr lf lt cds s th k1 k2 k3 k4 k5 k6 k7 k8 k9 vo) (fun r => r.1 = a) := by
  have hH := hT.1
  have hG := hT.2.1
  have hZ := hS.z hT
  have hO := oOut_lt (S := S) hT
  have es : fX4_streetBits (nI (sZ S)) (nI (tH T)) (nI (tG T)) inside = some (nI (oOut T S)) := c_street hH hG hZ (fun w _ => hS.2.2.2.2.1 w) hs.2.2.2.2
  refine ⟨nI (bs (fun h => allN (fun w => !((sA S w == 0 && !(sZ S).testBit w) && tk T S h w)) (tG T)) (tH T)), ?_, ?_⟩
  · unfold fX8_full
    simp (disch := omega) only [nlit, nI_add, pk_mul, nC, nB, nT_le, nF_le, nT_lt, nF_lt, nF_eq, nT_eq, nM1_ne, nM1_lt, b2_0, b2_1, b2_nar, nar_0, nar_1, cond_true, if_true, if_false, ob_some, es]
    refine ok_for4 (tH T) (fun i _ _ v1 v2 => v1 = nI (oOut T S) ∧ v2 = nI (bs (fun h => allN (fun w => !((sA S w == 0 && !(sZ S).testBit w) && tk T S h w)) (tG T)) i)) ?_ ?_ FU 0 wt st (nI (oOut T S)) (nI 0) (Nat.zero_le _) ⟨rfl, rfl⟩ (by unfold FU; omega)
    · rintro k wt st _ _ i hlt ⟨rfl, rfl⟩ hk
      unfold fX8_full_16
      simp (disch := omega) only [nlit, nI_add, pk_mul, nC, nB, nT_le, nF_le, nT_lt, nF_lt, nF_eq, nT_eq, nM1_ne, nM1_lt, b2_0, b2_1, b2_nar, nar_0, nar_1, cond_true, if_true, if_false, ob_some, q_one]
      refine ok_bind (ok_mono (c_taken hT hS hC hs hlt) (fun r hr => ?_))
      have hB := bs_le (p := fun w => !(oIn T S i).testBit w && tk T S i w) hG
      have ht : bs (fun w => !(oIn T S i).testBit w && tk T S i w) (tG T) &&& oOut T S < 32 := Nat.and_lt_two_pow (n := 5) _ hO
      have hq := fun a b => hk a b _ _ ⟨rfl, rfl⟩
      rw [← q_step (by omega)] at hq
      have h5 := bs_le (p := fun h => allN (fun w => !((sA S w == 0 && !(sZ S).testBit w) && tk T S h w)) (tG T)) (n := i) (by omega)
      have key : (bs (fun w => !(oIn T S i).testBit w && tk T S i w) (tG T) &&& oOut T S = 0) ↔ allN (fun w => !((sA S w == 0 && !(sZ S).testBit w) && tk T S i w)) (tG T) = true := by
        unfold oOut
        rw [bs_and, bs_0, allN_iff]
        have : ∀ w, w < tG T → ((!(oIn T S i).testBit w && tk T S i w && (sA S w == 0 && !(sZ S).testBit w)) = false ↔ (!((sA S w == 0 && !(sZ S).testBit w) && tk T S i w)) = true) := by
          intro w hw
          unfold oIn
          rw [bs_bit, decide_eq_true hw, Bool.true_and]
          by_cases z : sA S w = 0
          · have : (sA S w == i + 1) = false := by rw [z]; rfl
            rw [this]
            cases tk T S i w <;> cases (sA S w == 0) <;> cases (sZ S).testBit w <;> simp
          · have : (sA S w == 0) = false := by simpa using z
            rw [this]
            simp
        exact ⟨fun z w hw => (this w hw).mp (z w hw), fun z w hw => (this w hw).mpr (z w hw)⟩
      simp (disch := omega) only [hr, q_and, n_eq]
      by_cases z : bs (fun w => !(oIn T S i).testBit w && tk T S i w) (tG T) &&& oOut T S = 0
      · simp only [z, if_true]
        rw [key.mp z] at hq
        exact hq _ _
      · simp only [z, if_false]
        have e : allN (fun w => !((sA S w == 0 && !(sZ S).testBit w) && tk T S i w)) (tG T) = false := by
          cases y : allN (fun w => !((sA S w == 0 && !(sZ S).testBit w) && tk T S i w)) (tG T)
          · rfl
          · exact absurd (key.mpr y) z
        rw [e] at hq
        have := hq r.2.1 r.2.2
        simp (disch := omega) only [cond_false, q_or, Nat.or_zero] at this
        exact this
    · rintro k wt st _ _ ⟨rfl, rfl⟩
      unfold fX8_full_16
      simp (disch := omega) only [nlit, nI_add, pk_mul, nC, nB, nT_le, nF_le, nT_lt, nF_lt, nF_eq, nT_eq, nM1_ne, nM1_lt, b2_0, b2_1, b2_nar, nar_0, nar_1, cond_true, if_true, if_false, ob_some]
      exact ok_some rfl
  · unfold fX9_full
    refine ok_for12 (tH T) (fun i _ _ _ _ _ _ _ _ _ _ _ v1 => v1 = nI (bs (fun h => allN (fun w => !((sA S w == 0 && !(sZ S).testBit w) && tk T S h w)) (tG T)) i)) ?_ ?_ FU 0 _ _ _ _ _ _ _ _ _ _ _ (nI 0) (Nat.zero_le _) rfl (by unfold FU; omega)
    · rintro k a1 a2 a3 a4 a5 a6 a7 a8 a9 a10 a11 _ i hlt rfl hk
      unfold fX9_full_9
      simp (disch := omega) only [nlit, nI_add, pk_mul, nC, nB, nT_le, nF_le, nT_lt, nF_lt, nF_eq, nT_eq, nM1_ne, nM1_lt, b2_0, b2_1, b2_nar, nar_0, nar_1, cond_true, if_true, if_false, ob_some, hM.1]
      have hq := fun b1 b2 b3 b4 b5 b6 b7 b8 b9 b10 b11 => hk b1 b2 b3 b4 b5 b6 b7 b8 b9 b10 b11 _ rfl
      rw [← q_step (by omega)] at hq
      refine ok_for14 (tG T) (fun j _ _ _ _ _ _ _ _ _ _ _ v1 v2 v3 => v1 = nI (bs (fun h => allN (fun w => !((sA S w == 0 && !(sZ S).testBit w) && tk T S h w)) (tG T)) i) ∧ v2 = nI i ∧ v3 = nI (b2 (allN (fun w => !((sA S w == 0 && !(sZ S).testBit w) && tk T S i w)) j))) ?_ ?_ FU 0 _ _ _ _ _ _ _ _ _ _ _ _ (nI i) (nI 1) (Nat.zero_le _) ⟨rfl, rfl, rfl⟩ (by unfold FU; omega)
      · rintro k2 c1 c2 c3 c4 c5 c6 c7 c8 c9 c10 c11 _ _ _ j hj ⟨rfl, rfl, rfl⟩ hk2
        unfold fX9_full_24
        simp (disch := omega) only [nlit, nI_add, pk_mul, nC, nB, nT_le, nF_le, nT_lt, nF_lt, nF_eq, nT_eq, nM1_ne, nM1_lt, b2_0, b2_1, b2_nar, nar_0, nar_1, cond_true, if_true, if_false, ob_some, hM.2.1]
        cases e : allN (fun w => !((sA S w == 0 && !(sZ S).testBit w) && tk T S i w)) j
        · simp only [if_true]
          exact hk2 _ _ _ _ _ _ _ _ _ _ _ _ _ _ ⟨rfl, rfl, by simp only [allN, e, Bool.false_and, b2_f]⟩
        · simp only [reduceCtorEq, if_false]
          refine ok_bind (ok_mono (m_down hT hS hm hM hlt hj) (fun r hr => ?_))
          simp only [hr, b2_0]
          cases e2 : ((sA S j == 0 && !(sZ S).testBit j) && tk T S i j)
          · simp only [if_true]
            exact hk2 _ _ _ _ _ _ _ _ _ _ _ _ _ _ ⟨rfl, rfl, by simp only [allN, e, e2, Bool.true_and, Bool.not_false, b2_t]⟩
          · simp only [reduceCtorEq, if_false]
            exact hk2 _ _ _ _ _ _ _ _ _ _ _ _ _ _ ⟨rfl, rfl, by simp only [allN, e, e2, Bool.true_and, Bool.not_true, b2_f]⟩
      · rintro k2 c1 c2 c3 c4 c5 c6 c7 c8 c9 c10 c11 _ _ _ ⟨rfl, rfl, rfl⟩
        unfold fX9_full_24
        simp (disch := omega) only [nlit, nI_add, pk_mul, nC, nB, nT_le, nF_le, nT_lt, nF_lt, nF_eq, nT_eq, nM1_ne, nM1_lt, b2_0, b2_1, b2_nar, nar_0, nar_1, cond_true, if_true, if_false, ob_some, hM.2.1, q_one]
        cases e : allN (fun w => !((sA S w == 0 && !(sZ S).testBit w) && tk T S i w)) (tG T)
        · simp only [if_true]
          rw [e] at hq
          exact hq _ _ _ _ _ _ _ _ _ _ _
        · simp only [reduceCtorEq, if_false]
          rw [e] at hq
          exact hq _ _ _ _ _ _ _ _ _ _ _
    · rintro k a1 a2 a3 a4 a5 a6 a7 a8 a9 a10 a11 _ rfl
      unfold fX9_full_9
      simp (disch := omega) only [nlit, nI_add, pk_mul, nC, nB, nT_le, nF_le, nT_lt, nF_lt, nF_eq, nT_eq, nM1_ne, nM1_lt, b2_0, b2_1, b2_nar, nar_0, nar_1, cond_true, if_true, if_false, ob_some, hM.1]
      exact ok_some rfl
theorem c_lasting {C : Nat} (hT : WT T) (hS : WS T N S) (hC : CT T (nI (tN T)) (nI (tH T)) (nI (tG T)) (nI (tS T)) catB wanB len cold hf ct bu be kd gf fo code) (hs : CS T S (nI (sZ S)) (nI (sD S)) br coal inside) (hc : C ≤ 100000) : fX4_lastingBits (nI (tH T)) coal bu (nI C) = some (nI (bs (fun h => decide (tbu T h * C < sC S h)) (tH T))) := by
  have hH := hT.1
  unfold fX4_lastingBits
  refine ok_eq.mp (ok_for2 (tH T) (fun i v2 v3 => v2 = nI C ∧ v3 = nI (bs (fun h => decide (tbu T h * C < sC S h)) i)) ?_ ?_ FU 0 (nI C) 0 (Nat.zero_le _) ⟨rfl, rfl⟩ (by unfold FU; omega))
  · rintro k _ _ i hlt ⟨rfl, rfl⟩ hk
    unfold fX4_lastingBits_5
    have hb := (hT.2.2.2.2.2.1 i hlt).2.2.1
    have hcl := hS.2.2.1 i (by omega)
    have hx : tbu T i * C ≤ 9 * 100000 := Nat.mul_le_mul hb hc
    simp (disch := omega) only [nlit, nI_add, pk_mul, nC, nB, nT_le, nF_le, nT_lt, nF_lt, nF_eq, nT_eq, nM1_ne, nM1_lt, b2_0, b2_1, b2_nar, nar_0, nar_1, cond_true, if_true, if_false, ob_some, hs.2.2.2.1 i hlt, hC.2.2.2.2.2.2.2.2.2.1 i hlt, q_one, n_le]
    have hq := hk _ _ ⟨rfl, rfl⟩
    rw [← q_step (by omega)] at hq
    by_cases z : sC S i ≤ tbu T i * C
    · rw [decide_eq_false (by omega)] at hq
      simp only [z, if_true]
      exact hq
    · rw [decide_eq_true (by omega)] at hq
      simp only [z, if_false]
      exact hq
  · rintro k _ _ ⟨rfl, rfl⟩
    unfold fX4_lastingBits_5
    simp (disch := omega) only [nlit, nI_add, pk_mul, nC, nB, nT_le, nF_le, nT_lt, nF_lt, nF_eq, nT_eq, nM1_ne, nM1_lt, b2_0, b2_1, b2_nar, nar_0, nar_1, cond_true, if_true, if_false, ob_some]
    exact ok_some rfl
theorem c_sil {L : Nat} (hT : WT T) (hS : WS T N S) (hC : CT T (nI (tN T)) (nI (tH T)) (nI (tG T)) (nI (tS T)) catB wanB len cold hf ct bu be kd gf fo code) (hs : CS T S (nI (sZ S)) (nI (sD S)) br coal inside) (hL : L < 32) : fX4_seizedIfLasting (nI (sZ S)) (nI (tH T)) (nI (tG T)) wanB inside (nI L) = some (nI (sZ S ||| bs (fun w => (sA S w == 0 || !L.testBit (sA S w - 1)) && tkd T w == 1) (tG T))) := by
  have hH := hT.1
  have hG := hT.2.1
  have hZ := hS.z hT
  have es : fX4_streetBits (nI (sZ S)) (nI (tH T)) (nI (tG T)) inside = some (nI (oOut T S)) := c_street hH hG hZ (fun w _ => hS.2.2.2.2.1 w) hs.2.2.2.2
  unfold fX4_seizedIfLasting
  simp (disch := omega) only [nlit, nI_add, pk_mul, nC, nB, nT_le, nF_le, nT_lt, nF_lt, nF_eq, nT_eq, nM1_ne, nM1_lt, b2_0, b2_1, b2_nar, nar_0, nar_1, cond_true, if_true, if_false, ob_some, es]
  refine ok_eq.mp (ok_for2 (tH T) (fun i v2 v3 => v2 = nI L ∧ v3 = nI (bs (fun w => (sA S w == 0 && !(sZ S).testBit w) || (decide (1 ≤ sA S w ∧ sA S w ≤ i) && !L.testBit (sA S w - 1))) (tG T))) ?_ ?_ FU 0 (nI L) (nI (oOut T S)) (Nat.zero_le _) ⟨rfl, ?_⟩ (by unfold FU; omega))
  · rintro k _ _ i hlt ⟨rfl, rfl⟩ hk
    unfold fX4_seizedIfLasting_9
    have h1 := bs_le (p := fun w => (sA S w == 0 && !(sZ S).testBit w) || (decide (1 ≤ sA S w ∧ sA S w ≤ i) && !L.testBit (sA S w - 1))) hG
    have h2 := oIn_lt (S := S) (h := i) hT
    have ei : inside i = nI (oIn T S i) := hs.2.2.2.2 i (by omega)
    simp (disch := omega) only [nlit, nI_add, pk_mul, nC, nB, nT_le, nF_le, nT_lt, nF_lt, nF_eq, nT_eq, nM1_ne, nM1_lt, b2_0, b2_1, b2_nar, nar_0, nar_1, cond_true, if_true, if_false, ob_some, q_bit, ei, q_or, Nat.or_zero]
    cases z : L.testBit i
    · simp only [if_true]
      refine hk _ _ ⟨rfl, ?_⟩
      unfold oIn
      rw [bs_or]
      congr 1
      apply bs_ext
      intro w hw
      by_cases y : sA S w = i + 1
      · simp [y, z]
      · have e1 : (sA S w == i + 1) = false := by simpa using y
        have e2 : (1 ≤ sA S w ∧ sA S w ≤ i) ↔ (1 ≤ sA S w ∧ sA S w ≤ i + 1) := by omega
        simp only [e1, Bool.or_false, e2]
    · simp only [reduceCtorEq, if_false]
      refine hk _ _ ⟨rfl, ?_⟩
      congr 1
      apply bs_ext
      intro w hw
      by_cases y : sA S w = i + 1
      · simp [y, z]
      · have e2 : (1 ≤ sA S w ∧ sA S w ≤ i) ↔ (1 ≤ sA S w ∧ sA S w ≤ i + 1) := by omega
        simp only [e2]
  · rintro k _ _ ⟨rfl, rfl⟩
    unfold fX4_seizedIfLasting_9
    have h1 := bs_le (p := fun w => (sA S w == 0 && !(sZ S).testBit w) || (decide (1 ≤ sA S w ∧ sA S w ≤ tH T) && !L.testBit (sA S w - 1))) hG
    have h2 := bs_le (p := fun w => tkd T w == 1) hG
    simp (disch := omega) only [nlit, nI_add, pk_mul, nC, nB, nT_le, nF_le, nT_lt, nF_lt, nF_eq, nT_eq, nM1_ne, nM1_lt, b2_0, b2_1, b2_nar, nar_0, nar_1, cond_true, if_true, if_false, ob_some, hC.2.2.2.2.2.1, q_and, bs_and]
    have h3 := bs_le (p := fun w => ((sA S w == 0 && !(sZ S).testBit w) || (decide (1 ≤ sA S w ∧ sA S w ≤ tH T) && !L.testBit (sA S w - 1))) && tkd T w == 1) hG
    simp (disch := omega) only [q_or]
    refine ok_some ?_
    congr 1
    apply Nat.eq_of_testBit_eq
    intro w
    rw [Nat.testBit_or, Nat.testBit_or, bs_bit, bs_bit]
    have hw := hS.2.2.2.2.1 w
    by_cases y : sA S w = 0
    · simp [y]
      cases (sZ S).testBit w <;> simp
    · have e1 : (sA S w == 0) = false := by simpa using y
      have e2 : decide (1 ≤ sA S w ∧ sA S w ≤ tH T) = true := decide_eq_true (by omega)
      simp only [e1, e2, Bool.false_and, Bool.false_or, Bool.true_and]
  · unfold oOut
    congr 1
    apply bs_ext
    intro w hw
    rw [decide_eq_false (by omega)]
    simp
theorem nZ_last {c n : Nat} (hS : WS T N S) (hn : 1 ≤ n) : sZ S ||| bs (fun w => (sA S w == 0 || !(bs (fun h => decide (tbu T h * (csT T (sD S) n + n * c) < sC S h)) (tH T)).testBit (sA S w - 1)) && tkd T w == 1) (tG T) = nZ_ T c S n := by
  unfold nZ_
  rw [if_neg (by omega)]
  congr 1
  apply bs_ext
  intro w hw
  have hw := hS.2.2.2.2.1 w
  by_cases y : tkd T w = 1
  · have e : (tkd T w == 1) = true := by simpa using y
    rw [e, Bool.and_true, Bool.and_true]
    unfold nA_
    by_cases z : sA S w = 0
    · simp [z]
    · have e1 : (sA S w == 0) = false := by simpa using z
      rw [e1, bs_bit, Bool.false_or, decide_eq_true (show sA S w - 1 < tH T by omega), Bool.true_and]
      unfold nC_
      by_cases x : tbu T (sA S w - 1) * (csT T (sD S) n + n * c) < sC S (sA S w - 1)
      · rw [decide_eq_true x, if_neg (fun q => by omega), e1]; rfl
      · rw [decide_eq_false x, if_pos ⟨by omega, z, by omega⟩]; rfl
  · have e : (tkd T w == 1) = false := by simpa using y
    rw [e, Bool.and_false, Bool.and_false]
theorem p_colder {th m0 : Int32} {bf : Nat → Int32} (v1 v2 : Int32) (hT : WT T) (hS : WS T N S) (hN : N ≤ 1800) (hC : CT T (nI (tN T)) (nI (tH T)) (nI (tG T)) (nI (tS T)) catB wanB len cold hf ct bu be kd gf fo code) (hs : CS T S (nI (sZ S)) (nI (sD S)) br coal inside) (hM : MT T tr hf' ct' bu' wl kd' gf' wr cd lf lt cds) (hm : MS S s) :
    ∃ a, fX8_colder (nI (sZ S)) (nI (sD S)) (nI (tN T)) (nI (tH T)) (nI (tG T)) wanB coal inside cold bu v1 v2 = some a ∧ ok (fX9_colder tr bu' kd' cd th (nI 0) s bf v1 v2) (fun r => r.1 = a ∧ r.2.2.1 = nI 0 ∧ MS S r.2.2.2.1) := by
  have hH := hT.1
  have hd := hS.1
  unfold fX8_colder fX9_colder
  simp only [nlit]
  rcases wthn v1 1 30 (by omega) (by omega) with ⟨n, hn1, hn2, rfl, e1, e2⟩ | ⟨e1, e2⟩
  · rcases wthn v2 0 3 (by omega) (by omega) with ⟨c, -, hc, rfl, e3, e4⟩ | ⟨e3, e4⟩
    · have hcs := csT_le (d := sD S) (n := n) hT
      have hnc : n * c ≤ 30 * 3 := Nat.mul_le_mul hn2 hc
      have hL := bs_le (p := fun h => decide (tbu T h * (csT T (sD S) n + n * c) < sC S h)) hH
      simp (disch := omega) only [e1, e2, e3, e4, nlit, nI_add, pk_mul, nC, nB, nT_le, nF_le, nT_lt, nF_lt, nF_eq, nT_eq, nM1_ne, nM1_lt, b2_0, b2_1, b2_nar, nar_0, nar_1, cond_true, if_true, if_false, ob_some, c_coldOver hT hC.2.2.2.2.2.2.1, c_lasting hT hS hC hs (show csT T (sD S) n + n * c ≤ 100000 by omega), c_sil hT hS hC hs hL, nZ_last hS hn1]
      refine ⟨_, rfl, ok_bind (ok_mono m_copy13 (fun y5 h5 => ok_bind (ok_mono (m_goesOn hT hS hN (by omega) hc hM hm) (fun y6 h6 => ok_bind (ok_mono m_copy13 (fun y7 h7 => ok_some ⟨?_, rfl, ?_⟩))))))⟩
      · show y6 1 = _
        rw [h6.2.1, (dyN_closed hT hS n).2.2.2.2.2]
      · exact MS_congr (MS_congr hm h5) h7
    · simp (disch := omega) only [e1, e2, e3, e4, nlit, nI_add, pk_mul, nC, nB, nT_le, nF_le, nT_lt, nF_lt, nF_eq, nT_eq, nM1_ne, nM1_lt, b2_0, b2_1, b2_nar, nar_0, nar_1, cond_true, if_true, if_false, ob_some]
      exact ⟨_, rfl, ok_some ⟨rfl, rfl, hm⟩⟩
  · simp (disch := omega) only [e1, e2, nlit, nI_add, pk_mul, nC, nB, nT_le, nF_le, nT_lt, nF_lt, nF_eq, nT_eq, nM1_ne, nM1_lt, b2_0, b2_1, b2_nar, nar_0, nar_1, cond_true, if_true, if_false, ob_some]
    exact ⟨_, rfl, ok_some ⟨rfl, rfl, hm⟩⟩
end RG
