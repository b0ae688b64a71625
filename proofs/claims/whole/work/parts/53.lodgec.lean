/-! lodgings: the class -/
def lawS (T : Ter) (S : Sta) (h : Nat) (b : Bool) : Nat := bs (fun many => tal T (nI (sC S h)) (nI many) (nI (b2 b)) (nI (sD S))) (tG T)
theorem q_shr : ∀ n, n < 64 → ∀ k, k < 6 → nI n >>> (nI k &&& nI 31) = nI (n / 2 ^ k) := by decide +kernel
theorem q_odd : ∀ n, n < 64 → ∀ k, k < 6 → nI (n / 2 ^ k) &&& nI 1 = nI (b2 (n.testBit k)) := by decide +kernel
theorem q_div0 : ∀ n, n < 64 → ∀ k, k < 6 → ∀ j, j < 6 → (decide (k ≤ j) && n.testBit j && (n / 2 ^ k == 0)) = false := by decide +kernel
theorem cnt_mono {p q : Nat → Bool} {n : Nat} (h : ∀ k, k < n → p k = true → q k = true) : cnt p n ≤ cnt q n := by
  induction n with
  | zero => exact Nat.le_refl _
  | succ n ih =>
    have h1 := ih (fun k hk => h k (by omega))
    have h2 := h n (by omega)
    simp only [cnt]
    cases e : p n
    · simp only [b2_f]; omega
    · rw [h2 e]; omega
theorem cnt_lt {p : Nat → Bool} {n w : Nat} (hw : w < n) (h : p w = false) : cnt p n < n := by
  induction n with
  | zero => omega
  | succ n ih =>
    simp only [cnt]
    by_cases e : w = n
    · subst e
      rw [h, b2_f]
      have := cnt_le (q := p) (n := w)
      omega
    · have := ih (by omega)
      have := b2_lt (p n)
      omega
section LC
variable {T : Ter} {S X : Sta} {N n : Nat} {catB wanB len br : Int32} {cold hf ct bu be kd gf fo code coal inside law : Nat → Int32}
/-- the law as it was learned -/
def LwA (T : Ter) (S : Sta) (law : Nat → Int32) : Prop := ∀ h, h < tH T → law (2 * h) = nI (lawS T S h false) ∧ law (2 * h + 1) = nI (lawS T S h true)
theorem c_cost {w h : Nat} {L : Nat} (hT : WT T) (hC : CT T (nI (tN T)) (nI (tH T)) (nI (tG T)) (nI (tS T)) catB wanB len cold hf ct bu be kd gf fo code) (hw : w < tG T) (hh : h ≤ tH T) (hz : (sZ S).testBit w = false) (hL : L = bs (fun h => decide (tbu T h * csT T (sD S) n < sC S h)) (tH T)) : fX2_costOf (nI L) kd (nI w) (plI h) = some (nI (c1 T S n w h)) := by
  have hH := hT.1
  have hG := hT.2.1
  have hk3 := (hT.2.2.2.2.2.2.1 w hw).1
  have hLl : L < 32 := by rw [hL]; exact bs_le hH
  have ekd := hC.2.2.2.2.2.2.2.2.2.2.2.1 w hw
  have e34 : fX2_costOf_34 (nI L) kd (nI (143 + tkd T w)) = some (nI (if tkd T w = 1 then 17 else 1)) := by
    unfold fX2_costOf_34
    by_cases q : tkd T w = 1
    · rw [q]; rfl
    · rw [if_neg (fun e => q (by have := (nI_eq (b := 144) (by omega) (by omega)).mp e; omega)), if_neg q]; rfl
  have ec : ∀ a, fOut T S n w a = true → c1 T S n w a = (if tkd T w = 1 then 17 else 1) := by
    intro a ha
    unfold c1 fSz
    rw [ha, hz, Bool.false_or, Bool.true_and]
    by_cases q : tkd T w = 1
    · have e : (tkd T w == 1) = true := by simpa using q
      rw [e, if_pos q]; rfl
    · have e : (tkd T w == 1) = false := by simpa using q
      rw [e, if_neg q]; rfl
  have ec0 : ∀ a, fOut T S n w a = false → c1 T S n w a = 0 := by
    intro a ha
    unfold c1 fSz
    rw [ha, hz]; rfl
  unfold fX2_costOf
  rw [nC (by omega), ekd]
  by_cases h0 : h = 0
  · subst h0
    rw [ec 0 (by unfold fOut; rfl), ← e34]
    rw [nB (by omega) (by omega), cond_true]
    exact if_pos (show plI 0 = -1 from rfl)
  · have ep : plI h = nI (h - 1) := if_neg h0
    rw [ep, nB (by omega) (by omega)]
    have hbit : (L.testBit (h - 1)) = lastB T S n (h - 1) := by
      rw [hL, bs_bit, decide_eq_true (show h - 1 < tH T by omega), Bool.true_and]; rfl
    simp (disch := omega) only [nlit, nI_add, pk_mul, nC, nB, nT_le, nF_le, nT_lt, nF_lt, nF_eq, nT_eq, nM1_ne, nM1_lt, b2_0, b2_1, b2_nar, nar_0, nar_1, cond_true, if_true, if_false, ob_some, q_bit, hbit, e34]
    by_cases q3 : tkd T w = 3
    · rw [ec0 h (by unfold fOut; have e : (h == 0) = false := by simpa using h0
                    rw [e, q3]; rfl)]
      simp (disch := omega) only [nlit, nI_add, pk_mul, nC, nB, nT_le, nF_le, nT_lt, nF_lt, nF_eq, nT_eq, nM1_ne, nM1_lt, b2_0, b2_1, b2_nar, nar_0, nar_1, cond_true, if_true, if_false, ob_some, q3]
    · have e3 : (tkd T w == 3) = false := by simpa using q3
      simp (disch := omega) only [nlit, nI_add, pk_mul, nC, nB, nT_le, nF_le, nT_lt, nF_lt, nF_eq, nT_eq, nM1_ne, nM1_lt, b2_0, b2_1, b2_nar, nar_0, nar_1, cond_true, if_true, if_false, ob_some]
      cases z : lastB T S n (h - 1)
      · rw [ec h (by unfold fOut; rw [z, e3]; simp)]
        simp only [if_true]
      · rw [ec0 h (by unfold fOut; have e : (h == 0) = false := by simpa using h0
                      rw [e, z]; simp)]
        simp only [reduceCtorEq, if_false]
theorem c_lfn {w h : Nat} (hT : WT T) (hX : Xof T S X) (hC : CT T (nI (tN T)) (nI (tH T)) (nI (tG T)) (nI (tS T)) catB wanB len cold hf ct bu be kd gf fo code) (hi : Ins (sA X) (tG T) inside) (hl : LwA T S law) (hw : w < tG T) (hh : h < tH T) : fX2_lawfulFromNow law hf kd gf inside (nI h) (nI w) = some (nI (if tkd T w = 2 then 1 else lawS T S h (tfl T h == tgf T w) / 2 ^ pop (oIn T X h))) := by
  have hH := hT.1
  have hG := hT.2.1
  have hk3 := (hT.2.2.2.2.2.2.1 w hw).1
  have hgw := (hT.2.2.2.2.2.2.1 w hw).2
  have hfl := (hT.2.2.2.2.2.1 h hh).1
  have hI := oIn_lt (S := X) (h := h) hT
  have hp : pop (oIn T X h) ≤ 5 := by
    unfold oIn; rw [pop_bs (by omega)]; exact Nat.le_trans cnt_le hG
  have hl1 : ∀ b, lawS T S h b < 32 := fun b => bs_le hG
  have ei : inside h = nI (oIn T X h) := hi h (by omega)
  unfold fX2_lawfulFromNow fX2_lawfulFromNow_36
  simp (disch := omega) only [nlit, nI_add, pk_mul, nC, nB, nT_le, nF_le, nT_lt, nF_lt, nF_eq, nT_eq, nM1_ne, nM1_lt, b2_0, b2_1, b2_nar, nar_0, nar_1, cond_true, if_true, if_false, ob_some, hC.2.2.2.2.2.2.2.2.2.2.2.1 w hw, hC.2.2.2.2.2.2.2.1 h hh, hC.2.2.2.2.2.2.2.2.2.2.2.2.1 w hw, ei, pJ6_bits, show h * 2 = 2 * h from Nat.mul_comm h 2, Nat.add_zero, (hl h hh).1, (hl h hh).2]
  by_cases q2 : tkd T w = 2
  · simp (disch := omega) only [nlit, nI_add, pk_mul, nC, nB, nT_le, nF_le, nT_lt, nF_lt, nF_eq, nT_eq, nM1_ne, nM1_lt, b2_0, b2_1, b2_nar, nar_0, nar_1, cond_true, if_true, if_false, ob_some, q2]
  · simp (disch := omega) only [nlit, nI_add, pk_mul, nC, nB, nT_le, nF_le, nT_lt, nF_lt, nF_eq, nT_eq, nM1_ne, nM1_lt, b2_0, b2_1, b2_nar, nar_0, nar_1, cond_true, if_true, if_false, ob_some, q2]
    have h5 := hl1 true
    have h6 := hl1 false
    by_cases q3 : tfl T h = tgf T w
    · have e : (tfl T h == tgf T w) = true := by simpa using q3
      rw [e, q3]
      simp (disch := omega) only [nlit, nI_add, pk_mul, nC, nB, nT_le, nF_le, nT_lt, nF_lt, nF_eq, nT_eq, nM1_ne, nM1_lt, b2_0, b2_1, b2_nar, nar_0, nar_1, cond_true, if_true, if_false, ob_some, q_shr]
    · have e : (tfl T h == tgf T w) = false := by simpa using q3
      rw [e]
      simp (disch := omega) only [nlit, nI_add, pk_mul, nC, nB, nT_le, nF_le, nT_lt, nF_lt, nF_eq, nT_eq, nM1_ne, nM1_lt, b2_0, b2_1, b2_nar, nar_0, nar_1, cond_true, if_true, if_false, ob_some, q_shr]
theorem c_lawful_bit {h m : Nat} {b : Bool} (hm : m < tG T) : (lawS T S h b).testBit m = tal T (nI (sC S h)) (nI m) (nI (b2 b)) (nI (sD S)) := by
  unfold lawS; rw [bs_bit, decide_eq_true hm, Bool.true_and]
theorem popIn_lt {w h : Nat} (hT : WT T) (hw : w < tG T) (h0 : sA X w = 0) : pop (oIn T X h) < tG T := by
  have hG := hT.2.1
  unfold oIn
  rw [pop_bs (by omega)]
  exact cnt_lt hw (by rw [h0]; rfl)
theorem c_taken2 {w h : Nat} (hT : WT T) (hX : Xof T S X) (hW : WS T N X) (hC : CT T (nI (tN T)) (nI (tH T)) (nI (tG T)) (nI (tS T)) catB wanB len cold hf ct bu be kd gf fo code) (hs : CS T X (nI (sZ X)) (nI (sD X)) br coal inside) (hl : LwA T S law) (hw : w < tG T) (hh : h < tH T) (h0 : sA X w = 0) : fX2_isTaken law hf kd gf fo coal inside (nI h) (nI w) = some (nI (b2 (tk T X h w))) := by
  have hH := hT.1
  have hG := hT.2.1
  have hk3 := (hT.2.2.2.2.2.2.1 w hw).1
  have hpl := popIn_lt (X := X) (h := h) hT hw h0
  have hl1 : ∀ b, lawS T S h b < 32 := fun b => bs_le hG
  unfold fX2_isTaken
  simp (disch := omega) only [nlit, nI_add, pk_mul, nC, nB, nT_le, nF_le, nT_lt, nF_lt, nF_eq, nT_eq, nM1_ne, nM1_lt, b2_0, b2_1, b2_nar, nar_0, nar_1, cond_true, if_true, if_false, ob_some, hC.2.2.2.2.2.2.2.2.2.2.2.1 w hw, c_peace hT hW hC hs hh hw, c_lfn hT hX hC hs.2.2.2.2 hl hw hh]
  unfold tk
  by_cases q3 : tkd T w = 3
  · have e3 : (tkd T w == 3) = true := by simpa using q3
    rw [e3]
    simp (disch := omega) only [nlit, nI_add, pk_mul, nC, nB, nT_le, nF_le, nT_lt, nF_lt, nF_eq, nT_eq, nM1_ne, nM1_lt, b2_0, b2_1, b2_nar, nar_0, nar_1, cond_true, if_true, if_false, ob_some, q3]
    rfl
  have e3 : (tkd T w == 3) = false := by simpa using q3
  rw [e3, Bool.false_or]
  simp (disch := omega) only [nlit, nI_add, pk_mul, nC, nB, nT_le, nF_le, nT_lt, nF_lt, nF_eq, nT_eq, nM1_ne, nM1_lt, b2_0, b2_1, b2_nar, nar_0, nar_1, cond_true, if_true, if_false, ob_some]
  cases z : (decide (0 < sC X h) && (decide (20 ≤ sC X h) || (oFoe T w (oIn T X h) == 0)))
  · rfl
  simp only [reduceCtorEq, if_false, Bool.true_and]
  by_cases q2 : tkd T w = 2
  · have e2 : (tkd T w == 2) = true := by simpa using q2
    rw [e2, if_pos q2]; rfl
  · have e2 : (tkd T w == 2) = false := by simpa using q2
    rw [e2, if_neg q2, Bool.false_or]
    have h5 := hl1 (tfl T h == tgf T w)
    simp (disch := omega) only [q_odd, b2_0, c_lawful_bit hpl, hX.2.2.1, hX.1]
    cases tal T (nI (sC S h)) (nI (pop (oIn T X h))) (nI (b2 (tfl T h == tgf T w))) (nI (sD S)) <;> rfl
/-- the least that a guest can cost -/
theorem c_least {w L : Nat} (hT : WT T) (hS : WS T N S) (hC : CT T (nI (tN T)) (nI (tH T)) (nI (tG T)) (nI (tS T)) catB wanB len cold hf ct bu be kd gf fo code) (hi : Ins (sA S) (tG T) inside) (hl : LwA T S law) (hw : w < tG T) (hO : isO S w = true) (hL : L = bs (fun h => decide (tbu T h * csT T (sD S) n < sC S h)) (tH T)) : ok (fX2_leastCost (nI L) (nI (tH T)) law hf kd gf inside (nI w)) (fun r => ∃ m, r = nI m ∧ m ≤ c1 T S n w 0 ∧ ∀ (X : Sta) (M : Nat) (h : Nat), Xof T S X → WS T M X → sA X w = 0 → h < tH T → tk T X h w = true → m ≤ c1 T S n w (h + 1)) := by
  have hH := hT.1
  have hG := hT.2.1
  have hk3 := (hT.2.2.2.2.2.2.1 w hw).1
  have hO' := hO
  unfold isO at hO'
  rw [Bool.and_eq_true] at hO'
  have h0 : sA S w = 0 := by simpa using hO'.1
  have hz : (sZ S).testBit w = false := by simpa using hO'.2
  have hSX : Xof T S S := ⟨rfl, rfl, rfl, rfl, fun _ _ => rfl⟩
  have hc0 : fX2_costOf (nI L) kd (nI w) (-1) = some (nI (c1 T S n w 0)) := c_cost (h := 0) hT hC hw (by omega) hz hL
  have hcl : ∀ a, c1 T S n w a ≤ 17 := fun a => c1_le
  unfold fX2_leastCost
  rw [hc0]
  refine ok_bind (ok_some ?_)
  refine ok_for2 (tH T) (fun i v3 v4 => v3 = nI w ∧ ∃ m, v4 = nI m ∧ m ≤ c1 T S n w 0 ∧ ∀ (X : Sta) (M : Nat) (h : Nat), Xof T S X → WS T M X → sA X w = 0 → h < i → tk T X h w = true → m ≤ c1 T S n w (h + 1)) ?_ ?_ FU 0 (nI w) _ (Nat.zero_le _) ⟨rfl, _, rfl, Nat.le_refl _, fun X M h _ _ _ hh => by omega⟩ (by unfold FU; omega)
  · rintro k v3 v4 i hi2 ⟨rfl, m, rfl, hm1, hm2⟩ hk
    have hci : fX2_costOf (nI L) kd (nI w) (nI i) = some (nI (c1 T S n w (i + 1))) := by
      rw [plI_succ]; exact c_cost (h := i + 1) hT hC hw (by omega) hz hL
    have h17 := hcl 0
    have h18 := hcl (i + 1)
    unfold fX2_leastCost_12 fX2_leastCost_45
    rw [nC (by omega), hC.2.2.2.2.2.2.2.2.2.2.2.1 w hw, hci, c_lfn hT hSX hC hi hl hw hi2, nI_1]
    have take : ok (Option.bind (some (nI (c1 T S n w (i + 1)))) fun y1 => k (nI w) (imin (nI m) y1) (nI (i + 1))) (fun r => ∃ m, r = nI m ∧ m ≤ c1 T S n w 0 ∧ ∀ (X : Sta) (M : Nat) (h : Nat), Xof T S X → WS T M X → sA X w = 0 → h < tH T → tk T X h w = true → m ≤ c1 T S n w (h + 1)) := by
      refine ok_bind (ok_some ?_)
      rw [nmin (by omega) (by omega)]
      refine hk _ _ ⟨rfl, _, rfl, by omega, fun X M h hX hW hx hh ht => ?_⟩
      rcases Nat.lt_succ_iff_lt_or_eq.mp hh with q | rfl
      · have := hm2 X M h hX hW hx q ht
        omega
      · omega
    refine ok_f (nI_ge hi2 (by omega)) (ok_g (nB (by omega) (by omega)) ?_)
    refine ok_if (fun _ => take) (fun q3 => ok_bind (ok_some (ok_if (fun q => ?_) (fun _ => take))))
    have hq3 : tkd T w ≠ 3 := fun e => q3 (by rw [e]; rfl)
    refine hk _ _ ⟨rfl, m, rfl, hm1, fun X M h hX hW hx hh ht => ?_⟩
    rcases Nat.lt_succ_iff_lt_or_eq.mp hh with z | rfl
    · exact hm2 X M h hX hW hx z ht
    · exfalso
      have hpl := popIn_lt (X := X) (h := h) hT hw hx
      have hps := popIn_lt (X := S) (h := h) hT hw h0
      have hll : lawS T S h (tfl T h == tgf T w) < 32 := bs_le hG
      unfold tk at ht
      have e3 : (tkd T w == 3) = false := by simpa using hq3
      rw [e3, Bool.false_or, Bool.and_eq_true] at ht
      by_cases q2 : tkd T w = 2
      · rw [if_pos q2] at q
        exact absurd q (by decide)
      · rw [if_neg q2] at q
        have e2 : (tkd T w == 2) = false := by simpa using q2
        have hdv : lawS T S h (tfl T h == tgf T w) / 2 ^ pop (oIn T S h) ≤ 31 := Nat.le_trans (Nat.div_le_self _ _) (by omega)
        have q := (nI_eq (b := 0) (by omega) (by omega)).mp q
        have hal := ht.2
        rw [e2, Bool.false_or, hX.2.2.1, hX.1, ← c_lawful_bit hpl] at hal
        have hmono : pop (oIn T S h) ≤ pop (oIn T X h) := by
          unfold oIn
          rw [pop_bs (by omega), pop_bs (by omega)]
          refine cnt_mono (fun u hu e => ?_)
          have e : sA S u = h + 1 := by simpa using e
          have : isO S u = false := by unfold isO; rw [e]; rfl
          rw [hX.2.2.2.2 u this, e]; simp
        have := q_div0 _ (show lawS T S h (tfl T h == tgf T w) < 64 by omega) (pop (oIn T S h)) (by omega) (pop (oIn T X h)) (by omega)
        rw [decide_eq_true hmono, hal, q] at this
        exact absurd this (by decide)
  · rintro k v3 v4 ⟨rfl, m, rfl, hm1, hm2⟩
    unfold fX2_leastCost_12
    exact ok_t (nI_le (Nat.le_refl _) (by omega)) (ok_some ⟨m, rfl, hm1, hm2⟩)
theorem c_learn {wt : Int32} {st law0 : Nat → Int32} (hT : WT T) (hC : CT T (nI (tN T)) (nI (tH T)) (nI (tG T)) (nI (tS T)) catB wanB len cold hf ct bu be kd gf fo code) (hs : CS T S (nI (sZ S)) (nI (sD S)) br coal inside) : ok (fX2_learnLaw (nI (tH T)) (nI (tG T)) len (nI (sD S)) hf code coal wt law0 st) (fun r => LwA T S r.2.1) := by
  have hH := hT.1
  have hG := hT.2.1
  unfold fX2_learnLaw
  refine ok_for3 (tH T) (fun i _ a _ => ∀ h, h < i → a (2 * h) = nI (lawS T S h false) ∧ a (2 * h + 1) = nI (lawS T S h true)) ?_ ?_ FU 0 wt law0 st (Nat.zero_le _) (fun h hh => by omega) (by unfold FU; omega)
  · rintro k wt a st i hi ha hk
    have hfl := (hT.2.2.2.2.2.1 i hi).1
    unfold fX2_learnLaw_2
    simp (disch := omega) only [nlit, nI_add, pk_mul, nC, nB, nT_le, nF_le, nT_lt, nF_lt, nF_eq, nT_eq, nM1_ne, nM1_lt, b2_0, b2_1, b2_nar, nar_0, nar_1, cond_true, if_true, if_false, ob_some]
    refine ok_for4 (tG T) (fun j _ a _ v3 => v3 = nI i ∧ (∀ h, h < i → a (2 * h) = nI (lawS T S h false) ∧ a (2 * h + 1) = nI (lawS T S h true)) ∧ a (i * 2) = nI (bs (fun many => tal T (nI (sC S i)) (nI many) (nI (b2 false)) (nI (sD S))) j) ∧ a (i * 2 + 1) = nI (bs (fun many => tal T (nI (sC S i)) (nI many) (nI (b2 true)) (nI (sD S))) j)) ?_ ?_ FU 0 wt _ st (nI i) (Nat.zero_le _) ⟨rfl, fun h hh => ⟨?_, ?_⟩, ?_, ?_⟩ (by unfold FU; omega)
    · rintro k2 wt2 a2 st2 v3 j hj ⟨rfl, g1, g2, g3⟩ hk2
      unfold fX2_learnLaw_33 fX2_learnLaw_79 fX2_learnLaw_113
      simp (disch := omega) only [nlit, nI_add, pk_mul, nC, nB, nT_le, nF_le, nT_lt, nF_lt, nF_eq, nT_eq, nM1_ne, nM1_lt, b2_0, b2_1, b2_nar, nar_0, nar_1, cond_true, if_true, if_false, ob_some, g2, hC.2.2.2.2.2.2.2.1 i hi, q_one]
      have hq0 := bs_le (p := fun many => tal T (nI (sC S i)) (nI many) (nI (b2 false)) (nI (sD S))) (n := j) (by omega)
      have hq1 := bs_le (p := fun many => tal T (nI (sC S i)) (nI many) (nI (b2 true)) (nI (sD S))) (n := j) (by omega)
      have fin : ∀ (b0 b1 : Bool) (wt : Int32) (st : Nat → Int32), b0 = tal T (nI (sC S i)) (nI j) (nI (b2 false)) (nI (sD S)) → b1 = tal T (nI (sC S i)) (nI j) (nI (b2 true)) (nI (sD S)) → ok (k2 wt (upd (upd a2 (i * 2) (nI (bs (fun many => tal T (nI (sC S i)) (nI many) (nI (b2 false)) (nI (sD S))) j) ||| nI (bif b0 then 2 ^ j else 0))) (i * 2 + 1) (nI (bs (fun many => tal T (nI (sC S i)) (nI many) (nI (b2 true)) (nI (sD S))) j) ||| nI (bif b1 then 2 ^ j else 0))) st (nI i) (nI (j + 1))) (fun r => LwA T S r.2.1) := by
        rintro b0 b1 wt st rfl rfl
        refine hk2 _ _ _ _ ⟨rfl, fun h hh => ⟨?_, ?_⟩, ?_, ?_⟩
        · rw [pk_un (by omega), pk_un (by omega)]; exact (g1 h hh).1
        · rw [pk_un (by omega), pk_un (by omega)]; exact (g1 h hh).2
        · rw [pk_un (by omega), pk_us, q_step (p := fun many => tal T (nI (sC S i)) (nI many) (nI (b2 false)) (nI (sD S))) (by omega)]
        · rw [pk_us, q_step (p := fun many => tal T (nI (sC S i)) (nI many) (nI (b2 true)) (nI (sD S))) (by omega)]
      have en : decide (nI (tfl T i) = -1) = false := decide_eq_false (fun e => by rw [nlit, nM1_ne (by omega)] at e; exact e)
      have hl0 := fun wt st => c_lawful (h := i) (i := j) (v4 := -1) (wt := wt) (st := st) hT hC hs hi
      have hl1 := fun wt st => c_lawful (h := i) (i := j) (v4 := nI (tfl T i)) (wt := wt) (st := st) hT hC hs hi
      rw [en] at hl0
      rw [decide_eq_true rfl] at hl1
      have er : ∀ x : Int32, upd a2 (i * 2) x (i * 2 + 1) = a2 (i * 2 + 1) := fun x => pk_un (by omega)
      refine ok_bind (ok_mono (hl0 wt2 st2) (fun y hy => ?_))
      rw [hy]
      simp only [b2_0, er, g3]
      cases z0 : tal T (nI (sC S i)) (nI j) (nI (b2 false)) (nI (sD S))
      · simp only [if_true]
        refine ok_bind (ok_mono (hl1 _ _) (fun y2 hy2 => ?_))
        rw [hy2]
        simp only [b2_0]
        cases z1 : tal T (nI (sC S i)) (nI j) (nI (b2 true)) (nI (sD S))
        · exact fin false false _ _ z0.symm z1.symm
        · exact fin false true _ _ z0.symm z1.symm
      · simp only [reduceCtorEq, if_false]
        refine ok_bind (ok_mono (hl1 _ _) (fun y2 hy2 => ?_))
        rw [hy2]
        simp only [b2_0]
        cases z1 : tal T (nI (sC S i)) (nI j) (nI (b2 true)) (nI (sD S))
        · exact fin true false _ _ z0.symm z1.symm
        · exact fin true true _ _ z0.symm z1.symm
    · rintro k2 wt2 a2 st2 v3 ⟨rfl, g1, g2, g3⟩
      unfold fX2_learnLaw_33
      simp (disch := omega) only [nlit, nI_add, pk_mul, nC, nB, nT_le, nF_le, nT_lt, nF_lt, nF_eq, nT_eq, nM1_ne, nM1_lt, b2_0, b2_1, b2_nar, nar_0, nar_1, cond_true, if_true, if_false, ob_some]
      refine hk _ _ _ (fun h hh => ?_)
      rcases Nat.lt_succ_iff_lt_or_eq.mp hh with z | rfl
      · exact g1 h z
      · rw [show 2 * h = h * 2 by omega]; exact ⟨g2, g3⟩
    · rw [pk_un (by omega), pk_un (by omega)]; exact (ha h hh).1
    · rw [pk_un (by omega), pk_un (by omega)]; exact (ha h hh).2
    · rw [pk_un (by omega), pk_us]; rfl
    · rw [pk_us]; rfl
  · rintro k wt a st ha
    unfold fX2_learnLaw_2
    simp (disch := omega) only [nlit, nI_add, pk_mul, nC, nB, nT_le, nF_le, nT_lt, nF_lt, nF_eq, nT_eq, nM1_ne, nM1_lt, b2_0, b2_1, b2_nar, nar_0, nar_1, cond_true, if_true, if_false, ob_some]
    exact ok_some ha
end LC
