/-! note, pairs -/
def nbs (T : Ter) (X : Nat) : Nat → Nat
  | 0 => 0
  | n + 1 => nbs T X n ||| (bif X.testBit n then tbe T n else 0)
def rch (T : Ter) (f : Nat) : Nat → Nat
  | 0 => 2 ^ f
  | n + 1 => rch T f n ||| nbs T (rch T f n) (tH T)
theorem nbs_lt {T : Ter} {X n : Nat} (hT : WT T) (hn : n ≤ tH T) : nbs T X n < 2 ^ tH T := by
  induction n with
  | zero => exact Nat.two_pow_pos _
  | succ n ih =>
    refine Nat.or_lt_two_pow (ih (by omega)) ?_
    cases X.testBit n
    · exact Nat.two_pow_pos _
    · exact (hT.2.2.2.2.2.1 n (by omega)).2.2.2
theorem rch_lt {T : Ter} {f n : Nat} (hT : WT T) (hf : f < tH T) : rch T f n < 2 ^ tH T := by
  induction n with
  | zero => exact Nat.pow_lt_pow_right (by decide) hf
  | succ n ih => exact Nat.or_lt_two_pow ih (nbs_lt hT (Nat.le_refl _))
theorem pop_up : ∀ a, a < 32 → ∀ b, b < 32 → a ||| b ≠ a → pop a + 1 ≤ pop (a ||| b) := by decide +kernel
theorem pop_full : ∀ h, h < 6 → ∀ a, a < 32 → a < 2 ^ h → h ≤ pop a → a = 2 ^ h - 1 := by decide +kernel
theorem pop_or_full : ∀ h, h < 6 → ∀ b, b < 32 → b < 2 ^ h → (2 ^ h - 1) ||| b = 2 ^ h - 1 := by decide +kernel
theorem pop_1 : ∀ f, f < 5 → pop (2 ^ f) = 1 := by decide +kernel
theorem rch_grow {T : Ter} {f n : Nat} (hT : WT T) (hf : f < tH T) : rch T f (n + 1) = rch T f n ∨ n + 1 ≤ pop (rch T f n) := by
  have hH := hT.1
  have h32 : 2 ^ tH T ≤ 32 := Nat.pow_le_pow_right (n := 2) (by decide) hH
  induction n with
  | zero => exact Or.inr (by rw [show rch T f 0 = 2 ^ f from rfl, pop_1 f (by omega)]; exact Nat.le_refl _)
  | succ n ih =>
    rcases ih with q | q
    · left
      show rch T f (n + 1) ||| nbs T (rch T f (n + 1)) (tH T) = _
      rw [q]
      exact q
    · by_cases z : rch T f (n + 1) = rch T f n
      · left
        show rch T f (n + 1) ||| nbs T (rch T f (n + 1)) (tH T) = _
        rw [z]
        exact z
      · right
        have h1 := rch_lt (n := n) hT hf
        have h2 := nbs_lt (X := rch T f n) (n := tH T) hT (Nat.le_refl _)
        have := pop_up _ (by omega) _ (by omega) (show rch T f n ||| nbs T (rch T f n) (tH T) ≠ rch T f n from z)
        have e : rch T f (n + 1) = rch T f n ||| nbs T (rch T f n) (tH T) := rfl
        rw [e]
        omega
theorem rch_stop {T : Ter} {f n : Nat} (hT : WT T) (hf : f < tH T) (hn : tH T ≤ n + 1) : rch T f n = rch T f (tH T - 1) := by
  have hH := hT.1
  have h32 : 2 ^ tH T ≤ 32 := Nat.pow_le_pow_right (n := 2) (by decide) hH
  have e : rch T f (tH T - 1 + 1) = rch T f (tH T - 1) := by
    rcases rch_grow (n := tH T - 1) hT hf with q | q
    · exact q
    · have h1 := rch_lt (n := tH T - 1) hT hf
      have h2 := nbs_lt (X := rch T f (tH T - 1)) (n := tH T) hT (Nat.le_refl _)
      have := pop_full (tH T) (by omega) _ (by omega) h1 (by omega)
      show rch T f (tH T - 1) ||| nbs T (rch T f (tH T - 1)) (tH T) = _
      rw [this] at h2 ⊢
      exact pop_or_full (tH T) (by omega) _ (by omega) h2
  have : ∀ k, rch T f (tH T - 1 + k) = rch T f (tH T - 1) := by
    intro k
    induction k with
    | zero => rfl
    | succ k ih =>
      show rch T f (tH T - 1 + k) ||| nbs T (rch T f (tH T - 1 + k)) (tH T) = _
      rw [ih]
      exact e
  have h := this (n - (tH T - 1))
  rw [show tH T - 1 + (n - (tH T - 1)) = n by omega] at h
  exact h
section RN
variable {T : Ter} {S : Sta} {N : Nat} {catB wanB len br : Int32} {cold hf ct bu be kd gf fo code coal inside : Nat → Int32}
variable {tr hf' ct' bu' wl kd' gf' wr cd lf lt cds s : Nat → Int32}
theorem p_note {th : Int32} (v1 v2 : Int32) (hT : WT T) (hC : CT T (nI (tN T)) (nI (tH T)) (nI (tG T)) (nI (tS T)) catB wanB len cold hf ct bu be kd gf fo code) (hM : MT T tr hf' ct' bu' wl kd' gf' wr cd lf lt cds) :
    ∃ a, fX8_note (nI (tH T)) be v1 v2 = some a ∧ ok (fX9_note tr wl th v1 v2) (fun r => r.1 = a) := by
  have hH := hT.1
  have h32 : 2 ^ tH T ≤ 32 := Nat.pow_le_pow_right (n := 2) (by decide) hH
  unfold fX8_note fX9_note
  simp (disch := omega) only [nlit, nI_add, pk_mul, nC, nB, nT_le, nF_le, nT_lt, nF_lt, nF_eq, nT_eq, nM1_ne, nM1_lt, b2_0, b2_1, b2_nar, nar_0, nar_1, cond_true, if_true, if_false, ob_some, c_hasH hH, m_isHole hM.1 hH]
  cases q : vld v1 (tH T)
  · exact ⟨-nI 1, rfl, ok_some rfl⟩
  obtain ⟨f, hf, rfl⟩ := isIn hH q
  cases q2 : vld v2 (tH T)
  · exact ⟨-nI 1, rfl, ok_some rfl⟩
  obtain ⟨t, ht, rfl⟩ := isIn hH q2
  simp (disch := omega) only [reduceCtorEq, if_false, q_one]
  -- the answer
  have ans : ∃ a : Int32, (∃ n, n < tH T ∧ (rch T f n).testBit t = true ∧ (∀ m, m < n → (rch T f m).testBit t = false) ∧ a = nI n) ∨ ((∀ m, (rch T f m).testBit t = false) ∧ a = -nI 1) := by
    by_cases z : ∃ n, n < tH T ∧ (rch T f n).testBit t = true
    · obtain ⟨n, ⟨n1, n2⟩, n3⟩ := pk_least (fun n => n < tH T ∧ (rch T f n).testBit t = true) z
      refine ⟨nI n, Or.inl ⟨n, n1, n2, fun m hm => ?_, rfl⟩⟩
      cases y : (rch T f m).testBit t
      · rfl
      · exact absurd ⟨by omega, y⟩ (n3 m hm)
    · refine ⟨-nI 1, Or.inr ⟨fun m => ?_, rfl⟩⟩
      cases y : (rch T f m).testBit t
      · rfl
      · rcases Nat.lt_or_ge m (tH T) with x | x
        · exact absurd ⟨m, x, y⟩ z
        · rw [rch_stop hT hf (by omega)] at y
          exact absurd ⟨tH T - 1, by omega, y⟩ z
  obtain ⟨a, ha⟩ := ans
  refine ⟨a, ?_, ?_⟩
  · refine ok_eq.mp (ok_for2 (tH T) (fun i v2 v3 => v2 = nI t ∧ v3 = nI (rch T f i) ∧ ∀ m, m < i → (rch T f m).testBit t = false) ?_ ?_ FU 0 (nI t) (nI (2 ^ f)) (Nat.zero_le _) ⟨rfl, rfl, fun m hm => by omega⟩ (by unfold FU; omega))
    · rintro k _ _ i hlt ⟨rfl, rfl, hm⟩ hk
      unfold fX8_note_31
      have h1 := rch_lt (n := i) hT hf
      have h2 := nbs_lt (X := rch T f i) (n := tH T) hT (Nat.le_refl _)
      have eb : fX6_besideBits (nI (tH T)) be (nI (rch T f i)) = some (nI (nbs T (rch T f i) (tH T))) := by
        unfold fX6_besideBits
        refine ok_eq.mp (ok_for2 (tH T) (fun j u1 u2 => u1 = nI (rch T f i) ∧ u2 = nI (nbs T (rch T f i) j)) ?_ ?_ FU 0 (nI (rch T f i)) 0 (Nat.zero_le _) ⟨rfl, rfl⟩ (by unfold FU; omega))
        · rintro k2 _ _ j hj ⟨rfl, rfl⟩ hk2
          unfold fX6_besideBits_4
          have h3 := nbs_lt (X := rch T f i) (n := j) hT (by omega)
          have h4 := (hT.2.2.2.2.2.1 j hj).2.2.2
          simp (disch := omega) only [nlit, nI_add, pk_mul, nC, nB, nT_le, nF_le, nT_lt, nF_lt, nF_eq, nT_eq, nM1_ne, nM1_lt, b2_0, b2_1, b2_nar, nar_0, nar_1, cond_true, if_true, if_false, ob_some, q_bit, hC.2.2.2.2.2.2.2.2.2.2.1 j hj, q_or, Nat.or_zero]
          cases y : (rch T f i).testBit j
          · simp only [if_true]
            exact hk2 _ _ ⟨rfl, by simp only [nbs, y, cond_false, Nat.or_zero]⟩
          · simp only [reduceCtorEq, if_false]
            exact hk2 _ _ ⟨rfl, by simp only [nbs, y, cond_true]⟩
        · rintro k2 _ _ ⟨rfl, rfl⟩
          unfold fX6_besideBits_4
          simp (disch := omega) only [nlit, nI_add, pk_mul, nC, nB, nT_le, nF_le, nT_lt, nF_lt, nF_eq, nT_eq, nM1_ne, nM1_lt, b2_0, b2_1, b2_nar, nar_0, nar_1, cond_true, if_true, if_false, ob_some]
          exact ok_some rfl
      simp (disch := omega) only [nlit, nI_add, pk_mul, nC, nB, nT_le, nF_le, nT_lt, nF_lt, nF_eq, nT_eq, nM1_ne, nM1_lt, b2_0, b2_1, b2_nar, nar_0, nar_1, cond_true, if_true, if_false, ob_some, q_bit, eb]
      cases y : (rch T f i).testBit t
      · simp (disch := omega) only [if_true, q_or]
        exact hk _ _ ⟨rfl, rfl, fun m hm2 => by
          rcases Nat.lt_succ_iff_lt_or_eq.mp hm2 with x | rfl
          · exact hm m x
          · exact y⟩
      · simp only [reduceCtorEq, if_false]
        refine ok_some ?_
        rcases ha with ⟨n, n1, n2, n3, rfl⟩ | ⟨n1, rfl⟩
        · rcases Nat.lt_trichotomy i n with x | x | x
          · rw [n3 i x] at y; cases y
          · rw [x]
          · rw [hm n x] at n2; cases n2
        · rw [n1 i] at y; cases y
    · rintro k _ _ ⟨rfl, rfl, hm⟩
      unfold fX8_note_31
      simp (disch := omega) only [nlit, nI_add, pk_mul, nC, nB, nT_le, nF_le, nT_lt, nF_lt, nF_eq, nT_eq, nM1_ne, nM1_lt, b2_0, b2_1, b2_nar, nar_0, nar_1, cond_true, if_true, if_false, ob_some]
      refine ok_some ?_
      rcases ha with ⟨n, n1, n2, n3, rfl⟩ | ⟨n1, rfl⟩
      · rw [hm n n1] at n2; cases n2
      · rfl
  · refine ok_for3 5 (fun i _ v2 v3 => v2 = nI t ∧ v3 = nI (rch T f i) ∧ ∀ m, m < i → (rch T f m).testBit t = false) ?_ ?_ FU 0 _ (nI t) (nI (2 ^ f)) (Nat.zero_le _) ⟨rfl, rfl, fun m hm => by omega⟩ (by unfold FU; omega)
    · rintro k a1 _ _ i hlt ⟨rfl, rfl, hm⟩ hk
      unfold fX9_note_30
      have h1 := rch_lt (n := i) hT hf
      simp (disch := omega) only [nlit, nI_add, pk_mul, nC, nB, nT_le, nF_le, nT_lt, nF_lt, nF_eq, nT_eq, nM1_ne, nM1_lt, b2_0, b2_1, b2_nar, nar_0, nar_1, cond_true, if_true, if_false, ob_some, q_bit]
      cases y : (rch T f i).testBit t
      · simp only [reduceCtorEq, if_false]
        refine ok_for5 (tH T) (fun j _ u2 u3 u4 u5 => u2 = nI t ∧ u3 = nI (rch T f i) ∧ u4 = nI i ∧ u5 = nI (rch T f i ||| nbs T (rch T f i) j)) ?_ ?_ FU 0 _ (nI t) _ _ _ (Nat.zero_le _) ⟨rfl, rfl, rfl, by simp [nbs]⟩ (by unfold FU; omega)
        · rintro k2 b1 _ _ _ _ j hj ⟨rfl, rfl, rfl, rfl⟩ hk2
          unfold fX9_note_54
          have h3 : rch T f i ||| nbs T (rch T f i) j < 2 ^ tH T := Nat.or_lt_two_pow h1 (nbs_lt (X := rch T f i) (n := j) hT (by omega))
          have h4 := (hT.2.2.2.2.2.1 j hj).2.2.2
          simp (disch := omega) only [nlit, nI_add, pk_mul, nC, nB, nT_le, nF_le, nT_lt, nF_lt, nF_eq, nT_eq, nM1_ne, nM1_lt, b2_0, b2_1, b2_nar, nar_0, nar_1, cond_true, if_true, if_false, ob_some, hM.1, q_bit, hM.2.2.2.2.2.2.2.2.1 j hj, q_or, Nat.or_zero]
          cases y2 : (rch T f i).testBit j
          · simp only [reduceCtorEq, if_false]
            exact hk2 _ _ _ _ _ ⟨rfl, rfl, rfl, by simp only [nbs, y2, cond_false, Nat.or_zero]⟩
          · simp only [if_true]
            exact hk2 _ _ _ _ _ ⟨rfl, rfl, rfl, by simp only [nbs, y2, cond_true, Nat.or_assoc]⟩
        · rintro k2 b1 _ _ _ _ ⟨rfl, rfl, rfl, rfl⟩
          unfold fX9_note_54
          simp (disch := omega) only [nlit, nI_add, pk_mul, nC, nB, nT_le, nF_le, nT_lt, nF_lt, nF_eq, nT_eq, nM1_ne, nM1_lt, b2_0, b2_1, b2_nar, nar_0, nar_1, cond_true, if_true, if_false, ob_some, hM.1]
          exact hk _ _ _ ⟨rfl, rfl, fun m hm2 => by
            rcases Nat.lt_succ_iff_lt_or_eq.mp hm2 with x | rfl
            · exact hm m x
            · exact y⟩
      · simp only [if_true]
        refine ok_some ?_
        rcases ha with ⟨n, n1, n2, n3, rfl⟩ | ⟨n1, rfl⟩
        · rcases Nat.lt_trichotomy i n with x | x | x
          · rw [n3 i x] at y; cases y
          · rw [x]
          · rw [hm n x] at n2; cases n2
        · rw [n1 i] at y; cases y
    · rintro k a1 _ _ ⟨rfl, rfl, hm⟩
      unfold fX9_note_30
      simp (disch := omega) only [nlit, nI_add, pk_mul, nC, nB, nT_le, nF_le, nT_lt, nF_lt, nF_eq, nT_eq, nM1_ne, nM1_lt, b2_0, b2_1, b2_nar, nar_0, nar_1, cond_true, if_true, if_false, ob_some]
      refine ok_some ?_
      rcases ha with ⟨n, n1, n2, n3, rfl⟩ | ⟨n1, rfl⟩
      · rw [hm n (by omega)] at n2; cases n2
      · rfl
/-! pairs -/
def prs (q : Nat → Nat → Bool) : Nat → Nat
  | 0 => 0
  | n + 1 => prs q n + cnt (q n) n
theorem cnt_le {q : Nat → Bool} {n : Nat} : cnt q n ≤ n := by
  induction n with
  | zero => exact Nat.le_refl _
  | succ n ih => have := b2_lt (q n); simp only [cnt]; omega
theorem prs_le {q : Nat → Nat → Bool} {n : Nat} : prs q n ≤ n * n := by
  induction n with
  | zero => exact Nat.le_refl _
  | succ n ih =>
    have := cnt_le (q := q n) (n := n)
    have e : (n + 1) * (n + 1) = n * n + n + n + 1 := by rw [Nat.succ_mul, Nat.mul_succ]; omega
    simp only [prs]
    omega
theorem cnt_ext {p q : Nat → Bool} {n : Nat} (h : ∀ k, k < n → p k = q k) : cnt p n = cnt q n := by
  induction n with
  | zero => rfl
  | succ n ih => simp only [cnt]; rw [ih (fun k hk => h k (by omega)), h n (by omega)]
theorem cnt_sum {q : Nat → Nat → Bool} (hs : ∀ a b, a < 5 → b < 5 → q a b = q b a) (hi : ∀ a, a < 5 → q a a = false) {n : Nat} (hn : n ≤ 5) : sm (fun w => cnt (q w) n) n = 2 * prs q n := by
  have aux : ∀ m k, m ≤ k → k < 5 → sm (fun w => cnt (q w) (k + 1)) m = sm (fun w => cnt (q w) k) m + cnt (q k) m := by
    intro m
    induction m with
    | zero => intro k _ _; rfl
    | succ m ih =>
      intro k h1 h2
      simp only [sm]
      rw [ih k (by omega) h2]
      simp only [cnt]
      rw [hs k m (by omega) (by omega)]
      omega
  induction n with
  | zero => rfl
  | succ n ih =>
    simp only [sm, prs]
    rw [aux n n (Nat.le_refl _) (by omega), ih (by omega)]
    simp only [cnt, hi n (by omega), b2_f]
    omega
theorem p_pairs {th : Int32} (hT : WT T) (hC : CT T (nI (tN T)) (nI (tH T)) (nI (tG T)) (nI (tS T)) catB wanB len cold hf ct bu be kd gf fo code) (hM : MT T tr hf' ct' bu' wl kd' gf' wr cd lf lt cds) :
    fX8_pairs (nI (tG T)) fo = some (nI (prs (twr T) (tG T))) ∧ ok (fX9_pairs tr gf' wr th) (fun r => r.1 = nI (prs (twr T) (tG T))) := by
  have hG := hT.2.1
  constructor
  · unfold fX8_pairs
    have sl : ∀ i, sm (fun w => cnt (twr T w) (tG T)) i ≤ i * 5 := by
      intro i
      induction i with
      | zero => exact Nat.le_refl _
      | succ i ih => have := cnt_le (q := twr T i) (n := tG T); simp only [sm]; omega
    refine ok_eq.mp (ok_for1 (tG T) (fun i v => v = nI (sm (fun w => cnt (twr T w) (tG T)) i)) ?_ ?_ FU 0 0 (Nat.zero_le _) rfl (by unfold FU; omega))
    · rintro k _ i hlt rfl hk
      unfold fX8_pairs_4
      have h5 := bs_le (p := fun o => twr T i o) hG
      simp (disch := omega) only [nlit, nI_add, pk_mul, nC, nB, nT_le, nF_le, nT_lt, nF_lt, nF_eq, nT_eq, nM1_ne, nM1_lt, b2_0, b2_1, b2_nar, nar_0, nar_1, cond_true, if_true, if_false, ob_some, hC.2.2.2.2.2.2.2.2.2.2.2.2.2.1 i hlt, pJ6_bits]
      refine hk _ ?_
      rw [pop_bs (by omega)]
      rfl
    · rintro k _ rfl
      unfold fX8_pairs_4
      have h1 := sl (tG T)
      simp (disch := omega) only [nlit, nI_add, pk_mul, nC, nB, nT_le, nF_le, nT_lt, nF_lt, nF_eq, nT_eq, nM1_ne, nM1_lt, b2_0, b2_1, b2_nar, nar_0, nar_1, cond_true, if_true, if_false, ob_some, pk_div]
      refine ok_some ?_
      have hg9 : ∀ a, a < tG T → tgf T a < 10 := fun a ha => by have := (hT.2.2.2.2.2.2.1 a ha).2; omega
      have q : ∀ a b : Nat, Bool := fun a b => decide (a < tG T ∧ b < tG T) && twr T a b
      have e := cnt_sum (q := fun a b => decide (a < tG T ∧ b < tG T) && twr T a b) (fun a b _ _ => by
        by_cases z : a < tG T ∧ b < tG T
        · have y : b < tG T ∧ a < tG T := ⟨z.2, z.1⟩
          rw [decide_eq_true z, decide_eq_true y]
          exact congrArg _ (hT.2.2.2.2.2.2.2.2.1 _ _ (hg9 a z.1) (hg9 b z.2))
        · have y : ¬ (b < tG T ∧ a < tG T) := fun x => z ⟨x.2, x.1⟩
          rw [decide_eq_false z, decide_eq_false y]; rfl) (fun a _ => by
        by_cases z : a < tG T
        · rw [decide_eq_true (show a < tG T ∧ a < tG T from ⟨z, z⟩)]
          exact hT.2.2.2.2.2.2.2.2.2.1 _ (hg9 a z)
        · rw [decide_eq_false (fun x => z x.1)]; rfl) hG
      have e1 : ∀ i, i ≤ tG T → sm (fun w => cnt (fun b => decide (w < tG T ∧ b < tG T) && twr T w b) (tG T)) i = sm (fun w => cnt (twr T w) (tG T)) i := by
        intro i
        induction i with
        | zero => intro _; rfl
        | succ i ih =>
          intro hi
          simp only [sm]
          rw [ih (by omega), cnt_ext (q := twr T i) (fun b hb => by rw [decide_eq_true (show i < tG T ∧ b < tG T from ⟨by omega, hb⟩)]; rfl)]
      have e2 : ∀ i, i ≤ tG T → prs (fun a b => decide (a < tG T ∧ b < tG T) && twr T a b) i = prs (twr T) i := by
        intro i
        induction i with
        | zero => intro _; rfl
        | succ i ih =>
          intro hi
          simp only [prs]
          rw [ih (by omega), cnt_ext (q := twr T i) (fun b hb => by rw [decide_eq_true (show i < tG T ∧ b < tG T from ⟨by omega, by omega⟩)]; rfl)]
      rw [e1 _ (Nat.le_refl _), e2 _ (Nat.le_refl _)] at e
      rw [e]
      congr 1
      omega
  · unfold fX9_pairs
    have pl : ∀ i, i ≤ 5 → prs (twr T) i ≤ 25 := fun i hi => Nat.le_trans prs_le (Nat.mul_le_mul hi hi)
    refine ok_for2 (tG T) (fun i _ v => v = nI (prs (twr T) i)) ?_ ?_ FU 0 _ 0 (Nat.zero_le _) rfl (by unfold FU; omega)
    · rintro k a1 _ i hlt rfl hk
      unfold fX9_pairs_9
      simp (disch := omega) only [nlit, nI_add, pk_mul, nC, nB, nT_le, nF_le, nT_lt, nF_lt, nF_eq, nT_eq, nM1_ne, nM1_lt, b2_0, b2_1, b2_nar, nar_0, nar_1, cond_true, if_true, if_false, ob_some, hM.2.1]
      refine ok_for3 i (fun j _ v1 v2 => v1 = nI (prs (twr T) i + cnt (twr T i) j) ∧ v2 = nI i) ?_ ?_ FU 0 _ _ _ (Nat.zero_le _) ⟨rfl, rfl⟩ (by unfold FU; omega)
      · rintro k2 b1 _ _ j hj ⟨rfl, rfl⟩ hk2
        unfold fX9_pairs_21
        simp (disch := omega) only [nlit, nI_add, pk_mul, nC, nB, nT_le, nF_le, nT_lt, nF_lt, nF_eq, nT_eq, nM1_ne, nM1_lt, b2_0, b2_1, b2_nar, nar_0, nar_1, cond_true, if_true, if_false, ob_some, m_war hT hM (show i < tG T from hlt) (show j < tG T by omega)]
        cases y : twr T i j
        · simp only [if_true]
          exact hk2 _ _ _ ⟨by simp only [cnt, y, b2_f, Nat.add_zero], rfl⟩
        · simp only [reduceCtorEq, if_false]
          exact hk2 _ _ _ ⟨by simp only [cnt, y, b2_t, Nat.add_assoc], rfl⟩
      · rintro k2 b1 _ _ ⟨rfl, rfl⟩
        unfold fX9_pairs_21
        simp (disch := omega) only [nlit, nI_add, pk_mul, nC, nB, nT_le, nF_le, nT_lt, nF_lt, nF_eq, nT_eq, nM1_ne, nM1_lt, b2_0, b2_1, b2_nar, nar_0, nar_1, cond_true, if_true, if_false, ob_some]
        exact hk _ _ rfl
    · rintro k a1 _ rfl
      unfold fX9_pairs_9
      simp (disch := omega) only [nlit, nI_add, pk_mul, nC, nB, nT_le, nF_le, nT_lt, nF_lt, nF_eq, nT_eq, nM1_ne, nM1_lt, b2_0, b2_1, b2_nar, nar_0, nar_1, cond_true, if_true, if_false, ob_some, hM.2.1]
      exact ok_some rfl
end RN
