/-! the class's State: who is where (at_ w: 0 the street, h + 1 the hole h) -/
def Ins (at_ : Nat → Nat) (G : Nat) (inside : Nat → Int32) : Prop := ∀ i, i < 5 → inside i = nI (bs (fun w => at_ w == i + 1) G)
def Arr (n b : Nat) (f : Nat → Nat) (a : Nat → Int32) : Prop := ∀ i, i < n → a i = nI (f i) ∧ f i ≤ b
def plI (a : Nat) : Int32 := if a = 0 then -1 else nI (a - 1)
theorem c_street {H G sz : Nat} {at_ : Nat → Nat} {inside : Nat → Int32} (hH : H ≤ 5) (hG : G ≤ 5) (hs : sz < 32) (ha : ∀ w, w < G → at_ w ≤ H) (hi : Ins at_ G inside) : fX4_streetBits (nI sz) (nI H) (nI G) inside = some (nI (bs (fun w => at_ w == 0 && !sz.testBit w) G)) := by
  unfold fX4_streetBits
  refine ok_eq.mp (ok_for1 H (fun i v => v = nI (bs (fun w => decide (1 ≤ at_ w ∧ at_ w ≤ i)) G)) ?_ ?_ FU 0 0 (Nat.zero_le _) ?_ (by unfold FU; omega))
  · rintro k _ i hlt rfl hk
    unfold fX4_streetBits_4
    have h1 := bs_le (p := fun w => decide (1 ≤ at_ w ∧ at_ w ≤ i)) hG
    have h2 := bs_le (p := fun w => at_ w == i + 1) hG
    simp (disch := omega) only [nlit, nI_add, pk_mul, nC, nB, nT_le, nF_le, nT_lt, nF_lt, nF_eq, nT_eq, nM1_ne, nM1_lt, b2_0, b2_1, b2_nar, nar_0, nar_1, cond_true, if_true, if_false, ob_some, hi i (by omega), q_or]
    refine hk _ ?_
    rw [bs_or]
    congr 1
    apply bs_ext
    intro w hw
    rw [Bool.eq_iff_iff]
    simp
    omega
  · rintro k _ rfl
    unfold fX4_streetBits_4
    have h1 := bs_le (p := fun w => decide (1 ≤ at_ w ∧ at_ w ≤ H)) hG
    simp (disch := omega) only [nlit, nI_add, pk_mul, nC, nB, nT_le, nF_le, nT_lt, nF_lt, nF_eq, nT_eq, nM1_ne, nM1_lt, b2_0, b2_1, b2_nar, nar_0, nar_1, cond_true, if_true, if_false, ob_some, q_st]
    refine ok_some ?_
    congr 1
    apply bs_ext
    intro w hw
    have := ha w hw
    rw [bs_bit, Bool.eq_iff_iff]
    simp
    omega
  · rw [bs_0.mpr (fun w _ => by simp; omega)]; rfl
theorem c_place {G w : Nat} {at_ : Nat → Nat} {inside : Nat → Int32} (hG : G ≤ 5) (ha : at_ w ≤ 5) (hw : w < G) (hi : Ins at_ G inside) : fX4_placeOf inside (nI w) = some (plI (at_ w)) := by
  unfold fX4_placeOf
  refine ok_eq.mp (ok_for1 5 (fun i v => v = nI w ∧ ∀ j, j < i → at_ w ≠ j + 1) ?_ ?_ FU 0 (nI w) (Nat.zero_le _) ⟨rfl, fun j h => by omega⟩ (by unfold FU; omega))
  · rintro k _ i hlt ⟨rfl, hn⟩ hk
    unfold fX4_placeOf_2
    have h2 := bs_le (p := fun w => at_ w == i + 1) hG
    simp (disch := omega) only [nlit, nI_add, pk_mul, nC, nB, nT_le, nF_le, nT_lt, nF_lt, nF_eq, nT_eq, nM1_ne, nM1_lt, b2_0, b2_1, b2_nar, nar_0, nar_1, cond_true, if_true, if_false, ob_some, hi i hlt, q_bit, bs_bit]
    by_cases h : at_ w = i + 1
    · simp [h, hw, plI]
      exact ok_some rfl
    · have h3 : (at_ w == i + 1) = false := by simpa using h
      simp only [h3, Bool.and_false, if_true]
      exact hk _ ⟨rfl, fun j hj => by
        rcases Nat.lt_succ_iff_lt_or_eq.mp hj with q | rfl
        · exact hn j q
        · exact h⟩
  · rintro k _ ⟨rfl, hn⟩
    unfold fX4_placeOf_2
    simp (disch := omega) only [nlit, nI_add, pk_mul, nC, nB, nT_le, nF_le, nT_lt, nF_lt, nF_eq, nT_eq, nM1_ne, nM1_lt, b2_0, b2_1, b2_nar, nar_0, nar_1, cond_true, if_true, if_false, ob_some]
    have h0 : at_ w = 0 := by
      rcases Nat.eq_zero_or_pos (at_ w) with h | h
      · exact h
      · exact absurd (show at_ w = (at_ w - 1) + 1 by omega) (hn _ (by omega))
    exact ok_some (by rw [h0]; rfl)
def sm (f : Nat → Nat) : Nat → Nat
  | 0 => 0
  | n + 1 => sm f n + f n
theorem c_allCoal {H : Nat} {cl : Nat → Nat} {coal : Nat → Int32} (hH : H ≤ 5) (hc : Arr H 99 cl coal) : fX4_allCoal (nI H) coal = some (nI (sm cl H)) := by
  unfold fX4_allCoal
  refine for_eq1 (N := FU) H (fun i => nI (sm cl i)) _ ?_ ?_ (by unfold FU; omega)
  · intro k i hlt
    unfold fX4_allCoal_4
    simp (disch := omega) only [nlit, nI_add, pk_mul, nC, nB, nT_le, nF_le, nT_lt, nF_lt, nF_eq, nT_eq, nM1_ne, nM1_lt, b2_0, b2_1, b2_nar, nar_0, nar_1, cond_true, if_true, if_false, ob_some, (hc i hlt).1, sm]
  · intro k
    unfold fX4_allCoal_4
    simp (disch := omega) only [nlit, nI_add, pk_mul, nC, nB, nT_le, nF_le, nT_lt, nF_lt, nF_eq, nT_eq, nM1_ne, nM1_lt, b2_0, b2_1, b2_nar, nar_0, nar_1, cond_true, if_true, if_false, ob_some]
def vld (v : Int32) (n : Nat) : Bool := decide (0 ≤ v ∧ v < nI n)
theorem c_hasG {G : Nat} (hG : G ≤ 5) (v : Int32) : fX6_hasGuest (nI G) v = some (nI (b2 (vld v G))) := by
  unfold fX6_hasGuest vld
  by_cases h1 : v < 0
  · rw [if_pos h1, decide_eq_false (fun q => absurd h1 (Int32.not_lt.mpr q.1))]; rfl
  · rw [if_neg h1]
    by_cases h2 : nI G ≤ v
    · rw [if_pos h2, decide_eq_false (fun q => absurd q.2 (Int32.not_lt.mpr h2))]; rfl
    · rw [if_neg h2, decide_eq_true ⟨Int32.not_lt.mp h1, Int32.not_le.mp h2⟩]; rfl
theorem c_hasH {G : Nat} (hG : G ≤ 5) (v : Int32) : fX6_hasHole (nI G) v = some (nI (b2 (vld v G))) := c_hasG hG v
theorem isIn {G : Nat} (hG : G ≤ 5) {v : Int32} (h : vld v G = true) : ∃ w, w < G ∧ v = nI w := by
  have h := of_decide_eq_true h
  obtain ⟨j, hj, rfl⟩ := nI_of (Int32.not_lt.mpr h.1)
  exact ⟨j, (nI_ltI (by omega) (by omega)).mp h.2, rfl⟩
theorem inIs {G w : Nat} (hG : G ≤ 5) (h : w < G) : vld (nI w) G = true := decide_eq_true ⟨nI_pos' (by omega), nI_lt h (by omega)⟩
theorem c_move {G w : Nat} {at_ : Nat → Nat} {inside : Nat → Int32} {h : Nat} {v2 : Int32} (hG : G ≤ 5) (hw : w < G) (hi : Ins at_ G inside) (hv : v2 = plI h) (hh : h ≤ 5) : ok (fX4_move inside (nI w) v2) (fun r => Ins (fun u => if u = w then h else at_ u) G r) := by
  subst hv
  unfold fX4_move
  refine ok_for3 5 (fun i a v1 v2 => v1 = nI w ∧ v2 = plI h ∧ (∀ j, j < i → a j = nI (bs (fun u => (if u = w then h else at_ u) == j + 1) G)) ∧ (∀ j, i ≤ j → j < 5 → a j = nI (bs (fun u => at_ u == j + 1) G))) ?_ ?_ FU 0 inside (nI w) (plI h) (Nat.zero_le _) ⟨rfl, rfl, fun j hj => by omega, fun j _ hj => hi j hj⟩ (by unfold FU; omega)
  · rintro k a _ _ i hlt ⟨rfl, rfl, ha, hb⟩ hk
    unfold fX4_move_2 fX4_move_40
    have h2 := bs_le (p := fun u => at_ u == i + 1) hG
    have e1 : (nI i = plI h) = (h = i + 1) := by
      unfold plI
      by_cases h0 : h = 0
      · rw [if_pos h0, nlit, nM1_ne (by omega)]
        exact propext ⟨fun q => q.elim, fun q => by omega⟩
      · rw [if_neg h0, n_eq (by omega) (by omega)]
        exact propext ⟨fun q => by omega, fun q => by omega⟩
    have e2 : ∀ n, n < 32 → ∀ k, k < 5 → nI n &&& (nI (2 ^ k) ^^^ (-nI 1)) = nI (bs (fun u => n.testBit u && !(u == k)) 5) := by decide +kernel
    have h3 := bs_le (p := fun u => (bs (fun u => at_ u == i + 1) G).testBit u && !(u == w)) (n := 5) (by omega)
    have h4 : 2 ^ w < 64 := q_pow (by omega)
    simp (disch := omega) only [nlit, nI_add, pk_mul, nC, nB, nT_le, nF_le, nT_lt, nF_lt, nF_eq, nT_eq, nM1_ne, nM1_lt, b2_0, b2_1, b2_nar, nar_0, nar_1, cond_true, if_true, if_false, ob_some, e1, q_one, hb i (Nat.le_refl _) hlt, e2, q_or, pk_us]
    have key : ∀ x : Nat, (x = if h = i + 1 then 2 ^ w else 0) → bs (fun u => (bs (fun u => at_ u == i + 1) G).testBit u && !(u == w)) 5 ||| x = bs (fun u => (if u = w then h else at_ u) == i + 1) G := by
      rintro x rfl
      apply Nat.eq_of_testBit_eq
      intro u
      rw [Nat.testBit_or, bs_bit, bs_bit, bs_bit, Bool.eq_iff_iff]
      by_cases hu : u = w
      · subst hu
        by_cases hx : h = i + 1
        · simp [hx, hw, Nat.testBit_two_pow_self]
        · simp [hx]
      · have : (if h = i + 1 then 2 ^ w else 0).testBit u = false := by
          split
          · rw [Nat.testBit_two_pow]; simpa using fun q => hu q.symm
          · simp
        rw [this]
        simp [hu]
        omega
    have fin : ∀ x : Nat, (x = if h = i + 1 then 2 ^ w else 0) → ok (k (upd (upd a i (nI (bs (fun u => (bs (fun u => at_ u == i + 1) G).testBit u && !(u == w)) 5))) i (nI (bs (fun u => (bs (fun u => at_ u == i + 1) G).testBit u && !(u == w)) 5 ||| x))) (nI w) (plI h) (nI (i + 1))) (fun r => Ins (fun u => if u = w then h else at_ u) G r) := by
      intro x hx
      refine hk _ _ _ ⟨rfl, rfl, fun j hj => ?_, fun j h1 h2 => ?_⟩
      · by_cases hji : j = i
        · subst hji
          rw [pk_us, key x hx]
        · rw [pk_un hji, pk_un hji]; exact ha j (by omega)
      · rw [pk_un (by omega), pk_un (by omega)]; exact hb j (by omega) h2
    by_cases hx : h = i + 1
    · rw [if_pos hx]; exact fin _ (by rw [if_pos hx])
    · rw [if_neg hx]; exact fin _ (by rw [if_neg hx])
  · rintro k a _ _ ⟨rfl, rfl, ha, hb⟩
    unfold fX4_move_2
    simp (disch := omega) only [nlit, nI_add, pk_mul, nC, nB, nT_le, nF_le, nT_lt, nF_lt, nF_eq, nT_eq, nM1_ne, nM1_lt, b2_0, b2_1, b2_nar, nar_0, nar_1, cond_true, if_true, if_false, ob_some]
    exact ok_some (fun j hj => ha j hj)
