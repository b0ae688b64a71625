/-! what is heard -/
abbrev Hrd : Type := Nat × (Nat → Nat) × (Nat → Bool)
def WH (X : Hrd) : Prop := X.1 ≤ 8 ∧ ∀ i, i < X.1 → 1 ≤ X.2.1 i ∧ X.2.1 i ≤ 30
def CH (X : Hrd) (size : Int32) (days some_ : Nat → Int32) : Prop := size = nI X.1 ∧ (∀ i, i < X.1 → days i = nI (X.2.1 i)) ∧ (∀ i, i < X.1 → some_ i = nI (b2 (X.2.2 i)))
def MH (X : Hrd) (k : Nat) (hs days some_ : Nat → Int32) : Prop := hs k = nI X.1 ∧ (∀ i, i < X.1 → days (8 * k + i) = nI (X.2.1 i)) ∧ (∀ i, i < X.1 → some_ (8 * k + i) = nI (b2 (X.2.2 i)))
def loH (T : Ter) (d : Nat) (X : Hrd) : Nat → Nat
  | 0 => 0
  | i + 1 => if X.2.2 i = true then max (loH T d X i) (2 * csT T d (X.2.1 i) + 1) else loH T d X i
def hiH (T : Ter) (d : Nat) (X : Hrd) : Nat → Nat
  | 0 => 60
  | i + 1 => if X.2.2 i = true then hiH T d X i else min (hiH T d X i) (2 * csT T d (X.2.1 i))
theorem loH_le {T : Ter} {d : Nat} {X : Hrd} (hT : WT T) (hX : WH X) {i : Nat} (hi : i ≤ X.1) : loH T d X i ≤ 181 := by
  induction i with
  | zero => exact Nat.zero_le _
  | succ i ih =>
    have h1 := ih (by omega)
    have h2 := (hX.2 i (by omega)).2
    have h3 := csT_le (d := d) (n := X.2.1 i) hT
    simp only [loH]
    split <;> omega
theorem hiH_le {T : Ter} {d : Nat} {X : Hrd} {i : Nat} : hiH T d X i ≤ 60 := by
  induction i with
  | zero => exact Nat.le_refl _
  | succ i ih => simp only [hiH]; split <;> omega
theorem nmany {a b : Nat} (ha : a < 100000) (hb : b < 100000) : imax ((nI a - nI b) + nI 1) (nI 0) = nI (a + 1 - b) := by
  rcases Nat.lt_or_ge a b with h | h
  · have e : nI a - nI b + nI 1 = nI (a + 1) - nI b := by
      rw [show nI (a + 1) = nI a + 1 from (nI_1 a).symm]
      show nI a - nI b + 1 = nI a + 1 - nI b
      rw [Int32.sub_eq_add_neg, Int32.sub_eq_add_neg, Int32.add_assoc, Int32.add_assoc, Int32.add_comm (-nI b)]
    rw [e, nmax0 (by omega) (by omega)]
  · rw [nsub h, nI_add, nmax (by omega) (by omega)]
    congr 1
    omega
section HR
variable {T : Ter} {S : Sta} {N : Nat} {X : Hrd} {cold tr cd s size_ : Nat → Int32}
theorem c_narrow {size l g : Int32} {days some_ : Nat → Int32} (hT : WT T) (hS : sD S ≤ 2000) (hX : WH X) (hc : ∀ i, i < tN T → cold i = nI (tco T i)) (hH : CH X size days some_) : fX0_narrow size (nI (tN T)) days some_ cold l g (nI (sD S)) = some (nI (loH T (sD S) X X.1), nI (hiH T (sD S) X X.1)) := by
  have h8 := hX.1
  unfold fX0_narrow
  rw [hH.1]
  refine ok_eq.mp (ok_for3 X.1 (fun i a b v => a = nI (loH T (sD S) X i) ∧ b = nI (hiH T (sD S) X i) ∧ v = nI (sD S)) ?_ ?_ FU 0 0 60 (nI (sD S)) (Nat.zero_le _) ⟨rfl, rfl, rfl⟩ (by unfold FU; omega))
  · rintro k _ _ _ i hlt ⟨rfl, rfl, rfl⟩ hk
    unfold fX0_narrow_13
    have h1 := loH_le (d := sD S) hT hX (i := i) (by omega)
    have h2 := hiH_le (T := T) (d := sD S) (X := X) (i := i)
    have h3 := (hX.2 i hlt).2
    have h4 := csT_le (d := sD S) (n := X.2.1 i) hT
    simp (disch := omega) only [nlit, nI_add, pk_mul, nC, nB, nT_le, nF_le, nT_lt, nF_lt, nF_eq, nT_eq, nM1_ne, nM1_lt, b2_0, b2_1, b2_nar, nar_0, nar_1, cond_true, if_true, if_false, ob_some, hH.2.1 i hlt, hH.2.2 i hlt, c_coldOver hT hc, nmin, nmax]
    cases z : X.2.2 i
    · simp only [if_true]
      exact hk _ _ _ ⟨by simp only [loH, z, reduceCtorEq, if_false], by simp only [hiH, z, reduceCtorEq, if_false], rfl⟩
    · simp only [reduceCtorEq, if_false]
      exact hk _ _ _ ⟨by simp only [loH, z, if_true], by simp only [hiH, z, if_true], rfl⟩
  · rintro k _ _ _ ⟨rfl, rfl, rfl⟩
    unfold fX0_narrow_13
    simp (disch := omega) only [nlit, nI_add, pk_mul, nC, nB, nT_le, nF_le, nT_lt, nF_lt, nF_eq, nT_eq, nM1_ne, nM1_lt, b2_0, b2_1, b2_nar, nar_0, nar_1, cond_true, if_true, if_false, ob_some]
    exact ok_some rfl
theorem m_leaves {c n : Nat} (hT : WT T) (hS : sD S ≤ 2000) (ht : tr 3 = nI (tN T)) (hc : ∀ i, i < tN T → cd i = nI (tco T i)) (hs : MS S s) (hc6 : c ≤ 60) (hn : n ≤ 30) : fX9_leavesSome tr cd s (nI c) (nI n) = some (nI (b2 (decide (2 * csT T (sD S) n < c)))) := by
  unfold fX9_leavesSome
  refine ok_eq.mp (ok_for2 n (fun i v2 v3 => v2 = nI n ∧ v3 = nI c - nI (2 * csT T (sD S) i)) ?_ ?_ FU 0 (nI n) (nI c) (Nat.zero_le _) ⟨rfl, by simp [csT, nsub]⟩ (by unfold FU; omega))
  · rintro k _ _ i hlt ⟨rfl, rfl⟩ hk
    unfold fX9_leavesSome_5
    simp (disch := omega) only [nlit, nI_add, pk_mul, nC, nB, nT_le, nF_le, nT_lt, nF_lt, nF_eq, nT_eq, nM1_ne, nM1_lt, b2_0, b2_1, b2_nar, nar_0, nar_1, cond_true, if_true, if_false, ob_some, hs.1, m_coldOf hT ht hc]
    refine hk _ _ ⟨rfl, ?_⟩
    rw [isubsub, nI_add]
    simp only [csT]
    congr 2
    omega
  · rintro k _ _ ⟨rfl, rfl⟩
    unfold fX9_leavesSome_5
    have h4 := csT_le (d := sD S) (n := n) hT
    simp (disch := omega) only [nlit, nI_add, pk_mul, nC, nB, nT_le, nF_le, nT_lt, nF_lt, nF_eq, nT_eq, nM1_ne, nM1_lt, b2_0, b2_1, b2_nar, nar_0, nar_1, cond_true, if_true, if_false, ob_some]
    by_cases z : 2 * csT T (sD S) n < c
    · rw [decide_eq_true z, nsub (by omega)]
      simp (disch := omega) only [nlit, nI_add, pk_mul, nC, nB, nT_le, nF_le, nT_lt, nF_lt, nF_eq, nT_eq, nM1_ne, nM1_lt, b2_0, b2_1, b2_nar, nar_0, nar_1, cond_true, if_true, if_false, ob_some]
      exact ok_some rfl
    · rw [decide_eq_false z]
      have : nI c - nI (2 * csT T (sD S) n) ≤ nI 0 := by
        rw [Int32.le_iff_toInt_le, pk_sub_toInt (by omega) (by omega), nI_toInt (by omega)]
        omega
      exact ok_t this (ok_some rfl)
theorem m_asHeard {c : Nat} {hs days some_ : Nat → Int32} (hT : WT T) (hS : sD S ≤ 2000) (hX : WH X) (ht : tr 3 = nI (tN T)) (hc : ∀ i, i < tN T → cd i = nI (tco T i)) (hm : MS S s) (hH : MH X 0 hs days some_) (hc6 : c ≤ 60) : fX9_isAsHeard tr cd hs days some_ s (nI c) = some (nI (b2 (decide (loH T (sD S) X X.1 ≤ c ∧ c ≤ hiH T (sD S) X X.1)))) := by
  have h8 := hX.1
  have hd : ∀ i, i < X.1 → days i = nI (X.2.1 i) := fun i hi => by simpa using hH.2.1 i hi
  have hso : ∀ i, i < X.1 → some_ i = nI (b2 (X.2.2 i)) := fun i hi => by simpa using hH.2.2 i hi
  have mono : ∀ j i, i ≤ j → loH T (sD S) X i ≤ loH T (sD S) X j ∧ hiH T (sD S) X j ≤ hiH T (sD S) X i := by
    intro j
    induction j with
    | zero => intro i hi; rw [show i = 0 by omega]; exact ⟨Nat.le_refl _, Nat.le_refl _⟩
    | succ j ih =>
      intro i hi
      rcases Nat.lt_or_ge j i with q | q
      · rw [show i = j + 1 by omega]; exact ⟨Nat.le_refl _, Nat.le_refl _⟩
      · have := ih i q
        simp only [loH, hiH]
        split <;> omega
  unfold fX9_isAsHeard
  refine ok_eq.mp (ok_for1 X.1 (fun i v => v = nI c ∧ loH T (sD S) X i ≤ c ∧ c ≤ hiH T (sD S) X i) ?_ ?_ FU 0 (nI c) (Nat.zero_le _) ⟨rfl, Nat.zero_le _, hc6⟩ (by unfold FU; omega))
  · rintro k _ i hlt ⟨rfl, h1, h2⟩ hk
    unfold fX9_isAsHeard_2
    have h3 := (hX.2 i hlt).2
    simp (disch := omega) only [nlit, nI_add, pk_mul, nC, nB, nT_le, nF_le, nT_lt, nF_lt, nF_eq, nT_eq, nM1_ne, nM1_lt, b2_0, b2_1, b2_nar, nar_0, nar_1, cond_true, if_true, if_false, ob_some, hH.1, hd i hlt, hso i hlt, m_leaves hT hS ht hc hm hc6 h3]
    have hmo := mono X.1 (i + 1) (by omega)
    by_cases z : (decide (2 * csT T (sD S) (X.2.1 i) < c)) = X.2.2 i
    · rw [z]
      simp only [if_true]
      refine hk _ ⟨rfl, ?_, ?_⟩
      · simp only [loH]
        split
        · rename_i y; rw [y] at z; have := of_decide_eq_true z; omega
        · exact h1
      · simp only [hiH]
        split
        · exact h2
        · rename_i y
          have y : X.2.2 i = false := by simpa using y
          rw [y] at z; have := of_decide_eq_false z; omega
    · have e : (nI (b2 (decide (2 * csT T (sD S) (X.2.1 i) < c))) = nI (b2 (X.2.2 i))) = False := eq_false (fun y => z (by
        cases u : decide (2 * csT T (sD S) (X.2.1 i) < c) <;> cases v : X.2.2 i <;> rw [u, v] at y <;> first | rfl | (exact absurd y (by decide))))
      simp only [e, if_false]
      refine ok_some ?_
      rw [decide_eq_false]
      · rfl
      · intro y
        apply z
        simp only [loH, hiH] at hmo
        cases u : X.2.2 i
        · rw [u] at hmo; simp only [reduceCtorEq, if_false] at hmo
          exact decide_eq_false (by omega)
        · rw [u] at hmo; simp only [if_true] at hmo
          exact decide_eq_true (by omega)
  · rintro k _ ⟨rfl, h1, h2⟩
    unfold fX9_isAsHeard_2
    simp (disch := omega) only [nlit, nI_add, pk_mul, nC, nB, nT_le, nF_le, nT_lt, nF_lt, nF_eq, nT_eq, nM1_ne, nM1_lt, b2_0, b2_1, b2_nar, nar_0, nar_1, cond_true, if_true, if_false, ob_some, hH.1]
    refine ok_some ?_
    rw [decide_eq_true ⟨h1, h2⟩]
    rfl
theorem cnt_iv {a b m : Nat} : cnt (fun c => decide (a ≤ c ∧ c ≤ b)) m = min m (b + 1) - a := by
  induction m with
  | zero => simp only [cnt]; omega
  | succ m ih =>
    simp only [cnt, ih]
    by_cases z : a ≤ m ∧ m ≤ b
    · rw [decide_eq_true z, b2_t]; omega
    · rw [decide_eq_false z, b2_f]; omega
def lsI (n a : Nat) : Int32 := if n = 0 then -1 else nI a
theorem m_coalsL {hs days some_ : Nat → Int32} {th : Int32} {v1 : Nat} (hT : WT T) (hS : sD S ≤ 2000) (hX : WH X) (ht : tr 3 = nI (tN T)) (hc : ∀ i, i < tN T → cd i = nI (tco T i)) (hm : MS S s) (hH : MH X 0 hs days some_) (hv : v1 ≤ 2) : ok (fX9_coals tr cd hs days some_ s th (nI v1)) (fun r => r.1 = if v1 = 0 then nI (hiH T (sD S) X X.1 + 1 - loH T (sD S) X X.1) else if v1 = 1 then lsI (hiH T (sD S) X X.1 + 1 - loH T (sD S) X X.1) (loH T (sD S) X X.1) else lsI (hiH T (sD S) X X.1 + 1 - loH T (sD S) X X.1) (hiH T (sD S) X X.1)) := by
  have hl := loH_le (d := sD S) hT hX (Nat.le_refl _)
  have hh := hiH_le (T := T) (d := sD S) (X := X) (i := X.1)
  suffices key : ∀ L G, loH T (sD S) X X.1 = L → hiH T (sD S) X X.1 = G → L ≤ 181 → G ≤ 60 → ok (fX9_coals tr cd hs days some_ s th (nI v1)) (fun r => r.1 = if v1 = 0 then nI (G + 1 - L) else if v1 = 1 then lsI (G + 1 - L) L else lsI (G + 1 - L) G) from key _ _ rfl rfl hl hh
  clear hl hh
  intro L G eL eG hl hh
  have e0 : fX9_within (nI v1) 0 2 = some (nI 1) := by
    unfold fX9_within
    simp (disch := omega) only [nlit, nI_add, pk_mul, nC, nB, nT_le, nF_le, nT_lt, nF_lt, nF_eq, nT_eq, nM1_ne, nM1_lt, b2_0, b2_1, b2_nar, nar_0, nar_1, cond_true, if_true, if_false, ob_some]
  unfold fX9_coals
  rw [e0]
  refine ok_bind (ok_some (ok_f (show ¬ nI 1 = 0 by decide) ?_))
  refine ok_for5 61 (fun i _ w1 w2 w3 w4 => w1 = nI v1 ∧ w2 = nI (min i (G + 1) - L) ∧ w3 = lsI (min i (G + 1) - L) L ∧ w4 = lsI (min i (G + 1) - L) (min (i - 1) G)) ?_ ?_ FU 0 _ (nI v1) 0 (-1) (-1) (Nat.zero_le _) ⟨rfl, by rw [show min 0 (G + 1) - L = 0 by omega]; rfl, by rw [show min 0 (G + 1) - L = 0 by omega]; rfl, by rw [show min 0 (G + 1) - L = 0 by omega]; rfl⟩ (by unfold FU; omega)
  · rintro k a1 _ _ _ _ i hlt ⟨rfl, rfl, rfl, rfl⟩ hk
    unfold fX9_coals_26
    have e := m_asHeard hT hS hX ht hc hm hH (c := i) (by omega)
    rw [eL, eG] at e
    simp (disch := omega) only [nlit, nI_add, pk_mul, nC, nB, nT_le, nF_le, nT_lt, nF_lt, nF_eq, nT_eq, nM1_ne, nM1_lt, b2_0, b2_1, b2_nar, nar_0, nar_1, cond_true, if_true, if_false, ob_some, e]
    by_cases z : L ≤ i ∧ i ≤ G
    · rw [decide_eq_true z]
      simp only [reduceCtorEq, if_false]
      by_cases y : min i (G + 1) - L = 0
      · have e1 : lsI (min i (G + 1) - L) L = -nI 1 := by rw [y]; rfl
        have e2 : ¬ (nI 0 ≤ -nI 1) := by decide
        simp only [e1, e2, if_false]
        refine hk _ _ _ _ _ ⟨rfl, by congr 1; omega, ?_, ?_⟩
        · unfold lsI; rw [if_neg (by omega), show L = i by omega]
        · unfold lsI; rw [if_neg (by omega)]; congr 1; omega
      · have e1 : lsI (min i (G + 1) - L) L = nI L := if_neg y
        simp (disch := omega) only [e1, nlit, nI_add, pk_mul, nC, nB, nT_le, nF_le, nT_lt, nF_lt, nF_eq, nT_eq, nM1_ne, nM1_lt, b2_0, b2_1, b2_nar, nar_0, nar_1, cond_true, if_true, if_false, ob_some]
        refine hk _ _ _ _ _ ⟨rfl, by congr 1; omega, ?_, ?_⟩
        · unfold lsI; rw [if_neg (by omega)]
        · unfold lsI; rw [if_neg (by omega)]; congr 1; omega
    · rw [decide_eq_false z]
      simp only [if_true]
      have e1 : min (i + 1) (G + 1) - L = min i (G + 1) - L := by omega
      refine hk _ _ _ _ _ ⟨rfl, by rw [e1], by rw [e1], ?_⟩
      rw [e1]
      unfold lsI
      by_cases y : min i (G + 1) - L = 0
      · rw [if_pos y, if_pos y]
      · rw [if_neg y, if_neg y, show min (i - 1) G = min (i + 1 - 1) G by omega]
  · rintro k a1 _ _ _ _ ⟨rfl, rfl, rfl, rfl⟩
    unfold fX9_coals_26
    have e1 : min 61 (G + 1) - L = G + 1 - L := by omega
    have e2 : min (61 - 1) G = G := by omega
    rw [e1, e2]
    have h3 : v1 = 0 ∨ v1 = 1 ∨ v1 = 2 := by omega
    rcases h3 with rfl | rfl | rfl <;> simp (disch := omega) only [nlit, nI_add, pk_mul, nC, nB, nT_le, nF_le, nT_lt, nF_lt, nF_eq, nT_eq, nM1_ne, nM1_lt, b2_0, b2_1, b2_nar, nar_0, nar_1, cond_true, if_true, if_false, ob_some] <;> exact ok_some rfl
theorem p_coals {th size l g v1 : Int32} {days some_ hs days' some' : Nat → Int32} (hT : WT T) (hS : sD S ≤ 2000) (hX : WH X) (hc : ∀ i, i < tN T → cold i = nI (tco T i)) (hH : CH X size days some_) (ht : tr 3 = nI (tN T)) (hc' : ∀ i, i < tN T → cd i = nI (tco T i)) (hm : MS S s) (hH' : MH X 0 hs days' some') :
    ∃ a, ok (fX8_coals (nI (sD S)) size (nI (tN T)) days some_ cold l g v1) (fun r => r.1 = a) ∧ ok (fX9_coals tr cd hs days' some' s th v1) (fun r => r.1 = a) := by
  have hl := loH_le (d := sD S) hT hX (Nat.le_refl _)
  have hh := hiH_le (T := T) (d := sD S) (X := X) (i := X.1)
  unfold fX8_coals fX0_many
  simp (disch := omega) only [nlit, nI_add, pk_mul, nC, nB, nT_le, nF_le, nT_lt, nF_lt, nF_eq, nT_eq, nM1_ne, nM1_lt, b2_0, b2_1, b2_nar, nar_0, nar_1, cond_true, if_true, if_false, ob_some, c_narrow hT hS hX hc hH, tIl, Int.reduceToNat]
  rcases wthn v1 0 2 (by omega) (by omega) with ⟨j, -, hj, rfl, -, -⟩ | ⟨e1, -⟩
  · have h := m_coalsL (v1 := j) (th := th) hT hS hX ht hc' hm hH' hj
    have em : imax (nI (hiH T (sD S) X X.1) - nI (loH T (sD S) X X.1) + nI 1) (nI 0) = nI (hiH T (sD S) X X.1 + 1 - loH T (sD S) X X.1) := nmany (by omega) (by omega)
    refine ⟨_, ?_, h⟩
    have h3 : j = 0 ∨ j = 1 ∨ j = 2 := by omega
    rcases h3 with rfl | rfl | rfl
    · simp (disch := omega) only [nlit, nI_add, pk_mul, nC, nB, nT_le, nF_le, nT_lt, nF_lt, nF_eq, nT_eq, nM1_ne, nM1_lt, b2_0, b2_1, b2_nar, nar_0, nar_1, cond_true, if_true, if_false, ob_some, em]
      exact ok_some rfl
    · simp (disch := omega) only [nlit, nI_add, pk_mul, nC, nB, nT_le, nF_le, nT_lt, nF_lt, nF_eq, nT_eq, nM1_ne, nM1_lt, b2_0, b2_1, b2_nar, nar_0, nar_1, cond_true, if_true, if_false, ob_some, em, n_eq]
      by_cases z : hiH T (sD S) X X.1 + 1 - loH T (sD S) X X.1 = 0
      · simp only [z, if_true]; exact ok_some rfl
      · simp only [z, if_false]; exact ok_some (if_neg z).symm
    · simp (disch := omega) only [nlit, nI_add, pk_mul, nC, nB, nT_le, nF_le, nT_lt, nF_lt, nF_eq, nT_eq, nM1_ne, nM1_lt, b2_0, b2_1, b2_nar, nar_0, nar_1, cond_true, if_true, if_false, ob_some, em, n_eq]
      by_cases z : hiH T (sD S) X X.1 + 1 - loH T (sD S) X X.1 = 0
      · simp only [z, if_true]; exact ok_some rfl
      · simp only [z, if_false]; exact ok_some (if_neg z).symm
  · unfold fX9_coals
    simp (disch := omega) only [nlit, nI_add, pk_mul, nC, nB, nT_le, nF_le, nT_lt, nF_lt, nF_eq, nT_eq, nM1_ne, nM1_lt, b2_0, b2_1, b2_nar, nar_0, nar_1, cond_true, if_true, if_false, ob_some, e1]
    refine ⟨-nI 1, ?_, ok_some rfl⟩
    rcases rng v1 2 (by omega) with ⟨j, hj, rfl⟩ | ⟨-, hne⟩
    · exfalso
      unfold fX9_within at e1
      simp (disch := omega) only [nlit, nI_add, pk_mul, nC, nB, nT_le, nF_le, nT_lt, nF_lt, nF_eq, nT_eq, nM1_ne, nM1_lt, b2_0, b2_1, b2_nar, nar_0, nar_1, cond_true, if_true, if_false, ob_some, Option.some.injEq] at e1
    · simp only [hne 0 (by omega), hne 1 (by omega), hne 2 (by omega), if_false]
      exact ok_some rfl
end HR
