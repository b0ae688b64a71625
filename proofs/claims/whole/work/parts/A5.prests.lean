/-! rests: the class and the reference -/
def ct1 (x d : Int32) : Bool := if x = 1 then !decide (d < 0) else !decide (0 < d)
theorem c_cont {x d : Int32} : fX8_isContent x d = some (nI (b2 (ct1 x d))) := by
  unfold fX8_isContent ct1
  by_cases h : x = 1
  · rw [if_pos h, if_pos h]
    by_cases g : d < 0
    · rw [if_pos g, decide_eq_true g]; rfl
    · rw [if_neg g, decide_eq_false g]; rfl
  · rw [if_neg h, if_neg h]
    by_cases g : 0 < d
    · rw [if_pos g, decide_eq_true g]; rfl
    · rw [if_neg g, decide_eq_false g]; rfl
def rsD (v1 v2 v3 x : Int32) : Int32 := if x = 1 then v1 - v3 else -v2
def rsC (v1 v2 v3 v6 : Int32) : Bool := ct1 (v6 >>> (1 &&& 31)) (rsD v1 v2 v3 (v6 &&& 1)) && ct1 (v6 &&& 1) (rsD v1 v2 v3 (v6 >>> (1 &&& 31)))
theorem c_r50 {K : Int32 → Int32 → Int32 → Int32 → Int32 → Int32 → Option Int32} {v1 v2 v3 v4 v5 v6 : Int32} (h4 : ¬ (4 : Int32) ≤ v6) : fX8_rests_50 K v1 v2 v3 v4 v5 v6 = if rsC v1 v2 v3 v6 = true then (if v5 = v4 then some v6 else K v1 v2 v3 v4 (v5 + 1) (v6 + 1)) else K v1 v2 v3 v4 v5 (v6 + 1) := by
  have e106 : ∀ x0 x1, fX8_rests_106 K v1 v2 v3 v4 v5 v6 x0 x1 = if ct1 x1 x0 = true then (if v5 = v4 then some v6 else K v1 v2 v3 v4 (v5 + 1) (v6 + 1)) else K v1 v2 v3 v4 v5 (v6 + 1) := fun x0 x1 => by
    unfold fX8_rests_106
    rw [c_cont, Option.bind_some]
    cases ct1 x1 x0 with
    | true => rw [if_neg (by decide), if_pos rfl]
    | false => rw [if_pos (by decide), if_neg (by decide)]
  have e84 : ∀ x0 x1, fX8_rests_84 K v1 v2 v3 v4 v5 v6 (v6 >>> (1 &&& 31)) (v6 &&& 1) x0 x1 = if ct1 x1 x0 = true then fX8_rests_106 K v1 v2 v3 v4 v5 v6 (rsD v1 v2 v3 (v6 >>> (1 &&& 31))) (v6 &&& 1) else K v1 v2 v3 v4 v5 (v6 + 1) := fun x0 x1 => by
    unfold fX8_rests_84 rsD
    rw [c_cont, Option.bind_some]
    cases ct1 x1 x0 with
    | true =>
      rw [if_neg (by decide), if_pos rfl]
      split <;> rfl
    | false => rw [if_pos (by decide), if_neg (by decide)]
  have e50 : fX8_rests_50 K v1 v2 v3 v4 v5 v6 = fX8_rests_84 K v1 v2 v3 v4 v5 v6 (v6 >>> (1 &&& 31)) (v6 &&& 1) (rsD v1 v2 v3 (v6 &&& 1)) (v6 >>> (1 &&& 31)) := by
    unfold fX8_rests_50 rsD
    rw [if_neg h4]
    split <;> rfl
  rw [e50, e84, e106]
  unfold rsC
  cases ct1 (v6 >>> (1 &&& 31)) (rsD v1 v2 v3 (v6 &&& 1)) with
  | true => rw [if_pos rfl, Bool.true_and]
  | false => rw [if_neg (by decide), Bool.false_and, if_neg (by decide)]
theorem c_rT50 {K : Int32 → Int32 → Int32 → Int32 → Int32 → Int32 → Option Unit} {v1 v2 v3 v4 v5 v6 : Int32} (h4 : ¬ (4 : Int32) ≤ v6) : fX8_restsT_50 K v1 v2 v3 v4 v5 v6 = if rsC v1 v2 v3 v6 = true then (if v5 = v4 then none else K v1 v2 v3 v4 (v5 + 1) (v6 + 1)) else K v1 v2 v3 v4 v5 (v6 + 1) := by
  have e106 : ∀ x0 x1, fX8_restsT_106 K v1 v2 v3 v4 v5 v6 x0 x1 = if ct1 x1 x0 = true then (if v5 = v4 then none else K v1 v2 v3 v4 (v5 + 1) (v6 + 1)) else K v1 v2 v3 v4 v5 (v6 + 1) := fun x0 x1 => by
    unfold fX8_restsT_106
    rw [c_cont, Option.bind_some]
    cases ct1 x1 x0 with
    | true => rw [if_neg (by decide), if_pos rfl]
    | false => rw [if_pos (by decide), if_neg (by decide)]
  have e84 : ∀ x0 x1, fX8_restsT_84 K v1 v2 v3 v4 v5 v6 (v6 >>> (1 &&& 31)) (v6 &&& 1) x0 x1 = if ct1 x1 x0 = true then fX8_restsT_106 K v1 v2 v3 v4 v5 v6 (rsD v1 v2 v3 (v6 >>> (1 &&& 31))) (v6 &&& 1) else K v1 v2 v3 v4 v5 (v6 + 1) := fun x0 x1 => by
    unfold fX8_restsT_84 rsD
    rw [c_cont, Option.bind_some]
    cases ct1 x1 x0 with
    | true =>
      rw [if_neg (by decide), if_pos rfl]
      split <;> rfl
    | false => rw [if_pos (by decide), if_neg (by decide)]
  have e50 : fX8_restsT_50 K v1 v2 v3 v4 v5 v6 = fX8_restsT_84 K v1 v2 v3 v4 v5 v6 (v6 >>> (1 &&& 31)) (v6 &&& 1) (rsD v1 v2 v3 (v6 &&& 1)) (v6 >>> (1 &&& 31)) := by
    unfold fX8_restsT_50 rsD
    rw [if_neg h4]
    split <;> rfl
  rw [e50, e84, e106]
  unfold rsC
  cases ct1 (v6 >>> (1 &&& 31)) (rsD v1 v2 v3 (v6 &&& 1)) with
  | true => rw [if_pos rfl, Bool.true_and]
  | false => rw [if_neg (by decide), Bool.false_and, if_neg (by decide)]
def gB (v0 v1 v2 v3 v4 : Int32) : Int32 := if v3 = 1 then (if v4 = 1 then v0 else -v1) else (if v4 = 1 then v2 else 0)
theorem m_gB {v0 v1 v2 v3 v4 : Int32} : fX9_getsBy v0 v1 v2 v3 v4 = some (gB v0 v1 v2 v3 v4) := by
  unfold fX9_getsBy gB
  split
  · split <;> rfl
  · split <;> rfl
def rsM (v1 v2 v3 v6 : Int32) : Bool := !decide (gB v1 v2 v3 (v6 / 2) (v6 - v6 / 2 * 2) < gB v1 v2 v3 (1 - (v6 / 2)) (v6 - v6 / 2 * 2)) && decide (gB v1 v2 v3 (1 - (v6 - v6 / 2 * 2)) (v6 / 2) ≤ gB v1 v2 v3 (v6 - v6 / 2 * 2) (v6 / 2))
theorem m_r61 {K : Int32 → Int32 → Int32 → Int32 → Int32 → Int32 → Int32 → Option (Int32 × Int32)} {th v1 v2 v3 v4 v5 v6 : Int32} (h4 : ¬ (4 : Int32) ≤ v6) : fX9_rests_61 K th v1 v2 v3 v4 v5 v6 = if rsM v1 v2 v3 v6 = true then (if v5 = v4 then some (v6, th) else K th v1 v2 v3 v4 (v5 + 1) (v6 + 1)) else K th v1 v2 v3 v4 v5 (v6 + 1) := by
  unfold fX9_rests_61 rsM
  rw [if_neg h4, m_gB, Option.bind_some, m_gB, Option.bind_some]
  by_cases x : gB v1 v2 v3 (v6 / 2) (v6 - v6 / 2 * 2) < gB v1 v2 v3 (1 - (v6 / 2)) (v6 - v6 / 2 * 2)
  · rw [if_pos x, decide_eq_true x, Bool.not_true, Bool.false_and, if_neg (by decide)]
  · rw [if_neg x, decide_eq_false x, Bool.not_false, Bool.true_and, m_gB, Option.bind_some, m_gB, Option.bind_some]
    by_cases y : gB v1 v2 v3 (1 - (v6 - v6 / 2 * 2)) (v6 / 2) ≤ gB v1 v2 v3 (v6 - v6 / 2 * 2) (v6 / 2)
    · rw [if_pos y, decide_eq_true y, if_pos rfl]
    · rw [if_neg y, decide_eq_false y, if_neg (by decide)]
theorem rs_same : ∀ a, a < 10 → ∀ b, b < 10 → ∀ c, c < 10 → ∀ k, k < 4 → rsC (nI a) (nI b) (nI c) (nI k) = rsM (nI a) (nI b) (nI c) (nI k) := by decide +kernel
/-- both loops together -/
theorem rs_loop {a b c : Nat} (ha : a < 10) (hb : b < 10) (hc : c < 10) {zc : Int32 → Int32 → Int32 → Int32 → Int32 → Int32 → Option Int32} {zt : Int32 → Int32 → Int32 → Int32 → Int32 → Int32 → Option Unit} {zm : Int32 → Int32 → Int32 → Int32 → Int32 → Int32 → Int32 → Option (Int32 × Int32)} {v4 : Int32} :
    ∀ (j k N : Nat) (v5 : Int32), k + j = 4 → j < N → (∃ r, itr (fun kk => fX8_rests_50 kk) zc N (nI a) (nI b) (nI c) v4 v5 (nI k) = some r ∧ itr (fun kk => fX9_rests_61 kk) zm N 0 (nI a) (nI b) (nI c) v4 v5 (nI k) = some (r, 0)) ∨ (itr (fun kk => fX8_restsT_50 kk) zt N (nI a) (nI b) (nI c) v4 v5 (nI k) = some () ∧ ∃ x, itr (fun kk => fX9_rests_61 kk) zm N 0 (nI a) (nI b) (nI c) v4 v5 (nI k) = some (x, 1)) := by
  intro j
  induction j with
  | zero =>
    intro k N v5 hk hN
    obtain ⟨N, rfl⟩ : ∃ m, N = m + 1 := ⟨N - 1, by omega⟩
    have e : k = 4 := by omega
    subst e
    show (∃ r, fX8_rests_50 (itr (fun kk => fX8_rests_50 kk) zc N) (nI a) (nI b) (nI c) v4 v5 (nI 4) = some r ∧ fX9_rests_61 (itr (fun kk => fX9_rests_61 kk) zm N) 0 (nI a) (nI b) (nI c) v4 v5 (nI 4) = some (r, 0)) ∨ (fX8_restsT_50 (itr (fun kk => fX8_restsT_50 kk) zt N) (nI a) (nI b) (nI c) v4 v5 (nI 4) = some () ∧ ∃ x, fX9_rests_61 (itr (fun kk => fX9_rests_61 kk) zm N) 0 (nI a) (nI b) (nI c) v4 v5 (nI 4) = some (x, 1))
    unfold fX8_rests_50 fX8_restsT_50 fX9_rests_61 fX9_rests_163
    have h4 : (4 : Int32) ≤ nI 4 := by decide
    by_cases x : v4 = -1
    · refine Or.inl ⟨v5, ?_, ?_⟩
      · rw [if_pos h4, if_pos x]
      · rw [if_pos h4, if_pos x, if_pos x]
    · refine Or.inr ⟨?_, 0, ?_⟩
      · rw [if_pos h4, if_neg x]
      · rw [if_pos h4, if_neg x, if_neg x]
  | succ j ih =>
    intro k N v5 hk hN
    obtain ⟨N, rfl⟩ : ∃ m, N = m + 1 := ⟨N - 1, by omega⟩
    have h4 : ¬ (4 : Int32) ≤ nI k := nI_ge (b := 4) (by omega) (by omega)
    have hs := rs_same a ha b hb c hc k (by omega)
    show (∃ r, fX8_rests_50 (itr (fun kk => fX8_rests_50 kk) zc N) (nI a) (nI b) (nI c) v4 v5 (nI k) = some r ∧ fX9_rests_61 (itr (fun kk => fX9_rests_61 kk) zm N) 0 (nI a) (nI b) (nI c) v4 v5 (nI k) = some (r, 0)) ∨ (fX8_restsT_50 (itr (fun kk => fX8_restsT_50 kk) zt N) (nI a) (nI b) (nI c) v4 v5 (nI k) = some () ∧ ∃ x, fX9_rests_61 (itr (fun kk => fX9_rests_61 kk) zm N) 0 (nI a) (nI b) (nI c) v4 v5 (nI k) = some (x, 1))
    rw [c_r50 h4, c_rT50 h4, m_r61 h4, ← hs, nI_1]
    by_cases x : rsC (nI a) (nI b) (nI c) (nI k) = true
    · rw [if_pos x, if_pos x, if_pos x]
      by_cases y : v5 = v4
      · rw [if_pos y, if_pos y]
        exact Or.inl ⟨nI k, rfl, rfl⟩
      · rw [if_neg y, if_neg y, if_neg y]
        exact ih (k + 1) N (v5 + 1) (by omega) (by omega)
    · rw [if_neg x, if_neg x, if_neg x]
      exact ih (k + 1) N v5 (by omega) (by omega)
theorem rs_in {v : Int32} (h1 : ¬ v < 0) (h2 : ¬ 9 < v) : ∃ a, a < 10 ∧ v = nI a := by
  have g1 : (0 : Int) ≤ v.toInt := by
    have := Int32.not_lt.mp h1
    rw [Int32.le_iff_toInt_le] at this
    exact this
  have g2 : v.toInt ≤ 9 := by
    have := Int32.not_lt.mp h2
    rw [Int32.le_iff_toInt_le] at this
    exact this
  refine ⟨v.toInt.toNat, by omega, ?_⟩
  have := tIl v v.toInt g1 (by omega)
  rw [← this]
theorem p_rests {th v1 v2 v3 v4 : Int32} : (∃ r, fX8_rests v1 v2 v3 v4 = some r ∧ fX9_rests th v1 v2 v3 v4 = some (r, 0)) ∨ (fX8_restsT v1 v2 v3 v4 = some () ∧ ∃ x, fX9_rests th v1 v2 v3 v4 = some (x, 1)) := by
  have t42 : fX9_rests_42 th v1 v2 v3 v4 1 = some (0, 1) := by
    unfold fX9_rests_42
    rw [if_pos rfl]
  have w : ∀ v : Int32, (fX8_isWithin v 0 9 = some 0 ∧ fX9_within v 0 9 = some 0) ∨ (fX8_isWithin v 0 9 = some 1 ∧ fX9_within v 0 9 = some 1 ∧ ∃ a, a < 10 ∧ v = nI a) := fun v => by
    unfold fX8_isWithin fX9_within
    by_cases x : v < 0
    · exact Or.inl ⟨if_pos x, if_pos x⟩
    · by_cases y : 9 < v
      · exact Or.inl ⟨by rw [if_neg x, if_pos y], by rw [if_neg x, if_pos y]⟩
      · exact Or.inr ⟨by rw [if_neg x, if_neg y], by rw [if_neg x, if_neg y], rs_in x y⟩
  unfold fX8_rests fX8_restsT fX9_rests fX8_restsT_36
  rcases w v1 with ⟨c1, m1⟩ | ⟨c1, m1, a, ha, ea⟩
  · rw [c1, m1, Option.bind_some, Option.bind_some, Option.bind_some, if_pos (show (0 : Int32) = 0 from rfl), if_pos (show (0 : Int32) = 0 from rfl), if_pos (show (0 : Int32) = 0 from rfl), t42]
    exact Or.inr ⟨rfl, 0, rfl⟩
  rw [c1, m1, Option.bind_some, Option.bind_some, Option.bind_some, if_neg (by decide : ¬ (1 : Int32) = 0), if_neg (by decide : ¬ (1 : Int32) = 0), if_neg (by decide : ¬ (1 : Int32) = 0)]
  rcases w v2 with ⟨c2, m2⟩ | ⟨c2, m2, b, hb, eb⟩
  · rw [c2, m2, Option.bind_some, Option.bind_some, Option.bind_some, if_pos (show (0 : Int32) = 0 from rfl), if_pos (show (0 : Int32) = 0 from rfl), if_pos (show (0 : Int32) = 0 from rfl), t42]
    exact Or.inr ⟨rfl, 0, rfl⟩
  rw [c2, m2, Option.bind_some, Option.bind_some, Option.bind_some, if_neg (by decide : ¬ (1 : Int32) = 0), if_neg (by decide : ¬ (1 : Int32) = 0), if_neg (by decide : ¬ (1 : Int32) = 0)]
  rcases w v3 with ⟨c3, m3⟩ | ⟨c3, m3, c, hc, ec⟩
  · rw [c3, m3, Option.bind_some, Option.bind_some, Option.bind_some, if_pos (show (0 : Int32) = 0 from rfl), if_pos (show (0 : Int32) = 0 from rfl), if_pos (show (0 : Int32) = 0 from rfl), t42]
    exact Or.inr ⟨rfl, 0, rfl⟩
  rw [c3, m3, Option.bind_some, Option.bind_some, Option.bind_some, if_neg (by decide : ¬ (1 : Int32) = 0), if_neg (by decide : ¬ (1 : Int32) = 0), if_neg (by decide : ¬ (1 : Int32) = 0)]
  by_cases x : v4 < -1
  · rw [if_neg (Int32.not_le.mpr x), if_neg (Int32.not_le.mpr x), if_pos x, t42]
    exact Or.inr ⟨rfl, 0, rfl⟩
  · rw [if_pos (Int32.not_lt.mp x), if_pos (Int32.not_lt.mp x), if_neg x, ea, eb, ec]
    unfold fX9_rests_42
    rw [if_neg (by decide)]
    exact rs_loop ha hb hc 4 0 FU 0 (by omega) (by unfold FU; omega)
