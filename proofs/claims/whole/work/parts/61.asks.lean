/-! what both sides ask of a token -/
section AK
variable {z : Nat → Nat} {n q r : Nat} {ct cnu mt mnu : Int32} {cnm mwd : Int64}
theorem Ww_lt : ∀ i, i < 26 → Ww i < 9223372036854775808 := by decide +kernel
theorem t_word (h : TokR z n q r ct cnu cnm mt mnu mwd) (hz : ∀ i, i < n → z i < 127) {i : Nat} (hi : i < 26) : fX9_isWord mt mwd (lN (Ww i)) = some (nI (b2 (decide (ct = nI (128 + i))))) := by
  obtain ⟨_, _, h⟩ := h
  have no : ∀ (a b : Nat), a < 128 → b < 5 → b ≠ 1 → ct = nI a → mt = nI b → fX9_isWord mt mwd (lN (Ww i)) = some (nI (b2 (decide (ct = nI (128 + i))))) := by
    intro a b ha hb hb1 e1 e2
    have d : ¬ ct = nI (128 + i) := fun e => by
      rw [e1] at e
      have := (nI_eq (by omega) (by omega)).mp e
      omega
    have d2 : ¬ mt = 1 := fun e => by
      rw [e2] at e
      have := (nI_eq (b := 1) (by omega) (by omega)).mp e
      omega
    unfold fX9_isWord
    rw [decide_eq_false d, if_neg d2]; rfl
  rcases h with ⟨_, _, e1, e2⟩ | ⟨_, h8, hl, en, ew, e2, h⟩ | ⟨_, e1, e2, _⟩ | ⟨_, h33, h126, _, _, e1, e2⟩ | ⟨_, e1, e2⟩
  · exact no 0 0 (by omega) (by omega) (by omega) e1 e2
  · have hw := nm_Vw (z := z) (b := q) (k := r - q) (i := i) (by omega) hi hl
    have key : (ct = nI (128 + i)) ↔ wd_ z q (r - q) = Ww i := by
      rw [← hw]
      rcases h with ⟨j, hj, ej, et⟩ | ⟨hno, et⟩
      · rw [et, nI_eq (by omega) (by omega), ej]
        have := Vw_inj j hj i hi
        constructor
        · intro e
          have e' : j = i := by omega
          rw [e']
        · intro e
          rw [e] at this
          simp at this
          omega
      · rw [et]
        constructor
        · intro e
          have := (nI_eq (by omega) (by omega)).mp e
          omega
        · exact fun e => absurd e (hno i hi)
    have k2 : (mwd = lN (Ww i)) ↔ wd_ z q (r - q) = Ww i := by
      rw [ew]
      exact pk_lEQ (wd_lt hl) (Ww_lt i hi)
    unfold fX9_isWord
    rw [if_pos (show mt = 1 from e2)]
    by_cases x : wd_ z q (r - q) = Ww i
    · rw [if_pos ((cmp0 _ _).mpr (k2.mpr x)), decide_eq_true (key.mpr x)]; rfl
    · rw [if_neg (fun e => x (k2.mp ((cmp0 _ _).mp e))), decide_eq_false (fun e => x (key.mp e))]; rfl
  · exact no 2 2 (by omega) (by omega) (by omega) e1 e2
  · by_cases x : isSg (z q) = true
    · exact no (z q) 3 (by omega) (by omega) (by omega) e1 (by rw [e2, if_pos x])
    · exact no (z q) 4 (by omega) (by omega) (by omega) e1 (by rw [e2, if_neg x])
  · exact no 1 4 (by omega) (by omega) (by omega) e1 e2
theorem t_sign {tape : Nat → Int32} (h : TokR z n q r ct cnu cnm mt mnu mwd) (hn : n ≤ 1000) (hm : ∀ i, i < n → tape i = nI (z i)) {s : Nat} (hs : isSg s = true) (hs2 : 33 ≤ s ∧ s ≤ 126) : fX9_isSign (nI q) mt tape (nI s) = some (nI (b2 (decide (ct = nI s)))) := by
  obtain ⟨hq, hr, h⟩ := h
  have no : ∀ (a b : Nat), a ≠ s → a < 160 → b < 5 → b ≠ 3 → ct = nI a → mt = nI b → fX9_isSign (nI q) mt tape (nI s) = some (nI (b2 (decide (ct = nI s)))) := by
    intro a b ha ha2 hb hb1 e1 e2
    have d : ¬ ct = nI s := fun e => by
      rw [e1] at e
      exact ha ((nI_eq (by omega) (by omega)).mp e)
    have d2 : ¬ mt = 3 := fun e => by
      rw [e2] at e
      have := (nI_eq (b := 3) (by omega) (by omega)).mp e
      omega
    unfold fX9_isSign
    rw [decide_eq_false d, if_neg d2]; rfl
  rcases h with ⟨_, _, e1, e2⟩ | ⟨_, h8, hl, en, ew, e2, h⟩ | ⟨_, e1, e2, _⟩ | ⟨er, h33, h126, _, _, e1, e2⟩ | ⟨_, e1, e2⟩
  · exact no 0 0 (by omega) (by omega) (by omega) (by omega) e1 e2
  · rcases h with ⟨j, hj, ej, et⟩ | ⟨hno, et⟩
    · exact no (128 + j) 1 (by omega) (by omega) (by omega) (by omega) et e2
    · exact no 3 1 (by omega) (by omega) (by omega) (by omega) et e2
  · exact no 2 2 (by omega) (by omega) (by omega) (by omega) e1 e2
  · by_cases x : isSg (z q) = true
    · rw [if_pos x] at e2
      unfold fX9_isSign
      rw [if_pos (show mt = 3 from e2), nB (by omega) (by omega), nC (by omega), hm q (by omega), e1]
      by_cases y : z q = s
      · rw [y, decide_eq_true rfl, cond_true, if_pos rfl]; rfl
      · have d : ¬ nI (z q) = nI s := fun e => y ((nI_eq (by omega) (by omega)).mp e)
        rw [decide_eq_false d, cond_true, if_neg d]; rfl
    · rw [if_neg x] at e2
      exact no (z q) 4 (fun e => x (by rw [e]; exact hs)) (by omega) (by omega) (by omega) e1 e2
  · exact no 1 4 (by omega) (by omega) (by omega) (by omega) e1 e2
end AK
