section VB
variable {signs gs hs vs : Nat → Int32} {words hn gn : Nat → Int64}
theorem c_verb {n H G l a : Nat} {cb cp tp ct cnu : Int32} {cnm : Int64} {y : Int32 × Int32 × Int32 × Int32 × Int32 × Int64} (ha : 138 ≤ a ∧ a ≤ 142) (ea : ct = nI a) (hl : l < 40) (hy : fX5_next (nI n) signs words cb cp tp ct cnu cnm = some y) :
    fX7_readLine (nI n) (nI H) (nI G) signs words hn gn (nI l) cb cp tp ct cnu 0 cnm gs hs vs = fX7_readLine_107 (nI n) (nI H) (nI G) signs words hn gn (nI l) y.1 y.2.1 y.2.2.1 y.2.2.2.1 y.2.2.2.2.1 0 y.2.2.2.2.2 gs hs (upd vs l (nI a)) (if a ≤ 140 then 1 else 0) (if a = 139 ∨ a = 142 then 0 else 1) := by
  have hlt : nI l < 40 := nI_lt (b := 40) hl (by omega)
  have hi : inb (nI l) 40 = true := nB hl (by omega)
  rcases (show a = 138 ∨ a = 139 ∨ a = 140 ∨ a = 141 ∨ a = 142 by omega) with e | e | e | e | e
  · rw [e] at ea ⊢
    rw [ea] at hy ⊢
    rw [if_pos (show 138 ≤ 140 by omega), if_neg (show ¬ (138 = 139 ∨ 138 = 142) by omega)]
    unfold fX7_readLine fX8_isWithin
    rw [if_neg (show ¬ nI 138 < 138 by decide), if_neg (show ¬ 142 < nI 138 by decide)]
    simp only [Option.bind_some]
    rw [if_neg (by decide : ¬ (1 : Int32) = 0), if_pos hlt, hy]
    simp only [Option.bind_some]
    rw [hi, cond_true, nC (by omega), if_pos (show nI 138 = 138 from rfl)]
    unfold fX7_readLine_79
    rw [if_pos (show nI 138 = 138 from rfl)]
  · rw [e] at ea ⊢
    rw [ea] at hy ⊢
    rw [if_pos (show 139 ≤ 140 by omega), if_pos (show 139 = 139 ∨ 139 = 142 by omega)]
    unfold fX7_readLine fX8_isWithin
    rw [if_neg (show ¬ nI 139 < 138 by decide), if_neg (show ¬ 142 < nI 139 by decide)]
    simp only [Option.bind_some]
    rw [if_neg (by decide : ¬ (1 : Int32) = 0), if_pos hlt, hy]
    simp only [Option.bind_some]
    rw [hi, cond_true, nC (by omega), if_neg (show ¬ nI 139 = 138 by decide), if_pos (show nI 139 = 139 from rfl)]
    unfold fX7_readLine_79
    rw [if_neg (show ¬ nI 139 = 138 by decide), if_neg (show ¬ nI 139 = 140 by decide), if_neg (show ¬ nI 139 = 141 by decide)]
  · rw [e] at ea ⊢
    rw [ea] at hy ⊢
    rw [if_pos (show 140 ≤ 140 by omega), if_neg (show ¬ (140 = 139 ∨ 140 = 142) by omega)]
    unfold fX7_readLine fX8_isWithin
    rw [if_neg (show ¬ nI 140 < 138 by decide), if_neg (show ¬ 142 < nI 140 by decide)]
    simp only [Option.bind_some]
    rw [if_neg (by decide : ¬ (1 : Int32) = 0), if_pos hlt, hy]
    simp only [Option.bind_some]
    rw [hi, cond_true, nC (by omega), if_neg (show ¬ nI 140 = 138 by decide), if_neg (show ¬ nI 140 = 139 by decide), if_pos (show nI 140 = 140 from rfl)]
    unfold fX7_readLine_79
    rw [if_neg (show ¬ nI 140 = 138 by decide), if_pos (show nI 140 = 140 from rfl)]
  · rw [e] at ea ⊢
    rw [ea] at hy ⊢
    rw [if_neg (show ¬ 141 ≤ 140 by omega), if_neg (show ¬ (141 = 139 ∨ 141 = 142) by omega)]
    unfold fX7_readLine fX8_isWithin
    rw [if_neg (show ¬ nI 141 < 138 by decide), if_neg (show ¬ 142 < nI 141 by decide)]
    simp only [Option.bind_some]
    rw [if_neg (by decide : ¬ (1 : Int32) = 0), if_pos hlt, hy]
    simp only [Option.bind_some]
    rw [hi, cond_true, nC (by omega), if_neg (show ¬ nI 141 = 138 by decide), if_neg (show ¬ nI 141 = 139 by decide), if_neg (show ¬ nI 141 = 140 by decide)]
    unfold fX7_readLine_79
    rw [if_neg (show ¬ nI 141 = 138 by decide), if_neg (show ¬ nI 141 = 140 by decide), if_pos (show nI 141 = 141 from rfl)]
  · rw [e] at ea ⊢
    rw [ea] at hy ⊢
    rw [if_neg (show ¬ 142 ≤ 140 by omega), if_pos (show 142 = 139 ∨ 142 = 142 by omega)]
    unfold fX7_readLine fX8_isWithin
    rw [if_neg (show ¬ nI 142 < 138 by decide), if_neg (show ¬ 142 < nI 142 by decide)]
    simp only [Option.bind_some]
    rw [if_neg (by decide : ¬ (1 : Int32) = 0), if_pos hlt, hy]
    simp only [Option.bind_some]
    rw [hi, cond_true, nC (by omega), if_neg (show ¬ nI 142 = 138 by decide), if_neg (show ¬ nI 142 = 139 by decide), if_neg (show ¬ nI 142 = 140 by decide)]
    unfold fX7_readLine_79
    rw [if_neg (show ¬ nI 142 = 138 by decide), if_neg (show ¬ nI 142 = 140 by decide), if_neg (show ¬ nI 142 = 141 by decide)]
end VB
