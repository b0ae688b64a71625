section WH
variable {z : Nat → Nat} {n : Nat}
theorem Ww_line : lN (Ww 10) = 90302 ∧ lN (Ww 11) = 583 ∧ lN (Ww 12) = 7873077725 ∧ lN (Ww 13) = 1424122 ∧ lN (Ww 14) = 2968 := by decide +kernel
theorem m_what {q r a : Nat} {ct cnu mt mnu sz mp mb wr gv : Int32} {cnm mwd : Int64} {tape te ln lw la lb : Nat → Int32} {hn gn : Nat → Int64} (tk : TokR z n q r ct cnu cnm mt mnu mwd) (hz : ∀ i, i < n → z i < 127) (ha : a < 154) (ea : ct = nI a) :
    fX9_readsLine sz tape te hn gn mp mb mt mnu wr gv mwd ln lw la lb = fX9_readsLine_71 sz tape te hn gn mp mb mt mnu wr gv mwd ln lw la lb (if 138 ≤ a ∧ a ≤ 142 then nI (a - 138) else -1) := by
  have w : ∀ i, i < 26 → fX9_isWord mt mwd (lN (Ww i)) = some (nI (b2 (decide (a = 128 + i)))) := fun i hi => by
    rw [t_word tk hz hi, ea]
    have e : decide (nI a = nI (128 + i)) = decide (a = 128 + i) := decide_eq_decide.mpr (nI_eq (by omega) (by omega))
    rw [e]
  have w0 := w 10 (by omega)
  have w1_ := w 11 (by omega)
  have w2_ := w 12 (by omega)
  have w3_ := w 13 (by omega)
  have w4_ := w 14 (by omega)
  rw [Ww_line.1] at w0
  rw [Ww_line.2.1] at w1_
  rw [Ww_line.2.2.1] at w2_
  rw [Ww_line.2.2.2.1] at w3_
  rw [Ww_line.2.2.2.2] at w4_
  have f0 : nI (b2 false) = 0 := rfl
  have f1 : ¬ nI (b2 true) = 0 := by decide
  unfold fX9_readsLine
  rw [w0]
  simp only [Option.bind_some]
  by_cases x0 : a = 128 + 10
  · rw [decide_eq_true x0, if_neg f1, if_pos (by omega), show a - 138 = 0 by omega]; rfl
  rw [decide_eq_false x0, if_pos f0, w1_]
  simp only [Option.bind_some]
  by_cases x1 : a = 128 + 11
  · rw [decide_eq_true x1, if_neg f1, if_pos (by omega), show a - 138 = 1 by omega]; rfl
  rw [decide_eq_false x1, if_pos f0, w2_]
  simp only [Option.bind_some]
  by_cases x2 : a = 128 + 12
  · rw [decide_eq_true x2, if_neg f1, if_pos (by omega), show a - 138 = 2 by omega]; rfl
  rw [decide_eq_false x2, if_pos f0, w3_]
  simp only [Option.bind_some]
  by_cases x3 : a = 128 + 13
  · rw [decide_eq_true x3, if_neg f1, if_pos (by omega), show a - 138 = 3 by omega]; rfl
  rw [decide_eq_false x3, if_pos f0, w4_]
  simp only [Option.bind_some]
  by_cases x4 : a = 128 + 14
  · rw [decide_eq_true x4, if_neg f1, if_pos (by omega), show a - 138 = 4 by omega]; rfl
  rw [decide_eq_false x4, if_pos f0, if_neg (by omega)]
end WH
