section CLS
variable {z : Nat → Nat} {n : Nat} {signs tape : Nat → Int32} {words : Nat → Int64}
theorem c_expectF {len b p tp tk nu f v : Int32} {nm0 : Int64} (hf : ¬ f = 0) : fX5_expect len signs words b p tp tk nu f nm0 v = some (b, p, tp, tk, nu, f, nm0) := by
  have h13 : fX5_expect_13 len signs words b p tp tk nu f nm0 = some (b, p, tp, tk, nu, f, nm0) := by
    unfold fX5_expect_13
    rw [if_neg hf]
  unfold fX5_expect
  by_cases x : tk = v
  · rw [if_pos x, h13]
  · rw [if_neg x, c_refF hf]
    exact h13
theorem p_closes {cb cp tp ct cnu mp mb mt mnu wr : Int32} {cnm mwd : Int64} (hT : TpR z n signs tape words) (h : RdR z n cb cp ct cnu cnm mp mb mt mnu mwd) :
    (∃ (cb' cp' ct' cn' : Int32) (cm' : Int64) (mp' mb' mt' mn' : Int32) (mw' : Int64), RdR z n cb' cp' ct' cn' cm' mp' mb' mt' mn' mw' ∧ fX5_expect (nI n) signs words cb cp tp ct cnu 0 cnm 59 = some (cb', cp', cp, ct', cn', 0, cm') ∧ fX9_closes (nI n) tape mp mb mt mnu wr mwd = some (1, mp', mb', mt', mn', wr, mw')) ∨
    (∃ f : Int32, ¬ f = 0 ∧ ok (fX5_expect (nI n) signs words cb cp tp ct cnu 0 cnm 59) (fun r => r.2.2.2.2.2.1 = f) ∧ ok (fX9_closes (nI n) tape mp mb mt mnu wr mwd) (fun r => r.1 = 0 ∧ r.2.2.2.2.2.1 = f)) := by
  have h0 := h
  obtain ⟨q, r, e1, e2, e3, e4, tk⟩ := h
  have hq : q ≤ 1000 := by have := tk.1; have := hT.1; omega
  have hs : fX9_isSign mb mt tape 59 = some (nI (b2 (decide (ct = 59)))) := by
    rw [e4]
    exact t_sign (s := 59) tk hT.1 hT.2.2.2.1 (by decide) (by omega)
  by_cases x : ct = 59
  · obtain ⟨cb', cp', ct', cn', cm', mp', mb', mt', mn', mw', hR, hc, hmm⟩ := p_next2 (tp := tp) hT h0
    refine Or.inl ⟨cb', cp', ct', cn', cm', mp', mb', mt', mn', mw', hR, ?_, ?_⟩
    · unfold fX5_expect fX5_expect_13
      rw [if_pos x, if_pos rfl, hc]; rfl
    · unfold fX9_closes
      rw [hs, decide_eq_true x]
      simp only [Option.bind_some]
      rw [if_neg (by decide), hmm]; rfl
  · have fl := flt hq (c := 1) (by omega) (by omega)
    have hr : fX5_refuse cp 0 1 = some (nI (1 + 16 * q)) := by
      unfold fX5_refuse
      rw [if_pos rfl, e2, ← fl.1]; rfl
    refine Or.inr ⟨nI (1 + 16 * q), fl.2, ?_, ?_⟩
    · unfold fX5_expect
      rw [if_neg x, hr]
      unfold fX5_expect_13
      simp only [Option.bind_some]
      rw [if_neg fl.2]
      exact ok_some rfl
    · unfold fX9_closes fX9_fails
      rw [hs, decide_eq_false x]
      simp only [Option.bind_some]
      rw [if_pos (by decide)]
      exact ok_some ⟨rfl, by rw [e4, ← fl.1]; rfl⟩
end CLS
