/-! numbers and words that are due, both sides -/
section NU
variable {z : Nat → Nat} {n : Nat} {signs tape : Nat → Int32} {words : Nat → Int64}
theorem c_expNumF {len b p tp tk nu f v1 v2 : Int32} {nm0 : Int64} (hf : ¬ f = 0) : fX5_expectNumber len signs words b p tp tk nu f nm0 v1 v2 = some (v1, b, p, tp, tk, nu, f, nm0) := by
  unfold fX5_expectNumber
  rw [c_expectF hf, Option.bind_some]
  dsimp only
  rw [if_neg hf]
  unfold fX5_expectNumber_31
  rw [if_neg hf]
theorem isW {v lo hi : Nat} (hv : v < 2147483648) (hl : lo < 2147483648) (hh : hi < 2147483648) : fX8_isWithin (nI v) (nI lo) (nI hi) = some (nI (b2 (decide (lo ≤ v ∧ v ≤ hi)))) := by
  unfold fX8_isWithin
  by_cases x : v < lo
  · rw [if_pos (nI_lt x (by omega)), decide_eq_false (by omega)]; rfl
  rw [if_neg (nI_nlt (by omega) (by omega))]
  by_cases y : hi < v
  · rw [if_pos (nI_lt y (by omega)), decide_eq_false (by omega)]; rfl
  rw [if_neg (nI_nlt (by omega) (by omega)), decide_eq_true (by omega)]; rfl
theorem mW {v lo hi : Nat} (hv : v < 2147483648) (hl : lo < 2147483648) (hh : hi < 2147483648) : fX9_within (nI v) (nI lo) (nI hi) = some (nI (b2 (decide (lo ≤ v ∧ v ≤ hi)))) := by
  unfold fX9_within
  by_cases x : v < lo
  · rw [if_pos (nI_lt x (by omega)), decide_eq_false (by omega)]; rfl
  rw [if_neg (nI_nlt (by omega) (by omega))]
  by_cases y : hi < v
  · rw [if_pos (nI_lt y (by omega)), decide_eq_false (by omega)]; rfl
  rw [if_neg (nI_nlt (by omega) (by omega)), decide_eq_true (by omega)]; rfl
theorem p_num3 {lo hi : Nat} {cb cp tp ct cnu mp mb mt mnu : Int32} {cnm mwd : Int64} (hl : lo < 10000) (hh : hi < 10000) (hT : TpR z n signs tape words) (h : RdR z n cb cp ct cnu cnm mp mb mt mnu mwd) : ∃ q, q ≤ 1000 ∧ cp = nI q ∧ mb = nI q ∧
    ((¬ mt = 2 ∧ fX5_expectNumber (nI n) signs words cb cp tp ct cnu 0 cnm (nI lo) (nI hi) = some (nI lo, cb, cp, tp, ct, cnu, nI (1 + 16 * q), cnm)) ∨
     (∃ v, v < 10000 ∧ mt = 2 ∧ mnu = nI v ∧ ∃ (cb' cp' ct' cn' : Int32) (cm' : Int64) (mp' mb' mt' mn' : Int32) (mw' : Int64), RdR z n cb' cp' ct' cn' cm' mp' mb' mt' mn' mw' ∧ fX9_nextToken (nI n) tape mp mb mt mnu mwd = some (mp', mb', mt', mn', mw') ∧
       ((¬ (lo ≤ v ∧ v ≤ hi) ∧ fX5_expectNumber (nI n) signs words cb cp tp ct cnu 0 cnm (nI lo) (nI hi) = some (nI lo, cb', cp', cp, ct', cn', nI (4 + 16 * q), cm')) ∨
        ((lo ≤ v ∧ v ≤ hi) ∧ fX5_expectNumber (nI n) signs words cb cp tp ct cnu 0 cnm (nI lo) (nI hi) = some (nI v, cb', cp', cp, ct', cn', 0, cm'))))) := by
  have h0 := h
  obtain ⟨q, r, e1, e2, e3, e4, tk⟩ := h
  have hq : q ≤ 1000 := by have := tk.1; have := hT.1; omega
  have t2 := t_two tk
  refine ⟨q, hq, e2, e4, ?_⟩
  by_cases x : ct = 2
  · obtain ⟨v, hv, ev, ev2⟩ := t2.2 x
    obtain ⟨cb', cp', ct', cn', cm', mp', mb', mt', mn', mw', hR, hc, hm⟩ := p_next2 (tp := tp) hT h0
    refine Or.inr ⟨v, hv, t2.1.mpr x, ev2, cb', cp', ct', cn', cm', mp', mb', mt', mn', mw', hR, hm, ?_⟩
    have he : fX5_expect (nI n) signs words cb cp tp ct cnu 0 cnm 2 = some (cb', cp', cp, ct', cn', 0, cm') := by
      unfold fX5_expect fX5_expect_13
      rw [if_pos x, if_pos rfl, hc]; rfl
    have hw := isW (v := v) (lo := lo) (hi := hi) (by omega) (by omega) (by omega)
    by_cases y : lo ≤ v ∧ v ≤ hi
    · refine Or.inr ⟨y, ?_⟩
      unfold fX5_expectNumber
      rw [he, Option.bind_some]
      dsimp only
      rw [if_pos rfl, ev, hw, decide_eq_true y, Option.bind_some, if_neg (by decide)]
      unfold fX5_expectNumber_31
      rw [if_pos rfl]
    · refine Or.inl ⟨y, ?_⟩
      have fl := flt hq (c := 4) (by omega) (by omega)
      have hr : fX5_refuseTaken cp 0 4 = some (nI (4 + 16 * q)) := by
        unfold fX5_refuseTaken
        rw [if_pos rfl, e2, ← fl.1]; rfl
      unfold fX5_expectNumber
      rw [he, Option.bind_some]
      dsimp only
      rw [if_pos rfl, ev, hw, decide_eq_false y, Option.bind_some, if_pos (by decide), hr, Option.bind_some]
      unfold fX5_expectNumber_31
      rw [if_neg fl.2]
  · refine Or.inl ⟨fun e => x (t2.1.mp e), ?_⟩
    have fl := flt hq (c := 1) (by omega) (by omega)
    have hr : fX5_refuse cp 0 1 = some (nI (1 + 16 * q)) := by
      unfold fX5_refuse
      rw [if_pos rfl, e2, ← fl.1]; rfl
    have he : fX5_expect (nI n) signs words cb cp tp ct cnu 0 cnm 2 = some (cb, cp, tp, ct, cnu, nI (1 + 16 * q), cnm) := by
      unfold fX5_expect fX5_expect_13
      rw [if_neg x, hr, Option.bind_some, if_neg fl.2]
    unfold fX5_expectNumber
    rw [he, Option.bind_some]
    dsimp only
    rw [if_neg fl.2]
    unfold fX5_expectNumber_31
    rw [if_neg fl.2]
/-- a number is due: the same number, or the same fault -/
theorem p_number {lo hi : Nat} {cb cp tp ct cnu mp mb mt mnu wr gv : Int32} {cnm mwd : Int64} (hl : lo < 10000) (hh : hi < 10000) (hT : TpR z n signs tape words) (h : RdR z n cb cp ct cnu cnm mp mb mt mnu mwd) :
    (∃ v, lo ≤ v ∧ v ≤ hi ∧ ∃ (cb' cp' ct' cn' : Int32) (cm' : Int64) (mp' mb' mt' mn' : Int32) (mw' : Int64), RdR z n cb' cp' ct' cn' cm' mp' mb' mt' mn' mw' ∧ fX5_expectNumber (nI n) signs words cb cp tp ct cnu 0 cnm (nI lo) (nI hi) = some (nI v, cb', cp', cp, ct', cn', 0, cm') ∧ fX9_needsNumber (nI n) tape mp mb mt mnu wr gv mwd (nI lo) (nI hi) = some (1, mp', mb', mt', mn', wr, nI v, mw')) ∨
    (∃ f : Int32, ¬ f = 0 ∧ ok (fX5_expectNumber (nI n) signs words cb cp tp ct cnu 0 cnm (nI lo) (nI hi)) (fun r => r.1 = nI lo ∧ r.2.2.2.2.2.2.1 = f) ∧ ok (fX9_needsNumber (nI n) tape mp mb mt mnu wr gv mwd (nI lo) (nI hi)) (fun r => r.1 = 0 ∧ r.2.2.2.2.2.1 = f)) := by
  obtain ⟨q, hq, e2, e4, h3⟩ := p_num3 (tp := tp) hl hh hT h
  rcases h3 with ⟨m1, c1⟩ | ⟨v, hv, m1, m2, cb', cp', ct', cn', cm', mp', mb', mt', mn', mw', hR, hm, h3⟩
  · have fl := flt hq (c := 1) (by omega) (by omega)
    refine Or.inr ⟨nI (1 + 16 * q), fl.2, ok_of c1 ⟨rfl, rfl⟩, ?_⟩
    unfold fX9_needsNumber fX9_fails
    rw [if_neg m1]
    exact ok_some ⟨show vp_nar FieldType.boolean 0 = 0 by decide, by rw [e4, ← fl.1]; rfl⟩
  · have hw := mW (v := v) (lo := lo) (hi := hi) (by omega) (by omega) (by omega)
    rcases h3 with ⟨y, c1⟩ | ⟨y, c1⟩
    · have fl := flt hq (c := 4) (by omega) (by omega)
      refine Or.inr ⟨nI (4 + 16 * q), fl.2, ok_of c1 ⟨rfl, rfl⟩, ?_⟩
      unfold fX9_needsNumber fX9_fails
      rw [if_pos m1, m2, hw, decide_eq_false y, Option.bind_some, if_pos (by decide)]
      exact ok_some ⟨show vp_nar FieldType.boolean 0 = 0 by decide, by rw [e4, ← fl.1]; rfl⟩
    · refine Or.inl ⟨v, y.1, y.2, cb', cp', ct', cn', cm', mp', mb', mt', mn', mw', hR, c1, ?_⟩
      rw [m2] at hm
      unfold fX9_needsNumber
      rw [if_pos m1, m2, hw, decide_eq_true y, Option.bind_some, if_neg (by decide), hm, Option.bind_some]
/-- a word that is due -/
theorem p_expW {i : Nat} {cb cp tp ct cnu mp mb mt mnu : Int32} {cnm mwd : Int64} (hi : i < 26) (hT : TpR z n signs tape words) (h : RdR z n cb cp ct cnu cnm mp mb mt mnu mwd) : ∃ q, q ≤ 1000 ∧ cp = nI q ∧ mb = nI q ∧
    ((fX9_isWord mt mwd (lN (Ww i)) = some 1 ∧ ct = nI (128 + i) ∧ ∃ (cb' cp' ct' cn' : Int32) (cm' : Int64) (mp' mb' mt' mn' : Int32) (mw' : Int64), RdR z n cb' cp' ct' cn' cm' mp' mb' mt' mn' mw' ∧ fX9_nextToken (nI n) tape mp mb mt mnu mwd = some (mp', mb', mt', mn', mw') ∧ fX5_next (nI n) signs words cb cp tp ct cnu cnm = some (cb', cp', cp, ct', cn', cm') ∧ fX5_expect (nI n) signs words cb cp tp ct cnu 0 cnm (nI (128 + i)) = some (cb', cp', cp, ct', cn', 0, cm')) ∨
     (fX9_isWord mt mwd (lN (Ww i)) = some 0 ∧ ¬ ct = nI (128 + i) ∧ fX5_expect (nI n) signs words cb cp tp ct cnu 0 cnm (nI (128 + i)) = some (cb, cp, tp, ct, cnu, nI (1 + 16 * q), cnm))) := by
  have h0 := h
  obtain ⟨q, r, e1, e2, e3, e4, tk⟩ := h
  have hq : q ≤ 1000 := by have := tk.1; have := hT.1; omega
  have w := t_word tk (gd7 hT.2.1) hi
  refine ⟨q, hq, e2, e4, ?_⟩
  by_cases x : ct = nI (128 + i)
  · obtain ⟨cb', cp', ct', cn', cm', mp', mb', mt', mn', mw', hR, hc, hm⟩ := p_next2 (tp := tp) hT h0
    refine Or.inl ⟨by rw [w, decide_eq_true x]; rfl, x, cb', cp', ct', cn', cm', mp', mb', mt', mn', mw', hR, hm, hc, ?_⟩
    unfold fX5_expect fX5_expect_13
    rw [if_pos x, if_pos rfl, hc]; rfl
  · have fl := flt hq (c := 1) (by omega) (by omega)
    have hr : fX5_refuse cp 0 1 = some (nI (1 + 16 * q)) := by
      unfold fX5_refuse
      rw [if_pos rfl, e2, ← fl.1]; rfl
    refine Or.inr ⟨by rw [w, decide_eq_false x]; rfl, x, ?_⟩
    unfold fX5_expect fX5_expect_13
    rw [if_neg x, hr, Option.bind_some, if_neg fl.2]
/-- a word and a number -/
theorem p_both {i lo hi : Nat} {cb cp tp ct cnu mp mb mt mnu wr gv : Int32} {cnm mwd : Int64} (hi26 : i < 26) (hl : lo < 10000) (hh : hi < 10000) (hT : TpR z n signs tape words) (h : RdR z n cb cp ct cnu cnm mp mb mt mnu mwd) :
    (∃ v, lo ≤ v ∧ v ≤ hi ∧ ∃ (y5 : Int32 × Int32 × Int32 × Int32 × Int32 × Int32 × Int64) (cb' cp' tp' ct' cn' : Int32) (cm' : Int64) (mp' mb' mt' mn' : Int32) (mw' : Int64), RdR z n cb' cp' ct' cn' cm' mp' mb' mt' mn' mw' ∧ fX5_expect (nI n) signs words cb cp tp ct cnu 0 cnm (nI (128 + i)) = some y5 ∧ fX5_expectNumber (nI n) signs words y5.1 y5.2.1 y5.2.2.1 y5.2.2.2.1 y5.2.2.2.2.1 y5.2.2.2.2.2.1 y5.2.2.2.2.2.2 (nI lo) (nI hi) = some (nI v, cb', cp', tp', ct', cn', 0, cm') ∧ fX9_needsBoth (nI n) tape mp mb mt mnu wr gv mwd (lN (Ww i)) (nI lo) (nI hi) = some (1, mp', mb', mt', mn', wr, nI v, mw')) ∨
    (∃ f : Int32, ¬ f = 0 ∧ ok (fX5_expect (nI n) signs words cb cp tp ct cnu 0 cnm (nI (128 + i))) (fun y5 => ok (fX5_expectNumber (nI n) signs words y5.1 y5.2.1 y5.2.2.1 y5.2.2.2.1 y5.2.2.2.2.1 y5.2.2.2.2.2.1 y5.2.2.2.2.2.2 (nI lo) (nI hi)) (fun r => r.1 = nI lo ∧ r.2.2.2.2.2.2.1 = f)) ∧ ok (fX9_needsBoth (nI n) tape mp mb mt mnu wr gv mwd (lN (Ww i)) (nI lo) (nI hi)) (fun r => r.1 = 0 ∧ r.2.2.2.2.2.1 = f)) := by
  obtain ⟨q, hq, e2, e4, h3⟩ := p_expW (tp := tp) hi26 hT h
  rcases h3 with ⟨w, x, cb1, cp1, ct1, cn1, cm1, mp1, mb1, mt1, mn1, mw1, hR1, hm1, hc1, he1⟩ | ⟨w, x, he⟩
  · rcases p_number (tp := cp) (wr := wr) (gv := gv) hl hh hT hR1 with ⟨v, v1, v2, cb', cp', ct', cn', cm', mp', mb', mt', mn', mw', hR, c2, m2⟩ | ⟨f, hf, c2, m2⟩
    · refine Or.inl ⟨v, v1, v2, _, cb', cp', cp1, ct', cn', cm', mp', mb', mt', mn', mw', hR, he1, c2, ?_⟩
      unfold fX9_needsBoth
      rw [w, Option.bind_some, if_neg (by decide), hm1, Option.bind_some]
      dsimp only
      rw [m2, Option.bind_some]
      dsimp only
      rw [show vp_nar FieldType.boolean 1 = 1 by decide]
    · refine Or.inr ⟨f, hf, ok_of he1 c2, ?_⟩
      unfold fX9_needsBoth
      rw [w, Option.bind_some, if_neg (by decide), hm1, Option.bind_some]
      dsimp only
      refine ok_bind (ok_mono m2 (fun y e => ok_some ⟨?_, e.2⟩))
      show vp_nar FieldType.boolean y.1 = 0
      rw [e.1]; decide
  · have fl := flt hq (c := 1) (by omega) (by omega)
    refine Or.inr ⟨nI (1 + 16 * q), fl.2, ok_of he (ok_of (c_expNumF fl.2) ⟨rfl, rfl⟩), ?_⟩
    unfold fX9_needsBoth fX9_fails
    rw [w, Option.bind_some, if_pos rfl]
    exact ok_some ⟨show vp_nar FieldType.boolean 0 = 0 by decide, by rw [e4, ← fl.1]; rfl⟩
/-- where a class's index may lie -/
theorem c_indexR {m : Nat} {v : Int64} {a : Nat → Int64} (hm : m ≤ 5) : ok (fX6_indexOf 5 a (nI m) v) (fun x => x = -1 ∨ ∃ i, i < m ∧ x = nI i) := by
  unfold fX6_indexOf
  refine ok_for2 m (fun _ a1 a2 => a1 = nI m ∧ a2 = v) ?_ ?_ FU 0 (nI m) v (by omega) ⟨rfl, rfl⟩ (by unfold FU; omega)
  · rintro k a1 a2 i hi ⟨e1, e2⟩ hk
    rw [e1, e2]
    unfold fX6_indexOf_3
    rw [nI_1]
    exact ok_f (nI_ge hi (by omega)) (ok_f (show ¬ Int32.ofNat 5 ≤ nI i from nI_ge (b := 5) (by omega) (by omega)) (ok_g (nB (by omega) (by omega)) (ok_if (fun x => ok_some (Or.inr ⟨i, hi, rfl⟩)) (fun x => hk _ _ ⟨rfl, rfl⟩))))
  · rintro k a1 a2 ⟨e1, e2⟩
    rw [e1, e2]
    unfold fX6_indexOf_3
    exact ok_t (nI_le (Nat.le_refl _) (by omega)) (ok_some (Or.inl rfl))
theorem ok_both {α : Type} {o : Option α} {P Q : α → Prop} (h : ok o P) (g : ∀ r, o = some r → Q r) : ok o (fun r => P r ∧ Q r) := by
  obtain ⟨r, e, hp⟩ := h
  exact ⟨r, e, hp, g r e⟩
theorem c_holeR {len b p tp tk nu f : Int32} {names : Nat → Int64} {nm0 : Int64} {m : Nat} (hm : m ≤ 5) : ∀ r, fX6_readHoleName (nI m) len signs names words b p tp tk nu f nm0 = some r → (r.1 = -1 ∨ ∃ i, i < m ∧ r.1 = nI i) := by
  intro r h
  unfold fX6_readHoleName at h
  obtain ⟨y1, h1, h⟩ := b_some h
  obtain ⟨y2, h2, h⟩ := b_some h
  obtain ⟨y3, h3, h⟩ := b_some h
  obtain ⟨v, hv, hr⟩ := c_indexR (v := y1.1) (a := names) hm
  rw [hv] at h2
  injection h2 with h2
  have e3 : y3.1 = y2 := by
    unfold fX6_known at h3
    split at h3
    · obtain ⟨y4, h4, h5⟩ := b_some h3
      injection h5 with h5
      rw [← h5]
    · injection h3 with h3
      rw [← h3]
  injection h with h
  rw [← h]
  show y3.1 = -1 ∨ _
  rw [e3, ← h2]
  exact hr
end NU
