section RM
variable {z : Nat → Nat} {n : Nat} {signs tape : Nat → Int32} {words : Nat → Int64}
theorem tok_val {q r : Nat} {ct cnu mt mnu : Int32} {cnm mwd : Int64} (h : TokR z n q r ct cnu cnm mt mnu mwd) : ∃ a, a < 154 ∧ ct = nI a := by
  obtain ⟨_, _, h⟩ := h
  rcases h with ⟨_, _, e1, e2⟩ | ⟨_, h8, hl, en, ew, e2, h⟩ | ⟨_, e1, e2, _⟩ | ⟨er, h33, h126, _, _, e1, e2⟩ | ⟨_, e1, e2⟩
  · exact ⟨0, by omega, e1⟩
  · rcases h with ⟨j, hj, ej, et⟩ | ⟨hno, et⟩
    · exact ⟨128 + j, by omega, et⟩
    · exact ⟨3, by omega, et⟩
  · exact ⟨2, by omega, e1⟩
  · exact ⟨z q, by omega, e1⟩
  · exact ⟨1, by omega, e1⟩
theorem isNm_iff {a : Nat} (ha : a < 154) : isNm (nI a) ↔ (a = 3 ∨ 150 ≤ a) := by
  constructor
  · rintro (e | ⟨i, h1, h2, e⟩)
    · exact Or.inl ((nI_eq (by omega) (by omega)).mp e)
    · have := (nI_eq (by omega) (by omega)).mp e
      omega
  · rintro (e | e)
    · exact Or.inl (by rw [e])
    · exact Or.inr ⟨a - 128, by omega, by omega, by rw [show 128 + (a - 128) = a by omega]⟩
theorem c_fact2 {a : Nat} (ha : a < 154) : ok (fX8_isFact (nI a)) (fun y => (y = 0 ↔ a < 150)) := by
  unfold fX8_isFact fX8_isWithin
  by_cases x : a < 150
  · rw [if_pos (show nI a < 150 from nI_lt (b := 150) x (by omega))]
    exact ok_some ⟨fun _ => x, fun _ => by decide⟩
  · rw [if_neg (show ¬ nI a < 150 from nI_nlt (b := 150) (by omega) (by omega)), if_neg (show ¬ 153 < nI a from nI_nlt (a := 153) (by omega) (by omega))]
    exact ok_some ⟨fun h => absurd h (by decide), fun h => absurd h x⟩
theorem flt {q : Nat} (hq : q ≤ 1000) {c : Nat} (h0 : 0 < c) (hc : c < 16) : nI c + 16 * nI q = nI (c + 16 * q) ∧ ¬ nI (c + 16 * q) = 0 := by
  refine ⟨?_, fun e => ?_⟩
  · rw [show (16 : Int32) = nI 16 from rfl]
    simp (disch := omega) only [nlit, nI_add, pk_mul, nC, nB, nT_le, nF_le, nT_lt, nF_lt, nF_eq, nT_eq, nM1_ne, nM1_lt, b2_0, b2_1, b2_nar, nar_0, nar_1, cond_true, if_true, if_false, ob_some]
  · have := (nI_eq (b := 0) (by omega) (by omega)).mp e
    omega
/-- the class takes a name where no fault stands -/
theorem c_expN {cb cp tp ct cnu : Int32} {cnm : Int64} {a q : Nat} (ha : a < 154) (ea : ct = nI a) (eq_ : cp = nI q) (hq : q ≤ 1000) :
    (isNm ct → ∀ y, fX5_next (nI n) signs words cb cp tp ct cnu cnm = some y → ok (fX5_expectName (nI n) signs words cb cp tp ct cnu 0 cnm) (fun r => r = (cnm, y.1, y.2.1, y.2.2.1, y.2.2.2.1, y.2.2.2.2.1, 0, y.2.2.2.2.2))) ∧
    (¬ isNm ct → ok (fX5_expectName (nI n) signs words cb cp tp ct cnu 0 cnm) (fun r => r = (0, cb, cp, tp, ct, cnu, nI (1 + 16 * q), cnm))) := by
  refine ⟨fun hn y hy => ?_, fun hn => ?_⟩
  · have h28 : fX5_expectName_28 (nI n) signs words cb cp tp ct cnu 0 cnm cnm = some (cnm, y.1, y.2.1, y.2.2.1, y.2.2.2.1, y.2.2.2.2.1, 0, y.2.2.2.2.2) := by
      unfold fX5_expectName_28
      rw [if_pos rfl, hy]; rfl
    rw [ea, isNm_iff ha] at hn
    unfold fX5_expectName
    refine ok_if (fun _ => ok_eq.mpr h28) (fun h3 => ?_)
    have a3 : ¬ a = 3 := fun e => h3 (by rw [ea, e]; rfl)
    rw [ea] at h28 ⊢
    refine ok_bind (ok_mono (c_fact2 ha) (fun y2 e2 => ok_f (fun e => by have := e2.mp e; omega) (ok_eq.mpr h28)))
  · rw [ea, isNm_iff ha] at hn
    have h28 : fX5_expectName_28 (nI n) signs words cb cp tp ct cnu (nI (1 + 16 * q)) cnm cnm = some (0, cb, cp, tp, ct, cnu, nI (1 + 16 * q), cnm) := by
      unfold fX5_expectName_28
      rw [if_neg (flt hq (c := 1) (by omega) (by omega)).2]
    have hr : fX5_refuse cp 0 1 = some (nI (1 + 16 * q)) := by
      unfold fX5_refuse
      rw [if_pos rfl, eq_, ← (flt hq (c := 1) (by omega) (by omega)).1]; rfl
    unfold fX5_expectName
    refine ok_f (fun e => ?_) ?_
    · rw [ea] at e
      have := (nI_eq (b := 3) (by omega) (by omega)).mp e
      omega
    · rw [hr]
      rw [ea] at h28 ⊢
      exact ok_bind (ok_mono (c_fact2 ha) (fun y2 e2 => ok_t (e2.mpr (by omega)) (ok_eq.mpr h28)))
end RM
