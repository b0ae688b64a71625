/-! once a fault stands, the class keeps it -/
section FT
theorem c_indexT {m : Nat} {v : Int64} {a : Nat → Int64} (hm : m ≤ 5) : ok (fX6_indexOf 5 a (nI m) v) (fun _ => True) := by
  unfold fX6_indexOf
  refine ok_for2 m (fun _ a1 a2 => a1 = nI m ∧ a2 = v) ?_ ?_ FU 0 (nI m) v (by omega) ⟨rfl, rfl⟩ (by unfold FU; omega)
  · rintro k a1 a2 i hi ⟨e1, e2⟩ hk
    rw [e1, e2]
    unfold fX6_indexOf_3
    rw [nI_1]
    exact ok_f (nI_ge hi (by omega)) (ok_f (show ¬ Int32.ofNat 5 ≤ nI i from nI_ge (b := 5) (by omega) (by omega)) (ok_g (nB (by omega) (by omega)) (ok_if (fun x => ok_some trivial) (fun x => hk _ _ ⟨rfl, rfl⟩))))
  · rintro k a1 a2 ⟨e1, e2⟩
    rw [e1, e2]
    unfold fX6_indexOf_3
    exact ok_t (nI_le (Nat.le_refl _) (by omega)) (ok_some trivial)
theorem c_refF {p f v : Int32} (hf : ¬ f = 0) : fX5_refuse p f v = some f := by
  unfold fX5_refuse
  rw [if_neg hf]
theorem c_refTF {p f v : Int32} (hf : ¬ f = 0) : fX5_refuseTaken p f v = some f := by
  unfold fX5_refuseTaken
  rw [if_neg hf]
theorem c_knownF {p f v : Int32} (hf : ¬ f = 0) : ok (fX6_known p f v) (fun r => r.2 = f) := by
  unfold fX6_known
  refine ok_if (fun _ => ?_) (fun _ => ok_some rfl)
  rw [c_refTF hf]
  exact ok_some rfl
theorem c_facT {t : Int32} : ok (fX8_isFact t) (fun _ => True) := by
  unfold fX8_isFact fX8_isWithin
  by_cases x : t < 150 <;> by_cases y : 153 < t <;> simp [x, y, ok]
theorem c_expF {len b p tp tk nu f : Int32} {signs : Nat → Int32} {words : Nat → Int64} {nm0 : Int64} (hf : ¬ f = 0) : ok (fX5_expectName len signs words b p tp tk nu f nm0) (fun r => r = (0, b, p, tp, tk, nu, f, nm0)) := by
  have h28 : fX5_expectName_28 len signs words b p tp tk nu f nm0 nm0 = some (0, b, p, tp, tk, nu, f, nm0) := by
    unfold fX5_expectName_28
    rw [if_neg hf]
  unfold fX5_expectName
  refine ok_if (fun _ => ok_eq.mpr h28) (fun _ => ok_bind (ok_mono c_facT (fun y _ => ok_if (fun _ => ?_) (fun _ => ok_eq.mpr h28))))
  rw [c_refF hf]
  exact ok_eq.mpr h28
theorem c_holeF {len b p tp tk nu f : Int32} {signs : Nat → Int32} {words names : Nat → Int64} {nm0 : Int64} {m : Nat} (hm : m ≤ 5) (hf : ¬ f = 0) : ok (fX6_readHoleName (nI m) len signs names words b p tp tk nu f nm0) (fun r => r.2.2.2.2.2.2.1 = f) := by
  unfold fX6_readHoleName
  refine ok_bind (ok_mono (c_expF hf) (fun y e => ?_))
  rw [e]
  exact ok_bind (ok_mono (c_indexT hm) (fun y2 _ => ok_bind (ok_mono (c_knownF hf) (fun y3 e3 => ok_some e3))))
theorem c_guestF {len b p tp tk nu f : Int32} {signs : Nat → Int32} {words names : Nat → Int64} {nm0 : Int64} {m : Nat} (hm : m ≤ 5) (hf : ¬ f = 0) : ok (fX6_readGuestName (nI m) len signs names words b p tp tk nu f nm0) (fun r => r.2.2.2.2.2.2.1 = f) := by
  unfold fX6_readGuestName
  refine ok_bind (ok_mono (c_expF hf) (fun y e => ?_))
  rw [e]
  exact ok_bind (ok_mono (c_indexT hm) (fun y2 _ => ok_bind (ok_mono (c_knownF hf) (fun y3 e3 => ok_some e3))))
end FT
