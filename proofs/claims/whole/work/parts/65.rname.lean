/-! a name is read: class and reference -/
section RN
variable {z : Nat → Nat} {n : Nat} {signs tape : Nat → Int32} {words : Nat → Int64}
def RdR (z : Nat → Nat) (n : Nat) (cb cp ct cnu : Int32) (cnm : Int64) (mp mb mt mnu : Int32) (mwd : Int64) : Prop := ∃ q r, cb = nI r ∧ cp = nI q ∧ mp = nI r ∧ mb = nI q ∧ TokR z n q r ct cnu cnm mt mnu mwd
def TpR (z : Nat → Nat) (n : Nat) (signs tape : Nat → Int32) (words : Nat → Int64) : Prop := n ≤ 1000 ∧ (∀ i, i < n → gdB (z i) = true) ∧ (∀ i, i < n → signs i = nI (z i)) ∧ (∀ i, i < n → tape i = nI (z i)) ∧ WdsR words
theorem p_next2 {cb cp tp ct cnu mp mb mt mnu : Int32} {cnm mwd : Int64} (hT : TpR z n signs tape words) (h : RdR z n cb cp ct cnu cnm mp mb mt mnu mwd) :
    ∃ (cb' cp' ct' cn' : Int32) (cm' : Int64) (mp' mb' mt' mn' : Int32) (mw' : Int64), RdR z n cb' cp' ct' cn' cm' mp' mb' mt' mn' mw' ∧ fX5_next (nI n) signs words cb cp tp ct cnu cnm = some (cb', cp', cp, ct', cn', cm') ∧ fX9_nextToken (nI n) tape mp mb mt mnu mwd = some (mp', mb', mt', mn', mw') := by
  obtain ⟨q, r, e1, e2, e3, e4, ht⟩ := h
  obtain ⟨q', r', ct', cn', cm', mt', mn', mw', _, t', c', m'⟩ := p_next (p := r) cp tp ct cnu cnm mb mt mnu mwd hT.1 hT.2.1 hT.2.2.1 hT.2.2.2.1 hT.2.2.2.2 ht.2.1
  exact ⟨nI r', nI q', ct', cn', cm', nI r', nI q', mt', mn', mw', ⟨q', r', rfl, rfl, rfl, rfl, t'⟩, by rw [e1]; exact c', by rw [e3]; exact m'⟩
theorem c_fact {t : Int32} : ok (fX8_isFact t) (fun y => (y = 0 ↔ ¬ (150 ≤ t ∧ t ≤ 153))) := by
  unfold fX8_isFact fX8_isWithin
  by_cases x : t < 150
  · rw [if_pos x]
    exact ok_some ⟨fun _ h => absurd x (Int32.not_lt.mpr h.1), fun _ => by decide⟩
  · by_cases y : 153 < t
    · rw [if_neg x, if_pos y]
      exact ok_some ⟨fun _ h => absurd y (Int32.not_lt.mpr h.2), fun _ => by decide⟩
    · rw [if_neg x, if_neg y]
      exact ok_some ⟨fun h => absurd h (by decide), fun h => absurd ⟨Int32.not_lt.mp x, Int32.not_lt.mp y⟩ h⟩
end RN
