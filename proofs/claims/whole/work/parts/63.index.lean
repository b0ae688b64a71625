/-! where a name stands among those told: class and reference -/
section IX
abbrev Nms : Type := Nat → Nat × (Nat → Nat)
def WN (N : Nms) (m : Nat) : Prop := ∀ k, k < m → 1 ≤ (N k).1 ∧ (N k).1 ≤ 8 ∧ ∀ j, j < (N k).1 → isLt ((N k).2 j)
def CN_ (N : Nms) (m : Nat) (a : Nat → Int64) : Prop := ∀ k, k < m → a k = lN (nm (N k).2 0 (N k).1)
def MN_ (N : Nms) (m t : Nat) (a : Nat → Int64) : Prop := ∀ k, k < m → a (5 * t + k) = lN (wd_ (N k).2 0 (N k).1)
def SmN (N : Nms) (z : Nat → Nat) (q l k : Nat) : Prop := nm (N k).2 0 (N k).1 = nm z q l
def IxP (S : Nat → Prop) (m : Nat) (x : Int32) : Prop := (∃ i, i < m ∧ x = nI i ∧ S i ∧ ∀ j, j < i → ¬ S j) ∨ (x = -1 ∧ ∀ j, j < m → ¬ S j)
theorem IxP_uniq {S : Nat → Prop} {m : Nat} {x y : Int32} (h : IxP S m x) (g : IxP S m y) : x = y := by
  rcases h with ⟨i, hi, e, s, f⟩ | ⟨e, f⟩ <;> rcases g with ⟨i', hi', e', s', f'⟩ | ⟨e', f'⟩
  · have : i = i' := by
      rcases Nat.lt_trichotomy i i' with y | y | y
      · exact absurd s (f' i y)
      · exact y
      · exact absurd s' (f i' y)
    rw [e, e', this]
  · exact absurd s (f' i hi)
  · exact absurd s' (f i' hi')
  · rw [e, e']
theorem nm63 {z : Nat → Nat} {b k : Nat} (h : ∀ j, j < k → isLt (z (b + j))) : nm z b k < 2 ^ 63 := nm_lt h
theorem c_index {N : Nms} {m q l : Nat} {z : Nat → Nat} {a : Nat → Int64} (hm : m ≤ 5) (hN : WN N m) (ha : CN_ N m a) (hl : ∀ j, j < l → isLt (z (q + j))) : ok (fX6_indexOf 5 a (nI m) (lN (nm z q l))) (IxP (SmN N z q l) m) := by
  unfold fX6_indexOf
  refine ok_for2 m (fun i a1 a2 => a1 = nI m ∧ a2 = lN (nm z q l) ∧ ∀ j, j < i → ¬ SmN N z q l j) ?_ ?_ FU 0 (nI m) (lN (nm z q l)) (by omega) ⟨rfl, rfl, fun j hj => by omega⟩ (by unfold FU; omega)
  · rintro k a1 a2 i hi ⟨e1, e2, hf⟩ hk
    rw [e1, e2]
    unfold fX6_indexOf_3
    rw [nC (by omega), ha i hi, nI_1]
    have hi2 := hN i hi
    refine ok_f (nI_ge hi (by omega)) (ok_f (show ¬ Int32.ofNat 5 ≤ nI i from nI_ge (b := 5) (by omega) (by omega)) (ok_g (nB (by omega) (by omega)) (ok_if (fun x => ok_some ?_) (fun x => ?_))))
    · exact Or.inl ⟨i, hi, rfl, (pk_lEQ (nm63 (fun j hj => by rw [Nat.zero_add]; exact hi2.2.2 j hj)) (nm63 hl)).mp ((cmp0 _ _).mp x), hf⟩
    · refine hk _ _ ⟨rfl, rfl, fun j hj => ?_⟩
      rcases Nat.lt_succ_iff_lt_or_eq.mp hj with y | y
      · exact hf j y
      · rw [y]
        intro e
        unfold SmN at e
        exact x ((cmp0 _ _).mpr (by rw [e]))
  · rintro k a1 a2 ⟨e1, e2, hf⟩
    rw [e1, e2]
    unfold fX6_indexOf_3
    exact ok_t (nI_le (Nat.le_refl _) (by omega)) (ok_some (Or.inr ⟨rfl, hf⟩))
theorem t5 {t : Nat} (h : t < 2) : (5 : Int32) * nI t = nI (5 * t) ∧ (4 : Int32) * nI t + 0 = nI (4 * t) ∧ (4 : Int32) * nI t + 1 = nI (4 * t + 1) := by
  rcases (show t = 0 ∨ t = 1 by omega) with e | e
  · rw [e]; decide
  · rw [e]; decide
theorem m_holeNamed {N : Nms} {m q l t : Nat} {z : Nat → Nat} {a : Nat → Int64} {te : Nat → Int32} (ht : t < 2) (hm : m ≤ 5) (hte : te (4 * t) = nI m) (hN : WN N m) (ha : MN_ N m t a) (h8 : l ≤ 8) (hl : ∀ j, j < l → isLt (z (q + j))) : ok (fX9_holeNamed (lN (wd_ z q l)) te a (nI t)) (IxP (SmN N z q l) m) := by
  unfold fX9_holeNamed
  rw [(t5 ht).1]
  refine ok_for1 (5 * t + m) (fun i a1 => 5 * t ≤ i ∧ a1 = nI t ∧ ∀ j, 5 * t + j < i → ¬ SmN N z q l j) ?_ ?_ FU (5 * t) (nI t) (by omega) ⟨Nat.le_refl _, rfl, fun j hj => by omega⟩ (by unfold FU; omega)
  · rintro k a1 i hi ⟨h5, e1, hf⟩ hk
    rw [e1]
    obtain ⟨j0, rfl⟩ : ∃ j0, i = 5 * t + j0 := ⟨i - 5 * t, by omega⟩
    unfold fX9_holeNamed_4
    rw [(t5 ht).1, (t5 ht).2.1, nC (by omega), nC (by omega), hte, ha j0 (by omega), nI_1, nI_add, nsub (by omega)]
    have hi2 := hN j0 (by omega)
    have hw := nm_wd (z1 := (N j0).2) (z2 := z) (b1 := 0) (b2 := q) hi2.2.1 h8 (fun j hj => by rw [Nat.zero_add]; exact hi2.2.2 j hj) hl
    have hc := pk_lEQ (wd_lt (z := (N j0).2) (b := 0) (fun j hj => by rw [Nat.zero_add]; exact hi2.2.2 j hj)) (wd_lt hl)
    refine ok_g (nB (by omega) (by omega)) (ok_f (nI_ge hi (by omega)) (ok_g (nB (by omega) (by omega)) (ok_if (fun x => ok_some ?_) (fun x => ?_))))
    · exact Or.inl ⟨j0, by omega, by rw [Nat.add_sub_cancel_left], hw.mpr (hc.mp ((cmp0 _ _).mp x)), fun j hj => hf j (by omega)⟩
    · refine hk _ ⟨by omega, rfl, fun j hj => ?_⟩
      rcases Nat.lt_or_ge j j0 with y | y
      · exact hf j (by omega)
      · have e : j = j0 := by omega
        rw [e]
        exact fun s => x ((cmp0 _ _).mpr (hc.mpr (hw.mp s)))
  · rintro k a1 ⟨h5, e1, hf⟩
    rw [e1]
    unfold fX9_holeNamed_4
    rw [(t5 ht).1, (t5 ht).2.1, nC (by omega), hte, nI_add]
    exact ok_g (nB (by omega) (by omega)) (ok_t (nI_le (Nat.le_refl _) (by omega)) (ok_some (Or.inr ⟨rfl, fun j hj => hf j (by omega)⟩)))
theorem m_guestNamed {N : Nms} {m q l t : Nat} {z : Nat → Nat} {a : Nat → Int64} {te : Nat → Int32} (ht : t < 2) (hm : m ≤ 5) (hte : te (4 * t + 1) = nI m) (hN : WN N m) (ha : MN_ N m t a) (h8 : l ≤ 8) (hl : ∀ j, j < l → isLt (z (q + j))) : ok (fX9_guestNamed (lN (wd_ z q l)) te a (nI t)) (IxP (SmN N z q l) m) := by
  unfold fX9_guestNamed
  rw [(t5 ht).1]
  refine ok_for1 (5 * t + m) (fun i a1 => 5 * t ≤ i ∧ a1 = nI t ∧ ∀ j, 5 * t + j < i → ¬ SmN N z q l j) ?_ ?_ FU (5 * t) (nI t) (by omega) ⟨Nat.le_refl _, rfl, fun j hj => by omega⟩ (by unfold FU; omega)
  · rintro k a1 i hi ⟨h5, e1, hf⟩ hk
    rw [e1]
    obtain ⟨j0, rfl⟩ : ∃ j0, i = 5 * t + j0 := ⟨i - 5 * t, by omega⟩
    unfold fX9_guestNamed_4
    rw [(t5 ht).1, (t5 ht).2.2, nC (by omega), nC (by omega), hte, ha j0 (by omega), nI_1, nI_add, nsub (by omega)]
    have hi2 := hN j0 (by omega)
    have hw := nm_wd (z1 := (N j0).2) (z2 := z) (b1 := 0) (b2 := q) hi2.2.1 h8 (fun j hj => by rw [Nat.zero_add]; exact hi2.2.2 j hj) hl
    have hc := pk_lEQ (wd_lt (z := (N j0).2) (b := 0) (fun j hj => by rw [Nat.zero_add]; exact hi2.2.2 j hj)) (wd_lt hl)
    refine ok_g (nB (by omega) (by omega)) (ok_f (nI_ge hi (by omega)) (ok_g (nB (by omega) (by omega)) (ok_if (fun x => ok_some ?_) (fun x => ?_))))
    · exact Or.inl ⟨j0, by omega, by rw [Nat.add_sub_cancel_left], hw.mpr (hc.mp ((cmp0 _ _).mp x)), fun j hj => hf j (by omega)⟩
    · refine hk _ ⟨by omega, rfl, fun j hj => ?_⟩
      rcases Nat.lt_or_ge j j0 with y | y
      · exact hf j (by omega)
      · have e : j = j0 := by omega
        rw [e]
        exact fun s => x ((cmp0 _ _).mpr (hc.mpr (hw.mp s)))
  · rintro k a1 ⟨h5, e1, hf⟩
    rw [e1]
    unfold fX9_guestNamed_4
    rw [(t5 ht).1, (t5 ht).2.2, nC (by omega), hte, nI_add]
    exact ok_g (nB (by omega) (by omega)) (ok_t (nI_le (Nat.le_refl _) (by omega)) (ok_some (Or.inr ⟨rfl, fun j hj => hf j (by omega)⟩)))
end IX
