/-! who is in the street, not seized: the reference's side -/
theorem pX9_isSeized {w sz : Nat} {s : Nat → Int32} (h1 : s 1 = nI sz) (hs : sz < 32) (hw : w < 5) : fX9_isSeized s (nI w) = some (if sz / 2 ^ w % 2 = 1 then 1 else 0) := by
  unfold fX9_isSeized
  rw [h1, bit_at sz (by omega) w (by omega)]
  have hm : sz / 2 ^ w % 2 < 2 := Nat.mod_lt _ (by decide)
  by_cases h : sz / 2 ^ w % 2 = 1
  · rw [if_pos (by rw [h]; rfl), if_pos h]
  · rw [if_neg (show ¬ nI (sz / 2 ^ w % 2) = 1 from fun e => h ((nI_eq (b := 1) (by omega) (by decide)).mp e)), if_neg h]
theorem pX9_isOutside {w sz : Nat} {s : Nat → Int32} {a : Nat} (h1 : s 1 = nI sz) (hs : sz < 32) (hw : w < 5) (ha : s (8 + w) = nI a) (ha5 : a ≤ 5) : fX9_isOutside s (nI w) = some (if a = 0 ∧ sz / 2 ^ w % 2 = 0 then 1 else 0) := by
  unfold fX9_isOutside
  have e8 : (8 : Int32) + nI w = nI (8 + w) := by rw [show (8 : Int32) = nI 8 by decide, nI_add]
  have hm : sz / 2 ^ w % 2 < 2 := Nat.mod_lt _ (by decide)
  rw [e8, inb_nI (by omega) (by decide), nI_clamp (by omega), ha, pX9_isSeized h1 hs hw]
  simp only [cond_true]
  by_cases h : a = 0
  · subst h
    rw [if_pos nI_0]
    by_cases h2 : sz / 2 ^ w % 2 = 1
    · simp [h2]
    · have h3 : sz / 2 ^ w % 2 = 0 := by omega
      simp [h3]
  · rw [if_neg (nI_ne0 (by omega) (by omega)), if_neg (fun e => h e.1)]
def outM (at_ : Nat → Nat) (sz : Nat) : Nat → Nat
  | 0 => 0
  | n + 1 => outM at_ sz n ||| (if at_ n = 0 ∧ sz / 2 ^ n % 2 = 0 then 2 ^ n else 0)
theorem outM_lt {at_ : Nat → Nat} {sz n : Nat} (hn : n ≤ 5) : outM at_ sz n < 32 := by
  induction n with
  | zero => exact Nat.zero_lt_of_lt (show 0 < 32 by decide)
  | succ n ih =>
    refine Nat.or_lt_two_pow (n := 5) (ih (by omega)) ?_
    split
    · exact Nat.pow_lt_pow_right (by decide) (by omega)
    · decide
theorem pX9_outsiders {g sz : Nat} {tr s : Nat → Int32} {at_ : Nat → Nat} (ht : tr 1 = nI g) (hg : g ≤ 5) (h1 : s 1 = nI sz) (hs : sz < 32) (ha : ∀ w, w < g → s (8 + w) = nI (at_ w) ∧ at_ w ≤ 5) : fX9_outsiders tr s = some (nI (outM at_ sz g)) := by
  unfold fX9_outsiders
  refine ok_eq.mp (ok_itr2 (fun v1 v2 => ∃ i, i ≤ g ∧ v2 = nI i ∧ v1 = nI (outM at_ sz i)) (fun _ v2 => g - v2.toNatClampNeg) ?_ FU 0 0 ⟨0, Nat.zero_le _, nI_0.symm, nI_0.symm⟩ (by unfold FU; omega))
  rintro k v1 v2 ⟨i, hle, rfl, rfl⟩ hk
  unfold fX9_outsiders_4
  rw [ht]
  rcases Nat.lt_or_ge i g with hlt | hge
  · obtain ⟨e1, e2⟩ := ha i hlt
    have hl := outM_lt (at_ := at_) (sz := sz) (n := i) (by omega)
    have hm : g - (nI i + 1).toNatClampNeg < g - (nI i).toNatClampNeg := by rw [nI_1, nI_clamp (by omega), nI_clamp (by omega)]; omega
    refine ok_f (nI_ge hlt (by omega)) (ok_bind ?_)
    rw [pX9_isOutside h1 hs (by omega) e1 e2]
    refine ok_some ?_
    by_cases hc : at_ i = 0 ∧ sz / 2 ^ i % 2 = 0
    · rw [if_pos hc]
      refine ok_f (by decide) (hk _ _ ⟨i + 1, hlt, nI_1 i, ?_⟩ hm)
      rw [bit_one i (by omega), bit_or _ (by omega) _ (Nat.pow_lt_pow_right (by decide) (show i < 6 by omega))]
      simp only [outM, if_pos hc]
    · rw [if_neg hc]
      refine ok_t rfl (hk _ _ ⟨i + 1, hlt, nI_1 i, ?_⟩ hm)
      rw [show (0 : Int32) = nI 0 from nI_0.symm, bit_or _ (by omega) _ (by decide)]
      simp only [outM, if_neg hc]
  · have : i = g := by omega
    subst this
    exact ok_t (nI_le (Nat.le_refl _) (by omega)) (ok_some rfl)
