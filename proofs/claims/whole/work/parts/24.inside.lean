/-! who is in a hole: the reference's side (at w: 0 the street, h + 1 the hole h) -/
def insM (at_ : Nat → Nat) (h : Nat) : Nat → Nat
  | 0 => 0
  | n + 1 => insM at_ h n ||| (if at_ n = h + 1 then 2 ^ n else 0)
theorem insM_lt {at_ : Nat → Nat} {h n : Nat} (hn : n ≤ 5) : insM at_ h n < 32 := by
  induction n with
  | zero => exact Nat.zero_lt_of_lt (show 0 < 32 by decide)
  | succ n ih =>
    refine Nat.or_lt_two_pow (n := 5) (ih (by omega)) ?_
    split
    · exact Nat.pow_lt_pow_right (by decide) (by omega)
    · decide
theorem pX9_insideOf {g h : Nat} {tr s : Nat → Int32} {at_ : Nat → Nat} (ht : tr 1 = nI g) (hg : g ≤ 5) (hh : h < 5) (ha : ∀ w, w < g → s (8 + w) = nI (at_ w) ∧ at_ w ≤ 5) : fX9_insideOf tr s (nI h) = some (nI (insM at_ h g)) := by
  unfold fX9_insideOf
  refine ok_eq.mp (ok_itr3 (fun v1 v2 v3 => v1 = nI h ∧ ∃ i, i ≤ g ∧ v3 = nI i ∧ v2 = nI (insM at_ h i)) (fun _ _ v3 => g - v3.toNatClampNeg) ?_ FU (nI h) 0 0 ⟨rfl, 0, Nat.zero_le _, nI_0.symm, nI_0.symm⟩ (by unfold FU; omega))
  rintro k v1 v2 v3 ⟨rfl, i, hle, rfl, rfl⟩ hk
  unfold fX9_insideOf_4
  rw [ht]
  rcases Nat.lt_or_ge i g with hlt | hge
  · have e8 : (8 : Int32) + nI i = nI (8 + i) := by rw [show (8 : Int32) = nI 8 by decide, nI_add]
    rw [e8, nI_1]
    obtain ⟨e1, e2⟩ := ha i hlt
    have hl := insM_lt (at_ := at_) (h := h) (n := i) (by omega)
    have hm : g - (nI i + 1).toNatClampNeg < g - (nI i).toNatClampNeg := by rw [nI_1, nI_clamp (by omega), nI_clamp (by omega)]; omega
    refine ok_f (nI_ge hlt (by omega)) (ok_g (inb_nI (by omega) (by decide)) ?_)
    rw [nI_clamp (by omega), e1]
    refine ok_if (fun hc => ?_) (fun hc => ?_)
    · have hc' : at_ i = h + 1 := (nI_eq (by omega) (by omega)).mp hc
      refine hk _ _ _ ⟨rfl, i + 1, hlt, nI_1 i, ?_⟩ hm
      rw [bit_one i (by omega), bit_or _ (by omega) _ (Nat.pow_lt_pow_right (by decide) (show i < 6 by omega))]
      simp [insM, hc']
    · have hc' : ¬ at_ i = h + 1 := fun e => hc (by rw [e])
      refine hk _ _ _ ⟨rfl, i + 1, hlt, nI_1 i, ?_⟩ hm
      rw [show (0 : Int32) = nI 0 from nI_0.symm, bit_or _ (by omega) _ (by decide)]
      simp [insM, hc']
  · have : i = g := by omega
    subst this
    exact ok_t (nI_le (Nat.le_refl _) (by omega)) (ok_some rfl)
