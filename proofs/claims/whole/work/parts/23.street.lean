/-! who is in the street: the class's side -/
def hou (ins : Nat → Nat) : Nat → Nat
  | 0 => 0
  | n + 1 => hou ins n ||| ins n
theorem hou_lt {ins : Nat → Nat} {n : Nat} (h : ∀ i, i < n → ins i < 32) : hou ins n < 32 := by
  induction n with
  | zero => exact Nat.zero_lt_of_lt (show 0 < 32 by decide)
  | succ n ih => exact Nat.or_lt_two_pow (n := 5) (ih (fun i hi => h i (by omega))) (h n (by omega))
def stB (g a b : Nat) : Nat := (2 ^ g - 1) &&& (31 ^^^ a) &&& (31 ^^^ b)
theorem stB_ok : ∀ g, g < 6 → ∀ a, a < 32 → ∀ b, b < 32 → (((1 : Int32) <<< (nI g &&& 31)) - 1) &&& (nI a ^^^ (-1)) &&& (nI b ^^^ (-1)) = nI (stB g a b) := by decide +kernel
theorem pX4_streetBits {h g sz : Nat} {inside : Nat → Int32} {ins : Nat → Nat} (hh : h ≤ 5) (hg : g ≤ 5) (hs : sz < 32) (hi : ∀ i, i < h → inside i = nI (ins i) ∧ ins i < 32) : fX4_streetBits (nI sz) (nI h) (nI g) inside = some (nI (stB g (hou ins h) sz)) := by
  unfold fX4_streetBits
  refine ok_eq.mp (ok_itr2 (fun v2 v3 => ∃ i, i ≤ h ∧ v3 = nI i ∧ v2 = nI (hou ins i)) (fun _ v3 => h - v3.toNatClampNeg) ?_ FU 0 0 ⟨0, Nat.zero_le _, nI_0.symm, nI_0.symm⟩ (by unfold FU; omega))
  rintro k v2 v3 ⟨i, hle, rfl, rfl⟩ hk
  unfold fX4_streetBits_4
  rcases Nat.lt_or_ge i h with hlt | hge
  · refine ok_f (nI_ge hlt (by omega)) (ok_g (inb_nI (by omega) (by decide)) ?_)
    obtain ⟨e1, e2⟩ := hi i hlt
    rw [nI_clamp (by omega), e1]
    have hl : hou ins i < 32 := hou_lt (fun j hj => (hi j (by omega)).2)
    refine hk _ _ ⟨i + 1, hlt, nI_1 i, ?_⟩ ?_
    · rw [bit_or _ (by omega) _ (by omega)]; rfl
    · show h - (nI i + 1).toNatClampNeg < h - (nI i).toNatClampNeg
      rw [nI_1, nI_clamp (by omega), nI_clamp (by omega)]; omega
  · have : i = h := by omega
    subst this
    refine ok_t (nI_le (Nat.le_refl _) (by omega)) (ok_some ?_)
    exact stB_ok g (by omega) _ (hou_lt (fun j hj => (hi j hj).2)) sz hs
