/-! cold: class and reference -/
def coldF (cn : Nat) (cold : Nat → Int32) (d : Nat) : Int32 := if cn = 0 then 1 else cold (d % cn)
theorem pX6_coldOf {cn d : Nat} {cold : Nat → Int32} (h : cn ≤ 12) (hd : d < 2 ^ 31) : fX6_coldOf (nI cn) cold (nI d) = some (coldF cn cold d) := by
  unfold fX6_coldOf coldF
  by_cases h0 : cn = 0
  · subst h0
    rw [if_pos (by rw [nI_0]; decide)]; simp
  · rw [if_neg (nI_nle (by omega) (by omega)), if_neg (nI_pos hd), if_neg (nI_ne0 (by omega) (by omega)), pk_rem hd (by omega) (by omega)]
    have hm : d % cn < cn := Nat.mod_lt _ (by omega)
    rw [inb_nI (by omega) (by decide), nI_clamp (by omega), if_neg h0]
    rfl
theorem pX9_coldOf {cn d : Nat} {tr cold : Nat → Int32} (ht : tr 3 = nI cn) (h : cn ≤ 12) (hd : d < 2 ^ 31) : fX9_coldOf tr cold (nI d) = some (coldF cn cold d) := by
  unfold fX9_coldOf coldF
  rw [ht]
  by_cases h0 : cn = 0
  · subst h0
    rw [if_pos nI_0]; simp
  · rw [if_neg (nI_ne0 (by omega) (by omega)), if_neg (nI_ne0 (by omega) (by omega)), pk_rem hd (by omega) (by omega)]
    have hm : d % cn < cn := Nat.mod_lt _ (by omega)
    rw [inb_nI (by omega) (by decide), nI_clamp (by omega), if_neg h0]
    rfl
def csum (f : Nat → Int32) (d : Nat) : Nat → Int32
  | 0 => 0
  | n + 1 => csum f d n + f (d + n)
theorem pX6_coldOver {cn d n : Nat} {cold : Nat → Int32} (h : cn ≤ 12) (hd : d + n < 2 ^ 31) (hn : n < 2000) : fX6_coldOver (nI cn) cold (nI d) (nI n) = some (csum (coldF cn cold) d n) := by
  unfold fX6_coldOver
  refine ok_eq.mp (ok_itr4 (fun v1 v2 v3 v4 => v1 = nI d ∧ v2 = nI n ∧ ∃ i, i ≤ n ∧ v4 = nI i ∧ v3 = csum (coldF cn cold) d i) (fun _ _ _ v4 => n - v4.toNatClampNeg) ?_ FU (nI d) (nI n) 0 0 ⟨rfl, rfl, 0, Nat.zero_le _, nI_0.symm, rfl⟩ (by unfold FU; omega))
  rintro k v1 v2 v3 v4 ⟨rfl, rfl, i, hi, rfl, rfl⟩ hk
  unfold fX6_coldOver_5
  rcases Nat.lt_or_ge i n with hlt | hge
  · refine ok_f (nI_ge hlt (by omega)) (ok_bind ?_)
    rw [nI_add, pX6_coldOf h (by omega)]
    refine ok_some ?_
    refine hk _ _ _ _ ⟨rfl, rfl, i + 1, hlt, nI_1 i, rfl⟩ ?_
    show n - (nI i + 1).toNatClampNeg < n - (nI i).toNatClampNeg
    rw [nI_1, nI_clamp (by omega), nI_clamp (by omega)]; omega
  · have : i = n := by omega
    subst this
    exact ok_t (nI_le (Nat.le_refl _) (by omega)) (ok_some rfl)
