/-! a terrace read is settled: the class -/
theorem q_sh5 : ∀ j, j < 6 → (1 : Int32) <<< (nI j &&& 31) = nI (2 ^ j) := by decide +kernel
theorem q_shb : ∀ b : Bool, ∀ j, j < 6 → nI (b2 b) <<< (nI j &&& 31) = nI (bif b then 2 ^ j else 0) := by decide +kernel
theorem c_bitsK {G v : Nat} {kd : Nat → Int32} {k : Nat → Nat} (hG : G ≤ 5) (hv : v ≤ 3) (hk : ∀ w, w < G → kd w = nI (143 + k w) ∧ k w ≤ 3) : fX6_bitsOfKind (nI G) kd (nI (143 + v)) = some (nI (bs (fun w => k w == v) G)) := by
  apply ok_eq.mp
  unfold fX6_bitsOfKind
  refine ok_for2 G (fun i a1 a2 => a1 = nI (143 + v) ∧ a2 = nI (bs (fun w => k w == v) i)) ?_ ?_ FU 0 (nI (143 + v)) 0 (by omega) ⟨rfl, rfl⟩ (by unfold FU; omega)
  · rintro kk a1 a2 i hi ⟨rfl, rfl⟩ hn
    obtain ⟨e1, e2⟩ := hk i hi
    unfold fX6_bitsOfKind_4
    rw [if_neg (show ¬ nI G ≤ nI i from nI_ge hi (by omega)), nB (show i < 5 by omega) (by omega), cond_true, nC (by omega), e1, nI_1, q_sh5 i (by omega)]
    have st := q_step (p := fun w => k w == v) (n := i) (by omega)
    by_cases x : k i = v
    · rw [if_pos (by rw [x])]
      have b : (k i == v) = true := by rw [x]; exact beq_self_eq_true v
      rw [b, cond_true] at st
      rw [st]
      exact hn _ _ ⟨rfl, rfl⟩
    · rw [if_neg (fun e => x (by have := (nI_eq (by omega) (by omega)).mp e; omega))]
      have b : (k i == v) = false := by
        cases hh : (k i == v) with
        | true => exact absurd (eq_of_beq hh) x
        | false => rfl
      rw [b, cond_false] at st
      have st : nI (bs (fun w => k w == v) i) ||| 0 = nI (bs (fun w => k w == v) (i + 1)) := st
      rw [st]
      exact hn _ _ ⟨rfl, rfl⟩
  · rintro kk a1 a2 ⟨rfl, rfl⟩
    unfold fX6_bitsOfKind_4
    exact ok_t (Int32.le_refl _) (ok_some rfl)
theorem c_bitsT {G : Nat} {v : Int32} {kd : Nat → Int32} (hG : G ≤ 5) : ok (fX6_bitsOfKind (nI G) kd v) (fun _ => True) := by
  unfold fX6_bitsOfKind
  refine ok_for2 G (fun i a1 a2 => True) ?_ ?_ FU 0 v 0 (by omega) trivial (by unfold FU; omega)
  · rintro kk a1 a2 i hi _ hn
    unfold fX6_bitsOfKind_4
    rw [nI_1]
    exact ok_f (nI_ge hi (by omega)) (ok_g (nB (by omega) (by omega)) (ok_if (fun _ => hn _ _ trivial) (fun _ => hn _ _ trivial)))
  · rintro kk a1 a2 _
    unfold fX6_bitsOfKind_4
    exact ok_t (Int32.le_refl _) (ok_some trivial)
/-- whatever was told of wars and flags, this comes to an end -/
theorem c_settleT {G : Nat} {fw kd gf fo : Nat → Int32} {sk ca wa : Int32} (hG : G ≤ 5) (hg : gdF G gf) : ok (fX6_settle (nI G) fw kd gf sk ca wa fo) (fun _ => True) := by
  have h12 : ∀ sk, ok (fX6_settle_12 (nI G) fw kd gf sk ca wa fo) (fun _ => True) := fun sk => by
    unfold fX6_settle_12
    refine ok_bind (ok_mono (c_bitsT hG) (fun y1 _ => ok_bind (ok_mono (c_bitsT hG) (fun y2 _ => ?_))))
    refine ok_for4 G (fun i a1 a2 a3 a4 => True) ?_ ?_ FU 0 sk y1 y2 fo (by omega) trivial (by unfold FU; omega)
    · rintro kk a1 a2 a3 a4 i hi _ hn
      unfold fX6_settle_36
      refine ok_f (nI_ge hi (by omega)) (ok_g (nB (by omega) (by omega)) ?_)
      refine ok_for5 G (fun j b1 b2 b3 b4 b5 => b5 = nI i) ?_ ?_ FU 0 a1 a2 a3 _ (nI i) (by omega) rfl (by unfold FU; omega)
      · rintro k2 b1 b2 b3 b4 b5 j hj rfl hn2
        obtain ⟨v, hv, ev⟩ := hg i hi
        unfold fX6_settle_53
        rw [nC (show i < 2147483648 by omega), ev, nI_1 j]
        exact ok_f (nI_ge hj (by omega)) (ok_g (nB (by omega) (by omega)) (ok_g (nB (by omega) (by omega)) (ok_g (nB (by omega) (by omega)) (ok_g (nB (by omega) (by omega)) (ok_g (nB (by omega) (by omega)) (hn2 _ _ _ _ _ rfl))))))
      · rintro k2 b1 b2 b3 b4 b5 rfl
        unfold fX6_settle_53
        rw [nI_1]
        exact ok_t (Int32.le_refl _) (hn _ _ _ _ trivial)
    · rintro kk a1 a2 a3 a4 _
      unfold fX6_settle_36
      exact ok_t (Int32.le_refl _) (ok_some trivial)
  unfold fX6_settle
  exact ok_if (fun _ => h12 _) (fun _ => h12 _)
theorem c_settle {U : Ter} {fw kd gf fo : Nat → Int32} {sk ca wa : Int32} (hU : WT U) (hsk : sk = nI (tS U) ∨ (sk = 0 ∧ tS U = 5)) (hk : ∀ w, w < tG U → kd w = nI (143 + tkd U w)) (hg : ∀ w, w < tG U → gf w = nI (tgf U w)) (hw : ∀ f, f < 10 → fw f = nI (twb U f)) : ok (fX6_settle (nI (tG U)) fw kd gf sk ca wa fo) (fun r => r.1 = nI (tS U) ∧ r.2.1 = nI (bs (fun w => tkd U w == 3) (tG U)) ∧ r.2.2.1 = nI (bs (fun w => tkd U w == 1) (tG U)) ∧ ∀ w, w < tG U → r.2.2.2 w = nI (bs (fun o => twr U w o) (tG U))) := by
  have hG := hU.2.1
  have hkk : ∀ w, w < tG U → kd w = nI (143 + tkd U w) ∧ tkd U w ≤ 3 := fun w hw => ⟨hk w hw, (hU.2.2.2.2.2.2.1 w hw).1⟩
  have b3 : fX6_bitsOfKind (nI (tG U)) kd 146 = some (nI (bs (fun w => tkd U w == 3) (tG U))) := c_bitsK (v := 3) hG (by omega) hkk
  have b1 : fX6_bitsOfKind (nI (tG U)) kd 144 = some (nI (bs (fun w => tkd U w == 1) (tG U))) := c_bitsK (v := 1) hG (by omega) hkk
  have h12 : ok (fX6_settle_12 (nI (tG U)) fw kd gf (nI (tS U)) ca wa fo) (fun r => r.1 = nI (tS U) ∧ r.2.1 = nI (bs (fun w => tkd U w == 3) (tG U)) ∧ r.2.2.1 = nI (bs (fun w => tkd U w == 1) (tG U)) ∧ ∀ w, w < tG U → r.2.2.2 w = nI (bs (fun o => twr U w o) (tG U))) := by
    unfold fX6_settle_12
    rw [b3, Option.bind_some, b1, Option.bind_some]
    refine ok_for4 (tG U) (fun i a1 a2 a3 a4 => a1 = nI (tS U) ∧ a2 = nI (bs (fun w => tkd U w == 3) (tG U)) ∧ a3 = nI (bs (fun w => tkd U w == 1) (tG U)) ∧ ∀ w, w < i → a4 w = nI (bs (fun o => twr U w o) (tG U))) ?_ ?_ FU 0 _ _ _ fo (by omega) ⟨rfl, rfl, rfl, fun w hw => absurd hw (Nat.not_lt_zero _)⟩ (by unfold FU; omega)
    · rintro kk a1 a2 a3 a4 i hi ⟨rfl, rfl, rfl, h4⟩ hn
      unfold fX6_settle_36
      refine ok_f (nI_ge hi (by omega)) (ok_g (nB (by omega) (by omega)) ?_)
      rw [nC (show i < 2147483648 by omega)]
      refine ok_for5 (tG U) (fun j c1 c2 c3 c4 c5 => c1 = nI (tS U) ∧ c2 = nI (bs (fun w => tkd U w == 3) (tG U)) ∧ c3 = nI (bs (fun w => tkd U w == 1) (tG U)) ∧ (∀ w, w < i → c4 w = nI (bs (fun o => twr U w o) (tG U))) ∧ c4 i = nI (bs (fun o => twr U i o) j) ∧ c5 = nI i) ?_ ?_ FU 0 _ _ _ _ (nI i) (by omega) ⟨rfl, rfl, rfl, fun w hw => by rw [pk_un (by omega)]; exact h4 w hw, pk_us, rfl⟩ (by unfold FU; omega)
      · rintro k2 c1 c2 c3 c4 c5 j hj ⟨rfl, rfl, rfl, g4, g5, rfl⟩ hn2
        have f1 := (hU.2.2.2.2.2.2.1 i hi).2
        have f2 := (hU.2.2.2.2.2.2.1 j hj).2
        have wlt := hU.2.2.2.2.2.2.2.1 (tgf U i) (by omega)
        unfold fX6_settle_53
        rw [nC (show i < 2147483648 by omega), nC (show j < 2147483648 by omega), hg i hi, hg j hj, nI_1 j, nC (show tgf U i < 2147483648 by omega), hw (tgf U i) (by omega), q_b1 wlt (by omega), g5, q_shb _ j (by omega)]
        have st := q_step (p := fun o => twr U i o) (n := j) (by omega)
        have e : twr U i j = (twb U (tgf U i)).testBit (tgf U j) := rfl
        rw [← e, st]
        refine ok_f (nI_ge hj (by omega)) (ok_g (nB (by omega) (by omega)) (ok_g (nB (by omega) (by omega)) (ok_g (nB (by omega) (by omega)) (ok_g (nB (by omega) (by omega)) (ok_g (nB (by omega) (by omega)) (hn2 _ _ _ _ _ ⟨rfl, rfl, rfl, fun w hw => ?_, pk_us, rfl⟩))))))
        rw [pk_un (by omega)]
        exact g4 w hw
      · rintro k2 c1 c2 c3 c4 c5 ⟨rfl, rfl, rfl, g4, g5, rfl⟩
        unfold fX6_settle_53
        rw [nI_1]
        refine ok_t (Int32.le_refl _) (hn _ _ _ _ ⟨rfl, rfl, rfl, fun w hw => ?_⟩)
        by_cases e : w = i
        · rw [e]; exact g5
        · exact g4 w (by omega)
    · rintro kk a1 a2 a3 a4 ⟨rfl, rfl, rfl, h4⟩
      unfold fX6_settle_36
      exact ok_t (Int32.le_refl _) (ok_some ⟨rfl, rfl, rfl, h4⟩)
  unfold fX6_settle
  rcases hsk with e | ⟨e, e5⟩
  · rw [e, if_neg (show ¬ nI (tS U) = 0 from fun x => by have := (nI_eq (b := 0) (by have := hU.2.2.1; omega) (by omega)).mp x; have := hU.2.2.1; omega)]
    exact h12
  · rw [e, if_pos rfl]
    rw [e5] at h12 ⊢
    exact h12
/-- a terrace is cleared: the class -/
theorem c_clear {co ho gu sk le : Int32} {fw be : Nat → Int32} : ok (fX6_clear co ho gu sk le fw be) (fun r => r.1 = 0 ∧ r.2.1 = 0 ∧ r.2.2.1 = 0 ∧ r.2.2.2.1 = 0 ∧ r.2.2.2.2.1 = 0 ∧ (∀ f, f < 10 → r.2.2.2.2.2.1 f = 0) ∧ ∀ h, h < 5 → r.2.2.2.2.2.2 h = 0) := by
  unfold fX6_clear
  refine ok_for7 5 (fun i a1 a2 a3 a4 a5 a6 a7 => ∀ h, h < i → a7 h = 0) ?_ ?_ FU 0 co ho gu sk le fw be (by omega) (fun h hh => absurd hh (Nat.not_lt_zero _)) (by unfold FU; omega)
  · rintro kk a1 a2 a3 a4 a5 a6 a7 i hi h1 hn
    unfold fX6_clear_2
    rw [nC (by omega), nI_1]
    refine ok_f (show ¬ (5 : Int32) ≤ nI i from nI_ge (b := 5) hi (by omega)) (ok_g (nB hi (by omega)) (hn _ _ _ _ _ _ _ (fun h hh => ?_)))
    by_cases e : h = i
    · rw [e]; exact pk_us
    · rw [pk_un e]; exact h1 h (by omega)
  · rintro kk a1 a2 a3 a4 a5 a6 a7 h1
    unfold fX6_clear_2
    refine ok_t (by decide) ?_
    refine ok_for7 10 (fun i c1 c2 c3 c4 c5 c6 c7 => (∀ f, f < i → c6 f = 0) ∧ c7 = a7) ?_ ?_ FU 0 a1 a2 a3 a4 a5 a6 a7 (by omega) ⟨fun h hh => absurd hh (Nat.not_lt_zero _), rfl⟩ (by unfold FU; omega)
    · rintro k2 c1 c2 c3 c4 c5 c6 c7 i hi ⟨h2, rfl⟩ hn
      unfold fX6_clear_22
      rw [nC (by omega), nI_1]
      refine ok_f (show ¬ (9 : Int32) < nI i from nI_nlt (a := 9) (by omega) (by omega)) (ok_g (nB hi (by omega)) (hn _ _ _ _ _ _ _ ⟨fun h hh => ?_, rfl⟩))
      by_cases e : h = i
      · rw [e]; exact pk_us
      · rw [pk_un e]; exact h2 h (by omega)
    · rintro k2 c1 c2 c3 c4 c5 c6 c7 ⟨h2, rfl⟩
      unfold fX6_clear_22
      exact ok_t (by decide) (ok_some ⟨rfl, rfl, rfl, rfl, rfl, h2, h1⟩)
