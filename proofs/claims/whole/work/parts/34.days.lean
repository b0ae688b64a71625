/-! days -/
def cdT (T : Ter) (d : Nat) : Nat := if tN T = 0 then 1 else tco T (d % tN T)
def csT (T : Ter) (d : Nat) : Nat → Nat
  | 0 => 0
  | n + 1 => csT T d n + cdT T (d + n)
theorem cdT_le {T : Ter} {d : Nat} (hT : WT T) : cdT T d ≤ 3 := by
  unfold cdT
  split
  · decide
  · exact hT.2.2.2.2.1 _ (Nat.mod_lt _ (by omega))
theorem csT_le {T : Ter} {d n : Nat} (hT : WT T) : csT T d n ≤ 3 * n := by
  induction n with
  | zero => exact Nat.le_refl _
  | succ n ih => have := cdT_le (d := d + n) hT; simp only [csT]; omega
theorem coldF_T {T : Ter} {cold : Nat → Int32} {d : Nat} (h : ∀ i, i < tN T → cold i = nI (tco T i)) : coldF (tN T) cold d = nI (cdT T d) := by
  unfold coldF cdT
  split
  · rfl
  · exact h _ (Nat.mod_lt _ (by omega))
theorem c_coldOf {T : Ter} {cold : Nat → Int32} {d : Nat} (hT : WT T) (h : ∀ i, i < tN T → cold i = nI (tco T i)) (hd : d < 100000) : fX6_coldOf (nI (tN T)) cold (nI d) = some (nI (cdT T d)) := by
  rw [pX6_coldOf hT.2.2.2.1 (by omega), coldF_T h]
theorem m_coldOf {T : Ter} {tr cold : Nat → Int32} {d : Nat} (hT : WT T) (ht : tr 3 = nI (tN T)) (h : ∀ i, i < tN T → cold i = nI (tco T i)) (hd : d < 100000) : fX9_coldOf tr cold (nI d) = some (nI (cdT T d)) := by
  rw [pX9_coldOf ht hT.2.2.2.1 (by omega), coldF_T h]
theorem c_coldOver {T : Ter} {cold : Nat → Int32} {d n : Nat} (hT : WT T) (h : ∀ i, i < tN T → cold i = nI (tco T i)) (hd : d < 50000) (hn : n < 2000) : fX6_coldOver (nI (tN T)) cold (nI d) (nI n) = some (nI (csT T d n)) := by
  unfold fX6_coldOver
  refine ok_eq.mp (ok_for3 n (fun i v1 v2 v3 => v1 = nI d ∧ v2 = nI n ∧ v3 = nI (csT T d i)) ?_ ?_ FU 0 (nI d) (nI n) 0 (Nat.zero_le _) ⟨rfl, rfl, rfl⟩ (by unfold FU; omega))
  · rintro k _ _ _ i hlt ⟨rfl, rfl, rfl⟩ hk
    unfold fX6_coldOver_5
    simp (disch := omega) only [nlit, nI_add, pk_mul, nC, nB, nT_le, nF_le, nT_lt, nF_lt, nF_eq, nT_eq, nM1_ne, nM1_lt, b2_0, b2_1, b2_nar, nar_0, nar_1, cond_true, if_true, if_false, ob_some, c_coldOf hT h]
    exact hk _ _ _ ⟨rfl, rfl, rfl⟩
  · rintro k _ _ _ ⟨rfl, rfl, rfl⟩
    unfold fX6_coldOver_5
    simp (disch := omega) only [nlit, nI_add, pk_mul, nC, nB, nT_le, nF_le, nT_lt, nF_lt, nF_eq, nT_eq, nM1_ne, nM1_lt, b2_0, b2_1, b2_nar, nar_0, nar_1, cond_true, if_true, if_false, ob_some]
    exact ok_some rfl
/-- a day, colder by c -/
def dyC (T : Ter) (c : Nat) (S : Sta) (h : Nat) : Nat := sC S h - tbu T h * (cdT T (sD S) + c)
def dyA (T : Ter) (c : Nat) (S : Sta) (w : Nat) : Nat := if tkd T w ≠ 3 ∧ sA S w ≠ 0 ∧ dyC T c S (sA S w - 1) = 0 then 0 else sA S w
def dyZ (T : Ter) (c : Nat) (S : Sta) : Nat := sZ S ||| bs (fun w => dyA T c S w == 0 && tkd T w == 1) (tG T)
def dy (T : Ter) (c : Nat) (S : Sta) : Sta := (sD S + 1, dyZ T c S, sB S, dyC T c S, dyA T c S)
theorem dyA_le {T : Ter} {c : Nat} {S : Sta} {w : Nat} : dyA T c S w ≤ sA S w := by unfold dyA; split <;> omega
theorem dy_WS {T : Ter} {c N : Nat} {S : Sta} (hT : WT T) (hS : WS T N S) : WS T (N + 1) (dy T c S) := by
  refine ⟨Nat.succ_le_succ hS.1, ?_, fun h hh => ?_, fun h hh => ?_, fun w => ?_, fun w hw => ?_, fun w hw => ?_, fun w h hw e hk => ?_⟩
  · exact Nat.or_lt_two_pow hS.2.1 bs_lt
  · exact Nat.le_trans (Nat.sub_le _ _) (hS.2.2.1 h hh)
  · show sC S h - _ = 0
    rw [hS.2.2.2.1 h hh]; exact Nat.zero_sub _
  · exact Nat.le_trans dyA_le (hS.2.2.2.2.1 w)
  · exact Nat.le_zero.mp (Nat.le_trans dyA_le (Nat.le_of_eq (hS.2.2.2.2.2.1 w hw)))
  · have hw : (dyZ T c S).testBit w = true := hw
    show dyA T c S w = 0 ∧ _
    unfold dyZ at hw
    rw [Nat.testBit_or, bs_bit, Bool.or_eq_true] at hw
    rcases hw with q | q
    · obtain ⟨q1, q2⟩ := hS.2.2.2.2.2.2.1 w q
      exact ⟨Nat.le_zero.mp (Nat.le_trans dyA_le (Nat.le_of_eq q1)), q2⟩
    · simp at q
      exact q.2
  · have e : dyA T c S w = h + 1 := e
    show 0 < dyC T c S h
    unfold dyA at e
    split at e
    · cases e
    · rename_i q
      have : ¬ dyC T c S (sA S w - 1) = 0 := fun z => q ⟨hk, by omega, z⟩
      rw [e] at this
      exact Nat.pos_of_ne_zero this
theorem bs_fresh {T : Ter} {c : Nat} {S : Sta} : dyZ T c S = sZ S ||| bs (fun w => (dyA T c S w == 0 && !(sZ S).testBit w) && tkd T w == 1) (tG T) := by
  unfold dyZ
  apply Nat.eq_of_testBit_eq
  intro k
  rw [Nat.testBit_or, Nat.testBit_or, bs_bit, bs_bit]
  cases (sZ S).testBit k <;> cases decide (k < tG T) <;> cases (dyA T c S k == 0) <;> cases (tkd T k == 1) <;> rfl
section DY
variable {T : Ter} {S : Sta} {N : Nat} {catB wanB len br : Int32} {cold hf ct bu be kd gf fo code coal inside : Nat → Int32}
theorem c_day (hT : WT T) (hS : WS T N S) (hN : N ≤ 2000) (hC : CT T (nI (tN T)) (nI (tH T)) (nI (tG T)) (nI (tS T)) catB wanB len cold hf ct bu be kd gf fo code) (hs : CS T S (nI (sZ S)) (nI (sD S)) br coal inside) :
    ok (fX4_passDay (nI (tN T)) (nI (tH T)) (nI (tG T)) catB wanB cold bu (nI (sZ S)) (nI (sD S)) coal inside) (fun r => r.1 = nI (bs (fun w => (dyA T 0 S w == 0 && !(sZ S).testBit w) && tkd T w == 1) (tG T)) ∧ CS T (dy T 0 S) r.2.1 r.2.2.1 br r.2.2.2.1 r.2.2.2.2) := by
  have hG := hT.2.1
  have hH := hT.1
  have hd := hS.1
  have hZ := hS.z hT
  have hcd := cdT_le (d := sD S) hT
  unfold fX4_passDay
  simp (disch := omega) only [nlit, nI_add, pk_mul, nC, nB, nT_le, nF_le, nT_lt, nF_lt, nF_eq, nT_eq, nM1_ne, nM1_lt, b2_0, b2_1, b2_nar, nar_0, nar_1, cond_true, if_true, if_false, ob_some, c_coldOf hT hC.2.2.2.2.2.2.1]
  refine ok_for5 (tH T) (fun i sz d co ins v2 => sz = nI (sZ S) ∧ d = nI (sD S) ∧ v2 = nI (cdT T (sD S)) ∧ (∀ h, h < i → co h = nI (dyC T 0 S h)) ∧ (∀ h, i ≤ h → h < tH T → co h = nI (sC S h)) ∧ Ins (fun w => if tkd T w ≠ 3 ∧ sA S w ≠ 0 ∧ sA S w ≤ i ∧ dyC T 0 S (sA S w - 1) = 0 then 0 else sA S w) (tG T) ins) ?_ ?_ FU 0 _ _ _ _ _ (Nat.zero_le _) ⟨rfl, rfl, rfl, fun h hh => by omega, fun h _ hh => hs.2.2.2.1 h hh, fun i hi => ?_⟩ (by unfold FU; omega)
  · rintro k _ _ co ins _ i hlt ⟨rfl, rfl, rfl, h1, h2, h3⟩ hk
    unfold fX4_passDay_11
    have hc := hS.2.2.1 i (by omega)
    have hb := (hT.2.2.2.2.2.1 i hlt).2.2.1
    have hm : tbu T i * cdT T (sD S) ≤ 9 * 3 := Nat.mul_le_mul hb hcd
    have eC : sC S i - tbu T i * cdT T (sD S) = dyC T 0 S i := rfl
    have hcl : dyC T 0 S i ≤ 99 := by rw [← eC]; omega
    have hq := bs_le (p := fun w => (if tkd T w ≠ 3 ∧ sA S w ≠ 0 ∧ sA S w ≤ i ∧ dyC T 0 S (sA S w - 1) = 0 then 0 else sA S w) == i + 1) hG
    have hq2 := bs_le (p := fun w => tkd T w == 3) hG
    have e3 := h3 i (by omega)
    simp (disch := omega) only [nlit, nI_add, pk_mul, nC, nB, nT_le, nF_le, nT_lt, nF_lt, nF_eq, nT_eq, nM1_ne, nM1_lt, b2_0, b2_1, b2_nar, nar_0, nar_1, cond_true, if_true, if_false, ob_some, h2 i (Nat.le_refl _) hlt, hC.2.2.2.2.2.2.2.2.2.1 i hlt, nmax0, eC, pk_us, e3, hC.2.2.2.2.1, q_and]
    by_cases c0 : dyC T 0 S i = 0
    · simp (disch := omega) only [nlit, nI_add, pk_mul, nC, nB, nT_le, nF_le, nT_lt, nF_lt, nF_eq, nT_eq, nM1_ne, nM1_lt, b2_0, b2_1, b2_nar, nar_0, nar_1, cond_true, if_true, if_false, ob_some, c0]
      refine hk _ _ _ _ _ ⟨rfl, rfl, rfl, fun h hh => ?_, fun h q1 q2 => ?_, fun h hh => ?_⟩
      · by_cases e : h = i
        · subst e; rw [pk_us, c0]
        · rw [pk_un e]; exact h1 h (by omega)
      · rw [pk_un (by omega)]; exact h2 h (by omega) q2
      · by_cases e : h = i
        · subst e
          rw [pk_us, bs_and]
          congr 1
          apply bs_ext
          intro w hw
          rw [Bool.eq_iff_iff]
          simp only [Bool.and_eq_true, beq_iff_eq]
          by_cases q1 : sA S w = h + 1
          · have : dyC T 0 S (sA S w - 1) = 0 := by rw [q1]; exact c0
            by_cases q2 : tkd T w = 3
            · simp [q1, q2]
            · simp [q1, q2, c0]
          · have z1 : ¬ (if tkd T w ≠ 3 ∧ sA S w ≠ 0 ∧ sA S w ≤ h ∧ dyC T 0 S (sA S w - 1) = 0 then 0 else sA S w) = h + 1 := by split <;> omega
            have z2 : ¬ (if tkd T w ≠ 3 ∧ sA S w ≠ 0 ∧ sA S w ≤ h + 1 ∧ dyC T 0 S (sA S w - 1) = 0 then 0 else sA S w) = h + 1 := by split <;> omega
            exact ⟨fun z => absurd z.1 z1, fun z => absurd z z2⟩
        · rw [pk_un e, h3 h hh]
          congr 1
          apply bs_ext
          intro w hw
          rw [Bool.eq_iff_iff]
          simp only [beq_iff_eq]
          by_cases q1 : sA S w = i + 1
          · have z1 : ¬ (if tkd T w ≠ 3 ∧ sA S w ≠ 0 ∧ sA S w ≤ i ∧ dyC T 0 S (sA S w - 1) = 0 then 0 else sA S w) = h + 1 := by split <;> omega
            have z2 : ¬ (if tkd T w ≠ 3 ∧ sA S w ≠ 0 ∧ sA S w ≤ i + 1 ∧ dyC T 0 S (sA S w - 1) = 0 then 0 else sA S w) = h + 1 := by split <;> omega
            exact ⟨fun z => absurd z z1, fun z => absurd z z2⟩
          · have z : (sA S w ≤ i) ↔ (sA S w ≤ i + 1) := by omega
            simp only [z]
    · simp (disch := omega) only [nlit, nI_add, pk_mul, nC, nB, nT_le, nF_le, nT_lt, nF_lt, nF_eq, nT_eq, nM1_ne, nM1_lt, b2_0, b2_1, b2_nar, nar_0, nar_1, cond_true, if_true, if_false, ob_some]
      refine hk _ _ _ _ _ ⟨rfl, rfl, rfl, fun h hh => ?_, fun h q1 q2 => ?_, fun h hh => ?_⟩
      · by_cases e : h = i
        · subst e; rw [pk_us]
        · rw [pk_un e]; exact h1 h (by omega)
      · rw [pk_un (by omega)]; exact h2 h (by omega) q2
      · rw [h3 h hh]
        congr 1
        apply bs_ext
        intro w hw
        rw [Bool.eq_iff_iff]
        simp only [beq_iff_eq]
        by_cases q1 : sA S w = i + 1
        · have : ¬ dyC T 0 S (sA S w - 1) = 0 := by rw [q1]; exact c0
          simp [this]
        · have z : (sA S w ≤ i) ↔ (sA S w ≤ i + 1) := by omega
          simp only [z]
  · rintro k _ _ co ins _ ⟨rfl, rfl, rfl, h1, h2, h3⟩
    unfold fX4_passDay_11
    have h3 : Ins (dyA T 0 S) (tG T) ins := fun i hi => by
      rw [h3 i hi]
      congr 1
      apply bs_ext
      intro w hw
      have := hS.2.2.2.2.1 w
      unfold dyA
      simp only [this, true_and]
    have hO := bs_le (p := fun w => dyA T 0 S w == 0 && !(sZ S).testBit w) hG
    have hW := bs_le (p := fun w => tkd T w == 1) hG
    have hF := bs_le (p := fun w => (dyA T 0 S w == 0 && !(sZ S).testBit w) && tkd T w == 1) hG
    simp (disch := omega) only [nlit, nI_add, pk_mul, nC, nB, nT_le, nF_le, nT_lt, nF_lt, nF_eq, nT_eq, nM1_ne, nM1_lt, b2_0, b2_1, b2_nar, nar_0, nar_1, cond_true, if_true, if_false, ob_some, c_street hH hG hZ (fun w _ => Nat.le_trans dyA_le (hS.2.2.2.2.1 w)) h3, hC.2.2.2.2.2.1, q_and, bs_and, q_or]
    refine ok_some ⟨rfl, ?_, rfl, hs.2.2.1, h1, h3⟩
    show nI _ = nI (dyZ T 0 S)
    rw [bs_fresh]
  · rw [hs.2.2.2.2 i hi]
    congr 1
    apply bs_ext
    intro w hw
    by_cases e : sA S w = 0
    · simp [e]
    · have : ¬ (sA S w ≤ 0) := by omega
      simp [this]
end DY
