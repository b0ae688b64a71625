/-! n days, closed -/
def dyN (T : Ter) (c : Nat) (S : Sta) : Nat → Sta
  | 0 => S
  | n + 1 => dy T c (dyN T c S n)
def nC_ (T : Ter) (c : Nat) (S : Sta) (n h : Nat) : Nat := sC S h - tbu T h * (csT T (sD S) n + n * c)
def nA_ (T : Ter) (c : Nat) (S : Sta) (n w : Nat) : Nat := if tkd T w ≠ 3 ∧ sA S w ≠ 0 ∧ nC_ T c S n (sA S w - 1) = 0 then 0 else sA S w
def nZ_ (T : Ter) (c : Nat) (S : Sta) (n : Nat) : Nat := if n = 0 then sZ S else sZ S ||| bs (fun w => nA_ T c S n w == 0 && tkd T w == 1) (tG T)
theorem nC_mono {T : Ter} {c : Nat} {S : Sta} {n h : Nat} : nC_ T c S (n + 1) h ≤ nC_ T c S n h := by
  unfold nC_
  apply Nat.sub_le_sub_left
  apply Nat.mul_le_mul_left
  have : (n + 1) * c = n * c + c := Nat.succ_mul n c
  simp only [csT]
  omega
theorem dyN_closed {T : Ter} {c N : Nat} {S : Sta} (hT : WT T) (hS : WS T N S) (n : Nat) : sD (dyN T c S n) = sD S + n ∧ sB (dyN T c S n) = sB S ∧ (∀ h, sC (dyN T c S n) h = nC_ T c S n h) ∧ (∀ w, w < tG T → sA (dyN T c S n) w = nA_ T c S n w) ∧ (∀ w, tG T ≤ w → sA (dyN T c S n) w = 0) ∧ sZ (dyN T c S n) = nZ_ T c S n := by
  induction n with
  | zero =>
    refine ⟨rfl, rfl, fun h => ?_, fun w hw => ?_, hS.2.2.2.2.2.1, rfl⟩
    · unfold nC_; simp [csT, dyN]
    · unfold nA_
      rw [if_neg]
      · rfl
      · intro q
        have h1 := hS.2.2.2.2.2.2.2 w (sA S w - 1) hw (by omega) q.1
        have h2 : nC_ T c S 0 (sA S w - 1) = sC S (sA S w - 1) := by unfold nC_; simp [csT]
        omega
  | succ n ih =>
    obtain ⟨i1, i2, i3, i4, i5, i6⟩ := ih
    have eC : ∀ h, dyC T c (dyN T c S n) h = nC_ T c S (n + 1) h := by
      intro h
      unfold dyC
      rw [i3, i1]
      unfold nC_
      rw [Nat.sub_sub, ← Nat.mul_add]
      have : (n + 1) * c = n * c + c := Nat.succ_mul n c
      simp only [csT]
      congr 2
      omega
    have eA : ∀ w, w < tG T → dyA T c (dyN T c S n) w = nA_ T c S (n + 1) w := by
      intro w hw
      unfold dyA
      rw [i4 w hw]
      unfold nA_
      have hm := nC_mono (T := T) (c := c) (S := S) (n := n) (h := sA S w - 1)
      by_cases q1 : tkd T w ≠ 3 ∧ sA S w ≠ 0 ∧ nC_ T c S n (sA S w - 1) = 0
      · rw [if_pos q1, if_pos (show tkd T w ≠ 3 ∧ sA S w ≠ 0 ∧ nC_ T c S (n + 1) (sA S w - 1) = 0 from ⟨q1.1, q1.2.1, by omega⟩)]
        simp
      · rw [if_neg q1, eC]
    refine ⟨by show sD (dyN T c S n) + 1 = _; omega, i2, eC, eA, fun w hw => ?_, ?_⟩
    · exact Nat.le_zero.mp (Nat.le_trans dyA_le (Nat.le_of_eq (i5 w hw)))
    · show dyZ T c (dyN T c S n) = _
      unfold dyZ
      rw [i6, bs_ext (q := fun w => nA_ T c S (n + 1) w == 0 && tkd T w == 1) (fun w hw => by rw [eA w hw])]
      rw [show nZ_ T c S (n + 1) = sZ S ||| bs (fun w => nA_ T c S (n + 1) w == 0 && tkd T w == 1) (tG T) from if_neg (by omega)]
      unfold nZ_
      split
      · rfl
      · apply Nat.eq_of_testBit_eq
        intro u
        rw [Nat.testBit_or, Nat.testBit_or, Nat.testBit_or, bs_bit, bs_bit]
        have key : (nA_ T c S n u == 0) = true → (nA_ T c S (n + 1) u == 0) = true := by
          intro q
          have q : nA_ T c S n u = 0 := by simpa using q
          have hm := nC_mono (T := T) (c := c) (S := S) (n := n) (h := sA S u - 1)
          have : nA_ T c S (n + 1) u = 0 := by
            unfold nA_ at q ⊢
            split at q
            · rename_i z; rw [if_pos ⟨z.1, z.2.1, by omega⟩]
            · rw [q]; simp
          simp [this]
        cases e1 : (nA_ T c S n u == 0) <;> cases e2 : (nA_ T c S (n + 1) u == 0) <;> cases (sZ S).testBit u <;> cases decide (u < tG T) <;> cases (tkd T u == 1) <;> first | rfl | (rw [key e1] at e2; cases e2)
theorem dyN_WS {T : Ter} {c N : Nat} {S : Sta} (hT : WT T) (hS : WS T N S) (n : Nat) : WS T (N + n) (dyN T c S n) := by
  induction n with
  | zero => exact hS
  | succ n ih => exact dy_WS hT ih
section GO
variable {T : Ter} {S : Sta} {N : Nat} {tr hf ct bu wl kd gf wr cd lf lt cds s : Nat → Int32}
theorem m_goesOn {c n : Nat} (hT : WT T) (hS : WS T N S) (hN : N ≤ 1800) (hn : n ≤ 100) (hc3 : c ≤ 3) (hM : MT T tr hf ct bu wl kd gf wr cd lf lt cds) (hs : MS S s) : ok (fX9_goesOn (nI c) tr bu kd cd s (nI n)) (fun r => MS (dyN T c S n) r) := by
  unfold fX9_goesOn
  refine ok_for2 n (fun i a v => v = nI n ∧ MS (dyN T c S i) a) ?_ ?_ FU 0 s (nI n) (Nat.zero_le _) ⟨rfl, hs⟩ (by unfold FU; omega)
  · rintro k a _ i hlt ⟨rfl, ha⟩ hk
    unfold fX9_goesOn_2
    simp (disch := omega) only [nlit, nI_add, pk_mul, nC, nB, nT_le, nF_le, nT_lt, nF_lt, nF_eq, nT_eq, nM1_ne, nM1_lt, b2_0, b2_1, b2_nar, nar_0, nar_1, cond_true, if_true, if_false, ob_some]
    refine ok_bind (ok_mono (m_day hT (dyN_WS (c := c) hT hS i) (by omega) hc3 hM ha) (fun r hr => ?_))
    exact hk _ _ ⟨rfl, hr.2⟩
  · rintro k a _ ⟨rfl, ha⟩
    unfold fX9_goesOn_2
    simp (disch := omega) only [nlit, nI_add, pk_mul, nC, nB, nT_le, nF_le, nT_lt, nF_lt, nF_eq, nT_eq, nM1_ne, nM1_lt, b2_0, b2_1, b2_nar, nar_0, nar_1, cond_true, if_true, if_false, ob_some]
    exact ok_some ha
theorem m_copies {n1 n2 : Nat} {a1 a2 : Nat → Int32} {p q : Nat} (h1 : p + 13 ≤ n1) (h2 : q + 13 ≤ n2) (h3 : n1 < 10000) (h4 : n2 < 10000) : ok (fX9_copies n1 n2 a1 a2 (nI p) (nI q)) (fun r => (∀ j, j < 13 → r (q + j) = a1 (p + j)) ∧ (∀ j, (j < q ∨ q + 13 ≤ j) → r j = a2 j)) := by
  unfold fX9_copies
  refine ok_for3 13 (fun i a v1 v3 => v1 = nI p ∧ v3 = nI q ∧ (∀ j, j < i → a (q + j) = a1 (p + j)) ∧ (∀ j, (j < q ∨ q + 13 ≤ j) → a j = a2 j)) ?_ ?_ FU 0 a2 (nI p) (nI q) (Nat.zero_le _) ⟨rfl, rfl, fun j hj => by omega, fun j _ => rfl⟩ (by unfold FU; omega)
  · rintro k a _ _ i hlt ⟨rfl, rfl, h5, h6⟩ hk
    unfold fX9_copies_3
    simp (disch := omega) only [nlit, nI_add, pk_mul, nC, nB, nT_le, nF_le, nT_lt, nF_lt, nF_eq, nT_eq, nM1_ne, nM1_lt, b2_0, b2_1, b2_nar, nar_0, nar_1, cond_true, if_true, if_false, ob_some]
    refine hk _ _ _ ⟨rfl, rfl, fun j hj => ?_, fun j hj => ?_⟩
    · by_cases e : j = i
      · subst e; rw [pk_us]
      · rw [pk_un (by omega)]; exact h5 j (by omega)
    · rw [pk_un (by omega)]; exact h6 j hj
  · rintro k a _ _ ⟨rfl, rfl, h5, h6⟩
    unfold fX9_copies_3
    simp (disch := omega) only [nlit, nI_add, pk_mul, nC, nB, nT_le, nF_le, nT_lt, nF_lt, nF_eq, nT_eq, nM1_ne, nM1_lt, b2_0, b2_1, b2_nar, nar_0, nar_1, cond_true, if_true, if_false, ob_some]
    exact ok_some ⟨h5, h6⟩
theorem m_copy13 {a1 a2 : Nat → Int32} : ok (fX9_copies 13 13 a1 a2 (nI 0) (nI 0)) (fun r => ∀ j, j < 13 → r j = a1 j) :=
  ok_mono (m_copies (p := 0) (q := 0) (by decide) (by decide) (by decide) (by decide)) (fun r hr j hj => by simpa using hr.1 j hj)
/-- the first number below 100 with p, or -1 -/
def Fst (p : Nat → Prop) (r : Int32) : Prop := (∃ n, n < 100 ∧ p n ∧ (∀ m, m < n → ¬ p m) ∧ r = nI n) ∨ ((∀ m, m < 100 → ¬ p m) ∧ r = -1)
theorem Fst_uniq {p q : Nat → Prop} {r t : Int32} (h1 : Fst p r) (h2 : Fst q t) (h : ∀ n, n < 100 → (p n ↔ q n)) : r = t := by
  rcases h1 with ⟨n, n1, n2, n3, rfl⟩ | ⟨n1, rfl⟩
  · rcases h2 with ⟨m, m1, m2, m3, rfl⟩ | ⟨m1, rfl⟩
    · have : n = m := by
        rcases Nat.lt_trichotomy n m with q | q | q
        · exact absurd ((h n n1).mp n2) (m3 n q)
        · exact q
        · exact absurd ((h m m1).mpr m2) (n3 m q)
      rw [this]
    · exact absurd ((h n n1).mp n2) (m1 n n1)
  · rcases h2 with ⟨m, m1, m2, m3, rfl⟩ | ⟨m1, rfl⟩
    · exact absurd ((h m m1).mpr m2) (n1 m m1)
    · rfl
theorem m_emptyIn {h b : Nat} {bf : Nat → Int32} (hT : WT T) (hS : WS T N S) (hN : N ≤ 1800) (hh : h < tH T) (hb : b ≤ 100) (hM : MT T tr hf ct bu wl kd gf wr cd lf lt cds) (hs : MS S s) : ok (fX9_emptyIn (nI 0) tr bu kd cd s bf (nI h) (nI b)) (fun r => Fst (fun n => nC_ T 0 S n h < b) r.1 ∧ MS S r.2.1) := by
  have hH := hT.1
  unfold fX9_emptyIn
  refine ok_bind (ok_mono m_copy13 (fun y1 hy => ?_))
  have hy := MS_congr hs hy
  have fin : ∀ (a : Nat → Int32) (i : Nat), i ≤ 100 → (if i < 100 then nC_ T 0 S i h < b ∧ ∀ m, m < i → ¬ nC_ T 0 S m h < b else ∀ m, m < 100 → ¬ nC_ T 0 S m h < b) → ok (fX9_emptyIn_44 (nI 0) tr bu kd cd a y1 (nI i)) (fun r => Fst (fun n => nC_ T 0 S n h < b) r.1 ∧ MS S r.2.1) := by
    intro a i hi hp
    unfold fX9_emptyIn_44
    refine ok_bind (ok_mono m_copy13 (fun y2 hy2 => ?_))
    have hy2 := MS_congr hy hy2
    by_cases q : i < 100
    · rw [if_pos q] at hp
      simp (disch := omega) only [nlit, nI_add, pk_mul, nC, nB, nT_le, nF_le, nT_lt, nF_lt, nF_eq, nT_eq, nM1_ne, nM1_lt, b2_0, b2_1, b2_nar, nar_0, nar_1, cond_true, if_true, if_false, ob_some]
      exact ok_some ⟨Or.inl ⟨i, q, hp.1, hp.2, rfl⟩, hy2⟩
    · rw [if_neg q] at hp
      simp (disch := omega) only [nlit, nI_add, pk_mul, nC, nB, nT_le, nF_le, nT_lt, nF_lt, nF_eq, nT_eq, nM1_ne, nM1_lt, b2_0, b2_1, b2_nar, nar_0, nar_1, cond_true, if_true, if_false, ob_some]
      exact ok_some ⟨Or.inr ⟨hp, rfl⟩, hy2⟩
  refine ok_for4 100 (fun i a b1 v1 v2 => b1 = y1 ∧ v1 = nI h ∧ v2 = nI b ∧ MS (dyN T 0 S i) a ∧ ∀ m, m < i → ¬ nC_ T 0 S m h < b) ?_ ?_ FU 0 s y1 (nI h) (nI b) (Nat.zero_le _) ⟨rfl, rfl, rfl, hs, fun m hm => by omega⟩ (by unfold FU; omega)
  · rintro k a _ _ _ i hlt ⟨rfl, rfl, rfl, ha, hm⟩ hk
    unfold fX9_emptyIn_15
    have hw := dyN_WS (c := 0) hT hS i
    have e := (dyN_closed (c := 0) hT hS i).2.2.1 h
    have hl := hw.2.2.1 h (by omega)
    rw [e] at hl
    simp (disch := omega) only [nlit, nI_add, pk_mul, nC, nB, nT_le, nF_le, nT_lt, nF_lt, nF_eq, nT_eq, nM1_ne, nM1_lt, b2_0, b2_1, b2_nar, nar_0, nar_1, cond_true, if_true, if_false, ob_some, ha.2.2.2.1 h (by omega), e]
    by_cases q : nC_ T 0 S i h < b
    · simp (disch := omega) only [nlit, nI_add, pk_mul, nC, nB, nT_le, nF_le, nT_lt, nF_lt, nF_eq, nT_eq, nM1_ne, nM1_lt, b2_0, b2_1, b2_nar, nar_0, nar_1, cond_true, if_true, if_false, ob_some]
      exact fin a i (by omega) (by rw [if_pos hlt]; exact ⟨q, hm⟩)
    · simp (disch := omega) only [nlit, nI_add, pk_mul, nC, nB, nT_le, nF_le, nT_lt, nF_lt, nF_eq, nT_eq, nM1_ne, nM1_lt, b2_0, b2_1, b2_nar, nar_0, nar_1, cond_true, if_true, if_false, ob_some]
      refine ok_bind (ok_mono (m_day hT hw (by omega) (by decide) hM ha) (fun r hr => ?_))
      exact hk _ _ _ _ ⟨rfl, rfl, rfl, hr.2, fun m hm2 => by
        rcases Nat.lt_succ_iff_lt_or_eq.mp hm2 with z | rfl
        · exact hm m z
        · exact q⟩
  · rintro k a _ _ _ ⟨rfl, rfl, rfl, ha, hm⟩
    unfold fX9_emptyIn_15
    simp (disch := omega) only [nlit, nI_add, pk_mul, nC, nB, nT_le, nF_le, nT_lt, nF_lt, nF_eq, nT_eq, nM1_ne, nM1_lt, b2_0, b2_1, b2_nar, nar_0, nar_1, cond_true, if_true, if_false, ob_some]
    exact fin a 100 (by omega) (by rw [if_neg (by omega)]; exact hm)
theorem m_safeFor {w : Nat} {bf : Nat → Int32} (hT : WT T) (hS : WS T N S) (hN : N ≤ 1800) (hw : w < tG T) (hM : MT T tr hf ct bu wl kd gf wr cd lf lt cds) (hs : MS S s) : ok (fX9_safeFor (nI 0) tr bu kd cd s bf (nI w)) (fun r => (∃ t, Fst (fun n => nA_ T 0 S n w ≠ sA S w) t ∧ r.1 = if t = -1 then 1000 else t) ∧ MS S r.2.1) := by
  have hH := hT.1
  have hG := hT.2.1
  have haw := hS.2.2.2.2.1 w
  unfold fX9_safeFor
  refine ok_bind (ok_mono m_copy13 (fun y1 hy => ?_))
  have hy := MS_congr hs hy
  have fin : ∀ (a : Nat → Int32) (i : Nat), i ≤ 100 → (if i < 100 then nA_ T 0 S i w ≠ sA S w ∧ ∀ m, m < i → ¬ nA_ T 0 S m w ≠ sA S w else ∀ m, m < 100 → ¬ nA_ T 0 S m w ≠ sA S w) → ok (fX9_safeFor_55 (nI 0) tr bu kd cd a y1 (nI i)) (fun r => (∃ t, Fst (fun n => nA_ T 0 S n w ≠ sA S w) t ∧ r.1 = if t = -1 then 1000 else t) ∧ MS S r.2.1) := by
    intro a i hi hp
    unfold fX9_safeFor_55
    refine ok_bind (ok_mono m_copy13 (fun y2 hy2 => ?_))
    have hy2 := MS_congr hy hy2
    by_cases q : i < 100
    · rw [if_pos q] at hp
      simp (disch := omega) only [nlit, nI_add, pk_mul, nC, nB, nT_le, nF_le, nT_lt, nF_lt, nF_eq, nT_eq, nM1_ne, nM1_lt, b2_0, b2_1, b2_nar, nar_0, nar_1, cond_true, if_true, if_false, ob_some]
      refine ok_some ⟨⟨nI i, Or.inl ⟨i, q, hp.1, hp.2, rfl⟩, ?_⟩, hy2⟩
      simp (disch := omega) only [nlit, nI_add, pk_mul, nC, nB, nT_le, nF_le, nT_lt, nF_lt, nF_eq, nT_eq, nM1_ne, nM1_lt, b2_0, b2_1, b2_nar, nar_0, nar_1, cond_true, if_true, if_false, ob_some]
    · rw [if_neg q] at hp
      simp (disch := omega) only [nlit, nI_add, pk_mul, nC, nB, nT_le, nF_le, nT_lt, nF_lt, nF_eq, nT_eq, nM1_ne, nM1_lt, b2_0, b2_1, b2_nar, nar_0, nar_1, cond_true, if_true, if_false, ob_some]
      exact ok_some ⟨⟨-1, Or.inr ⟨hp, rfl⟩, rfl⟩, hy2⟩
  simp (disch := omega) only [nlit, nI_add, pk_mul, nC, nB, nT_le, nF_le, nT_lt, nF_lt, nF_eq, nT_eq, nM1_ne, nM1_lt, b2_0, b2_1, b2_nar, nar_0, nar_1, cond_true, if_true, if_false, ob_some, hs.2.2.2.2 w (by omega)]
  refine ok_for4 100 (fun i a b1 v1 v2 => b1 = y1 ∧ v1 = nI w ∧ v2 = nI (sA S w) ∧ MS (dyN T 0 S i) a ∧ ∀ m, m < i → ¬ nA_ T 0 S m w ≠ sA S w) ?_ ?_ FU 0 s y1 (nI w) (nI (sA S w)) (Nat.zero_le _) ⟨rfl, rfl, rfl, hs, fun m hm => by omega⟩ (by unfold FU; omega)
  · rintro k a _ _ _ i hlt ⟨rfl, rfl, rfl, ha, hm⟩ hk
    unfold fX9_safeFor_25
    have hws := dyN_WS (c := 0) hT hS i
    have e := (dyN_closed (c := 0) hT hS i).2.2.2.1 w hw
    have hl := hws.2.2.2.2.1 w
    rw [e] at hl
    simp (disch := omega) only [nlit, nI_add, pk_mul, nC, nB, nT_le, nF_le, nT_lt, nF_lt, nF_eq, nT_eq, nM1_ne, nM1_lt, b2_0, b2_1, b2_nar, nar_0, nar_1, cond_true, if_true, if_false, ob_some, ha.2.2.2.2 w (by omega), e]
    by_cases q : nA_ T 0 S i w = sA S w
    · simp (disch := omega) only [nlit, nI_add, pk_mul, nC, nB, nT_le, nF_le, nT_lt, nF_lt, nF_eq, nT_eq, nM1_ne, nM1_lt, b2_0, b2_1, b2_nar, nar_0, nar_1, cond_true, if_true, if_false, ob_some, q]
      refine ok_bind (ok_mono (m_day hT hws (by omega) (by decide) hM ha) (fun r hr => ?_))
      exact hk _ _ _ _ ⟨rfl, rfl, rfl, hr.2, fun m hm2 => by
        rcases Nat.lt_succ_iff_lt_or_eq.mp hm2 with z | rfl
        · exact hm m z
        · exact fun z => z q⟩
    · simp (disch := omega) only [nlit, nI_add, pk_mul, nC, nB, nT_le, nF_le, nT_lt, nF_lt, nF_eq, nT_eq, nM1_ne, nM1_lt, b2_0, b2_1, b2_nar, nar_0, nar_1, cond_true, if_true, if_false, ob_some]
      exact fin a i (by omega) (by rw [if_pos hlt]; exact ⟨q, hm⟩)
  · rintro k a _ _ _ ⟨rfl, rfl, rfl, ha, hm⟩
    unfold fX9_safeFor_25
    simp (disch := omega) only [nlit, nI_add, pk_mul, nC, nB, nT_le, nF_le, nT_lt, nF_lt, nF_eq, nT_eq, nM1_ne, nM1_lt, b2_0, b2_1, b2_nar, nar_0, nar_1, cond_true, if_true, if_false, ob_some]
    exact fin a 100 (by omega) (by rw [if_neg (by omega)]; exact hm)
end GO
