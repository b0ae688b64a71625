/-! what can be undone; the hand's calls -/
abbrev Pst : Type := Nat × (Nat → Sta)
def slotP (p n j : Nat) : Nat := (p + 16 - n + j) % 16
def CP (T : Ter) (Y : Pst) (I A : MI) (pn pk : Int32) : Prop := ∃ p, p < 16 ∧ pn = nI p ∧ pk = nI Y.1 ∧ ∀ j, j < Y.1 → CS T (Y.2 j) (I (64 + 3 * slotP p Y.1 j) 2) (I (64 + 3 * slotP p Y.1 j) 3) (I (64 + 3 * slotP p Y.1 j) 4) (A (65 + 3 * slotP p Y.1 j)) (A (66 + 3 * slotP p Y.1 j))
def MPs (Y : Pst) (done : Int32) (un : Nat → Int32) : Prop := done = nI Y.1 ∧ ∀ j, j < Y.1 → MS (Y.2 j) (fun i => un (13 * j + i))
def WPs (T : Ter) (N : Nat) (Y : Pst) : Prop := Y.1 ≤ 16 ∧ ∀ j, j < Y.1 → WS T N (Y.2 j)
def pushP (Y : Pst) (S : Sta) : Pst := if Y.1 < 16 then (Y.1 + 1, fun j => if j = Y.1 then S else Y.2 j) else (16, fun j => if j = 15 then S else Y.2 (j + 1))
theorem WS_mono {T : Ter} {N M : Nat} {S : Sta} (h : WS T N S) (hm : N ≤ M) : WS T M S := ⟨Nat.le_trans h.1 hm, h.2⟩
theorem WPs_mono {T : Ter} {N M : Nat} {Y : Pst} (h : WPs T N Y) (hm : N ≤ M) : WPs T M Y := ⟨h.1, fun j hj => WS_mono (h.2 j hj) hm⟩
theorem push_W {T : Ter} {N : Nat} {Y : Pst} {S : Sta} (h : WPs T N Y) (hS : WS T N S) : WPs T N (pushP Y S) := by
  have h16 := h.1
  unfold pushP
  split
  · refine ⟨by show Y.1 + 1 ≤ 16; omega, fun j hj => ?_⟩
    have hj : j < Y.1 + 1 := hj
    show WS T N (if j = Y.1 then S else Y.2 j)
    split
    · exact hS
    · exact h.2 j (by omega)
  · refine ⟨Nat.le_refl _, fun j hj => ?_⟩
    have hj : j < 16 := hj
    show WS T N (if j = 15 then S else Y.2 (j + 1))
    split
    · exact hS
    · exact h.2 (j + 1) (by omega)
theorem c_copyFrom {T : Ter} {S : Sta} {z d b z2 d2 b2 : Int32} {coal inside coal2 inside2 : Nat → Int32} (hH : tH T ≤ 5) (hs : CS T S z d b coal inside) : ok (fX4_copyFrom z d b coal inside z2 d2 b2 coal2 inside2) (fun r => CS T S r.1 r.2.1 r.2.2.1 r.2.2.2.1 r.2.2.2.2) := by
  unfold fX4_copyFrom
  refine ok_for5 5 (fun i _ _ _ c n => (∀ j, j < i → c j = coal j) ∧ (∀ j, j < i → n j = inside j)) ?_ ?_ FU 0 z2 d2 b2 coal2 inside2 (Nat.zero_le _) ⟨fun j hj => by omega, fun j hj => by omega⟩ (by unfold FU; omega)
  · rintro k a1 a2 a3 c n i hlt ⟨h1, h2⟩ hk
    unfold fX4_copyFrom_2
    simp (disch := omega) only [nlit, nI_add, pk_mul, nC, nB, nT_le, nF_le, nT_lt, nF_lt, nF_eq, nT_eq, nM1_ne, nM1_lt, b2_0, b2_1, b2_nar, nar_0, nar_1, cond_true, if_true, if_false, ob_some]
    refine hk _ _ _ _ _ ⟨fun j hj => ?_, fun j hj => ?_⟩
    · by_cases q : j = i
      · subst q; rw [pk_us]
      · rw [pk_un q]; exact h1 j (by omega)
    · by_cases q : j = i
      · subst q; rw [pk_us]
      · rw [pk_un q]; exact h2 j (by omega)
  · rintro k a1 a2 a3 c n ⟨h1, h2⟩
    unfold fX4_copyFrom_2
    simp (disch := omega) only [nlit, nI_add, pk_mul, nC, nB, nT_le, nF_le, nT_lt, nF_lt, nF_eq, nT_eq, nM1_ne, nM1_lt, b2_0, b2_1, b2_nar, nar_0, nar_1, cond_true, if_true, if_false, ob_some]
    exact ok_some ⟨hs.1, hs.2.1, hs.2.2.1, fun h hh => (h1 h (by omega)).trans (hs.2.2.2.1 h hh), fun h hh => (h2 h hh).trans (hs.2.2.2.2 h hh)⟩
/-- the cells of the past behind a change of its p-th state -/
theorem rI_at {I : MI} {p q k : Nat} {y : Int32 × Int32 × Int32 × (Nat → Int32) × (Nat → Int32)} (h : q ≠ p) : gp I (rI p y) (64 + 3 * q) k = I (64 + 3 * q) k := by
  have e : Nat.beq (64 + 3 * q) (64 + 3 * p) = false := nb_ne (by omega)
  simp only [rI, gp, e, Bool.false_and, cond_false]
theorem rA_at {A : MI} {p q : Nat} {y : Int32 × Int32 × Int32 × (Nat → Int32) × (Nat → Int32)} (h : q ≠ p) : gm A (rA p y) (65 + 3 * q) = A (65 + 3 * q) ∧ gm A (rA p y) (66 + 3 * q) = A (66 + 3 * q) := by
  have e1 : Nat.beq (65 + 3 * q) (65 + 3 * p) = false := nb_ne (by omega)
  have e2 : Nat.beq (65 + 3 * q) (66 + 3 * p) = false := nb_ne (by omega)
  have e3 : Nat.beq (66 + 3 * q) (65 + 3 * p) = false := nb_ne (by omega)
  have e4 : Nat.beq (66 + 3 * q) (66 + 3 * p) = false := nb_ne (by omega)
  constructor
  · simp only [rA, gm, e1, e2, cond_false]
  · simp only [rA, gm, e3, e4, cond_false]
theorem rI_self {I : MI} {p : Nat} {y : Int32 × Int32 × Int32 × (Nat → Int32) × (Nat → Int32)} : gp I (rI p y) (64 + 3 * p) 2 = y.1 ∧ gp I (rI p y) (64 + 3 * p) 3 = y.2.1 ∧ gp I (rI p y) (64 + 3 * p) 4 = y.2.2.1 := by
  have e : Nat.beq (64 + 3 * p) (64 + 3 * p) = true := Nat.beq_refl _
  refine ⟨?_, ?_, ?_⟩ <;> simp only [rI, gp, e, Bool.true_and] <;> rfl
theorem rA_self {A : MI} {p : Nat} {y : Int32 × Int32 × Int32 × (Nat → Int32) × (Nat → Int32)} : gm A (rA p y) (65 + 3 * p) = y.2.2.2.1 ∧ gm A (rA p y) (66 + 3 * p) = y.2.2.2.2 := by
  have e : Nat.beq (65 + 3 * p) (65 + 3 * p) = true := Nat.beq_refl _
  have e2 : Nat.beq (66 + 3 * p) (65 + 3 * p) = false := nb_ne (by omega)
  have e3 : Nat.beq (66 + 3 * p) (66 + 3 * p) = true := Nat.beq_refl _
  exact ⟨by simp only [rA, gm, e, cond_true], by simp only [rA, gm, e2, e3, cond_true, cond_false]⟩
/-- what a mover leaves in the class -/
def MvC (T : Ter) (S' : Sta) (Y' : Pst) (I A : MI) (pn pk z d b : Int32) (coal inside : Nat → Int32) (dI : List (Nat × Nat × Int32)) (dA : List (Nat × (Nat → Int32))) : Prop := CS T S' z d b coal inside ∧ CP T Y' (gp I dI) (gm A dA) pn pk ∧ (∀ e ∈ dI, 64 ≤ e.1 ∧ e.1 < 112) ∧ (∀ e ∈ dA, 64 ≤ e.1 ∧ e.1 < 112)
def MvM (S' : Sta) (Y' : Pst) (done : Int32) (s un : Nat → Int32) : Prop := MS S' s ∧ MPs Y' done un
theorem MvC_no {T : Ter} {S : Sta} {Y : Pst} {I A : MI} {pn pk z d b : Int32} {coal inside : Nat → Int32} (hs : CS T S z d b coal inside) (hP : CP T Y I A pn pk) : MvC T S Y I A pn pk z d b coal inside [] [] := ⟨hs, hP, (fun e he => by cases he), (fun e he => by cases he)⟩
theorem c_remember {T : Ter} {S : Sta} {Y : Pst} {I A : MI} {N : Nat} {pn pk z d b z2 d2 b2 : Int32} {coal inside coal2 inside2 : Nat → Int32} (hH : tH T ≤ 5) (hs : CS T S z d b coal inside) (hP : CP T Y I A pn pk) (hY : WPs T N Y) : ok (fX8_remember z d b coal inside z2 d2 b2 coal2 inside2 pn pk) (fun r => CP T (pushP Y S) (gp I r.2.2.1) (gm A r.2.2.2) r.1 r.2.1 ∧ (∀ e ∈ r.2.2.1, 64 ≤ e.1 ∧ e.1 < 112) ∧ (∀ e ∈ r.2.2.2, 64 ≤ e.1 ∧ e.1 < 112)) := by
  obtain ⟨p, hp, rfl, rfl, hc⟩ := hP
  have h16 := hY.1
  unfold fX8_remember
  simp (disch := omega) only [nlit, nI_add, pk_mul, nC, nB, nT_le, nF_le, nT_lt, nF_lt, nF_eq, nT_eq, nM1_ne, nM1_lt, b2_0, b2_1, b2_nar, nar_0, nar_1, cond_true, if_true, if_false, ob_some]
  refine ok_bind (ok_mono (c_copyFrom hH hs) (fun y hy => ok_some ⟨?_, rI_in hp, rA_in hp⟩))
  have en : nI (p + 1) - nI (p + 1) / nI 16 * nI 16 = nI ((p + 1) % 16) := pk_rem (by omega) (by omega) (by omega)
  have em : imin (nI (Y.1 + 1)) (nI 16) = nI (min (Y.1 + 1) 16) := nmin (by omega) (by omega)
  show CP T (pushP Y S) (gp I (rI p y)) (gm A (rA p y)) (nI (p + 1) - nI (p + 1) / nI 16 * nI 16) (imin (nI (Y.1 + 1)) (nI 16))
  rw [en, em]
  have sub : ∀ q j, q ≠ p → CS T (Y.2 j) (I (64 + 3 * q) 2) (I (64 + 3 * q) 3) (I (64 + 3 * q) 4) (A (65 + 3 * q)) (A (66 + 3 * q)) → CS T (Y.2 j) (gp I (rI p y) (64 + 3 * q) 2) (gp I (rI p y) (64 + 3 * q) 3) (gp I (rI p y) (64 + 3 * q) 4) (gm A (rA p y) (65 + 3 * q)) (gm A (rA p y) (66 + 3 * q)) := by
    intro q j hq h
    rw [rI_at hq, rI_at hq, rI_at hq, (rA_at hq).1, (rA_at hq).2]
    exact h
  have new : CS T S (gp I (rI p y) (64 + 3 * p) 2) (gp I (rI p y) (64 + 3 * p) 3) (gp I (rI p y) (64 + 3 * p) 4) (gm A (rA p y) (65 + 3 * p)) (gm A (rA p y) (66 + 3 * p)) := by
    rw [rI_self.1, rI_self.2.1, rI_self.2.2, rA_self.1, rA_self.2]
    exact hy
  refine ⟨(p + 1) % 16, Nat.mod_lt _ (by decide), rfl, ?_, fun j hj => ?_⟩
  · unfold pushP
    split
    · show nI _ = nI (Y.1 + 1); congr 1; omega
    · show nI _ = nI 16; congr 1; omega
  · unfold pushP at hj ⊢
    by_cases q : Y.1 < 16
    · rw [if_pos q] at hj ⊢
      have hj : j < Y.1 + 1 := hj
      have es : slotP ((p + 1) % 16) (Y.1 + 1) j = slotP p Y.1 j := by unfold slotP; omega
      show CS T (if j = Y.1 then S else Y.2 j) (gp I (rI p y) (64 + 3 * slotP ((p + 1) % 16) (Y.1 + 1) j) 2) (gp I (rI p y) (64 + 3 * slotP ((p + 1) % 16) (Y.1 + 1) j) 3) (gp I (rI p y) (64 + 3 * slotP ((p + 1) % 16) (Y.1 + 1) j) 4) (gm A (rA p y) (65 + 3 * slotP ((p + 1) % 16) (Y.1 + 1) j)) (gm A (rA p y) (66 + 3 * slotP ((p + 1) % 16) (Y.1 + 1) j))
      rw [es]
      by_cases e : j = Y.1
      · have e2 : slotP p Y.1 j = p := by unfold slotP; omega
        rw [if_pos e, e2]
        exact new
      · rw [if_neg e]
        exact sub _ _ (by unfold slotP; omega) (hc j (by omega))
    · rw [if_neg q] at hj ⊢
      have hj : j < 16 := hj
      show CS T (if j = 15 then S else Y.2 (j + 1)) (gp I (rI p y) (64 + 3 * slotP ((p + 1) % 16) 16 j) 2) (gp I (rI p y) (64 + 3 * slotP ((p + 1) % 16) 16 j) 3) (gp I (rI p y) (64 + 3 * slotP ((p + 1) % 16) 16 j) 4) (gm A (rA p y) (65 + 3 * slotP ((p + 1) % 16) 16 j)) (gm A (rA p y) (66 + 3 * slotP ((p + 1) % 16) 16 j))
      by_cases e : j = 15
      · have e2 : slotP ((p + 1) % 16) 16 j = p := by unfold slotP; omega
        rw [if_pos e, e2]
        exact new
      · have es : slotP ((p + 1) % 16) 16 j = slotP p Y.1 (j + 1) := by unfold slotP; omega
        rw [if_neg e, es]
        exact sub _ _ (by unfold slotP; omega) (hc (j + 1) (by omega))
theorem m_keeps {S : Sta} {Y : Pst} {done : Int32} {s un : Nat → Int32} (hY : Y.1 ≤ 16) (hm : MS S s) (hP : MPs Y done un) : ok (fX9_keeps s done un) (fun r => MPs (pushP Y S) r.1 r.2) := by
  obtain ⟨rfl, hc⟩ := hP
  have fin : ∀ (u : Nat → Int32) (n : Nat) (f : Nat → Sta), n < 16 → (∀ j, j < n → MS (f j) (fun i => u (13 * j + i))) → ok (fX9_keeps_49 s (nI n) u) (fun r => MPs (n + 1, fun j => if j = n then S else f j) r.1 r.2) := by
    intro u n f hn hf
    unfold fX9_keeps_49
    simp (disch := omega) only [nlit, nI_add, pk_mul, nC, nB, nT_le, nF_le, nT_lt, nF_lt, nF_eq, nT_eq, nM1_ne, nM1_lt, b2_0, b2_1, b2_nar, nar_0, nar_1, cond_true, if_true, if_false, ob_some]
    refine ok_bind (ok_mono (m_copies (p := 0) (q := 13 * n) (by omega) (by omega) (by omega) (by omega)) (fun r hr => ok_some ⟨rfl, fun j hj => ?_⟩))
    have hj : j < n + 1 := hj
    show MS (if j = n then S else f j) (fun i => r (13 * j + i))
    by_cases e : j = n
    · rw [if_pos e, e]
      exact MS_congr hm (fun i hi => by rw [hr.1 i hi, Nat.zero_add])
    · rw [if_neg e]
      exact MS_congr (hf j (by omega)) (fun i hi => hr.2 _ (by omega))
  unfold fX9_keeps
  by_cases q : Y.1 < 16
  · simp (disch := omega) only [nlit, nI_add, pk_mul, nC, nB, nT_le, nF_le, nT_lt, nF_lt, nF_eq, nT_eq, nM1_ne, nM1_lt, b2_0, b2_1, b2_nar, nar_0, nar_1, cond_true, if_true, if_false, ob_some]
    unfold pushP
    rw [if_pos q]
    exact fin un Y.1 Y.2 q hc
  · have e : Y.1 = 16 := by omega
    rw [e]
    simp only [nlit, if_true]
    unfold pushP
    rw [if_neg q]
    refine ok_for2 195 (fun i d u => d = nI 16 ∧ (∀ k, k < i → u k = un (k + 13)) ∧ (∀ k, i ≤ k → u k = un k)) ?_ ?_ FU 0 (nI 16) un (Nat.zero_le _) ⟨rfl, fun k hk => by omega, fun k _ => rfl⟩ (by unfold FU; omega)
    · rintro k d u i hlt ⟨rfl, h1, h2⟩ hk
      unfold fX9_keeps_11
      simp (disch := omega) only [nlit, nI_add, pk_mul, nC, nB, nT_le, nF_le, nT_lt, nF_lt, nF_eq, nT_eq, nM1_ne, nM1_lt, b2_0, b2_1, b2_nar, nar_0, nar_1, cond_true, if_true, if_false, ob_some]
      refine hk _ _ ⟨rfl, fun j hj => ?_, fun j hj => ?_⟩
      · by_cases z : j = i
        · subst z; rw [pk_us]; exact h2 _ (by omega)
        · rw [pk_un z]; exact h1 j (by omega)
      · rw [pk_un (by omega)]; exact h2 j (by omega)
    · rintro k d u ⟨rfl, h1, h2⟩
      unfold fX9_keeps_11
      simp (disch := omega) only [nlit, nI_add, pk_mul, nC, nB, nT_le, nF_le, nT_lt, nF_lt, nF_eq, nT_eq, nM1_ne, nM1_lt, b2_0, b2_1, b2_nar, nar_0, nar_1, cond_true, if_true, if_false, ob_some, nsub]
      have := fin u 15 (fun j => Y.2 (j + 1)) (by omega) (fun j hj => MS_congr (hc (j + 1) (by omega)) (fun i hi => by rw [h1 _ (by omega)]; congr 1; omega))
      exact this
def brS (T : Ter) (S : Sta) (h : Nat) : Sta := (sD S, sZ S, sB S + 1, fun k => if k = h then min (sC S h + tS T) 99 else sC S k, sA S)
theorem brS_WS {T : Ter} {S : Sta} {N h : Nat} (hT : WT T) (hS : WS T N S) (hh : h < tH T) : WS T N (brS T S h) := by
  have hk := hT.2.2.1
  refine ⟨hS.1, hS.2.1, fun k hk2 => ?_, fun k hk2 => ?_, hS.2.2.2.2.1, hS.2.2.2.2.2.1, hS.2.2.2.2.2.2.1, fun w k hw e hk3 => ?_⟩
  · show (if k = h then min (sC S h + tS T) 99 else sC S k) ≤ 99
    split
    · omega
    · exact hS.2.2.1 k hk2
  · show (if k = h then min (sC S h + tS T) 99 else sC S k) = 0
    rw [if_neg (by omega)]; exact hS.2.2.2.1 k hk2
  · show 0 < (if k = h then min (sC S h + tS T) 99 else sC S k)
    split
    · omega
    · exact hS.2.2.2.2.2.2.2 w k hw e hk3
theorem c_sack {T : Ter} {S : Sta} {N h : Nat} {z d : Int32} {coal inside : Nat → Int32} (hT : WT T) (hS : WS T N S) (hs : CS T S z d (sB S) coal inside) (hh : h < tH T) : ok (fX4_addSack (nI (tS T)) (sB S) coal (nI h)) (fun r => CS T (brS T S h) z d r.1 r.2 inside ∧ r.2 h = nI (min (sC S h + tS T) 99)) := by
  have hH := hT.1
  have hk := hT.2.2.1
  have hc := hS.2.2.1 h (by omega)
  unfold fX4_addSack
  simp (disch := omega) only [nlit, nI_add, pk_mul, nC, nB, nT_le, nF_le, nT_lt, nF_lt, nF_eq, nT_eq, nM1_ne, nM1_lt, b2_0, b2_1, b2_nar, nar_0, nar_1, cond_true, if_true, if_false, ob_some, hs.2.2.2.1 h hh, nmin]
  refine ok_some ⟨⟨hs.1, hs.2.1, rfl, fun k hk2 => ?_, hs.2.2.2.2⟩, pk_us⟩
  show upd coal h (nI (min (sC S h + tS T) 99)) k = nI (if k = h then min (sC S h + tS T) 99 else sC S k)
  by_cases z : k = h
  · rw [if_pos z, z, pk_us]
  · rw [if_neg z, pk_un z]; exact hs.2.2.2.1 k hk2
theorem m_brings {T : Ter} {S : Sta} {N h : Nat} {tr s : Nat → Int32} (hT : WT T) (hS : WS T N S) (hm : MS S s) (ht : tr 2 = nI (tS T)) (hh : h < tH T) : ok (fX9_brings tr s (nI h)) (fun r => MS (brS T S h) r ∧ r (3 + h) = nI (min (sC S h + tS T) 99)) := by
  have hH := hT.1
  have hk := hT.2.2.1
  have hc := hS.2.2.1 h (by omega)
  unfold fX9_brings
  simp (disch := omega) only [nlit, nI_add, pk_mul, nC, nB, nT_le, nF_le, nT_lt, nF_lt, nF_eq, nT_eq, nM1_ne, nM1_lt, b2_0, b2_1, b2_nar, nar_0, nar_1, cond_true, if_true, if_false, ob_some, hm.2.2.2.1 h (by omega), ht, nmin, Nat.min_comm 99]
  refine ok_some ⟨⟨?_, ?_, ?_, fun k hk2 => ?_, fun w hw => ?_⟩, ?_⟩
  · rw [pk_un (by omega), pk_un (by omega)]; exact hm.1
  · rw [pk_un (by omega), pk_un (by omega)]; exact hm.2.1
  · rw [pk_us, pk_un (by omega), hm.2.2.1]; rfl
  · show _ = nI (if k = h then min (sC S h + tS T) 99 else sC S k)
    rw [pk_un (by omega)]
    by_cases z : k = h
    · rw [if_pos z, z, pk_us]
    · rw [if_neg z, pk_un (by omega)]; exact hm.2.2.2.1 k hk2
  · rw [pk_un (by omega), pk_un (by omega)]; exact hm.2.2.2.2 w hw
  · rw [pk_un (by omega), pk_us]
section MV
variable {T : Ter} {S : Sta} {Y : Pst} {N : Nat} {I A : MI} {pn pk catB wanB len br oz od ob : Int32} {oc oi cold hf ct bu be kd gf fo code coal inside : Nat → Int32}
variable {tr hf' ct' bu' wl kd' gf' wr cd lf lt cds s un : Nat → Int32} {done th : Int32}
theorem p_up (v1 : Int32) (hT : WT T) (hS : WS T N S) (hY : WPs T N Y) (hs : CS T S (nI (sZ S)) (nI (sD S)) br coal inside) (hP : CP T Y I A pn pk) (hM : MT T tr hf' ct' bu' wl kd' gf' wr cd lf lt cds) (hm : MS S s) (hQ : MPs Y done un) :
    ∃ (a : Int32) (S' : Sta) (Y' : Pst), WS T N S' ∧ WPs T N Y' ∧ ok (fX8_up oz od ob oc oi pn pk (nI (sZ S)) (nI (sD S)) br (nI (tG T)) coal inside v1) (fun r => r.1 = a ∧ MvC T S' Y' I A r.2.1 r.2.2.1 r.2.2.2.1 r.2.2.2.2.1 r.2.2.2.2.2.1 r.2.2.2.2.2.2.2.1 r.2.2.2.2.2.2.2.2.1 r.2.2.2.2.2.2.2.2.2.1 r.2.2.2.2.2.2.2.2.2.2 ∧ r.2.2.2.2.2.2.1 = nI (tG T)) ∧ ok (fX9_up tr th done s un v1) (fun r => r.1 = a ∧ MvM S' Y' r.2.2.1 r.2.2.2.1 r.2.2.2.2) := by
  have hH := hT.1
  have hG := hT.2.1
  have no : ∃ (a : Int32) (S' : Sta) (Y' : Pst), WS T N S' ∧ WPs T N Y' ∧ ok (some (nI 0, pn, pk, nI (sZ S), nI (sD S), br, nI (tG T), coal, inside, ([] : List (Nat × Nat × Int32)), ([] : List (Nat × (Nat → Int32))))) (fun r => r.1 = a ∧ MvC T S' Y' I A r.2.1 r.2.2.1 r.2.2.2.1 r.2.2.2.2.1 r.2.2.2.2.2.1 r.2.2.2.2.2.2.2.1 r.2.2.2.2.2.2.2.2.1 r.2.2.2.2.2.2.2.2.2.1 r.2.2.2.2.2.2.2.2.2.2 ∧ r.2.2.2.2.2.2.1 = nI (tG T)) ∧ ok (some (nI 0, nI 0, done, s, un)) (fun r => r.1 = a ∧ MvM S' Y' r.2.2.1 r.2.2.2.1 r.2.2.2.2) :=
    ⟨nI 0, S, Y, hS, hY, ok_some ⟨rfl, MvC_no hs hP, rfl⟩, ok_some ⟨rfl, hm, hQ⟩⟩
  unfold fX8_up fX9_up
  simp (disch := omega) only [nlit, nI_add, pk_mul, nC, nB, nT_le, nF_le, nT_lt, nF_lt, nF_eq, nT_eq, nM1_ne, nM1_lt, b2_0, b2_1, b2_nar, nar_0, nar_1, cond_true, if_true, if_false, ob_some, m_isGuest hM.2.1 hG]
  cases q : vld v1 (tG T)
  · have e : fX4_canClimb (nI (tG T)) inside v1 = some (nI 0) := by
      unfold fX4_canClimb; rw [c_hasG hG, q]; rfl
    rw [e]
    exact no
  · obtain ⟨w, hw, rfl⟩ := isIn hG q
    have ha := hS.2.2.2.2.1 w
    simp (disch := omega) only [nlit, nI_add, pk_mul, nC, nB, nT_le, nF_le, nT_lt, nF_lt, nF_eq, nT_eq, nM1_ne, nM1_lt, b2_0, b2_1, b2_nar, nar_0, nar_1, cond_true, if_true, if_false, ob_some, reduceCtorEq, c_climb hT hS hs hw, hm.2.2.2.2 w (by omega)]
    by_cases z : sA S w = 0
    · simp only [z, if_true, beq_self_eq_true, Bool.not_true]
      exact no
    · have e : (sA S w == 0) = false := by simpa using z
      simp (disch := omega) only [nlit, nI_add, pk_mul, nC, nB, nT_le, nF_le, nT_lt, nF_lt, nF_eq, nT_eq, nM1_ne, nM1_lt, b2_0, b2_1, b2_nar, nar_0, nar_1, cond_true, if_true, if_false, ob_some, e, Bool.not_false, reduceCtorEq]
      refine ⟨nI 1, mv S w 0, pushP Y S, mv_WS hS hw (Nat.zero_le _) (fun _ => rfl) (fun k e => by omega), push_W hY hS, ?_, ?_⟩
      · refine ok_bind (ok_mono (c_remember hH hs hP hY) (fun y hy => ok_bind (ok_mono (c_move (h := 0) hG hw hs.2.2.2.2 rfl (by omega)) (fun y4 hy4 => ok_some ⟨rfl, ⟨mv_CS hs hy4, hy.1, hy.2.1, hy.2.2⟩, rfl⟩))))
      · refine ok_bind (ok_mono (m_keeps hY.1 hm hQ) (fun y hy => ok_some ⟨rfl, mv_MS hm (by omega), hy⟩))
theorem p_bring (v1 : Int32) (hT : WT T) (hS : WS T N S) (hY : WPs T N Y) (hs : CS T S (nI (sZ S)) (nI (sD S)) (sB S) coal inside) (hP : CP T Y I A pn pk) (hM : MT T tr hf' ct' bu' wl kd' gf' wr cd lf lt cds) (hm : MS S s) (hQ : MPs Y done un) :
    ∃ (a : Int32) (S' : Sta) (Y' : Pst), WS T N S' ∧ WPs T N Y' ∧ ok (fX8_bring oz od ob oc oi pn pk (nI (sZ S)) (nI (sD S)) (sB S) (nI (tH T)) (nI (tS T)) coal inside v1) (fun r => r.1 = a ∧ MvC T S' Y' I A r.2.1 r.2.2.1 r.2.2.2.1 r.2.2.2.2.1 r.2.2.2.2.2.1 r.2.2.2.2.2.2.2.2.1 r.2.2.2.2.2.2.2.2.2.1 r.2.2.2.2.2.2.2.2.2.2.1 r.2.2.2.2.2.2.2.2.2.2.2 ∧ r.2.2.2.2.2.2.1 = nI (tH T) ∧ r.2.2.2.2.2.2.2.1 = nI (tS T)) ∧ ok (fX9_bring tr th done s un v1) (fun r => r.1 = a ∧ MvM S' Y' r.2.2.1 r.2.2.2.1 r.2.2.2.2) := by
  have hH := hT.1
  have hk := hT.2.2.1
  unfold fX8_bring fX9_bring
  simp (disch := omega) only [nlit, nI_add, pk_mul, nC, nB, nT_le, nF_le, nT_lt, nF_lt, nF_eq, nT_eq, nM1_ne, nM1_lt, b2_0, b2_1, b2_nar, nar_0, nar_1, cond_true, if_true, if_false, ob_some, m_isHole hM.1 hH, c_hasH hH]
  cases q : vld v1 (tH T)
  · exact ⟨-nI 1, S, Y, hS, hY, ok_some ⟨rfl, MvC_no hs hP, rfl, rfl⟩, ok_some ⟨rfl, hm, hQ⟩⟩
  · obtain ⟨h, hh, rfl⟩ := isIn hH q
    simp only [reduceCtorEq, if_false]
    have hc := hS.2.2.1 h (by omega)
    refine ⟨nI (min (sC S h + tS T) 99), brS T S h, pushP Y S, brS_WS hT hS hh, push_W hY hS, ?_, ?_⟩
    · refine ok_bind (ok_mono (c_remember hH hs hP hY) (fun y hy => ok_bind (ok_mono (c_sack hT hS hs hh) (fun y4 hy4 => ?_))))
      simp (disch := omega) only [nlit, nI_add, pk_mul, nC, nB, nT_le, nF_le, nT_lt, nF_lt, nF_eq, nT_eq, nM1_ne, nM1_lt, b2_0, b2_1, b2_nar, nar_0, nar_1, cond_true, if_true, if_false, ob_some, hy4.2]
      exact ok_some ⟨rfl, ⟨hy4.1, hy.1, hy.2.1, hy.2.2⟩, rfl, rfl⟩
    · refine ok_bind (ok_mono (m_keeps hY.1 hm hQ) (fun y hy => ok_bind (ok_mono (m_brings hT hS hm hM.2.2.1 hh) (fun y4 hy4 => ?_))))
      simp (disch := omega) only [nlit, nI_add, pk_mul, nC, nB, nT_le, nF_le, nT_lt, nF_lt, nF_eq, nT_eq, nM1_ne, nM1_lt, b2_0, b2_1, b2_nar, nar_0, nar_1, cond_true, if_true, if_false, ob_some, hy4.2]
      exact ok_some ⟨rfl, hy4.1, hy⟩
theorem p_day (hT : WT T) (hS : WS T N S) (hN : N ≤ 1800) (hY : WPs T N Y) (hC : CT T (nI (tN T)) (nI (tH T)) (nI (tG T)) (nI (tS T)) catB wanB len cold hf ct bu be kd gf fo code) (hs : CS T S (nI (sZ S)) (nI (sD S)) br coal inside) (hP : CP T Y I A pn pk) (hM : MT T tr hf' ct' bu' wl kd' gf' wr cd lf lt cds) (hm : MS S s) (hQ : MPs Y done un) :
    ∃ (a : Int32) (S' : Sta) (Y' : Pst), WS T (N + 1) S' ∧ WPs T (N + 1) Y' ∧ ok (fX8_day oz od ob oc oi pn pk (nI (sZ S)) (nI (sD S)) br (nI (tN T)) (nI (tH T)) (nI (tG T)) catB wanB coal inside cold bu) (fun r => r.1 = a ∧ MvC T S' Y' I A r.2.1 r.2.2.1 r.2.2.2.1 r.2.2.2.2.1 r.2.2.2.2.2.1 r.2.2.2.2.2.2.2.2.2.2.2.1 r.2.2.2.2.2.2.2.2.2.2.2.2.1 r.2.2.2.2.2.2.2.2.2.2.2.2.2.2.2.1 r.2.2.2.2.2.2.2.2.2.2.2.2.2.2.2.2 ∧ r.2.2.2.2.2.2.1 = nI (tN T) ∧ r.2.2.2.2.2.2.2.1 = nI (tH T) ∧ r.2.2.2.2.2.2.2.2.1 = nI (tG T) ∧ r.2.2.2.2.2.2.2.2.2.1 = catB ∧ r.2.2.2.2.2.2.2.2.2.2.1 = wanB ∧ r.2.2.2.2.2.2.2.2.2.2.2.2.2.1 = cold ∧ r.2.2.2.2.2.2.2.2.2.2.2.2.2.2.1 = bu) ∧ ok (fX9_day (nI 0) tr bu' kd' cd th done s un) (fun r => r.1 = a ∧ MvM S' Y' r.2.2.1 r.2.2.2.1 r.2.2.2.2) := by
  have hH := hT.1
  refine ⟨nI (bs (fun w => (dyA T 0 S w == 0 && !(sZ S).testBit w) && tkd T w == 1) (tG T)), dy T 0 S, pushP Y S, dy_WS hT hS, WPs_mono (push_W hY hS) (by omega), ?_, ?_⟩
  · unfold fX8_day
    refine ok_bind (ok_mono (c_remember hH hs hP hY) (fun y hy => ok_bind (ok_mono (c_day hT hS (by omega) hC hs) (fun y2 hy2 => ok_some ⟨hy2.1, ⟨hy2.2, hy.1, hy.2.1, hy.2.2⟩, rfl, rfl, rfl, rfl, rfl, rfl, rfl⟩))))
  · unfold fX9_day
    refine ok_bind (ok_mono (m_keeps hY.1 hm hQ) (fun y hy => ok_bind (ok_mono (m_day hT hS (by omega) (by omega) hM hm) (fun y2 hy2 => ok_some ⟨hy2.1, hy2.2, hy⟩))))
theorem p_down {wt : Int32} {st k1 k2 k3 k4 k5 k6 k7 k8 k9 vo : Nat → Int32} (v1 v2 : Int32) (hT : WT T) (hS : WS T N S) (hY : WPs T N Y) (hC : CT T (nI (tN T)) (nI (tH T)) (nI (tG T)) (nI (tS T)) catB wanB len cold hf ct bu be kd gf fo code) (hs : CS T S (nI (sZ S)) (nI (sD S)) br coal inside) (hP : CP T Y I A pn pk) (hM : MT T tr hf' ct' bu' wl kd' gf' wr cd lf lt cds) (hm : MS S s) (hQ : MPs Y done un) :
    ∃ (a : Int32) (S' : Sta) (Y' : Pst), WS T N S' ∧ WPs T N Y' ∧ ok (fX8_down oz od ob oc oi pn pk (nI (sZ S)) (nI (sD S)) br (nI (tH T)) (nI (tG T)) wt len coal inside hf kd gf fo code st v1 v2) (fun r => r.1 = a ∧ MvC T S' Y' I A r.2.1 r.2.2.1 r.2.2.2.1 r.2.2.2.2.1 r.2.2.2.2.2.1 r.2.2.2.2.2.2.2.2.2.2.1 r.2.2.2.2.2.2.2.2.2.2.2.1 r.2.2.2.2.2.2.2.2.2.2.2.2.2.2.2.2.2.2.1 r.2.2.2.2.2.2.2.2.2.2.2.2.2.2.2.2.2.2.2 ∧ r.2.2.2.2.2.2.1 = nI (tH T) ∧ r.2.2.2.2.2.2.2.1 = nI (tG T) ∧ r.2.2.2.2.2.2.2.2.2.1 = len ∧ r.2.2.2.2.2.2.2.2.2.2.2.2.1 = hf ∧ r.2.2.2.2.2.2.2.2.2.2.2.2.2.1 = kd ∧ r.2.2.2.2.2.2.2.2.2.2.2.2.2.2.1 = gf ∧ r.2.2.2.2.2.2.2.2.2.2.2.2.2.2.2.1 = fo ∧ r.2.2.2.2.2.2.2.2.2.2.2.2.2.2.2.2.1 = code) ∧
      ok (fX9_down tr hf' kd' gf' wr lf lt cds th done k1 k2 k3 k4 k5 k6 k7 k8 k9 vo s un v1 v2) (fun r => r.1 = a ∧ MvM S' Y' r.2.2.1 r.2.2.2.2.2.2.2.2.2.2.2.2.2.1 r.2.2.2.2.2.2.2.2.2.2.2.2.2.2) := by
  have hH := hT.1
  have hG := hT.2.1
  unfold fX8_down fX9_down
  simp (disch := omega) only [nlit, nI_add, pk_mul, nC, nB, nT_le, nF_le, nT_lt, nF_lt, nF_eq, nT_eq, nM1_ne, nM1_lt, b2_0, b2_1, b2_nar, nar_0, nar_1, cond_true, if_true, if_false, ob_some, m_isGuest hM.2.1 hG, m_isHole hM.1 hH]
  cases q : vld v1 (tG T)
  · have e : fX4_canGoDown (nI (sZ S)) (nI (sD S)) (nI (tH T)) (nI (tG T)) len coal inside hf kd gf fo code wt st v1 v2 = some (nI 0, wt, st) := by
      unfold fX4_canGoDown; rw [c_hasG hG, q]; rfl
    rw [e]
    exact ⟨nI 0, S, Y, hS, hY, ok_some ⟨rfl, MvC_no hs hP, rfl, rfl, rfl, rfl, rfl, rfl, rfl, rfl⟩, ok_some ⟨rfl, hm, hQ⟩⟩
  · obtain ⟨w, hw, rfl⟩ := isIn hG q
    cases q2 : vld v2 (tH T)
    · have e : fX4_canGoDown (nI (sZ S)) (nI (sD S)) (nI (tH T)) (nI (tG T)) len coal inside hf kd gf fo code wt st (nI w) v2 = some (nI 0, wt, st) := by
        unfold fX4_canGoDown; rw [c_hasG hG, c_hasH hH, q, q2]; rfl
      rw [e]
      exact ⟨nI 0, S, Y, hS, hY, ok_some ⟨rfl, MvC_no hs hP, rfl, rfl, rfl, rfl, rfl, rfl, rfl, rfl⟩, ok_some ⟨rfl, hm, hQ⟩⟩
    · obtain ⟨h, hh, rfl⟩ := isIn hH q2
      simp only [reduceCtorEq, if_false]
      obtain ⟨r, er, hr⟩ := c_down (wt := wt) (st := st) hT hS hC hs hh hw
      obtain ⟨r', er', hr'⟩ := m_down (k1 := k1) (k2 := k2) (k3 := k3) (k4 := k4) (k5 := k5) (k6 := k6) (k7 := k7) (k8 := k8) (k9 := k9) (vo := vo) hT hS hm hM hh hw
      rw [er, er']
      simp only [ob_some, hr, hr', b2_0]
      cases z : ((sA S w == 0 && !(sZ S).testBit w) && tk T S h w)
      · simp only [if_true]
        exact ⟨nI 0, S, Y, hS, hY, ok_some ⟨rfl, MvC_no hs hP, rfl, rfl, rfl, rfl, rfl, rfl, rfl, rfl⟩, ok_some ⟨rfl, hm, hQ⟩⟩
      · simp only [reduceCtorEq, if_false]
        rw [Bool.and_eq_true, Bool.and_eq_true] at z
        have hz0 : (sZ S).testBit w = false := by simpa using z.1.2
        have hv : nI h = plI (h + 1) := by unfold plI; rw [if_neg (by omega)]; rfl
        refine ⟨nI 1, mv S w (h + 1), pushP Y S, mv_WS hS hw (by omega) (fun y => by rw [hz0] at y; cases y) (fun k e hk => by
          have : k = h := by omega
          subst this; exact tk_pos z.2 hk), push_W hY hS, ?_, ?_⟩
        · refine ok_bind (ok_mono (c_remember hH hs hP hY) (fun y hy => ok_bind (ok_mono (c_move (h := h + 1) hG hw hs.2.2.2.2 hv (by omega)) (fun y4 hy4 => ok_some ⟨rfl, ⟨mv_CS hs hy4, hy.1, hy.2.1, hy.2.2⟩, rfl, rfl, rfl, rfl, rfl, rfl, rfl, rfl⟩))))
        · refine ok_bind (ok_mono (m_keeps hY.1 hm hQ) (fun y hy => ?_))
          simp (disch := omega) only [nlit, nI_add, pk_mul, nC, nB, nT_le, nF_le, nT_lt, nF_lt, nF_eq, nT_eq, nM1_ne, nM1_lt, b2_0, b2_1, b2_nar, nar_0, nar_1, cond_true, if_true, if_false, ob_some]
          exact ok_some ⟨rfl, mv_MS hm (by omega), hy⟩
theorem p_through {wt : Int32} {st k1 k2 k3 k4 k5 k6 k7 k8 k9 vo : Nat → Int32} (v1 v2 : Int32) (hT : WT T) (hS : WS T N S) (hY : WPs T N Y) (hC : CT T (nI (tN T)) (nI (tH T)) (nI (tG T)) (nI (tS T)) catB wanB len cold hf ct bu be kd gf fo code) (hs : CS T S (nI (sZ S)) (nI (sD S)) br coal inside) (hP : CP T Y I A pn pk) (hM : MT T tr hf' ct' bu' wl kd' gf' wr cd lf lt cds) (hm : MS S s) (hQ : MPs Y done un) :
    ∃ (a : Int32) (S' : Sta) (Y' : Pst), WS T N S' ∧ WPs T N Y' ∧ ok (fX8_through oz od ob oc oi pn pk (nI (sZ S)) (nI (sD S)) br (nI (tH T)) (nI (tG T)) wt len coal inside hf be kd gf fo code st v1 v2) (fun r => r.1 = a ∧ MvC T S' Y' I A r.2.1 r.2.2.1 r.2.2.2.1 r.2.2.2.2.1 r.2.2.2.2.2.1 r.2.2.2.2.2.2.2.2.2.2.1 r.2.2.2.2.2.2.2.2.2.2.2.1 r.2.2.2.2.2.2.2.2.2.2.2.2.2.2.2.2.2.2.2.1 r.2.2.2.2.2.2.2.2.2.2.2.2.2.2.2.2.2.2.2.2 ∧ r.2.2.2.2.2.2.1 = nI (tH T) ∧ r.2.2.2.2.2.2.2.1 = nI (tG T) ∧ r.2.2.2.2.2.2.2.2.2.1 = len ∧ r.2.2.2.2.2.2.2.2.2.2.2.2.1 = hf ∧ r.2.2.2.2.2.2.2.2.2.2.2.2.2.1 = be ∧ r.2.2.2.2.2.2.2.2.2.2.2.2.2.2.1 = kd ∧ r.2.2.2.2.2.2.2.2.2.2.2.2.2.2.2.1 = gf ∧ r.2.2.2.2.2.2.2.2.2.2.2.2.2.2.2.2.1 = fo ∧ r.2.2.2.2.2.2.2.2.2.2.2.2.2.2.2.2.2.1 = code) ∧
      ok (fX9_through tr hf' wl kd' gf' wr lf lt cds th done k1 k2 k3 k4 k5 k6 k7 k8 k9 vo s un v1 v2) (fun r => r.1 = a ∧ MvM S' Y' r.2.2.1 r.2.2.2.2.2.2.2.2.2.2.2.2.2.1 r.2.2.2.2.2.2.2.2.2.2.2.2.2.2) := by
  have hH := hT.1
  have hG := hT.2.1
  unfold fX8_through fX9_through
  simp (disch := omega) only [nlit, nI_add, pk_mul, nC, nB, nT_le, nF_le, nT_lt, nF_lt, nF_eq, nT_eq, nM1_ne, nM1_lt, b2_0, b2_1, b2_nar, nar_0, nar_1, cond_true, if_true, if_false, ob_some, m_isGuest hM.2.1 hG, m_isHole hM.1 hH]
  cases q : vld v1 (tG T)
  · have e : fX4_canGoThrough (nI (sD S)) (nI (tH T)) (nI (tG T)) len coal inside hf be kd gf fo code wt st v1 v2 = some (nI 0, wt, st) := by
      unfold fX4_canGoThrough fX4_canClimb; rw [c_hasG hG, q]; rfl
    rw [e]
    exact ⟨nI 0, S, Y, hS, hY, ok_some ⟨rfl, MvC_no hs hP, rfl, rfl, rfl, rfl, rfl, rfl, rfl, rfl, rfl⟩, ok_some ⟨rfl, hm, hQ⟩⟩
  · obtain ⟨w, hw, rfl⟩ := isIn hG q
    cases q2 : vld v2 (tH T)
    · have e : fX4_canGoThrough (nI (sD S)) (nI (tH T)) (nI (tG T)) len coal inside hf be kd gf fo code wt st (nI w) v2 = some (nI 0, wt, st) := by
        unfold fX4_canGoThrough; rw [c_climb hT hS hs hw, c_hasH hH, q2]
        cases (!(sA S w == 0)) <;> rfl
      rw [e]
      exact ⟨nI 0, S, Y, hS, hY, ok_some ⟨rfl, MvC_no hs hP, rfl, rfl, rfl, rfl, rfl, rfl, rfl, rfl, rfl⟩, ok_some ⟨rfl, hm, hQ⟩⟩
    · obtain ⟨h, hh, rfl⟩ := isIn hH q2
      simp only [reduceCtorEq, if_false]
      obtain ⟨r, er, hr⟩ := c_through (wt := wt) (st := st) hT hS hC hs hh hw
      obtain ⟨r', er', hr'⟩ := m_cross (k1 := k1) (k2 := k2) (k3 := k3) (k4 := k4) (k5 := k5) (k6 := k6) (k7 := k7) (k8 := k8) (k9 := k9) (vo := vo) hT hS hm hM hh hw
      rw [er, er']
      simp only [ob_some, hr, hr', b2_0]
      cases z : (!(sA S w == 0) && (tbe T (sA S w - 1)).testBit h && tk T S h w)
      · simp only [if_true]
        exact ⟨nI 0, S, Y, hS, hY, ok_some ⟨rfl, MvC_no hs hP, rfl, rfl, rfl, rfl, rfl, rfl, rfl, rfl, rfl⟩, ok_some ⟨rfl, hm, hQ⟩⟩
      · simp only [reduceCtorEq, if_false]
        rw [Bool.and_eq_true, Bool.and_eq_true] at z
        have ha0 : sA S w ≠ 0 := by simpa using z.1.1
        have hv : nI h = plI (h + 1) := by unfold plI; rw [if_neg (by omega)]; rfl
        refine ⟨nI 1, mv S w (h + 1), pushP Y S, mv_WS hS hw (by omega) (fun y => absurd (hS.2.2.2.2.2.2.1 w y).1 ha0) (fun k e hk => by
          have : k = h := by omega
          subst this; exact tk_pos z.2 hk), push_W hY hS, ?_, ?_⟩
        · refine ok_bind (ok_mono (c_remember hH hs hP hY) (fun y hy => ok_bind (ok_mono (c_move (h := h + 1) hG hw hs.2.2.2.2 hv (by omega)) (fun y4 hy4 => ok_some ⟨rfl, ⟨mv_CS hs hy4, hy.1, hy.2.1, hy.2.2⟩, rfl, rfl, rfl, rfl, rfl, rfl, rfl, rfl, rfl⟩))))
        · refine ok_bind (ok_mono (m_keeps hY.1 hm hQ) (fun y hy => ?_))
          simp (disch := omega) only [nlit, nI_add, pk_mul, nC, nB, nT_le, nF_le, nT_lt, nF_lt, nF_eq, nT_eq, nM1_ne, nM1_lt, b2_0, b2_1, b2_nar, nar_0, nar_1, cond_true, if_true, if_false, ob_some]
          exact ok_some ⟨rfl, mv_MS hm (by omega), hy⟩
/-- the past without its last -/
def popP (Y : Pst) : Pst := (Y.1 - 1, Y.2)
theorem p_undo {p : Nat} (hp : p < 16) (hpn : pn = nI p) (hT : WT T) (hS : WS T N S) (hY : WPs T N Y) (hs : CS T S (nI (sZ S)) (nI (sD S)) br coal inside) (hP : CP T Y I A pn pk) (hm : MS S s) (hQ : MPs Y done un) :
    ∃ (a : Int32) (S' : Sta) (Y' : Pst), WS T N S' ∧ WPs T N Y' ∧ ok (fX8_undo (I (64 + 3 * Int32.toNatClampNeg (undoAt pn)) 2) (I (64 + 3 * Int32.toNatClampNeg (undoAt pn)) 3) (I (64 + 3 * Int32.toNatClampNeg (undoAt pn)) 4) (A (65 + 3 * Int32.toNatClampNeg (undoAt pn))) (A (66 + 3 * Int32.toNatClampNeg (undoAt pn))) pn pk (nI (sZ S)) (nI (sD S)) br coal inside) (fun r => r.1 = a ∧ CS T S' r.2.2.2.1 r.2.2.2.2.1 r.2.2.2.2.2.1 r.2.2.2.2.2.2.1 r.2.2.2.2.2.2.2 ∧ CP T Y' I A r.2.1 r.2.2.1) ∧ ok (fX9_undo un th done s) (fun r => r.1 = a ∧ MvM S' Y' r.2.2.1 r.2.2.2 un) := by
  obtain ⟨p', hp', e1, rfl, hc⟩ := hP
  have epp : p' = p := (nI_eq (by omega) (by omega)).mp (e1.symm.trans hpn)
  subst epp
  subst hpn
  obtain ⟨rfl, hq⟩ := hQ
  have h16 := hY.1
  have hH := hT.1
  have eu : undoAt (nI p') = nI ((p' + 15) % 16) := by
    unfold undoAt
    have : nI p' + 16 - 1 = nI (p' + 15) := by
      rw [show nI p' + 16 = nI (p' + 15 + 1) from nI_add p' 16]
      exact nI_pred _
    rw [this]
    exact pk_rem (d := 16) (by omega) (by omega) (by omega)
  unfold fX8_undo fX9_undo
  rw [eu]
  have hm16 : (p' + 15) % 16 < 16 := Nat.mod_lt _ (by decide)
  by_cases z : Y.1 = 0
  · rw [z]
    refine ⟨nI 0, S, Y, hS, hY, ok_t rfl (ok_some ⟨rfl, hs, p', hp', rfl, by rw [z], hc⟩), ok_t rfl (ok_some ⟨rfl, hm, by rw [z], hq⟩)⟩
  · have en : nI Y.1 - 1 = nI (Y.1 - 1) := nsub (b := 1) (by omega)
    have ls : slotP p' Y.1 (Y.1 - 1) = (p' + 15) % 16 := by unfold slotP; omega
    have hl := hc (Y.1 - 1) (by omega)
    rw [ls] at hl
    refine ⟨nI 1, Y.2 (Y.1 - 1), popP Y, hY.2 _ (by omega), ⟨by show Y.1 - 1 ≤ 16; omega, fun j hj => hY.2 j (by have : j < Y.1 - 1 := hj; omega)⟩, ?_, ?_⟩
    · rw [nC (by omega)]
      refine ok_f (nI_ne0 (by omega) (by omega)) (ok_g (nB hm16 (by omega)) ?_)
      refine ok_bind (ok_mono (c_copyFrom hH hl) (fun y hy => ok_some ⟨rfl, hy, (p' + 15) % 16, hm16, rfl, en, fun j hj => ?_⟩))
      have hj : j < Y.1 - 1 := hj
      have es : slotP ((p' + 15) % 16) (Y.1 - 1) j = slotP p' Y.1 j := by unfold slotP; omega
      show CS T (Y.2 j) (I (64 + 3 * slotP ((p' + 15) % 16) (Y.1 - 1) j) 2) (I (64 + 3 * slotP ((p' + 15) % 16) (Y.1 - 1) j) 3) (I (64 + 3 * slotP ((p' + 15) % 16) (Y.1 - 1) j) 4) (A (65 + 3 * slotP ((p' + 15) % 16) (Y.1 - 1) j)) (A (66 + 3 * slotP ((p' + 15) % 16) (Y.1 - 1) j))
      rw [es]
      exact hc j (by omega)
    · refine ok_f (nI_ne0 (by omega) (by omega)) ?_
      rw [en, show (13 : Int32) * nI (Y.1 - 1) = nI (13 * (Y.1 - 1)) from pk_mul 13 _]
      refine ok_bind (ok_mono (m_copies (p := 13 * (Y.1 - 1)) (q := 0) (by omega) (by omega) (by omega) (by omega)) (fun y hy => ok_some ⟨rfl, MS_congr (hq (Y.1 - 1) (by omega)) (fun j hj => ?_), rfl, fun j hj => hq j (by have : j < Y.1 - 1 := hj; omega)⟩))
      have := hy.1 j hj
      rw [Nat.zero_add] at this
      exact this
end MV
