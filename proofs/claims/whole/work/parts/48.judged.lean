/-! the lines of a winter -/
abbrev Pln : Type := Nat × (Nat → Nat) × (Nat → Nat) × (Nat → Nat)
def pW (L : Pln) (i : Nat) : Nat := L.2.1 i
def pG (L : Pln) (i : Nat) : Nat := L.2.2.1 i
def pH (L : Pln) (i : Nat) : Nat := L.2.2.2 i
def WL (T : Ter) (L : Pln) : Prop := L.1 ≤ 40 ∧ ∀ i, i < L.1 → pW L i ≤ 4 ∧ (pW L i < 3 → pG L i < tG T) ∧ (pW L i = 0 ∨ pW L i = 2 ∨ pW L i = 3 → pH L i < tH T)
def CL (L : Pln) (lines : Int32) (gs hs vs : Nat → Int32) : Prop := lines = nI L.1 ∧ ∀ i, i < L.1 → vs i = nI (138 + pW L i) ∧ (pW L i < 3 → gs i = nI (pG L i)) ∧ (pW L i = 0 ∨ pW L i = 2 ∨ pW L i = 3 → hs i = nI (pH L i)) ∧ (pW L i = 1 → hs i = -1)
def ML (L : Pln) (k : Nat) (lines wh la lb : Nat → Int32) : Prop := lines k = nI L.1 ∧ ∀ i, i < L.1 → wh (40 * k + i) = nI (pW L i) ∧ (pW L i < 3 → la (40 * k + i) = nI (pG L i)) ∧ (pW L i = 0 ∨ pW L i = 2 ∨ pW L i = 3 → lb (40 * k + i) = nI (pH L i))
def S0 (T : Ter) : Sta := (0, 0, 0, fun h => if h < tH T then tct T h else 0, fun _ => 0)
theorem S0_WS {T : Ter} (hT : WT T) : WS T 0 (S0 T) := by
  refine ⟨Nat.le_refl _, Nat.two_pow_pos _, fun h _ => ?_, fun h hh => ?_, fun w => Nat.zero_le _, fun w _ => rfl, fun w hw => ?_, fun w h _ e => ?_⟩
  · show (if h < tH T then tct T h else 0) ≤ 99
    split
    · rename_i q; have := (hT.2.2.2.2.2.1 h q).2.1; omega
    · omega
  · show (if h < tH T then tct T h else 0) = 0
    rw [if_neg (by omega)]
  · have : (0 : Nat).testBit w = true := hw
    simp at this
  · have : (0 : Nat) = h + 1 := e
    omega
/-- a line: what becomes of it, and whether it can be -/
def lnS (T : Ter) (S : Sta) (a w h : Nat) : Sta × Bool :=
  if a = 0 then (if ((sA S w == 0 && !(sZ S).testBit w) && tk T S h w) = true then (mv S w (h + 1), true) else (S, false))
  else if a = 1 then (if sA S w = 0 then (S, false) else (mv S w 0, true))
  else if a = 2 then (if (!(sA S w == 0) && (tbe T (sA S w - 1)).testBit h && tk T S h w) = true then (mv S w (h + 1), true) else (S, false))
  else if a = 3 then (brS T S h, true) else (dy T 0 S, true)
theorem lnS_0 {T : Ter} {S : Sta} {w h : Nat} : lnS T S 0 w h = (if ((sA S w == 0 && !(sZ S).testBit w) && tk T S h w) = true then (mv S w (h + 1), true) else (S, false)) := rfl
theorem lnS_1 {T : Ter} {S : Sta} {w h : Nat} : lnS T S 1 w h = (if sA S w = 0 then (S, false) else (mv S w 0, true)) := rfl
theorem lnS_2 {T : Ter} {S : Sta} {w h : Nat} : lnS T S 2 w h = (if (!(sA S w == 0) && (tbe T (sA S w - 1)).testBit h && tk T S h w) = true then (mv S w (h + 1), true) else (S, false)) := rfl
theorem lnS_3 {T : Ter} {S : Sta} {w h : Nat} : lnS T S 3 w h = (brS T S h, true) := rfl
theorem lnS_4 {T : Ter} {S : Sta} {w h : Nat} : lnS T S 4 w h = (dy T 0 S, true) := rfl
theorem lnS_WS {T : Ter} {S : Sta} {N a w h : Nat} (hT : WT T) (hS : WS T N S) (hw : a < 3 → w < tG T) (hh : a = 0 ∨ a = 2 ∨ a = 3 → h < tH T) : WS T (N + 1) (lnS T S a w h).1 := by
  unfold lnS
  by_cases a0 : a = 0
  · rw [if_pos a0]
    have hw := hw (by omega)
    have hh := hh (by omega)
    by_cases q : ((sA S w == 0 && !(sZ S).testBit w) && tk T S h w) = true
    · rw [if_pos q]
      exact WS_mono (canW_WS hS hw hh (by unfold canW; rw [q]; rfl)) (by omega)
    · rw [if_neg q]; exact WS_mono hS (by omega)
  rw [if_neg a0]
  by_cases a1 : a = 1
  · rw [if_pos a1]
    have hw := hw (by omega)
    by_cases q : sA S w = 0
    · rw [if_pos q]; exact WS_mono hS (by omega)
    · rw [if_neg q]; exact WS_mono (mv_WS hS hw (Nat.zero_le _) (fun _ => rfl) (fun k e => by omega)) (by omega)
  rw [if_neg a1]
  by_cases a2 : a = 2
  · rw [if_pos a2]
    have hw := hw (by omega)
    have hh := hh (by omega)
    by_cases q : (!(sA S w == 0) && (tbe T (sA S w - 1)).testBit h && tk T S h w) = true
    · rw [if_pos q]
      exact WS_mono (canW_WS hS hw hh (by unfold canW; rw [q]; exact Bool.or_true _)) (by omega)
    · rw [if_neg q]; exact WS_mono hS (by omega)
  rw [if_neg a2]
  by_cases a3 : a = 3
  · rw [if_pos a3]; exact WS_mono (brS_WS hT hS (hh (by omega))) (by omega)
  · rw [if_neg a3]; exact dy_WS hT hS
abbrev Jdg : Type := Sta × Int32 × Int32
def jdS (T : Ter) (L : Pln) (x : Jdg) (i : Nat) : Jdg := ((lnS T x.1 (pW L i) (pG L i) (pH L i)).1, if (lnS T x.1 (pW L i) (pG L i) (pH L i)).2 = false ∧ x.2.1 = -1 then nI i else x.2.1, if sZ (lnS T x.1 (pW L i) (pG L i) (pH L i)).1 ≠ sZ x.1 ∧ x.2.2 = -1 then nI i else x.2.2)
def jdN (T : Ter) (L : Pln) : Nat → Jdg
  | 0 => (S0 T, -1, -1)
  | n + 1 => jdS T L (jdN T L n) n
theorem jdN_ok {T : Ter} {L : Pln} (hT : WT T) (hL : WL T L) {n : Nat} (hn : n ≤ L.1) : WS T n (jdN T L n).1 ∧ ((jdN T L n).2.1 = -1 ∨ ∃ k, k < 40 ∧ (jdN T L n).2.1 = nI k) ∧ ((jdN T L n).2.2 = -1 ∨ ∃ k, k < 40 ∧ (jdN T L n).2.2 = nI k) := by
  induction n with
  | zero => exact ⟨S0_WS hT, Or.inl rfl, Or.inl rfl⟩
  | succ n ih =>
    obtain ⟨i1, i2, i3⟩ := ih (by omega)
    have h40 := hL.1
    obtain ⟨l1, l2, l3⟩ := hL.2 n (by omega)
    show WS T (n + 1) (jdS T L (jdN T L n) n).1 ∧ ((jdS T L (jdN T L n) n).2.1 = -1 ∨ ∃ k, k < 40 ∧ (jdS T L (jdN T L n) n).2.1 = nI k) ∧ ((jdS T L (jdN T L n) n).2.2 = -1 ∨ ∃ k, k < 40 ∧ (jdS T L (jdN T L n) n).2.2 = nI k)
    unfold jdS
    refine ⟨lnS_WS hT i1 l2 l3, ?_, ?_⟩
    · show ((if (lnS T (jdN T L n).1 (pW L n) (pG L n) (pH L n)).2 = false ∧ (jdN T L n).2.1 = -1 then nI n else (jdN T L n).2.1) = -1 ∨ _)
      split
      · exact Or.inr ⟨n, by omega, rfl⟩
      · exact i2
    · show ((if sZ (lnS T (jdN T L n).1 (pW L n) (pG L n) (pH L n)).1 ≠ sZ (jdN T L n).1 ∧ (jdN T L n).2.2 = -1 then nI n else (jdN T L n).2.2) = -1 ∨ _)
      split
      · exact Or.inr ⟨n, by omega, rfl⟩
      · exact i3
section JU
variable {T : Ter} {S : Sta} {N : Nat} {catB wanB len br : Int32} {cold hf ct bu be kd gf fo code coal inside : Nat → Int32}
variable {tr hf' ct' bu' wl kd' gf' wr cd lf lt cds s : Nat → Int32}
theorem c_begin {z d b : Int32} {c n : Nat → Int32} (hT : WT T) (hct : ∀ h, h < tH T → ct h = nI (tct T h)) : ok (fX4_beginAt ct z d b c n) (fun r => CS T (S0 T) r.1 r.2.1 r.2.2.1 r.2.2.2.1 r.2.2.2.2) := by
  have hH := hT.1
  unfold fX4_beginAt
  refine ok_for5 5 (fun i _ _ _ c n => (∀ j, j < i → c j = ct j) ∧ (∀ j, j < i → n j = nI 0)) ?_ ?_ FU 0 z d b c n (Nat.zero_le _) ⟨fun j hj => by omega, fun j hj => by omega⟩ (by unfold FU; omega)
  · rintro k a1 a2 a3 c n i hlt ⟨h1, h2⟩ hk
    unfold fX4_beginAt_2
    simp (disch := omega) only [nlit, nI_add, pk_mul, nC, nB, nT_le, nF_le, nT_lt, nF_lt, nF_eq, nT_eq, nM1_ne, nM1_lt, b2_0, b2_1, b2_nar, nar_0, nar_1, cond_true, if_true, if_false, ob_some]
    refine hk _ _ _ _ _ ⟨fun j hj => ?_, fun j hj => ?_⟩
    · by_cases q : j = i
      · subst q; rw [pk_us]
      · rw [pk_un q]; exact h1 j (by omega)
    · by_cases q : j = i
      · subst q; rw [pk_us]
      · rw [pk_un q]; exact h2 j (by omega)
  · rintro k a1 a2 a3 c n ⟨h1, h2⟩
    unfold fX4_beginAt_2
    simp (disch := omega) only [nlit, nI_add, pk_mul, nC, nB, nT_le, nF_le, nT_lt, nF_lt, nF_eq, nT_eq, nM1_ne, nM1_lt, b2_0, b2_1, b2_nar, nar_0, nar_1, cond_true, if_true, if_false, ob_some]
    refine ok_some ⟨rfl, rfl, rfl, fun h hh => ?_, fun h hh => ?_⟩
    · show c h = nI (if h < tH T then tct T h else 0)
      rw [if_pos hh, h1 h (by omega), hct h hh]
    · show n h = nI (bs (fun w => (0 : Nat) == h + 1) (tG T))
      rw [h2 h hh, bs_0.mpr (fun w _ => by simp)]
theorem m_fresh (hT : WT T) (ht : tr 0 = nI (tH T)) (hct : ∀ h, h < tH T → ct' h = nI (tct T h)) : ok (fX9_fresh0 tr ct' s) (fun r => MS (S0 T) r) := by
  have hH := hT.1
  unfold fX9_fresh0
  refine ok_for1 13 (fun i a => ∀ j, j < i → a j = nI 0) ?_ ?_ FU 0 s (Nat.zero_le _) (fun j hj => by omega) (by unfold FU; omega)
  · rintro k a i hlt h1 hk
    unfold fX9_fresh0_2
    simp (disch := omega) only [nlit, nI_add, pk_mul, nC, nB, nT_le, nF_le, nT_lt, nF_lt, nF_eq, nT_eq, nM1_ne, nM1_lt, b2_0, b2_1, b2_nar, nar_0, nar_1, cond_true, if_true, if_false, ob_some]
    refine hk _ (fun j hj => ?_)
    by_cases q : j = i
    · subst q; rw [pk_us]
    · rw [pk_un q]; exact h1 j (by omega)
  · rintro k a h1
    unfold fX9_fresh0_2
    simp (disch := omega) only [nlit, nI_add, pk_mul, nC, nB, nT_le, nF_le, nT_lt, nF_lt, nF_eq, nT_eq, nM1_ne, nM1_lt, b2_0, b2_1, b2_nar, nar_0, nar_1, cond_true, if_true, if_false, ob_some]
    refine ok_for1 (tH T) (fun i b => (∀ j, j < 3 → b j = nI 0) ∧ (∀ h, h < i → b (3 + h) = nI (tct T h)) ∧ (∀ j, 3 + i ≤ j → j < 13 → b j = nI 0)) ?_ ?_ FU 0 a (Nat.zero_le _) ⟨fun j hj => h1 j (by omega), fun h hh => by omega, fun j _ hj => h1 j hj⟩ (by unfold FU; omega)
    · rintro k2 b i hlt ⟨g1, g2, g3⟩ hk2
      unfold fX9_fresh0_23
      simp (disch := omega) only [nlit, nI_add, pk_mul, nC, nB, nT_le, nF_le, nT_lt, nF_lt, nF_eq, nT_eq, nM1_ne, nM1_lt, b2_0, b2_1, b2_nar, nar_0, nar_1, cond_true, if_true, if_false, ob_some, ht, hct i hlt]
      refine hk2 _ ⟨fun j hj => ?_, fun h hh => ?_, fun j q1 q2 => ?_⟩
      · rw [pk_un (by omega)]; exact g1 j hj
      · by_cases q : h = i
        · subst q; rw [pk_us]
        · rw [pk_un (by omega)]; exact g2 h (by omega)
      · rw [pk_un (by omega)]; exact g3 j (by omega) q2
    · rintro k2 b ⟨g1, g2, g3⟩
      unfold fX9_fresh0_23
      simp (disch := omega) only [nlit, nI_add, pk_mul, nC, nB, nT_le, nF_le, nT_lt, nF_lt, nF_eq, nT_eq, nM1_ne, nM1_lt, b2_0, b2_1, b2_nar, nar_0, nar_1, cond_true, if_true, if_false, ob_some, ht]
      refine ok_some ⟨g1 0 (by omega), g1 1 (by omega), g1 2 (by omega), fun h hh => ?_, fun w hw => ?_⟩
      · show b (3 + h) = nI (if h < tH T then tct T h else 0)
        by_cases q : h < tH T
        · rw [if_pos q]; exact g2 h q
        · rw [if_neg q]; exact g3 _ (by omega) (by omega)
      · exact g3 _ (by omega) (by omega)
theorem c_follow {L : Pln} {i : Nat} {wt : Int32} {st gs hs vs : Nat → Int32} (hT : WT T) (hS : WS T N S) (hN : N ≤ 1900) (hL : WL T L) (hi : i < L.1) (hC : CT T (nI (tN T)) (nI (tH T)) (nI (tG T)) (nI (tS T)) catB wanB len cold hf ct bu be kd gf fo code) (hs' : CS T S (nI (sZ S)) (nI (sD S)) (sB S) coal inside) {lines : Int32} (hCL : CL L lines gs hs vs) :
    ok (fX7_follow (nI (tN T)) (nI (tH T)) (nI (tG T)) (nI (tS T)) catB wanB len gs hs vs cold hf bu be kd gf fo code wt (nI (sZ S)) (nI (sD S)) (sB S) st coal inside (nI i)) (fun r => r.1 = nI (b2 (lnS T S (pW L i) (pG L i) (pH L i)).2) ∧ CS T (lnS T S (pW L i) (pG L i) (pH L i)).1 r.2.2.1 r.2.2.2.1 r.2.2.2.2.1 r.2.2.2.2.2.2.1 r.2.2.2.2.2.2.2) := by
  have hH := hT.1
  have hG := hT.2.1
  have h40 := hL.1
  obtain ⟨l1, l2, l3⟩ := hL.2 i hi
  obtain ⟨c1, c2, c3, c4⟩ := hCL.2 i hi
  unfold fX7_follow
  simp (disch := omega) only [nlit, nI_add, pk_mul, nC, nB, nT_le, nF_le, nT_lt, nF_lt, nF_eq, nT_eq, nM1_ne, nM1_lt, b2_0, b2_1, b2_nar, nar_0, nar_1, cond_true, if_true, if_false, ob_some, c1, tIl, Int.reduceToNat]
  generalize ea : pW L i = a at l1 l2 l3 c2 c3 c4
  generalize ew : pG L i = w at l2 c2
  generalize eh : pH L i = h at l3 c3
  have h5 : a = 0 ∨ a = 1 ∨ a = 2 ∨ a = 3 ∨ a = 4 := by omega
  rcases h5 with rfl | rfl | rfl | rfl | rfl
  · have hw := l2 (by omega)
    have hh := l3 (by omega)
    simp (disch := omega) only [nlit, nI_add, pk_mul, nC, nB, nT_le, nF_le, nT_lt, nF_lt, nF_eq, nT_eq, nM1_ne, nM1_lt, b2_0, b2_1, b2_nar, nar_0, nar_1, cond_true, if_true, if_false, ob_some, c2 (by omega), c3 (by omega)]
    refine ok_bind (ok_mono (c_down hT hS hC hs' hh hw) (fun r hr => ?_))
    unfold fX7_follow_118
    rw [lnS_0]
    simp only [hr, nlit, b2_0, b2_nar]
    cases z : ((sA S w == 0 && !(sZ S).testBit w) && tk T S h w)
    · exact ok_some ⟨rfl, hs'⟩
    · simp only [reduceCtorEq, if_false, if_true]
      exact ok_bind (ok_mono (c_move hG hw hs'.2.2.2.2 (plI_succ h) (by omega)) (fun y hy => ok_some ⟨rfl, mv_CS hs' hy⟩))
  · have hw := l2 (by omega)
    simp (disch := omega) only [nlit, nI_add, pk_mul, nC, nB, nT_le, nF_le, nT_lt, nF_lt, nF_eq, nT_eq, nM1_ne, nM1_lt, b2_0, b2_1, b2_nar, nar_0, nar_1, cond_true, if_true, if_false, ob_some, c2 (by omega), c4 (by omega), c_climb hT hS hs' hw]
    unfold fX7_follow_118
    rw [lnS_1]
    simp only [nlit, b2_0, b2_nar]
    by_cases z : sA S w = 0
    · simp only [z, beq_self_eq_true, Bool.not_true, if_true]
      exact ok_some ⟨rfl, hs'⟩
    · have e : (sA S w == 0) = false := by simpa using z
      simp only [e, z, Bool.not_false, reduceCtorEq, if_false]
      exact ok_bind (ok_mono (c_move (h := 0) hG hw hs'.2.2.2.2 rfl (by omega)) (fun y hy => ok_some ⟨rfl, mv_CS hs' hy⟩))
  · have hw := l2 (by omega)
    have hh := l3 (by omega)
    simp (disch := omega) only [nlit, nI_add, pk_mul, nC, nB, nT_le, nF_le, nT_lt, nF_lt, nF_eq, nT_eq, nM1_ne, nM1_lt, b2_0, b2_1, b2_nar, nar_0, nar_1, cond_true, if_true, if_false, ob_some, c2 (by omega), c3 (by omega)]
    refine ok_bind (ok_mono (c_through hT hS hC hs' hh hw) (fun r hr => ?_))
    unfold fX7_follow_118
    rw [lnS_2]
    simp only [hr, nlit, b2_0, b2_nar]
    cases z : (!(sA S w == 0) && (tbe T (sA S w - 1)).testBit h && tk T S h w)
    · exact ok_some ⟨rfl, hs'⟩
    · simp only [reduceCtorEq, if_false, if_true]
      exact ok_bind (ok_mono (c_move hG hw hs'.2.2.2.2 (plI_succ h) (by omega)) (fun y hy => ok_some ⟨rfl, mv_CS hs' hy⟩))
  · have hh := l3 (by omega)
    simp (disch := omega) only [nlit, nI_add, pk_mul, nC, nB, nT_le, nF_le, nT_lt, nF_lt, nF_eq, nT_eq, nM1_ne, nM1_lt, b2_0, b2_1, b2_nar, nar_0, nar_1, cond_true, if_true, if_false, ob_some, c3 (by omega), c_hasH hH, inIs hH hh, reduceCtorEq]
    rw [lnS_3]
    exact ok_bind (ok_mono (c_sack hT hS hs' hh) (fun y hy => ok_some ⟨rfl, hy.1⟩))
  · simp (disch := omega) only [nlit, nI_add, pk_mul, nC, nB, nT_le, nF_le, nT_lt, nF_lt, nF_eq, nT_eq, nM1_ne, nM1_lt, b2_0, b2_1, b2_nar, nar_0, nar_1, cond_true, if_true, if_false, ob_some]
    rw [lnS_4]
    exact ok_bind (ok_mono (c_day hT hS (by omega) hC hs') (fun y hy => ok_some ⟨rfl, hy.2⟩))
theorem dy_new {c : Nat} : (sZ (dy T c S) ≠ sZ S) ↔ ¬ bs (fun w => (dyA T c S w == 0 && !(sZ S).testBit w) && tkd T w == 1) (tG T) = 0 := by
  show dyZ T c S ≠ sZ S ↔ _
  rw [bs_fresh]
  constructor
  · intro h e
    exact h (by rw [e]; exact Nat.or_zero _)
  · intro h e
    apply h
    apply Nat.eq_of_testBit_eq
    intro k
    have := congrArg (fun n => n.testBit k) e
    simp only [Nat.testBit_or, bs_bit] at this
    rw [bs_bit]
    cases z : (sZ S).testBit k
    · rw [z] at this
      rw [Bool.false_or] at this
      rw [this]; simp
    · simp
theorem m_goes {L : Pln} {i : Nat} {fs : Int32} {lines wh la lb k1 k2 k3 k4 k5 k6 k7 k8 k9 vo : Nat → Int32} (hT : WT T) (hS : WS T N S) (hN : N ≤ 1900) (hL : WL T L) (hi : i < L.1) (hM : MT T tr hf' ct' bu' wl kd' gf' wr cd lf lt cds) (hm : MS S s) (hML : ML L 0 lines wh la lb) (hfs : fs = -1 ∨ ∃ k, k < 40 ∧ fs = nI k) :
    ok (fX9_goes (nI 0) tr hf' bu' wl kd' gf' wr cd lf lt cds wh la lb fs k1 k2 k3 k4 k5 k6 k7 k8 k9 vo s (nI i)) (fun r => r.1 = nI (b2 (lnS T S (pW L i) (pG L i) (pH L i)).2) ∧ r.2.1 = (if sZ (lnS T S (pW L i) (pG L i) (pH L i)).1 ≠ sZ S ∧ fs = -1 then nI i else fs) ∧ MS (lnS T S (pW L i) (pG L i) (pH L i)).1 r.2.2.2.2.2.2.2.2.2.2.2.2) := by
  have hH := hT.1
  have hG := hT.2.1
  have h40 := hL.1
  obtain ⟨l1, l2, l3⟩ := hL.2 i hi
  obtain ⟨c1, c2, c3⟩ := hML.2 i hi
  rw [show 40 * 0 + i = i by omega] at c1 c2 c3
  have keep : ∀ S' : Sta, sZ S' = sZ S → fs = (if sZ S' ≠ sZ S ∧ fs = -1 then nI i else fs) := fun S' e => by rw [if_neg (fun z => z.1 e)]
  unfold fX9_goes
  simp (disch := omega) only [nlit, nI_add, pk_mul, nC, nB, nT_le, nF_le, nT_lt, nF_lt, nF_eq, nT_eq, nM1_ne, nM1_lt, b2_0, b2_1, b2_nar, nar_0, nar_1, cond_true, if_true, if_false, ob_some, c1]
  generalize ea : pW L i = a at l1 l2 l3 c2 c3
  generalize ew : pG L i = w at l2 c2
  generalize eh : pH L i = h at l3 c3
  have h5 : a = 0 ∨ a = 1 ∨ a = 2 ∨ a = 3 ∨ a = 4 := by omega
  rcases h5 with rfl | rfl | rfl | rfl | rfl
  · have hw := l2 (by omega)
    have hh := l3 (by omega)
    simp (disch := omega) only [nlit, nI_add, pk_mul, nC, nB, nT_le, nF_le, nT_lt, nF_lt, nF_eq, nT_eq, nM1_ne, nM1_lt, b2_0, b2_1, b2_nar, nar_0, nar_1, cond_true, if_true, if_false, ob_some, c2 (by omega), c3 (by omega)]
    refine ok_bind (ok_mono (m_down hT hS hm hM hh hw) (fun r hr => ?_))
    rw [lnS_0]
    simp only [hr, b2_0]
    cases z : ((sA S w == 0 && !(sZ S).testBit w) && tk T S h w)
    · exact ok_some ⟨rfl, keep S rfl, hm⟩
    · simp only [reduceCtorEq, if_false, if_true]
      exact ok_some ⟨rfl, keep (mv S w (h + 1)) rfl, mv_MS hm (by omega)⟩
  · have hw := l2 (by omega)
    have ha := hS.2.2.2.2.1 w
    simp (disch := omega) only [nlit, nI_add, pk_mul, nC, nB, nT_le, nF_le, nT_lt, nF_lt, nF_eq, nT_eq, nM1_ne, nM1_lt, b2_0, b2_1, b2_nar, nar_0, nar_1, cond_true, if_true, if_false, ob_some, c2 (by omega), hm.2.2.2.2 w (by omega)]
    rw [lnS_1]
    by_cases z : sA S w = 0
    · simp only [z, if_true]
      exact ok_some ⟨rfl, keep S rfl, hm⟩
    · simp (disch := omega) only [nlit, nI_add, pk_mul, nC, nB, nT_le, nF_le, nT_lt, nF_lt, nF_eq, nT_eq, nM1_ne, nM1_lt, b2_0, b2_1, b2_nar, nar_0, nar_1, cond_true, if_true, if_false, ob_some, z]
      exact ok_some ⟨rfl, keep (mv S w 0) rfl, mv_MS hm (by omega)⟩
  · have hw := l2 (by omega)
    have hh := l3 (by omega)
    simp (disch := omega) only [nlit, nI_add, pk_mul, nC, nB, nT_le, nF_le, nT_lt, nF_lt, nF_eq, nT_eq, nM1_ne, nM1_lt, b2_0, b2_1, b2_nar, nar_0, nar_1, cond_true, if_true, if_false, ob_some, c2 (by omega), c3 (by omega)]
    refine ok_bind (ok_mono (m_cross hT hS hm hM hh hw) (fun r hr => ?_))
    rw [lnS_2]
    simp only [hr, b2_0]
    cases z : (!(sA S w == 0) && (tbe T (sA S w - 1)).testBit h && tk T S h w)
    · exact ok_some ⟨rfl, keep S rfl, hm⟩
    · simp only [reduceCtorEq, if_false, if_true]
      exact ok_some ⟨rfl, keep (mv S w (h + 1)) rfl, mv_MS hm (by omega)⟩
  · have hh := l3 (by omega)
    simp (disch := omega) only [nlit, nI_add, pk_mul, nC, nB, nT_le, nF_le, nT_lt, nF_lt, nF_eq, nT_eq, nM1_ne, nM1_lt, b2_0, b2_1, b2_nar, nar_0, nar_1, cond_true, if_true, if_false, ob_some, c3 (by omega)]
    rw [lnS_3]
    exact ok_bind (ok_mono (m_brings hT hS hm hM.2.2.1 hh) (fun y hy => ok_some ⟨rfl, keep (brS T S h) rfl, hy.1⟩))
  · simp (disch := omega) only [nlit, nI_add, pk_mul, nC, nB, nT_le, nF_le, nT_lt, nF_lt, nF_eq, nT_eq, nM1_ne, nM1_lt, b2_0, b2_1, b2_nar, nar_0, nar_1, cond_true, if_true, if_false, ob_some]
    rw [lnS_4]
    refine ok_bind (ok_mono (m_day hT hS (by omega) (by omega) hM hm) (fun y hy => ?_))
    have hb := bs_le (p := fun w => (dyA T 0 S w == 0 && !(sZ S).testBit w) && tkd T w == 1) hG
    have hd := dy_new (T := T) (S := S) (c := 0)
    by_cases z : bs (fun w => (dyA T 0 S w == 0 && !(sZ S).testBit w) && tkd T w == 1) (tG T) = 0
    · rw [hy.1, z]
      exact ok_t rfl (ok_some ⟨rfl, (if_neg (fun q => (hd.mp q.1) z)).symm, hy.2⟩)
    · rw [hy.1]
      refine ok_f (fun e => z ((nI_eq (by omega) (by omega)).mp e)) ?_
      rcases hfs with e | ⟨k, hk, e⟩
      · subst e
        exact ok_f (show ¬ nI 0 ≤ -1 by decide) (ok_some ⟨rfl, (if_pos ⟨hd.mpr z, rfl⟩).symm, hy.2⟩)
      · subst e
        exact ok_t (nI_le (Nat.zero_le _) (by omega)) (ok_some ⟨rfl, (if_neg (fun q => by have h := q.2; rw [nM1_ne (by omega)] at h; exact h)).symm, hy.2⟩)
end JU
