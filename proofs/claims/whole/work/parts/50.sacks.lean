/-! the fewest sacks -/
def gdS (T : Ter) (S : Sta) (n h k : Nat) : Prop := (∀ w, w < tG T → sA S w = h + 1 → tkd T w ≠ 1) ∨ tbu T h * csT T (sD S) n < min (sC S h + k * tS T) 99
def stOK (T : Ter) (S : Sta) : Prop := ∀ w, w < tG T → sA S w = 0 → tkd T w = 1 → (sZ S).testBit w = true
theorem gdS_mono {T : Ter} {S : Sta} {n h k m : Nat} (hg : gdS T S n h k) (hk : k ≤ m) : gdS T S n h m := by
  rcases hg with q | q
  · exact Or.inl q
  · have : k * tS T ≤ m * tS T := Nat.mul_le_mul_right _ hk
    exact Or.inr (by omega)
def dueOf (T : Ter) (S : Sta) (n : Nat) (D : Nat → Nat) : Prop := ∀ h, D h ≤ 4 ∧ (∀ k, k < D h → ¬ gdS T S n h k) ∧ (D h < 4 → gdS T S n h (D h))
theorem due_ex (T : Ter) (S : Sta) (n : Nat) : ∃ D, dueOf T S n D := by
  refine Classical.axiomOfChoice (r := fun h d => d ≤ 4 ∧ (∀ k, k < d → ¬ gdS T S n h k) ∧ (d < 4 → gdS T S n h d)) (fun h => ?_)
  obtain ⟨k, hk, hm⟩ := pk_least (fun k => k = 4 ∨ gdS T S n h k) ⟨4, Or.inl rfl⟩
  refine ⟨k, ?_, fun j hj z => hm j hj (Or.inr z), fun q => ?_⟩
  · exact Nat.le_of_not_lt (fun q => hm 4 q (Or.inl rfl))
  · rcases hk with z | z
    · omega
    · exact z
def sxS (T : Ter) (S : Sta) (kk : Nat → Nat) (h : Nat) : Sta := (sD S, sZ S, sB S, fun j => if j < h then min (sC S j + kk j * tS T) 99 else sC S j, sA S)
theorem sxS_WS {T : Ter} {S : Sta} {N : Nat} {kk : Nat → Nat} {h : Nat} (hT : WT T) (hS : WS T N S) (hh : h ≤ tH T) : WS T N (sxS T S kk h) := by
  have hH := hT.1
  refine ⟨hS.1, hS.2.1, fun j hj => ?_, fun j hj => ?_, hS.2.2.2.2.1, hS.2.2.2.2.2.1, hS.2.2.2.2.2.2.1, fun w j hw e hk => ?_⟩
  · show (if j < h then min (sC S j + kk j * tS T) 99 else sC S j) ≤ 99
    split
    · omega
    · exact hS.2.2.1 j hj
  · show (if j < h then min (sC S j + kk j * tS T) 99 else sC S j) = 0
    rw [if_neg (by omega)]; exact hS.2.2.2.1 j hj
  · show 0 < (if j < h then min (sC S j + kk j * tS T) 99 else sC S j)
    have := hS.2.2.2.2.2.2.2 w j hw e hk
    split <;> omega
theorem sx_leaf {T : Ter} {S : Sta} {N n : Nat} {kk : Nat → Nat} (hT : WT T) (hS : WS T N S) (hn : 1 ≤ n) : (nZ_ T 0 (sxS T S kk (tH T)) n = sZ S) ↔ (stOK T S ∧ ∀ h, h < tH T → gdS T S n h (kk h)) := by
  have eC : ∀ h, h < tH T → nC_ T 0 (sxS T S kk (tH T)) n h = min (sC S h + kk h * tS T) 99 - tbu T h * csT T (sD S) n := by
    intro h hh
    rw [nC0]
    show (if h < tH T then min (sC S h + kk h * tS T) 99 else sC S h) - _ = _
    rw [if_pos hh]; rfl
  have eZ : nZ_ T 0 (sxS T S kk (tH T)) n = sZ S ||| bs (fun w => nA_ T 0 (sxS T S kk (tH T)) n w == 0 && tkd T w == 1) (tG T) := if_neg (by omega)
  rw [eZ]
  have eqv : (sZ S ||| bs (fun w => nA_ T 0 (sxS T S kk (tH T)) n w == 0 && tkd T w == 1) (tG T) = sZ S) ↔ ∀ w, w < tG T → nA_ T 0 (sxS T S kk (tH T)) n w = 0 → tkd T w = 1 → (sZ S).testBit w = true := by
    constructor
    · intro e w hw h1 h2
      have := congrArg (fun m => m.testBit w) e
      simp only [Nat.testBit_or, bs_bit, h1, h2, hw, decide_true, beq_self_eq_true, Bool.and_self, Bool.or_true] at this
      exact this.symm
    · intro h
      apply Nat.eq_of_testBit_eq
      intro w
      rw [Nat.testBit_or, bs_bit]
      cases z : (decide (w < tG T) && (nA_ T 0 (sxS T S kk (tH T)) n w == 0 && tkd T w == 1))
      · exact Bool.or_false _
      · rw [Bool.and_eq_true, Bool.and_eq_true] at z
        rw [h w (of_decide_eq_true z.1) (by simpa using z.2.1) (by simpa using z.2.2)]; rfl
  rw [eqv]
  have eA : ∀ w, nA_ T 0 (sxS T S kk (tH T)) n w = if tkd T w ≠ 3 ∧ sA S w ≠ 0 ∧ nC_ T 0 (sxS T S kk (tH T)) n (sA S w - 1) = 0 then 0 else sA S w := fun w => rfl
  constructor
  · intro h
    refine ⟨fun w hw h0 h1 => h w hw (by rw [eA, h0]; simp) h1, fun h' hh => ?_⟩
    by_cases q : ∀ w, w < tG T → sA S w = h' + 1 → tkd T w ≠ 1
    · exact Or.inl q
    · right
      obtain ⟨w, hw⟩ := Classical.not_forall.mp q
      have hw1 : w < tG T := Classical.byContradiction fun z => hw (fun y => absurd y z)
      have hw2 : sA S w = h' + 1 := Classical.byContradiction fun z => hw (fun _ y => absurd y z)
      have hw3 : tkd T w = 1 := Classical.byContradiction fun z => hw (fun _ _ => z)
      have hne : ¬ nA_ T 0 (sxS T S kk (tH T)) n w = 0 := fun z => by
        have := (hS.2.2.2.2.2.2.1 w (h w hw1 z hw3)).1
        omega
      rw [eA] at hne
      have : ¬ nC_ T 0 (sxS T S kk (tH T)) n (sA S w - 1) = 0 := fun z => hne (by rw [if_pos ⟨by omega, by omega, z⟩])
      rw [hw2, show h' + 1 - 1 = h' by omega, eC h' hh] at this
      omega
  · rintro ⟨h1, h2⟩ w hw e hk
    by_cases q : sA S w = 0
    · exact h1 w hw q hk
    · exfalso
      have hl := hS.2.2.2.2.1 w
      rw [eA] at e
      split at e
      · rename_i z
        rcases h2 (sA S w - 1) (by omega) with y | y
        · exact y w hw (by omega) hk
        · have := z.2.2
          rw [eC _ (by omega)] at this
          omega
      · exact q e
def encO : Option Nat → Int32
  | none => -1
  | some f => nI f
theorem sm_le {f : Nat → Nat} {a b : Nat} (h : a ≤ b) : sm f a ≤ sm f b := by
  induction b with
  | zero => rw [show a = 0 by omega]; exact Nat.le_refl _
  | succ b ih =>
    rcases Nat.lt_or_ge b a with q | q
    · rw [show a = b + 1 by omega]; exact Nat.le_refl _
    · exact Nat.le_trans (ih q) (Nat.le_add_right _ _)
theorem sm_bd {f : Nat → Nat} (h : ∀ i, f i ≤ 4) (n : Nat) : sm f n ≤ 4 * n := by
  induction n with
  | zero => exact Nat.le_refl _
  | succ n ih => have := h n; simp only [sm]; omega
/-- when the search below a choice finds something better -/
def skC (T : Ter) (S : Sta) (n : Nat) (D kk : Nat → Nat) (h many : Nat) (fo : Option Nat) : Prop := stOK T S ∧ (∀ j, j < h → gdS T S n j (kk j)) ∧ (∀ j, h ≤ j → j < tH T → D j ≤ 3) ∧ (∀ f, fo = some f → many + (sm D (tH T) - sm D h) < f)
def skR (T : Ter) (S : Sta) (n : Nat) (D kk : Nat → Nat) (h many : Nat) (fo : Option Nat) (br : Nat → Int32) (fo' : Option Nat) (br' : Nat → Int32) : Prop := (skC T S n D kk h many fo ∧ fo' = some (many + (sm D (tH T) - sm D h)) ∧ (∀ j, j < h → br' j = nI (kk j)) ∧ (∀ j, h ≤ j → j < tH T → br' j = nI (D j))) ∨ (¬ skC T S n D kk h many fo ∧ fo' = fo ∧ br' = br)
theorem sk_step {T : Ter} {S : Sta} {n h i many : Nat} {D kk : Nat → Nat} {fo fo1 fo2 : Option Nat} {br bw best : Nat → Int32} (hD : dueOf T S n D) (hh : h < tH T) (hi : i < 4) (hst : (skC T S n D kk h many fo ∧ D h < i ∧ fo1 = some (many + (sm D (tH T) - sm D h)) ∧ (∀ j, j < h → bw j = nI (kk j)) ∧ (∀ j, h ≤ j → j < tH T → bw j = nI (D j))) ∨ (¬ (skC T S n D kk h many fo ∧ D h < i) ∧ fo1 = fo ∧ bw = br)) (hy : skR T S n D (fun j => if j = h then i else kk j) (h + 1) (many + i) fo1 bw fo2 best) :
    (skC T S n D kk h many fo ∧ D h < i + 1 ∧ fo2 = some (many + (sm D (tH T) - sm D h)) ∧ (∀ j, j < h → best j = nI (kk j)) ∧ (∀ j, h ≤ j → j < tH T → best j = nI (D j))) ∨ (¬ (skC T S n D kk h many fo ∧ D h < i + 1) ∧ fo2 = fo ∧ best = br) := by
  have hsm1 := sm_le (f := D) (show h + 1 ≤ tH T by omega)
  have hsm2 : sm D (h + 1) = sm D h + D h := rfl
  have ekh : (fun j => if j = h then i else kk j) h = i := if_pos rfl
  have ekn : ∀ j, j ≠ h → (fun j => if j = h then i else kk j) j = kk j := fun j hj => if_neg hj
  rcases hst with ⟨a1, a2, a3, a4, a5⟩ | ⟨b1, b2, b3⟩
  · rcases hy with ⟨c1, -⟩ | ⟨-, d2, d3⟩
    · exfalso
      have := c1.2.2.2 _ a3
      omega
    · left
      rw [d2, d3]
      exact ⟨a1, by omega, a3, a4, a5⟩
  · subst b2 b3
    rcases hy with ⟨c1, c2, c3, c4⟩ | ⟨d1, d2, d3⟩
    · left
      have hgi : gdS T S n h i := by
        have := c1.2.1 h (by omega)
        rw [ekh] at this
        exact this
      have hDi : D h ≤ i := Nat.le_of_not_lt (fun z => (hD h).2.1 i z hgi)
      have hC : skC T S n D kk h many fo1 := by
        refine ⟨c1.1, fun j hj => ?_, fun j h1 h2 => ?_, fun f e => ?_⟩
        · have := c1.2.1 j (by omega)
          rw [ekn j (by omega)] at this
          exact this
        · rcases Nat.lt_or_ge h j with q | q
          · exact c1.2.2.1 j (by omega) h2
          · rw [show j = h by omega]; omega
        · have := c1.2.2.2 f e
          omega
      have hDe : D h = i := by
        rcases Nat.lt_or_ge (D h) i with q | q
        · exact absurd ⟨hC, q⟩ b1
        · omega
      refine ⟨hC, by omega, by rw [c2]; congr 1; omega, fun j hj => ?_, fun j h1 h2 => ?_⟩
      · have := c3 j (by omega)
        rw [ekn j (by omega)] at this
        exact this
      · rcases Nat.lt_or_ge h j with q | q
        · exact c4 j (by omega) h2
        · have e : j = h := by omega
          have := c3 j (by omega)
          rw [e, ekh] at this
          rw [e, this, hDe]
    · right
      refine ⟨fun z => d1 ?_, d2, d3⟩
      obtain ⟨z1, z2⟩ := z
      have hDe : D h = i := by
        rcases Nat.lt_or_ge (D h) i with q | q
        · exact absurd ⟨z1, q⟩ b1
        · omega
      refine ⟨z1.1, fun j hj => ?_, fun j h1 h2 => z1.2.2.1 j (by omega) h2, fun f e => ?_⟩
      · by_cases q : j = h
        · rw [q, ekh, ← hDe]
          exact (hD h).2.2 (by omega)
        · rw [ekn j q]; exact z1.2.1 j (by omega)
      · have := z1.2.2.2 f e
        omega
section SK
variable {T : Ter} {S : Sta} {N : Nat} {catB wanB len br : Int32} {cold hf ct bu be kd gf fo code coal inside : Nat → Int32}
variable {tr hf' ct' bu' wl kd' gf' wr cd lf lt cds s : Nat → Int32}
theorem m_stocks {n : Nat} {D : Nat → Nat} (hT : WT T) (hS : WS T N S) (hN : N ≤ 1800) (hn : 1 ≤ n) (hn2 : n ≤ 30) (hD : dueOf T S n D) (hM : MT T tr hf' ct' bu' wl kd' gf' wr cd lf lt cds) : ∀ (r h : Nat), h + r = tH T → ∀ (M : Nat), r < M → ∀ (kk : Nat → Nat) (many : Nat) (fo : Option Nat) (s bf row br : Nat → Int32), many ≤ 3 * h → (∀ j, j < h → kk j ≤ 3) → (∀ f, fo = some f → f < 100) → MS (sxS T S kk h) s → (∀ j, j < h → row j = nI (kk j)) →
    ok (itr FX9_stocks (fun _ _ _ _ _ _ _ _ _ _ _ _ _ => none) M (nI 0) tr bu' kd' cd (encO fo) s bf row br (nI h) (nI many) (nI n)) (fun r => ∃ fo', r.1 = encO fo' ∧ (∀ f, fo' = some f → f < 100) ∧ MS (sxS T S kk h) r.2.1 ∧ (∀ j, j < h → r.2.2.2.1 j = nI (kk j)) ∧ skR T S n D kk h many fo br fo' r.2.2.2.2) := by
  have hH := hT.1
  have hk5 := hT.2.2.1
  have hDb : ∀ i, D i ≤ 4 := fun i => (hD i).1
  intro r
  induction r with
  | zero =>
    intro h hr M hM2 kk many fo s bf row br hmany hkk hfo hs hrow
    obtain ⟨M', rfl⟩ : ∃ M', M = M' + 1 := ⟨M - 1, by omega⟩
    have eh : h = tH T := by omega
    subst eh
    have tot : many + (sm D (tH T) - sm D (tH T)) = many := by omega
    show ok (FX9_stocks (itr FX9_stocks _ M') (nI 0) tr bu' kd' cd (encO fo) s bf row br (nI (tH T)) (nI many) (nI n)) _
    unfold FX9_stocks
    have body : (∀ f, fo = some f → many < f) → ok (fX9_stocks_16 (nI 0) tr bu' kd' cd (itr FX9_stocks (fun _ _ _ _ _ _ _ _ _ _ _ _ _ => none) M') (encO fo) s bf row br (nI (tH T)) (nI many) (nI n)) (fun r => ∃ fo', r.1 = encO fo' ∧ (∀ f, fo' = some f → f < 100) ∧ MS (sxS T S kk (tH T)) r.2.1 ∧ (∀ j, j < tH T → r.2.2.2.1 j = nI (kk j)) ∧ skR T S n D kk (tH T) many fo br fo' r.2.2.2.2) := by
      intro hlt
      unfold fX9_stocks_16
      refine ok_t (by rw [hM.1]) ?_
      refine ok_bind (ok_mono m_copy13 (fun y3 h3 => ?_))
      have h3 := MS_congr hs h3
      have hws := sxS_WS (kk := kk) hT hS (Nat.le_refl (tH T))
      refine ok_bind (ok_mono (m_goesOn hT hws hN (by omega) (by omega) hM hs) (fun y4 h4 => ?_))
      have hz4 : y4 1 = nI (nZ_ T 0 (sxS T S kk (tH T)) n) := by rw [h4.2.1, (dyN_closed hT hws n).2.2.2.2.2]
      have hz3 : y3 1 = nI (sZ S) := h3.2.1
      rw [hz4, hz3]
      have hzl : nZ_ T 0 (sxS T S kk (tH T)) n < 32 := by
        have := (dyN_WS (c := 0) hT hws n).z hT
        rw [(dyN_closed hT hws n).2.2.2.2.2] at this
        exact this
      have hzs := hS.z hT
      have hlf := sx_leaf (kk := kk) hT hS hn
      refine ok_if (fun q => ?_) (fun q => ?_)
      · have q := hlf.mp ((nI_eq (by omega) (by omega)).mp q)
        unfold fX9_stocks_64
        refine ok_bind (ok_mono m_copy13 (fun y1 h1 => ?_))
        have h1 := MS_congr h3 h1
        refine ok_f (by decide) ?_
        refine ok_for5 5 (fun i f a b rw_ bw => f = nI many ∧ MS (sxS T S kk (tH T)) a ∧ rw_ = row ∧ (∀ j, j < i → bw j = row j)) ?_ ?_ FU 0 (nI many) y1 y3 row br (Nat.zero_le _) ⟨rfl, h1, rfl, fun j hj => by omega⟩ (by unfold FU; omega)
        · rintro k f a b rw_ bw i hi ⟨rfl, ha, rfl, hb⟩ hk
          unfold fX9_stocks_93
          simp (disch := omega) only [nlit, nI_add, pk_mul, nC, nB, nT_le, nF_le, nT_lt, nF_lt, nF_eq, nT_eq, nM1_ne, nM1_lt, b2_0, b2_1, b2_nar, nar_0, nar_1, cond_true, if_true, if_false, ob_some]
          refine hk _ _ _ _ _ ⟨rfl, ha, rfl, fun j hj => ?_⟩
          by_cases z : j = i
          · subst z; rw [pk_us]
          · rw [pk_un z]; exact hb j (by omega)
        · rintro k f a b rw_ bw ⟨rfl, ha, rfl, hb⟩
          unfold fX9_stocks_93
          simp (disch := omega) only [nlit, nI_add, pk_mul, nC, nB, nT_le, nF_le, nT_lt, nF_lt, nF_eq, nT_eq, nM1_ne, nM1_lt, b2_0, b2_1, b2_nar, nar_0, nar_1, cond_true, if_true, if_false, ob_some]
          refine ok_some ⟨some many, rfl, fun f e => ?_, ha, hrow, Or.inl ⟨⟨q.1, q.2, fun j h1 h2 => by omega, fun f e => by rw [tot]; exact hlt f e⟩, by rw [tot], fun j hj => ?_, fun j h1 h2 => by omega⟩⟩
          · cases e; omega
          · show bw j = _
            rw [hb j (by omega), hrow j hj]
      · unfold fX9_stocks_64
        refine ok_bind (ok_mono m_copy13 (fun y1 h1 => ?_))
        have h1 := MS_congr h3 h1
        refine ok_t rfl (ok_some ⟨fo, rfl, hfo, h1, hrow, Or.inr ⟨fun z => q ?_, rfl, rfl⟩⟩)
        rw [hlf.mpr ⟨z.1, z.2.1⟩]
    cases fo with
    | none => exact ok_t (show encO none < 0 by decide) (body (fun f e => by cases e))
    | some f =>
      have hf := hfo f rfl
      refine ok_f (show ¬ nI f < 0 from nI_pos (by omega)) ?_
      refine ok_if (fun q => ?_) (fun q => ?_)
      · have q := (nI_ltI (by omega) (by omega)).mp q
        exact body (fun g e => by cases e; exact q)
      · refine ok_some ⟨some f, rfl, hfo, hs, hrow, Or.inr ⟨fun z => q ?_, rfl, rfl⟩⟩
        have := z.2.2.2 f rfl
        rw [tot] at this
        exact nI_lt this (by omega)
  | succ r ih =>
    intro h hr M hM2 kk many fo s bf row br hmany hkk hfo hs hrow
    obtain ⟨M', rfl⟩ : ∃ M', M = M' + 1 := ⟨M - 1, by omega⟩
    have hh : h < tH T := by omega
    have hsmD := sm_bd hDb (tH T)
    have hsm1 := sm_le (f := D) (show h + 1 ≤ tH T by omega)
    have hsm2 : sm D (h + 1) = sm D h + D h := rfl
    show ok (FX9_stocks (itr FX9_stocks _ M') (nI 0) tr bu' kd' cd (encO fo) s bf row br (nI h) (nI many) (nI n)) _
    unfold FX9_stocks
    have body : ok (fX9_stocks_16 (nI 0) tr bu' kd' cd (itr FX9_stocks (fun _ _ _ _ _ _ _ _ _ _ _ _ _ => none) M') (encO fo) s bf row br (nI h) (nI many) (nI n)) (fun r => ∃ fo', r.1 = encO fo' ∧ (∀ f, fo' = some f → f < 100) ∧ MS (sxS T S kk h) r.2.1 ∧ (∀ j, j < h → r.2.2.2.1 j = nI (kk j)) ∧ skR T S n D kk h many fo br fo' r.2.2.2.2) := by
      unfold fX9_stocks_16
      have hwas : s (3 + h) = nI (sC S h) := by
        rw [hs.2.2.2.1 h (by omega)]
        show nI (if h < h then _ else _) = _
        rw [if_neg (by omega)]
      have hcl := hS.2.2.1 h (by omega)
      rw [show (3 : Int32) + nI h = nI (3 + h) from nI_add 3 h, nC (by omega), hwas]
      refine ok_f (by rw [hM.1]; exact fun e => by have := (nI_eq (by omega) (by omega)).mp e; omega) (ok_g (nB (by omega) (by omega)) ?_)
      refine ok_for9 4 (fun k f a b rw_ bw w1 w2 w3 w4 => w1 = nI h ∧ w2 = nI many ∧ w3 = nI n ∧ w4 = nI (sC S h) ∧ (∃ x, MS (sxS T S (fun j => if j = h then x else kk j) (h + 1)) a ∨ MS (sxS T S kk h) a) ∧ (∀ j, j < h → rw_ j = nI (kk j)) ∧ (∃ fo', f = encO fo' ∧ (∀ g, fo' = some g → g < 100) ∧ ((skC T S n D kk h many fo ∧ D h < k ∧ fo' = some (many + (sm D (tH T) - sm D h)) ∧ (∀ j, j < h → bw j = nI (kk j)) ∧ (∀ j, h ≤ j → j < tH T → bw j = nI (D j))) ∨ (¬ (skC T S n D kk h many fo ∧ D h < k) ∧ fo' = fo ∧ bw = br)))) ?_ ?_ FU 0 (encO fo) s bf row br (nI h) (nI many) (nI n) (nI (sC S h)) (Nat.zero_le _) ⟨rfl, rfl, rfl, rfl, ⟨0, Or.inr hs⟩, hrow, fo, rfl, hfo, Or.inr ⟨fun z => by omega, rfl, rfl⟩⟩ (by unfold FU; omega)
      · rintro k f a b rw_ bw w1 w2 w3 w4 i hi ⟨rfl, rfl, rfl, rfl, ha, hrw, fo1, rfl, hfo1, hst⟩ hk
        have hms : MS (sxS T S (fun j => if j = h then i else kk j) (h + 1)) (upd a (3 + h) (nI (min (sC S h + i * tS T) 99))) := by
          have base : ∀ X : Sta, MS X a → sD X = sD S → sZ X = sZ S → sB X = sB S → sA X = sA S → (∀ j, j < 5 → j ≠ h → sC X j = (if j < h then min (sC S j + kk j * tS T) 99 else sC S j)) → MS (sxS T S (fun j => if j = h then i else kk j) (h + 1)) (upd a (3 + h) (nI (min (sC S h + i * tS T) 99))) := by
            intro X hX e1 e2 e3 e4 e5
            refine ⟨?_, ?_, ?_, fun j hj => ?_, fun w hw => ?_⟩
            · rw [pk_un (by omega), hX.1, e1]; rfl
            · rw [pk_un (by omega), hX.2.1, e2]; rfl
            · rw [pk_un (by omega), hX.2.2.1, e3]; rfl
            · show _ = nI (if j < h + 1 then min (sC S j + (if j = h then i else kk j) * tS T) 99 else sC S j)
              by_cases z : j = h
              · subst z
                rw [pk_us, if_pos (by omega), if_pos rfl]
              · rw [pk_un (by omega), hX.2.2.2.1 j hj, e5 j hj z, if_neg z]
                by_cases y : j < h
                · rw [if_pos y, if_pos (by omega)]
                · rw [if_neg y, if_neg (by omega)]
            · rw [pk_un (by omega), hX.2.2.2.2 w hw, e4]; rfl
          obtain ⟨x, hx | hx⟩ := ha
          · refine base _ hx rfl rfl rfl rfl (fun j hj z => ?_)
            show (if j < h + 1 then min (sC S j + (if j = h then x else kk j) * tS T) 99 else sC S j) = _
            rw [if_neg z]
            by_cases y : j < h
            · rw [if_pos y, if_pos (by omega)]
            · rw [if_neg y, if_neg (by omega)]
          · exact base _ hx rfl rfl rfl rfl (fun j hj z => rfl)
        have hil : i * tS T ≤ 3 * 20 := Nat.mul_le_mul (by omega) hk5.2
        unfold fX9_stocks_133
        have e1 : imin 99 (nI (sC S h) + nI i * tr 2) = nI (min (sC S h + i * tS T) 99) := by
          rw [hM.2.2.1, pk_mul, nI_add, Nat.min_comm]
          exact nmin (a := 99) (by omega) (by omega)
        rw [show (3 : Int32) + nI h = nI (3 + h) from nI_add 3 h, nC (by omega), nC (by omega), e1, nI_1, nI_1, nI_add]
        refine ok_f (show ¬ (4 : Int32) ≤ nI i from nI_ge (b := 4) hi (by omega)) (ok_g (nB (by omega) (by omega)) (ok_g (nB (by omega) (by omega)) ?_))
        refine ok_bind (ok_mono (ih (h + 1) (by omega) M' (by omega) (fun j => if j = h then i else kk j) (many + i) fo1 _ b _ bw (by omega) (fun j hj => ?_) hfo1 hms (fun j hj => ?_)) (fun y hy => ?_))
        · show (if j = h then i else kk j) ≤ 3
          split
          · omega
          · exact hkk j (by omega)
        · show upd rw_ h (nI i) j = nI (if j = h then i else kk j)
          by_cases z : j = h
          · rw [if_pos z, z, pk_us]
          · rw [if_neg z, pk_un z]; exact hrw j (by omega)
        · obtain ⟨fo2, y1, y2, y3, y4, y5⟩ := hy
          refine hk _ _ _ _ _ _ _ _ _ ⟨rfl, rfl, rfl, rfl, ⟨i, Or.inl y3⟩, fun j hj => ?_, fo2, y1, y2, ?_⟩
          · have := y4 j (by omega)
            rw [if_neg (by omega)] at this
            exact this
          · -- what this choice changed
            exact sk_step hD hh hi hst y5
      · rintro k f a b rw_ bw w1 w2 w3 w4 ⟨rfl, rfl, rfl, rfl, ha, hrw, fo1, rfl, hfo1, hst⟩
        have hms : MS (sxS T S kk h) (upd a (3 + h) (nI (sC S h))) := by
          have base : ∀ X : Sta, MS X a → sD X = sD S → sZ X = sZ S → sB X = sB S → sA X = sA S → (∀ j, j < 5 → j ≠ h → sC X j = (if j < h then min (sC S j + kk j * tS T) 99 else sC S j)) → MS (sxS T S kk h) (upd a (3 + h) (nI (sC S h))) := by
            intro X hX e1 e2 e3 e4 e5
            refine ⟨?_, ?_, ?_, fun j hj => ?_, fun w hw => ?_⟩
            · rw [pk_un (by omega), hX.1, e1]; rfl
            · rw [pk_un (by omega), hX.2.1, e2]; rfl
            · rw [pk_un (by omega), hX.2.2.1, e3]; rfl
            · show _ = nI (if j < h then min (sC S j + kk j * tS T) 99 else sC S j)
              by_cases z : j = h
              · subst z
                rw [pk_us, if_neg (by omega)]
              · rw [pk_un (by omega), hX.2.2.2.1 j hj, e5 j hj z]
            · rw [pk_un (by omega), hX.2.2.2.2 w hw, e4]; rfl
          obtain ⟨x, hx | hx⟩ := ha
          · refine base _ hx rfl rfl rfl rfl (fun j hj z => ?_)
            show (if j < h + 1 then min (sC S j + (if j = h then x else kk j) * tS T) 99 else sC S j) = _
            rw [if_neg z]
            by_cases y : j < h
            · rw [if_pos y, if_pos (by omega)]
            · rw [if_neg y, if_neg (by omega)]
          · exact base _ hx rfl rfl rfl rfl (fun j hj z => rfl)
        unfold fX9_stocks_133
        rw [show (3 : Int32) + nI h = nI (3 + h) from nI_add 3 h, nC (by omega)]
        refine ok_t (show (4 : Int32) ≤ nI 4 by decide) (ok_g (nB (by omega) (by omega)) (ok_some ⟨fo1, rfl, hfo1, hms, hrw, ?_⟩))
        rcases hst with ⟨a1, a2, a3, a4, a5⟩ | ⟨b1, b2, b3⟩
        · exact Or.inl ⟨a1, a3, a4, a5⟩
        · refine Or.inr ⟨fun z => b1 ⟨z, ?_⟩, b2, b3⟩
          have := z.2.2.1 h (Nat.le_refl _) hh
          omega
    cases fo with
    | none => exact ok_t (show encO none < 0 by decide) body
    | some f =>
      have hf := hfo f rfl
      refine ok_f (show ¬ nI f < 0 from nI_pos (by omega)) ?_
      refine ok_if (fun q => body) (fun q => ?_)
      refine ok_some ⟨some f, rfl, hfo, hs, hrow, Or.inr ⟨fun z => q ?_, rfl, rfl⟩⟩
      have := z.2.2.2 f rfl
      exact nI_lt (by omega) (by omega)
theorem c_due {n h : Nat} {D : Nat → Nat} (hT : WT T) (hS : WS T N S) (hN : N ≤ 1800) (hn2 : n ≤ 30) (hD : dueOf T S n D) (hC : CT T (nI (tN T)) (nI (tH T)) (nI (tG T)) (nI (tS T)) catB wanB len cold hf ct bu be kd gf fo code) (hs : CS T S (nI (sZ S)) (nI (sD S)) br coal inside) (hh : h < tH T) : fX4_sacksDue (nI (sD S)) (nI (tN T)) (nI (tS T)) wanB coal inside cold bu (nI h) (nI n) = some (nI (D h)) := by
  have hH := hT.1
  have hG := hT.2.1
  have hk5 := hT.2.2.1
  have hd := hS.1
  have hI := oIn_lt (S := S) (h := h) hT
  have hW := bs_le (p := fun w => tkd T w == 1) hG
  have hcl := hS.2.2.1 h (by omega)
  have hbu := (hT.2.2.2.2.2.1 h hh).2.2.1
  have hcs := csT_le (d := sD S) (n := n) hT
  have hx : tbu T h * csT T (sD S) n ≤ 9 * 90 := Nat.mul_le_mul hbu (by omega)
  have ei : inside h = nI (oIn T S h) := hs.2.2.2.2 h (by omega)
  unfold fX4_sacksDue
  simp (disch := omega) only [nlit, nI_add, pk_mul, nC, nB, nT_le, nF_le, nT_lt, nF_lt, nF_eq, nT_eq, nM1_ne, nM1_lt, b2_0, b2_1, b2_nar, nar_0, nar_1, cond_true, if_true, if_false, ob_some, ei, hC.2.2.2.2.2.1, q_and, hC.2.2.2.2.2.2.2.2.2.1 h hh, c_coldOver hT hC.2.2.2.2.2.2.1]
  have hal : oIn T S h &&& bs (fun w => tkd T w == 1) (tG T) < 32 := Nat.and_lt_two_pow (n := 5) _ hW
  have key : (oIn T S h &&& bs (fun w => tkd T w == 1) (tG T) = 0) ↔ ∀ w, w < tG T → sA S w = h + 1 → tkd T w ≠ 1 := by
    unfold oIn
    rw [bs_and, bs_0]
    constructor
    · intro z w hw e1 e2
      have := z w hw
      rw [e1, e2] at this
      simp at this
    · intro z w hw
      cases y : (sA S w == h + 1 && tkd T w == 1)
      · rfl
      · rw [Bool.and_eq_true] at y
        exact absurd (by simpa using y.2) (z w hw (by simpa using y.1))
  by_cases q : oIn T S h &&& bs (fun w => tkd T w == 1) (tG T) = 0
  · have e : D h = 0 := by
      rcases Nat.eq_zero_or_pos (D h) with z | z
      · exact z
      · exact absurd (Or.inl (key.mp q)) ((hD h).2.1 0 z)
    rw [q, e]
    rfl
  · rw [if_neg (fun e => q ((nI_eq (by omega) (by omega)).mp e))]
    have gd : ∀ k, gdS T S n h k ↔ tbu T h * csT T (sD S) n < min (sC S h + k * tS T) 99 := fun k => ⟨fun z => z.elim (fun y => absurd (key.mpr y) q) id, Or.inr⟩
    refine ok_eq.mp (ok_for2 4 (fun i w2 w4 => w2 = nI h ∧ w4 = nI (tbu T h * csT T (sD S) n) ∧ ∀ k, k < i → ¬ gdS T S n h k) ?_ ?_ FU 0 (nI h) (nI (tbu T h * csT T (sD S) n)) (Nat.zero_le _) ⟨rfl, rfl, fun k hk => by omega⟩ (by unfold FU; omega))
    · rintro k _ _ i hi ⟨rfl, rfl, hm⟩ hk
      have hil : i * tS T ≤ 3 * 20 := Nat.mul_le_mul (by omega) hk5.2
      unfold fX4_sacksDue_37
      simp (disch := omega) only [nlit, nI_add, pk_mul, nC, nB, nT_le, nF_le, nT_lt, nF_lt, nF_eq, nT_eq, nM1_ne, nM1_lt, b2_0, b2_1, b2_nar, nar_0, nar_1, cond_true, if_true, if_false, ob_some, hs.2.2.2.1 h hh, nmin, n_le]
      by_cases z : min (sC S h + i * tS T) 99 ≤ tbu T h * csT T (sD S) n
      · rw [if_pos z]
        refine hk _ _ ⟨rfl, rfl, fun m hm2 => ?_⟩
        rcases Nat.lt_succ_iff_lt_or_eq.mp hm2 with y | rfl
        · exact hm m y
        · rw [gd]; omega
      · rw [if_neg z]
        refine ok_some ?_
        have hgi : gdS T S n h i := (gd i).mpr (by omega)
        have h1 : D h ≤ i := Nat.le_of_not_lt (fun y => (hD h).2.1 i y hgi)
        rcases Nat.lt_or_ge (D h) i with y | y
        · exact absurd ((hD h).2.2 (by omega)) (hm _ y)
        · rw [show D h = i by omega]
    · rintro k _ _ ⟨rfl, rfl, hm⟩
      unfold fX4_sacksDue_37
      simp (disch := omega) only [nlit, nI_add, pk_mul, nC, nB, nT_le, nF_le, nT_lt, nF_lt, nF_eq, nT_eq, nM1_ne, nM1_lt, b2_0, b2_1, b2_nar, nar_0, nar_1, cond_true, if_true, if_false, ob_some]
      refine ok_some ?_
      rcases Nat.lt_or_ge (D h) 4 with y | y
      · exact absurd ((hD h).2.2 y) (hm _ y)
      · rw [show D h = 4 by have := (hD h).1; omega]
theorem wthm (v : Int32) (H : Nat) (hH : H ≤ 5) : ((v = -1 ∨ ∃ j, j < H ∧ v = nI j) ∧ fX9_within v (-1) (nI H - 1) = some (nI 1) ∧ fX8_isWithin v (-1) (nI H - 1) = some (nI 1)) ∨ (fX9_within v (-1) (nI H - 1) = some (nI 0) ∧ fX8_isWithin v (-1) (nI H - 1) = some (nI 0)) := by
  have e : fX8_isWithin v (-1) (nI H - 1) = fX9_within v (-1) (nI H - 1) := rfl
  rw [e]
  unfold fX9_within
  by_cases h1 : v < -1
  · rw [if_pos h1]; exact Or.inr ⟨rfl, rfl⟩
  · rw [if_neg h1]
    by_cases h2 : nI H - 1 < v
    · rw [if_pos h2]; exact Or.inr ⟨rfl, rfl⟩
    · rw [if_neg h2]
      refine Or.inl ⟨?_, rfl, rfl⟩
      by_cases h3 : v < 0
      · left
        apply Int32.toInt_inj.mp
        rw [Int32.lt_iff_toInt_lt] at h1 h3
        have e1 : (-1 : Int32).toInt = -1 := by decide
        have e0 : (0 : Int32).toInt = 0 := by decide
        rw [e1] at h1 ⊢
        rw [e0] at h3
        omega
      · right
        obtain ⟨j, hj, rfl⟩ := nI_of h3
        refine ⟨j, Nat.lt_of_not_le (fun z => h2 ?_), rfl⟩
        rw [Int32.lt_iff_toInt_lt, nI_toInt hj]
        have e2 : (nI H - 1).toInt = (H : Int) - 1 := pk_sub_toInt (b := 1) (by omega) (by omega)
        rw [e2]
        omega
theorem p_sacks {th mf : Int32} {bf row brw : Nat → Int32} (v1 v2 : Int32) (hT : WT T) (hS : WS T N S) (hN : N ≤ 1800) (hC : CT T (nI (tN T)) (nI (tH T)) (nI (tG T)) (nI (tS T)) catB wanB len cold hf ct bu be kd gf fo code) (hs : CS T S (nI (sZ S)) (nI (sD S)) br coal inside) (hM : MT T tr hf' ct' bu' wl kd' gf' wr cd lf lt cds) (hm : MS S s) :
    ∃ a, fX8_sacks (nI (sZ S)) (nI (sD S)) (nI (tN T)) (nI (tH T)) (nI (tG T)) (nI (tS T)) wanB coal inside cold bu v1 v2 = some a ∧ ok (fX9_sacks (nI 0) tr bu' kd' cd th mf s bf row brw v1 v2) (fun r => r.1 = a ∧ MS S r.2.2.2.1) := by
  have hH := hT.1
  have hG := hT.2.1
  have hZ := hS.z hT
  have ewb := hC.2.2.2.2.2.1
  subst ewb
  unfold fX8_sacks fX9_sacks
  rw [hM.1]
  rcases wthn v1 1 30 (by omega) (by omega) with ⟨n, hn1, hn2, rfl, e1, e1'⟩ | ⟨e1, e1'⟩
  rotate_left
  · refine ⟨-2, ?_, ?_⟩
    · show Option.bind (fX8_isWithin v1 (nI 1) (nI 30)) _ = _
      rw [e1']; rfl
    · show ok (Option.bind (fX9_within v1 (nI 1) (nI 30)) _) _
      rw [e1]; exact ok_some ⟨rfl, hm⟩
  have e1 : fX9_within (nI n) 1 30 = some (nI 1) := e1
  have e1' : fX8_isWithin (nI n) 1 30 = some (nI 1) := e1'
  rw [e1, e1']
  rcases wthm v2 (tH T) hH with ⟨hv, e2, e2'⟩ | ⟨e2, e2'⟩
  rotate_left
  · refine ⟨-2, ?_, ?_⟩
    · rw [e2']; rfl
    · rw [e2]; exact ok_some ⟨rfl, hm⟩
  rw [e2, e2']
  obtain ⟨D, hD⟩ := due_ex T S n
  have hDb : ∀ i, D i ≤ 4 := fun i => (hD i).1
  have hsb := sm_bd hDb (tH T)
  have h10 : ¬ nI 1 = 0 := by decide
  have es : fX4_streetBits (nI (sZ S)) (nI (tH T)) (nI (tG T)) inside = some (nI (oOut T S)) := c_street hH hG hZ (fun w _ => hS.2.2.2.2.1 w) hs.2.2.2.2
  have hO := oOut_lt (S := S) hT
  have hW := bs_le (p := fun w => tkd T w == 1) hG
  have hal : oOut T S &&& bs (fun w => tkd T w == 1) (tG T) < 32 := Nat.and_lt_two_pow (n := 5) _ hW
  have kst : (oOut T S &&& bs (fun w => tkd T w == 1) (tG T) = 0) ↔ stOK T S := by
    unfold oOut stOK
    rw [bs_and, bs_0]
    constructor
    · intro z w hw e1 e2
      have := z w hw
      rw [e1, e2] at this
      simpa using this
    · intro z w hw
      cases y : ((sA S w == 0 && !(sZ S).testBit w) && tkd T w == 1)
      · rfl
      · rw [Bool.and_eq_true, Bool.and_eq_true] at y
        have := z w hw (by simpa using y.1.1) (by simpa using y.2)
        rw [this] at y
        simp at y
  have hms0 : MS (sxS T S (fun _ => 0) 0) s := hm
  have hst := m_stocks hT hS hN hn1 hn2 hD hM (tH T) 0 (by omega) 8 (by omega) (fun _ => 0) 0 none s bf row brw (by omega) (fun j hj => by omega) (fun f e => by cases e) hms0 (fun j hj => by omega)
  have tot0 : 0 + (sm D (tH T) - sm D 0) = sm D (tH T) := by show 0 + (sm D (tH T) - 0) = _; omega
  -- what the class answers
  obtain ⟨a, ha1, ha2⟩ : ∃ a : Int32, ((stOK T S ∧ ∀ j, j < tH T → D j ≤ 3) → a = if v2 = -1 then nI (sm D (tH T)) else nI (D v2.toNatClampNeg)) ∧ (¬ (stOK T S ∧ ∀ j, j < tH T → D j ≤ 3) → a = -2) := by
    by_cases z : stOK T S ∧ ∀ j, j < tH T → D j ≤ 3
    · exact ⟨_, fun _ => rfl, fun y => absurd z y⟩
    · exact ⟨_, fun y => absurd y z, fun _ => rfl⟩
  refine ⟨a, ?_, ?_⟩
  · refine ok_eq.mp (ok_bind (ok_some (ok_f h10 (ok_bind (ok_some (ok_f h10 ?_))))))
    rw [es]
    refine ok_bind (ok_some ?_)
    rw [q_and _ (by omega) _ (by omega)]
    by_cases q : oOut T S &&& bs (fun w => tkd T w == 1) (tG T) = 0
    · rw [q]
      refine ok_t rfl ?_
      have hst := kst.mp q
      refine ok_for4 (tH T) (fun i w1 w2 w3 w4 => w1 = nI n ∧ w2 = v2 ∧ w3 = nI (sm D i) ∧ (∀ j, j < i → D j ≤ 3) ∧ (∀ j, j < i → v2 = nI j → w4 = nI (D j))) ?_ ?_ FU 0 (nI n) v2 0 0 (Nat.zero_le _) ⟨rfl, rfl, rfl, fun j hj => by omega, fun j hj => by omega⟩ (by unfold FU; omega)
      · rintro k w1 w2 w3 w4 i hi ⟨rfl, ew2, rfl, h3, h4⟩ hk
        rw [ew2]
        unfold fX8_sacks_63
        have hdi := hDb i
        rw [c_due hT hS hN hn2 hD hC hs hi]
        refine ok_f (nI_ge hi (by omega)) (ok_bind (ok_some ?_))
        rw [nI_1, nI_add]
        refine ok_if (fun z => ?_) (fun z => ?_)
        · have z : D i ≤ 3 := (nI_leI (b := 3) (by omega) (by omega)).mp z
          have h3' : ∀ j, j < i + 1 → D j ≤ 3 := fun j hj => by
            rcases Nat.lt_succ_iff_lt_or_eq.mp hj with y | rfl
            · exact h3 j y
            · exact z
          refine ok_if (fun y => ?_) (fun y => ?_)
          · refine hk _ _ _ _ ⟨rfl, rfl, rfl, h3', fun j hj e => ?_⟩
            have : i = j := by
              rw [← y] at e
              exact (nI_eq (by omega) (by omega)).mp e
            rw [this]
          · refine hk _ _ _ _ ⟨rfl, rfl, rfl, h3', fun j hj e => ?_⟩
            rcases Nat.lt_succ_iff_lt_or_eq.mp hj with x | rfl
            · exact h4 j x e
            · exact absurd e.symm y
        · refine ok_some ?_
          exact (ha2 (fun y => z (nI_le (b := 3) (y.2 i hi) (by omega)))).symm
      · rintro k w1 w2 w3 w4 ⟨rfl, ew2, rfl, h3, h4⟩
        rw [ew2]
        unfold fX8_sacks_63
        refine ok_t (nI_le (Nat.le_refl _) (by omega)) ?_
        have ha := ha1 ⟨hst, h3⟩
        refine ok_if (fun y => ok_some ?_) (fun y => ok_some ?_)
        · rw [ha, if_pos y]
        · rw [ha, if_neg y]
          rcases hv with z | ⟨j, hj, z⟩
          · exact absurd z y
          · rw [h4 j hj z, z, nC (by omega)]
    · refine ok_f (fun e => q ((nI_eq (b := 0) (by omega) (by omega)).mp e)) (ok_some ?_)
      exact (ha2 (fun z => q (kst.mpr z.1))).symm
  · refine ok_bind (ok_some (ok_f h10 (ok_bind (ok_some (ok_f h10 ?_)))))
    refine ok_bind (ok_mono hst (fun y hy => ?_))
    obtain ⟨fo', y1, y2, y3, y4, y5⟩ := hy
    have y3 : MS S y.2.1 := y3
    rcases y5 with ⟨c1, c2, c3, c4⟩ | ⟨d1, d2, d3⟩
    · rw [tot0] at c2
      rw [c2] at y1
      have y1 : y.1 = nI (sm D (tH T)) := y1
      have ha := ha1 ⟨c1.1, fun j hj => c1.2.2.1 j (by omega) hj⟩
      rw [y1]
      refine ok_t (nI_pos' (by omega)) ?_
      refine ok_if (fun z => ok_some ⟨?_, y3⟩) (fun z => ?_)
      · rw [ha, if_pos z]
      · rcases hv with x | ⟨j, hj, x⟩
        · exact absurd x z
        · rw [x, nC (by omega)]
          refine ok_g (nB (by omega) (by omega)) (ok_some ⟨?_, y3⟩)
          rw [ha, if_neg z, x, nC (by omega)]
          exact c4 j (by omega) hj
    · rw [d2] at y1
      have y1 : y.1 = -1 := y1
      have hneg : ¬ (stOK T S ∧ ∀ j, j < tH T → D j ≤ 3) := fun z => d1 ⟨z.1, fun j hj => by omega, fun j _ hj => z.2 j hj, fun f e => by cases e⟩
      have ha := ha2 hneg
      rw [y1]
      exact ok_f (by decide) (ok_some ⟨ha.symm, y3⟩)
end SK
