/-! the words that are kept, and tokens of both sides -/
def wls : List (List Nat) := [[104, 111, 108, 101], [102, 108, 97, 103], [99, 111, 97, 108], [98, 117, 114, 110, 115], [119, 97, 108, 108], [103, 117, 101, 115, 116], [119, 97, 114], [99, 111, 108, 100], [115, 97, 99, 107], [116, 97, 107, 101, 115], [100, 111, 119, 110], [117, 112], [116, 104, 114, 111, 117, 103, 104], [98, 114, 105, 110, 103], [100, 97, 121], [112, 108, 97, 105, 110], [119, 97, 110, 116, 101, 100], [101, 110, 118, 111, 121], [99, 97, 116], [110, 111, 116], [97, 110, 100], [111, 114], [108, 101, 102, 116], [105, 110, 115, 105, 100, 101], [115, 97, 109, 101], [100, 97, 116, 101]]
def wz (i j : Nat) : Nat := (wls.getD i []).getD j 0
def wk (i : Nat) : Nat := (wls.getD i []).length
def Vw (i : Nat) : Nat := nm (wz i) 0 (wk i)
def Ww (i : Nat) : Nat := wd_ (wz i) 0 (wk i)
theorem wk_le : ∀ i, i < 26 → 1 ≤ wk i ∧ wk i ≤ 8 := by decide +kernel
theorem wz_lt : ∀ i, i < 26 → ∀ j, j < 8 → (decide (j < wk i) && !(decide (97 ≤ wz i j ∧ wz i j ≤ 122))) = false := by decide +kernel
theorem Vw_inj : ∀ i, i < 26 → ∀ j, j < 26 → (Vw i == Vw j) = (i == j) := by decide +kernel
theorem Ww_vals : [Ww 0, Ww 1, Ww 2, Ww 3, Ww 4, Ww 5, Ww 6, Ww 7, Ww 8, Ww 9, Ww 10, Ww 11, Ww 12, Ww 13, Ww 14, Ww 15, Ww 16, Ww 17, Ww 18, Ww 19, Ww 20, Ww 21, Ww 22, Ww 23, Ww 24, Ww 25] = [168728, 126880, 70023, 1489744, 453774, 4137608, 16812, 70312, 374798, 10656676, 90302, 583, 7873077725, 1424122, 2968, 8740238, 330846583, 2949235, 2234, 10631, 1111, 423, 240023, 136960988, 375062, 80006] := by decide +kernel
theorem wz_isLt {i j : Nat} (hi : i < 26) (hj : j < wk i) : isLt (wz i j) := by
  have h1 := wz_lt i hi j (by have := (wk_le i hi).2; omega)
  rw [decide_eq_true hj, Bool.true_and] at h1
  exact Classical.byContradiction fun q => by
    have e : decide (97 ≤ wz i j ∧ wz i j ≤ 122) = false := decide_eq_false q
    rw [e] at h1
    exact absurd h1 (by decide)
theorem nm_inj {z1 z2 : Nat → Nat} {b1 b2 : Nat} : ∀ {k1 k2 : Nat}, k1 ≤ 8 → k2 ≤ 8 → (∀ j, j < k1 → isLt (z1 (b1 + j))) → (∀ j, j < k2 → isLt (z2 (b2 + j))) → nm z1 b1 k1 = nm z2 b2 k2 → k1 = k2 ∧ ∀ j, j < k1 → z1 (b1 + j) = z2 (b2 + j) := by
  intro k1
  induction k1 with
  | zero =>
    intro k2 _ h2 _ g2 e
    cases k2 with
    | zero => exact ⟨rfl, fun j hj => by omega⟩
    | succ k2 =>
      have := g2 k2 (by omega)
      unfold isLt at this
      simp only [nm] at e
      rw [if_pos (by omega)] at e
      omega
  | succ k1 ih =>
    intro k2 h1 h2 g1 g2 e
    have l1 := g1 k1 (by omega)
    unfold isLt at l1
    cases k2 with
    | zero =>
      simp only [nm] at e
      rw [if_pos (by omega)] at e
      omega
    | succ k2 =>
      have l2 := g2 k2 (by omega)
      unfold isLt at l2
      simp only [nm] at e
      rw [if_pos (by omega), if_pos (by omega)] at e
      obtain ⟨e1, e2⟩ := ih (k2 := k2) (by omega) (by omega) (fun j hj => g1 j (by omega)) (fun j hj => g2 j (by omega)) (by omega)
      subst e1
      refine ⟨rfl, fun j hj => ?_⟩
      rcases Nat.lt_succ_iff_lt_or_eq.mp hj with q | rfl
      · exact e2 j q
      · omega
theorem wd_inj {z1 z2 : Nat → Nat} {b1 b2 : Nat} : ∀ {k1 k2 : Nat}, k1 ≤ 8 → k2 ≤ 8 → (∀ j, j < k1 → isLt (z1 (b1 + j))) → (∀ j, j < k2 → isLt (z2 (b2 + j))) → wd_ z1 b1 k1 = wd_ z2 b2 k2 → k1 = k2 ∧ ∀ j, j < k1 → z1 (b1 + j) = z2 (b2 + j) := by
  intro k1
  induction k1 with
  | zero =>
    intro k2 _ h2 _ g2 e
    cases k2 with
    | zero => exact ⟨rfl, fun j hj => by omega⟩
    | succ k2 =>
      have := g2 k2 (by omega)
      unfold isLt at this
      simp only [wd_] at e
      rw [if_pos (by omega)] at e
      omega
  | succ k1 ih =>
    intro k2 h1 h2 g1 g2 e
    have l1 := g1 k1 (by omega)
    unfold isLt at l1
    cases k2 with
    | zero =>
      simp only [wd_] at e
      rw [if_pos (by omega)] at e
      omega
    | succ k2 =>
      have l2 := g2 k2 (by omega)
      unfold isLt at l2
      simp only [wd_] at e
      rw [if_pos (by omega), if_pos (by omega)] at e
      obtain ⟨e1, e2⟩ := ih (k2 := k2) (by omega) (by omega) (fun j hj => g1 j (by omega)) (fun j hj => g2 j (by omega)) (by omega)
      subst e1
      refine ⟨rfl, fun j hj => ?_⟩
      rcases Nat.lt_succ_iff_lt_or_eq.mp hj with q | rfl
      · exact e2 j q
      · omega
theorem nm_congr {z1 z2 : Nat → Nat} {b1 b2 : Nat} : ∀ {k : Nat}, (∀ j, j < k → z1 (b1 + j) = z2 (b2 + j)) → nm z1 b1 k = nm z2 b2 k ∧ wd_ z1 b1 k = wd_ z2 b2 k := by
  intro k
  induction k with
  | zero => intro _; exact ⟨rfl, rfl⟩
  | succ k ih =>
    intro h
    obtain ⟨i1, i2⟩ := ih (fun j hj => h j (by omega))
    simp only [nm, wd_, i1, i2, h k (by omega)]
    exact ⟨trivial, trivial⟩
/-- two words are the same in both readings -/
theorem nm_wd {z1 z2 : Nat → Nat} {b1 b2 k1 k2 : Nat} (h1 : k1 ≤ 8) (h2 : k2 ≤ 8) (g1 : ∀ j, j < k1 → isLt (z1 (b1 + j))) (g2 : ∀ j, j < k2 → isLt (z2 (b2 + j))) : nm z1 b1 k1 = nm z2 b2 k2 ↔ wd_ z1 b1 k1 = wd_ z2 b2 k2 := by
  constructor
  · intro e
    obtain ⟨rfl, e2⟩ := nm_inj h1 h2 g1 g2 e
    exact (nm_congr e2).2
  · intro e
    obtain ⟨rfl, e2⟩ := wd_inj h1 h2 g1 g2 e
    exact (nm_congr e2).1
theorem nm_Vw {z : Nat → Nat} {b k i : Nat} (hk : k ≤ 8) (hi : i < 26) (g : ∀ j, j < k → isLt (z (b + j))) : nm z b k = Vw i ↔ wd_ z b k = Ww i := nm_wd hk (wk_le i hi).2 g (fun j hj => by rw [Nat.zero_add]; exact wz_isLt hi hj)
theorem wd_lt {z : Nat → Nat} {b k : Nat} (h : ∀ j, j < k → isLt (z (b + j))) : wd_ z b k < 2 ^ 63 := by
  have h1 := wd_le h
  have h2 : 27 ^ (min k 8) ≤ 27 ^ 8 := Nat.pow_le_pow_right (by omega) (by omega)
  have h3 : (27 : Nat) ^ 8 = 282429536481 := by decide
  have h4 : (2 : Nat) ^ 63 = 9223372036854775808 := by decide
  omega
theorem Vw_lt : ∀ i, i < 26 → Vw i < 9223372036854775808 := by decide +kernel
theorem cmp0 (x y : Int64) : (lg_cmp x y = 0) ↔ x = y := by
  unfold lg_cmp
  by_cases h : x > y
  · rw [if_pos h]
    exact ⟨fun e => absurd e (by decide), fun e => by rw [e] at h; exact absurd h (Int64.lt_irrefl)⟩
  · rw [if_neg h]
    by_cases h2 : x = y
    · rw [if_pos h2]; exact ⟨fun _ => h2, fun _ => rfl⟩
    · rw [if_neg h2]; exact ⟨fun e => absurd e (by decide), fun e => absurd e h2⟩
def WdsR (words : Nat → Int64) : Prop := ∀ i, i < 26 → words i = lN (Vw i)
theorem c_wtok {v : Nat} {words : Nat → Int64} (hv : v < 2 ^ 63) (hw : WdsR words) : ∃ t, fX5_wordToken (lN v) words = some t ∧ ((∃ i, i < 26 ∧ v = Vw i ∧ t = nI (128 + i)) ∨ ((∀ i, i < 26 → v ≠ Vw i) ∧ t = nI 3)) := by
  have h : ok (fX5_wordToken (lN v) words) (fun t => (∃ i, i < 26 ∧ v = Vw i ∧ t = nI (128 + i)) ∨ ((∀ i, i < 26 → v ≠ Vw i) ∧ t = nI 3)) := by
    unfold fX5_wordToken
    refine ok_for0 26 (fun i => ∀ j, j < i → v ≠ Vw j) ?_ ?_ FU 0 (Nat.zero_le _) (fun j hj => by omega) (by unfold FU; omega)
    · rintro k i hi hm hk
      unfold fX5_wordToken_2
      rw [nC (by omega), hw i hi, nI_1, show (128 : Int32) = nI 128 from rfl, nI_add]
      refine ok_f (nI_ge (b := 26) hi (by omega)) (ok_g (nB (by omega) (by omega)) (ok_if (fun q => ok_some ?_) (fun q => ?_)))
      · have q := (pk_lEQ (Vw_lt i hi) hv).mp ((cmp0 _ _).mp q)
        exact Or.inl ⟨i, hi, q.symm, rfl⟩
      · refine hk (fun j hj => ?_)
        rcases Nat.lt_succ_iff_lt_or_eq.mp hj with y | rfl
        · exact hm j y
        · exact fun e => q ((cmp0 _ _).mpr (by rw [e]))
    · rintro k hm
      unfold fX5_wordToken_2
      exact ok_t (show (26 : Int32) ≤ nI 26 by decide) (ok_some (Or.inr ⟨hm, rfl⟩))
  obtain ⟨t, e, ht⟩ := h
  exact ⟨t, e, ht⟩
def isSg (s : Nat) : Bool := decide (40 ≤ s ∧ s ≤ 43) || s == 45 || decide (59 ≤ s ∧ s ≤ 61)
/-- the token that lies from q to r, as both sides have it -/
def TokR (z : Nat → Nat) (n q r : Nat) (ct cnu : Int32) (cnm : Int64) (mt mnu : Int32) (mwd : Int64) : Prop := q ≤ n ∧ r ≤ n ∧
  ((q = n ∧ r = n ∧ ct = nI 0 ∧ mt = nI 0) ∨
   (q < r ∧ r ≤ q + 8 ∧ (∀ j, j < r - q → isLt (z (q + j))) ∧ cnm = lN (nm z q (r - q)) ∧ mwd = lN (wd_ z q (r - q)) ∧ mt = nI 1 ∧ ((∃ i, i < 26 ∧ nm z q (r - q) = Vw i ∧ ct = nI (128 + i)) ∨ ((∀ i, i < 26 → nm z q (r - q) ≠ Vw i) ∧ ct = nI 3))) ∨
   (q < r ∧ ct = nI 2 ∧ mt = nI 2 ∧ ∃ v, v < 10000 ∧ cnu = nI v ∧ mnu = nI v) ∨
   (r = q + 1 ∧ 33 ≤ z q ∧ z q ≤ 126 ∧ ¬ isDg (z q) ∧ ¬ isLt (z q) ∧ ct = nI (z q) ∧ mt = nI (if isSg (z q) = true then 3 else 4)) ∨
   (q < r ∧ ct = nI 1 ∧ mt = nI 4))
