/-! tokens -/
theorem ok_fst2 {ρ A1 A2 : Type} {F : (Int32 → A1 → A2 → Option ρ) → (Int32 → A1 → A2 → Option ρ)} {z : Int32 → A1 → A2 → Option ρ} {Q : ρ → Prop} (n : Nat) (Inv : Nat → A1 → A2 → Prop) (hs : ∀ (k : Int32 → A1 → A2 → Option ρ) (a1 : A1) (a2 : A2) (i : Nat), i < n → Inv i a1 a2 → (∀ (b1 : A1) (b2 : A2), Inv (i + 1) b1 b2 → ok (k (nI (i + 1)) b1 b2) Q) → ok (F k (nI i) a1 a2) Q) (he : ∀ (k : Int32 → A1 → A2 → Option ρ) (a1 : A1) (a2 : A2), Inv n a1 a2 → ok (F k (nI n) a1 a2) Q) : ∀ (N i : Nat) (a1 : A1) (a2 : A2), i ≤ n → Inv i a1 a2 → n - i < N → ok (itr F z N (nI i) a1 a2) Q := by
  intro N
  induction N with
  | zero => intro i a1 a2 _ _ h; omega
  | succ N ih =>
    intro i a1 a2 hi hv hm
    rcases Nat.lt_or_ge i n with hlt | hge
    · exact hs _ a1 a2 i hlt hv (fun b1 b2 hv2 => ih (i + 1) b1 b2 (by omega) hv2 (by omega))
    · have e : i = n := by omega
      subst e
      exact he _ a1 a2 hv
theorem ok_fst4 {ρ A1 A2 A3 A4 : Type} {F : (Int32 → A1 → A2 → A3 → A4 → Option ρ) → (Int32 → A1 → A2 → A3 → A4 → Option ρ)} {z : Int32 → A1 → A2 → A3 → A4 → Option ρ} {Q : ρ → Prop} (n : Nat) (Inv : Nat → A1 → A2 → A3 → A4 → Prop) (hs : ∀ (k : Int32 → A1 → A2 → A3 → A4 → Option ρ) (a1 : A1) (a2 : A2) (a3 : A3) (a4 : A4) (i : Nat), i < n → Inv i a1 a2 a3 a4 → (∀ (b1 : A1) (b2 : A2) (b3 : A3) (b4 : A4), Inv (i + 1) b1 b2 b3 b4 → ok (k (nI (i + 1)) b1 b2 b3 b4) Q) → ok (F k (nI i) a1 a2 a3 a4) Q) (he : ∀ (k : Int32 → A1 → A2 → A3 → A4 → Option ρ) (a1 : A1) (a2 : A2) (a3 : A3) (a4 : A4), Inv n a1 a2 a3 a4 → ok (F k (nI n) a1 a2 a3 a4) Q) : ∀ (N i : Nat) (a1 : A1) (a2 : A2) (a3 : A3) (a4 : A4), i ≤ n → Inv i a1 a2 a3 a4 → n - i < N → ok (itr F z N (nI i) a1 a2 a3 a4) Q := by
  intro N
  induction N with
  | zero => intro i a1 a2 a3 a4 _ _ h; omega
  | succ N ih =>
    intro i a1 a2 a3 a4 hi hv hm
    rcases Nat.lt_or_ge i n with hlt | hge
    · exact hs _ a1 a2 a3 a4 i hlt hv (fun b1 b2 b3 b4 hv2 => ih (i + 1) b1 b2 b3 b4 (by omega) hv2 (by omega))
    · have e : i = n := by omega
      subst e
      exact he _ a1 a2 a3 a4 hv
def isDg (s : Nat) : Prop := 48 ≤ s ∧ s ≤ 57
def isLt (s : Nat) : Prop := 97 ≤ s ∧ s ≤ 122
def isBl (s : Nat) : Prop := s = 10 ∨ s = 32
/-- all from p to q are so, and no longer -/
def RunTo (P : Nat → Prop) (z : Nat → Nat) (n p q : Nat) : Prop := p ≤ q ∧ q ≤ n ∧ (∀ j, p ≤ j → j < q → P (z j)) ∧ (q < n → ¬ P (z q))
theorem run_ex (P : Nat → Prop) (z : Nat → Nat) {n p : Nat} (hp : p ≤ n) : ∃ q, RunTo P z n p q := by
  obtain ⟨q, ⟨h1, h2⟩, h3⟩ := pk_least (fun q => p ≤ q ∧ (q = n ∨ ¬ P (z q))) ⟨n, hp, Or.inl rfl⟩
  have hqn : q ≤ n := Nat.le_of_not_lt (fun y => h3 n y ⟨hp, Or.inl rfl⟩)
  refine ⟨q, h1, hqn, fun j j1 j2 => ?_, fun hq => ?_⟩
  · exact Classical.byContradiction fun y => h3 j j2 ⟨j1, Or.inr y⟩
  · rcases h2 with e | e
    · omega
    · exact e
/-- the number of the first k digits from b on (four at most) -/
def nv (z : Nat → Nat) (b : Nat) : Nat → Nat
  | 0 => 0
  | k + 1 => if k < 4 then nv z b k * 10 + z (b + k) - 48 else nv z b k
def nm (z : Nat → Nat) (b : Nat) : Nat → Nat
  | 0 => 0
  | k + 1 => if k < 8 then nm z b k * 256 + z (b + k) else nm z b k
def wd_ (z : Nat → Nat) (b : Nat) : Nat → Nat
  | 0 => 0
  | k + 1 => if k < 8 then wd_ z b k * 27 + z (b + k) - 96 else wd_ z b k
theorem nv_le {z : Nat → Nat} {b k : Nat} (h : ∀ j, j < k → isDg (z (b + j))) : nv z b k + 1 ≤ 10 ^ min k 4 := by
  induction k with
  | zero => exact Nat.le_refl _
  | succ k ih =>
    have h1 := ih (fun j hj => h j (by omega))
    have h2 := h k (by omega)
    unfold isDg at h2
    simp only [nv]
    split
    · rename_i q
      rw [show min (k + 1) 4 = k + 1 by omega, Nat.pow_succ]
      rw [show min k 4 = k by omega] at h1
      omega
    · rename_i q
      rw [show min (k + 1) 4 = min k 4 by omega]; exact h1
theorem nm_le {z : Nat → Nat} {b k : Nat} (h : ∀ j, j < k → isLt (z (b + j))) : nm z b k < 123 * 256 ^ (min k 8 - 1) := by
  induction k with
  | zero => show 0 < 123 * 256 ^ (min 0 8 - 1); decide
  | succ k ih =>
    have h1 := ih (fun j hj => h j (by omega))
    have h2 := h k (by omega)
    unfold isLt at h2
    simp only [nm]
    split
    · rename_i q
      rcases Nat.eq_zero_or_pos k with e | e
      · subst e
        show 0 * 256 + z (b + 0) < 123 * 256 ^ (min 1 8 - 1)
        have : 123 * 256 ^ (min 1 8 - 1) = 123 := by decide
        rw [this]; omega
      · rw [show min (k + 1) 8 - 1 = (min k 8 - 1) + 1 by omega, Nat.pow_succ]
        omega
    · rename_i q
      rw [show min (k + 1) 8 = min k 8 by omega]; exact h1
theorem nm_lt {z : Nat → Nat} {b k : Nat} (h : ∀ j, j < k → isLt (z (b + j))) : nm z b k < 2 ^ 63 := by
  have h1 := nm_le h
  have h2 : 256 ^ (min k 8 - 1) ≤ 256 ^ 7 := Nat.pow_le_pow_right (by omega) (by omega)
  have h3 : (256 : Nat) ^ 7 = 72057594037927936 := by decide
  have h4 : (2 : Nat) ^ 63 = 9223372036854775808 := by decide
  omega
theorem nm_lt7 {z : Nat → Nat} {b k : Nat} (hk : k < 8) (h : ∀ j, j < k → isLt (z (b + j))) : nm z b k < 2 ^ 55 := by
  have h1 := nm_le h
  have h2 : 256 ^ (min k 8 - 1) ≤ 256 ^ 6 := Nat.pow_le_pow_right (by omega) (by omega)
  have h3 : (256 : Nat) ^ 6 = 281474976710656 := by decide
  have h4 : (2 : Nat) ^ 55 = 36028797018963968 := by decide
  omega
theorem lsh8 {a s : Nat} (ha : a < 2 ^ 55) (hs : s < 256) : lsh (lN a) 8 ||| Int32.toInt64 (nI s) = lN (a * 256 + s) := by
  rw [nI_l (by omega)]
  unfold lsh lN
  apply Int64.toBitVec_inj.mp
  rw [Int64.toBitVec_or, Int64.toBitVec_shiftLeft]
  have e : ((Int32.toInt64 8 &&& 63).toBitVec.smod 64) = 8#64 := by decide +kernel
  rw [e]
  apply BitVec.eq_of_toNat_eq
  have h1 : (Int64.ofNat a).toBitVec.toNat = a := Nat.mod_eq_of_lt (by omega)
  have h2 : (Int64.ofNat s).toBitVec.toNat = s := Nat.mod_eq_of_lt (by omega)
  have h3 : (Int64.ofNat (a * 256 + s)).toBitVec.toNat = a * 256 + s := Nat.mod_eq_of_lt (by omega)
  rw [BitVec.toNat_or, h2, h3]
  have h4 : ((Int64.ofNat a).toBitVec <<< 8#64).toNat = a * 256 := by
    rw [BitVec.shiftLeft_eq', BitVec.toNat_shiftLeft, h1, show (8#64).toNat = 8 by decide, Nat.shiftLeft_eq]
    exact Nat.mod_eq_of_lt (by omega)
  rw [h4]
  have h5 := Nat.shiftLeft_add_eq_or_of_lt (show s < 2 ^ 8 by omega) a
  rw [Nat.shiftLeft_eq] at h5
  exact h5.symm
theorem wd8 {a s : Nat} (hs : 96 ≤ s) (hs2 : s < 256) : lN a * 27 + Int32.toInt64 (nI s) - 96 = lN (a * 27 + s - 96) := by
  rw [nI_l (by omega), show (27 : Int64) = lN 27 from rfl, show (96 : Int64) = lN 96 from rfl, lN_mul, lN_add, lN_sub (by omega)]
theorem wd_le {z : Nat → Nat} {b k : Nat} (h : ∀ j, j < k → isLt (z (b + j))) : wd_ z b k + 1 ≤ 27 ^ min k 8 := by
  induction k with
  | zero => exact Nat.le_refl _
  | succ k ih =>
    have h1 := ih (fun j hj => h j (by omega))
    have h2 := h k (by omega)
    unfold isLt at h2
    simp only [wd_]
    split
    · rename_i q
      rw [show min (k + 1) 8 = k + 1 by omega, Nat.pow_succ]
      rw [show min k 8 = k by omega] at h1
      omega
    · rename_i q
      rw [show min (k + 1) 8 = min k 8 by omega]; exact h1
section TP
variable {z : Nat → Nat} {n : Nat} {signs tape : Nat → Int32}
theorem c_digit {s : Nat} (hs : s < 1000) : fX5_isDigit (nI s) = some (nI (b2 (decide (48 ≤ s ∧ s ≤ 57)))) := by
  unfold fX5_isDigit
  by_cases h1 : s < 48
  · simp (disch := omega) only [nlit, nI_add, pk_mul, nC, nB, nT_le, nF_le, nT_lt, nF_lt, nF_eq, nT_eq, nM1_ne, nM1_lt, b2_0, b2_1, b2_nar, nar_0, nar_1, cond_true, if_true, if_false, ob_some]; rw [decide_eq_false (by omega)]; rfl
  · by_cases h2 : 57 < s
    · simp (disch := omega) only [nlit, nI_add, pk_mul, nC, nB, nT_le, nF_le, nT_lt, nF_lt, nF_eq, nT_eq, nM1_ne, nM1_lt, b2_0, b2_1, b2_nar, nar_0, nar_1, cond_true, if_true, if_false, ob_some]; rw [decide_eq_false (by omega)]; rfl
    · simp (disch := omega) only [nlit, nI_add, pk_mul, nC, nB, nT_le, nF_le, nT_lt, nF_lt, nF_eq, nT_eq, nM1_ne, nM1_lt, b2_0, b2_1, b2_nar, nar_0, nar_1, cond_true, if_true, if_false, ob_some]; rw [decide_eq_true (by omega)]; rfl
theorem c_letter {s : Nat} (hs : s < 1000) : fX5_isLetter (nI s) = some (nI (b2 (decide (97 ≤ s ∧ s ≤ 122)))) := by
  unfold fX5_isLetter
  by_cases h1 : s < 97
  · simp (disch := omega) only [nlit, nI_add, pk_mul, nC, nB, nT_le, nF_le, nT_lt, nF_lt, nF_eq, nT_eq, nM1_ne, nM1_lt, b2_0, b2_1, b2_nar, nar_0, nar_1, cond_true, if_true, if_false, ob_some]; rw [decide_eq_false (by omega)]; rfl
  · by_cases h2 : 122 < s
    · simp (disch := omega) only [nlit, nI_add, pk_mul, nC, nB, nT_le, nF_le, nT_lt, nF_lt, nF_eq, nT_eq, nM1_ne, nM1_lt, b2_0, b2_1, b2_nar, nar_0, nar_1, cond_true, if_true, if_false, ob_some]; rw [decide_eq_false (by omega)]; rfl
    · simp (disch := omega) only [nlit, nI_add, pk_mul, nC, nB, nT_le, nF_le, nT_lt, nF_lt, nF_eq, nT_eq, nM1_ne, nM1_lt, b2_0, b2_1, b2_nar, nar_0, nar_1, cond_true, if_true, if_false, ob_some]; rw [decide_eq_true (by omega)]; rfl
theorem c_number {b q : Nat} {tk0 nu0 : Int32} (hn : n ≤ 1000) (hz : ∀ i, i < n → z i < 127) (ha : ∀ i, i < n → signs i = nI (z i)) (hr : RunTo isDg z n b q) : fX5_takeNumber (nI b) (nI n) signs (nI b) tk0 nu0 = some (nI q, if q - b ≤ 4 then 2 else 1, nI (nv z b (q - b))) := by
  obtain ⟨r1, r2, r3, r4⟩ := hr
  have hv : ∀ k, k ≤ q - b → nv z b k < 10000 := fun k hk => by
    have h1 := nv_le (z := z) (b := b) (k := k) (fun j hj => r3 (b + j) (by omega) (by omega))
    have h2 : 10 ^ min k 4 ≤ 10 ^ 4 := Nat.pow_le_pow_right (by omega) (by omega)
    omega
  unfold fX5_takeNumber
  have fin : ok (fX5_takeNumber_81 (nI b) (nI n) signs (nI q) tk0 (nI (nv z b (q - b)))) (fun r => r = (nI q, if q - b ≤ 4 then 2 else 1, nI (nv z b (q - b)))) := by
    unfold fX5_takeNumber_81
    rw [nsub r1]
    refine ok_if (fun y => ok_some ?_) (fun y => ok_some ?_)
    · have y := (nI_leI (b := 4) (by omega) (by omega)).mp y
      rw [if_pos y]
    · rw [if_neg (fun x => y (nI_le (b := 4) x (by omega)))]
  refine ok_eq.mp (ok_fst2 q (fun i t v => b ≤ i ∧ t = tk0 ∧ v = nI (nv z b (i - b))) ?_ ?_ FU b tk0 0 r1 ⟨Nat.le_refl _, rfl, by rw [Nat.sub_self]; rfl⟩ (by unfold FU; omega))
  · rintro k t v i hi ⟨hb, rfl, rfl⟩ hk
    have hd := r3 i hb hi
    have hzi := hz i (by omega)
    unfold isDg at hd
    have hvi := hv (i - b) (by omega)
    unfold fX5_takeNumber_5 fX5_takeNumber_68
    rw [nC (by omega), ha i (by omega), c_digit (by omega), decide_eq_true hd, nsub hb, nI_1]
    refine ok_f (nI_ge (by omega) (by omega)) (ok_g (nB (by omega) (by omega)) (ok_bind (ok_some (ok_f (by decide) ?_))))
    have ev : nv z b (i + 1 - b) = if i - b < 4 then nv z b (i - b) * 10 + z i - 48 else nv z b (i - b) := by
      rw [show i + 1 - b = (i - b) + 1 by omega]
      show (if i - b < 4 then nv z b (i - b) * 10 + z (b + (i - b)) - 48 else nv z b (i - b)) = _
      rw [show b + (i - b) = i by omega]
    refine ok_if (fun y => ?_) (fun y => ?_)
    · have y := (nI_leI (a := 4) (by omega) (by omega)).mp y
      exact hk _ _ ⟨by omega, rfl, by rw [ev, if_neg (by omega)]⟩
    · have y : ¬ 4 ≤ i - b := fun x => y (nI_le (a := 4) x (by omega))
      refine ok_g (nB (by omega) (by omega)) (hk _ _ ⟨by omega, rfl, ?_⟩)
      rw [ev, if_pos (by omega), show (10 : Int32) = nI 10 from rfl, pk_mul, nI_add, show (48 : Int32) = nI 48 from rfl, nsub (by omega)]
  · rintro k t v ⟨hb, rfl, rfl⟩
    unfold fX5_takeNumber_5
    by_cases y : q < n
    · have hzi := hz q y
      have hnd : ¬ (48 ≤ z q ∧ z q ≤ 57) := r4 y
      rw [nC (by omega), ha q y, c_digit (by omega), decide_eq_false hnd]
      exact ok_f (nI_ge y (by omega)) (ok_g (nB (by omega) (by omega)) (ok_bind (ok_some (ok_t rfl fin))))
    · exact ok_t (nI_le (by omega) (by omega)) fin
theorem c_word {b q : Nat} {tk0 : Int32} {nm0 : Int64} {words : Nat → Int64} (hn : n ≤ 1000) (hz : ∀ i, i < n → z i < 127) (ha : ∀ i, i < n → signs i = nI (z i)) (hr : RunTo isLt z n b q) {t : Int32} (ht : fX5_wordToken (lN (nm z b (q - b))) words = some t) : fX5_takeWord (nI b) (nI n) signs words (nI b) tk0 nm0 = some (nI q, if q - b ≤ 8 then t else 1, lN (nm z b (q - b))) := by
  obtain ⟨r1, r2, r3, r4⟩ := hr
  unfold fX5_takeWord
  have fin : ok (fX5_takeWord_80 (nI b) (nI n) signs words (nI q) tk0 (lN (nm z b (q - b)))) (fun r => r = (nI q, if q - b ≤ 8 then t else 1, lN (nm z b (q - b)))) := by
    unfold fX5_takeWord_80
    rw [nsub r1, ht]
    refine ok_if (fun y => ok_bind (ok_some (ok_some ?_))) (fun y => ok_some ?_)
    · have y := (nI_leI (b := 8) (by omega) (by omega)).mp y
      rw [if_pos y]
    · rw [if_neg (fun x => y (nI_le (b := 8) x (by omega)))]
  refine ok_eq.mp (ok_fst2 q (fun i u v => b ≤ i ∧ u = tk0 ∧ v = lN (nm z b (i - b))) ?_ ?_ FU b tk0 0 r1 ⟨Nat.le_refl _, rfl, by rw [Nat.sub_self]; rfl⟩ (by unfold FU; omega))
  · rintro k u v i hi ⟨hb, rfl, rfl⟩ hk
    have hd := r3 i hb hi
    have hzi := hz i (by omega)
    have hd2 : 97 ≤ z i ∧ z i ≤ 122 := hd
    unfold fX5_takeWord_5 fX5_takeWord_67
    rw [nC (by omega), ha i (by omega), c_letter (by omega), decide_eq_true hd2, nsub hb, nI_1]
    refine ok_f (nI_ge (by omega) (by omega)) (ok_g (nB (by omega) (by omega)) (ok_bind (ok_some (ok_f (by decide) ?_))))
    have ev : nm z b (i + 1 - b) = if i - b < 8 then nm z b (i - b) * 256 + z i else nm z b (i - b) := by
      rw [show i + 1 - b = (i - b) + 1 by omega]
      show (if i - b < 8 then nm z b (i - b) * 256 + z (b + (i - b)) else nm z b (i - b)) = _
      rw [show b + (i - b) = i by omega]
    refine ok_if (fun y => ?_) (fun y => ?_)
    · have y := (nI_leI (a := 8) (by omega) (by omega)).mp y
      exact hk _ _ ⟨by omega, rfl, by rw [ev, if_neg (by omega)]⟩
    · have y : ¬ 8 ≤ i - b := fun x => y (nI_le (a := 8) x (by omega))
      refine ok_g (nB (by omega) (by omega)) (hk _ _ ⟨by omega, rfl, ?_⟩)
      rw [ev, if_pos (by omega)]
      exact lsh8 (nm_lt7 (by omega) (fun j hj => r3 (b + j) (by omega) (by omega))) (by omega)
  · rintro k u v ⟨hb, rfl, rfl⟩
    unfold fX5_takeWord_5
    by_cases y : q < n
    · have hzi := hz q y
      have hnd : ¬ (97 ≤ z q ∧ z q ≤ 122) := r4 y
      rw [nC (by omega), ha q y, c_letter (by omega), decide_eq_false hnd]
      exact ok_f (nI_ge y (by omega)) (ok_g (nB (by omega) (by omega)) (ok_bind (ok_some (ok_t rfl fin))))
    · exact ok_t (nI_le (by omega) (by omega)) fin
theorem m_signAt {i : Nat} (hn : n ≤ 1000) (ha : ∀ i, i < n → tape i = nI (z i)) (hi : i ≤ n) : fX9_signAt (nI n) tape (nI i) = some (nI (if i < n then z i else 0)) := by
  unfold fX9_signAt
  by_cases y : i < n
  · simp (disch := omega) only [nlit, nI_add, pk_mul, nC, nB, nT_le, nF_le, nT_lt, nF_lt, nF_eq, nT_eq, nM1_ne, nM1_lt, b2_0, b2_1, b2_nar, nar_0, nar_1, cond_true, if_true, if_false, ob_some, ha i y, y]
  · simp (disch := omega) only [nlit, nI_add, pk_mul, nC, nB, nT_le, nF_le, nT_lt, nF_lt, nF_eq, nT_eq, nM1_ne, nM1_lt, b2_0, b2_1, b2_nar, nar_0, nar_1, cond_true, if_true, if_false, ob_some, y]
theorem m_number {b q : Nat} {bg tk0 : Int32} {w0 : Int64} (hn : n ≤ 1000) (hz : ∀ i, i < n → z i < 127) (ha : ∀ i, i < n → tape i = nI (z i)) (hr : RunTo isDg z n b q) : itr (fun kk => fX9_nextToken_224 (nI n) tape kk) (fun _ _ _ _ _ => none) FU (nI b) (nI b) tk0 0 w0 = some (nI q, nI b, if q - b ≤ 4 then 2 else 4, nI (nv z b (q - b)), w0) := by
  obtain ⟨r1, r2, r3, r4⟩ := hr
  have hv : ∀ k, k ≤ q - b → nv z b k < 10000 := fun k hk => by
    have h1 := nv_le (z := z) (b := b) (k := k) (fun j hj => r3 (b + j) (by omega) (by omega))
    have h2 : 10 ^ min k 4 ≤ 10 ^ 4 := Nat.pow_le_pow_right (by omega) (by omega)
    omega
  have fin : ok (fX9_nextToken_299 (nI n) tape (nI q) (nI b) tk0 (nI (nv z b (q - b))) w0) (fun r => r = (nI q, nI b, if q - b ≤ 4 then 2 else 4, nI (nv z b (q - b)), w0)) := by
    unfold fX9_nextToken_299
    rw [nsub r1]
    refine ok_if (fun y => ok_some ?_) (fun y => ok_some ?_)
    · have y := (nI_leI (b := 4) (by omega) (by omega)).mp y
      rw [if_pos y]
    · rw [if_neg (fun x => y (nI_le (b := 4) x (by omega)))]
  refine ok_eq.mp (ok_fst4 q (fun i g t v w => b ≤ i ∧ g = nI b ∧ t = tk0 ∧ v = nI (nv z b (i - b)) ∧ w = w0) ?_ ?_ FU b (nI b) tk0 0 w0 r1 ⟨Nat.le_refl _, rfl, rfl, by rw [Nat.sub_self]; rfl, rfl⟩ (by unfold FU; omega))
  · rintro k g t v w i hi ⟨hb, rfl, rfl, rfl, rfl⟩ hk
    have hd : 48 ≤ z i ∧ z i ≤ 57 := r3 i hb hi
    have hzi := hz i (by omega)
    have hvi := hv (i - b) (by omega)
    unfold fX9_nextToken_224 fX9_nextToken_286
    rw [m_signAt hn ha (by omega), if_pos (show i < n by omega), nsub hb, nI_1]
    refine ok_bind (ok_some (ok_f (nI_nlt (b := 48) (by omega) (by omega)) (ok_bind (ok_some (ok_f (nI_nlt (a := 57) (by omega) (by omega)) ?_)))))
    have ev : nv z b (i + 1 - b) = if i - b < 4 then nv z b (i - b) * 10 + z i - 48 else nv z b (i - b) := by
      rw [show i + 1 - b = (i - b) + 1 by omega]
      show (if i - b < 4 then nv z b (i - b) * 10 + z (b + (i - b)) - 48 else nv z b (i - b)) = _
      rw [show b + (i - b) = i by omega]
    refine ok_if (fun y => ?_) (fun y => ok_bind (ok_some ?_))
    · have y := (nI_leI (a := 4) (by omega) (by omega)).mp y
      exact hk _ _ _ _ ⟨by omega, rfl, rfl, by rw [ev, if_neg (by omega)], rfl⟩
    · have y : ¬ 4 ≤ i - b := fun x => y (nI_le (a := 4) x (by omega))
      refine hk _ _ _ _ ⟨by omega, rfl, rfl, ?_, rfl⟩
      rw [ev, if_pos (by omega), show (10 : Int32) = nI 10 from rfl, pk_mul, nI_add, show (48 : Int32) = nI 48 from rfl, nsub (by omega)]
  · rintro k g t v w ⟨hb, rfl, rfl, rfl, rfl⟩
    unfold fX9_nextToken_224
    rw [m_signAt hn ha r2]
    by_cases y : q < n
    · have hzi := hz q y
      have hnd : ¬ (48 ≤ z q ∧ z q ≤ 57) := r4 y
      rw [if_pos y]
      by_cases y2 : z q < 48
      · exact ok_bind (ok_some (ok_t (nI_lt (b := 48) y2 (by omega)) fin))
      · exact ok_bind (ok_some (ok_f (nI_nlt (b := 48) (by omega) (by omega)) (ok_bind (ok_some (ok_t (nI_lt (a := 57) (by omega) (by omega)) fin)))))
    · rw [if_neg y]
      exact ok_bind (ok_some (ok_t (by decide) fin))
theorem m_word {b q : Nat} {tk0 t0 : Int32} (hn : n ≤ 1000) (hz : ∀ i, i < n → z i < 127) (ha : ∀ i, i < n → tape i = nI (z i)) (hr : RunTo isLt z n b q) : itr (fun kk => fX9_nextToken_109 (nI n) tape kk) (fun _ _ _ _ _ => none) FU (nI b) (nI b) tk0 t0 0 = some (nI q, nI b, if q - b ≤ 8 then 1 else 4, t0, lN (wd_ z b (q - b))) := by
  obtain ⟨r1, r2, r3, r4⟩ := hr
  have fin : ok (fX9_nextToken_188 (nI n) tape (nI q) (nI b) tk0 t0 (lN (wd_ z b (q - b)))) (fun r => r = (nI q, nI b, if q - b ≤ 8 then 1 else 4, t0, lN (wd_ z b (q - b)))) := by
    unfold fX9_nextToken_188
    rw [nsub r1]
    refine ok_if (fun y => ok_some ?_) (fun y => ok_some ?_)
    · have y := (nI_leI (b := 8) (by omega) (by omega)).mp y
      rw [if_pos y]
    · rw [if_neg (fun x => y (nI_le (b := 8) x (by omega)))]
  refine ok_eq.mp (ok_fst4 q (fun i g t v w => b ≤ i ∧ g = nI b ∧ t = tk0 ∧ v = t0 ∧ w = lN (wd_ z b (i - b))) ?_ ?_ FU b (nI b) tk0 t0 0 r1 ⟨Nat.le_refl _, rfl, rfl, rfl, by rw [Nat.sub_self]; rfl⟩ (by unfold FU; omega))
  · rintro k g t v w i hi ⟨hb, rfl, rfl, rfl, rfl⟩ hk
    have hd : 97 ≤ z i ∧ z i ≤ 122 := r3 i hb hi
    have hzi := hz i (by omega)
    unfold fX9_nextToken_109 fX9_nextToken_175
    rw [m_signAt hn ha (by omega), if_pos (show i < n by omega), nsub hb, nI_1]
    refine ok_bind (ok_some (ok_f (nI_nlt (b := 97) (by omega) (by omega)) (ok_bind (ok_some (ok_f (nI_nlt (a := 122) (by omega) (by omega)) ?_)))))
    have ev : wd_ z b (i + 1 - b) = if i - b < 8 then wd_ z b (i - b) * 27 + z i - 96 else wd_ z b (i - b) := by
      rw [show i + 1 - b = (i - b) + 1 by omega]
      show (if i - b < 8 then wd_ z b (i - b) * 27 + z (b + (i - b)) - 96 else wd_ z b (i - b)) = _
      rw [show b + (i - b) = i by omega]
    refine ok_if (fun y => ?_) (fun y => ok_bind (ok_some ?_))
    · have y := (nI_leI (a := 8) (by omega) (by omega)).mp y
      exact hk _ _ _ _ ⟨by omega, rfl, rfl, rfl, by rw [ev, if_neg (by omega)]⟩
    · have y : ¬ 8 ≤ i - b := fun x => y (nI_le (a := 8) x (by omega))
      refine hk _ _ _ _ ⟨by omega, rfl, rfl, rfl, ?_⟩
      rw [ev, if_pos (by omega), wd8 (by omega) (by omega)]
  · rintro k g t v w ⟨hb, rfl, rfl, rfl, rfl⟩
    unfold fX9_nextToken_109
    rw [m_signAt hn ha r2]
    by_cases y : q < n
    · have hzi := hz q y
      have hnd : ¬ (97 ≤ z q ∧ z q ≤ 122) := r4 y
      rw [if_pos y]
      by_cases y2 : z q < 97
      · exact ok_bind (ok_some (ok_t (nI_lt (b := 97) y2 (by omega)) fin))
      · exact ok_bind (ok_some (ok_f (nI_nlt (b := 97) (by omega) (by omega)) (ok_bind (ok_some (ok_t (nI_lt (a := 122) (by omega) (by omega)) fin)))))
    · rw [if_neg y]
      exact ok_bind (ok_some (ok_t (by decide) fin))
end TP
