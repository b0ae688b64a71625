/-! lodgings: what a leaf costs -/
def lastB (T : Ter) (S : Sta) (n h : Nat) : Bool := decide (tbu T h * csT T (sD S) n < sC S h)
/-- is the guest w, being at a, outside behind n days -/
def fOut (T : Ter) (S : Sta) (n w a : Nat) : Bool := a == 0 || (!(tkd T w == 3) && !lastB T S n (a - 1))
def fSz (T : Ter) (S : Sta) (n w a : Nat) : Bool := (sZ S).testBit w || (fOut T S n w a && tkd T w == 1)
def c1 (T : Ter) (S : Sta) (n w a : Nat) : Nat := 16 * b2 (fSz T S n w a) + b2 (fOut T S n w a)
def isO (S : Sta) (w : Nat) : Bool := sA S w == 0 && !(sZ S).testBit w
/-- states in the search: those of S, but for where the outsiders are -/
def Xof (T : Ter) (S X : Sta) : Prop := sD X = sD S ∧ sZ X = sZ S ∧ sC X = sC S ∧ sB X = sB S ∧ (∀ w, isO S w = false → sA X w = sA S w)
def kX (T : Ter) (S X : Sta) (n : Nat) : Nat := sm (fun w => c1 T S n w (sA X w)) (tG T)
theorem c1_le {T : Ter} {S : Sta} {n w a : Nat} : c1 T S n w a ≤ 17 := by
  unfold c1
  have h1 := b2_lt (fSz T S n w a)
  have h2 := b2_lt (fOut T S n w a)
  omega
theorem sm_c1 {T : Ter} {S X : Sta} {n : Nat} (m : Nat) : sm (fun w => c1 T S n w (sA X w)) m = 16 * cnt (fun w => fSz T S n w (sA X w)) m + cnt (fun w => fOut T S n w (sA X w)) m := by
  induction m with
  | zero => rfl
  | succ m ih => simp only [sm, cnt, ih]; unfold c1; omega
theorem x_nA {T : Ter} {S X : Sta} {n w : Nat} (hX : Xof T S X) : (nA_ T 0 X n w == 0) = fOut T S n w (sA X w) := by
  unfold nA_ fOut lastB
  rw [nC0, hX.1, hX.2.2.1]
  by_cases h0 : sA X w = 0
  · simp [h0]
  · have e0 : (sA X w == 0) = false := by simpa using h0
    rw [e0, Bool.false_or]
    by_cases h3 : tkd T w = 3
    · have e3 : (tkd T w == 3) = true := by simpa using h3
      rw [if_neg (fun z => z.1 h3), e3, e0]; rfl
    · have e3 : (tkd T w == 3) = false := by simpa using h3
      rw [e3]
      by_cases hl : tbu T (sA X w - 1) * csT T (sD S) n < sC S (sA X w - 1)
      · rw [decide_eq_true hl, if_neg (fun z => by have := z.2.2; omega), e0]; rfl
      · rw [decide_eq_false hl, if_pos ⟨h3, h0, by omega⟩]; rfl
theorem x_leaf {T : Ter} {S X : Sta} {N n : Nat} (hT : WT T) (hX : Xof T S X) (hW : WS T N X) (hn : 1 ≤ n) : pop (nZ_ T 0 X n) = cnt (fun w => fSz T S n w (sA X w)) (tG T) := by
  have e : nZ_ T 0 X n = bs (fun w => fSz T S n w (sA X w)) (tG T) := by
    unfold nZ_
    rw [if_neg (by omega)]
    apply Nat.eq_of_testBit_eq
    intro w
    rw [Nat.testBit_or, bs_bit, bs_bit, x_nA hX]
    unfold fSz
    rw [hX.2.1]
    by_cases hw : w < tG T
    · rw [decide_eq_true hw]; rfl
    · have : (sZ S).testBit w = false := by
        rw [← hX.2.1]
        exact Nat.testBit_lt_two_pow (Nat.lt_of_lt_of_le hW.2.1 (Nat.pow_le_pow_right (by decide) (by omega)))
      rw [decide_eq_false hw, this]; rfl
  rw [e, pop_bs (by have := hT.2.1; omega)]
/-- the best so far: its cost, its row -/
abbrev Acc : Type := Option (Nat × (Nat → Int32))
def updA (a : Acc) (c : Nat) (row : Nat → Int32) : Acc := match a with
  | none => some (c, row)
  | some (d, r) => if c < d then some (c, row) else some (d, r)
def lpH {α : Type} (f : Nat → α → α) : Nat → α → α
  | 0, a => a
  | n + 1, a => f n (lpH f n a)
def srch (T : Ter) (S : Sta) (n : Nat) : Nat → Nat → Sta → (Nat → Int32) → Acc → Acc
  | 0, _, X, row, a => updA a (kX T S X n) row
  | r + 1, w, X, row, a => if isO S w = true then srch T S n r (w + 1) X (upd row w (-1)) (lpH (fun h a => if tk T X h w = true then srch T S n r (w + 1) (mv X w (h + 1)) (upd row w (nI h)) a else a) (tH T) a) else srch T S n r (w + 1) X (upd row w (-1)) a
/-- rows alike below m -/
def AccR (m : Nat) (a b : Acc) : Prop := match a, b with
  | none, none => True
  | some x, some y => x.1 = y.1 ∧ ∀ j, j < m → x.2 j = y.2 j
  | _, _ => False
theorem Xof_mv {T : Ter} {S X : Sta} {w h : Nat} (hX : Xof T S X) (ho : isO S w = true) : Xof T S (mv X w h) := by
  refine ⟨hX.1, hX.2.1, hX.2.2.1, hX.2.2.2.1, fun u hu => ?_⟩
  show (if u = w then h else sA X u) = sA S u
  rw [if_neg (fun e => by rw [e, ho] at hu; cases hu)]
  exact hX.2.2.2.2 u hu
/-- a lower bound for all leaves below -/
theorem srch_lb {T : Ter} {S : Sta} {n N : Nat} {L : Nat → Nat} (hT : WT T) (hL0 : ∀ w, w < tG T → isO S w = false → L w = c1 T S n w (sA S w)) (hL1 : ∀ w X N, w < tG T → isO S w = true → Xof T S X → WS T N X → sA X w = 0 → (L w ≤ c1 T S n w 0 ∧ ∀ h, h < tH T → tk T X h w = true → L w ≤ c1 T S n w (h + 1))) :
    ∀ (r w : Nat), w + r = tG T → ∀ (X : Sta) (row : Nat → Int32) (c : Nat) (rw_ : Nat → Int32), Xof T S X → WS T N X → (∀ j, w ≤ j → isO S j = true → sA X j = 0) → c ≤ sm (fun j => c1 T S n j (sA X j)) w + (sm L (tG T) - sm L w) → srch T S n r w X row (some (c, rw_)) = some (c, rw_) := by
  intro r
  induction r with
  | zero =>
    intro w hw X row c rw_ hX hW ho hc
    have e : w = tG T := by omega
    subst e
    show updA (some (c, rw_)) (kX T S X n) row = _
    show (if kX T S X n < c then some (kX T S X n, row) else some (c, rw_)) = _
    unfold kX
    rw [if_neg (by omega)]
  | succ r ih =>
    intro w hw X row c rw_ hX hW ho hc
    have hwG : w < tG T := by omega
    have hmono := sm_le (f := L) (show w + 1 ≤ tG T by omega)
    have hstep : sm L (w + 1) = sm L w + L w := rfl
    have next : ∀ X', Xof T S X' → WS T N X' → (∀ j, j ≠ w → sA X' j = sA X j) → L w ≤ c1 T S n w (sA X' w) → ∀ row', srch T S n r (w + 1) X' row' (some (c, rw_)) = some (c, rw_) := by
      intro X' hX' hW' hsame hLw row'
      refine ih (w + 1) (by omega) X' row' c rw_ hX' hW' (fun j hj hjo => by rw [hsame j (by omega)]; exact ho j (by omega) hjo) ?_
      have e1 : ∀ m, m ≤ w → sm (fun j => c1 T S n j (sA X' j)) m = sm (fun j => c1 T S n j (sA X j)) m := by
        intro m
        induction m with
        | zero => intro _; rfl
        | succ m im => intro hm; show sm _ m + c1 T S n m (sA X' m) = sm _ m + c1 T S n m (sA X m); rw [im (by omega), hsame m (by omega)]
      show c ≤ sm (fun j => c1 T S n j (sA X' j)) w + c1 T S n w (sA X' w) + _
      rw [e1 w (Nat.le_refl _)]
      omega
    show (if isO S w = true then _ else _) = _
    by_cases q : isO S w = true
    · rw [if_pos q]
      have h0 := ho w (Nat.le_refl _) q
      have hl := hL1 w X N hwG q hX hW h0
      have hz : (sZ X).testBit w = false := by
        rw [hX.2.1]
        unfold isO at q
        rw [Bool.and_eq_true] at q
        simpa using q.2
      have lp : ∀ m, m ≤ tH T → lpH (fun h a => if tk T X h w = true then srch T S n r (w + 1) (mv X w (h + 1)) (upd row w (nI h)) a else a) m (some (c, rw_)) = some (c, rw_) := by
        intro m
        induction m with
        | zero => intro _; rfl
        | succ m im =>
          intro hm
          show (if tk T X m w = true then srch T S n r (w + 1) (mv X w (m + 1)) (upd row w (nI m)) (lpH _ m (some (c, rw_))) else lpH _ m (some (c, rw_))) = _
          rw [im (by omega)]
          by_cases z : tk T X m w = true
          · rw [if_pos z]
            refine next _ (Xof_mv hX q) (mv_WS hW hwG (by omega) (fun y => by rw [hz] at y; cases y) (fun k e hk => by
              have : k = m := by omega
              subst this; exact tk_pos z hk)) (fun j hj => if_neg hj) ?_ _
            show L w ≤ c1 T S n w (if w = w then m + 1 else sA X w)
            rw [if_pos rfl]
            exact hl.2 m (by omega) z
          · rw [if_neg z]
      rw [lp (tH T) (Nat.le_refl _)]
      refine next X hX hW (fun j _ => rfl) ?_ _
      rw [h0]; exact hl.1
    · have q : isO S w = false := by simpa using q
      rw [if_neg (by rw [q]; decide)]
      refine next X hX hW (fun j _ => rfl) ?_ _
      rw [hX.2.2.2.2 w q, hL0 w hwG q]
      exact Nat.le_refl _
