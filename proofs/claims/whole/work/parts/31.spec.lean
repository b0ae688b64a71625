/-! a terrace and a state, as numbers -/
abbrev Ter : Type := Nat × Nat × Nat × Nat × (Nat → Nat) × (Nat → Nat) × (Nat → Nat) × (Nat → Nat) × (Nat → Nat) × (Nat → Nat) × (Nat → Nat) × (Nat → Nat) × (Int32 → Int32 → Int32 → Int32 → Bool)
def tH (T : Ter) : Nat := T.1
def tG (T : Ter) : Nat := T.2.1
def tS (T : Ter) : Nat := T.2.2.1
def tN (T : Ter) : Nat := T.2.2.2.1
def tco (T : Ter) : Nat → Nat := T.2.2.2.2.1
def tfl (T : Ter) : Nat → Nat := T.2.2.2.2.2.1
def tct (T : Ter) : Nat → Nat := T.2.2.2.2.2.2.1
def tbu (T : Ter) : Nat → Nat := T.2.2.2.2.2.2.2.1
def tbe (T : Ter) : Nat → Nat := T.2.2.2.2.2.2.2.2.1
def tkd (T : Ter) : Nat → Nat := T.2.2.2.2.2.2.2.2.2.1
def tgf (T : Ter) : Nat → Nat := T.2.2.2.2.2.2.2.2.2.2.1
def twb (T : Ter) : Nat → Nat := T.2.2.2.2.2.2.2.2.2.2.2.1
def tal (T : Ter) : Int32 → Int32 → Int32 → Int32 → Bool := T.2.2.2.2.2.2.2.2.2.2.2.2
def twr (T : Ter) (a b : Nat) : Bool := (twb T (tgf T a)).testBit (tgf T b)
abbrev Sta : Type := Nat × Nat × Int32 × (Nat → Nat) × (Nat → Nat)
def sD (S : Sta) : Nat := S.1
def sZ (S : Sta) : Nat := S.2.1
def sB (S : Sta) : Int32 := S.2.2.1
def sC (S : Sta) : Nat → Nat := S.2.2.2.1
def sA (S : Sta) : Nat → Nat := S.2.2.2.2
/-- a good terrace -/
def WT (T : Ter) : Prop := tH T ≤ 5 ∧ tG T ≤ 5 ∧ (1 ≤ tS T ∧ tS T ≤ 20) ∧ tN T ≤ 12 ∧ (∀ i, i < tN T → tco T i ≤ 3) ∧ (∀ h, h < tH T → tfl T h ≤ 9 ∧ tct T h ≤ 60 ∧ tbu T h ≤ 9 ∧ tbe T h < 2 ^ tH T) ∧ (∀ w, w < tG T → tkd T w ≤ 3 ∧ tgf T w ≤ 9) ∧ (∀ f, f < 10 → twb T f < 1024) ∧ (∀ a b, a < 10 → b < 10 → (twb T a).testBit b = (twb T b).testBit a) ∧ (∀ a, a < 10 → (twb T a).testBit a = false) ∧ (∀ a b, a < tH T → b < tH T → (tbe T a).testBit b = (tbe T b).testBit a) ∧ (∀ a, a < tH T → (tbe T a).testBit a = false)
/-- a good state: its day is at most N -/
def WS (T : Ter) (N : Nat) (S : Sta) : Prop := sD S ≤ N ∧ sZ S < 2 ^ tG T ∧ (∀ h, h < 5 → sC S h ≤ 99) ∧ (∀ h, tH T ≤ h → sC S h = 0) ∧ (∀ w, sA S w ≤ tH T) ∧ (∀ w, tG T ≤ w → sA S w = 0) ∧ (∀ w, (sZ S).testBit w = true → sA S w = 0 ∧ tkd T w = 1) ∧ (∀ w h, w < tG T → sA S w = h + 1 → tkd T w ≠ 3 → 0 < sC S h)
/-- the class's terrace (without names) -/
def LawC (len : Int32) (code : Nat → Int32) (al : Int32 → Int32 → Int32 → Int32 → Bool) : Prop := ∀ (wt : Int32) (st : Nat → Int32) (l i s d : Int32), ok (fX1_allows len code wt st l i s d) (fun r => r.1 = nI (b2 (al l i s d)))
def CT (T : Ter) (colds holes guests sack catB wanB len : Int32) (cold hf ct bu be kd gf fo code : Nat → Int32) : Prop := colds = nI (tN T) ∧ holes = nI (tH T) ∧ guests = nI (tG T) ∧ sack = nI (tS T) ∧ catB = nI (bs (fun w => tkd T w == 3) (tG T)) ∧ wanB = nI (bs (fun w => tkd T w == 1) (tG T)) ∧
  (∀ i, i < tN T → cold i = nI (tco T i)) ∧ (∀ h, h < tH T → hf h = nI (tfl T h)) ∧ (∀ h, h < tH T → ct h = nI (tct T h)) ∧ (∀ h, h < tH T → bu h = nI (tbu T h)) ∧ (∀ h, h < tH T → be h = nI (tbe T h)) ∧ (∀ w, w < tG T → kd w = nI (143 + tkd T w)) ∧ (∀ w, w < tG T → gf w = nI (tgf T w)) ∧ (∀ w, w < tG T → fo w = nI (bs (fun o => twr T w o) (tG T))) ∧ LawC len code (tal T)
def CS (T : Ter) (S : Sta) (seized date brought : Int32) (coal inside : Nat → Int32) : Prop := seized = nI (sZ S) ∧ date = nI (sD S) ∧ brought = sB S ∧ (∀ h, h < tH T → coal h = nI (sC S h)) ∧ Ins (sA S) (tG T) inside
/-- the reference's -/
def LawM (lf lt codes : Nat → Int32) (al : Int32 → Int32 → Int32 → Int32 → Bool) : Prop := (lt 0 = lf 0 ∧ ∀ l i s d : Int32, al l i s d = decide (i * 4 < l)) ∨ (lt 0 ≠ lf 0 ∧ ∀ (vo k1 k2 k3 k4 k5 k6 k7 k8 k9 : Nat → Int32), ok (fX9_worked lf lt codes vo k1 k2 k3 k4 k5 k6 k7 k8 k9 0) (fun r => (r.1 = 0) ↔ al (vo 1) (vo 2) (vo 3) (vo 4) = false))
def MT (T : Ter) (tr hf ct bu wl kd gf wr cd lf lt cds : Nat → Int32) : Prop := tr 0 = nI (tH T) ∧ tr 1 = nI (tG T) ∧ tr 2 = nI (tS T) ∧ tr 3 = nI (tN T) ∧
  (∀ i, i < tN T → cd i = nI (tco T i)) ∧ (∀ h, h < tH T → hf h = nI (tfl T h)) ∧ (∀ h, h < tH T → ct h = nI (tct T h)) ∧ (∀ h, h < tH T → bu h = nI (tbu T h)) ∧ (∀ h, h < tH T → wl h = nI (tbe T h)) ∧ (∀ w, w < tG T → kd w = nI (tkd T w)) ∧ (∀ w, w < tG T → gf w = nI (tgf T w)) ∧ (∀ f, f < 10 → wr f = nI (twb T f)) ∧ LawM lf lt cds (tal T)
def MS (S : Sta) (s : Nat → Int32) : Prop := s 0 = nI (sD S) ∧ s 1 = nI (sZ S) ∧ s 2 = sB S ∧ (∀ h, h < 5 → s (3 + h) = nI (sC S h)) ∧ (∀ w, w < 5 → s (8 + w) = nI (sA S w))
theorem MS_congr {S : Sta} {s s' : Nat → Int32} (h : MS S s) (e : ∀ j, j < 13 → s' j = s j) : MS S s' := ⟨by rw [e 0 (by decide)]; exact h.1, by rw [e 1 (by decide)]; exact h.2.1, by rw [e 2 (by decide)]; exact h.2.2.1, fun k hk => by rw [e _ (by omega)]; exact h.2.2.2.1 k hk, fun k hk => by rw [e _ (by omega)]; exact h.2.2.2.2 k hk⟩
theorem WS.z {T : Ter} {N : Nat} {S : Sta} (h : WS T N S) (hT : WT T) : sZ S < 32 := Nat.lt_of_lt_of_le h.2.1 (Nat.pow_le_pow_right (by decide) hT.2.1)
/-! what is asked of them -/
def oIn (T : Ter) (S : Sta) (h : Nat) : Nat := bs (fun w => sA S w == h + 1) (tG T)
def oOut (T : Ter) (S : Sta) : Nat := bs (fun w => sA S w == 0 && !(sZ S).testBit w) (tG T)
def oFoe (T : Ter) (w X : Nat) : Nat := bs (fun o => X.testBit o && twr T w o) (tG T)
/-- does the hole h take the guest w -/
def tk (T : Ter) (S : Sta) (h w : Nat) : Bool := tkd T w == 3 || (decide (0 < sC S h) && (decide (20 ≤ sC S h) || (oFoe T w (oIn T S h) == 0)) && (tkd T w == 2 || tal T (nI (sC S h)) (nI (pop (oIn T S h))) (nI (b2 (tfl T h == tgf T w))) (nI (sD S))))
theorem oIn_lt {T : Ter} {S : Sta} {h : Nat} (hT : WT T) : oIn T S h < 32 := bs_le hT.2.1
theorem oOut_lt {T : Ter} {S : Sta} (hT : WT T) : oOut T S < 32 := bs_le hT.2.1
theorem oFoe_lt {T : Ter} {w X : Nat} (hT : WT T) : oFoe T w X < 32 := bs_le hT.2.1
theorem pop_lt : ∀ n, n < 64 → pop n ≤ 6 := by decide +kernel
