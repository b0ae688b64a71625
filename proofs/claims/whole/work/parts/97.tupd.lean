/-! a terrace as it grows -/
def uHole (U : Ter) (v1 v2 v3 : Nat) : Ter := (tH U + 1, tG U, tS U, tN U, tco U, (fun h => if h = tH U then v1 else tfl U h), (fun h => if h = tH U then v2 else tct U h), (fun h => if h = tH U then v3 else tbu U h), (fun h => if h = tH U then 0 else tbe U h), tkd U, tgf U, twb U, tal U)
def uGuest (U : Ter) (k v : Nat) : Ter := (tH U, tG U + 1, tS U, tN U, tco U, tfl U, tct U, tbu U, tbe U, (fun w => if w = tG U then k else tkd U w), (fun w => if w = tG U then v else tgf U w), twb U, tal U)
def orB (f : Nat → Nat) (i j : Nat) : Nat → Nat := fun h => if h = j then f j ||| 2 ^ i else if h = i then f i ||| 2 ^ j else f h
def uWall (U : Ter) (i j : Nat) : Ter := (tH U, tG U, tS U, tN U, tco U, tfl U, tct U, tbu U, orB (tbe U) i j, tkd U, tgf U, twb U, tal U)
def uWar (U : Ter) (i j : Nat) : Ter := (tH U, tG U, tS U, tN U, tco U, tfl U, tct U, tbu U, tbe U, tkd U, tgf U, orB (twb U) i j, tal U)
def uCold (U : Ter) (N : Nat) (co : Nat → Nat) : Ter := (tH U, tG U, tS U, N, co, tfl U, tct U, tbu U, tbe U, tkd U, tgf U, twb U, tal U)
def uSack (U : Ter) (v : Nat) : Ter := (tH U, tG U, v, tN U, tco U, tfl U, tct U, tbu U, tbe U, tkd U, tgf U, twb U, tal U)
def uLaw (U : Ter) (al : Int32 → Int32 → Int32 → Int32 → Bool) : Ter := (tH U, tG U, tS U, tN U, tco U, tfl U, tct U, tbu U, tbe U, tkd U, tgf U, twb U, al)
def U0 : Ter := (0, 0, 5, 0, fun _ => 0, fun _ => 0, fun _ => 0, fun _ => 0, fun _ => 0, fun _ => 0, fun _ => 0, fun _ => 0, fun _ _ _ _ => false)
theorem orB_bit {f : Nat → Nat} {i j a b : Nat} (hij : i ≠ j) : (orB f i j a).testBit b = ((f a).testBit b || (decide (a = j ∧ b = i) || decide (a = i ∧ b = j))) := by
  unfold orB
  by_cases x : a = j
  · subst x
    rw [if_pos rfl, Nat.testBit_or, Nat.testBit_two_pow]
    by_cases y : i = b
    · subst y
      simp
    · have y' : ¬ b = i := fun e => y e.symm
      have x' : ¬ a = i := fun e => hij e.symm
      simp [y, y', x']
  · rw [if_neg x]
    by_cases w : a = i
    · subst w
      rw [if_pos rfl, Nat.testBit_or, Nat.testBit_two_pow]
      by_cases y : j = b
      · subst y
        simp
      · have y' : ¬ b = j := fun e => y e.symm
        simp [y, y', x]
    · rw [if_neg w]
      simp [x, w]
theorem orB_lt {f : Nat → Nat} {i j n h : Nat} (hi : i < n) (hj : j < n) (hf : f h < 2 ^ n) (hfi : f i < 2 ^ n) (hfj : f j < 2 ^ n) : orB f i j h < 2 ^ n := by
  have p : ∀ k, k < n → 2 ^ k < 2 ^ n := fun k hk => Nat.pow_lt_pow_right (by omega) hk
  unfold orB
  split
  · exact Nat.or_lt_two_pow hfj (p i hi)
  split
  · exact Nat.or_lt_two_pow hfi (p j hj)
  · exact hf
theorem orB_sym {f : Nat → Nat} {i j a b : Nat} (hij : i ≠ j) (h : (f a).testBit b = (f b).testBit a) : (orB f i j a).testBit b = (orB f i j b).testBit a := by
  rw [orB_bit hij, orB_bit hij, h]
  by_cases x1 : a = j <;> by_cases x2 : b = i <;> by_cases x3 : a = i <;> by_cases x4 : b = j <;> simp [x1, x2, x3, x4] <;> omega
theorem orB_self {f : Nat → Nat} {i j a : Nat} (hij : i ≠ j) (h : (f a).testBit a = false) : (orB f i j a).testBit a = false := by
  rw [orB_bit hij, h]
  have x : ¬ (a = j ∧ a = i) := fun e => hij (e.2.symm.trans e.1)
  have y : ¬ (a = i ∧ a = j) := fun e => hij (e.1.symm.trans e.2)
  simp [x, y]
theorem U0_WT : WT U0 := ⟨by decide, by decide, by decide, by decide, fun i hi => absurd hi (Nat.not_lt_zero _), fun i hi => absurd hi (Nat.not_lt_zero _), fun i hi => absurd hi (Nat.not_lt_zero _), fun f _ => (by decide : (0 : Nat) < 1024), fun a b _ _ => (Nat.zero_testBit b).trans (Nat.zero_testBit a).symm, fun a _ => Nat.zero_testBit a, fun a b ha _ => absurd ha (Nat.not_lt_zero _), fun a ha => absurd ha (Nat.not_lt_zero _)⟩
theorem uHole_WT {U : Ter} {v1 v2 v3 : Nat} (h : WT U) (h5 : tH U < 5) (h1 : v1 ≤ 9) (h2 : v2 ≤ 60) (h3 : v3 ≤ 9) : WT (uHole U v1 v2 v3) := by
  obtain ⟨a1, a2, a3, a4, a5, a6, a7, a8, a9, a10, a11, a12⟩ := h
  have hp : 2 ^ tH U < 2 ^ (tH U + 1) := Nat.pow_lt_pow_right (by omega) (by omega)
  refine ⟨h5, a2, a3, a4, a5, fun x hx => ?_, a7, a8, a9, a10, fun a b ha hb => ?_, fun a ha => ?_⟩
  · have hx : x < tH U + 1 := hx
    show (if x = tH U then v1 else tfl U x) ≤ 9 ∧ (if x = tH U then v2 else tct U x) ≤ 60 ∧ (if x = tH U then v3 else tbu U x) ≤ 9 ∧ (if x = tH U then 0 else tbe U x) < 2 ^ (tH U + 1)
    by_cases e : x = tH U
    · rw [if_pos e, if_pos e, if_pos e, if_pos e]
      exact ⟨h1, h2, h3, Nat.two_pow_pos _⟩
    · rw [if_neg e, if_neg e, if_neg e, if_neg e]
      obtain ⟨b1, b2, b3, b4⟩ := a6 x (by omega)
      exact ⟨b1, b2, b3, by omega⟩
  · have ha : a < tH U + 1 := ha
    have hb : b < tH U + 1 := hb
    show (if a = tH U then 0 else tbe U a).testBit b = (if b = tH U then 0 else tbe U b).testBit a
    by_cases e : a = tH U
    · by_cases e' : b = tH U
      · rw [if_pos e, if_pos e', Nat.zero_testBit, Nat.zero_testBit]
      · rw [if_pos e, if_neg e', Nat.zero_testBit, e]
        exact (Nat.testBit_lt_two_pow (a6 b (by omega)).2.2.2).symm
    · by_cases e' : b = tH U
      · rw [if_neg e, if_pos e', Nat.zero_testBit, e']
        exact Nat.testBit_lt_two_pow (a6 a (by omega)).2.2.2
      · rw [if_neg e, if_neg e']
        exact a11 a b (by omega) (by omega)
  · have ha : a < tH U + 1 := ha
    show (if a = tH U then 0 else tbe U a).testBit a = false
    by_cases e : a = tH U
    · rw [if_pos e]; exact Nat.zero_testBit _
    · rw [if_neg e]; exact a12 a (by omega)
theorem uGuest_WT {U : Ter} {k v : Nat} (h : WT U) (h5 : tG U < 5) (h1 : k ≤ 3) (h2 : v ≤ 9) : WT (uGuest U k v) := by
  obtain ⟨a1, a2, a3, a4, a5, a6, a7, a8, a9, a10, a11, a12⟩ := h
  refine ⟨a1, h5, a3, a4, a5, a6, fun w hw => ?_, a8, a9, a10, a11, a12⟩
  have hw : w < tG U + 1 := hw
  show (if w = tG U then k else tkd U w) ≤ 3 ∧ (if w = tG U then v else tgf U w) ≤ 9
  by_cases e : w = tG U
  · rw [if_pos e, if_pos e]; exact ⟨h1, h2⟩
  · rw [if_neg e, if_neg e]; exact a7 w (by omega)
theorem uWall_WT {U : Ter} {i j : Nat} (h : WT U) (hi : i < tH U) (hj : j < tH U) (hij : i ≠ j) : WT (uWall U i j) := by
  obtain ⟨a1, a2, a3, a4, a5, a6, a7, a8, a9, a10, a11, a12⟩ := h
  refine ⟨a1, a2, a3, a4, a5, fun x hx => ?_, a7, a8, a9, a10, fun a b ha hb => orB_sym hij (a11 a b ha hb), fun a ha => orB_self hij (a12 a ha)⟩
  have hx : x < tH U := hx
  obtain ⟨b1, b2, b3, b4⟩ := a6 x hx
  exact ⟨b1, b2, b3, orB_lt hi hj b4 (a6 i hi).2.2.2 (a6 j hj).2.2.2⟩
theorem uWar_WT {U : Ter} {i j : Nat} (h : WT U) (hi : i < 10) (hj : j < 10) (hij : i ≠ j) : WT (uWar U i j) := by
  obtain ⟨a1, a2, a3, a4, a5, a6, a7, a8, a9, a10, a11, a12⟩ := h
  exact ⟨a1, a2, a3, a4, a5, a6, a7, fun f hf => orB_lt (n := 10) hi hj (a8 f hf) (a8 i hi) (a8 j hj), fun a b ha hb => orB_sym hij (a9 a b ha hb), fun a ha => orB_self hij (a10 a ha), a11, a12⟩
theorem uCold_WT {U : Ter} {N : Nat} {co : Nat → Nat} (h : WT U) (hN : N ≤ 12) (hc : ∀ i, i < N → co i ≤ 3) : WT (uCold U N co) := by
  obtain ⟨a1, a2, a3, a4, a5, a6, a7, a8, a9, a10, a11, a12⟩ := h
  exact ⟨a1, a2, a3, hN, hc, a6, a7, a8, a9, a10, a11, a12⟩
theorem uSack_WT {U : Ter} {v : Nat} (h : WT U) (h1 : 1 ≤ v) (h2 : v ≤ 20) : WT (uSack U v) := by
  obtain ⟨a1, a2, a3, a4, a5, a6, a7, a8, a9, a10, a11, a12⟩ := h
  exact ⟨a1, a2, ⟨h1, h2⟩, a4, a5, a6, a7, a8, a9, a10, a11, a12⟩
theorem uLaw_WT {U : Ter} {al : Int32 → Int32 → Int32 → Int32 → Bool} (h : WT U) : WT (uLaw U al) := h
/-! how many sentences it has taken -/
def sumN (f : Nat → Nat) : Nat → Nat
  | 0 => 0
  | n + 1 => sumN f n + f n
theorem sumN_le {f g : Nat → Nat} : ∀ {n : Nat}, (∀ i, i < n → f i ≤ g i) → sumN f n ≤ sumN g n
  | 0, _ => Nat.le_refl _
  | n + 1, h => Nat.add_le_add (sumN_le (fun i hi => h i (by omega))) (h n (by omega))
theorem sumN_lt {f g : Nat → Nat} {k : Nat} : ∀ {n : Nat}, (∀ i, i < n → f i ≤ g i) → k < n → f k < g k → sumN f n < sumN g n
  | 0, _, hk, _ => absurd hk (Nat.not_lt_zero _)
  | n + 1, h, hk, hlt => by
    show sumN f n + f n < sumN g n + g n
    by_cases e : k = n
    · subst e
      have := sumN_le (f := f) (g := g) (n := k) (fun i hi => h i (by omega))
      omega
    · have := sumN_lt (f := f) (g := g) (k := k) (n := n) (fun i hi => h i (by omega)) (by omega) hlt
      have := h n (by omega)
      omega
theorem sumN_c {f : Nat → Nat} {c : Nat} : ∀ {n : Nat}, (∀ i, i < n → f i ≤ c) → sumN f n ≤ c * n
  | 0, _ => Nat.zero_le _
  | n + 1, h => by
    have := sumN_c (f := f) (c := c) (n := n) (fun i hi => h i (by omega))
    have := h n (by omega)
    show sumN f n + f n ≤ c * (n + 1)
    rw [Nat.mul_add]
    omega
def bits2 (f : Nat → Nat) (n : Nat) : Nat := sumN (fun i => sumN (fun j => b2 ((f i).testBit j)) n) n
theorem b2_le (b : Bool) : b2 b ≤ 1 := by cases b <;> decide
theorem b2_mono {a b : Bool} (h : a = true → b = true) : b2 a ≤ b2 b := by
  cases a with
  | true => rw [h rfl]; exact Nat.le_refl _
  | false => exact Nat.zero_le _
theorem bits2_le {f : Nat → Nat} {n : Nat} : bits2 f n ≤ n * n := by
  have h := sumN_c (f := fun i => sumN (fun j => b2 ((f i).testBit j)) n) (c := n) (n := n) (fun i _ => by
    have := sumN_c (f := fun j => b2 ((f i).testBit j)) (c := 1) (n := n) (fun j _ => b2_le _)
    omega)
  exact h
theorem bits2_orB {f : Nat → Nat} {i j n : Nat} (hi : i < n) (hj : j < n) (hij : i ≠ j) (h : (f i).testBit j = false) : bits2 f n < bits2 (orB f i j) n := by
  have mono : ∀ a b, b2 ((f a).testBit b) ≤ b2 ((orB f i j a).testBit b) := fun a b => b2_mono (fun e => by rw [orB_bit hij, e]; rfl)
  refine sumN_lt (k := i) (fun a _ => sumN_le (fun b _ => mono a b)) hi (sumN_lt (k := j) (fun b _ => mono i b) hj ?_)
  show b2 ((f i).testBit j) < b2 ((orB f i j i).testBit j)
  rw [orB_bit hij, h]
  simp [b2]
def pot (U : Ter) (isS tl : Bool) : Nat := tH U + tG U + b2 isS + b2 tl + b2 (decide (0 < tN U)) + bits2 (fun h => if h < tH U then tbe U h else 0) 5 + bits2 (twb U) 10
theorem pot_le {U : Ter} {isS tl : Bool} (h : WT U) : pot U isS tl ≤ 138 := by
  have := h.1; have := h.2.1; have := b2_le isS; have := b2_le tl; have := b2_le (decide (0 < tN U))
  have := @bits2_le (fun h => if h < tH U then tbe U h else 0) 5
  have := @bits2_le (twb U) 10
  unfold pot
  omega
theorem pot_hole {U : Ter} {isS tl : Bool} {v1 v2 v3 : Nat} : pot U isS tl < pot (uHole U v1 v2 v3) isS tl := by
  have : bits2 (fun h => if h < tH U then tbe U h else 0) 5 ≤ bits2 (fun h => if h < tH U + 1 then (if h = tH U then 0 else tbe U h) else 0) 5 := by
    refine sumN_le (fun a _ => sumN_le (fun b _ => b2_mono (fun e => ?_)))
    have e : (if a < tH U then tbe U a else 0).testBit b = true := e
    show (if a < tH U + 1 then (if a = tH U then 0 else tbe U a) else 0).testBit b = true
    by_cases x : a < tH U
    · rw [if_pos x] at e
      rw [if_pos (by omega), if_neg (by omega)]
      exact e
    · rw [if_neg x, Nat.zero_testBit] at e
      exact absurd e (by decide)
  show tH U + tG U + b2 isS + b2 tl + b2 (decide (0 < tN U)) + _ + _ < tH U + 1 + tG U + b2 isS + b2 tl + b2 (decide (0 < tN U)) + bits2 (fun h => if h < tH U + 1 then (if h = tH U then 0 else tbe U h) else 0) 5 + bits2 (twb U) 10
  omega
theorem pot_guest {U : Ter} {isS tl : Bool} {k v : Nat} : pot U isS tl < pot (uGuest U k v) isS tl := by
  show tH U + tG U + b2 isS + b2 tl + b2 (decide (0 < tN U)) + bits2 (fun h => if h < tH U then tbe U h else 0) 5 + bits2 (twb U) 10 < tH U + (tG U + 1) + b2 isS + b2 tl + b2 (decide (0 < tN U)) + bits2 (fun h => if h < tH U then tbe U h else 0) 5 + bits2 (twb U) 10
  omega
theorem pot_wall {U : Ter} {isS tl : Bool} {i j : Nat} (hH : tH U ≤ 5) (hi : i < tH U) (hj : j < tH U) (hij : i ≠ j) (h : (tbe U i).testBit j = false) : pot U isS tl < pot (uWall U i j) isS tl := by
  have hb := bits2_orB (f := fun h => if h < tH U then tbe U h else 0) (n := 5) (i := i) (j := j) (by omega) (by omega) hij (by show (if i < tH U then tbe U i else 0).testBit j = false; rw [if_pos hi]; exact h)
  have e : orB (fun h => if h < tH U then tbe U h else 0) i j = (fun h => if h < tH U then orB (tbe U) i j h else 0) := by
    funext h
    unfold orB
    dsimp only
    by_cases x : h < tH U
    · rw [if_pos hj, if_pos hi, if_pos x, if_pos x]
    · rw [if_neg (show ¬ h = j by omega), if_neg (show ¬ h = i by omega), if_neg x, if_neg x]
  rw [e] at hb
  show tH U + tG U + b2 isS + b2 tl + b2 (decide (0 < tN U)) + bits2 (fun h => if h < tH U then tbe U h else 0) 5 + bits2 (twb U) 10 < tH U + tG U + b2 isS + b2 tl + b2 (decide (0 < tN U)) + bits2 (fun h => if h < tH U then orB (tbe U) i j h else 0) 5 + bits2 (twb U) 10
  omega
theorem pot_war {U : Ter} {isS tl : Bool} {i j : Nat} (hi : i < 10) (hj : j < 10) (hij : i ≠ j) (h : (twb U i).testBit j = false) : pot U isS tl < pot (uWar U i j) isS tl := by
  have hb := bits2_orB (f := twb U) (n := 10) hi hj hij h
  show tH U + tG U + b2 isS + b2 tl + b2 (decide (0 < tN U)) + bits2 (fun h => if h < tH U then tbe U h else 0) 5 + bits2 (twb U) 10 < tH U + tG U + b2 isS + b2 tl + b2 (decide (0 < tN U)) + bits2 (fun h => if h < tH U then tbe U h else 0) 5 + bits2 (orB (twb U) i j) 10
  omega
theorem pot_cold {U : Ter} {isS tl : Bool} {N : Nat} {co : Nat → Nat} (h0 : tN U = 0) (hN : 1 ≤ N) : pot U isS tl < pot (uCold U N co) isS tl := by
  show tH U + tG U + b2 isS + b2 tl + b2 (decide (0 < tN U)) + bits2 (fun h => if h < tH U then tbe U h else 0) 5 + bits2 (twb U) 10 < tH U + tG U + b2 isS + b2 tl + b2 (decide (0 < N)) + bits2 (fun h => if h < tH U then tbe U h else 0) 5 + bits2 (twb U) 10
  rw [h0, decide_eq_true (show 0 < N by omega), decide_eq_false (by decide : ¬ 0 < 0)]
  simp [b2]
theorem pot_sack {U : Ter} {tl : Bool} {v : Nat} : pot U false tl < pot (uSack U v) true tl := by
  show tH U + tG U + b2 false + b2 tl + b2 (decide (0 < tN U)) + bits2 (fun h => if h < tH U then tbe U h else 0) 5 + bits2 (twb U) 10 < tH U + tG U + b2 true + b2 tl + b2 (decide (0 < tN U)) + bits2 (fun h => if h < tH U then tbe U h else 0) 5 + bits2 (twb U) 10
  simp [b2]
theorem pot_law {U : Ter} {isS : Bool} : pot U isS false < pot U isS true := by
  unfold pot
  simp [b2]
