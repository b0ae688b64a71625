/-! the class's cells and the reference's: one state told twice -/
def RlT (Z : Tap) (I A : MI) (B : MJ) (I9 A9 : MI) : Prop := WP Z ∧ TPR Z (I 1 6) (A 2) ∧ WdsR (B 3) ∧ TPR Z (I9 0 1) (A9 1)
def RlU (T : Ter) (I A : MI) (A9 : MI) : Prop := WT T ∧ CT T (I 112 4) (I 112 13) (I 112 14) (I 112 15) (I 112 16) (I 112 17) (I 124 4) (A 116) (A 117) (A 118) (A 119) (A 120) (A 121) (A 122) (A 123) (A 125) ∧ MT T (A9 2) (A9 5) (A9 6) (A9 7) (A9 8) (A9 9) (A9 10) (A9 11) (A9 12) (A9 13) (A9 14) (A9 15) ∧ LawR (A9 13) (A9 14) (A9 15) (tal T)
def RlN (T : Ter) (NH NG : Nms) (B B9 : MJ) : Prop := WN NH (tH T) ∧ CN_ NH (tH T) (B 113) ∧ MN_ NH (tH T) 0 (B9 3) ∧ WN NG (tG T) ∧ CN_ NG (tG T) (B 114) ∧ MN_ NG (tG T) 0 (B9 4)
def RlS (N : Nat) (T : Ter) (S : Sta) (I A : MI) (A9 : MI) : Prop := WS T N S ∧ CS T S (I 4 2) (I 4 3) (I 4 4) (A 5) (A 6) ∧ MS S (A9 35)
def RlX (X : Hrd) (I A : MI) (A9 : MI) : Prop := WH X ∧ CH X (I 10 2) (A 11) (A 12) ∧ MH X 0 (A9 32) (A9 33) (A9 34)
def RlL (T : Ter) (L : Pln) (I A : MI) (A9 : MI) : Prop := WL T L ∧ CL L (I 142 3) (A 143) (A 144) (A 145) ∧ ML L 0 (A9 28) (A9 29) (A9 30) (A9 31)
def RlY (N : Nat) (T : Ter) (Y : Pst) (I9 A9 : MI) : Prop := WPs T N Y ∧ MPs Y (I9 0 53) (A9 39)
def RlK0 (N : Nat) (T : Ter) (o0 : Mrk) (I A : MI) (A9 : MI) : Prop := WMk T N o0 ∧ CMk T o0 (I 19 3) (I 20 2) (I 20 3) (I 20 4) (I 23 3) (I 27 2) (A 21) (A 22) (A 24) (A 25) (A 26) (A 28) (A 29) ∧ MMk o0 0 (A9 38) (A9 40) (A9 28) (A9 29) (A9 30) (A9 31) (A9 32) (A9 33) (A9 34)
def RlK1 (N : Nat) (T : Ter) (o1 : Mrk) (I A : MI) (A9 : MI) : Prop := WMk T N o1 ∧ CMk T o1 (I 30 3) (I 31 2) (I 31 3) (I 31 4) (I 34 3) (I 38 2) (A 32) (A 33) (A 35) (A 36) (A 37) (A 39) (A 40) ∧ MMk o1 1 (A9 38) (A9 40) (A9 28) (A9 29) (A9 30) (A9 31) (A9 32) (A9 33) (A9 34)
def RlK2 (N : Nat) (T : Ter) (o2 : Mrk) (I A : MI) (A9 : MI) : Prop := WMk T N o2 ∧ CMk T o2 (I 41 3) (I 42 2) (I 42 3) (I 42 4) (I 45 3) (I 49 2) (A 43) (A 44) (A 46) (A 47) (A 48) (A 50) (A 51) ∧ MMk o2 2 (A9 38) (A9 40) (A9 28) (A9 29) (A9 30) (A9 31) (A9 32) (A9 33) (A9 34)
def RlK3 (N : Nat) (T : Ter) (o3 : Mrk) (I A : MI) (A9 : MI) : Prop := WMk T N o3 ∧ CMk T o3 (I 52 3) (I 53 2) (I 53 3) (I 53 4) (I 56 3) (I 60 2) (A 54) (A 55) (A 57) (A 58) (A 59) (A 61) (A 62) ∧ MMk o3 3 (A9 38) (A9 40) (A9 28) (A9 29) (A9 30) (A9 31) (A9 32) (A9 33) (A9 34)
def RelN (N : Nat) (Z : Tap) (T : Ter) (S : Sta) (X : Hrd) (Y : Pst) (L : Pln) (NH NG : Nms) (o0 o1 o2 o3 : Mrk) (I A : MI) (B : MJ) (I9 A9 : MI) (B9 : MJ) : Prop :=
  RlT Z I A B I9 A9 ∧ RlU T I A A9 ∧ RlN T NH NG B B9 ∧ RlS N T S I A A9 ∧ RlX X I A A9 ∧ RlL T L I A A9 ∧ RlY N T Y I9 A9 ∧ (RlK0 N T o0 I A A9 ∧ RlK1 N T o1 I A A9 ∧ RlK2 N T o2 I A A9 ∧ RlK3 N T o3 I A A9) ∧ I9 0 54 = nI 0
def Rel (N : Nat) (I A : MI) (B : MJ) (I9 A9 : MI) (B9 : MJ) : Prop := ∃ (Z : Tap) (T : Ter) (S : Sta) (X : Hrd) (Y : Pst) (L : Pln) (NH NG : Nms) (o0 o1 o2 o3 : Mrk), RelN N Z T S X Y L NH NG o0 o1 o2 o3 I A B I9 A9 B9 ∧ CP T Y I A (I 0 11) (I 0 12)
def cutI (I : MI) : MI := fun q k => bif Nat.blt q 64 || Nat.ble 112 q then I q k else 0
def cutA (A : MI) : MI := fun q => bif Nat.blt q 64 || Nat.ble 112 q then A q else fun _ => 0
theorem cutI_eq {I I' : MI} (h : ∀ q k, q < 64 ∨ 112 ≤ q → I' q k = I q k) : cutI I' = cutI I := by
  funext q k
  unfold cutI
  cases hb : Nat.blt q 64 || Nat.ble 112 q with
  | false => rfl
  | true =>
    refine h q k ?_
    rcases (Bool.or_eq_true _ _).mp hb with h1 | h1
    · left
      have : q + 1 ≤ 64 := by simpa [Nat.blt] using h1
      omega
    · right; exact Nat.le_of_ble_eq_true h1
theorem cutA_eq {A A' : MI} (h : ∀ q, q < 64 ∨ 112 ≤ q → A' q = A q) : cutA A' = cutA A := by
  funext q
  unfold cutA
  cases hb : Nat.blt q 64 || Nat.ble 112 q with
  | false => rfl
  | true =>
    refine h q ?_
    rcases (Bool.or_eq_true _ _).mp hb with h1 | h1
    · left
      have : q + 1 ≤ 64 := by simpa [Nat.blt] using h1
      omega
    · right; exact Nat.le_of_ble_eq_true h1
section RL
variable {N : Nat} {Z : Tap} {T : Ter} {S : Sta} {X : Hrd} {Y : Pst} {L : Pln} {NH NG : Nms} {o0 o1 o2 o3 : Mrk} {I A I' A' : MI} {B : MJ} {I9 A9 : MI} {B9 : MJ} {pn pk : Int32}
theorem RelN_cut (hI : ∀ q k, q < 64 ∨ 112 ≤ q → I' q k = I q k) (hA : ∀ q, q < 64 ∨ 112 ≤ q → A' q = A q) (h : RelN N Z T S X Y L NH NG o0 o1 o2 o3 I A B I9 A9 B9) : RelN N Z T S X Y L NH NG o0 o1 o2 o3 I' A' B I9 A9 B9 := by
  have h1 : RelN N Z T S X Y L NH NG o0 o1 o2 o3 (cutI I) (cutA A) B I9 A9 B9 := h
  rw [← cutI_eq hI, ← cutA_eq hA] at h1
  exact h1
theorem slotP_lt {p n j : Nat} : slotP p n j < 16 := Nat.mod_lt _ (by decide)
theorem CP_at (hI : ∀ q k, 64 ≤ q → q < 112 → I' q k = I q k) (hA : ∀ q, 64 ≤ q → q < 112 → A' q = A q) (h : CP T Y I A pn pk) : CP T Y I' A' pn pk := by
  obtain ⟨p, hp, h1, h2, h3⟩ := h
  refine ⟨p, hp, h1, h2, fun j hj => ?_⟩
  have hb := @slotP_lt p Y.1 j
  rw [hI _ 2 (by omega) (by omega), hI _ 3 (by omega) (by omega), hI _ 4 (by omega) (by omega), hA _ (by omega) (by omega), hA (66 + 3 * slotP p Y.1 j) (by omega) (by omega)]
  exact h3 j hj
theorem CP_keep {LI : List (Nat × Nat × Int32)} {LA : List (Nat × (Nat → Int32))} (h1 : farP 64 112 LI = true) (h2 : farM 64 112 LA = true) (h : CP T Y I A pn pk) : CP T Y (gp I LI) (gm A LA) pn pk :=
  CP_at (fun q k a b => gp_far h1 a b k) (fun q a b => gm_far h2 a b) h
theorem CP_num (h : CP T Y I A pn pk) : pk = nI Y.1 := by
  obtain ⟨p, hp, h1, h2, h3⟩ := h
  exact h2
theorem Rel_mono {M : Nat} (hm : N ≤ M) (h : Rel N I A B I9 A9 B9) : Rel M I A B I9 A9 B9 := by
  obtain ⟨Z, T, S, X, Y, L, NH, NG, o0, o1, o2, o3, ⟨a1, a2, a3, a4, a5, a6, a7, ⟨k0, k1, k2, k3⟩, a9⟩, hP⟩ := h
  exact ⟨Z, T, S, X, Y, L, NH, NG, o0, o1, o2, o3, ⟨a1, a2, a3, ⟨WS_mono a4.1 hm, a4.2⟩, a5, a6, ⟨⟨a7.1.1, fun j hj => WS_mono (a7.1.2 j hj) hm⟩, a7.2⟩, ⟨⟨fun x hx => ⟨WS_mono (k0.1 x hx).1 hm, (k0.1 x hx).2⟩, k0.2⟩, ⟨fun x hx => ⟨WS_mono (k1.1 x hx).1 hm, (k1.1 x hx).2⟩, k1.2⟩, ⟨fun x hx => ⟨WS_mono (k2.1 x hx).1 hm, (k2.1 x hx).2⟩, k2.2⟩, ⟨fun x hx => ⟨WS_mono (k3.1 x hx).1 hm, (k3.1 x hx).2⟩, k3.2⟩⟩, a9⟩, hP⟩
end RL
