/-! what a decompiled text gives -/
def ok {α : Type} (o : Option α) (Q : α → Prop) : Prop := ∃ r, o = some r ∧ Q r
theorem ok_some {α : Type} {Q : α → Prop} {a : α} (h : Q a) : ok (some a) Q := ⟨a, rfl, h⟩
theorem ok_bind {α β : Type} {o : Option α} {k : α → Option β} {Q : β → Prop} (h : ok o (fun y => ok (k y) Q)) : ok (Option.bind o k) Q := by
  obtain ⟨y, rfl, r, h1, h2⟩ := h
  exact ⟨r, h1, h2⟩
theorem ok_g {α : Type} {c : Bool} {a : Option α} {Q : α → Prop} (hc : c = true) (h : ok a Q) : ok (bif c then a else none) Q := by subst hc; exact h
theorem ok_z {α : Type} {c : Prop} [Decidable c] {a : Option α} {Q : α → Prop} (hc : ¬ c) (h : ok a Q) : ok (if c then none else a) Q := by rw [if_neg hc]; exact h
theorem ok_if {α : Type} {c : Prop} [Decidable c] {a b : Option α} {Q : α → Prop} (h1 : c → ok a Q) (h2 : ¬ c → ok b Q) : ok (if c then a else b) Q := by
  by_cases hc : c
  · rw [if_pos hc]; exact h1 hc
  · rw [if_neg hc]; exact h2 hc
theorem ok_t {α : Type} {c : Prop} [Decidable c] {a b : Option α} {Q : α → Prop} (hc : c) (h : ok a Q) : ok (if c then a else b) Q := by rw [if_pos hc]; exact h
theorem ok_f {α : Type} {c : Prop} [Decidable c] {a b : Option α} {Q : α → Prop} (hc : ¬ c) (h : ok b Q) : ok (if c then a else b) Q := by rw [if_neg hc]; exact h
theorem ok_mono {α : Type} {o : Option α} {Q R : α → Prop} (h : ok o Q) (hi : ∀ r, Q r → R r) : ok o R := by
  obtain ⟨r, h1, h2⟩ := h
  exact ⟨r, h1, hi r h2⟩
theorem ok_eq {α : Type} {o : Option α} {v : α} : ok o (fun r => r = v) ↔ o = some v := ⟨fun ⟨r, h1, h2⟩ => by rw [h1, h2], fun h => ⟨v, h, rfl⟩⟩
theorem ok_of {α : Type} {o : Option α} {v : α} {Q : α → Prop} (h : o = some v) (hq : Q v) : ok o Q := ⟨v, h, hq⟩
theorem inb_nI {k n : Nat} (h : k < n) (hn : n < 2 ^ 31) : inb (nI k) n = true := by
  unfold inb
  rw [nI_clamp (by omega)]
  simp only [Bool.and_eq_true, Bool.not_eq_true', decide_eq_false_iff_not]
  exact ⟨nI_pos (by omega), by simp [Nat.blt]; omega⟩
theorem ok_itr1 {ρ A1 : Type} {F : (A1 → Option ρ) → (A1 → Option ρ)} {z : A1 → Option ρ} (Inv : A1 → Prop) (μ : A1 → Nat) {Q : ρ → Prop} (h : ∀ (k : A1 → Option ρ) (a1 : A1), Inv a1 → (∀ (b1 : A1), Inv b1 → μ b1 < μ a1 → ok (k b1) Q) → ok (F k a1) Q) : ∀ (n : Nat) (a1 : A1), Inv a1 → μ a1 < n → ok (itr F z n a1) Q := by
  intro n
  induction n with
  | zero => intro a1 _ h; omega
  | succ n ih => intro a1 hi hm; exact h _ a1 hi (fun b1 hi' hm' => ih b1 hi' (by omega))
theorem ok_itr2 {ρ A1 A2 : Type} {F : (A1 → A2 → Option ρ) → (A1 → A2 → Option ρ)} {z : A1 → A2 → Option ρ} (Inv : A1 → A2 → Prop) (μ : A1 → A2 → Nat) {Q : ρ → Prop} (h : ∀ (k : A1 → A2 → Option ρ) (a1 : A1) (a2 : A2), Inv a1 a2 → (∀ (b1 : A1) (b2 : A2), Inv b1 b2 → μ b1 b2 < μ a1 a2 → ok (k b1 b2) Q) → ok (F k a1 a2) Q) : ∀ (n : Nat) (a1 : A1) (a2 : A2), Inv a1 a2 → μ a1 a2 < n → ok (itr F z n a1 a2) Q := by
  intro n
  induction n with
  | zero => intro a1 a2 _ h; omega
  | succ n ih => intro a1 a2 hi hm; exact h _ a1 a2 hi (fun b1 b2 hi' hm' => ih b1 b2 hi' (by omega))
theorem ok_itr3 {ρ A1 A2 A3 : Type} {F : (A1 → A2 → A3 → Option ρ) → (A1 → A2 → A3 → Option ρ)} {z : A1 → A2 → A3 → Option ρ} (Inv : A1 → A2 → A3 → Prop) (μ : A1 → A2 → A3 → Nat) {Q : ρ → Prop} (h : ∀ (k : A1 → A2 → A3 → Option ρ) (a1 : A1) (a2 : A2) (a3 : A3), Inv a1 a2 a3 → (∀ (b1 : A1) (b2 : A2) (b3 : A3), Inv b1 b2 b3 → μ b1 b2 b3 < μ a1 a2 a3 → ok (k b1 b2 b3) Q) → ok (F k a1 a2 a3) Q) : ∀ (n : Nat) (a1 : A1) (a2 : A2) (a3 : A3), Inv a1 a2 a3 → μ a1 a2 a3 < n → ok (itr F z n a1 a2 a3) Q := by
  intro n
  induction n with
  | zero => intro a1 a2 a3 _ h; omega
  | succ n ih => intro a1 a2 a3 hi hm; exact h _ a1 a2 a3 hi (fun b1 b2 b3 hi' hm' => ih b1 b2 b3 hi' (by omega))
theorem ok_itr4 {ρ A1 A2 A3 A4 : Type} {F : (A1 → A2 → A3 → A4 → Option ρ) → (A1 → A2 → A3 → A4 → Option ρ)} {z : A1 → A2 → A3 → A4 → Option ρ} (Inv : A1 → A2 → A3 → A4 → Prop) (μ : A1 → A2 → A3 → A4 → Nat) {Q : ρ → Prop} (h : ∀ (k : A1 → A2 → A3 → A4 → Option ρ) (a1 : A1) (a2 : A2) (a3 : A3) (a4 : A4), Inv a1 a2 a3 a4 → (∀ (b1 : A1) (b2 : A2) (b3 : A3) (b4 : A4), Inv b1 b2 b3 b4 → μ b1 b2 b3 b4 < μ a1 a2 a3 a4 → ok (k b1 b2 b3 b4) Q) → ok (F k a1 a2 a3 a4) Q) : ∀ (n : Nat) (a1 : A1) (a2 : A2) (a3 : A3) (a4 : A4), Inv a1 a2 a3 a4 → μ a1 a2 a3 a4 < n → ok (itr F z n a1 a2 a3 a4) Q := by
  intro n
  induction n with
  | zero => intro a1 a2 a3 a4 _ h; omega
  | succ n ih => intro a1 a2 a3 a4 hi hm; exact h _ a1 a2 a3 a4 hi (fun b1 b2 b3 b4 hi' hm' => ih b1 b2 b3 b4 hi' (by omega))
theorem ok_itr5 {ρ A1 A2 A3 A4 A5 : Type} {F : (A1 → A2 → A3 → A4 → A5 → Option ρ) → (A1 → A2 → A3 → A4 → A5 → Option ρ)} {z : A1 → A2 → A3 → A4 → A5 → Option ρ} (Inv : A1 → A2 → A3 → A4 → A5 → Prop) (μ : A1 → A2 → A3 → A4 → A5 → Nat) {Q : ρ → Prop} (h : ∀ (k : A1 → A2 → A3 → A4 → A5 → Option ρ) (a1 : A1) (a2 : A2) (a3 : A3) (a4 : A4) (a5 : A5), Inv a1 a2 a3 a4 a5 → (∀ (b1 : A1) (b2 : A2) (b3 : A3) (b4 : A4) (b5 : A5), Inv b1 b2 b3 b4 b5 → μ b1 b2 b3 b4 b5 < μ a1 a2 a3 a4 a5 → ok (k b1 b2 b3 b4 b5) Q) → ok (F k a1 a2 a3 a4 a5) Q) : ∀ (n : Nat) (a1 : A1) (a2 : A2) (a3 : A3) (a4 : A4) (a5 : A5), Inv a1 a2 a3 a4 a5 → μ a1 a2 a3 a4 a5 < n → ok (itr F z n a1 a2 a3 a4 a5) Q := by
  intro n
  induction n with
  | zero => intro a1 a2 a3 a4 a5 _ h; omega
  | succ n ih => intro a1 a2 a3 a4 a5 hi hm; exact h _ a1 a2 a3 a4 a5 hi (fun b1 b2 b3 b4 b5 hi' hm' => ih b1 b2 b3 b4 b5 hi' (by omega))
theorem ok_itr6 {ρ A1 A2 A3 A4 A5 A6 : Type} {F : (A1 → A2 → A3 → A4 → A5 → A6 → Option ρ) → (A1 → A2 → A3 → A4 → A5 → A6 → Option ρ)} {z : A1 → A2 → A3 → A4 → A5 → A6 → Option ρ} (Inv : A1 → A2 → A3 → A4 → A5 → A6 → Prop) (μ : A1 → A2 → A3 → A4 → A5 → A6 → Nat) {Q : ρ → Prop} (h : ∀ (k : A1 → A2 → A3 → A4 → A5 → A6 → Option ρ) (a1 : A1) (a2 : A2) (a3 : A3) (a4 : A4) (a5 : A5) (a6 : A6), Inv a1 a2 a3 a4 a5 a6 → (∀ (b1 : A1) (b2 : A2) (b3 : A3) (b4 : A4) (b5 : A5) (b6 : A6), Inv b1 b2 b3 b4 b5 b6 → μ b1 b2 b3 b4 b5 b6 < μ a1 a2 a3 a4 a5 a6 → ok (k b1 b2 b3 b4 b5 b6) Q) → ok (F k a1 a2 a3 a4 a5 a6) Q) : ∀ (n : Nat) (a1 : A1) (a2 : A2) (a3 : A3) (a4 : A4) (a5 : A5) (a6 : A6), Inv a1 a2 a3 a4 a5 a6 → μ a1 a2 a3 a4 a5 a6 < n → ok (itr F z n a1 a2 a3 a4 a5 a6) Q := by
  intro n
  induction n with
  | zero => intro a1 a2 a3 a4 a5 a6 _ h; omega
  | succ n ih => intro a1 a2 a3 a4 a5 a6 hi hm; exact h _ a1 a2 a3 a4 a5 a6 hi (fun b1 b2 b3 b4 b5 b6 hi' hm' => ih b1 b2 b3 b4 b5 b6 hi' (by omega))
theorem ok_itr7 {ρ A1 A2 A3 A4 A5 A6 A7 : Type} {F : (A1 → A2 → A3 → A4 → A5 → A6 → A7 → Option ρ) → (A1 → A2 → A3 → A4 → A5 → A6 → A7 → Option ρ)} {z : A1 → A2 → A3 → A4 → A5 → A6 → A7 → Option ρ} (Inv : A1 → A2 → A3 → A4 → A5 → A6 → A7 → Prop) (μ : A1 → A2 → A3 → A4 → A5 → A6 → A7 → Nat) {Q : ρ → Prop} (h : ∀ (k : A1 → A2 → A3 → A4 → A5 → A6 → A7 → Option ρ) (a1 : A1) (a2 : A2) (a3 : A3) (a4 : A4) (a5 : A5) (a6 : A6) (a7 : A7), Inv a1 a2 a3 a4 a5 a6 a7 → (∀ (b1 : A1) (b2 : A2) (b3 : A3) (b4 : A4) (b5 : A5) (b6 : A6) (b7 : A7), Inv b1 b2 b3 b4 b5 b6 b7 → μ b1 b2 b3 b4 b5 b6 b7 < μ a1 a2 a3 a4 a5 a6 a7 → ok (k b1 b2 b3 b4 b5 b6 b7) Q) → ok (F k a1 a2 a3 a4 a5 a6 a7) Q) : ∀ (n : Nat) (a1 : A1) (a2 : A2) (a3 : A3) (a4 : A4) (a5 : A5) (a6 : A6) (a7 : A7), Inv a1 a2 a3 a4 a5 a6 a7 → μ a1 a2 a3 a4 a5 a6 a7 < n → ok (itr F z n a1 a2 a3 a4 a5 a6 a7) Q := by
  intro n
  induction n with
  | zero => intro a1 a2 a3 a4 a5 a6 a7 _ h; omega
  | succ n ih => intro a1 a2 a3 a4 a5 a6 a7 hi hm; exact h _ a1 a2 a3 a4 a5 a6 a7 hi (fun b1 b2 b3 b4 b5 b6 b7 hi' hm' => ih b1 b2 b3 b4 b5 b6 b7 hi' (by omega))
theorem ok_itr8 {ρ A1 A2 A3 A4 A5 A6 A7 A8 : Type} {F : (A1 → A2 → A3 → A4 → A5 → A6 → A7 → A8 → Option ρ) → (A1 → A2 → A3 → A4 → A5 → A6 → A7 → A8 → Option ρ)} {z : A1 → A2 → A3 → A4 → A5 → A6 → A7 → A8 → Option ρ} (Inv : A1 → A2 → A3 → A4 → A5 → A6 → A7 → A8 → Prop) (μ : A1 → A2 → A3 → A4 → A5 → A6 → A7 → A8 → Nat) {Q : ρ → Prop} (h : ∀ (k : A1 → A2 → A3 → A4 → A5 → A6 → A7 → A8 → Option ρ) (a1 : A1) (a2 : A2) (a3 : A3) (a4 : A4) (a5 : A5) (a6 : A6) (a7 : A7) (a8 : A8), Inv a1 a2 a3 a4 a5 a6 a7 a8 → (∀ (b1 : A1) (b2 : A2) (b3 : A3) (b4 : A4) (b5 : A5) (b6 : A6) (b7 : A7) (b8 : A8), Inv b1 b2 b3 b4 b5 b6 b7 b8 → μ b1 b2 b3 b4 b5 b6 b7 b8 < μ a1 a2 a3 a4 a5 a6 a7 a8 → ok (k b1 b2 b3 b4 b5 b6 b7 b8) Q) → ok (F k a1 a2 a3 a4 a5 a6 a7 a8) Q) : ∀ (n : Nat) (a1 : A1) (a2 : A2) (a3 : A3) (a4 : A4) (a5 : A5) (a6 : A6) (a7 : A7) (a8 : A8), Inv a1 a2 a3 a4 a5 a6 a7 a8 → μ a1 a2 a3 a4 a5 a6 a7 a8 < n → ok (itr F z n a1 a2 a3 a4 a5 a6 a7 a8) Q := by
  intro n
  induction n with
  | zero => intro a1 a2 a3 a4 a5 a6 a7 a8 _ h; omega
  | succ n ih => intro a1 a2 a3 a4 a5 a6 a7 a8 hi hm; exact h _ a1 a2 a3 a4 a5 a6 a7 a8 hi (fun b1 b2 b3 b4 b5 b6 b7 b8 hi' hm' => ih b1 b2 b3 b4 b5 b6 b7 b8 hi' (by omega))
theorem ok_itr9 {ρ A1 A2 A3 A4 A5 A6 A7 A8 A9 : Type} {F : (A1 → A2 → A3 → A4 → A5 → A6 → A7 → A8 → A9 → Option ρ) → (A1 → A2 → A3 → A4 → A5 → A6 → A7 → A8 → A9 → Option ρ)} {z : A1 → A2 → A3 → A4 → A5 → A6 → A7 → A8 → A9 → Option ρ} (Inv : A1 → A2 → A3 → A4 → A5 → A6 → A7 → A8 → A9 → Prop) (μ : A1 → A2 → A3 → A4 → A5 → A6 → A7 → A8 → A9 → Nat) {Q : ρ → Prop} (h : ∀ (k : A1 → A2 → A3 → A4 → A5 → A6 → A7 → A8 → A9 → Option ρ) (a1 : A1) (a2 : A2) (a3 : A3) (a4 : A4) (a5 : A5) (a6 : A6) (a7 : A7) (a8 : A8) (a9 : A9), Inv a1 a2 a3 a4 a5 a6 a7 a8 a9 → (∀ (b1 : A1) (b2 : A2) (b3 : A3) (b4 : A4) (b5 : A5) (b6 : A6) (b7 : A7) (b8 : A8) (b9 : A9), Inv b1 b2 b3 b4 b5 b6 b7 b8 b9 → μ b1 b2 b3 b4 b5 b6 b7 b8 b9 < μ a1 a2 a3 a4 a5 a6 a7 a8 a9 → ok (k b1 b2 b3 b4 b5 b6 b7 b8 b9) Q) → ok (F k a1 a2 a3 a4 a5 a6 a7 a8 a9) Q) : ∀ (n : Nat) (a1 : A1) (a2 : A2) (a3 : A3) (a4 : A4) (a5 : A5) (a6 : A6) (a7 : A7) (a8 : A8) (a9 : A9), Inv a1 a2 a3 a4 a5 a6 a7 a8 a9 → μ a1 a2 a3 a4 a5 a6 a7 a8 a9 < n → ok (itr F z n a1 a2 a3 a4 a5 a6 a7 a8 a9) Q := by
  intro n
  induction n with
  | zero => intro a1 a2 a3 a4 a5 a6 a7 a8 a9 _ h; omega
  | succ n ih => intro a1 a2 a3 a4 a5 a6 a7 a8 a9 hi hm; exact h _ a1 a2 a3 a4 a5 a6 a7 a8 a9 hi (fun b1 b2 b3 b4 b5 b6 b7 b8 b9 hi' hm' => ih b1 b2 b3 b4 b5 b6 b7 b8 b9 hi' (by omega))
theorem ok_itr10 {ρ A1 A2 A3 A4 A5 A6 A7 A8 A9 A10 : Type} {F : (A1 → A2 → A3 → A4 → A5 → A6 → A7 → A8 → A9 → A10 → Option ρ) → (A1 → A2 → A3 → A4 → A5 → A6 → A7 → A8 → A9 → A10 → Option ρ)} {z : A1 → A2 → A3 → A4 → A5 → A6 → A7 → A8 → A9 → A10 → Option ρ} (Inv : A1 → A2 → A3 → A4 → A5 → A6 → A7 → A8 → A9 → A10 → Prop) (μ : A1 → A2 → A3 → A4 → A5 → A6 → A7 → A8 → A9 → A10 → Nat) {Q : ρ → Prop} (h : ∀ (k : A1 → A2 → A3 → A4 → A5 → A6 → A7 → A8 → A9 → A10 → Option ρ) (a1 : A1) (a2 : A2) (a3 : A3) (a4 : A4) (a5 : A5) (a6 : A6) (a7 : A7) (a8 : A8) (a9 : A9) (a10 : A10), Inv a1 a2 a3 a4 a5 a6 a7 a8 a9 a10 → (∀ (b1 : A1) (b2 : A2) (b3 : A3) (b4 : A4) (b5 : A5) (b6 : A6) (b7 : A7) (b8 : A8) (b9 : A9) (b10 : A10), Inv b1 b2 b3 b4 b5 b6 b7 b8 b9 b10 → μ b1 b2 b3 b4 b5 b6 b7 b8 b9 b10 < μ a1 a2 a3 a4 a5 a6 a7 a8 a9 a10 → ok (k b1 b2 b3 b4 b5 b6 b7 b8 b9 b10) Q) → ok (F k a1 a2 a3 a4 a5 a6 a7 a8 a9 a10) Q) : ∀ (n : Nat) (a1 : A1) (a2 : A2) (a3 : A3) (a4 : A4) (a5 : A5) (a6 : A6) (a7 : A7) (a8 : A8) (a9 : A9) (a10 : A10), Inv a1 a2 a3 a4 a5 a6 a7 a8 a9 a10 → μ a1 a2 a3 a4 a5 a6 a7 a8 a9 a10 < n → ok (itr F z n a1 a2 a3 a4 a5 a6 a7 a8 a9 a10) Q := by
  intro n
  induction n with
  | zero => intro a1 a2 a3 a4 a5 a6 a7 a8 a9 a10 _ h; omega
  | succ n ih => intro a1 a2 a3 a4 a5 a6 a7 a8 a9 a10 hi hm; exact h _ a1 a2 a3 a4 a5 a6 a7 a8 a9 a10 hi (fun b1 b2 b3 b4 b5 b6 b7 b8 b9 b10 hi' hm' => ih b1 b2 b3 b4 b5 b6 b7 b8 b9 b10 hi' (by omega))
theorem ok_itr11 {ρ A1 A2 A3 A4 A5 A6 A7 A8 A9 A10 A11 : Type} {F : (A1 → A2 → A3 → A4 → A5 → A6 → A7 → A8 → A9 → A10 → A11 → Option ρ) → (A1 → A2 → A3 → A4 → A5 → A6 → A7 → A8 → A9 → A10 → A11 → Option ρ)} {z : A1 → A2 → A3 → A4 → A5 → A6 → A7 → A8 → A9 → A10 → A11 → Option ρ} (Inv : A1 → A2 → A3 → A4 → A5 → A6 → A7 → A8 → A9 → A10 → A11 → Prop) (μ : A1 → A2 → A3 → A4 → A5 → A6 → A7 → A8 → A9 → A10 → A11 → Nat) {Q : ρ → Prop} (h : ∀ (k : A1 → A2 → A3 → A4 → A5 → A6 → A7 → A8 → A9 → A10 → A11 → Option ρ) (a1 : A1) (a2 : A2) (a3 : A3) (a4 : A4) (a5 : A5) (a6 : A6) (a7 : A7) (a8 : A8) (a9 : A9) (a10 : A10) (a11 : A11), Inv a1 a2 a3 a4 a5 a6 a7 a8 a9 a10 a11 → (∀ (b1 : A1) (b2 : A2) (b3 : A3) (b4 : A4) (b5 : A5) (b6 : A6) (b7 : A7) (b8 : A8) (b9 : A9) (b10 : A10) (b11 : A11), Inv b1 b2 b3 b4 b5 b6 b7 b8 b9 b10 b11 → μ b1 b2 b3 b4 b5 b6 b7 b8 b9 b10 b11 < μ a1 a2 a3 a4 a5 a6 a7 a8 a9 a10 a11 → ok (k b1 b2 b3 b4 b5 b6 b7 b8 b9 b10 b11) Q) → ok (F k a1 a2 a3 a4 a5 a6 a7 a8 a9 a10 a11) Q) : ∀ (n : Nat) (a1 : A1) (a2 : A2) (a3 : A3) (a4 : A4) (a5 : A5) (a6 : A6) (a7 : A7) (a8 : A8) (a9 : A9) (a10 : A10) (a11 : A11), Inv a1 a2 a3 a4 a5 a6 a7 a8 a9 a10 a11 → μ a1 a2 a3 a4 a5 a6 a7 a8 a9 a10 a11 < n → ok (itr F z n a1 a2 a3 a4 a5 a6 a7 a8 a9 a10 a11) Q := by
  intro n
  induction n with
  | zero => intro a1 a2 a3 a4 a5 a6 a7 a8 a9 a10 a11 _ h; omega
  | succ n ih => intro a1 a2 a3 a4 a5 a6 a7 a8 a9 a10 a11 hi hm; exact h _ a1 a2 a3 a4 a5 a6 a7 a8 a9 a10 a11 hi (fun b1 b2 b3 b4 b5 b6 b7 b8 b9 b10 b11 hi' hm' => ih b1 b2 b3 b4 b5 b6 b7 b8 b9 b10 b11 hi' (by omega))
theorem ok_itr12 {ρ A1 A2 A3 A4 A5 A6 A7 A8 A9 A10 A11 A12 : Type} {F : (A1 → A2 → A3 → A4 → A5 → A6 → A7 → A8 → A9 → A10 → A11 → A12 → Option ρ) → (A1 → A2 → A3 → A4 → A5 → A6 → A7 → A8 → A9 → A10 → A11 → A12 → Option ρ)} {z : A1 → A2 → A3 → A4 → A5 → A6 → A7 → A8 → A9 → A10 → A11 → A12 → Option ρ} (Inv : A1 → A2 → A3 → A4 → A5 → A6 → A7 → A8 → A9 → A10 → A11 → A12 → Prop) (μ : A1 → A2 → A3 → A4 → A5 → A6 → A7 → A8 → A9 → A10 → A11 → A12 → Nat) {Q : ρ → Prop} (h : ∀ (k : A1 → A2 → A3 → A4 → A5 → A6 → A7 → A8 → A9 → A10 → A11 → A12 → Option ρ) (a1 : A1) (a2 : A2) (a3 : A3) (a4 : A4) (a5 : A5) (a6 : A6) (a7 : A7) (a8 : A8) (a9 : A9) (a10 : A10) (a11 : A11) (a12 : A12), Inv a1 a2 a3 a4 a5 a6 a7 a8 a9 a10 a11 a12 → (∀ (b1 : A1) (b2 : A2) (b3 : A3) (b4 : A4) (b5 : A5) (b6 : A6) (b7 : A7) (b8 : A8) (b9 : A9) (b10 : A10) (b11 : A11) (b12 : A12), Inv b1 b2 b3 b4 b5 b6 b7 b8 b9 b10 b11 b12 → μ b1 b2 b3 b4 b5 b6 b7 b8 b9 b10 b11 b12 < μ a1 a2 a3 a4 a5 a6 a7 a8 a9 a10 a11 a12 → ok (k b1 b2 b3 b4 b5 b6 b7 b8 b9 b10 b11 b12) Q) → ok (F k a1 a2 a3 a4 a5 a6 a7 a8 a9 a10 a11 a12) Q) : ∀ (n : Nat) (a1 : A1) (a2 : A2) (a3 : A3) (a4 : A4) (a5 : A5) (a6 : A6) (a7 : A7) (a8 : A8) (a9 : A9) (a10 : A10) (a11 : A11) (a12 : A12), Inv a1 a2 a3 a4 a5 a6 a7 a8 a9 a10 a11 a12 → μ a1 a2 a3 a4 a5 a6 a7 a8 a9 a10 a11 a12 < n → ok (itr F z n a1 a2 a3 a4 a5 a6 a7 a8 a9 a10 a11 a12) Q := by
  intro n
  induction n with
  | zero => intro a1 a2 a3 a4 a5 a6 a7 a8 a9 a10 a11 a12 _ h; omega
  | succ n ih => intro a1 a2 a3 a4 a5 a6 a7 a8 a9 a10 a11 a12 hi hm; exact h _ a1 a2 a3 a4 a5 a6 a7 a8 a9 a10 a11 a12 hi (fun b1 b2 b3 b4 b5 b6 b7 b8 b9 b10 b11 b12 hi' hm' => ih b1 b2 b3 b4 b5 b6 b7 b8 b9 b10 b11 b12 hi' (by omega))
