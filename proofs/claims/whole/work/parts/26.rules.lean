/-! loops by a counter, which is the last argument; numbers -/
theorem ok_for0 {ρ : Type} {F : (Int32 → Option ρ) → (Int32 → Option ρ)} {z : Int32 → Option ρ} {Q : ρ → Prop} (n : Nat) (Inv : Nat → Prop) (hs : ∀ (k : Int32 → Option ρ)  (i : Nat), i < n → Inv i  → (Inv (i + 1)  → ok (k  (nI (i + 1))) Q) → ok (F k  (nI i)) Q) (he : ∀ (k : Int32 → Option ρ), Inv n  → ok (F k  (nI n)) Q) : ∀ (N i : Nat), i ≤ n → Inv i  → n - i < N → ok (itr F z N  (nI i)) Q := by
  intro N
  induction N with
  | zero => intro i  _ _ h; omega
  | succ N ih =>
    intro i  hi hv hm
    rcases Nat.lt_or_ge i n with hlt | hge
    · exact hs _  i hlt hv (fun hv2 => ih (i + 1)  (by omega) hv2 (by omega))
    · have e : i = n := by omega
      subst e
      exact he _  hv
theorem ok_for1 {ρ A1 : Type} {F : (A1 → Int32 → Option ρ) → (A1 → Int32 → Option ρ)} {z : A1 → Int32 → Option ρ} {Q : ρ → Prop} (n : Nat) (Inv : Nat → A1 → Prop) (hs : ∀ (k : A1 → Int32 → Option ρ) (a1 : A1) (i : Nat), i < n → Inv i a1 → (∀ (b1 : A1), Inv (i + 1) b1 → ok (k b1 (nI (i + 1))) Q) → ok (F k a1 (nI i)) Q) (he : ∀ (k : A1 → Int32 → Option ρ) (a1 : A1), Inv n a1 → ok (F k a1 (nI n)) Q) : ∀ (N i : Nat) (a1 : A1), i ≤ n → Inv i a1 → n - i < N → ok (itr F z N a1 (nI i)) Q := by
  intro N
  induction N with
  | zero => intro i a1 _ _ h; omega
  | succ N ih =>
    intro i a1 hi hv hm
    rcases Nat.lt_or_ge i n with hlt | hge
    · exact hs _ a1 i hlt hv (fun b1 hv2 => ih (i + 1) b1 (by omega) hv2 (by omega))
    · have e : i = n := by omega
      subst e
      exact he _ a1 hv
theorem ok_for2 {ρ A1 A2 : Type} {F : (A1 → A2 → Int32 → Option ρ) → (A1 → A2 → Int32 → Option ρ)} {z : A1 → A2 → Int32 → Option ρ} {Q : ρ → Prop} (n : Nat) (Inv : Nat → A1 → A2 → Prop) (hs : ∀ (k : A1 → A2 → Int32 → Option ρ) (a1 : A1) (a2 : A2) (i : Nat), i < n → Inv i a1 a2 → (∀ (b1 : A1) (b2 : A2), Inv (i + 1) b1 b2 → ok (k b1 b2 (nI (i + 1))) Q) → ok (F k a1 a2 (nI i)) Q) (he : ∀ (k : A1 → A2 → Int32 → Option ρ) (a1 : A1) (a2 : A2), Inv n a1 a2 → ok (F k a1 a2 (nI n)) Q) : ∀ (N i : Nat) (a1 : A1) (a2 : A2), i ≤ n → Inv i a1 a2 → n - i < N → ok (itr F z N a1 a2 (nI i)) Q := by
  intro N
  induction N with
  | zero => intro i a1 a2 _ _ h; omega
  | succ N ih =>
    intro i a1 a2 hi hv hm
    rcases Nat.lt_or_ge i n with hlt | hge
    · exact hs _ a1 a2 i hlt hv (fun b1 b2 hv2 => ih (i + 1) b1 b2 (by omega) hv2 (by omega))
    · have e : i = n := by omega
      subst e
      exact he _ a1 a2 hv
theorem ok_for3 {ρ A1 A2 A3 : Type} {F : (A1 → A2 → A3 → Int32 → Option ρ) → (A1 → A2 → A3 → Int32 → Option ρ)} {z : A1 → A2 → A3 → Int32 → Option ρ} {Q : ρ → Prop} (n : Nat) (Inv : Nat → A1 → A2 → A3 → Prop) (hs : ∀ (k : A1 → A2 → A3 → Int32 → Option ρ) (a1 : A1) (a2 : A2) (a3 : A3) (i : Nat), i < n → Inv i a1 a2 a3 → (∀ (b1 : A1) (b2 : A2) (b3 : A3), Inv (i + 1) b1 b2 b3 → ok (k b1 b2 b3 (nI (i + 1))) Q) → ok (F k a1 a2 a3 (nI i)) Q) (he : ∀ (k : A1 → A2 → A3 → Int32 → Option ρ) (a1 : A1) (a2 : A2) (a3 : A3), Inv n a1 a2 a3 → ok (F k a1 a2 a3 (nI n)) Q) : ∀ (N i : Nat) (a1 : A1) (a2 : A2) (a3 : A3), i ≤ n → Inv i a1 a2 a3 → n - i < N → ok (itr F z N a1 a2 a3 (nI i)) Q := by
  intro N
  induction N with
  | zero => intro i a1 a2 a3 _ _ h; omega
  | succ N ih =>
    intro i a1 a2 a3 hi hv hm
    rcases Nat.lt_or_ge i n with hlt | hge
    · exact hs _ a1 a2 a3 i hlt hv (fun b1 b2 b3 hv2 => ih (i + 1) b1 b2 b3 (by omega) hv2 (by omega))
    · have e : i = n := by omega
      subst e
      exact he _ a1 a2 a3 hv
theorem ok_for4 {ρ A1 A2 A3 A4 : Type} {F : (A1 → A2 → A3 → A4 → Int32 → Option ρ) → (A1 → A2 → A3 → A4 → Int32 → Option ρ)} {z : A1 → A2 → A3 → A4 → Int32 → Option ρ} {Q : ρ → Prop} (n : Nat) (Inv : Nat → A1 → A2 → A3 → A4 → Prop) (hs : ∀ (k : A1 → A2 → A3 → A4 → Int32 → Option ρ) (a1 : A1) (a2 : A2) (a3 : A3) (a4 : A4) (i : Nat), i < n → Inv i a1 a2 a3 a4 → (∀ (b1 : A1) (b2 : A2) (b3 : A3) (b4 : A4), Inv (i + 1) b1 b2 b3 b4 → ok (k b1 b2 b3 b4 (nI (i + 1))) Q) → ok (F k a1 a2 a3 a4 (nI i)) Q) (he : ∀ (k : A1 → A2 → A3 → A4 → Int32 → Option ρ) (a1 : A1) (a2 : A2) (a3 : A3) (a4 : A4), Inv n a1 a2 a3 a4 → ok (F k a1 a2 a3 a4 (nI n)) Q) : ∀ (N i : Nat) (a1 : A1) (a2 : A2) (a3 : A3) (a4 : A4), i ≤ n → Inv i a1 a2 a3 a4 → n - i < N → ok (itr F z N a1 a2 a3 a4 (nI i)) Q := by
  intro N
  induction N with
  | zero => intro i a1 a2 a3 a4 _ _ h; omega
  | succ N ih =>
    intro i a1 a2 a3 a4 hi hv hm
    rcases Nat.lt_or_ge i n with hlt | hge
    · exact hs _ a1 a2 a3 a4 i hlt hv (fun b1 b2 b3 b4 hv2 => ih (i + 1) b1 b2 b3 b4 (by omega) hv2 (by omega))
    · have e : i = n := by omega
      subst e
      exact he _ a1 a2 a3 a4 hv
theorem ok_for5 {ρ A1 A2 A3 A4 A5 : Type} {F : (A1 → A2 → A3 → A4 → A5 → Int32 → Option ρ) → (A1 → A2 → A3 → A4 → A5 → Int32 → Option ρ)} {z : A1 → A2 → A3 → A4 → A5 → Int32 → Option ρ} {Q : ρ → Prop} (n : Nat) (Inv : Nat → A1 → A2 → A3 → A4 → A5 → Prop) (hs : ∀ (k : A1 → A2 → A3 → A4 → A5 → Int32 → Option ρ) (a1 : A1) (a2 : A2) (a3 : A3) (a4 : A4) (a5 : A5) (i : Nat), i < n → Inv i a1 a2 a3 a4 a5 → (∀ (b1 : A1) (b2 : A2) (b3 : A3) (b4 : A4) (b5 : A5), Inv (i + 1) b1 b2 b3 b4 b5 → ok (k b1 b2 b3 b4 b5 (nI (i + 1))) Q) → ok (F k a1 a2 a3 a4 a5 (nI i)) Q) (he : ∀ (k : A1 → A2 → A3 → A4 → A5 → Int32 → Option ρ) (a1 : A1) (a2 : A2) (a3 : A3) (a4 : A4) (a5 : A5), Inv n a1 a2 a3 a4 a5 → ok (F k a1 a2 a3 a4 a5 (nI n)) Q) : ∀ (N i : Nat) (a1 : A1) (a2 : A2) (a3 : A3) (a4 : A4) (a5 : A5), i ≤ n → Inv i a1 a2 a3 a4 a5 → n - i < N → ok (itr F z N a1 a2 a3 a4 a5 (nI i)) Q := by
  intro N
  induction N with
  | zero => intro i a1 a2 a3 a4 a5 _ _ h; omega
  | succ N ih =>
    intro i a1 a2 a3 a4 a5 hi hv hm
    rcases Nat.lt_or_ge i n with hlt | hge
    · exact hs _ a1 a2 a3 a4 a5 i hlt hv (fun b1 b2 b3 b4 b5 hv2 => ih (i + 1) b1 b2 b3 b4 b5 (by omega) hv2 (by omega))
    · have e : i = n := by omega
      subst e
      exact he _ a1 a2 a3 a4 a5 hv
theorem ok_for6 {ρ A1 A2 A3 A4 A5 A6 : Type} {F : (A1 → A2 → A3 → A4 → A5 → A6 → Int32 → Option ρ) → (A1 → A2 → A3 → A4 → A5 → A6 → Int32 → Option ρ)} {z : A1 → A2 → A3 → A4 → A5 → A6 → Int32 → Option ρ} {Q : ρ → Prop} (n : Nat) (Inv : Nat → A1 → A2 → A3 → A4 → A5 → A6 → Prop) (hs : ∀ (k : A1 → A2 → A3 → A4 → A5 → A6 → Int32 → Option ρ) (a1 : A1) (a2 : A2) (a3 : A3) (a4 : A4) (a5 : A5) (a6 : A6) (i : Nat), i < n → Inv i a1 a2 a3 a4 a5 a6 → (∀ (b1 : A1) (b2 : A2) (b3 : A3) (b4 : A4) (b5 : A5) (b6 : A6), Inv (i + 1) b1 b2 b3 b4 b5 b6 → ok (k b1 b2 b3 b4 b5 b6 (nI (i + 1))) Q) → ok (F k a1 a2 a3 a4 a5 a6 (nI i)) Q) (he : ∀ (k : A1 → A2 → A3 → A4 → A5 → A6 → Int32 → Option ρ) (a1 : A1) (a2 : A2) (a3 : A3) (a4 : A4) (a5 : A5) (a6 : A6), Inv n a1 a2 a3 a4 a5 a6 → ok (F k a1 a2 a3 a4 a5 a6 (nI n)) Q) : ∀ (N i : Nat) (a1 : A1) (a2 : A2) (a3 : A3) (a4 : A4) (a5 : A5) (a6 : A6), i ≤ n → Inv i a1 a2 a3 a4 a5 a6 → n - i < N → ok (itr F z N a1 a2 a3 a4 a5 a6 (nI i)) Q := by
  intro N
  induction N with
  | zero => intro i a1 a2 a3 a4 a5 a6 _ _ h; omega
  | succ N ih =>
    intro i a1 a2 a3 a4 a5 a6 hi hv hm
    rcases Nat.lt_or_ge i n with hlt | hge
    · exact hs _ a1 a2 a3 a4 a5 a6 i hlt hv (fun b1 b2 b3 b4 b5 b6 hv2 => ih (i + 1) b1 b2 b3 b4 b5 b6 (by omega) hv2 (by omega))
    · have e : i = n := by omega
      subst e
      exact he _ a1 a2 a3 a4 a5 a6 hv
theorem ok_for7 {ρ A1 A2 A3 A4 A5 A6 A7 : Type} {F : (A1 → A2 → A3 → A4 → A5 → A6 → A7 → Int32 → Option ρ) → (A1 → A2 → A3 → A4 → A5 → A6 → A7 → Int32 → Option ρ)} {z : A1 → A2 → A3 → A4 → A5 → A6 → A7 → Int32 → Option ρ} {Q : ρ → Prop} (n : Nat) (Inv : Nat → A1 → A2 → A3 → A4 → A5 → A6 → A7 → Prop) (hs : ∀ (k : A1 → A2 → A3 → A4 → A5 → A6 → A7 → Int32 → Option ρ) (a1 : A1) (a2 : A2) (a3 : A3) (a4 : A4) (a5 : A5) (a6 : A6) (a7 : A7) (i : Nat), i < n → Inv i a1 a2 a3 a4 a5 a6 a7 → (∀ (b1 : A1) (b2 : A2) (b3 : A3) (b4 : A4) (b5 : A5) (b6 : A6) (b7 : A7), Inv (i + 1) b1 b2 b3 b4 b5 b6 b7 → ok (k b1 b2 b3 b4 b5 b6 b7 (nI (i + 1))) Q) → ok (F k a1 a2 a3 a4 a5 a6 a7 (nI i)) Q) (he : ∀ (k : A1 → A2 → A3 → A4 → A5 → A6 → A7 → Int32 → Option ρ) (a1 : A1) (a2 : A2) (a3 : A3) (a4 : A4) (a5 : A5) (a6 : A6) (a7 : A7), Inv n a1 a2 a3 a4 a5 a6 a7 → ok (F k a1 a2 a3 a4 a5 a6 a7 (nI n)) Q) : ∀ (N i : Nat) (a1 : A1) (a2 : A2) (a3 : A3) (a4 : A4) (a5 : A5) (a6 : A6) (a7 : A7), i ≤ n → Inv i a1 a2 a3 a4 a5 a6 a7 → n - i < N → ok (itr F z N a1 a2 a3 a4 a5 a6 a7 (nI i)) Q := by
  intro N
  induction N with
  | zero => intro i a1 a2 a3 a4 a5 a6 a7 _ _ h; omega
  | succ N ih =>
    intro i a1 a2 a3 a4 a5 a6 a7 hi hv hm
    rcases Nat.lt_or_ge i n with hlt | hge
    · exact hs _ a1 a2 a3 a4 a5 a6 a7 i hlt hv (fun b1 b2 b3 b4 b5 b6 b7 hv2 => ih (i + 1) b1 b2 b3 b4 b5 b6 b7 (by omega) hv2 (by omega))
    · have e : i = n := by omega
      subst e
      exact he _ a1 a2 a3 a4 a5 a6 a7 hv
theorem ok_for8 {ρ A1 A2 A3 A4 A5 A6 A7 A8 : Type} {F : (A1 → A2 → A3 → A4 → A5 → A6 → A7 → A8 → Int32 → Option ρ) → (A1 → A2 → A3 → A4 → A5 → A6 → A7 → A8 → Int32 → Option ρ)} {z : A1 → A2 → A3 → A4 → A5 → A6 → A7 → A8 → Int32 → Option ρ} {Q : ρ → Prop} (n : Nat) (Inv : Nat → A1 → A2 → A3 → A4 → A5 → A6 → A7 → A8 → Prop) (hs : ∀ (k : A1 → A2 → A3 → A4 → A5 → A6 → A7 → A8 → Int32 → Option ρ) (a1 : A1) (a2 : A2) (a3 : A3) (a4 : A4) (a5 : A5) (a6 : A6) (a7 : A7) (a8 : A8) (i : Nat), i < n → Inv i a1 a2 a3 a4 a5 a6 a7 a8 → (∀ (b1 : A1) (b2 : A2) (b3 : A3) (b4 : A4) (b5 : A5) (b6 : A6) (b7 : A7) (b8 : A8), Inv (i + 1) b1 b2 b3 b4 b5 b6 b7 b8 → ok (k b1 b2 b3 b4 b5 b6 b7 b8 (nI (i + 1))) Q) → ok (F k a1 a2 a3 a4 a5 a6 a7 a8 (nI i)) Q) (he : ∀ (k : A1 → A2 → A3 → A4 → A5 → A6 → A7 → A8 → Int32 → Option ρ) (a1 : A1) (a2 : A2) (a3 : A3) (a4 : A4) (a5 : A5) (a6 : A6) (a7 : A7) (a8 : A8), Inv n a1 a2 a3 a4 a5 a6 a7 a8 → ok (F k a1 a2 a3 a4 a5 a6 a7 a8 (nI n)) Q) : ∀ (N i : Nat) (a1 : A1) (a2 : A2) (a3 : A3) (a4 : A4) (a5 : A5) (a6 : A6) (a7 : A7) (a8 : A8), i ≤ n → Inv i a1 a2 a3 a4 a5 a6 a7 a8 → n - i < N → ok (itr F z N a1 a2 a3 a4 a5 a6 a7 a8 (nI i)) Q := by
  intro N
  induction N with
  | zero => intro i a1 a2 a3 a4 a5 a6 a7 a8 _ _ h; omega
  | succ N ih =>
    intro i a1 a2 a3 a4 a5 a6 a7 a8 hi hv hm
    rcases Nat.lt_or_ge i n with hlt | hge
    · exact hs _ a1 a2 a3 a4 a5 a6 a7 a8 i hlt hv (fun b1 b2 b3 b4 b5 b6 b7 b8 hv2 => ih (i + 1) b1 b2 b3 b4 b5 b6 b7 b8 (by omega) hv2 (by omega))
    · have e : i = n := by omega
      subst e
      exact he _ a1 a2 a3 a4 a5 a6 a7 a8 hv
theorem ok_for9 {ρ A1 A2 A3 A4 A5 A6 A7 A8 A9 : Type} {F : (A1 → A2 → A3 → A4 → A5 → A6 → A7 → A8 → A9 → Int32 → Option ρ) → (A1 → A2 → A3 → A4 → A5 → A6 → A7 → A8 → A9 → Int32 → Option ρ)} {z : A1 → A2 → A3 → A4 → A5 → A6 → A7 → A8 → A9 → Int32 → Option ρ} {Q : ρ → Prop} (n : Nat) (Inv : Nat → A1 → A2 → A3 → A4 → A5 → A6 → A7 → A8 → A9 → Prop) (hs : ∀ (k : A1 → A2 → A3 → A4 → A5 → A6 → A7 → A8 → A9 → Int32 → Option ρ) (a1 : A1) (a2 : A2) (a3 : A3) (a4 : A4) (a5 : A5) (a6 : A6) (a7 : A7) (a8 : A8) (a9 : A9) (i : Nat), i < n → Inv i a1 a2 a3 a4 a5 a6 a7 a8 a9 → (∀ (b1 : A1) (b2 : A2) (b3 : A3) (b4 : A4) (b5 : A5) (b6 : A6) (b7 : A7) (b8 : A8) (b9 : A9), Inv (i + 1) b1 b2 b3 b4 b5 b6 b7 b8 b9 → ok (k b1 b2 b3 b4 b5 b6 b7 b8 b9 (nI (i + 1))) Q) → ok (F k a1 a2 a3 a4 a5 a6 a7 a8 a9 (nI i)) Q) (he : ∀ (k : A1 → A2 → A3 → A4 → A5 → A6 → A7 → A8 → A9 → Int32 → Option ρ) (a1 : A1) (a2 : A2) (a3 : A3) (a4 : A4) (a5 : A5) (a6 : A6) (a7 : A7) (a8 : A8) (a9 : A9), Inv n a1 a2 a3 a4 a5 a6 a7 a8 a9 → ok (F k a1 a2 a3 a4 a5 a6 a7 a8 a9 (nI n)) Q) : ∀ (N i : Nat) (a1 : A1) (a2 : A2) (a3 : A3) (a4 : A4) (a5 : A5) (a6 : A6) (a7 : A7) (a8 : A8) (a9 : A9), i ≤ n → Inv i a1 a2 a3 a4 a5 a6 a7 a8 a9 → n - i < N → ok (itr F z N a1 a2 a3 a4 a5 a6 a7 a8 a9 (nI i)) Q := by
  intro N
  induction N with
  | zero => intro i a1 a2 a3 a4 a5 a6 a7 a8 a9 _ _ h; omega
  | succ N ih =>
    intro i a1 a2 a3 a4 a5 a6 a7 a8 a9 hi hv hm
    rcases Nat.lt_or_ge i n with hlt | hge
    · exact hs _ a1 a2 a3 a4 a5 a6 a7 a8 a9 i hlt hv (fun b1 b2 b3 b4 b5 b6 b7 b8 b9 hv2 => ih (i + 1) b1 b2 b3 b4 b5 b6 b7 b8 b9 (by omega) hv2 (by omega))
    · have e : i = n := by omega
      subst e
      exact he _ a1 a2 a3 a4 a5 a6 a7 a8 a9 hv
theorem ok_for10 {ρ A1 A2 A3 A4 A5 A6 A7 A8 A9 A10 : Type} {F : (A1 → A2 → A3 → A4 → A5 → A6 → A7 → A8 → A9 → A10 → Int32 → Option ρ) → (A1 → A2 → A3 → A4 → A5 → A6 → A7 → A8 → A9 → A10 → Int32 → Option ρ)} {z : A1 → A2 → A3 → A4 → A5 → A6 → A7 → A8 → A9 → A10 → Int32 → Option ρ} {Q : ρ → Prop} (n : Nat) (Inv : Nat → A1 → A2 → A3 → A4 → A5 → A6 → A7 → A8 → A9 → A10 → Prop) (hs : ∀ (k : A1 → A2 → A3 → A4 → A5 → A6 → A7 → A8 → A9 → A10 → Int32 → Option ρ) (a1 : A1) (a2 : A2) (a3 : A3) (a4 : A4) (a5 : A5) (a6 : A6) (a7 : A7) (a8 : A8) (a9 : A9) (a10 : A10) (i : Nat), i < n → Inv i a1 a2 a3 a4 a5 a6 a7 a8 a9 a10 → (∀ (b1 : A1) (b2 : A2) (b3 : A3) (b4 : A4) (b5 : A5) (b6 : A6) (b7 : A7) (b8 : A8) (b9 : A9) (b10 : A10), Inv (i + 1) b1 b2 b3 b4 b5 b6 b7 b8 b9 b10 → ok (k b1 b2 b3 b4 b5 b6 b7 b8 b9 b10 (nI (i + 1))) Q) → ok (F k a1 a2 a3 a4 a5 a6 a7 a8 a9 a10 (nI i)) Q) (he : ∀ (k : A1 → A2 → A3 → A4 → A5 → A6 → A7 → A8 → A9 → A10 → Int32 → Option ρ) (a1 : A1) (a2 : A2) (a3 : A3) (a4 : A4) (a5 : A5) (a6 : A6) (a7 : A7) (a8 : A8) (a9 : A9) (a10 : A10), Inv n a1 a2 a3 a4 a5 a6 a7 a8 a9 a10 → ok (F k a1 a2 a3 a4 a5 a6 a7 a8 a9 a10 (nI n)) Q) : ∀ (N i : Nat) (a1 : A1) (a2 : A2) (a3 : A3) (a4 : A4) (a5 : A5) (a6 : A6) (a7 : A7) (a8 : A8) (a9 : A9) (a10 : A10), i ≤ n → Inv i a1 a2 a3 a4 a5 a6 a7 a8 a9 a10 → n - i < N → ok (itr F z N a1 a2 a3 a4 a5 a6 a7 a8 a9 a10 (nI i)) Q := by
  intro N
  induction N with
  | zero => intro i a1 a2 a3 a4 a5 a6 a7 a8 a9 a10 _ _ h; omega
  | succ N ih =>
    intro i a1 a2 a3 a4 a5 a6 a7 a8 a9 a10 hi hv hm
    rcases Nat.lt_or_ge i n with hlt | hge
    · exact hs _ a1 a2 a3 a4 a5 a6 a7 a8 a9 a10 i hlt hv (fun b1 b2 b3 b4 b5 b6 b7 b8 b9 b10 hv2 => ih (i + 1) b1 b2 b3 b4 b5 b6 b7 b8 b9 b10 (by omega) hv2 (by omega))
    · have e : i = n := by omega
      subst e
      exact he _ a1 a2 a3 a4 a5 a6 a7 a8 a9 a10 hv
theorem ok_for11 {ρ A1 A2 A3 A4 A5 A6 A7 A8 A9 A10 A11 : Type} {F : (A1 → A2 → A3 → A4 → A5 → A6 → A7 → A8 → A9 → A10 → A11 → Int32 → Option ρ) → (A1 → A2 → A3 → A4 → A5 → A6 → A7 → A8 → A9 → A10 → A11 → Int32 → Option ρ)} {z : A1 → A2 → A3 → A4 → A5 → A6 → A7 → A8 → A9 → A10 → A11 → Int32 → Option ρ} {Q : ρ → Prop} (n : Nat) (Inv : Nat → A1 → A2 → A3 → A4 → A5 → A6 → A7 → A8 → A9 → A10 → A11 → Prop) (hs : ∀ (k : A1 → A2 → A3 → A4 → A5 → A6 → A7 → A8 → A9 → A10 → A11 → Int32 → Option ρ) (a1 : A1) (a2 : A2) (a3 : A3) (a4 : A4) (a5 : A5) (a6 : A6) (a7 : A7) (a8 : A8) (a9 : A9) (a10 : A10) (a11 : A11) (i : Nat), i < n → Inv i a1 a2 a3 a4 a5 a6 a7 a8 a9 a10 a11 → (∀ (b1 : A1) (b2 : A2) (b3 : A3) (b4 : A4) (b5 : A5) (b6 : A6) (b7 : A7) (b8 : A8) (b9 : A9) (b10 : A10) (b11 : A11), Inv (i + 1) b1 b2 b3 b4 b5 b6 b7 b8 b9 b10 b11 → ok (k b1 b2 b3 b4 b5 b6 b7 b8 b9 b10 b11 (nI (i + 1))) Q) → ok (F k a1 a2 a3 a4 a5 a6 a7 a8 a9 a10 a11 (nI i)) Q) (he : ∀ (k : A1 → A2 → A3 → A4 → A5 → A6 → A7 → A8 → A9 → A10 → A11 → Int32 → Option ρ) (a1 : A1) (a2 : A2) (a3 : A3) (a4 : A4) (a5 : A5) (a6 : A6) (a7 : A7) (a8 : A8) (a9 : A9) (a10 : A10) (a11 : A11), Inv n a1 a2 a3 a4 a5 a6 a7 a8 a9 a10 a11 → ok (F k a1 a2 a3 a4 a5 a6 a7 a8 a9 a10 a11 (nI n)) Q) : ∀ (N i : Nat) (a1 : A1) (a2 : A2) (a3 : A3) (a4 : A4) (a5 : A5) (a6 : A6) (a7 : A7) (a8 : A8) (a9 : A9) (a10 : A10) (a11 : A11), i ≤ n → Inv i a1 a2 a3 a4 a5 a6 a7 a8 a9 a10 a11 → n - i < N → ok (itr F z N a1 a2 a3 a4 a5 a6 a7 a8 a9 a10 a11 (nI i)) Q := by
  intro N
  induction N with
  | zero => intro i a1 a2 a3 a4 a5 a6 a7 a8 a9 a10 a11 _ _ h; omega
  | succ N ih =>
    intro i a1 a2 a3 a4 a5 a6 a7 a8 a9 a10 a11 hi hv hm
    rcases Nat.lt_or_ge i n with hlt | hge
    · exact hs _ a1 a2 a3 a4 a5 a6 a7 a8 a9 a10 a11 i hlt hv (fun b1 b2 b3 b4 b5 b6 b7 b8 b9 b10 b11 hv2 => ih (i + 1) b1 b2 b3 b4 b5 b6 b7 b8 b9 b10 b11 (by omega) hv2 (by omega))
    · have e : i = n := by omega
      subst e
      exact he _ a1 a2 a3 a4 a5 a6 a7 a8 a9 a10 a11 hv
theorem ok_for12 {ρ A1 A2 A3 A4 A5 A6 A7 A8 A9 A10 A11 A12 : Type} {F : (A1 → A2 → A3 → A4 → A5 → A6 → A7 → A8 → A9 → A10 → A11 → A12 → Int32 → Option ρ) → (A1 → A2 → A3 → A4 → A5 → A6 → A7 → A8 → A9 → A10 → A11 → A12 → Int32 → Option ρ)} {z : A1 → A2 → A3 → A4 → A5 → A6 → A7 → A8 → A9 → A10 → A11 → A12 → Int32 → Option ρ} {Q : ρ → Prop} (n : Nat) (Inv : Nat → A1 → A2 → A3 → A4 → A5 → A6 → A7 → A8 → A9 → A10 → A11 → A12 → Prop) (hs : ∀ (k : A1 → A2 → A3 → A4 → A5 → A6 → A7 → A8 → A9 → A10 → A11 → A12 → Int32 → Option ρ) (a1 : A1) (a2 : A2) (a3 : A3) (a4 : A4) (a5 : A5) (a6 : A6) (a7 : A7) (a8 : A8) (a9 : A9) (a10 : A10) (a11 : A11) (a12 : A12) (i : Nat), i < n → Inv i a1 a2 a3 a4 a5 a6 a7 a8 a9 a10 a11 a12 → (∀ (b1 : A1) (b2 : A2) (b3 : A3) (b4 : A4) (b5 : A5) (b6 : A6) (b7 : A7) (b8 : A8) (b9 : A9) (b10 : A10) (b11 : A11) (b12 : A12), Inv (i + 1) b1 b2 b3 b4 b5 b6 b7 b8 b9 b10 b11 b12 → ok (k b1 b2 b3 b4 b5 b6 b7 b8 b9 b10 b11 b12 (nI (i + 1))) Q) → ok (F k a1 a2 a3 a4 a5 a6 a7 a8 a9 a10 a11 a12 (nI i)) Q) (he : ∀ (k : A1 → A2 → A3 → A4 → A5 → A6 → A7 → A8 → A9 → A10 → A11 → A12 → Int32 → Option ρ) (a1 : A1) (a2 : A2) (a3 : A3) (a4 : A4) (a5 : A5) (a6 : A6) (a7 : A7) (a8 : A8) (a9 : A9) (a10 : A10) (a11 : A11) (a12 : A12), Inv n a1 a2 a3 a4 a5 a6 a7 a8 a9 a10 a11 a12 → ok (F k a1 a2 a3 a4 a5 a6 a7 a8 a9 a10 a11 a12 (nI n)) Q) : ∀ (N i : Nat) (a1 : A1) (a2 : A2) (a3 : A3) (a4 : A4) (a5 : A5) (a6 : A6) (a7 : A7) (a8 : A8) (a9 : A9) (a10 : A10) (a11 : A11) (a12 : A12), i ≤ n → Inv i a1 a2 a3 a4 a5 a6 a7 a8 a9 a10 a11 a12 → n - i < N → ok (itr F z N a1 a2 a3 a4 a5 a6 a7 a8 a9 a10 a11 a12 (nI i)) Q := by
  intro N
  induction N with
  | zero => intro i a1 a2 a3 a4 a5 a6 a7 a8 a9 a10 a11 a12 _ _ h; omega
  | succ N ih =>
    intro i a1 a2 a3 a4 a5 a6 a7 a8 a9 a10 a11 a12 hi hv hm
    rcases Nat.lt_or_ge i n with hlt | hge
    · exact hs _ a1 a2 a3 a4 a5 a6 a7 a8 a9 a10 a11 a12 i hlt hv (fun b1 b2 b3 b4 b5 b6 b7 b8 b9 b10 b11 b12 hv2 => ih (i + 1) b1 b2 b3 b4 b5 b6 b7 b8 b9 b10 b11 b12 (by omega) hv2 (by omega))
    · have e : i = n := by omega
      subst e
      exact he _ a1 a2 a3 a4 a5 a6 a7 a8 a9 a10 a11 a12 hv
theorem ok_for13 {ρ A1 A2 A3 A4 A5 A6 A7 A8 A9 A10 A11 A12 A13 : Type} {F : (A1 → A2 → A3 → A4 → A5 → A6 → A7 → A8 → A9 → A10 → A11 → A12 → A13 → Int32 → Option ρ) → (A1 → A2 → A3 → A4 → A5 → A6 → A7 → A8 → A9 → A10 → A11 → A12 → A13 → Int32 → Option ρ)} {z : A1 → A2 → A3 → A4 → A5 → A6 → A7 → A8 → A9 → A10 → A11 → A12 → A13 → Int32 → Option ρ} {Q : ρ → Prop} (n : Nat) (Inv : Nat → A1 → A2 → A3 → A4 → A5 → A6 → A7 → A8 → A9 → A10 → A11 → A12 → A13 → Prop) (hs : ∀ (k : A1 → A2 → A3 → A4 → A5 → A6 → A7 → A8 → A9 → A10 → A11 → A12 → A13 → Int32 → Option ρ) (a1 : A1) (a2 : A2) (a3 : A3) (a4 : A4) (a5 : A5) (a6 : A6) (a7 : A7) (a8 : A8) (a9 : A9) (a10 : A10) (a11 : A11) (a12 : A12) (a13 : A13) (i : Nat), i < n → Inv i a1 a2 a3 a4 a5 a6 a7 a8 a9 a10 a11 a12 a13 → (∀ (b1 : A1) (b2 : A2) (b3 : A3) (b4 : A4) (b5 : A5) (b6 : A6) (b7 : A7) (b8 : A8) (b9 : A9) (b10 : A10) (b11 : A11) (b12 : A12) (b13 : A13), Inv (i + 1) b1 b2 b3 b4 b5 b6 b7 b8 b9 b10 b11 b12 b13 → ok (k b1 b2 b3 b4 b5 b6 b7 b8 b9 b10 b11 b12 b13 (nI (i + 1))) Q) → ok (F k a1 a2 a3 a4 a5 a6 a7 a8 a9 a10 a11 a12 a13 (nI i)) Q) (he : ∀ (k : A1 → A2 → A3 → A4 → A5 → A6 → A7 → A8 → A9 → A10 → A11 → A12 → A13 → Int32 → Option ρ) (a1 : A1) (a2 : A2) (a3 : A3) (a4 : A4) (a5 : A5) (a6 : A6) (a7 : A7) (a8 : A8) (a9 : A9) (a10 : A10) (a11 : A11) (a12 : A12) (a13 : A13), Inv n a1 a2 a3 a4 a5 a6 a7 a8 a9 a10 a11 a12 a13 → ok (F k a1 a2 a3 a4 a5 a6 a7 a8 a9 a10 a11 a12 a13 (nI n)) Q) : ∀ (N i : Nat) (a1 : A1) (a2 : A2) (a3 : A3) (a4 : A4) (a5 : A5) (a6 : A6) (a7 : A7) (a8 : A8) (a9 : A9) (a10 : A10) (a11 : A11) (a12 : A12) (a13 : A13), i ≤ n → Inv i a1 a2 a3 a4 a5 a6 a7 a8 a9 a10 a11 a12 a13 → n - i < N → ok (itr F z N a1 a2 a3 a4 a5 a6 a7 a8 a9 a10 a11 a12 a13 (nI i)) Q := by
  intro N
  induction N with
  | zero => intro i a1 a2 a3 a4 a5 a6 a7 a8 a9 a10 a11 a12 a13 _ _ h; omega
  | succ N ih =>
    intro i a1 a2 a3 a4 a5 a6 a7 a8 a9 a10 a11 a12 a13 hi hv hm
    rcases Nat.lt_or_ge i n with hlt | hge
    · exact hs _ a1 a2 a3 a4 a5 a6 a7 a8 a9 a10 a11 a12 a13 i hlt hv (fun b1 b2 b3 b4 b5 b6 b7 b8 b9 b10 b11 b12 b13 hv2 => ih (i + 1) b1 b2 b3 b4 b5 b6 b7 b8 b9 b10 b11 b12 b13 (by omega) hv2 (by omega))
    · have e : i = n := by omega
      subst e
      exact he _ a1 a2 a3 a4 a5 a6 a7 a8 a9 a10 a11 a12 a13 hv
theorem ok_for14 {ρ A1 A2 A3 A4 A5 A6 A7 A8 A9 A10 A11 A12 A13 A14 : Type} {F : (A1 → A2 → A3 → A4 → A5 → A6 → A7 → A8 → A9 → A10 → A11 → A12 → A13 → A14 → Int32 → Option ρ) → (A1 → A2 → A3 → A4 → A5 → A6 → A7 → A8 → A9 → A10 → A11 → A12 → A13 → A14 → Int32 → Option ρ)} {z : A1 → A2 → A3 → A4 → A5 → A6 → A7 → A8 → A9 → A10 → A11 → A12 → A13 → A14 → Int32 → Option ρ} {Q : ρ → Prop} (n : Nat) (Inv : Nat → A1 → A2 → A3 → A4 → A5 → A6 → A7 → A8 → A9 → A10 → A11 → A12 → A13 → A14 → Prop) (hs : ∀ (k : A1 → A2 → A3 → A4 → A5 → A6 → A7 → A8 → A9 → A10 → A11 → A12 → A13 → A14 → Int32 → Option ρ) (a1 : A1) (a2 : A2) (a3 : A3) (a4 : A4) (a5 : A5) (a6 : A6) (a7 : A7) (a8 : A8) (a9 : A9) (a10 : A10) (a11 : A11) (a12 : A12) (a13 : A13) (a14 : A14) (i : Nat), i < n → Inv i a1 a2 a3 a4 a5 a6 a7 a8 a9 a10 a11 a12 a13 a14 → (∀ (b1 : A1) (b2 : A2) (b3 : A3) (b4 : A4) (b5 : A5) (b6 : A6) (b7 : A7) (b8 : A8) (b9 : A9) (b10 : A10) (b11 : A11) (b12 : A12) (b13 : A13) (b14 : A14), Inv (i + 1) b1 b2 b3 b4 b5 b6 b7 b8 b9 b10 b11 b12 b13 b14 → ok (k b1 b2 b3 b4 b5 b6 b7 b8 b9 b10 b11 b12 b13 b14 (nI (i + 1))) Q) → ok (F k a1 a2 a3 a4 a5 a6 a7 a8 a9 a10 a11 a12 a13 a14 (nI i)) Q) (he : ∀ (k : A1 → A2 → A3 → A4 → A5 → A6 → A7 → A8 → A9 → A10 → A11 → A12 → A13 → A14 → Int32 → Option ρ) (a1 : A1) (a2 : A2) (a3 : A3) (a4 : A4) (a5 : A5) (a6 : A6) (a7 : A7) (a8 : A8) (a9 : A9) (a10 : A10) (a11 : A11) (a12 : A12) (a13 : A13) (a14 : A14), Inv n a1 a2 a3 a4 a5 a6 a7 a8 a9 a10 a11 a12 a13 a14 → ok (F k a1 a2 a3 a4 a5 a6 a7 a8 a9 a10 a11 a12 a13 a14 (nI n)) Q) : ∀ (N i : Nat) (a1 : A1) (a2 : A2) (a3 : A3) (a4 : A4) (a5 : A5) (a6 : A6) (a7 : A7) (a8 : A8) (a9 : A9) (a10 : A10) (a11 : A11) (a12 : A12) (a13 : A13) (a14 : A14), i ≤ n → Inv i a1 a2 a3 a4 a5 a6 a7 a8 a9 a10 a11 a12 a13 a14 → n - i < N → ok (itr F z N a1 a2 a3 a4 a5 a6 a7 a8 a9 a10 a11 a12 a13 a14 (nI i)) Q := by
  intro N
  induction N with
  | zero => intro i a1 a2 a3 a4 a5 a6 a7 a8 a9 a10 a11 a12 a13 a14 _ _ h; omega
  | succ N ih =>
    intro i a1 a2 a3 a4 a5 a6 a7 a8 a9 a10 a11 a12 a13 a14 hi hv hm
    rcases Nat.lt_or_ge i n with hlt | hge
    · exact hs _ a1 a2 a3 a4 a5 a6 a7 a8 a9 a10 a11 a12 a13 a14 i hlt hv (fun b1 b2 b3 b4 b5 b6 b7 b8 b9 b10 b11 b12 b13 b14 hv2 => ih (i + 1) b1 b2 b3 b4 b5 b6 b7 b8 b9 b10 b11 b12 b13 b14 (by omega) hv2 (by omega))
    · have e : i = n := by omega
      subst e
      exact he _ a1 a2 a3 a4 a5 a6 a7 a8 a9 a10 a11 a12 a13 a14 hv
theorem ok_for15 {ρ A1 A2 A3 A4 A5 A6 A7 A8 A9 A10 A11 A12 A13 A14 A15 : Type} {F : (A1 → A2 → A3 → A4 → A5 → A6 → A7 → A8 → A9 → A10 → A11 → A12 → A13 → A14 → A15 → Int32 → Option ρ) → (A1 → A2 → A3 → A4 → A5 → A6 → A7 → A8 → A9 → A10 → A11 → A12 → A13 → A14 → A15 → Int32 → Option ρ)} {z : A1 → A2 → A3 → A4 → A5 → A6 → A7 → A8 → A9 → A10 → A11 → A12 → A13 → A14 → A15 → Int32 → Option ρ} {Q : ρ → Prop} (n : Nat) (Inv : Nat → A1 → A2 → A3 → A4 → A5 → A6 → A7 → A8 → A9 → A10 → A11 → A12 → A13 → A14 → A15 → Prop) (hs : ∀ (k : A1 → A2 → A3 → A4 → A5 → A6 → A7 → A8 → A9 → A10 → A11 → A12 → A13 → A14 → A15 → Int32 → Option ρ) (a1 : A1) (a2 : A2) (a3 : A3) (a4 : A4) (a5 : A5) (a6 : A6) (a7 : A7) (a8 : A8) (a9 : A9) (a10 : A10) (a11 : A11) (a12 : A12) (a13 : A13) (a14 : A14) (a15 : A15) (i : Nat), i < n → Inv i a1 a2 a3 a4 a5 a6 a7 a8 a9 a10 a11 a12 a13 a14 a15 → (∀ (b1 : A1) (b2 : A2) (b3 : A3) (b4 : A4) (b5 : A5) (b6 : A6) (b7 : A7) (b8 : A8) (b9 : A9) (b10 : A10) (b11 : A11) (b12 : A12) (b13 : A13) (b14 : A14) (b15 : A15), Inv (i + 1) b1 b2 b3 b4 b5 b6 b7 b8 b9 b10 b11 b12 b13 b14 b15 → ok (k b1 b2 b3 b4 b5 b6 b7 b8 b9 b10 b11 b12 b13 b14 b15 (nI (i + 1))) Q) → ok (F k a1 a2 a3 a4 a5 a6 a7 a8 a9 a10 a11 a12 a13 a14 a15 (nI i)) Q) (he : ∀ (k : A1 → A2 → A3 → A4 → A5 → A6 → A7 → A8 → A9 → A10 → A11 → A12 → A13 → A14 → A15 → Int32 → Option ρ) (a1 : A1) (a2 : A2) (a3 : A3) (a4 : A4) (a5 : A5) (a6 : A6) (a7 : A7) (a8 : A8) (a9 : A9) (a10 : A10) (a11 : A11) (a12 : A12) (a13 : A13) (a14 : A14) (a15 : A15), Inv n a1 a2 a3 a4 a5 a6 a7 a8 a9 a10 a11 a12 a13 a14 a15 → ok (F k a1 a2 a3 a4 a5 a6 a7 a8 a9 a10 a11 a12 a13 a14 a15 (nI n)) Q) : ∀ (N i : Nat) (a1 : A1) (a2 : A2) (a3 : A3) (a4 : A4) (a5 : A5) (a6 : A6) (a7 : A7) (a8 : A8) (a9 : A9) (a10 : A10) (a11 : A11) (a12 : A12) (a13 : A13) (a14 : A14) (a15 : A15), i ≤ n → Inv i a1 a2 a3 a4 a5 a6 a7 a8 a9 a10 a11 a12 a13 a14 a15 → n - i < N → ok (itr F z N a1 a2 a3 a4 a5 a6 a7 a8 a9 a10 a11 a12 a13 a14 a15 (nI i)) Q := by
  intro N
  induction N with
  | zero => intro i a1 a2 a3 a4 a5 a6 a7 a8 a9 a10 a11 a12 a13 a14 a15 _ _ h; omega
  | succ N ih =>
    intro i a1 a2 a3 a4 a5 a6 a7 a8 a9 a10 a11 a12 a13 a14 a15 hi hv hm
    rcases Nat.lt_or_ge i n with hlt | hge
    · exact hs _ a1 a2 a3 a4 a5 a6 a7 a8 a9 a10 a11 a12 a13 a14 a15 i hlt hv (fun b1 b2 b3 b4 b5 b6 b7 b8 b9 b10 b11 b12 b13 b14 b15 hv2 => ih (i + 1) b1 b2 b3 b4 b5 b6 b7 b8 b9 b10 b11 b12 b13 b14 b15 (by omega) hv2 (by omega))
    · have e : i = n := by omega
      subst e
      exact he _ a1 a2 a3 a4 a5 a6 a7 a8 a9 a10 a11 a12 a13 a14 a15 hv
theorem ok_for16 {ρ A1 A2 A3 A4 A5 A6 A7 A8 A9 A10 A11 A12 A13 A14 A15 A16 : Type} {F : (A1 → A2 → A3 → A4 → A5 → A6 → A7 → A8 → A9 → A10 → A11 → A12 → A13 → A14 → A15 → A16 → Int32 → Option ρ) → (A1 → A2 → A3 → A4 → A5 → A6 → A7 → A8 → A9 → A10 → A11 → A12 → A13 → A14 → A15 → A16 → Int32 → Option ρ)} {z : A1 → A2 → A3 → A4 → A5 → A6 → A7 → A8 → A9 → A10 → A11 → A12 → A13 → A14 → A15 → A16 → Int32 → Option ρ} {Q : ρ → Prop} (n : Nat) (Inv : Nat → A1 → A2 → A3 → A4 → A5 → A6 → A7 → A8 → A9 → A10 → A11 → A12 → A13 → A14 → A15 → A16 → Prop) (hs : ∀ (k : A1 → A2 → A3 → A4 → A5 → A6 → A7 → A8 → A9 → A10 → A11 → A12 → A13 → A14 → A15 → A16 → Int32 → Option ρ) (a1 : A1) (a2 : A2) (a3 : A3) (a4 : A4) (a5 : A5) (a6 : A6) (a7 : A7) (a8 : A8) (a9 : A9) (a10 : A10) (a11 : A11) (a12 : A12) (a13 : A13) (a14 : A14) (a15 : A15) (a16 : A16) (i : Nat), i < n → Inv i a1 a2 a3 a4 a5 a6 a7 a8 a9 a10 a11 a12 a13 a14 a15 a16 → (∀ (b1 : A1) (b2 : A2) (b3 : A3) (b4 : A4) (b5 : A5) (b6 : A6) (b7 : A7) (b8 : A8) (b9 : A9) (b10 : A10) (b11 : A11) (b12 : A12) (b13 : A13) (b14 : A14) (b15 : A15) (b16 : A16), Inv (i + 1) b1 b2 b3 b4 b5 b6 b7 b8 b9 b10 b11 b12 b13 b14 b15 b16 → ok (k b1 b2 b3 b4 b5 b6 b7 b8 b9 b10 b11 b12 b13 b14 b15 b16 (nI (i + 1))) Q) → ok (F k a1 a2 a3 a4 a5 a6 a7 a8 a9 a10 a11 a12 a13 a14 a15 a16 (nI i)) Q) (he : ∀ (k : A1 → A2 → A3 → A4 → A5 → A6 → A7 → A8 → A9 → A10 → A11 → A12 → A13 → A14 → A15 → A16 → Int32 → Option ρ) (a1 : A1) (a2 : A2) (a3 : A3) (a4 : A4) (a5 : A5) (a6 : A6) (a7 : A7) (a8 : A8) (a9 : A9) (a10 : A10) (a11 : A11) (a12 : A12) (a13 : A13) (a14 : A14) (a15 : A15) (a16 : A16), Inv n a1 a2 a3 a4 a5 a6 a7 a8 a9 a10 a11 a12 a13 a14 a15 a16 → ok (F k a1 a2 a3 a4 a5 a6 a7 a8 a9 a10 a11 a12 a13 a14 a15 a16 (nI n)) Q) : ∀ (N i : Nat) (a1 : A1) (a2 : A2) (a3 : A3) (a4 : A4) (a5 : A5) (a6 : A6) (a7 : A7) (a8 : A8) (a9 : A9) (a10 : A10) (a11 : A11) (a12 : A12) (a13 : A13) (a14 : A14) (a15 : A15) (a16 : A16), i ≤ n → Inv i a1 a2 a3 a4 a5 a6 a7 a8 a9 a10 a11 a12 a13 a14 a15 a16 → n - i < N → ok (itr F z N a1 a2 a3 a4 a5 a6 a7 a8 a9 a10 a11 a12 a13 a14 a15 a16 (nI i)) Q := by
  intro N
  induction N with
  | zero => intro i a1 a2 a3 a4 a5 a6 a7 a8 a9 a10 a11 a12 a13 a14 a15 a16 _ _ h; omega
  | succ N ih =>
    intro i a1 a2 a3 a4 a5 a6 a7 a8 a9 a10 a11 a12 a13 a14 a15 a16 hi hv hm
    rcases Nat.lt_or_ge i n with hlt | hge
    · exact hs _ a1 a2 a3 a4 a5 a6 a7 a8 a9 a10 a11 a12 a13 a14 a15 a16 i hlt hv (fun b1 b2 b3 b4 b5 b6 b7 b8 b9 b10 b11 b12 b13 b14 b15 b16 hv2 => ih (i + 1) b1 b2 b3 b4 b5 b6 b7 b8 b9 b10 b11 b12 b13 b14 b15 b16 (by omega) hv2 (by omega))
    · have e : i = n := by omega
      subst e
      exact he _ a1 a2 a3 a4 a5 a6 a7 a8 a9 a10 a11 a12 a13 a14 a15 a16 hv
theorem for_eq0 {ρ : Type} {F : (Int32 → Option ρ) → (Int32 → Option ρ)} {z : Int32 → Option ρ} (n : Nat)  (r : ρ) (hs : ∀ (k : Int32 → Option ρ) (i : Nat), i < n → F k  (nI i) = k  (nI (i + 1))) (he : ∀ (k : Int32 → Option ρ), F k  (nI n) = some r) {N : Nat} (hN : n < N) : itr F z N  (nI 0) = some r := by
  have h : ∀ (N i : Nat), i ≤ n → n - i < N → itr F z N  (nI i) = some r := by
    intro N
    induction N with
    | zero => intro i _ h; omega
    | succ N ih =>
      intro i hi hm
      rcases Nat.lt_or_ge i n with hlt | hge
      · exact (hs _ i hlt).trans (ih (i + 1) (by omega) (by omega))
      · have e : i = n := by omega
        subst e
        exact he _
  exact h N 0 (Nat.zero_le _) (by omega)
theorem for_eq1 {ρ A1 : Type} {F : (A1 → Int32 → Option ρ) → (A1 → Int32 → Option ρ)} {z : A1 → Int32 → Option ρ} (n : Nat) (a1 : Nat → A1) (r : ρ) (hs : ∀ (k : A1 → Int32 → Option ρ) (i : Nat), i < n → F k (a1 i) (nI i) = k (a1 (i + 1)) (nI (i + 1))) (he : ∀ (k : A1 → Int32 → Option ρ), F k (a1 n) (nI n) = some r) {N : Nat} (hN : n < N) : itr F z N (a1 0) (nI 0) = some r := by
  have h : ∀ (N i : Nat), i ≤ n → n - i < N → itr F z N (a1 i) (nI i) = some r := by
    intro N
    induction N with
    | zero => intro i _ h; omega
    | succ N ih =>
      intro i hi hm
      rcases Nat.lt_or_ge i n with hlt | hge
      · exact (hs _ i hlt).trans (ih (i + 1) (by omega) (by omega))
      · have e : i = n := by omega
        subst e
        exact he _
  exact h N 0 (Nat.zero_le _) (by omega)
theorem for_eq2 {ρ A1 A2 : Type} {F : (A1 → A2 → Int32 → Option ρ) → (A1 → A2 → Int32 → Option ρ)} {z : A1 → A2 → Int32 → Option ρ} (n : Nat) (a1 : Nat → A1) (a2 : Nat → A2) (r : ρ) (hs : ∀ (k : A1 → A2 → Int32 → Option ρ) (i : Nat), i < n → F k (a1 i) (a2 i) (nI i) = k (a1 (i + 1)) (a2 (i + 1)) (nI (i + 1))) (he : ∀ (k : A1 → A2 → Int32 → Option ρ), F k (a1 n) (a2 n) (nI n) = some r) {N : Nat} (hN : n < N) : itr F z N (a1 0) (a2 0) (nI 0) = some r := by
  have h : ∀ (N i : Nat), i ≤ n → n - i < N → itr F z N (a1 i) (a2 i) (nI i) = some r := by
    intro N
    induction N with
    | zero => intro i _ h; omega
    | succ N ih =>
      intro i hi hm
      rcases Nat.lt_or_ge i n with hlt | hge
      · exact (hs _ i hlt).trans (ih (i + 1) (by omega) (by omega))
      · have e : i = n := by omega
        subst e
        exact he _
  exact h N 0 (Nat.zero_le _) (by omega)
theorem for_eq3 {ρ A1 A2 A3 : Type} {F : (A1 → A2 → A3 → Int32 → Option ρ) → (A1 → A2 → A3 → Int32 → Option ρ)} {z : A1 → A2 → A3 → Int32 → Option ρ} (n : Nat) (a1 : Nat → A1) (a2 : Nat → A2) (a3 : Nat → A3) (r : ρ) (hs : ∀ (k : A1 → A2 → A3 → Int32 → Option ρ) (i : Nat), i < n → F k (a1 i) (a2 i) (a3 i) (nI i) = k (a1 (i + 1)) (a2 (i + 1)) (a3 (i + 1)) (nI (i + 1))) (he : ∀ (k : A1 → A2 → A3 → Int32 → Option ρ), F k (a1 n) (a2 n) (a3 n) (nI n) = some r) {N : Nat} (hN : n < N) : itr F z N (a1 0) (a2 0) (a3 0) (nI 0) = some r := by
  have h : ∀ (N i : Nat), i ≤ n → n - i < N → itr F z N (a1 i) (a2 i) (a3 i) (nI i) = some r := by
    intro N
    induction N with
    | zero => intro i _ h; omega
    | succ N ih =>
      intro i hi hm
      rcases Nat.lt_or_ge i n with hlt | hge
      · exact (hs _ i hlt).trans (ih (i + 1) (by omega) (by omega))
      · have e : i = n := by omega
        subst e
        exact he _
  exact h N 0 (Nat.zero_le _) (by omega)
theorem for_eq4 {ρ A1 A2 A3 A4 : Type} {F : (A1 → A2 → A3 → A4 → Int32 → Option ρ) → (A1 → A2 → A3 → A4 → Int32 → Option ρ)} {z : A1 → A2 → A3 → A4 → Int32 → Option ρ} (n : Nat) (a1 : Nat → A1) (a2 : Nat → A2) (a3 : Nat → A3) (a4 : Nat → A4) (r : ρ) (hs : ∀ (k : A1 → A2 → A3 → A4 → Int32 → Option ρ) (i : Nat), i < n → F k (a1 i) (a2 i) (a3 i) (a4 i) (nI i) = k (a1 (i + 1)) (a2 (i + 1)) (a3 (i + 1)) (a4 (i + 1)) (nI (i + 1))) (he : ∀ (k : A1 → A2 → A3 → A4 → Int32 → Option ρ), F k (a1 n) (a2 n) (a3 n) (a4 n) (nI n) = some r) {N : Nat} (hN : n < N) : itr F z N (a1 0) (a2 0) (a3 0) (a4 0) (nI 0) = some r := by
  have h : ∀ (N i : Nat), i ≤ n → n - i < N → itr F z N (a1 i) (a2 i) (a3 i) (a4 i) (nI i) = some r := by
    intro N
    induction N with
    | zero => intro i _ h; omega
    | succ N ih =>
      intro i hi hm
      rcases Nat.lt_or_ge i n with hlt | hge
      · exact (hs _ i hlt).trans (ih (i + 1) (by omega) (by omega))
      · have e : i = n := by omega
        subst e
        exact he _
  exact h N 0 (Nat.zero_le _) (by omega)
theorem for_eq5 {ρ A1 A2 A3 A4 A5 : Type} {F : (A1 → A2 → A3 → A4 → A5 → Int32 → Option ρ) → (A1 → A2 → A3 → A4 → A5 → Int32 → Option ρ)} {z : A1 → A2 → A3 → A4 → A5 → Int32 → Option ρ} (n : Nat) (a1 : Nat → A1) (a2 : Nat → A2) (a3 : Nat → A3) (a4 : Nat → A4) (a5 : Nat → A5) (r : ρ) (hs : ∀ (k : A1 → A2 → A3 → A4 → A5 → Int32 → Option ρ) (i : Nat), i < n → F k (a1 i) (a2 i) (a3 i) (a4 i) (a5 i) (nI i) = k (a1 (i + 1)) (a2 (i + 1)) (a3 (i + 1)) (a4 (i + 1)) (a5 (i + 1)) (nI (i + 1))) (he : ∀ (k : A1 → A2 → A3 → A4 → A5 → Int32 → Option ρ), F k (a1 n) (a2 n) (a3 n) (a4 n) (a5 n) (nI n) = some r) {N : Nat} (hN : n < N) : itr F z N (a1 0) (a2 0) (a3 0) (a4 0) (a5 0) (nI 0) = some r := by
  have h : ∀ (N i : Nat), i ≤ n → n - i < N → itr F z N (a1 i) (a2 i) (a3 i) (a4 i) (a5 i) (nI i) = some r := by
    intro N
    induction N with
    | zero => intro i _ h; omega
    | succ N ih =>
      intro i hi hm
      rcases Nat.lt_or_ge i n with hlt | hge
      · exact (hs _ i hlt).trans (ih (i + 1) (by omega) (by omega))
      · have e : i = n := by omega
        subst e
        exact he _
  exact h N 0 (Nat.zero_le _) (by omega)
theorem for_eq6 {ρ A1 A2 A3 A4 A5 A6 : Type} {F : (A1 → A2 → A3 → A4 → A5 → A6 → Int32 → Option ρ) → (A1 → A2 → A3 → A4 → A5 → A6 → Int32 → Option ρ)} {z : A1 → A2 → A3 → A4 → A5 → A6 → Int32 → Option ρ} (n : Nat) (a1 : Nat → A1) (a2 : Nat → A2) (a3 : Nat → A3) (a4 : Nat → A4) (a5 : Nat → A5) (a6 : Nat → A6) (r : ρ) (hs : ∀ (k : A1 → A2 → A3 → A4 → A5 → A6 → Int32 → Option ρ) (i : Nat), i < n → F k (a1 i) (a2 i) (a3 i) (a4 i) (a5 i) (a6 i) (nI i) = k (a1 (i + 1)) (a2 (i + 1)) (a3 (i + 1)) (a4 (i + 1)) (a5 (i + 1)) (a6 (i + 1)) (nI (i + 1))) (he : ∀ (k : A1 → A2 → A3 → A4 → A5 → A6 → Int32 → Option ρ), F k (a1 n) (a2 n) (a3 n) (a4 n) (a5 n) (a6 n) (nI n) = some r) {N : Nat} (hN : n < N) : itr F z N (a1 0) (a2 0) (a3 0) (a4 0) (a5 0) (a6 0) (nI 0) = some r := by
  have h : ∀ (N i : Nat), i ≤ n → n - i < N → itr F z N (a1 i) (a2 i) (a3 i) (a4 i) (a5 i) (a6 i) (nI i) = some r := by
    intro N
    induction N with
    | zero => intro i _ h; omega
    | succ N ih =>
      intro i hi hm
      rcases Nat.lt_or_ge i n with hlt | hge
      · exact (hs _ i hlt).trans (ih (i + 1) (by omega) (by omega))
      · have e : i = n := by omega
        subst e
        exact he _
  exact h N 0 (Nat.zero_le _) (by omega)
theorem for_eq7 {ρ A1 A2 A3 A4 A5 A6 A7 : Type} {F : (A1 → A2 → A3 → A4 → A5 → A6 → A7 → Int32 → Option ρ) → (A1 → A2 → A3 → A4 → A5 → A6 → A7 → Int32 → Option ρ)} {z : A1 → A2 → A3 → A4 → A5 → A6 → A7 → Int32 → Option ρ} (n : Nat) (a1 : Nat → A1) (a2 : Nat → A2) (a3 : Nat → A3) (a4 : Nat → A4) (a5 : Nat → A5) (a6 : Nat → A6) (a7 : Nat → A7) (r : ρ) (hs : ∀ (k : A1 → A2 → A3 → A4 → A5 → A6 → A7 → Int32 → Option ρ) (i : Nat), i < n → F k (a1 i) (a2 i) (a3 i) (a4 i) (a5 i) (a6 i) (a7 i) (nI i) = k (a1 (i + 1)) (a2 (i + 1)) (a3 (i + 1)) (a4 (i + 1)) (a5 (i + 1)) (a6 (i + 1)) (a7 (i + 1)) (nI (i + 1))) (he : ∀ (k : A1 → A2 → A3 → A4 → A5 → A6 → A7 → Int32 → Option ρ), F k (a1 n) (a2 n) (a3 n) (a4 n) (a5 n) (a6 n) (a7 n) (nI n) = some r) {N : Nat} (hN : n < N) : itr F z N (a1 0) (a2 0) (a3 0) (a4 0) (a5 0) (a6 0) (a7 0) (nI 0) = some r := by
  have h : ∀ (N i : Nat), i ≤ n → n - i < N → itr F z N (a1 i) (a2 i) (a3 i) (a4 i) (a5 i) (a6 i) (a7 i) (nI i) = some r := by
    intro N
    induction N with
    | zero => intro i _ h; omega
    | succ N ih =>
      intro i hi hm
      rcases Nat.lt_or_ge i n with hlt | hge
      · exact (hs _ i hlt).trans (ih (i + 1) (by omega) (by omega))
      · have e : i = n := by omega
        subst e
        exact he _
  exact h N 0 (Nat.zero_le _) (by omega)
theorem nlit (n : Nat) : (OfNat.ofNat n : Int32) = nI (OfNat.ofNat n) := rfl
theorem nT_le {a b : Nat} (h : a ≤ b) (hb : b < 2147483648) : (nI a ≤ nI b) = True := eq_true (nI_le h (by omega))
theorem nF_le {a b : Nat} (h : b < a) (ha : a < 2147483648) : (nI a ≤ nI b) = False := eq_false (nI_ge h (by omega))
theorem nT_lt {a b : Nat} (h : a < b) (hb : b < 2147483648) : (nI a < nI b) = True := eq_true (nI_lt h (by omega))
theorem nF_lt {a b : Nat} (h : b ≤ a) (ha : a < 2147483648) : (nI a < nI b) = False := eq_false (nI_nlt h (by omega))
theorem nF_eq {a b : Nat} (h : a ≠ b) (ha : a < 2147483648) (hb : b < 2147483648) : (nI a = nI b) = False := eq_false (fun e => h ((nI_eq (by omega) (by omega)).mp e))
theorem nT_eq {a b : Nat} (h : a = b) : (nI a = nI b) = True := by subst h; exact eq_self _
theorem n_le {a b : Nat} (ha : a < 2147483648) (hb : b < 2147483648) : (nI a ≤ nI b) = (a ≤ b) := propext (nI_leI (by omega) (by omega))
theorem n_lt {a b : Nat} (ha : a < 2147483648) (hb : b < 2147483648) : (nI a < nI b) = (a < b) := propext (nI_ltI (by omega) (by omega))
theorem n_eq {a b : Nat} (ha : a < 2147483648) (hb : b < 2147483648) : (nI a = nI b) = (a = b) := propext (nI_eq (by omega) (by omega))
theorem nC {n : Nat} (h : n < 2147483648) : (nI n).toNatClampNeg = n := nI_clamp (by omega)
theorem nB {k n : Nat} (h : k < n) (hn : n < 2147483648) : inb (nI k) n = true := inb_nI h (by omega)
theorem nsub {a b : Nat} (h : b ≤ a) : nI a - nI b = nI (a - b) := pk_sub h
theorem nM1_ne {a : Nat} (h : a < 2147483648) : (nI a = -nI 1) = False := eq_false (fun e => by
  have h1 := nI_pos (n := a) (by omega)
  rw [e] at h1
  exact h1 (by decide))
theorem nM1_lt {a : Nat} (h : a < 2147483648) : (nI a < -nI 1) = False := eq_false (fun e => by
  have h1 := nI_pos (n := a) (by omega)
  exact h1 (Int32.lt_trans e (by decide)))
theorem nM1_lt0 : (-nI 1 < nI 0) = True := by decide
theorem nM1_le {a : Nat} (h : a < 2147483648) : (-nI 1 < nI a) = True := eq_true (by
  rw [Int32.lt_iff_toInt_lt, nI_toInt (by omega)]
  have : (-nI 1).toInt = -1 := by decide
  omega)
theorem nmax {a b : Nat} (ha : a < 2147483648) (hb : b < 2147483648) : imax (nI a) (nI b) = nI (max a b) := by
  unfold imax
  by_cases h : a < b
  · rw [if_pos (nI_lt h (by omega)), Nat.max_eq_right (by omega)]
  · rw [if_neg (nI_nlt (by omega) (by omega)), Nat.max_eq_left (by omega)]
theorem nmin {a b : Nat} (ha : a < 2147483648) (hb : b < 2147483648) : imin (nI a) (nI b) = nI (min a b) := by
  unfold imin
  by_cases h : b < a
  · rw [if_pos (nI_lt h (by omega)), Nat.min_eq_right (by omega)]
  · rw [if_neg (nI_nlt (by omega) (by omega)), Nat.min_eq_left (by omega)]
theorem nmax0 {a b : Nat} (ha : a < 1073741824) (hb : b < 1073741824) : imax (nI a - nI b) (nI 0) = nI (a - b) := by
  unfold imax
  by_cases h : a < b
  · rw [if_pos (show nI a - nI b < nI 0 from pk_sneg (by omega) h), show a - b = 0 by omega]
  · rw [nsub (by omega), if_neg (nI_nlt (by omega) (by omega))]
def b2 (b : Bool) : Nat := bif b then 1 else 0
theorem b2_lt (b : Bool) : b2 b < 2 := by cases b <;> decide
theorem b2_0 (b : Bool) : (nI (b2 b) = nI 0) = (b = false) := by cases b <;> decide
theorem b2_1 (b : Bool) : (nI (b2 b) = nI 1) = (b = true) := by cases b <;> decide
theorem b2_nar (b : Bool) : vp_nar .boolean (nI (b2 b)) = nI (b2 b) := by cases b <;> rfl
theorem b2_t : b2 true = 1 := rfl
theorem b2_f : b2 false = 0 := rfl
theorem nar_0 : vp_nar .boolean (nI 0) = nI 0 := rfl
theorem nar_1 : vp_nar .boolean (nI 1) = nI 1 := rfl
theorem up_s {α : Type} {f : Nat → α} {k : Nat} {x : α} : (fun j => if j = k then x else f j) k = x := if_pos rfl
theorem ob_some {α β : Type} (a : α) (f : α → Option β) : Option.bind (some a) f = f a := rfl
/-! sets of numbers below n -/
def bs (p : Nat → Bool) : Nat → Nat
  | 0 => 0
  | n + 1 => bs p n ||| (bif p n then 2 ^ n else 0)
theorem bs_bit {p : Nat → Bool} {n k : Nat} : (bs p n).testBit k = (decide (k < n) && p k) := by
  induction n with
  | zero => simp [bs]
  | succ n ih =>
    rw [bs, Nat.testBit_or, ih]
    by_cases h : k = n
    · subst h
      cases p k <;> simp [Nat.testBit_two_pow_self]
    · have e : (bif p n then 2 ^ n else 0).testBit k = false := by
        cases p n
        · simp
        · simp only [cond_true]; rw [Nat.testBit_two_pow]; simpa using fun q => h q.symm
      rw [e, Bool.or_false]
      congr 1
      exact decide_eq_decide.mpr (by omega)
theorem bs_lt {p : Nat → Bool} {n : Nat} : bs p n < 2 ^ n := by
  induction n with
  | zero => exact (show (0 : Nat) < 1 by decide)
  | succ n ih =>
    refine Nat.or_lt_two_pow (Nat.lt_of_lt_of_le ih (Nat.pow_le_pow_right (by decide) (by omega))) ?_
    cases p n
    · exact Nat.two_pow_pos _
    · exact Nat.pow_lt_pow_right (by decide) (by omega)
theorem bs_le {p : Nat → Bool} {n : Nat} (h : n ≤ 5) : bs p n < 32 := Nat.lt_of_lt_of_le bs_lt (Nat.pow_le_pow_right (by decide) h)
theorem bs_ext {p q : Nat → Bool} {n : Nat} (h : ∀ k, k < n → p k = q k) : bs p n = bs q n := by
  apply Nat.eq_of_testBit_eq
  intro k
  rw [bs_bit, bs_bit]
  by_cases hk : k < n
  · rw [h k hk]
  · simp [hk]
theorem bs_and {p q : Nat → Bool} {n : Nat} : bs p n &&& bs q n = bs (fun k => p k && q k) n := by
  apply Nat.eq_of_testBit_eq
  intro k
  rw [Nat.testBit_and, bs_bit, bs_bit, bs_bit]
  cases decide (k < n) <;> simp
theorem bs_or {p q : Nat → Bool} {n : Nat} : bs p n ||| bs q n = bs (fun k => p k || q k) n := by
  apply Nat.eq_of_testBit_eq
  intro k
  rw [Nat.testBit_or, bs_bit, bs_bit, bs_bit]
  cases decide (k < n) <;> simp
theorem bs_self {m n : Nat} (h : m < 2 ^ n) : bs (fun k => m.testBit k) n = m := by
  apply Nat.eq_of_testBit_eq
  intro k
  rw [bs_bit]
  by_cases hk : k < n
  · simp [hk]
  · simp [hk, Nat.testBit_lt_two_pow (Nat.lt_of_lt_of_le h (Nat.pow_le_pow_right (by decide) (Nat.le_of_not_lt hk)))]
theorem bs_0 {p : Nat → Bool} {n : Nat} : (bs p n = 0) ↔ ∀ k, k < n → p k = false := by
  constructor
  · intro h k hk
    have := bs_bit (p := p) (n := n) (k := k)
    rw [h] at this
    simpa [hk] using this.symm
  · intro h
    apply Nat.eq_of_testBit_eq
    intro k
    rw [bs_bit]
    by_cases hk : k < n
    · simp [h k hk]
    · simp [hk]
theorem q_bit : ∀ n, n < 64 → ∀ k, k < 6 → (nI n >>> (nI k &&& nI 31)) &&& nI 1 = nI (b2 (n.testBit k)) := by decide +kernel
theorem q_bit1 : ∀ n, n < 1024 → ∀ k, k < 10 → (nI n >>> (nI k &&& nI 31)) &&& nI 1 = nI (b2 (n.testBit k)) := by decide +kernel
theorem q_one : ∀ k, k < 10 → nI 1 <<< (nI k &&& nI 31) = nI (2 ^ k) := by decide +kernel
theorem q_or : ∀ a, a < 64 → ∀ b, b < 64 → nI a ||| nI b = nI (a ||| b) := by decide +kernel
theorem q_and : ∀ a, a < 64 → ∀ b, b < 64 → nI a &&& nI b = nI (a &&& b) := by decide +kernel
theorem q_st : ∀ g, g < 6 → ∀ a, a < 32 → ∀ b, b < 32 → ((nI 1 <<< (nI g &&& nI 31)) - nI 1) &&& (nI a ^^^ (-nI 1)) &&& (nI b ^^^ (-nI 1)) = nI (bs (fun w => !a.testBit w && !b.testBit w) g) := by decide +kernel
theorem q_pow {k : Nat} (h : k < 6) : 2 ^ k < 64 := Nat.pow_lt_pow_right (by decide) h
theorem q_step {p : Nat → Bool} {n : Nat} (h : n < 5) : nI (bs p n) ||| nI (bif p n then 2 ^ n else 0) = nI (bs p (n + 1)) := by
  have h1 := bs_le (p := p) (n := n) (by omega)
  refine q_or _ (by omega) _ ?_
  cases p n
  · exact (show (0 : Nat) < 64 by decide)
  · exact q_pow (by omega)
