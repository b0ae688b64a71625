/-! layouts: a cell is an array (type's number, length) or an object (class's number, its fields: 0 int, 1 long, 2 the cell of that number, else: anything) -/
abbrev Shp : Type := (Nat × Nat) ⊕ (Nat × List (Nat × Nat))
abbrev MI : Type := Nat → Nat → Int32
abbrev MJ : Type := Nat → Nat → Int64
abbrev MP : Type := Nat → Nat → Option Nat
abbrev MV : Type := Nat → Nat → Value
def dF (ad : Nat → Nat) (V : MV) (I : MI) (J : MJ) (q k : Nat) : Nat × Nat → Value
  | (0, _) => .int (I q k)
  | (1, _) => .long (J q k)
  | (2, t) => .ref (ad t)
  | (_, _) => V q k
def dFs (ad : Nat → Nat) (V : MV) (I : MI) (J : MJ) (q : Nat) : Nat → List (Nat × Nat) → List Value
  | _, [] => []
  | k, x :: r => dF ad V I J q k x :: dFs ad V I J q (k + 1) r
def dA (P : MP) (A : MI) (B : MJ) (q t : Nat) : (Nat → Int32) ⊕ (Nat → Int64) ⊕ (Nat → UInt32) ⊕ (Nat → UInt64) ⊕ (Nat → Option Nat) :=
  bif Nat.beq t 2 then .inr (.inl (B q)) else bif Nat.ble t 3 then .inl (A q) else .inr (.inr (.inr (.inr (P q))))
def dE (cy : Nat → ClassId) (ad : Nat → Nat) (P : MP) (V : MV) (I : MI) (J : MJ) (A : MI) (B : MJ) (q : Nat) : Shp → va_E
  | .inl x => .inl (cy x.1, x.2, dA P A B q x.1)
  | .inr x => .inr (x.1, dFs ad V I J q 0 x.2)
def den (cy : Nat → ClassId) (ad : Nat → Nat) (P : MP) (V : MV) (I : MI) (J : MJ) (A : MI) (B : MJ) : Nat → List Shp → va_W
  | _, [] => []
  | q, x :: r => (ad q, dE cy ad P V I J A B q x) :: den cy ad P V I J A B (q + 1) r
def dn (cy : Nat → ClassId) (lay : List Shp) (ad : Nat → Nat) (P : MP) (V : MV) (I : MI) (J : MJ) (A : MI) (B : MJ) : va_W := den cy ad P V I J A B 0 lay
section DN
variable {cy : Nat → ClassId} {ad : Nat → Nat} {P : MP} {V : MV} {I I' : MI} {J J' : MJ} {A A' : MI} {B B' : MJ}
theorem den_get {lay : List Shp} {q k : Nat} : (den cy ad P V I J A B q lay)[k]? = (lay[k]?).map (fun x => (ad (q + k), dE cy ad P V I J A B (q + k) x)) := by
  induction lay generalizing q k with
  | nil => simp [den]
  | cons x r ih =>
    cases k with
    | zero => simp [den]
    | succ k =>
      simp only [den, List.getElem?_cons_succ, ih]
      rw [show q + 1 + k = q + (k + 1) by omega]
theorem dn_get {lay : List Shp} {k : Nat} : (dn cy lay ad P V I J A B)[k]? = (lay[k]?).map (fun x => (ad k, dE cy ad P V I J A B k x)) := by
  unfold dn
  rw [den_get]
  simp
theorem dn_some {lay : List Shp} {k : Nat} {x : Shp} (h : lay[k]? = some x) : (dn cy lay ad P V I J A B)[k]? = some (ad k, dE cy ad P V I J A B k x) := by rw [dn_get, h]; rfl
theorem dFs_get {fs : List (Nat × Nat)} {q k0 j : Nat} : (dFs ad V I J q k0 fs)[j]? = (fs[j]?).map (fun x => dF ad V I J q (k0 + j) x) := by
  induction fs generalizing k0 j with
  | nil => simp [dFs]
  | cons x r ih =>
    cases j with
    | zero => simp [dFs]
    | succ j =>
      simp only [dFs, List.getElem?_cons_succ, ih]
      rw [show k0 + 1 + j = k0 + (j + 1) by omega]
theorem dFs_len {fs : List (Nat × Nat)} {q k0 : Nat} : (dFs ad V I J q k0 fs).length = fs.length := by
  induction fs generalizing k0 with
  | nil => rfl
  | cons x r ih => simp [dFs, ih]
theorem dFs_congr {fs : List (Nat × Nat)} {q k0 : Nat} (hI : ∀ j, I q j = I' q j) (hJ : ∀ j, J q j = J' q j) : dFs ad V I J q k0 fs = dFs ad V I' J' q k0 fs := by
  apply List.ext_getElem?
  intro j
  rw [dFs_get, dFs_get]
  cases fs[j]? with
  | none => rfl
  | some x =>
    obtain ⟨a, t⟩ := x
    simp only [Option.map_some, Option.some.injEq]
    match a with
    | 0 => simp [dF, hI]
    | 1 => simp [dF, hJ]
    | 2 => simp [dF]
    | (n + 3) => simp [dF]
theorem dn_ext {lay : List Shp} {w : va_W} (h : ∀ k, w[k]? = (lay[k]?).map (fun x => (ad k, dE cy ad P V I J A B k x))) : w = dn cy lay ad P V I J A B := List.ext_getElem? fun k => by rw [h, dn_get]
/-- an int field is written -/
theorem dn_setI {lay : List Shp} {k j c t : Nat} {fs : List (Nat × Nat)} {v : Int32} (hx : lay[k]? = some (.inr (c, fs))) (hf : fs[j]? = some (0, t)) :
    (dn cy lay ad P V I J A B).set k (ad k, .inr (c, (dFs ad V I J k 0 fs).set j (.int v))) = dn cy lay ad P V (fun a b => if a = k ∧ b = j then v else I a b) J A B := by
  apply dn_ext
  intro i
  rw [List.getElem?_set]
  by_cases hi : k = i
  · subst hi
    have hl : k < (dn cy lay ad P V I J A B).length := by
      have h1 : (dn cy lay ad P V I J A B)[k]? ≠ none := by rw [dn_some hx]; simp
      exact Classical.byContradiction fun h => h1 (List.getElem?_eq_none (Nat.le_of_not_lt h))
    rw [if_pos rfl, if_pos hl, hx]
    simp only [Option.map_some, dE, Option.some.injEq, Prod.mk.injEq, true_and, Sum.inr.injEq]
    apply List.ext_getElem?
    intro b
    rw [List.getElem?_set, dFs_get, dFs_get, dFs_len]
    by_cases hb : j = b
    · subst hb
      have hj : j < fs.length := (List.getElem?_eq_some_iff.mp hf).1
      rw [if_pos rfl, if_pos hj, hf]
      simp [dF]
    · rw [if_neg hb]
      cases fs[b]? with
      | none => rfl
      | some x =>
        obtain ⟨a, t⟩ := x
        simp only [Option.map_some, Option.some.injEq]
        match a with
        | 0 => simp [dF, Ne.symm hb]
        | 1 => simp [dF]
        | 2 => simp [dF]
        | (n + 3) => simp [dF]
  · rw [if_neg hi, dn_get]
    cases lay[i]? with
    | none => rfl
    | some x =>
      cases x with
      | inl x => rfl
      | inr x =>
        simp only [Option.map_some, dE, Option.some.injEq, Prod.mk.injEq, true_and, Sum.inr.injEq]
        apply dFs_congr
        · intro b; simp [Ne.symm hi]
        · intro b; rfl
/-- a long field is written -/
theorem dn_setJ {lay : List Shp} {k j c t : Nat} {fs : List (Nat × Nat)} {v : Int64} (hx : lay[k]? = some (.inr (c, fs))) (hf : fs[j]? = some (1, t)) :
    (dn cy lay ad P V I J A B).set k (ad k, .inr (c, (dFs ad V I J k 0 fs).set j (.long v))) = dn cy lay ad P V I (fun a b => if a = k ∧ b = j then v else J a b) A B := by
  apply dn_ext
  intro i
  rw [List.getElem?_set]
  by_cases hi : k = i
  · subst hi
    have hl : k < (dn cy lay ad P V I J A B).length := by
      have h1 : (dn cy lay ad P V I J A B)[k]? ≠ none := by rw [dn_some hx]; simp
      exact Classical.byContradiction fun h => h1 (List.getElem?_eq_none (Nat.le_of_not_lt h))
    rw [if_pos rfl, if_pos hl, hx]
    simp only [Option.map_some, dE, Option.some.injEq, Prod.mk.injEq, true_and, Sum.inr.injEq]
    apply List.ext_getElem?
    intro b
    rw [List.getElem?_set, dFs_get, dFs_get, dFs_len]
    by_cases hb : j = b
    · subst hb
      have hj : j < fs.length := (List.getElem?_eq_some_iff.mp hf).1
      rw [if_pos rfl, if_pos hj, hf]
      simp [dF]
    · rw [if_neg hb]
      cases fs[b]? with
      | none => rfl
      | some x =>
        obtain ⟨a, t⟩ := x
        simp only [Option.map_some, Option.some.injEq]
        match a with
        | 0 => simp [dF]
        | 1 => simp [dF, Ne.symm hb]
        | 2 => simp [dF]
        | (n + 3) => simp [dF]
  · rw [if_neg hi, dn_get]
    cases lay[i]? with
    | none => rfl
    | some x =>
      cases x with
      | inl x => rfl
      | inr x =>
        simp only [Option.map_some, dE, Option.some.injEq, Prod.mk.injEq, true_and, Sum.inr.injEq]
        apply dFs_congr
        · intro b; rfl
        · intro b; simp [Ne.symm hi]
theorem dn_setA {lay : List Shp} {k t n : Nat} {f : Nat → Int32} (hx : lay[k]? = some (.inl (t, n))) (ht : dA P A B k t = .inl (A k)) :
    (dn cy lay ad P V I J A B).set k (ad k, .inl (cy t, n, .inl f)) = dn cy lay ad P V I J (va_up A k f) B := by
  have ht2 : Nat.beq t 2 = false ∧ Nat.ble t 3 = true := by
    revert ht; unfold dA
    cases Nat.beq t 2 <;> cases Nat.ble t 3 <;> simp
  apply dn_ext
  intro i
  rw [List.getElem?_set]
  by_cases hi : k = i
  · subst hi
    have hl : k < (dn cy lay ad P V I J A B).length := by
      have h1 : (dn cy lay ad P V I J A B)[k]? ≠ none := by rw [dn_some hx]; simp
      exact Classical.byContradiction fun h => h1 (List.getElem?_eq_none (Nat.le_of_not_lt h))
    rw [if_pos rfl, if_pos hl, hx]
    simp [dE, dA, ht2.1, ht2.2, va_up]
  · rw [if_neg hi, dn_get]
    cases lay[i]? with
    | none => rfl
    | some x =>
      cases x with
      | inl x => simp [dE, dA, va_up, Ne.symm hi]
      | inr x => rfl
theorem dn_setB {lay : List Shp} {k n : Nat} {f : Nat → Int64} (hx : lay[k]? = some (.inl (2, n))) :
    (dn cy lay ad P V I J A B).set k (ad k, .inl (cy 2, n, .inr (.inl f))) = dn cy lay ad P V I J A (va_up B k f) := by
  apply dn_ext
  intro i
  rw [List.getElem?_set]
  by_cases hi : k = i
  · subst hi
    have hl : k < (dn cy lay ad P V I J A B).length := by
      have h1 : (dn cy lay ad P V I J A B)[k]? ≠ none := by rw [dn_some hx]; simp
      exact Classical.byContradiction fun h => h1 (List.getElem?_eq_none (Nat.le_of_not_lt h))
    rw [if_pos rfl, if_pos hl, hx]
    simp [dE, dA, va_up]
  · rw [if_neg hi, dn_get]
    cases lay[i]? with
    | none => rfl
    | some x =>
      cases x with
      | inl x => simp [dE, dA, va_up, Ne.symm hi]
      | inr x => rfl
end DN
