/-! cells that are found by a number: elements of arrays of objects -/
section DY
variable {p : Program} {l : Launch} {e : Env} {R : Room} {s : State} {m : MethodId} {args : Array Value} {below : List Frame} {meth : Method} {c : Code} {H : Heap} {locs : List Loc} {cells slots : Nat} {Q : State → Prop}
variable {cc : ByteArray} {nL pc : Nat} {ret : Option FieldType} {own : String} {ls : Array Slot} {rest : List Value} {D : va_G} {Af : Nat → Prop} {H0 : Heap}
variable {cy : Nat → ClassId} {lay : List Shp} {ad : Nat → Nat} {P : MP} {V : MV} {I : MI} {J : MJ} {A : MI} {B : MJ}
theorem s_aald (C0 : CX p s m args meth c cc nL ret own) (hK : va_K D vwCl (tyG cy) s) (hW : wd D (dn cy lay ad P V I J A B) Af H0 H locs) (q : Nat) {t n a : Nat} {C : String} (hx : lay[q]? = some (.inl (t, n))) (ht : (tyG cy)[t]? = some (cy t, .object C)) (hd : dA P A B q t = .inr (.inr (.inr (.inr (P q))))) {i : Int32} (hin : inb i n = true) (hp : P q i.toNatClampNeg = some a) (hdg : decode cc pc = .ok (.aaload, 1))
    (kk : W p l e R s m args below meth c H locs cells slots Q (F0 m (pc + 1) ls (.ref a :: rest))) : W p l e R s m args below meth c H locs cells slots Q (F0 m pc ls (.int i :: .ref (ad q) :: rest)) := by
  refine va_aldq C0.1 C0.2.1 hK hW.1 q t (cA := cy t) (n := n) (f := P q) ?_ ht (inb_in hin) hdg ?_
  · rw [dn_some hx]; simp only [dE, hd]
  · rw [hp]; exact kk
theorem inb_lt {i : Int32} {n : Nat} (h : inb i n = true) : i.toNatClampNeg < n := Nat.not_le.mp fun q => inb_in h (Or.inr q)
end DY
theorem JN_same {cy : Nat → ClassId} {ad : Nat → Nat} {P : MP} {V : MV} {I I2 : MI} {J J2 : MJ} {A A2 : MI} {B B2 : MJ} {lay : List Shp} :
    JN (List.range lay.length) (dn cy lay ad P V I J A B) (dn cy lay ad P V I J A B) (dn cy lay ad P V I2 J2 A2 B2) (dn cy lay ad P V I2 J2 A2 B2) := by
  have hr : ∀ (i : Nat) {α : Type} {x : α} {f : Shp → α}, (lay[i]?).map f = some x → (List.range lay.length)[i]? = some i := by
    intro i α x f h
    cases hl : lay[i]? with
    | none => rw [hl] at h; cases h
    | some y => rw [List.getElem?_range (List.getElem?_eq_some_iff.mp hl).1]
  refine ⟨fun i x hx => ⟨i, ?_, hx⟩, fun k x hx => Or.inl ⟨k, ?_, hx⟩, fun i j k hi hj => ?_, fun k => ?_⟩
  · rw [dn_get] at hx; exact hr i hx
  · rw [dn_get] at hx; exact hr k hx
  · have e1 : ∀ a : Nat, (List.range lay.length)[a]? = some k → a = k := by
      intro a h
      obtain ⟨h1, h2⟩ := List.getElem?_eq_some_iff.mp h
      simpa using h2
    rw [e1 i hi, e1 j hj]
  · rw [dn_get, dn_get]
    cases lay[k]? <;> rfl
/-! keys outside a range of cells -/
def farP {α : Type} (a b : Nat) (L : List (Nat × Nat × α)) : Bool := L.all (fun e => Nat.blt e.1 a || Nat.ble b e.1)
def farM {α : Type} (a b : Nat) (L : List (Nat × α)) : Bool := L.all (fun e => Nat.blt e.1 a || Nat.ble b e.1)
theorem gp_far {α : Type} {f : Nat → Nat → α} {a b q : Nat} {L : List (Nat × Nat × α)} (h : farP a b L = true) (h1 : a ≤ q) (h2 : q < b) (k : Nat) : gp f L q k = f q k := by
  induction L with
  | nil => rfl
  | cons e r ih =>
    obtain ⟨x, y, z⟩ := e
    simp only [farP, List.all_cons, Bool.and_eq_true, Bool.or_eq_true] at h
    have hne : ¬ q = x := by
      rcases h.1 with h3 | h3
      · have h4 : x + 1 ≤ a := by simpa [Nat.blt] using h3
        omega
      · have h4 := Nat.le_of_ble_eq_true h3
        omega
    show (bif Nat.beq q x && Nat.beq k y then z else gp f r q k) = f q k
    rw [nb_ne hne]; exact ih h.2
theorem gm_far {α : Type} {f : Nat → α} {a b q : Nat} {L : List (Nat × α)} (h : farM a b L = true) (h1 : a ≤ q) (h2 : q < b) : gm f L q = f q := by
  induction L with
  | nil => rfl
  | cons e r ih =>
    obtain ⟨x, z⟩ := e
    simp only [farM, List.all_cons, Bool.and_eq_true, Bool.or_eq_true] at h
    have hne : ¬ q = x := by
      rcases h.1 with h3 | h3
      · have h4 : x + 1 ≤ a := by simpa [Nat.blt] using h3
        omega
      · have h4 := Nat.le_of_ble_eq_true h3
        omega
    show (bif Nat.beq q x then z else gm f r q) = f q
    rw [nb_ne hne]; exact ih h.2
theorem gp_near {α : Type} {f : Nat → Nat → α} {a b q : Nat} {L : List (Nat × Nat × α)} (h : ∀ e ∈ L, a ≤ e.1 ∧ e.1 < b) (h1 : q < a ∨ b ≤ q) (k : Nat) : gp f L q k = f q k := by
  induction L with
  | nil => rfl
  | cons e r ih =>
    obtain ⟨x, y, z⟩ := e
    have h3 := h (x, y, z) List.mem_cons_self
    have hne : ¬ q = x := by simp only at h3; omega
    show (bif Nat.beq q x && Nat.beq k y then z else gp f r q k) = f q k
    rw [nb_ne hne]; exact ih (fun e he => h e (List.mem_cons_of_mem _ he))
theorem gm_near {α : Type} {f : Nat → α} {a b q : Nat} {L : List (Nat × α)} (h : ∀ e ∈ L, a ≤ e.1 ∧ e.1 < b) (h1 : q < a ∨ b ≤ q) : gm f L q = f q := by
  induction L with
  | nil => rfl
  | cons e r ih =>
    obtain ⟨x, z⟩ := e
    have h3 := h (x, z) List.mem_cons_self
    have hne : ¬ q = x := by simp only at h3; omega
    show (bif Nat.beq q x then z else gm f r q) = f q
    rw [nb_ne hne]; exact ih (fun e he => h e (List.mem_cons_of_mem _ he))
theorem gp_base {α : Type} {f g : Nat → Nat → α} {L : List (Nat × Nat × α)} {q k : Nat} (h : f q k = g q k) : gp f L q k = gp g L q k := by
  induction L with
  | nil => exact h
  | cons e r ih =>
    obtain ⟨x, y, z⟩ := e
    show (bif Nat.beq q x && Nat.beq k y then z else gp f r q k) = (bif Nat.beq q x && Nat.beq k y then z else gp g r q k)
    rw [ih]
theorem gm_base {α : Type} {f g : Nat → α} {L : List (Nat × α)} {q : Nat} (h : f q = g q) : gm f L q = gm g L q := by
  induction L with
  | nil => exact h
  | cons e r ih =>
    obtain ⟨x, z⟩ := e
    show (bif Nat.beq q x then z else gm f r q) = (bif Nat.beq q x then z else gm g r q)
    rw [ih]
theorem gp_comm {α : Type} {f : Nat → Nat → α} {a b : Nat} {L d : List (Nat × Nat × α)} (h : farP a b L = true) (hd : ∀ e ∈ d, a ≤ e.1 ∧ e.1 < b) : gp (gp f L) d = gp (gp f d) L := by
  funext q k
  by_cases hq : a ≤ q ∧ q < b
  · rw [gp_far h hq.1 hq.2, gp_base (gp_far h hq.1 hq.2 k)]
  · rw [gp_near hd (by omega), gp_base (f := f) (g := gp f d) (gp_near hd (by omega) k).symm]
theorem gm_comm {α : Type} {f : Nat → α} {a b : Nat} {L d : List (Nat × α)} (h : farM a b L = true) (hd : ∀ e ∈ d, a ≤ e.1 ∧ e.1 < b) : gm (gm f L) d = gm (gm f d) L := by
  funext q
  by_cases hq : a ≤ q ∧ q < b
  · rw [gm_far h hq.1 hq.2, gm_base (gm_far h hq.1 hq.2)]
  · rw [gm_near hd (by omega), gm_base (f := f) (g := gm f d) (gm_near hd (by omega)).symm]
