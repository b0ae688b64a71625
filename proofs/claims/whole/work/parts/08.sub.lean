/-! a callee's layout within a caller's -/
def selP {α : Type} (f : Nat → Nat → α) (ks : List (Nat × Nat)) : List (Nat × Nat × α) := ks.map (fun e => (e.1, e.2, f e.1 e.2))
def selM {α : Type} (f : Nat → α) (ks : List Nat) : List (Nat × α) := ks.map (fun e => (e, f e))
theorem gp_sel {α : Type} {f : Nat → Nat → α} {ks : List (Nat × Nat)} : gp f (selP f ks) = f := by
  funext i j
  induction ks with
  | nil => rfl
  | cons c r ih =>
    obtain ⟨a, b⟩ := c
    show (bif Nat.beq i a && Nat.beq j b then f a b else gp f (selP f r) i j) = f i j
    by_cases h : i = a ∧ j = b
    · obtain ⟨rfl, rfl⟩ := h; simp [Nat.beq_refl]
    · rw [nb_and h]; exact ih
theorem gm_sel {α : Type} {f : Nat → α} {ks : List Nat} : gm f (selM f ks) = f := by
  funext i
  induction ks with
  | nil => rfl
  | cons a r ih =>
    show (bif Nat.beq i a then f a else gm f (selM f r) i) = f i
    by_cases h : i = a
    · subst h; simp [Nat.beq_refl]
    · rw [nb_ne h]; exact ih
def renF (pl : List Nat) (x : Nat × Nat) : Nat × Nat := bif Nat.beq x.1 2 then (2, pl.getD x.2 0) else x
/-- a callee's field f is the caller's g: the same, or the callee knows nothing of a reference -/
def mtF (pl : List Nat) (f g : Nat × Nat) : Bool := (Nat.beq f.1 3 && Nat.beq g.1 2) || (Nat.beq (renF pl f).1 g.1 && Nat.beq (renF pl f).2 g.2)
def mtFs (pl : List Nat) : List (Nat × Nat) → List (Nat × Nat) → Bool
  | [], [] => true
  | f :: r, g :: q => mtF pl f g && mtFs pl r q
  | _, _ => false
def mtS (pl : List Nat) : Shp → Shp → Bool
  | .inl x, .inl y => Nat.beq x.1 y.1 && Nat.beq x.2 y.2
  | .inr x, .inr y => Nat.beq x.1 y.1 && mtFs pl x.2 y.2
  | _, _ => false
def mtO (pl : List Nat) (x : Shp) : Option Shp → Bool
  | some y => mtS pl x y
  | none => false
def subB (lay : List Shp) (pl : List Nat) : List Shp → List Nat → Bool
  | [], [] => true
  | x :: r, k :: q => mtO pl x (lay[k]?) && subB lay pl r q
  | _, _ => false
def Vf (ad : Nat → Nat) (v : Value) : Option (Nat × Nat) → Value
  | some (2, t) => .ref (ad t)
  | _ => v
def Vo (ad : Nat → Nat) (v : Value) (k : Nat) : Option Shp → Value
  | some (.inr x) => Vf ad v (x.2[k]?)
  | _ => v
/-- what a caller's field holds, where the callee knows nothing of it -/
def Vx (lay : List Shp) (ad : Nat → Nat) (V : MV) (q k : Nat) : Value := Vo ad (V q k) k (lay[q]?)
theorem mtFs_get {pl : List Nat} {a b : List (Nat × Nat)} (h : mtFs pl a b = true) : ∀ j : Nat, (a[j]? = none ∧ b[j]? = none) ∨ ∃ f g, a[j]? = some f ∧ b[j]? = some g ∧ mtF pl f g = true := by
  induction a generalizing b with
  | nil =>
    cases b with
    | nil => intro j; left; simp
    | cons g q => cases h
  | cons f r ih =>
    cases b with
    | nil => cases h
    | cons g q =>
      simp only [mtFs, Bool.and_eq_true] at h
      intro j
      cases j with
      | zero => right; exact ⟨f, g, rfl, rfl, h.1⟩
      | succ j => simpa using ih h.2 j
theorem subB_at {lay : List Shp} {pl pl' : List Nat} {lay' : List Shp} (h : subB lay pl lay' pl' = true) : pl'.length = lay'.length ∧ ∀ (i : Nat) (x : Shp), lay'[i]? = some x → ∃ k y, pl'[i]? = some k ∧ lay[k]? = some y ∧ mtS pl x y = true := by
  induction lay' generalizing pl' with
  | nil =>
    cases pl' with
    | nil => exact ⟨rfl, fun i x hx => by simp at hx⟩
    | cons k q => cases h
  | cons a r ih =>
    cases pl' with
    | nil => cases h
    | cons k q =>
      simp only [subB, Bool.and_eq_true] at h
      obtain ⟨h1, h2⟩ := ih h.2
      refine ⟨by simp [h1], fun i x hx => ?_⟩
      cases i with
      | zero =>
        simp only [List.getElem?_cons_zero, Option.some.injEq] at hx
        subst hx
        cases hl : lay[k]? with
        | none => rw [hl] at h; cases h.1
        | some y => rw [hl] at h; exact ⟨k, y, rfl, hl, h.1⟩
      | succ i => simpa using h2 i x (by simpa using hx)
def rnP {α : Type} (pl : List Nat) (c : List (Nat × Nat × α)) : List (Nat × Nat × α) := c.map (fun e => (pl.getD e.1 0, e.2.1, e.2.2))
def rnM {α : Type} (pl : List Nat) (c : List (Nat × α)) : List (Nat × α) := c.map (fun e => (pl.getD e.1 0, e.2))
def ltP {α : Type} (n : Nat) (c : List (Nat × Nat × α)) : Bool := c.all (fun e => Nat.blt e.1 n)
def ltM {α : Type} (n : Nat) (c : List (Nat × α)) : Bool := c.all (fun e => Nat.blt e.1 n)
def nd_ : List Nat → Bool
  | [] => true
  | a :: r => !(r.any (fun b => Nat.beq a b)) && nd_ r
theorem nd_inj {pl : List Nat} (h : nd_ pl = true) : ∀ (i j k : Nat), pl[i]? = some k → pl[j]? = some k → i = j := by
  induction pl with
  | nil => intro i j k h1; simp at h1
  | cons a r ih =>
    simp only [nd_, Bool.and_eq_true, Bool.not_eq_true'] at h
    have hno : ∀ i : Nat, r[i]? = some a → False := by
      intro i hi
      have : (r.any (fun b => Nat.beq a b)) = true := List.any_eq_true.mpr ⟨a, List.mem_of_getElem? hi, Nat.beq_refl a⟩
      rw [h.1] at this; cases this
    intro i j k h1 h2
    cases i with
    | zero =>
      cases j with
      | zero => rfl
      | succ j =>
        simp only [List.getElem?_cons_zero, Option.some.injEq, List.getElem?_cons_succ] at h1 h2
        subst h1; exact (hno j h2).elim
    | succ i =>
      cases j with
      | zero =>
        simp only [List.getElem?_cons_zero, Option.some.injEq, List.getElem?_cons_succ] at h1 h2
        subst h2; exact (hno i h1).elim
      | succ j =>
        simp only [List.getElem?_cons_succ] at h1 h2
        rw [ih h.2 i j k h1 h2]
theorem getD_some {pl : List Nat} {i k : Nat} (h : pl[i]? = some k) : pl.getD i 0 = k := by simp [List.getD, h]
section SUBL
variable {pl : List Nat}
theorem gp_ren {α : Type} {f : Nat → Nat → α} {c : List (Nat × Nat × α)} (hn : nd_ pl = true) (hc : ltP pl.length c = true) {i k : Nat} (hi : pl[i]? = some k) (j : Nat) :
    gp (fun q => f (pl.getD q 0)) c i j = gp f (rnP pl c) k j := by
  induction c with
  | nil => show f (pl.getD i 0) j = f k j; rw [getD_some hi]
  | cons h r ih =>
    obtain ⟨a, b, x⟩ := h
    simp only [ltP, List.all_cons, Bool.and_eq_true] at hc
    have ha : a < pl.length := by have h9 : a + 1 ≤ pl.length := (by simpa [Nat.blt] using hc.1); exact h9
    have hb : Nat.beq i a = Nat.beq k (pl.getD a 0) := by
      have h2 : pl[a]? = some (pl.getD a 0) := by simp [List.getD, ha]
      by_cases h : i = a
      · subst h
        rw [getD_some hi]; simp [Nat.beq_refl]
      · rw [nb_ne h, nb_ne]
        intro e; apply h
        exact nd_inj hn i a k hi (by rw [h2, e])
    show (bif Nat.beq i a && Nat.beq j b then x else gp (fun q => f (pl.getD q 0)) r i j) = (bif Nat.beq k (pl.getD a 0) && Nat.beq j b then x else gp f (rnP pl r) k j)
    rw [hb, ih hc.2]
theorem gm_ren {α : Type} {f : Nat → α} {c : List (Nat × α)} (hn : nd_ pl = true) (hc : ltM pl.length c = true) {i k : Nat} (hi : pl[i]? = some k) :
    gm (fun q => f (pl.getD q 0)) c i = gm f (rnM pl c) k := by
  induction c with
  | nil => show f (pl.getD i 0) = f k; rw [getD_some hi]
  | cons h r ih =>
    obtain ⟨a, x⟩ := h
    simp only [ltM, List.all_cons, Bool.and_eq_true] at hc
    have ha : a < pl.length := by have h9 : a + 1 ≤ pl.length := (by simpa [Nat.blt] using hc.1); exact h9
    have hb : Nat.beq i a = Nat.beq k (pl.getD a 0) := by
      have h2 : pl[a]? = some (pl.getD a 0) := by simp [List.getD, ha]
      by_cases h : i = a
      · subst h
        rw [getD_some hi]; simp [Nat.beq_refl]
      · rw [nb_ne h, nb_ne]
        intro e; apply h
        exact nd_inj hn i a k hi (by rw [h2, e])
    show (bif Nat.beq i a then x else gm (fun q => f (pl.getD q 0)) r i) = (bif Nat.beq k (pl.getD a 0) then x else gm f (rnM pl r) k)
    rw [hb, ih hc.2]
theorem gp_out {α : Type} {f : Nat → Nat → α} {c : List (Nat × Nat × α)} (hc : ltP pl.length c = true) {k : Nat} (hk : k ∉ pl) (j : Nat) : gp f (rnP pl c) k j = f k j := by
  induction c with
  | nil => rfl
  | cons h r ih =>
    obtain ⟨a, b, x⟩ := h
    simp only [ltP, List.all_cons, Bool.and_eq_true] at hc
    have ha : a < pl.length := by have h9 : a + 1 ≤ pl.length := (by simpa [Nat.blt] using hc.1); exact h9
    have h2 : pl[a]? = some (pl.getD a 0) := by simp [List.getD, ha]
    show (bif Nat.beq k (pl.getD a 0) && Nat.beq j b then x else gp f (rnP pl r) k j) = f k j
    rw [nb_ne (fun e => hk (by rw [e]; exact List.mem_of_getElem? h2))]
    exact ih hc.2
theorem gm_out {α : Type} {f : Nat → α} {c : List (Nat × α)} (hc : ltM pl.length c = true) {k : Nat} (hk : k ∉ pl) : gm f (rnM pl c) k = f k := by
  induction c with
  | nil => rfl
  | cons h r ih =>
    obtain ⟨a, x⟩ := h
    simp only [ltM, List.all_cons, Bool.and_eq_true] at hc
    have ha : a < pl.length := by have h9 : a + 1 ≤ pl.length := (by simpa [Nat.blt] using hc.1); exact h9
    have h2 : pl[a]? = some (pl.getD a 0) := by simp [List.getD, ha]
    show (bif Nat.beq k (pl.getD a 0) then x else gm f (rnM pl r) k) = f k
    rw [nb_ne (fun e => hk (by rw [e]; exact List.mem_of_getElem? h2))]
    exact ih hc.2
variable {cy : Nat → ClassId} {ad : Nat → Nat} {P : MP} {V : MV} {I I2 I3 : MI} {J J2 J3 : MJ} {A A2 A3 : MI} {B B2 B3 : MJ} {lay lay' : List Shp}
theorem dE_ren {i k : Nat} {y : Shp} (hi : pl[i]? = some k) (hy : lay[k]? = some y) (hI : ∀ j, I2 i j = I3 k j) (hJ : ∀ j, J2 i j = J3 k j) (hA : A2 i = A3 k) (hB : B2 i = B3 k) (x : Shp) (hm : mtS pl x y = true) :
    dE cy (fun q => ad (pl.getD q 0)) (fun q => P (pl.getD q 0)) (fun q => Vx lay ad V (pl.getD q 0)) I2 J2 A2 B2 i x = dE cy ad P V I3 J3 A3 B3 k y := by
  cases x with
  | inl x =>
    cases y with
    | inr y => cases hm
    | inl y =>
      simp only [mtS, Bool.and_eq_true] at hm
      have e : x = y := Prod.ext (Nat.eq_of_beq_eq_true hm.1) (Nat.eq_of_beq_eq_true hm.2)
      subst e
      simp only [dE, dA, hA, hB, getD_some hi]
  | inr x =>
    cases y with
    | inl y => cases hm
    | inr y =>
      simp only [mtS, Bool.and_eq_true] at hm
      simp only [dE]
      rw [Nat.eq_of_beq_eq_true hm.1]
      congr 2
      apply List.ext_getElem?
      intro j
      rw [dFs_get, dFs_get]
      rcases mtFs_get hm.2 j with ⟨h1, h2⟩ | ⟨f, g, h1, h2, h3⟩
      · rw [h1, h2]; rfl
      · rw [h1, h2]
        simp only [Option.map_some, Option.some.injEq, Nat.zero_add]
        obtain ⟨a, t⟩ := f
        obtain ⟨b, u⟩ := g
        simp only [mtF, Bool.or_eq_true, Bool.and_eq_true] at h3
        rcases h3 with ⟨g1, g2⟩ | ⟨g1, g2⟩
        · have e1 := Nat.eq_of_beq_eq_true g1
          have e2 := Nat.eq_of_beq_eq_true g2
          subst e1; subst e2
          simp [dF, Vx, hi, hy, Vo, h2, Vf]
        · have e1 := Nat.eq_of_beq_eq_true g1
          have e2 := Nat.eq_of_beq_eq_true g2
          match a with
          | 0 => simp [renF, Nat.beq] at e1 e2; subst e1; simp [dF, hI]
          | 1 => simp [renF, Nat.beq] at e1 e2; subst e1; simp [dF, hJ]
          | 2 => simp [renF, Nat.beq] at e1 e2; subst e1; simp [dF, e2]
          | (n + 3) =>
            simp [renF, Nat.beq] at e1 e2
            subst e1
            simp [dF, Vx, hi, hy, Vo, h2, Vf]
theorem JN_sub {cI : List (Nat × Nat × Int32)} {cJ : List (Nat × Nat × Int64)} {cA : List (Nat × (Nat → Int32))} {cB : List (Nat × (Nat → Int64))}
    (hs : subB lay pl lay' pl = true) (hn : nd_ pl = true) (h1 : ltP pl.length cI = true) (h2 : ltP pl.length cJ = true) (h3 : ltM pl.length cA = true) (h4 : ltM pl.length cB = true) :
    JN pl (dn cy lay ad P V I J A B) (dn cy lay' (fun q => ad (pl.getD q 0)) (fun q => P (pl.getD q 0)) (fun q => Vx lay ad V (pl.getD q 0)) (fun q => I (pl.getD q 0)) (fun q => J (pl.getD q 0)) (fun q => A (pl.getD q 0)) (fun q => B (pl.getD q 0)))
      (dn cy lay' (fun q => ad (pl.getD q 0)) (fun q => P (pl.getD q 0)) (fun q => Vx lay ad V (pl.getD q 0)) (gp (fun q => I (pl.getD q 0)) cI) (gp (fun q => J (pl.getD q 0)) cJ) (gm (fun q => A (pl.getD q 0)) cA) (gm (fun q => B (pl.getD q 0)) cB))
      (dn cy lay ad P V (gp I (rnP pl cI)) (gp J (rnP pl cJ)) (gm A (rnM pl cA)) (gm B (rnM pl cB))) := by
  obtain ⟨hlen, hat⟩ := subB_at hs
  refine ⟨fun i x hx => ?_, fun k x hx => ?_, nd_inj hn, fun k => ?_⟩
  · rw [dn_get] at hx
    cases hl : lay'[i]? with
    | none => rw [hl] at hx; cases hx
    | some y =>
      rw [hl] at hx
      obtain ⟨k, z, hk, hy, hm⟩ := hat i y hl
      refine ⟨k, hk, ?_⟩
      rw [dn_some hy, ← hx]
      simp only [Option.map_some]
      rw [dE_ren (I3 := I) (J3 := J) (A3 := A) (B3 := B) hk hy (fun j => by rw [getD_some hk]) (fun j => by rw [getD_some hk]) (by rw [getD_some hk]) (by rw [getD_some hk]) _ hm, getD_some hk]
  · rw [dn_get] at hx
    cases hl : lay[k]? with
    | none => rw [hl] at hx; cases hx
    | some y =>
      rw [hl] at hx
      simp only [Option.map_some, Option.some.injEq] at hx
      by_cases hk : k ∈ pl
      · left
        obtain ⟨i, hi⟩ := List.getElem?_of_mem hk
        refine ⟨i, hi, ?_⟩
        have hil : i < lay'.length := by rw [← hlen]; exact (List.getElem?_eq_some_iff.mp hi).1
        have hx' : lay'[i]? = some (lay'[i]) := List.getElem?_eq_getElem hil
        obtain ⟨k', z, hk', hy', hm⟩ := hat i _ hx'
        cases hi.symm.trans hk'
        cases hl.symm.trans hy'
        rw [dn_some hx', ← hx, dE_ren (I3 := gp I (rnP pl cI)) (J3 := gp J (rnP pl cJ)) (A3 := gm A (rnM pl cA)) (B3 := gm B (rnM pl cB)) hi hl (fun j => gp_ren hn h1 hi j) (fun j => gp_ren hn h2 hi j) (gm_ren hn h3 hi) (gm_ren hn h4 hi) _ hm, getD_some hi]
      · right
        refine ⟨hk, ?_⟩
        rw [dn_some hl, ← hx]
        congr 2
        cases y with
        | inl y => simp only [dE, dA, gm_out h3 hk, gm_out h4 hk]
        | inr y =>
          simp only [dE]
          congr 2
          exact dFs_congr (fun j => (gp_out h1 hk j).symm) (fun j => (gp_out h2 hk j).symm)
  · rw [dn_get, dn_get]
    cases lay[k]? <;> rfl
/-- the same with the caller's maps in their own form -/
theorem JN_subC {LI cI : List (Nat × Nat × Int32)} {LJ cJ : List (Nat × Nat × Int64)} {LA cA : List (Nat × (Nat → Int32))} {LB cB : List (Nat × (Nat → Int64))}
    (hs : subB lay pl lay' pl = true) (hn : nd_ pl = true) (h1 : ltP pl.length cI = true) (h2 : ltP pl.length cJ = true) (h3 : ltM pl.length cA = true) (h4 : ltM pl.length cB = true)
    (g1 : kps_ LI (rnP pl cI) = true) (g2 : kps_ LJ (rnP pl cJ) = true) (g3 : kms_ LA (rnM pl cA) = true) (g4 : kms_ LB (rnM pl cB) = true) :
    JN pl (dn cy lay ad P V (gp I LI) (gp J LJ) (gm A LA) (gm B LB)) (dn cy lay' (fun q => ad (pl.getD q 0)) (fun q => P (pl.getD q 0)) (fun q => Vx lay ad V (pl.getD q 0)) (fun q => gp I LI (pl.getD q 0)) (fun q => gp J LJ (pl.getD q 0)) (fun q => gm A LA (pl.getD q 0)) (fun q => gm B LB (pl.getD q 0)))
      (dn cy lay' (fun q => ad (pl.getD q 0)) (fun q => P (pl.getD q 0)) (fun q => Vx lay ad V (pl.getD q 0)) (gp (fun q => gp I LI (pl.getD q 0)) cI) (gp (fun q => gp J LJ (pl.getD q 0)) cJ) (gm (fun q => gm A LA (pl.getD q 0)) cA) (gm (fun q => gm B LB (pl.getD q 0)) cB))
      (dn cy lay ad P V (gp I (rps_ LI (rnP pl cI))) (gp J (rps_ LJ (rnP pl cJ))) (gm A (rms_ LA (rnM pl cA))) (gm B (rms_ LB (rnM pl cB)))) := by
  rw [← gp_rps g1, ← gp_rps g2, ← gm_rms g3, ← gm_rms g4]
  exact JN_sub hs hn h1 h2 h3 h4
theorem JN_id {LI cI : List (Nat × Nat × Int32)} {LJ cJ : List (Nat × Nat × Int64)} {LA cA : List (Nat × (Nat → Int32))} {LB cB : List (Nat × (Nat → Int64))}
    (g1 : kps_ LI cI = true) (g2 : kps_ LJ cJ = true) (g3 : kms_ LA cA = true) (g4 : kms_ LB cB = true) :
    JN (List.range lay.length) (dn cy lay ad P V (gp I LI) (gp J LJ) (gm A LA) (gm B LB)) (dn cy lay ad P V (gp I LI) (gp J LJ) (gm A LA) (gm B LB))
      (dn cy lay ad P V (gp (gp I LI) cI) (gp (gp J LJ) cJ) (gm (gm A LA) cA) (gm (gm B LB) cB))
      (dn cy lay ad P V (gp I (rps_ LI cI)) (gp J (rps_ LJ cJ)) (gm A (rms_ LA cA)) (gm B (rms_ LB cB))) := by
  rw [gp_rps g1, gp_rps g2, gm_rms g3, gm_rms g4]
  have hr : ∀ (i : Nat) {α : Type} {x : α} {f : Shp → α}, (lay[i]?).map f = some x → (List.range lay.length)[i]? = some i := by
    intro i α x f h
    cases hl : lay[i]? with
    | none => rw [hl] at h; cases h
    | some y => rw [List.getElem?_range (List.getElem?_eq_some_iff.mp hl).1]
  refine ⟨fun i x hx => ⟨i, ?_, hx⟩, fun k x hx => Or.inl ⟨k, ?_, hx⟩, fun i j k hi hj => ?_, fun k => ?_⟩
  · rw [dn_get] at hx; exact hr i hx
  · rw [dn_get] at hx; exact hr k hx
  · have e1 : ∀ a : Nat, (List.range lay.length)[a]? = some k → a = k := by
      intro a h
      obtain ⟨h1, h2⟩ := List.getElem?_eq_some_iff.mp h
      simpa using h2
    rw [e1 i hi, e1 j hj]
  · rw [dn_get, dn_get]
    cases lay[k]? <;> rfl
end SUBL
