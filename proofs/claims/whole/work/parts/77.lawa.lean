/-! the law: a row of codes, a stack of values, and what the class works out of them -/
abbrev EnvL : Type := Int32 × Int32 × Int32 × Int32
abbrev CC : Type := Nat × (Nat → Nat)
def sn (C : CC) (c : Nat) : CC := (C.1 + 1, fun k => if k = C.1 then c else C.2 k)
def sns (C : CC) (l : List Nat) : CC := l.foldl sn C
def CdR (a : Nat → Int32) (b : Nat) (C : CC) : Prop := ∀ k, k < C.1 → a (b + k) = nI (C.2 k)
theorem CdR_sn {a : Nat → Int32} {b c : Nat} {C : CC} (h : CdR a b C) : CdR (upd a (b + C.1) (nI c)) b (sn C c) := by
  intro k hk
  have hk : k < C.1 + 1 := hk
  show _ = nI (if k = C.1 then c else C.2 k)
  by_cases e : k = C.1
  · rw [if_pos e, e, pk_us]
  · rw [if_neg e, pk_un (by omega)]
    exact h k (by omega)
def StkR (st : Nat → Int32) : List Int32 → Prop
  | [] => True
  | x :: l => st l.length = x ∧ StkR st l
theorem StkR_upd {st : Nat → Int32} {k : Nat} {x : Int32} : ∀ {l : List Int32}, StkR st l → l.length ≤ k → StkR (upd st k x) l
  | [], _, _ => trivial
  | y :: l, h, hk => by
    have hk : l.length + 1 ≤ k := hk
    exact ⟨by rw [pk_un (by omega)]; exact h.1, StkR_upd h.2 (by omega)⟩
def psh (S : List Int32) (x : Int32) : List Int32 := if S.length < 32 then x :: S else S
theorem psh_le {S : List Int32} {x : Int32} (h : S.length ≤ 32) : (psh S x).length ≤ 32 := by
  unfold psh
  split
  · show S.length + 1 ≤ 32; omega
  · exact h
theorem psh_lt {S : List Int32} {x : Int32} (h : S.length < 32) : psh S x = x :: S := if_pos h
theorem c_push {st : Nat → Int32} {S : List Int32} {x : Int32} (hS : StkR st S) (hl : S.length ≤ 32) : ok (fX1_push (nI S.length) st x) (fun r => r.1 = nI (psh S x).length ∧ StkR r.2 (psh S x)) := by
  unfold fX1_push psh
  by_cases q : S.length < 32
  · rw [if_neg (show ¬ (32 : Int32) ≤ nI S.length from fun e => absurd (show nI S.length < 32 from nI_lt (b := 32) q (by omega)) (Int32.not_lt.mpr e)), if_pos q, nC (by omega)]
    refine ok_g (nB q (by omega)) (ok_some ⟨nI_1 _, pk_us, StkR_upd hS (Nat.le_refl _)⟩)
  · rw [if_pos (show (32 : Int32) ≤ nI S.length from nI_le (a := 32) (by omega) (by omega)), if_neg q]
    exact ok_some ⟨rfl, hS⟩
theorem c_pop {st : Nat → Int32} {S : List Int32} (hS : StkR st S) (hl : S.length ≤ 32) : fX1_pop st (nI S.length) = some (S.headD 0, nI S.tail.length) := by
  unfold fX1_pop
  cases S with
  | nil => exact if_pos rfl
  | cons x l =>
    have hl : l.length + 1 ≤ 32 := hl
    have n0 : ¬ nI (l.length + 1) = 0 := fun e => by have := (nI_eq (b := 0) (by omega) (by omega)).mp e; omega
    have e1 : nI (l.length + 1) - 1 = nI l.length := nsub (b := 1) (by omega)
    show (if nI (l.length + 1) = 0 then _ else _) = _
    rw [if_neg n0]
    show (bif inb (nI (l.length + 1) - 1) 32 then some (st (nI (l.length + 1) - 1).toNatClampNeg, nI (l.length + 1) - 1) else none) = _
    rw [e1, nB (by omega) (by omega), cond_true, nC (by omega), hS.1]
    rfl
def jn (o : Nat) (b a : Int32) : Int32 := if o = 42 then a * b else if o = 43 then a + b else if o = 45 then a - b else if o = 60 then (if b ≤ a then 0 else 1) else if o = 61 then (if a = b then 1 else 0) else if o = 148 then (if a = 0 then 0 else if b = 0 then 0 else 1) else (if a = 0 then (if b = 0 then 0 else 1) else 1)
theorem tI {o k : Nat} (ho : o < 2147483648) : ((nI o).toInt = (k : Int)) = (o = k) := by
  rw [nI_toInt (by omega)]
  exact propext ⟨fun e => by omega, fun e => by omega⟩
theorem c_joined {o : Nat} {b a : Int32} (ho : o < 2147483648) : fX1_joined (nI o) b a = some (jn o b a) := by
  unfold fX1_joined jn
  have t := fun k => @tI o k ho
  by_cases x1 : o = 42
  · rw [if_pos (show (nI o).toInt = 42 from (t 42).mpr x1), if_pos x1]
  rw [if_neg (show ¬ (nI o).toInt = 42 from fun e => x1 ((t 42).mp e)), if_neg x1]
  by_cases x2 : o = 43
  · rw [if_pos (show (nI o).toInt = 43 from (t 43).mpr x2), if_pos x2]
  rw [if_neg (show ¬ (nI o).toInt = 43 from fun e => x2 ((t 43).mp e)), if_neg x2]
  by_cases x3 : o = 45
  · rw [if_pos (show (nI o).toInt = 45 from (t 45).mpr x3), if_pos x3]
  rw [if_neg (show ¬ (nI o).toInt = 45 from fun e => x3 ((t 45).mp e)), if_neg x3]
  by_cases x4 : o = 60
  · rw [if_pos (show (nI o).toInt = 60 from (t 60).mpr x4), if_pos x4]
    split <;> rfl
  rw [if_neg (show ¬ (nI o).toInt = 60 from fun e => x4 ((t 60).mp e)), if_neg x4]
  by_cases x5 : o = 61
  · rw [if_pos (show (nI o).toInt = 61 from (t 61).mpr x5), if_pos x5]
    split <;> rfl
  rw [if_neg (show ¬ (nI o).toInt = 61 from fun e => x5 ((t 61).mp e)), if_neg x5]
  by_cases x6 : o = 148
  · rw [if_pos (show (nI o).toInt = 148 from (t 148).mpr x6), if_pos x6]
    split
    · rfl
    · split <;> rfl
  rw [if_neg (show ¬ (nI o).toInt = 148 from fun e => x6 ((t 148).mp e)), if_neg x6]
  split
  · split <;> rfl
  · rfl
def cst (e : EnvL) (S : List Int32) (c : Nat) : List Int32 := if c < 10000 then psh S (nI c) else if c = 10147 then psh S.tail (if S.headD 0 = 0 then 1 else 0) else if c = 10150 then psh S e.1 else if c = 10151 then psh S e.2.1 else if c = 10152 then psh S e.2.2.1 else if c = 10153 then psh S e.2.2.2 else psh S.tail.tail (jn (c - 10000) (S.headD 0) (S.tail.headD 0))
theorem cst_le {e : EnvL} {S : List Int32} {c : Nat} (h : S.length ≤ 32) : (cst e S c).length ≤ 32 := by
  have h1 : S.tail.length ≤ 32 := by rw [List.length_tail]; omega
  have h2 : S.tail.tail.length ≤ 32 := by rw [List.length_tail]; omega
  unfold cst
  split
  · exact psh_le h
  split
  · exact psh_le h1
  split
  · exact psh_le h
  split
  · exact psh_le h
  split
  · exact psh_le h
  split
  · exact psh_le h
  · exact psh_le h2
def crn (e : EnvL) (f : Nat → Nat) : Nat → List Int32
  | 0 => []
  | k + 1 => cst e (crn e f k) (f k)
def crun (e : EnvL) (C : CC) : List Int32 := crn e C.2 C.1
theorem crn_le {e : EnvL} {f : Nat → Nat} : ∀ k, (crn e f k).length ≤ 32
  | 0 => Nat.zero_le _
  | k + 1 => cst_le (crn_le k)
theorem crn_congr {e : EnvL} {f g : Nat → Nat} : ∀ {m : Nat}, (∀ k, k < m → f k = g k) → crn e f m = crn e g m
  | 0, _ => rfl
  | m + 1, h => by
    show cst e (crn e f m) (f m) = cst e (crn e g m) (g m)
    rw [crn_congr (fun k hk => h k (by omega)), h m (by omega)]
theorem crun_sn {e : EnvL} {C : CC} {c : Nat} : crun e (sn C c) = cst e (crun e C) c := by
  show cst e (crn e (fun k => if k = C.1 then c else C.2 k) C.1) (if C.1 = C.1 then c else C.2 C.1) = _
  rw [if_pos rfl, crn_congr (g := C.2) (fun k hk => if_neg (by omega))]
  rfl
def gdI (c : Nat) : Prop := c < 11000
set_option maxHeartbeats 1000000 in
theorem c_allows {m : Nat} {f : Nat → Nat} {code st : Nat → Int32} {wt l i s d : Int32} (h0 : 0 < m) (hm : m ≤ 1000) (hc : ∀ k, k < m → code k = nI (f k) ∧ f k < 11000) : ok (fX1_allows (nI m) code wt st l i s d) (fun r => r.1 = nI (b2 (!decide ((crn (l, i, s, d) f m).headD 0 = 0)))) := by
  unfold fX1_allows
  rw [if_neg (show ¬ nI m = 0 from fun e => by have := (nI_eq (b := 0) (by omega) (by omega)).mp e; omega)]
  refine ok_for6 m (fun k a1 a2 a3 a4 a5 a6 => a1 = nI (crn (l, i, s, d) f k).length ∧ StkR a2 (crn (l, i, s, d) f k) ∧ a3 = l ∧ a4 = i ∧ a5 = s ∧ a6 = d) ?_ ?_ FU 0 0 st l i s d (Nat.zero_le _) ⟨rfl, trivial, rfl, rfl, rfl, rfl⟩ (by unfold FU; omega)
  · rintro kk a1 a2 a3 a4 a5 a6 k hk ⟨rfl, hS, rfl, rfl, rfl, rfl⟩ hn
    obtain ⟨ec, hf⟩ := hc k hk
    have hS32 := @crn_le (a3, a4, a5, a6) f k
    have hstep : ∀ (S' : List Int32) (x : Int32) (b2_ : Nat → Int32), StkR b2_ S' → S'.length ≤ 32 → cst (a3, a4, a5, a6) (crn (a3, a4, a5, a6) f k) (f k) = psh S' x → ok (Option.bind (fX1_push (nI S'.length) b2_ x) fun y1 => kk y1.1 y1.2 a3 a4 a5 a6 (nI k + 1)) (fun r => r.1 = nI (b2 (!decide ((crn (a3, a4, a5, a6) f m).headD 0 = 0)))) := fun S' x b2_ h1 h2 h3 => by
      refine ok_bind (ok_mono (c_push h1 h2) (fun y e => ?_))
      rw [nI_1]
      refine hn _ _ _ _ _ _ ⟨?_, ?_, rfl, rfl, rfl, rfl⟩
      · show y.1 = nI (cst (a3, a4, a5, a6) (crn (a3, a4, a5, a6) f k) (f k)).length
        rw [h3]; exact e.1
      · show StkR y.2 (cst (a3, a4, a5, a6) (crn (a3, a4, a5, a6) f k) (f k))
        rw [h3]; exact e.2
    generalize hX : crn (a3, a4, a5, a6) f k = X at hS hS32 hstep
    have ht1 : X.tail.length ≤ 32 := by rw [List.length_tail]; omega
    have ht2 : X.tail.tail.length ≤ 32 := by rw [List.length_tail]; omega
    have hT1 : StkR a2 X.tail := by cases X with | nil => trivial | cons x l => exact hS.2
    have hT2 : StkR a2 X.tail.tail := by
      cases X with
      | nil => trivial
      | cons x l => cases l with | nil => trivial | cons y l => exact hS.2.2
    have ti : (nI (f k) - 10000).toInt = (f k : Int) - 10000 := pk_sub_toInt (b := 10000) (by omega) (by omega)
    unfold fX1_allows_28
    rw [if_neg (show ¬ nI m ≤ nI k from fun e => absurd (nI_lt hk (by omega)) (Int32.not_lt.mpr e))]
    refine ok_g (nB (by omega) (by omega)) ?_
    rw [nC (by omega), ec, ti]
    by_cases x1 : f k = 10147
    · rw [if_pos (by omega), c_pop hS hS32]
      simp only [Option.bind_some]
      have hh := hstep X.tail (if X.headD 0 = 0 then 1 else 0) a2 hT1 ht1 (by unfold cst; rw [if_neg (by omega), if_pos x1])
      unfold fX1_allows_142
      by_cases y : X.headD 0 = 0
      · rw [if_pos y] at hh ⊢
        exact hh
      · rw [if_neg y] at hh ⊢
        exact hh
    rw [if_neg (by omega)]
    by_cases x2 : f k = 10150
    · rw [if_pos (by omega)]
      exact hstep X a3 a2 hS hS32 (by unfold cst; rw [if_neg (by omega), if_neg x1, if_pos x2])
    rw [if_neg (by omega)]
    by_cases x3 : f k = 10151
    · rw [if_pos (by omega)]
      exact hstep X a4 a2 hS hS32 (by unfold cst; rw [if_neg (by omega), if_neg x1, if_neg x2, if_pos x3])
    rw [if_neg (by omega)]
    by_cases x4 : f k = 10152
    · rw [if_pos (by omega)]
      exact hstep X a5 a2 hS hS32 (by unfold cst; rw [if_neg (by omega), if_neg x1, if_neg x2, if_neg x3, if_pos x4])
    rw [if_neg (by omega)]
    by_cases x5 : f k = 10153
    · rw [if_pos (by omega)]
      exact hstep X a6 a2 hS hS32 (by unfold cst; rw [if_neg (by omega), if_neg x1, if_neg x2, if_neg x3, if_neg x4, if_pos x5])
    rw [if_neg (by omega)]
    unfold fX1_allows_148 fX1_allows_177
    by_cases y : 10000 ≤ f k
    · rw [if_pos (show (0 : Int32) ≤ nI (f k) - 10000 by rw [Int32.le_iff_toInt_le, ti]; show (0 : Int) ≤ _; omega), c_pop hS hS32]
      simp only [Option.bind_some]
      rw [c_pop hT1 ht1]
      simp only [Option.bind_some]
      rw [show nI (f k) - 10000 = nI (f k - 10000) from nsub (b := 10000) y, c_joined (by omega)]
      simp only [Option.bind_some]
      exact hstep X.tail.tail _ a2 hT2 ht2 (by unfold cst; rw [if_neg (by omega), if_neg x1, if_neg x2, if_neg x3, if_neg x4, if_neg x5])
    · rw [if_neg (show ¬ (0 : Int32) ≤ nI (f k) - 10000 by rw [Int32.le_iff_toInt_le, ti]; show ¬ (0 : Int) ≤ _; omega)]
      refine ok_g (nB (by omega) (by omega)) ?_
      rw [nC (by omega), ec]
      exact hstep X _ a2 hS hS32 (by unfold cst; rw [if_pos (by omega)])
  · rintro kk a1 a2 a3 a4 a5 a6 ⟨rfl, hS, rfl, rfl, rfl, rfl⟩
    unfold fX1_allows_28
    rw [if_pos (show nI m ≤ nI m from Int32.le_refl _), c_pop hS (crn_le m)]
    simp only [Option.bind_some]
    refine ok_if (fun e => ok_some ?_) (fun e => ok_some ?_)
    · rw [decide_eq_true e]; rfl
    · rw [decide_eq_false e]; rfl
