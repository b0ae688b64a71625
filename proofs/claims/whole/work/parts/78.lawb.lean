/-! the law: what the codes mean, level by level, and what the reference works out of them -/
abbrev Sv : Type := EnvL → Int32
abbrev Lv : Type := Nat × Nat × Nat × Nat × Nat × Sv × Sv × Sv × Sv
def Lv.o (s : Lv) : Nat := s.1
def Lv.kb (s : Lv) : Nat := s.2.1
def Lv.ag (s : Lv) : Nat := s.2.2.1
def Lv.sb (s : Lv) : Nat := s.2.2.2.1
def Lv.tb (s : Lv) : Nat := s.2.2.2.2.1
def Lv.kv (s : Lv) : Sv := s.2.2.2.2.2.1
def Lv.av (s : Lv) : Sv := s.2.2.2.2.2.2.1
def Lv.sv (s : Lv) : Sv := s.2.2.2.2.2.2.2.1
def Lv.tv (s : Lv) : Sv := s.2.2.2.2.2.2.2.2
def mkL (o kb ag sb tb : Nat) (kv av sv tv : Sv) : Lv := (o, kb, ag, sb, tb, kv, av, sv, tv)
def z5 (o : Nat) : Lv := ⟨o, 0, 0, 0, 0, fun _ => 0, fun _ => 0, fun _ => 0, fun _ => 0⟩
def nt (v : Sv) : Sv := fun e => if v e = 0 then 1 else 0
def r4 (s : Lv) (x : Sv) : Sv := if s.tb = 0 then x else fun e => s.tv e * x e
def r3 (s : Lv) (x : Sv) : Sv := if s.sb = 0 then r4 s x else if s.sb = 21 then fun e => s.sv e - r4 s x e else fun e => s.sv e + r4 s x e
def r2 (s : Lv) (x : Sv) : Sv := if s.ag = 0 then r3 s x else if s.ag = 24 then fun e => if r3 s x e ≤ s.av e then 0 else 1 else fun e => if s.av e = r3 s x e then 1 else 0
def r1 (s : Lv) (x : Sv) : Sv := if s.kb = 0 then r2 s x else if s.kb = 26 then fun e => (if s.kv e = 0 then 0 else if r2 s x e = 0 then 0 else 1) else fun e => (if s.kv e = 0 then (if r2 s x e = 0 then 0 else 1) else 1)
def arr : List Lv → Sv → List Lv × Sv
  | [], v => ([], v)
  | s :: L, v => if s.o = 1 then arr L (nt v) else (s :: L, v)
def fcv (e : EnvL) (k : Nat) : Int32 := if k = 1 then e.1 else if k = 2 then e.2.1 else if k = 3 then e.2.2.1 else e.2.2.2
abbrev AS : Type := List Lv × Option Sv
def arS (p : List Lv × Sv) : AS := (p.1, some p.2)
def astN (L : List Lv) (c : Nat) : AS := if c = 28 then (z5 2 :: L, none) else if c = 30 then (z5 1 :: L, none) else if c < 20 then arS (arr L (fun e => fcv e c)) else arS (arr L (fun _ => nI (c - 100)))
def astS (s : Lv) (L : List Lv) (x : Sv) (c : Nat) : AS := if c = 22 then ((mkL s.o s.kb s.ag s.sb 22 s.kv s.av s.sv (r4 s x)) :: L, none) else if c = 20 ∨ c = 21 then ((mkL s.o s.kb s.ag c 0 s.kv s.av (r3 s x) s.tv) :: L, none) else if c = 24 ∨ c = 25 then ((mkL s.o s.kb c 0 0 s.kv (r3 s x) s.sv s.tv) :: L, none) else if c = 26 ∨ c = 27 then ((mkL s.o c 0 0 0 (r1 s x) s.av s.sv s.tv) :: L, none) else arS (arr L (r1 s x))
def ast (X : AS) (c : Nat) : AS := match X with
  | (L, none) => astN L c
  | (s :: L, some x) => astS s L x c
  | ([], some x) => ([], some x)
def gds (X : AS) (c : Nat) : Prop := match X with
  | (L, none) => L.length ≤ 5 ∧ (c = 28 ∨ c = 30 ∨ (1 ≤ c ∧ c ≤ 4) ∨ (100 ≤ c ∧ c < 10100))
  | (s :: L, some _) => (s :: L).length ≤ 6 ∧ (c = 20 ∨ c = 21 ∨ c = 22 ∨ c = 24 ∨ c = 25 ∨ c = 26 ∨ c = 27 ∨ (c = 29 ∧ L ≠ []))
  | ([], some _) => False
def LvO (s : Lv) : Prop := (s.kb = 0 ∨ s.kb = 26 ∨ s.kb = 27) ∧ (s.ag = 0 ∨ s.ag = 24 ∨ s.ag = 25) ∧ (s.sb = 0 ∨ s.sb = 20 ∨ s.sb = 21) ∧ (s.tb = 0 ∨ s.tb = 22)
def WfL : List Lv → Prop
  | [] => False
  | [s] => s.o = 0 ∧ LvO s
  | s :: t :: L => (s.o = 1 ∨ s.o = 2) ∧ LvO s ∧ (s.o = 1 → s.kb = 0 ∧ s.ag = 0 ∧ s.sb = 0 ∧ s.tb = 0) ∧ WfL (t :: L)
theorem WfL_O {s : Lv} {L : List Lv} (h : WfL (s :: L)) : LvO s := by
  cases L with
  | nil => exact h.2
  | cons t L => exact h.2.1
theorem WfL_t {s : Lv} {L : List Lv} (h : WfL (s :: L)) (hL : L ≠ []) : WfL L := by
  cases L with
  | nil => exact absurd rfl hL
  | cons t L => exact h.2.2.2
theorem LvO_z (o : Nat) : LvO (z5 o) := ⟨Or.inl rfl, Or.inl rfl, Or.inl rfl, Or.inl rfl⟩
theorem WfL_cons {L : List Lv} (h : WfL L) {o : Nat} (ho : o = 1 ∨ o = 2) : WfL (z5 o :: L) := by
  cases L with
  | nil => exact absurd h id
  | cons t L => exact ⟨ho, LvO_z o, fun _ => ⟨rfl, rfl, rfl, rfl⟩, h⟩
/-- a new top of the same kind, not a 'not' -/
theorem WfL_top {s s' : Lv} {L : List Lv} (h : WfL (s :: L)) (ho : s'.o = s.o) (h1 : s.o ≠ 1) (hO : LvO s') : WfL (s' :: L) := by
  cases L with
  | nil => exact ⟨ho.trans h.1, hO⟩
  | cons t L => exact ⟨by rw [ho]; exact h.1, hO, fun e => absurd (ho ▸ e) h1, h.2.2.2⟩
theorem arr_wf : ∀ {L : List Lv} {v : Sv}, WfL L → ∃ s L', (arr L v).1 = s :: L' ∧ WfL (s :: L') ∧ s.o ≠ 1 ∧ L'.length + 1 ≤ L.length
  | [], _, h => absurd h id
  | [s], v, h => ⟨s, [], by
      show (if s.o = 1 then arr [] (nt v) else ([s], v)).1 = [s]
      rw [if_neg (by rw [h.1]; decide)], h, by rw [h.1]; decide, Nat.le_refl _⟩
  | s :: t :: L, v, h => by
      show ∃ s' L', (if s.o = 1 then arr (t :: L) (nt v) else (s :: t :: L, v)).1 = s' :: L' ∧ _
      by_cases e : s.o = 1
      · rw [if_pos e]
        obtain ⟨s', L', h1, h2, h3, h4⟩ := arr_wf (L := t :: L) (v := nt v) h.2.2.2
        exact ⟨s', L', h1, h2, h3, Nat.le_succ_of_le h4⟩
      · rw [if_neg e]
        exact ⟨s, t :: L, rfl, h, e, Nat.le_refl _⟩
/-- good: on the top there is no 'not' that has its part -/
def WfA (X : AS) : Prop := WfL X.1 ∧ (X.2 ≠ none → ∀ s L, X.1 = s :: L → s.o ≠ 1)
theorem WfA_ar {L : List Lv} {v : Sv} (h : WfL L) : WfA (arS (arr L v)) := by
  obtain ⟨s, L', h1, h2, h3, _⟩ := arr_wf (v := v) h
  refine ⟨by show WfL (arr L v).1; rw [h1]; exact h2, fun _ s' L2 e => ?_⟩
  have e : (arr L v).1 = s' :: L2 := e
  rw [h1] at e
  injection e with e1 e2
  rw [← e1]; exact h3
theorem WfA_ast {X : AS} {c : Nat} (h : WfA X) (hg : gds X c) : WfA (ast X c) := by
  obtain ⟨L, x⟩ := X
  cases x with
  | none =>
    show WfA (astN L c)
    unfold astN
    split
    · exact ⟨WfL_cons h.1 (Or.inr rfl), fun e => absurd rfl e⟩
    split
    · exact ⟨WfL_cons h.1 (Or.inl rfl), fun e => absurd rfl e⟩
    split
    · exact WfA_ar h.1
    · exact WfA_ar h.1
  | some x =>
    cases L with
    | nil => exact absurd hg id
    | cons s L =>
      have n1 : s.o ≠ 1 := h.2 (by simp) s L rfl
      have hO := WfL_O h.1
      show WfA (astS s L x c)
      unfold astS
      split
      · exact ⟨WfL_top h.1 rfl n1 ⟨hO.1, hO.2.1, hO.2.2.1, Or.inr rfl⟩, fun e => absurd rfl e⟩
      split
      · rename_i q
        exact ⟨WfL_top h.1 rfl n1 ⟨hO.1, hO.2.1, Or.inr q, Or.inl rfl⟩, fun e => absurd rfl e⟩
      split
      · rename_i q
        exact ⟨WfL_top h.1 rfl n1 ⟨hO.1, Or.inr q, Or.inl rfl, Or.inl rfl⟩, fun e => absurd rfl e⟩
      split
      · rename_i q
        exact ⟨WfL_top h.1 rfl n1 ⟨Or.inr q, Or.inl rfl, Or.inl rfl, Or.inl rfl⟩, fun e => absurd rfl e⟩
      · rename_i q1 q2 q3 q4
        have hL : L ≠ [] := by
          rcases hg.2 with e | e | e | e | e | e | e | e
          · exact absurd (Or.inl e) q2
          · exact absurd (Or.inr e) q2
          · exact absurd e q1
          · exact absurd (Or.inl e) q3
          · exact absurd (Or.inr e) q3
          · exact absurd (Or.inl e) q4
          · exact absurd (Or.inr e) q4
          · exact e.2
        exact WfA_ar (WfL_t h.1 hL)
def arn (f : Nat → Nat) : Nat → AS
  | 0 => ([z5 0], none)
  | k + 1 => ast (arn f k) (f k)
def arun (C : CC) : AS := arn C.2 C.1
theorem arn_congr {f g : Nat → Nat} : ∀ {m : Nat}, (∀ k, k < m → f k = g k) → arn f m = arn g m
  | 0, _ => rfl
  | m + 1, h => by
    show ast (arn f m) (f m) = ast (arn g m) (g m)
    rw [arn_congr (fun k hk => h k (by omega)), h m (by omega)]
theorem arun_sn {C : CC} {c : Nat} : arun (sn C c) = ast (arun C) c := by
  show ast (arn (fun k => if k = C.1 then c else C.2 k) C.1) (if C.1 = C.1 then c else C.2 C.1) = _
  rw [if_pos rfl, arn_congr (g := C.2) (fun k hk => if_neg (by omega))]
  rfl
def Gd (C : CC) : Prop := ∀ k, k < C.1 → gds (arn C.2 k) (C.2 k)
theorem Gd_sn {C : CC} {c : Nat} (h : Gd C) (hc : gds (arun C) c) : Gd (sn C c) := by
  intro k hk
  have hk : k < C.1 + 1 := hk
  show gds (arn (fun k => if k = C.1 then c else C.2 k) k) (if k = C.1 then c else C.2 k)
  rw [arn_congr (g := C.2) (fun j hj => if_neg (by omega))]
  by_cases e : k = C.1
  · rw [if_pos e, e]; exact hc
  · rw [if_neg e]; exact h k (by omega)
theorem WfA_run {f : Nat → Nat} : ∀ {m : Nat}, (∀ k, k < m → gds (arn f k) (f k)) → WfA (arn f m)
  | 0, _ => ⟨⟨rfl, LvO_z 0⟩, fun e => absurd rfl e⟩
  | m + 1, h => WfA_ast (WfA_run (fun k hk => h k (by omega))) (h m (by omega))
