/-! the law: a turn of the class's loop, by its token -/
abbrev RC1 : Type := Int32 × Int32 × Int32 × Int32 × Int32 × Int32 × Int32 × Int32 × Int32 × Int64 × (Nat → Int32) × (Nat → Int32)
abbrev RM9 : Type := Int32 × Int32 × Int32 × Int32 × Int32 × Int32 × Int32 × Int64 × (Nat → Int32) × (Nat → Int32) × (Nat → Int32)
section LT
variable {len : Int32} {signs : Nat → Int32} {words : Nat → Int64} {wt ne le cb cp tp ct cnu : Int32} {cnm : Int64} {code st : Nat → Int32} {k14 : Int32 → Int32 → Int32 → Int32 → Int32 → Int32 → Int32 → Int32 → Int32 → Int64 → (Nat → Int32) → (Nat → Int32) → Int32 → Int32 → Option RC1}
theorem c_part1 {a : Nat} {f : Int32} (ht : ct = nI a) (ha : a < 154) (h : ¬ (a = 2 ∨ a = 147 ∨ a = 40 ∨ (150 ≤ a ∧ a ≤ 153))) (hr : fX5_refuse cp 0 1 = some f) : fX1_readPart len signs words wt ne le cb cp tp ct cnu 0 cnm code st = some (0, wt, ne, le, cb, cp, tp, ct, cnu, f, cnm, code, st) := by
  have n2 : ¬ ct = 2 := by
    rw [ht]
    exact fun q => by have := (nI_eq (b := 2) (by omega) (by omega)).mp q; omega
  unfold fX1_readPart
  rw [if_neg n2, c_noF ht (by omega)]
  simp only [Option.bind_some]
  rw [if_pos trivial]
  unfold fX1_readPart_22
  rw [if_pos rfl, if_neg (show ¬ ct = 147 by rw [ht]; exact fun q => by have := (nI_eq (b := 147) (by omega) (by omega)).mp q; omega), if_neg (show ¬ ct = 40 by rw [ht]; exact fun q => by have := (nI_eq (b := 40) (by omega) (by omega)).mp q; omega), hr]
  rfl
theorem c_part5 {a : Nat} {f : Int32} (ht : ct = nI a) (ha : a < 154) (h : a = 2 ∨ a = 147 ∨ a = 40 ∨ (150 ≤ a ∧ a ≤ 153)) (hn : ne = nI 5) (hr : fX5_refuse cp 0 5 = some f) : fX1_readPart len signs words wt ne le cb cp tp ct cnu 0 cnm code st = some (0, wt, ne, le, cb, cp, tp, ct, cnu, f, cnm, code, st) := by
  have e47 : ∀ x, fX1_readPart_47 len signs words wt ne le cb cp tp ct cnu 0 cnm code st ct x = some (0, wt, ne, le, cb, cp, tp, ct, cnu, f, cnm, code, st) := fun x => by
    unfold fX1_readPart_47
    rw [if_neg (show ¬ ne < 5 by rw [hn]; decide), hr]
    rfl
  unfold fX1_readPart
  by_cases x2 : a = 2
  · rw [if_pos (show ct = 2 by rw [ht, x2]; rfl)]
    unfold fX1_readPart_22
    rw [if_neg (by decide : ¬ (1 : Int32) = 0)]
    exact e47 _
  have n2 : ¬ ct = 2 := by
    rw [ht]
    exact fun q => by have := (nI_eq (b := 2) (by omega) (by omega)).mp q; omega
  rw [if_neg n2]
  by_cases xf : 150 ≤ a
  · have hf : fX8_isFact ct = some 1 := by
      unfold fX8_isFact fX8_isWithin
      rw [ht, if_neg (show ¬ nI a < 150 from nI_nlt (b := 150) (by omega) (by omega)), if_neg (show ¬ 153 < nI a from nI_nlt (a := 153) (by omega) (by omega))]
      rfl
    rw [hf]
    simp only [Option.bind_some]
    rw [if_neg (by decide : ¬ (1 : Int32) = 0)]
    unfold fX1_readPart_22
    rw [if_neg (by decide : ¬ (1 : Int32) = 0)]
    exact e47 _
  · rw [c_noF ht (by omega)]
    simp only [Option.bind_some]
    rw [if_pos trivial]
    unfold fX1_readPart_22
    rw [if_pos rfl]
    by_cases x : a = 147
    · rw [if_pos (show ct = 147 by rw [ht, x]; rfl)]
      exact e47 _
    · rw [if_neg (show ¬ ct = 147 by rw [ht]; exact fun q => by have := (nI_eq (b := 147) (by omega) (by omega)).mp q; omega), if_pos (show ct = 40 by rw [ht, show a = 40 by omega]; rfl)]
      exact e47 _
theorem lt1000 {t : Nat} (ht : t ≤ 1000) : ¬ (1000 : Int32) < nI t := nI_nlt (a := 1000) (by omega) (by omega)
theorem c_t1 {t : Nat} {w n' l b p tp' tk nu f : Int32} {nm' : Int64} {c s : Nat → Int32} (ht : t ≤ 1000) (h : fX1_readPart len signs words wt ne le cb cp tp ct cnu 0 cnm code st = some (0, w, n', l, b, p, tp', tk, nu, f, nm', c, s)) : fX1_readFrom_14 len signs words k14 wt ne le cb cp tp ct cnu 0 cnm code st 1 (nI t) = k14 w n' l b p tp' tk nu f nm' c s 1 (nI (t + 1)) := by
  unfold fX1_readFrom_14
  rw [if_neg (lt1000 ht), if_pos rfl, if_neg (by decide : ¬ (1 : Int32) = 0), h, Option.bind_some, nI_1]
  dsimp only
  rw [if_pos rfl]
theorem c_t2 {t : Nat} {w n' l b p tp' tk nu f : Int32} {nm' : Int64} {c s : Nat → Int32} (ht : t ≤ 1000) (h : fX1_readPart len signs words wt ne le cb cp tp ct cnu 0 cnm code st = some (1, w, n', l, b, p, tp', tk, nu, f, nm', c, s)) : fX1_readFrom_14 len signs words k14 wt ne le cb cp tp ct cnu 0 cnm code st 1 (nI t) = k14 w n' l b p tp' tk nu f nm' c s 0 (nI (t + 1)) := by
  unfold fX1_readFrom_14
  rw [if_neg (lt1000 ht), if_pos rfl, if_neg (by decide : ¬ (1 : Int32) = 0), h, Option.bind_some, nI_1]
  dsimp only
  rw [if_neg (by decide : ¬ (1 : Int32) = 0)]
/-- an operator is due -/
theorem c_t3 {a d t : Nat} (ht : t ≤ 1000) (ea : ct = nI a) (ha : a < 154) (hn : ne = nI d) (hd : d < 7) (h1 : ¬ (a = 41 ∧ 0 < d)) (h2 : ¬ (a = 59 ∧ d = 0)) : fX1_readFrom_14 len signs words k14 wt ne le cb cp tp ct cnu 0 cnm code st 0 (nI t) = Option.bind (fX1_readOperator len signs words wt le cb cp tp ct cnu 0 cnm code st) (fun y1 => k14 y1.1 ne y1.2.1 y1.2.2.1 y1.2.2.2.1 y1.2.2.2.2.1 y1.2.2.2.2.2.1 y1.2.2.2.2.2.2.1 y1.2.2.2.2.2.2.2.1 y1.2.2.2.2.2.2.2.2.1 y1.2.2.2.2.2.2.2.2.2.1 y1.2.2.2.2.2.2.2.2.2.2 1 (nI (t + 1))) := by
  have e73 : fX1_readFrom_73 len signs words k14 wt ne le cb cp tp ct cnu 0 cnm code st (nI t) = Option.bind (fX1_readOperator len signs words wt le cb cp tp ct cnu 0 cnm code st) (fun y1 => k14 y1.1 ne y1.2.1 y1.2.2.1 y1.2.2.2.1 y1.2.2.2.2.1 y1.2.2.2.2.2.1 y1.2.2.2.2.2.2.1 y1.2.2.2.2.2.2.2.1 y1.2.2.2.2.2.2.2.2.1 y1.2.2.2.2.2.2.2.2.2.1 y1.2.2.2.2.2.2.2.2.2.2 1 (nI (t + 1))) := by
    unfold fX1_readFrom_73 fX1_readFrom_92
    rw [nI_1]
    by_cases x : a = 59
    · rw [if_pos (show ct = 59 by rw [ea, x]; rfl), if_neg (show ¬ ne = 0 by rw [hn]; exact fun q => h2 ⟨x, (nI_eq (b := 0) (by omega) (by omega)).mp q⟩)]
    · rw [if_neg (show ¬ ct = 59 by rw [ea]; exact fun q => x ((nI_eq (b := 59) (by omega) (by omega)).mp q))]
  unfold fX1_readFrom_14
  rw [if_neg (lt1000 ht), if_pos rfl, if_pos rfl]
  by_cases x : a = 41
  · rw [if_pos (show ct = 41 by rw [ea, x]; rfl), if_pos (show ne ≤ 0 by rw [hn, show d = 0 by omega]; decide)]
    exact e73
  · rw [if_neg (show ¬ ct = 41 by rw [ea]; exact fun q => x ((nI_eq (b := 41) (by omega) (by omega)).mp q))]
    exact e73
theorem c_t4 {d t : Nat} {w n' l b p tp' tk nu : Int32} {nm' : Int64} {c : Nat → Int32} (ht : t ≤ 1000) (ea : ct = nI 41) (hn : ne = nI d) (hd : 0 < d ∧ d < 7) (h : fX1_closeBracket len st signs words wt ne le cb cp tp ct cnu cnm code = some (w, n', l, b, p, tp', tk, nu, nm', c)) : fX1_readFrom_14 len signs words k14 wt ne le cb cp tp ct cnu 0 cnm code st 0 (nI t) = k14 w n' l b p tp' tk nu 0 nm' c st 0 (nI (t + 1)) := by
  unfold fX1_readFrom_14
  rw [if_neg (lt1000 ht), if_pos rfl, if_pos rfl, if_pos (show ct = 41 from ea), if_neg (show ¬ ne ≤ 0 by rw [hn]; exact fun x => absurd (show (0 : Int32) < nI d from nI_lt (a := 0) (by omega) (by omega)) (Int32.not_lt.mpr x)), h, Option.bind_some, nI_1]
theorem c_t5 {t : Nat} (ht : t ≤ 1000) (ea : ct = nI 59) (hn : ne = nI 0) : fX1_readFrom_14 len signs words k14 wt ne le cb cp tp ct cnu 0 cnm code st 0 (nI t) = fX1_readFrom_105 len signs words wt ne le cb cp tp ct cnu 0 cnm code st := by
  unfold fX1_readFrom_14 fX1_readFrom_73
  rw [if_neg (lt1000 ht), if_pos rfl, if_pos rfl, if_neg (show ¬ ct = 41 by rw [ea]; decide), if_pos (show ct = 59 from ea), if_pos (show ne = 0 from hn)]
end LT
theorem LwC_m {X : AS} {E : CC} {B B' : Nat} {wt ne le : Int32} {code st : Nat → Int32} (h : LwC X E B wt ne le code st) (hB : B ≤ B') : LwC X E B' wt ne le code st := ⟨h.1, h.2.1, h.2.2.1, h.2.2.2.1, h.2.2.2.2.1, h.2.2.2.2.2.1, Nat.le_trans h.2.2.2.2.2.2.1 hB, h.2.2.2.2.2.2.2⟩
theorem LwM_m {X : AS} {C : CC} {B B' : Nat} {dp co : Int32} {cds op cm : Nat → Int32} (h : LwM X C B dp co cds op cm) (hB : B ≤ B') : LwM X C B' dp co cds op cm := ⟨h.1, h.2.1, h.2.2.1, h.2.2.2.1, h.2.2.2.2.1, h.2.2.2.2.2.1, Nat.le_trans h.2.2.2.2.2.2 hB⟩
def LwGood (code codes : Nat → Int32) (le co : Int32) : Prop := ∃ (C E : CC) (s : Lv) (x : Sv), Gd C ∧ arun C = ([s], some x) ∧ CdR codes 1000 C ∧ co = nI (1000 + C.1) ∧ C.1 ≤ 1000 ∧ CdR code 0 E ∧ le = nI E.1 ∧ gdE E ∧ E.1 ≤ 1000 ∧ ∀ e, crun e E = [r1 s x e]
def LwEnd (z : Nat → Nat) (n : Nat) (signs : Nat → Int32) (words : Nat → Int64) (wr : Int32) (cds0 : Nat → Int32) (rc : RC1) (rm : RM9) : Prop := (∀ j, j < 1000 → rm.2.2.2.2.2.2.2.2.1 j = cds0 j) ∧
  ((rc.2.2.2.2.2.2.2.2.1 = 0 ∧ rm.1 = 1 ∧ rm.2.2.2.2.2.1 = wr ∧ LwGood rc.2.2.2.2.2.2.2.2.2.2.1 rm.2.2.2.2.2.2.2.2.1 rc.2.2.1 rm.2.2.2.2.2.2.1 ∧ rc.2.2.2.2.2.2.1 = 59 ∧ ∃ (cb' cp' ct' cn' : Int32) (cm' : Int64), fX5_next (nI n) signs words rc.2.2.2.1 rc.2.2.2.2.1 rc.2.2.2.2.2.1 rc.2.2.2.2.2.2.1 rc.2.2.2.2.2.2.2.1 rc.2.2.2.2.2.2.2.2.2.1 = some (cb', cp', rc.2.2.2.2.1, ct', cn', cm') ∧ RdR z n cb' cp' ct' cn' cm' rm.2.1 rm.2.2.1 rm.2.2.2.1 rm.2.2.2.2.1 rm.2.2.2.2.2.2.2.1) ∨
   (∃ f : Int32, ¬ f = 0 ∧ rc.2.2.2.2.2.2.2.2.1 = f ∧ rm.1 = 0 ∧ rm.2.2.2.2.2.1 = f))
theorem LwEnd_cds {z : Nat → Nat} {n : Nat} {signs : Nat → Int32} {words : Nat → Int64} {wr : Int32} {cds cds' : Nat → Int32} {rc : RC1} {rm : RM9} (h : LwEnd z n signs words wr cds' rc rm) (e : ∀ j, j < 1000 → cds' j = cds j) : LwEnd z n signs words wr cds rc rm := ⟨fun j hj => (h.1 j hj).trans (e j hj), h.2⟩
