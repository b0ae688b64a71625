/-! names: what may stand as one, and where it stands -/
section NK
variable {z : Nat → Nat} {n q r : Nat} {ct cnu mt mnu : Int32} {cnm mwd : Int64}
def chn (w : Int64) : List Int64 → Option Int32
  | [] => some 0
  | a :: l => if lg_cmp w a = 0 then some 1 else chn w l
theorem chn_eq (w : Int64) (l : List Int64) : (w ∈ l → chn w l = some 1) ∧ (w ∉ l → chn w l = some 0) := by
  induction l with
  | nil => exact ⟨fun h => absurd h (by simp), fun _ => rfl⟩
  | cons a l ih =>
    unfold chn
    by_cases x : w = a
    · rw [if_pos ((cmp0 _ _).mpr x)]
      exact ⟨fun _ => rfl, fun h => absurd (by rw [x]; exact List.mem_cons_self) h⟩
    · rw [if_neg (fun e => x ((cmp0 _ _).mp e))]
      refine ⟨fun h => ih.1 ?_, fun h => ih.2 (fun e => h (List.mem_cons_of_mem _ e))⟩
      rcases List.mem_cons.mp h with e | e
      · exact absurd e x
      · exact e
def kls : List Int64 := [168728, 126880, 70023, 1489744, 453774, 4137608, 16812, 70312, 374798, 10656676, 90302, 583, 7873077725, 1424122, 2968, 8740238, 330846583, 2949235, 2234, 10631, 1111, 423]
theorem kls_eq : kls = (List.range 22).map (fun i => lN (Ww i)) := by decide +kernel
theorem kept_chn (t : Int32) (w : Int64) : fX9_isKept t w = if t = 1 then chn w kls else some 1 := rfl
def isNm (ct : Int32) : Prop := ct = nI 3 ∨ ∃ i, 22 ≤ i ∧ i < 26 ∧ ct = nI (128 + i)
theorem t_kept (h : TokR z n q r ct cnu cnm mt mnu mwd) : (isNm ct → q < r ∧ r ≤ q + 8 ∧ (∀ j, j < r - q → isLt (z (q + j))) ∧ cnm = lN (nm z q (r - q)) ∧ mwd = lN (wd_ z q (r - q)) ∧ fX9_isKept mt mwd = some 0) ∧ (¬ isNm ct → fX9_isKept mt mwd = some 1) := by
  obtain ⟨_, _, h⟩ := h
  have no : ∀ (a b : Nat), a < 128 → a ≠ 3 → b < 5 → b ≠ 1 → ct = nI a → mt = nI b → ¬ isNm ct ∧ fX9_isKept mt mwd = some 1 := by
    intro a b ha ha3 hb hb1 e1 e2
    refine ⟨fun h => ?_, ?_⟩
    · rw [e1] at h
      rcases h with h | ⟨i, _, _, h⟩
      · exact ha3 ((nI_eq (by omega) (by omega)).mp h)
      · have := (nI_eq (by omega) (by omega)).mp h
        omega
    · have d2 : ¬ mt = 1 := fun e => by
        rw [e2] at e
        exact hb1 ((nI_eq (b := 1) (by omega) (by omega)).mp e)
      rw [kept_chn, if_neg d2]
  have fin : ¬ isNm ct ∧ fX9_isKept mt mwd = some 1 → (isNm ct → q < r ∧ r ≤ q + 8 ∧ (∀ j, j < r - q → isLt (z (q + j))) ∧ cnm = lN (nm z q (r - q)) ∧ mwd = lN (wd_ z q (r - q)) ∧ fX9_isKept mt mwd = some 0) ∧ (¬ isNm ct → fX9_isKept mt mwd = some 1) := fun h => ⟨fun e => absurd e h.1, fun _ => h.2⟩
  rcases h with ⟨_, _, e1, e2⟩ | ⟨hqr, h8, hl, en, ew, e2, h⟩ | ⟨_, e1, e2, _⟩ | ⟨_, h33, h126, _, _, e1, e2⟩ | ⟨_, e1, e2⟩
  · exact fin (no 0 0 (by omega) (by omega) (by omega) (by omega) e1 e2)
  · have hw : ∀ i, i < 26 → (nm z q (r - q) = Vw i ↔ wd_ z q (r - q) = Ww i) := fun i hi => nm_Vw (z := z) (b := q) (k := r - q) (i := i) (by omega) hi hl
    have hin : (mwd ∈ kls) ↔ ∃ i, i < 22 ∧ nm z q (r - q) = Vw i := by
      rw [kls_eq, ew]
      constructor
      · intro h
        obtain ⟨i, hi, e⟩ := List.mem_map.mp h
        have hi := List.mem_range.mp hi
        exact ⟨i, hi, (hw i (by omega)).mpr ((pk_lEQ (Ww_lt i (by omega)) (wd_lt hl)).mp e).symm⟩
      · rintro ⟨i, hi, e⟩
        refine List.mem_map.mpr ⟨i, List.mem_range.mpr hi, ?_⟩
        show lN (Ww i) = lN (wd_ z q (r - q))
        rw [(hw i (by omega)).mp e]
    have ek : fX9_isKept mt mwd = chn mwd kls := by rw [kept_chn, if_pos (show mt = 1 from e2)]
    have good : (¬ ∃ i, i < 22 ∧ nm z q (r - q) = Vw i) → q < r ∧ r ≤ q + 8 ∧ (∀ j, j < r - q → isLt (z (q + j))) ∧ cnm = lN (nm z q (r - q)) ∧ mwd = lN (wd_ z q (r - q)) ∧ fX9_isKept mt mwd = some 0 := fun hno => ⟨hqr, h8, hl, en, ew, by rw [ek]; exact (chn_eq _ _).2 (fun e => hno (hin.mp e))⟩
    rcases h with ⟨j, hj, ej, et⟩ | ⟨hno, et⟩
    · by_cases x : j < 22
      · refine fin ⟨fun h => ?_, by rw [ek]; exact (chn_eq _ _).1 (hin.mpr ⟨j, x, ej⟩)⟩
        rw [et] at h
        rcases h with h | ⟨i, _, _, h⟩
        · have := (nI_eq (by omega) (by omega)).mp h
          omega
        · have := (nI_eq (by omega) (by omega)).mp h
          omega
      · refine ⟨fun _ => good ?_, fun h => absurd (Or.inr ⟨j, by omega, hj, et⟩) h⟩
        rintro ⟨i, hi, e⟩
        have := Vw_inj i (by omega) j hj
        rw [← e, ← ej] at this
        simp at this
        omega
    · exact ⟨fun _ => good (fun ⟨i, hi, e⟩ => hno i (by omega) e), fun h => absurd (Or.inl et) h⟩
  · exact fin (no 2 2 (by omega) (by omega) (by omega) (by omega) e1 e2)
  · by_cases x : isSg (z q) = true
    · exact fin (no (z q) 3 (by omega) (by omega) (by omega) (by omega) e1 (by rw [e2, if_pos x]))
    · exact fin (no (z q) 4 (by omega) (by omega) (by omega) (by omega) e1 (by rw [e2, if_neg x]))
  · exact fin (no 1 4 (by omega) (by omega) (by omega) (by omega) e1 e2)
end NK
