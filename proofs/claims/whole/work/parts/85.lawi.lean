/-! the law: the reference reads a token of it -/
section LI
variable {z : Nat → Nat} {n q r : Nat} {ct cnu mt mnu : Int32} {cnm mwd : Int64}
theorem t_two (h : TokR z n q r ct cnu cnm mt mnu mwd) : (mt = 2 ↔ ct = 2) ∧ (ct = 2 → ∃ v, v < 10000 ∧ cnu = nI v ∧ mnu = nI v) := by
  obtain ⟨_, _, h⟩ := h
  have no : ∀ (a b : Nat), a ≠ 2 → a < 160 → b < 5 → b ≠ 2 → ct = nI a → mt = nI b → (mt = 2 ↔ ct = 2) ∧ (ct = 2 → ∃ v, v < 10000 ∧ cnu = nI v ∧ mnu = nI v) := by
    intro a b h1 h2 h3 h4 e1 e2
    have n1 : ¬ ct = 2 := by
      rw [e1]
      exact fun q => h1 ((nI_eq (b := 2) (by omega) (by omega)).mp q)
    have n2 : ¬ mt = 2 := by
      rw [e2]
      exact fun q => h4 ((nI_eq (b := 2) (by omega) (by omega)).mp q)
    exact ⟨⟨fun q => absurd q n2, fun q => absurd q n1⟩, fun q => absurd q n1⟩
  rcases h with ⟨_, _, e1, e2⟩ | ⟨_, _, _, _, _, e2, h⟩ | ⟨_, e1, e2, hv⟩ | ⟨_, h1, h2, _, _, e1, e2⟩ | ⟨_, e1, e2⟩
  · exact no 0 0 (by omega) (by omega) (by omega) (by omega) e1 e2
  · rcases h with ⟨i, hi, _, e1⟩ | ⟨_, e1⟩
    · exact no (128 + i) 1 (by omega) (by omega) (by omega) (by omega) e1 e2
    · exact no 3 1 (by omega) (by omega) (by omega) (by omega) e1 e2
  · exact ⟨⟨fun _ => e1, fun _ => e2⟩, fun _ => hv⟩
  · refine no (z q) (if isSg (z q) = true then 3 else 4) (by omega) (by omega) ?_ ?_ e1 e2
    · split <;> omega
    · split <;> omega
  · exact no 1 4 (by omega) (by omega) (by omega) (by omega) e1 e2
theorem Ww_law : lN (Ww 19) = 10631 ∧ lN (Ww 20) = 1111 ∧ lN (Ww 21) = 423 ∧ lN (Ww 22) = 240023 ∧ lN (Ww 23) = 136960988 ∧ lN (Ww 24) = 375062 ∧ lN (Ww 25) = 80006 := by decide +kernel
theorem t_wd {a : Nat} (h : TokR z n q r ct cnu cnm mt mnu mwd) (hz : ∀ i, i < n → z i < 127) (ha : a < 154) (ea : ct = nI a) : ∀ i, i < 26 → fX9_isWord mt mwd (lN (Ww i)) = some (nI (b2 (decide (a = 128 + i)))) := fun i hi => by
  rw [t_word h hz hi, ea]
  have e : decide (nI a = nI (128 + i)) = decide (a = 128 + i) := decide_eq_decide.mpr (nI_eq (by omega) (by omega))
  rw [e]
theorem t_sg {a : Nat} {tape : Nat → Int32} (h : TokR z n q r ct cnu cnm mt mnu mwd) (hn : n ≤ 1000) (hm : ∀ i, i < n → tape i = nI (z i)) (ha : a < 154) (ea : ct = nI a) {s : Nat} (hs : isSg s = true) (hs2 : 33 ≤ s ∧ s ≤ 126) : fX9_isSign (nI q) mt tape (nI s) = some (nI (b2 (decide (a = s)))) := by
  rw [t_sign h hn hm hs hs2, ea]
  have e : decide (nI a = nI s) = decide (a = s) := decide_eq_decide.mpr (nI_eq (by omega) (by omega))
  rw [e]
def fac (a : Nat) : Nat := if 150 ≤ a ∧ a ≤ 153 then a - 149 else 0
theorem w_iff {w : Int64} {b : Bool} (h : fX9_isWord mt mwd w = some (nI (b2 b))) (h1 : mt = 1) : (lg_cmp mwd w = 0) = (b = true) := by
  unfold fX9_isWord at h
  rw [if_pos h1] at h
  by_cases x : lg_cmp mwd w = 0
  · rw [if_pos x] at h
    cases b with
    | true => exact propext ⟨fun _ => rfl, fun _ => x⟩
    | false => exact absurd h (by decide)
  · rw [if_neg x] at h
    cases b with
    | true => exact absurd h (by decide)
    | false => exact propext ⟨fun q => absurd q x, fun q => absurd q (by decide)⟩
theorem t_fact {a : Nat} (h : TokR z n q r ct cnu cnm mt mnu mwd) (hz : ∀ i, i < n → z i < 127) (ha : a < 154) (ea : ct = nI a) : fX9_fact mt mwd = some (nI (fac a)) := by
  have w := t_wd h hz ha ea
  have w22 := w 22 (by omega)
  have w23 := w 23 (by omega)
  have w24 := w 24 (by omega)
  have w25 := w 25 (by omega)
  obtain ⟨_, _, _, e22, e23, e24, e25⟩ := Ww_law
  rw [e22] at w22
  rw [e23] at w23
  rw [e24] at w24
  rw [e25] at w25
  unfold fX9_fact fac
  by_cases x : mt = 1
  · have c22 := w_iff w22 x
    have c23 := w_iff w23 x
    have c24 := w_iff w24 x
    have c25 := w_iff w25 x
    rw [if_pos x]
    by_cases x1 : a = 128 + 22
    · rw [if_pos (c22.mpr (decide_eq_true x1)), if_pos (by omega), show a - 149 = 1 by omega]; rfl
    rw [if_neg (fun q => x1 (of_decide_eq_true (c22.mp q)))]
    by_cases x2 : a = 128 + 23
    · rw [if_pos (c23.mpr (decide_eq_true x2)), if_pos (by omega), show a - 149 = 2 by omega]; rfl
    rw [if_neg (fun q => x2 (of_decide_eq_true (c23.mp q)))]
    by_cases x3 : a = 128 + 24
    · rw [if_pos (c24.mpr (decide_eq_true x3)), if_pos (by omega), show a - 149 = 3 by omega]; rfl
    rw [if_neg (fun q => x3 (of_decide_eq_true (c24.mp q)))]
    by_cases x4 : a = 128 + 25
    · rw [if_pos (c25.mpr (decide_eq_true x4)), if_pos (by omega), show a - 149 = 4 by omega]; rfl
    rw [if_neg (fun q => x4 (of_decide_eq_true (c25.mp q))), if_neg (by omega)]; rfl
  · rw [if_neg x]
    have no : ∀ i, i < 26 → a ≠ 128 + i := fun i hi q => by
      have := w i hi
      unfold fX9_isWord at this
      rw [if_neg x, decide_eq_true q] at this
      exact absurd this (by decide)
    have := no 22 (by omega); have := no 23 (by omega); have := no 24 (by omega); have := no 25 (by omega)
    rw [if_neg (by omega)]; rfl
end LI
def OpL (op cm : Nat → Int32) : List Lv → Prop
  | [] => True
  | s :: L => (0 < L.length → op L.length = nI s.o) ∧ cm L.length = nI (b2 (decide (s.ag ≠ 0))) ∧ OpL op cm L
theorem OpL_congr {op cm op' cm' : Nat → Int32} : ∀ {L : List Lv}, OpL op cm L → (∀ j, j < L.length → op' j = op j ∧ cm' j = cm j) → OpL op' cm' L
  | [], _, _ => trivial
  | s :: L, h, q => ⟨fun e => by rw [(q _ (Nat.lt_succ_self _)).1]; exact h.1 e, by rw [(q _ (Nat.lt_succ_self _)).2]; exact h.2.1, OpL_congr h.2.2 (fun j hj => q j (Nat.lt_succ_of_lt hj))⟩
theorem OpL_arr {op cm : Nat → Int32} : ∀ {L : List Lv} {v : Sv}, OpL op cm L → OpL op cm (arr L v).1
  | [], _, _ => trivial
  | s :: L, v, h => by
    show OpL op cm (if s.o = 1 then arr L (nt v) else (s :: L, v)).1
    by_cases x : s.o = 1
    · rw [if_pos x]; exact OpL_arr h.2.2
    · rw [if_neg x]; exact h
def LwM (X : AS) (C : CC) (B : Nat) (dp co : Int32) (cds op cm : Nat → Int32) : Prop := X = arun C ∧ Gd C ∧ dp = nI (X.1.length - 1) ∧ co = nI (1000 + C.1) ∧ CdR cds 1000 C ∧ OpL op cm X.1 ∧ C.1 ≤ B
section LJ
variable {sz mp mb mt mnu wr co : Int32} {mwd : Int64} {tape cds op cm : Nat → Int32} {k11 : Int32 → Int32 → Int32 → Int32 → Int32 → Int32 → Int64 → (Nat → Int32) → (Nat → Int32) → (Nat → Int32) → Int32 → Int32 → Option (Int32 × Int32 × Int32 × Int32 × Int32 × Int32 × Int32 × Int64 × (Nat → Int32) × (Nat → Int32) × (Nat → Int32))} {yn : Int32 × Int32 × Int32 × Int32 × Int64}
theorem m_puts {C : CC} {c : Nat} (hC : C.1 < 1000) : fX9_puts (nI (1000 + C.1)) cds (nI c) = some (nI (1000 + (sn C c).1), upd cds (1000 + C.1) (nI c)) := by
  unfold fX9_puts
  rw [nB (by omega) (by omega), cond_true, nC (by omega), nI_1]
  rfl
theorem m_152 {zz : Int32 → Int32 → Int32 → Int32 → Int32 → Int32 → Int64 → (Nat → Int32) → (Nat → Int32) → (Nat → Int32) → Int32 → Int32 → Option (Int32 × Int32 × Int32 × Int32 × Int32 × Int32 × Int32 × Int64 × (Nat → Int32) × (Nat → Int32) × (Nat → Int32))} {v2 : Int32} : ∀ (L : List Lv) (v : Sv) (N : Nat), WfL L → L.length ≤ 7 → L.length ≤ N → OpL op cm L → itr (fun kk => fX9_reads_152 sz tape k11 kk) zz N mp mb mt mnu wr co mwd cds op cm (nI (L.length - 1)) v2 = fX9_reads_172 sz tape k11 mp mb mt mnu wr co mwd cds op cm (nI ((arr L v).1.length - 1)) v2
  | [], _, _, h, _, _, _ => absurd h id
  | [s], v, N, h, _, hN, _ => by
    obtain ⟨N, rfl⟩ : ∃ m, N = m + 1 := ⟨N - 1, by have : 1 ≤ N := hN; omega⟩
    have ea : arr [s] v = ([s], v) := by
      show (if s.o = 1 then _ else _) = _
      rw [if_neg (by rw [h.1]; decide)]
    rw [ea]
    show fX9_reads_152 sz tape k11 (itr (fun kk => fX9_reads_152 sz tape k11 kk) zz N) mp mb mt mnu wr co mwd cds op cm (nI 0) v2 = fX9_reads_172 sz tape k11 mp mb mt mnu wr co mwd cds op cm (nI 0) v2
    unfold fX9_reads_152
    rw [if_pos (show nI 0 ≤ 0 by decide)]
  | s :: t :: L, v, N, h, h7, hN, hO => by
    have h7 : L.length + 2 ≤ 7 := h7
    obtain ⟨N, rfl⟩ : ∃ m, N = m + 1 := ⟨N - 1, by have : L.length + 2 ≤ N := hN; omega⟩
    have hN : L.length + 2 ≤ N + 1 := hN
    have ho : op (L.length + 1) = nI s.o := hO.1 (Nat.succ_pos _)
    show fX9_reads_152 sz tape k11 (itr (fun kk => fX9_reads_152 sz tape k11 kk) zz N) mp mb mt mnu wr co mwd cds op cm (nI (L.length + 1)) v2 = _
    unfold fX9_reads_152
    rw [if_neg (show ¬ nI (L.length + 1) ≤ 0 from fun q => absurd (show (0 : Int32) < nI (L.length + 1) from nI_lt (a := 0) (by omega) (by omega)) (Int32.not_lt.mpr q)), nB (by omega) (by omega), cond_true, nC (by omega), ho]
    rcases h.1 with x | x
    · have ea : arr (s :: t :: L) v = arr (t :: L) (nt v) := by
        show (if s.o = 1 then _ else _) = _
        rw [if_pos x]
      rw [ea, x, if_pos (show nI 1 = 1 from rfl), pk_m1]
      exact m_152 (zz := zz) (t :: L) (nt v) N h.2.2.2 (show L.length + 1 ≤ 7 by omega) (show L.length + 1 ≤ N by omega) hO.2.2
    · have ea : arr (s :: t :: L) v = (s :: t :: L, v) := by
        show (if s.o = 1 then _ else _) = _
        rw [if_neg (by omega)]
      rw [ea, x, if_neg (show ¬ nI 2 = 1 by decide)]
      rfl
theorem m_379 {zz : Int32 → Int32 → Int32 → Int32 → Int32 → Int32 → Int64 → (Nat → Int32) → (Nat → Int32) → (Nat → Int32) → Int32 → Int32 → Option (Int32 × Int32 × Int32 × Int32 × Int32 × Int32 × Int32 × Int64 × (Nat → Int32) × (Nat → Int32) × (Nat → Int32))} {v2 : Int32} : ∀ (L : List Lv) (v : Sv) (N : Nat), WfL L → L.length ≤ 7 → L.length ≤ N → OpL op cm L → itr (fun kk => fX9_reads_379 sz tape k11 kk) zz N mp mb mt mnu wr co mwd cds op cm (nI (L.length - 1)) v2 = fX9_reads_424 sz tape k11 mp mb mt mnu wr co mwd cds op cm (nI ((arr L v).1.length - 1)) v2
  | [], _, _, h, _, _, _ => absurd h id
  | [s], v, N, h, _, hN, _ => by
    obtain ⟨N, rfl⟩ : ∃ m, N = m + 1 := ⟨N - 1, by have : 1 ≤ N := hN; omega⟩
    have ea : arr [s] v = ([s], v) := by
      show (if s.o = 1 then _ else _) = _
      rw [if_neg (by rw [h.1]; decide)]
    rw [ea]
    show fX9_reads_379 sz tape k11 (itr (fun kk => fX9_reads_379 sz tape k11 kk) zz N) mp mb mt mnu wr co mwd cds op cm (nI 0) v2 = fX9_reads_424 sz tape k11 mp mb mt mnu wr co mwd cds op cm (nI 0) v2
    unfold fX9_reads_379
    rw [if_pos (show nI 0 ≤ 0 by decide)]
  | s :: t :: L, v, N, h, h7, hN, hO => by
    have h7 : L.length + 2 ≤ 7 := h7
    obtain ⟨N, rfl⟩ : ∃ m, N = m + 1 := ⟨N - 1, by have : L.length + 2 ≤ N := hN; omega⟩
    have hN : L.length + 2 ≤ N + 1 := hN
    have ho : op (L.length + 1) = nI s.o := hO.1 (Nat.succ_pos _)
    show fX9_reads_379 sz tape k11 (itr (fun kk => fX9_reads_379 sz tape k11 kk) zz N) mp mb mt mnu wr co mwd cds op cm (nI (L.length + 1)) v2 = _
    unfold fX9_reads_379
    rw [if_neg (show ¬ nI (L.length + 1) ≤ 0 from fun q => absurd (show (0 : Int32) < nI (L.length + 1) from nI_lt (a := 0) (by omega) (by omega)) (Int32.not_lt.mpr q)), nB (by omega) (by omega), cond_true, nC (by omega), ho]
    rcases h.1 with x | x
    · have ea : arr (s :: t :: L) v = arr (t :: L) (nt v) := by
        show (if s.o = 1 then _ else _) = _
        rw [if_pos x]
      rw [ea, x, if_pos (show nI 1 = 1 from rfl), pk_m1]
      exact m_379 (zz := zz) (t :: L) (nt v) N h.2.2.2 (show L.length + 1 ≤ 7 by omega) (show L.length + 1 ≤ N by omega) hO.2.2
    · have ea : arr (s :: t :: L) v = (s :: t :: L, v) := by
        show (if s.o = 1 then _ else _) = _
        rw [if_neg (by omega)]
      rw [ea, x, if_neg (show ¬ nI 2 = 1 by decide)]
      rfl
/-- a value is written down -/
theorem m_147 {L : List Lv} {C : CC} {B c : Nat} {v : Sv} {dp : Int32} (hM : LwM (L, none) C B dp co cds op cm) (hW : WfL L) (h5 : L.length ≤ 5) (hB : B < 1000) (hg : gds (L, none) c) (ea : ast (L, none) c = arS (arr L v)) (hn : fX9_nextToken sz tape mp mb mt mnu mwd = some yn) :
    ∃ dp' co' cds', fX9_reads_147 sz tape k11 mp mb mt mnu wr co mwd cds op cm dp (nI c) = k11 yn.1 yn.2.1 yn.2.2.1 yn.2.2.2.1 wr co' yn.2.2.2.2 cds' op cm dp' 0 ∧ LwM (arS (arr L v)) (sn C c) (B + 1) dp' co' cds' op cm ∧ ∀ j, j < 1000 → cds' j = cds j := by
  obtain ⟨hX, hG, rfl, rfl, hC, hO, hB2⟩ := hM
  refine ⟨nI ((arr L v).1.length - 1), _, _, ?_, ⟨?_, Gd_sn hG (by rw [← hX]; exact hg), rfl, rfl, CdR_sn hC, OpL_arr hO, by show C.1 + 1 ≤ B + 1; omega⟩, fun j hj => pk_un (by omega)⟩
  · unfold fX9_reads_147
    rw [m_puts (by omega)]
    simp only [Option.bind_some]
    show itr (fun kk => fX9_reads_152 sz tape k11 kk) _ FU mp mb mt mnu wr (nI (1000 + (sn C c).1)) mwd (upd cds (1000 + C.1) (nI c)) op cm (nI (L.length - 1)) 0 = _
    rw [m_152 L v FU hW (by omega) (by unfold FU; omega) hO]
    unfold fX9_reads_172
    rw [hn]
    rfl
  · rw [arun_sn, ← hX, ea]
/-- a 'not' or a bracket opens -/
theorem m_86 {L : List Lv} {C : CC} {B o c : Nat} {dp v4 : Int32} (hM : LwM (L, none) C B dp co cds op cm) (hW : WfL L) (h5 : L.length ≤ 5) (hB : B < 1000) (hc : (c = 30 ∧ o = 1 ∧ v4 = 1) ∨ (c = 28 ∧ o = 2 ∧ v4 = 0)) (hn : fX9_nextToken sz tape mp mb mt mnu mwd = some yn) :
    ∃ dp' co' cds' op' cm', fX9_reads_86 sz tape k11 mp mb mt mnu wr co mwd cds op cm dp 1 v4 = k11 yn.1 yn.2.1 yn.2.2.1 yn.2.2.2.1 wr co' yn.2.2.2.2 cds' op' cm' dp' 1 ∧ LwM (z5 o :: L, none) (sn C c) (B + 1) dp' co' cds' op' cm' ∧ ∀ j, j < 1000 → cds' j = cds j := by
  obtain ⟨hX, hG, rfl, rfl, hC, hO, hB2⟩ := hM
  have hp : 0 < L.length := by
    cases L with
    | nil => exact absurd hW id
    | cons t L => exact Nat.succ_pos _
  have e1 : nI (L.length - 1) + 1 = nI L.length := by rw [nI_1, show L.length - 1 + 1 = L.length by omega]
  refine ⟨nI L.length, _, _, upd op L.length (nI o), upd cm L.length (vp_nar .boolean 0), ?_, ⟨?_, Gd_sn hG (by rw [← hX]; exact ⟨h5, by omega⟩), rfl, rfl, CdR_sn (c := c) hC, ⟨fun _ => pk_us, by rw [pk_us]; exact (show vp_nar FieldType.boolean 0 = nI (b2 (decide ((0 : Nat) ≠ 0))) by decide), OpL_congr hO (fun j hj => ⟨pk_un (by omega), pk_un (by omega)⟩)⟩, by show C.1 + 1 ≤ B + 1; omega⟩, fun j hj => pk_un (by omega)⟩
  · have e120 : ∀ (co' : Int32) (cds' : Nat → Int32), fX9_reads_120 sz tape k11 mp mb mt mnu wr co' mwd cds' op cm (nI L.length) 1 (nI o) (nI L.length) = k11 yn.1 yn.2.1 yn.2.2.1 yn.2.2.2.1 wr co' yn.2.2.2.2 cds' (upd op L.length (nI o)) (upd cm L.length (vp_nar .boolean 0)) (nI L.length) 1 := fun co' cds' => by
      unfold fX9_reads_120 fX9_reads_172
      rw [nB (by omega) (by omega), cond_true, cond_true, nC (by omega), hn]
      rfl
    show fX9_reads_86 sz tape k11 mp mb mt mnu wr (nI (1000 + C.1)) mwd cds op cm (nI (L.length - 1)) 1 v4 = _
    unfold fX9_reads_86 fX9_reads_99
    rcases hc with ⟨rfl, rfl, rfl⟩ | ⟨rfl, rfl, rfl⟩
    · rw [if_neg (by decide : ¬ (1 : Int32) = 0), show (30 : Int32) = nI 30 from rfl, m_puts (by omega)]
      simp only [Option.bind_some]
      rw [if_neg (by decide : ¬ (1 : Int32) = 0), e1]
      exact e120 _ _
    · rw [if_pos (by rfl : (0 : Int32) = 0), show (28 : Int32) = nI 28 from rfl, m_puts (by omega)]
      simp only [Option.bind_some]
      rw [if_pos trivial, e1]
      exact e120 _ _
  · rw [arun_sn, ← hX]
    rcases hc with ⟨rfl, rfl, _⟩ | ⟨rfl, rfl, _⟩ <;> rfl
/-- an operator is written down: plain, of comparing, of keeping -/
theorem m_op {s s2 : Lv} {L : List Lv} {x : Sv} {C : CC} {B c : Nat} {dp : Int32} {cm' : Nat → Int32} (hM : LwM (s :: L, some x) C B dp co cds op cm) (hB : B < 1000) (h6 : L.length < 6) (hg : gds (s :: L, some x) c) (ea : astS s L x c = (s2 :: L, none)) (ho : s2.o = s.o) (hcm : cm' L.length = nI (b2 (decide (s2.ag ≠ 0)))) (hcn : ∀ j, j ≠ L.length → cm' j = cm j) :
    LwM (s2 :: L, none) (sn C c) (B + 1) dp (nI (1000 + (sn C c).1)) (upd cds (1000 + C.1) (nI c)) op cm' ∧ ∀ j, j < 1000 → upd cds (1000 + C.1) (nI c) j = cds j := by
  obtain ⟨hX, hG, rfl, rfl, hC, hO, hB2⟩ := hM
  refine ⟨⟨?_, Gd_sn hG (by rw [← hX]; exact hg), rfl, rfl, CdR_sn hC, ⟨fun e => by rw [hO.1 e, ho], hcm, OpL_congr hO.2.2 (fun j hj => ⟨rfl, hcn j (by omega)⟩)⟩, by show C.1 + 1 ≤ B + 1; omega⟩, fun j hj => pk_un (by omega)⟩
  rw [arun_sn, ← hX]
  exact ea.symm
end LJ
