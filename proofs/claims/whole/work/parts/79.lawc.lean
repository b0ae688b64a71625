/-! the law: what the reference works out, step by step -/
abbrev RG : Type := (Nat → Int32) × (Nat → Int32) × (Nat → Int32) × (Nat → Int32) × (Nat → Int32) × (Nat → Int32) × (Nat → Int32) × (Nat → Int32) × (Nat → Int32)
def RG.kp (s : RG) : Nat → Int32 := s.1
def RG.kb (s : RG) : Nat → Int32 := s.2.1
def RG.ah (s : RG) : Nat → Int32 := s.2.2.1
def RG.ag (s : RG) : Nat → Int32 := s.2.2.2.1
def RG.sm (s : RG) : Nat → Int32 := s.2.2.2.2.1
def RG.sb (s : RG) : Nat → Int32 := s.2.2.2.2.2.1
def RG.tm (s : RG) : Nat → Int32 := s.2.2.2.2.2.2.1
def RG.tb (s : RG) : Nat → Int32 := s.2.2.2.2.2.2.2.1
def RG.bn (s : RG) : Nat → Int32 := s.2.2.2.2.2.2.2.2
def RegS (R : RG) (e : EnvL) (i : Nat) (s : Lv) : Prop := R.kb i = nI s.kb ∧ (s.kb ≠ 0 → R.kp i = s.kv e) ∧ R.ag i = nI s.ag ∧ (s.ag ≠ 0 → R.ah i = s.av e) ∧ R.sb i = nI (if s.sb = 0 then 20 else s.sb) ∧ R.sm i = (if s.sb = 0 then 0 else s.sv e) ∧ (0 < i → (R.bn i = 1 ↔ s.o = 1))
def RegL (R : RG) (e : EnvL) : List Lv → Prop
  | [] => True
  | s :: L => RegS R e L.length s ∧ R.tb L.length = nI s.tb ∧ (s.tb ≠ 0 → R.tm L.length = s.tv e) ∧ RegL R e L
def RegR (R : RG) (e : EnvL) (X : AS) : Prop := match X with
  | (L, none) => RegL R e L
  | (s :: L, some x) => RegS R e L.length s ∧ R.tm L.length = r4 s x e ∧ RegL R e L
  | ([], some _) => False
def EqB (R R' : RG) (n : Nat) : Prop := ∀ j, j < n → R'.kp j = R.kp j ∧ R'.kb j = R.kb j ∧ R'.ah j = R.ah j ∧ R'.ag j = R.ag j ∧ R'.sm j = R.sm j ∧ R'.sb j = R.sb j ∧ R'.tm j = R.tm j ∧ R'.tb j = R.tb j ∧ R'.bn j = R.bn j
theorem RegL_congr {R R' : RG} {e : EnvL} : ∀ {L : List Lv}, RegL R e L → EqB R R' L.length → RegL R' e L
  | [], _, _ => trivial
  | s :: L, h, q => by
    obtain ⟨a1, a2, a3, a4, a5, a6, a7, a8, a9⟩ := q L.length (Nat.lt_succ_self _)
    refine ⟨?_, by rw [a8]; exact h.2.1, by rw [a7]; exact h.2.2.1, RegL_congr h.2.2.2 (fun j hj => q j (Nat.lt_succ_of_lt hj))⟩
    unfold RegS
    rw [a1, a2, a3, a4, a5, a6, a9]
    exact h.1
section WK
variable {lf lt cds vo : Nat → Int32} {k14 : (Nat → Int32) → (Nat → Int32) → (Nat → Int32) → (Nat → Int32) → (Nat → Int32) → (Nat → Int32) → (Nat → Int32) → (Nat → Int32) → (Nat → Int32) → Int32 → Int32 → Int32 → Option (Int32 × (Nat → Int32) × (Nat → Int32) × (Nat → Int32) × (Nat → Int32) × (Nat → Int32) × (Nat → Int32) × (Nat → Int32) × (Nat → Int32) × (Nat → Int32))} {kp kb ah ag sm sb tm tb bn : Nat → Int32} {e : EnvL}
theorem m_300 {i : Nat} {s : Lv} {x : Sv} {v1 v3 : Int32} (h7 : i < 7) (ht : tb i = nI s.tb) (htt : s.tb ≠ 0 → tm i = s.tv e) (hO : s.tb = 0 ∨ s.tb = 22) : fX9_worked_300 lf lt cds vo k14 kp kb ah ag sm sb tm tb bn v1 (nI i) v3 (x e) = k14 kp kb ah ag sm sb (upd tm i (r4 s x e)) tb bn v1 (nI i) (v3 + 1) := by
  have hi : inb (nI i) 7 = true := nB h7 (by omega)
  have ci : (nI i).toNatClampNeg = i := nC (by omega)
  unfold fX9_worked_300 r4
  simp only [hi, cond_true, ci]
  rcases hO with e0 | e0
  · rw [ht, e0, if_pos (show nI 0 = 0 from rfl), if_pos rfl]
  · rw [ht, htt (by omega), e0, if_neg (show ¬ nI 22 = 0 by decide), if_neg (by decide)]
theorem m_arr {Q : (Int32 × (Nat → Int32) × (Nat → Int32) × (Nat → Int32) × (Nat → Int32) × (Nat → Int32) × (Nat → Int32) × (Nat → Int32) × (Nat → Int32) × (Nat → Int32)) → Prop} {zz : (Nat → Int32) → (Nat → Int32) → (Nat → Int32) → (Nat → Int32) → (Nat → Int32) → (Nat → Int32) → (Nat → Int32) → (Nat → Int32) → (Nat → Int32) → Int32 → Int32 → Int32 → Int32 → Option (Int32 × (Nat → Int32) × (Nat → Int32) × (Nat → Int32) × (Nat → Int32) × (Nat → Int32) × (Nat → Int32) × (Nat → Int32) × (Nat → Int32) × (Nat → Int32))} {v1 v3 : Int32} :
    ∀ (L : List Lv) (v : Sv) (N : Nat), WfL L → L.length ≤ 7 → L.length ≤ N → RegL ⟨kp, kb, ah, ag, sm, sb, tm, tb, bn⟩ e L →
    (∀ tm', RegR ⟨kp, kb, ah, ag, sm, sb, tm', tb, bn⟩ e (arS (arr L v)) → ok (k14 kp kb ah ag sm sb tm' tb bn v1 (nI ((arr L v).1.length - 1)) (v3 + 1)) Q) →
    ok (itr (fun kk => fX9_worked_268 lf lt cds vo k14 kk) zz N kp kb ah ag sm sb tm tb bn v1 (nI (L.length - 1)) v3 (v e)) Q
  | [], _, _, h, _, _, _, _ => absurd h id
  | [s], v, N, h, h7, hN, hR, hQ => by
    obtain ⟨N, rfl⟩ : ∃ m, N = m + 1 := ⟨N - 1, by have : 1 ≤ N := hN; omega⟩
    show ok (fX9_worked_268 lf lt cds vo k14 (itr (fun kk => fX9_worked_268 lf lt cds vo k14 kk) zz N) kp kb ah ag sm sb tm tb bn v1 (nI 0) v3 (v e)) Q
    unfold fX9_worked_268
    rw [if_pos (show nI 0 ≤ 0 by decide), m_300 (i := 0) (s := s) (x := v) (tb := tb) (tm := tm) (by omega) hR.2.1 hR.2.2.1 h.2.2.2.2]
    have ea : arr [s] v = ([s], v) := by
      show (if s.o = 1 then _ else _) = _
      rw [if_neg (by rw [h.1]; decide)]
    rw [ea] at hQ
    exact hQ _ ⟨hR.1, show upd tm 0 (r4 s v e) 0 = r4 s v e from pk_us, trivial⟩
  | s :: t :: L, v, N, h, h7, hN, hR, hQ => by
    have h7 : L.length + 2 ≤ 7 := h7
    obtain ⟨N, rfl⟩ : ∃ m, N = m + 1 := ⟨N - 1, by have : L.length + 2 ≤ N := hN; omega⟩
    have hN : L.length + 2 ≤ N + 1 := hN
    show ok (fX9_worked_268 lf lt cds vo k14 (itr (fun kk => fX9_worked_268 lf lt cds vo k14 kk) zz N) kp kb ah ag sm sb tm tb bn v1 (nI (L.length + 1)) v3 (v e)) Q
    have hi : inb (nI (L.length + 1)) 7 = true := nB (by omega) (by omega)
    have ci : (nI (L.length + 1)).toNatClampNeg = L.length + 1 := nC (by omega)
    have hb : bn (L.length + 1) = 1 ↔ s.o = 1 := hR.1.2.2.2.2.2.2 (Nat.succ_pos _)
    unfold fX9_worked_268
    rw [if_neg (show ¬ nI (L.length + 1) ≤ 0 from fun q => absurd (show (0 : Int32) < nI (L.length + 1) from nI_lt (a := 0) (by omega) (by omega)) (Int32.not_lt.mpr q)), hi, cond_true, ci]
    by_cases x : s.o = 1
    · have ea : arr (s :: t :: L) v = arr (t :: L) (nt v) := by
        show (if s.o = 1 then _ else _) = _
        rw [if_pos x]
      rw [ea] at hQ
      have ih := m_arr (zz := zz) (t :: L) (nt v) N h.2.2.2 (show L.length + 1 ≤ 7 by omega) (show L.length + 1 ≤ N by omega) hR.2.2.2 hQ
      rw [if_pos (hb.mpr x), pk_m1]
      unfold nt at ih
      by_cases y : v e = 0
      · rw [if_pos y] at ih ⊢
        exact ih
      · rw [if_neg y] at ih ⊢
        exact ih
    · have ea : arr (s :: t :: L) v = (s :: t :: L, v) := by
        show (if s.o = 1 then _ else _) = _
        rw [if_neg x]
      rw [ea] at hQ
      rw [if_neg (fun q => x (hb.mp q)), m_300 (i := L.length + 1) (s := s) (x := v) (tb := tb) (tm := tm) (by omega) hR.2.1 hR.2.2.1 h.2.1.2.2.2]
      exact hQ _ ⟨hR.1, pk_us, RegL_congr hR.2.2.2 (fun j hj => ⟨rfl, rfl, rfl, rfl, rfl, rfl, pk_un (by have : j < L.length + 1 := hj; omega), rfl, rfl⟩)⟩
theorem m_sums {i : Nat} {s : Lv} {x : Sv} (h7 : i < 7) (hs : RegS ⟨kp, kb, ah, ag, sm, sb, tm, tb, bn⟩ e i s) (ht : tm i = r4 s x e) (hO : LvO s) : fX9_sums sb tm sm tb (nI i) = some (upd sm i (r3 s x e), upd tb i 0) := by
  have hi : inb (nI i) 7 = true := nB h7 (by omega)
  have ci : (nI i).toNatClampNeg = i := nC (by omega)
  have e5 : sb i = nI (if s.sb = 0 then 20 else s.sb) := hs.2.2.2.2.1
  have e6 : sm i = (if s.sb = 0 then 0 else s.sv e) := hs.2.2.2.2.2.1
  unfold fX9_sums fX9_sums_45 r3
  simp only [hi, cond_true, ci]
  rw [e5, e6, ht]
  rcases hO.2.2.1 with q | q | q
  · rw [if_pos q, if_pos q, if_pos q, if_neg (show ¬ nI 20 = 21 by decide), Int32.zero_add]
  · rw [q, if_neg (show ¬ 20 = 0 by decide), if_neg (show ¬ 20 = 0 by decide), if_neg (show ¬ 20 = 0 by decide), if_neg (show ¬ 20 = 21 by decide), if_neg (show ¬ nI 20 = 21 by decide)]
  · rw [q, if_neg (show ¬ 21 = 0 by decide), if_neg (show ¬ 21 = 0 by decide), if_neg (show ¬ 21 = 0 by decide), if_pos rfl, if_pos (show nI 21 = 21 from rfl)]
theorem m_tests {i : Nat} {s : Lv} {x : Sv} (h7 : i < 7) (hs : RegS ⟨kp, kb, ah, ag, sm, sb, tm, tb, bn⟩ e i s) (ht : tm i = r4 s x e) (hO : LvO s) : fX9_tests kb ah tm kp ag sm sb tb (nI i) = some (upd kp i (r1 s x e), upd ag i 0, upd (upd sm i (r3 s x e)) i 0, upd sb i 20, upd tb i 0) := by
  have hi : inb (nI i) 7 = true := nB h7 (by omega)
  have ci : (nI i).toNatClampNeg = i := nC (by omega)
  have k1 : kb i = nI s.kb := hs.1
  have k2 : s.kb ≠ 0 → kp i = s.kv e := hs.2.1
  have a1 : ag i = nI s.ag := hs.2.2.1
  have a2 : s.ag ≠ 0 → ah i = s.av e := hs.2.2.2.1
  have A : fX9_tests kb ah tm kp ag sm sb tb (nI i) = fX9_tests_76 kb ah tm kp ag (upd sm i (r3 s x e)) sb (upd tb i 0) (nI i) (r2 s x e) := by
    unfold fX9_tests fX9_tests_44 r2
    rw [m_sums h7 hs ht hO]
    simp only [Option.bind_some, hi, cond_true, ci, pk_us]
    rcases hO.2.1 with q | q | q
    · rw [a1, q, if_neg (show ¬ nI 0 = 24 by decide), if_neg (show ¬ nI 0 = 25 by decide), if_pos rfl]
    · rw [a1, a2 (by omega), q, if_pos (show nI 24 = 24 from rfl), if_neg (show ¬ nI 24 = 25 by decide), if_neg (show ¬ 24 = 0 by decide), if_pos rfl]
      split <;> rfl
    · rw [a1, a2 (by omega), q, if_neg (show ¬ nI 25 = 24 by decide), if_pos (show nI 25 = 25 from rfl), if_neg (show ¬ 25 = 0 by decide), if_neg (show ¬ 25 = 24 by decide)]
      split <;> rfl
  rw [A]
  unfold fX9_tests_76 fX9_tests_106 fX9_tests_136 r1
  simp only [hi, cond_true, ci]
  rcases hO.1 with q | q | q
  · rw [k1, q, if_neg (show ¬ nI 0 = 26 by decide), if_neg (show ¬ nI 0 = 27 by decide), if_pos rfl]
  · rw [k1, k2 (by omega), q, if_pos (show nI 26 = 26 from rfl), if_neg (show ¬ nI 26 = 27 by decide), if_neg (show ¬ 26 = 0 by decide), if_pos rfl]
    split
    · rfl
    · split <;> rfl
  · rw [k1, k2 (by omega), q, if_neg (show ¬ nI 27 = 26 by decide), if_pos (show nI 27 = 27 from rfl), if_neg (show ¬ 27 = 0 by decide), if_neg (show ¬ 27 = 26 by decide)]
    split
    · split <;> rfl
    · rfl
end WK
