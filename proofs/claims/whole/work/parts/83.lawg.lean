/-! the law: the class reads a token of it -/
theorem osl_not {s : Lv} {L : List Lv} (h : WfL (s :: L)) (hs : s.o = 1) : osl (s :: L) = 147 :: osl L ∧ (∀ e, vsl e (s :: L) = vsl e L) ∧ L ≠ [] := by
  cases L with
  | nil => exact absurd (h.1.symm.trans hs) (by decide)
  | cons t L =>
    obtain ⟨z1, z2, z3, z4⟩ := h.2.2.1 hs
    refine ⟨?_, fun e => ?_, by simp⟩
    · show oA s ++ (oB s ++ (oC s ++ (oD s ++ (opo s ++ osl (t :: L))))) = _
      unfold oA oB oC oD opo
      rw [if_pos z4, if_pos z3, if_pos z2, if_pos z1, if_neg (by omega), if_pos hs]
      rfl
    · show vA s e ++ (vB s e ++ (vC s e ++ (vD s e ++ vsl e (t :: L)))) = _
      unfold vA vB vC vD
      rw [if_pos z4, if_pos z3, if_pos z2, if_pos z1]
      rfl
theorem c_closeN {st : Nat → Int32} {zz : Int32 → Int32 → Int32 → (Nat → Int32) → Option (Int32 × Int32 × Int32 × (Nat → Int32))} : ∀ (L : List Lv) (v : Sv) (N : Nat) (E : CC) (code : Nat → Int32), WfL L → L.length ≤ 6 → L.length ≤ N → StkN st (osl L) → CdR code 0 E → gdE E → E.1 + (osl L).length ≤ 1000 → (∀ e, crun e E = v e :: vsl e L) →
    ok (itr (fun kk => fX1_closeNots_0 st kk) zz N (nI (osl L).length) (nI (L.length - 1)) (nI E.1) code) (fun y => ∃ E' : CC, y.1 = nI (osl (arr L v).1).length ∧ y.2.1 = nI ((arr L v).1.length - 1) ∧ y.2.2.1 = nI E'.1 ∧ CdR y.2.2.2 0 E' ∧ gdE E' ∧ E'.1 + (osl (arr L v).1).length ≤ E.1 + (osl L).length ∧ E.1 ≤ E'.1 ∧ StkN st (osl (arr L v).1) ∧ ∀ e, crun e E' = (arr L v).2 e :: vsl e (arr L v).1)
  | [], _, _, _, _, h, _, _, _, _, _, _, _ => absurd h id
  | s :: L, v, N, E, code, h, h6, hN, hS, hC, hg, hE, hr => by
    have h6 : L.length + 1 ≤ 6 := h6
    have hN : L.length + 1 ≤ N := hN
    have hl := osl_le (s :: L)
    have hl : (osl (s :: L)).length ≤ 5 * (L.length + 1) := hl
    obtain ⟨N, rfl⟩ : ∃ m, N = m + 1 := ⟨N - 1, by omega⟩
    show ok (fX1_closeNots_0 st (itr (fun kk => fX1_closeNots_0 st kk) zz N) (nI (osl (s :: L)).length) (nI L.length) (nI E.1) code) _
    unfold fX1_closeNots_0
    by_cases x : s.o = 1
    · obtain ⟨e1, e2, e3⟩ := osl_not h x
      have ea : arr (s :: L) v = arr L (nt v) := by
        show (if s.o = 1 then _ else _) = _
        rw [if_pos x]
      rw [e1] at hS hE hl ⊢
      have hE : E.1 + ((osl L).length + 1) ≤ 1000 := hE
      have hl : (osl L).length + 1 ≤ 5 * (L.length + 1) := hl
      have hp : 0 < L.length := List.length_pos_iff.mpr e3
      show ok (if nI ((osl L).length + 1) ≤ 0 then _ else _) _
      rw [if_neg (show ¬ nI ((osl L).length + 1) ≤ 0 from fun q => absurd (show (0 : Int32) < nI ((osl L).length + 1) from nI_lt (a := 0) (by omega) (by omega)) (Int32.not_lt.mpr q))]
      have w1' : nI ((147 :: osl L).length) - 1 = nI (osl L).length := nsub (b := 1) (a := (osl L).length + 1) (by omega)
      have w2' : nI L.length - 1 = nI (L.length - 1) := nsub (b := 1) (by omega)
      rw [w1', w2', nB (by omega) (by omega), cond_true, nC (by omega), hS.1, if_pos (show nI 147 = 147 from rfl)]
      obtain ⟨code', h1, h2⟩ := c_emit (E := E) (c := 10147) (by omega) hC
      rw [show (10147 : Int32) = nI 10147 from rfl, h1]
      simp only [Option.bind_some]
      have hv : ∀ e, crun e (sn E 10147) = nt v e :: vsl e L := fun e => by
        have := vsl_le e L
        rw [crun_sn, hr e, e2 e]
        unfold cst
        rw [if_neg (by decide), if_pos rfl]
        exact psh_lt (by show (vsl e L).length < 32; omega)
      rw [ea]
      refine ok_mono (c_closeN (zz := zz) L (nt v) N (sn E 10147) code' (WfL_t h e3) (by omega) (by omega) hS.2 h2 (gdE_sn hg (by omega)) (by show E.1 + 1 + (osl L).length ≤ 1000; omega) hv) ?_
      rintro y ⟨E', a1, a2, a3, a4, a5, a6, a7, a8, a9⟩
      have a6 : E'.1 + (osl (arr L (nt v)).1).length ≤ E.1 + 1 + (osl L).length := a6
      have a7 : E.1 + 1 ≤ E'.1 := a7
      exact ⟨E', a1, a2, a3, a4, a5, by show _ ≤ E.1 + ((osl L).length + 1); omega, by omega, a8, a9⟩
    · have ea : arr (s :: L) v = (s :: L, v) := by
        show (if s.o = 1 then _ else _) = _
        rw [if_neg x]
      have hh := hd1 h x
      rw [ea]
      have fin : ok (some (nI (osl (s :: L)).length, nI L.length, nI E.1, code)) (fun y => ∃ E' : CC, y.1 = nI (osl (s :: L)).length ∧ y.2.1 = nI ((s :: L).length - 1) ∧ y.2.2.1 = nI E'.1 ∧ CdR y.2.2.2 0 E' ∧ gdE E' ∧ E'.1 + (osl (s :: L)).length ≤ E.1 + (osl (s :: L)).length ∧ E.1 ≤ E'.1 ∧ StkN st (osl (s :: L)) ∧ ∀ e, crun e E' = v e :: vsl e (s :: L)) :=
        ok_some ⟨E, rfl, rfl, rfl, hC, hg, Nat.le_refl _, Nat.le_refl _, hS, hr⟩
      have hm := osl_mem (s :: L)
      generalize osl (s :: L) = l at hh hS hl fin hm
      cases l with
      | nil => exact ok_t (show nI 0 ≤ 0 by decide) fin
      | cons y l =>
        have hl : l.length + 1 ≤ 5 * (L.length + 1) := hl
        have hy := hm y (List.mem_cons_self ..)
        have w1' : nI ((y :: l).length) - 1 = nI l.length := nsub (b := 1) (a := l.length + 1) (by omega)
        have ny : ¬ nI y = 147 := fun q => by
          have q := (nI_eq (b := 147) (by omega) (by omega)).mp q
          rw [q] at hh
          exact absurd hh (show ¬ ((some 147 : Option Nat) == some 147) = false by decide)
        refine ok_f (show ¬ nI (l.length + 1) ≤ 0 from fun q => absurd (show (0 : Int32) < nI (l.length + 1) from nI_lt (a := 0) (by omega) (by omega)) (Int32.not_lt.mpr q)) ?_
        rw [w1', nB (by omega) (by omega), cond_true, nC (by omega), hS.1, if_neg ny]
        exact fin
/-- the class's law half read: X what it means so far, E what is written down -/
def vX (e : EnvL) (X : AS) : List Int32 := match X.2 with
  | none => vsl e X.1
  | some x => x e :: vsl e X.1
def LwC (X : AS) (E : CC) (B : Nat) (wt ne le : Int32) (code st : Nat → Int32) : Prop := wt = nI (osl X.1).length ∧ ne = nI (X.1.length - 1) ∧ le = nI E.1 ∧ CdR code 0 E ∧ gdE E ∧ StkN st (osl X.1) ∧ E.1 + (osl X.1).length ≤ B ∧ ∀ e, crun e E = vX e X
section PT
variable {len : Int32} {signs : Nat → Int32} {words : Nat → Int64} {L : List Lv} {s : Lv} {x : Sv} {E : CC} {B : Nat} {wt ne le cb cp tp ct cnu : Int32} {cnm : Int64} {code st : Nat → Int32} {yn : Int32 × Int32 × Int32 × Int32 × Int32 × Int64}
theorem c_84 {it : Nat} {v : Sv} (hL : LwC (L, none) E B wt ne le code st) (hW : WfL L) (h5 : L.length ≤ 5) (hB : B < 1000) (hit : it < 11000) (hv : ∀ e S, S.length < 32 → cst e S it = v e :: S) (hn : fX5_next len signs words cb cp tp ct cnu cnm = some yn) :
    ∃ E' wt' ne' le' code', fX1_readPart_84 len signs words wt ne le cb cp tp ct cnu 0 cnm code st 1 (nI it) = some (1, wt', ne', le', yn.1, yn.2.1, yn.2.2.1, yn.2.2.2.1, yn.2.2.2.2.1, 0, yn.2.2.2.2.2, code', st) ∧ LwC (arS (arr L v)) E' (B + 1) wt' ne' le' code' st := by
  obtain ⟨rfl, rfl, rfl, hC, hg, hS, hE, hr⟩ := hL
  have hE : E.1 + (osl L).length ≤ B := hE
  have hr : ∀ e, crun e E = vsl e L := hr
  obtain ⟨code1, h1, h2⟩ := c_emit (E := E) (c := it) (by omega) hC
  have hv1 : ∀ e, crun e (sn E it) = v e :: vsl e L := fun e => by
    have := vsl_le e L
    rw [crun_sn, hr e]
    exact hv e _ (by omega)
  obtain ⟨y, ey, E', a1, a2, a3, a4, a5, a6, a7, a8, a9⟩ := c_closeN (st := st) (zz := fun _ _ _ _ => none) L v FU (sn E it) code1 hW (by omega) (by unfold FU; omega) hS h2 (gdE_sn hg hit) (by show E.1 + 1 + _ ≤ _; omega) hv1
  have a6 : E'.1 + (osl (arr L v).1).length ≤ E.1 + 1 + (osl L).length := a6
  refine ⟨E', y.1, y.2.1, y.2.2.1, y.2.2.2, ?_, a1, a2, a3, a4, a5, a8, ?_, a9⟩
  · unfold fX1_readPart_84 fX1_closeNots fX1_readPart_109
    rw [h1]
    simp only [Option.bind_some]
    show Option.bind (itr (fun kk => fX1_closeNots_0 st kk) (fun _ _ _ _ => none) FU (nI (osl L).length) (nI (L.length - 1)) (nI (sn E it).1) code1) _ = _
    rw [ey]
    simp only [Option.bind_some]
    rw [hn]
    rfl
  · show E'.1 + (osl (arr L v).1).length ≤ B + 1
    omega
theorem lt5 (h5 : L.length ≤ 5) : nI (L.length - 1) < 5 := nI_lt (b := 5) (by omega) (by omega)
theorem c_pnum {v : Nat} (hL : LwC (L, none) E B wt ne le code st) (hW : WfL L) (h5 : L.length ≤ 5) (hB : B < 1000) (ht : ct = nI 2) (hv : v < 10000) (en : cnu = nI v) (hn : fX5_next len signs words cb cp tp ct cnu cnm = some yn) :
    ∃ E' wt' ne' le' code', fX1_readPart len signs words wt ne le cb cp tp ct cnu 0 cnm code st = some (1, wt', ne', le', yn.1, yn.2.1, yn.2.2.1, yn.2.2.2.1, yn.2.2.2.2.1, 0, yn.2.2.2.2.2, code', st) ∧ LwC (arS (arr L (fun _ => nI v))) E' (B + 1) wt' ne' le' code' st := by
  have h := c_84 (it := v) (v := fun _ => nI v) hL hW h5 hB (by omega) (fun e S hS => by unfold cst; rw [if_pos hv]; exact psh_lt hS) hn
  have e2 : ne = nI (L.length - 1) := hL.2.1
  have e0 : fX1_readPart len signs words wt ne le cb cp tp ct cnu 0 cnm code st = fX1_readPart_84 len signs words wt ne le cb cp tp ct cnu 0 cnm code st 1 (nI v) := by
    unfold fX1_readPart fX1_readPart_22 fX1_readPart_47
    rw [if_pos (show ct = 2 from ht), if_neg (by decide : ¬ (1 : Int32) = 0), if_pos (by rw [e2]; exact lt5 h5), if_neg (by decide : ¬ (1 : Int32) = 0), if_pos (show ct = 2 from ht), en]
  rw [e0]
  exact h
theorem c_pfact {a : Nat} (hL : LwC (L, none) E B wt ne le code st) (hW : WfL L) (h5 : L.length ≤ 5) (hB : B < 1000) (ht : ct = nI a) (ha : 150 ≤ a ∧ a ≤ 153) (hn : fX5_next len signs words cb cp tp ct cnu cnm = some yn) :
    ∃ E' wt' ne' le' code', fX1_readPart len signs words wt ne le cb cp tp ct cnu 0 cnm code st = some (1, wt', ne', le', yn.1, yn.2.1, yn.2.2.1, yn.2.2.2.1, yn.2.2.2.2.1, 0, yn.2.2.2.2.2, code', st) ∧ LwC (arS (arr L (fun e => fcv e (a - 149)))) E' (B + 1) wt' ne' le' code' st := by
  have h := c_84 (it := 10000 + a) (v := fun e => fcv e (a - 149)) hL hW h5 hB (by omega) (fun e S hS => by
    rcases (show a = 150 ∨ a = 151 ∨ a = 152 ∨ a = 153 by omega) with q | q | q | q
    · subst q; unfold cst; rw [if_neg (by decide), if_neg (by decide), if_pos rfl]; exact psh_lt hS
    · subst q; unfold cst; rw [if_neg (by decide), if_neg (by decide), if_neg (by decide), if_pos rfl]; exact psh_lt hS
    · subst q; unfold cst; rw [if_neg (by decide), if_neg (by decide), if_neg (by decide), if_neg (by decide), if_pos rfl]; exact psh_lt hS
    · subst q; unfold cst; rw [if_neg (by decide), if_neg (by decide), if_neg (by decide), if_neg (by decide), if_neg (by decide), if_pos rfl]; exact psh_lt hS) hn
  have e2 : ne = nI (L.length - 1) := hL.2.1
  have n2 : ¬ ct = 2 := by
    rw [ht]
    exact fun q => by have := (nI_eq (b := 2) (by omega) (by omega)).mp q; omega
  have hf : fX8_isFact ct = some 1 := by
    unfold fX8_isFact fX8_isWithin
    rw [ht, if_neg (show ¬ nI a < 150 from nI_nlt (b := 150) (by omega) (by omega)), if_neg (show ¬ 153 < nI a from nI_nlt (a := 153) (by omega) (by omega))]
    rfl
  have e0 : fX1_readPart len signs words wt ne le cb cp tp ct cnu 0 cnm code st = fX1_readPart_84 len signs words wt ne le cb cp tp ct cnu 0 cnm code st 1 (nI (10000 + a)) := by
    unfold fX1_readPart
    rw [if_neg n2, hf]
    simp only [Option.bind_some]
    rw [if_neg (by decide : ¬ (1 : Int32) = 0)]
    unfold fX1_readPart_22 fX1_readPart_47
    rw [if_neg (by decide : ¬ (1 : Int32) = 0), if_pos (by rw [e2]; exact lt5 h5), if_neg (by decide : ¬ (1 : Int32) = 0), if_neg n2, ht, show (10000 : Int32) + nI a = nI (10000 + a) from nI_add 10000 a]
  rw [e0]
  exact h
/-- not whole: isFact says no -/
theorem c_noF {a : Nat} (ht : ct = nI a) (ha : a < 150) : fX8_isFact ct = some 0 := by
  unfold fX8_isFact fX8_isWithin
  rw [ht, if_pos (show nI a < 150 from nI_lt (b := 150) ha (by omega))]
  rfl
theorem c_popen {a o : Nat} (hL : LwC (L, none) E B wt ne le code st) (hW : WfL L) (h5 : L.length ≤ 5) (ht : ct = nI a) (ha : (a = 147 ∧ o = 1) ∨ (a = 40 ∧ o = 2)) (hn : fX5_next len signs words cb cp tp ct cnu cnm = some yn) :
    ∃ wt' ne' st', fX1_readPart len signs words wt ne le cb cp tp ct cnu 0 cnm code st = some (0, wt', ne', le, yn.1, yn.2.1, yn.2.2.1, yn.2.2.2.1, yn.2.2.2.2.1, 0, yn.2.2.2.2.2, code, st') ∧ LwC (z5 o :: L, none) E (B + 1) wt' ne' le code st' := by
  obtain ⟨rfl, rfl, rfl, hC, hg, hS, hE, hr⟩ := hL
  have hE : E.1 + (osl L).length ≤ B := hE
  have hl := osl_le L
  have hp : 0 < L.length := by
    cases L with
    | nil => exact absurd hW id
    | cons t L => exact Nat.succ_pos _
  have a147 : a = 147 ∨ a = 40 := by omega
  have n2 : ¬ ct = 2 := by
    rw [ht]
    exact fun q => by have := (nI_eq (b := 2) (by omega) (by omega)).mp q; omega
  have eo : osl (z5 o :: L) = a :: osl L := by
    rcases ha with ⟨rfl, rfl⟩ | ⟨rfl, rfl⟩ <;> rfl
  have hpush : fX1_push (nI (osl L).length) st ct = some (nI ((osl L).length + 1), upd st (osl L).length (nI a)) := by
    unfold fX1_push
    rw [if_neg (show ¬ (32 : Int32) ≤ nI (osl L).length from fun e => absurd (show nI (osl L).length < 32 from nI_lt (b := 32) (by omega) (by omega)) (Int32.not_lt.mpr e)), nB (by omega) (by omega), cond_true, nC (by omega), nI_1, ht]
  refine ⟨nI ((osl L).length + 1), nI L.length, upd st (osl L).length (nI a), ?_, ?_, ?_, rfl, hC, hg, ?_, ?_, hr⟩
  · have e47 : fX1_readPart_47 len signs words (nI (osl L).length) (nI (L.length - 1)) (nI E.1) cb cp tp ct cnu 0 cnm code st ct 0 = some (0, nI ((osl L).length + 1), nI L.length, nI E.1, yn.1, yn.2.1, yn.2.2.1, yn.2.2.2.1, yn.2.2.2.2.1, 0, yn.2.2.2.2.2, code, upd st (osl L).length (nI a)) := by
      unfold fX1_readPart_47
      rw [if_pos (lt5 h5), if_pos rfl, hpush]
      simp only [Option.bind_some]
      unfold fX1_readPart_109
      rw [hn, nI_1, show L.length - 1 + 1 = L.length by omega]
      rfl
    show fX1_readPart len signs words (nI (osl L).length) (nI (L.length - 1)) (nI E.1) cb cp tp ct cnu 0 cnm code st = _
    unfold fX1_readPart
    rw [if_neg n2, c_noF ht (by omega)]
    simp only [Option.bind_some]
    rw [if_pos trivial]
    unfold fX1_readPart_22
    rw [if_pos rfl]
    rcases a147 with q | q
    · rw [if_pos (show ct = 147 by rw [ht, q]; rfl)]
      exact e47
    · rw [if_neg (show ¬ ct = 147 by rw [ht, q]; decide), if_pos (show ct = 40 by rw [ht, q]; rfl)]
      exact e47
  · show _ = nI (osl (z5 o :: L)).length
    rw [eo]; rfl
  · rfl
  · show StkN _ (osl (z5 o :: L))
    rw [eo]
    exact ⟨pk_us, StkN_upd hS (Nat.le_refl _)⟩
  · show E.1 + (osl (z5 o :: L)).length ≤ B + 1
    rw [eo]
    show E.1 + ((osl L).length + 1) ≤ B + 1
    omega
end PT
