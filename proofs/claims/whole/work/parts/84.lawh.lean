/-! the law: the class reads an operator, a closing bracket, the end -/
def LwT (wt le : Int32) (code st : Nat → Int32) : Prop := ∃ (l : List Nat) (E : CC), wt = nI l.length ∧ le = nI E.1 ∧ CdR code 0 E ∧ StkN st l ∧ l.length ≤ 32 ∧ E.1 + l.length ≤ 1000 ∧ ∀ x, x ∈ l → x < 1000
section PO
variable {len : Int32} {signs : Nat → Int32} {words : Nat → Int64} {L : List Lv} {s : Lv} {x : Sv} {E : CC} {B : Nat} {wt ne le cb cp tp ct cnu : Int32} {cnm : Int64} {code st : Nat → Int32} {yn : Int32 × Int32 × Int32 × Int32 × Int32 × Int64}
theorem LwC_T {X : AS} (h : LwC X E B wt ne le code st) (h6 : X.1.length ≤ 6) (hB : B ≤ 1000) : LwT wt le code st := by
  have := osl_le X.1
  exact ⟨osl X.1, E, h.1, h.2.2.1, h.2.2.2.1, h.2.2.2.2.2.1, by omega, by have := h.2.2.2.2.2.2.1; omega, osl_mem X.1⟩
theorem c_lawF {N : Nat} {zz : Int32 → Int32 → Int32 → Int32 → Int32 → Int32 → Int32 → Int32 → Int32 → Int64 → (Nat → Int32) → (Nat → Int32) → Int32 → Int32 → Option (Int32 × Int32 × Int32 × Int32 × Int32 × Int32 × Int32 × Int32 × Int32 × Int64 × (Nat → Int32) × (Nat → Int32))} {f v2 v3 : Int32} (h : LwT wt le code st) (hf : ¬ f = 0) : ok (itr (fun kk => fX1_readFrom_14 len signs words kk) zz (N + 1) wt ne le cb cp tp ct cnu f cnm code st v2 v3) (fun r => r.2.2.2.2.2.2.2.2.1 = f) := by
  obtain ⟨l, E, rfl, rfl, hC, hS, h32, hE, hm⟩ := h
  have fin : ok (fX1_readFrom_105 len signs words (nI l.length) ne (nI E.1) cb cp tp ct cnu f cnm code st) (fun r => r.2.2.2.2.2.2.2.2.1 = f) := by
    unfold fX1_readFrom_105 fX1_emitDownTo
    exact ok_bind (ok_mono (c_emitDown (r := 1) (by omega) l FU E code hS h32 (by unfold FU; omega) hE hm hC) (fun y _ => ok_some rfl))
  show ok (fX1_readFrom_14 len signs words (itr (fun kk => fX1_readFrom_14 len signs words kk) zz N) (nI l.length) ne (nI E.1) cb cp tp ct cnu f cnm code st v2 v3) _
  unfold fX1_readFrom_14
  refine ok_if (fun _ => fin) (fun _ => ?_)
  rw [if_neg hf]
  exact fin
theorem c_dn {r : Nat} {pre : List Nat} {s' : Lv} {x' : Sv} (hr : r ≤ 5) (hL : LwC (s :: L, some x) E B wt ne le code st) (h6 : L.length ≤ 5) (hB : B ≤ 1000) (htw : (osl (s :: L)).takeWhile (fun x => decide (r ≤ rk x)) = pre) (hdw : (osl (s :: L)).dropWhile (fun x => decide (r ≤ rk x)) = osl (s' :: L)) (hev : ∀ e, (ups pre).foldl (cst e) (x e :: vsl e (s :: L)) = x' e :: vsl e (s' :: L)) :
    ∃ E' code', fX1_emitDownTo st wt le code (nI r) = some (nI (osl (s' :: L)).length, nI E'.1, code') ∧ CdR code' 0 E' ∧ gdE E' ∧ StkN st (osl (s' :: L)) ∧ E'.1 + (osl (s' :: L)).length ≤ B ∧ (∀ e, crun e E' = x' e :: vsl e (s' :: L)) ∧ E.1 ≤ E'.1 := by
  obtain ⟨rfl, rfl, rfl, hC, hg, hS, hE, hcr⟩ := hL
  have hS : StkN st (osl (s :: L)) := hS
  have hE : E.1 + (osl (s :: L)).length ≤ B := hE
  have hcr : ∀ e, crun e E = x e :: vsl e (s :: L) := hcr
  have hl := osl_le (s :: L)
  have hl : (osl (s :: L)).length ≤ 5 * (L.length + 1) := hl
  have hm := osl_mem (s :: L)
  have hsp : pre ++ osl (s' :: L) = osl (s :: L) := by
    rw [← htw, ← hdw]
    exact List.takeWhile_append_dropWhile
  have hlen : pre.length + (osl (s' :: L)).length = (osl (s :: L)).length := by rw [← hsp, List.length_append]
  obtain ⟨y, ey, y1, y2, y3⟩ := c_emitDown (r := r) (zz := fun _ _ _ _ => none) hr (osl (s :: L)) FU E code hS (by omega) (by unfold FU; omega) (by omega) hm hC
  rw [htw] at y2 y3
  rw [hdw] at y1
  refine ⟨sns E (ups pre), y.2.2, ?_, y3, gdE_sns hg (fun z hz => ?_), ?_, ?_, fun e => ?_, ?_⟩
  · unfold fX1_emitDownTo
    show itr (fun kk => fX1_emitDownTo_0 st kk) (fun _ _ _ _ => none) FU (nI (osl (s :: L)).length) (nI E.1) code (nI r) = _
    rw [ey, ← y1, ← y2]
  · unfold ups at hz
    rw [List.mem_map] at hz
    obtain ⟨w, hw, rfl⟩ := hz
    have := hm w (by rw [← hsp]; exact List.mem_append_left _ hw)
    omega
  · rw [← hsp] at hS
    exact StkN_app hS
  · rw [sns_1]
    unfold ups
    rw [List.length_map]
    omega
  · rw [crun_sns, hcr e]
    exact hev e
  · rw [sns_1]; omega
theorem c_68 {E' : CC} {s' s'' : Lv} {x' : Sv} {a : Nat} {le' : Int32} {code' : Nat → Int32} (h6 : L.length ≤ 5) (ht : ct = nI a) (hle : le' = nI E'.1) (hC : CdR code' 0 E') (hg : gdE E') (hS : StkN st (osl (s' :: L))) (hE : E'.1 + (osl (s' :: L)).length ≤ B) (hcr : ∀ e, crun e E' = x' e :: vsl e (s' :: L)) (ho : osl (s'' :: L) = a :: osl (s' :: L)) (hv : ∀ e, vsl e (s'' :: L) = x' e :: vsl e (s' :: L)) (hn : fX5_next len signs words cb cp tp ct cnu cnm = some yn) :
    ∃ wt' st', fX1_readOperator_68 len signs words (nI (osl (s' :: L)).length) le' cb cp tp ct cnu 0 cnm code' st = some (wt', le', yn.1, yn.2.1, yn.2.2.1, yn.2.2.2.1, yn.2.2.2.2.1, 0, yn.2.2.2.2.2, code', st') ∧ LwC (s'' :: L, none) E' (B + 1) wt' (nI L.length) le' code' st' := by
  have hl := osl_le (s' :: L)
  have hl : (osl (s' :: L)).length ≤ 5 * (L.length + 1) := hl
  have hpush : fX1_push (nI (osl (s' :: L)).length) st ct = some (nI ((osl (s' :: L)).length + 1), upd st (osl (s' :: L)).length (nI a)) := by
    unfold fX1_push
    rw [if_neg (show ¬ (32 : Int32) ≤ nI (osl (s' :: L)).length from fun e => absurd (show nI (osl (s' :: L)).length < 32 from nI_lt (b := 32) (by omega) (by omega)) (Int32.not_lt.mpr e)), nB (by omega) (by omega), cond_true, nC (by omega), nI_1, ht]
  refine ⟨nI ((osl (s' :: L)).length + 1), upd st (osl (s' :: L)).length (nI a), ?_, ?_, rfl, hle, hC, hg, ?_, ?_, fun e => ?_⟩
  · unfold fX1_readOperator_68
    rw [hpush]
    simp only [Option.bind_some]
    rw [hn]
    simp only [Option.bind_some]
  · show _ = nI (osl (s'' :: L)).length
    rw [ho]; rfl
  · show StkN _ (osl (s'' :: L))
    rw [ho]
    exact ⟨pk_us, StkN_upd hS (Nat.le_refl _)⟩
  · show E'.1 + (osl (s'' :: L)).length ≤ B + 1
    rw [ho]
    show E'.1 + ((osl (s' :: L)).length + 1) ≤ B + 1
    omega
  · rw [hcr e]
    exact (hv e).symm
theorem c_op42 (hL : LwC (s :: L, some x) E B wt ne le code st) (hW : WfL (s :: L)) (h6 : L.length ≤ 5) (hB : B ≤ 1000) (ht : ct = nI 42) (hn : fX5_next len signs words cb cp tp ct cnu cnm = some yn) :
    ∃ E' wt' le' code' st', fX1_readOperator len signs words wt le cb cp tp ct cnu 0 cnm code st = some (wt', le', yn.1, yn.2.1, yn.2.2.1, yn.2.2.2.1, yn.2.2.2.2.1, 0, yn.2.2.2.2.2, code', st') ∧ LwC (astS s L x 22) E' (B + 1) wt' ne le' code' st' := by
  obtain ⟨E', code', a1, a2, a3, a4, a5, a6, _⟩ := c_dn (r := 4) (s' := (mkL s.o s.kb s.ag s.sb 0 s.kv s.av s.sv s.tv)) (x' := r4 s x) (by omega) hL h6 hB (tw4 hW).1 (tw4 hW).2 (fun e => evD4 (by omega))
  obtain ⟨wt', st', b1, b2_⟩ := c_68 (s' := (mkL s.o s.kb s.ag s.sb 0 s.kv s.av s.sv s.tv)) (s'' := (mkL s.o s.kb s.ag s.sb 22 s.kv s.av s.sv (r4 s x))) (x' := r4 s x) (a := 42) h6 ht rfl a2 a3 a4 a5 a6 rfl (fun e => rfl) hn
  refine ⟨E', wt', nI E'.1, code', st', ?_, ?_⟩
  · unfold fX1_readOperator
    rw [ht, c_rank (by omega)]
    simp only [Option.bind_some]
    rw [show rk 42 = 4 from rfl, if_neg (show ¬ nI 4 = 0 by decide)]
    rw [if_neg (show ¬ nI 4 = 2 by decide)]
    unfold fX1_readOperator_29
    rw [a1]
    simp only [Option.bind_some]
    rw [← ht]
    rw [if_neg (show ¬ nI 4 = 2 by decide)]
    exact b1
  · rw [show ne = nI L.length from hL.2.1]
    exact b2_
theorem c_op43 (hL : LwC (s :: L, some x) E B wt ne le code st) (hW : WfL (s :: L)) (h6 : L.length ≤ 5) (hB : B ≤ 1000) (ht : ct = nI 43) (hn : fX5_next len signs words cb cp tp ct cnu cnm = some yn) :
    ∃ E' wt' le' code' st', fX1_readOperator len signs words wt le cb cp tp ct cnu 0 cnm code st = some (wt', le', yn.1, yn.2.1, yn.2.2.1, yn.2.2.2.1, yn.2.2.2.2.1, 0, yn.2.2.2.2.2, code', st') ∧ LwC (astS s L x 20) E' (B + 1) wt' ne le' code' st' := by
  obtain ⟨E', code', a1, a2, a3, a4, a5, a6, _⟩ := c_dn (r := 3) (s' := (mkL s.o s.kb s.ag 0 0 s.kv s.av s.sv s.tv)) (x' := r3 s x) (by omega) hL h6 hB (tw3 hW).1 (tw3 hW).2 (fun e => evD3 (by omega) (WfL_O hW))
  obtain ⟨wt', st', b1, b2_⟩ := c_68 (s' := (mkL s.o s.kb s.ag 0 0 s.kv s.av s.sv s.tv)) (s'' := (mkL s.o s.kb s.ag 20 0 s.kv s.av (r3 s x) s.tv)) (x' := r3 s x) (a := 43) h6 ht rfl a2 a3 a4 a5 a6 rfl (fun e => rfl) hn
  refine ⟨E', wt', nI E'.1, code', st', ?_, ?_⟩
  · unfold fX1_readOperator
    rw [ht, c_rank (by omega)]
    simp only [Option.bind_some]
    rw [show rk 43 = 3 from rfl, if_neg (show ¬ nI 3 = 0 by decide)]
    rw [if_neg (show ¬ nI 3 = 2 by decide)]
    unfold fX1_readOperator_29
    rw [a1]
    simp only [Option.bind_some]
    rw [← ht]
    rw [if_neg (show ¬ nI 3 = 2 by decide)]
    exact b1
  · rw [show ne = nI L.length from hL.2.1]
    exact b2_
theorem c_op45 (hL : LwC (s :: L, some x) E B wt ne le code st) (hW : WfL (s :: L)) (h6 : L.length ≤ 5) (hB : B ≤ 1000) (ht : ct = nI 45) (hn : fX5_next len signs words cb cp tp ct cnu cnm = some yn) :
    ∃ E' wt' le' code' st', fX1_readOperator len signs words wt le cb cp tp ct cnu 0 cnm code st = some (wt', le', yn.1, yn.2.1, yn.2.2.1, yn.2.2.2.1, yn.2.2.2.2.1, 0, yn.2.2.2.2.2, code', st') ∧ LwC (astS s L x 21) E' (B + 1) wt' ne le' code' st' := by
  obtain ⟨E', code', a1, a2, a3, a4, a5, a6, _⟩ := c_dn (r := 3) (s' := (mkL s.o s.kb s.ag 0 0 s.kv s.av s.sv s.tv)) (x' := r3 s x) (by omega) hL h6 hB (tw3 hW).1 (tw3 hW).2 (fun e => evD3 (by omega) (WfL_O hW))
  obtain ⟨wt', st', b1, b2_⟩ := c_68 (s' := (mkL s.o s.kb s.ag 0 0 s.kv s.av s.sv s.tv)) (s'' := (mkL s.o s.kb s.ag 21 0 s.kv s.av (r3 s x) s.tv)) (x' := r3 s x) (a := 45) h6 ht rfl a2 a3 a4 a5 a6 rfl (fun e => rfl) hn
  refine ⟨E', wt', nI E'.1, code', st', ?_, ?_⟩
  · unfold fX1_readOperator
    rw [ht, c_rank (by omega)]
    simp only [Option.bind_some]
    rw [show rk 45 = 3 from rfl, if_neg (show ¬ nI 3 = 0 by decide)]
    rw [if_neg (show ¬ nI 3 = 2 by decide)]
    unfold fX1_readOperator_29
    rw [a1]
    simp only [Option.bind_some]
    rw [← ht]
    rw [if_neg (show ¬ nI 3 = 2 by decide)]
    exact b1
  · rw [show ne = nI L.length from hL.2.1]
    exact b2_
theorem c_op60 (hL : LwC (s :: L, some x) E B wt ne le code st) (hW : WfL (s :: L)) (h6 : L.length ≤ 5) (hB : B ≤ 1000) (ht : ct = nI 60) (hag : s.ag = 0) (hn : fX5_next len signs words cb cp tp ct cnu cnm = some yn) :
    ∃ E' wt' le' code' st', fX1_readOperator len signs words wt le cb cp tp ct cnu 0 cnm code st = some (wt', le', yn.1, yn.2.1, yn.2.2.1, yn.2.2.2.1, yn.2.2.2.2.1, 0, yn.2.2.2.2.2, code', st') ∧ LwC (astS s L x 24) E' (B + 1) wt' ne le' code' st' := by
  obtain ⟨E', code', a1, a2, a3, a4, a5, a6, _⟩ := c_dn (r := 3) (s' := (mkL s.o s.kb s.ag 0 0 s.kv s.av s.sv s.tv)) (x' := r3 s x) (by omega) hL h6 hB (tw3 hW).1 (tw3 hW).2 (fun e => evD3 (by omega) (WfL_O hW))
  obtain ⟨wt', st', b1, b2_⟩ := c_68 (s' := (mkL s.o s.kb s.ag 0 0 s.kv s.av s.sv s.tv)) (s'' := (mkL s.o s.kb 24 0 0 s.kv (r3 s x) s.sv s.tv)) (x' := r3 s x) (a := 60) h6 ht rfl a2 a3 a4 a5 a6 (by show _ = _; rw [show osl ((mkL s.o s.kb s.ag 0 0 s.kv s.av s.sv s.tv) :: L) = oC s ++ (oD s ++ (opo s ++ osl L)) from rfl, show oC s = [] from if_pos hag]; rfl) (fun e => by rw [show vsl e ((mkL s.o s.kb s.ag 0 0 s.kv s.av s.sv s.tv) :: L) = vC s e ++ (vD s e ++ vsl e L) from rfl, show vC s e = [] from if_pos hag]; rfl) hn
  refine ⟨E', wt', nI E'.1, code', st', ?_, ?_⟩
  · unfold fX1_readOperator
    rw [ht, c_rank (by omega)]
    simp only [Option.bind_some]
    rw [show rk 60 = 2 from rfl, if_neg (show ¬ nI 2 = 0 by decide)]
    rw [if_pos (show nI 2 = 2 from rfl)]
    unfold fX1_readOperator_29
    rw [show (3 : Int32) = nI 3 from rfl, a1]
    simp only [Option.bind_some]
    rw [← ht]
    have hh := hd2 hW
    rw [if_pos (show nI 2 = 2 from rfl)]
    have hlow : ¬ (hdr (osl ((mkL s.o s.kb s.ag 0 0 s.kv s.av s.sv s.tv) :: L)) = 2) := fun q => absurd hag (hh.mp q)
    have hl := osl_le ((mkL s.o s.kb s.ag 0 0 s.kv s.av s.sv s.tv) :: L)
    have hl : (osl ((mkL s.o s.kb s.ag 0 0 s.kv s.av s.sv s.tv) :: L)).length ≤ 5 * (L.length + 1) := hl
    have hm := osl_mem ((mkL s.o s.kb s.ag 0 0 s.kv s.av s.sv s.tv) :: L)
    generalize osl ((mkL s.o s.kb s.ag 0 0 s.kv s.av s.sv s.tv) :: L) = l at a4 hl hm hlow b1 ⊢
    cases l with
    | nil => rw [if_pos (show nI ([] : List Nat).length ≤ 0 by decide)]; exact b1
    | cons w l =>
      have hl : l.length + 1 ≤ 5 * (L.length + 1) := hl
      have hw := hm w (List.mem_cons_self ..)
      have hk := rk_le w
      have hlow : ¬ rk w = 2 := hlow
      have w1' : nI ((w :: l).length) - 1 = nI l.length := nsub (b := 1) (a := l.length + 1) (by omega)
      rw [if_neg (show ¬ nI (w :: l).length ≤ 0 from fun q => absurd (show (0 : Int32) < nI (l.length + 1) from nI_lt (a := 0) (by omega) (by omega)) (Int32.not_lt.mpr q)), w1', nB (by omega) (by omega), cond_true, nC (by omega), a4.1, c_rank (by omega)]
      simp only [Option.bind_some]
      rw [if_neg (show ¬ nI (rk w) = 2 from fun q => hlow ((nI_eq (b := 2) (by omega) (by omega)).mp q))]
      exact b1
  · rw [show ne = nI L.length from hL.2.1]
    exact b2_
theorem c_op61 (hL : LwC (s :: L, some x) E B wt ne le code st) (hW : WfL (s :: L)) (h6 : L.length ≤ 5) (hB : B ≤ 1000) (ht : ct = nI 61) (hag : s.ag = 0) (hn : fX5_next len signs words cb cp tp ct cnu cnm = some yn) :
    ∃ E' wt' le' code' st', fX1_readOperator len signs words wt le cb cp tp ct cnu 0 cnm code st = some (wt', le', yn.1, yn.2.1, yn.2.2.1, yn.2.2.2.1, yn.2.2.2.2.1, 0, yn.2.2.2.2.2, code', st') ∧ LwC (astS s L x 25) E' (B + 1) wt' ne le' code' st' := by
  obtain ⟨E', code', a1, a2, a3, a4, a5, a6, _⟩ := c_dn (r := 3) (s' := (mkL s.o s.kb s.ag 0 0 s.kv s.av s.sv s.tv)) (x' := r3 s x) (by omega) hL h6 hB (tw3 hW).1 (tw3 hW).2 (fun e => evD3 (by omega) (WfL_O hW))
  obtain ⟨wt', st', b1, b2_⟩ := c_68 (s' := (mkL s.o s.kb s.ag 0 0 s.kv s.av s.sv s.tv)) (s'' := (mkL s.o s.kb 25 0 0 s.kv (r3 s x) s.sv s.tv)) (x' := r3 s x) (a := 61) h6 ht rfl a2 a3 a4 a5 a6 (by show _ = _; rw [show osl ((mkL s.o s.kb s.ag 0 0 s.kv s.av s.sv s.tv) :: L) = oC s ++ (oD s ++ (opo s ++ osl L)) from rfl, show oC s = [] from if_pos hag]; rfl) (fun e => by rw [show vsl e ((mkL s.o s.kb s.ag 0 0 s.kv s.av s.sv s.tv) :: L) = vC s e ++ (vD s e ++ vsl e L) from rfl, show vC s e = [] from if_pos hag]; rfl) hn
  refine ⟨E', wt', nI E'.1, code', st', ?_, ?_⟩
  · unfold fX1_readOperator
    rw [ht, c_rank (by omega)]
    simp only [Option.bind_some]
    rw [show rk 61 = 2 from rfl, if_neg (show ¬ nI 2 = 0 by decide)]
    rw [if_pos (show nI 2 = 2 from rfl)]
    unfold fX1_readOperator_29
    rw [show (3 : Int32) = nI 3 from rfl, a1]
    simp only [Option.bind_some]
    rw [← ht]
    have hh := hd2 hW
    rw [if_pos (show nI 2 = 2 from rfl)]
    have hlow : ¬ (hdr (osl ((mkL s.o s.kb s.ag 0 0 s.kv s.av s.sv s.tv) :: L)) = 2) := fun q => absurd hag (hh.mp q)
    have hl := osl_le ((mkL s.o s.kb s.ag 0 0 s.kv s.av s.sv s.tv) :: L)
    have hl : (osl ((mkL s.o s.kb s.ag 0 0 s.kv s.av s.sv s.tv) :: L)).length ≤ 5 * (L.length + 1) := hl
    have hm := osl_mem ((mkL s.o s.kb s.ag 0 0 s.kv s.av s.sv s.tv) :: L)
    generalize osl ((mkL s.o s.kb s.ag 0 0 s.kv s.av s.sv s.tv) :: L) = l at a4 hl hm hlow b1 ⊢
    cases l with
    | nil => rw [if_pos (show nI ([] : List Nat).length ≤ 0 by decide)]; exact b1
    | cons w l =>
      have hl : l.length + 1 ≤ 5 * (L.length + 1) := hl
      have hw := hm w (List.mem_cons_self ..)
      have hk := rk_le w
      have hlow : ¬ rk w = 2 := hlow
      have w1' : nI ((w :: l).length) - 1 = nI l.length := nsub (b := 1) (a := l.length + 1) (by omega)
      rw [if_neg (show ¬ nI (w :: l).length ≤ 0 from fun q => absurd (show (0 : Int32) < nI (l.length + 1) from nI_lt (a := 0) (by omega) (by omega)) (Int32.not_lt.mpr q)), w1', nB (by omega) (by omega), cond_true, nC (by omega), a4.1, c_rank (by omega)]
      simp only [Option.bind_some]
      rw [if_neg (show ¬ nI (rk w) = 2 from fun q => hlow ((nI_eq (b := 2) (by omega) (by omega)).mp q))]
      exact b1
  · rw [show ne = nI L.length from hL.2.1]
    exact b2_
theorem c_op148 (hL : LwC (s :: L, some x) E B wt ne le code st) (hW : WfL (s :: L)) (h6 : L.length ≤ 5) (hB : B ≤ 1000) (ht : ct = nI 148) (hn : fX5_next len signs words cb cp tp ct cnu cnm = some yn) :
    ∃ E' wt' le' code' st', fX1_readOperator len signs words wt le cb cp tp ct cnu 0 cnm code st = some (wt', le', yn.1, yn.2.1, yn.2.2.1, yn.2.2.2.1, yn.2.2.2.2.1, 0, yn.2.2.2.2.2, code', st') ∧ LwC (astS s L x 26) E' (B + 1) wt' ne le' code' st' := by
  obtain ⟨E', code', a1, a2, a3, a4, a5, a6, _⟩ := c_dn (r := 1) (s' := (mkL s.o 0 0 0 0 s.kv s.av s.sv s.tv)) (x' := r1 s x) (by omega) hL h6 hB (tw1 hW).1 (tw1 hW).2 (fun e => evD1 (by omega) (WfL_O hW))
  obtain ⟨wt', st', b1, b2_⟩ := c_68 (s' := (mkL s.o 0 0 0 0 s.kv s.av s.sv s.tv)) (s'' := (mkL s.o 26 0 0 0 (r1 s x) s.av s.sv s.tv)) (x' := r1 s x) (a := 148) h6 ht rfl a2 a3 a4 a5 a6 rfl (fun e => rfl) hn
  refine ⟨E', wt', nI E'.1, code', st', ?_, ?_⟩
  · unfold fX1_readOperator
    rw [ht, c_rank (by omega)]
    simp only [Option.bind_some]
    rw [show rk 148 = 1 from rfl, if_neg (show ¬ nI 1 = 0 by decide)]
    rw [if_neg (show ¬ nI 1 = 2 by decide)]
    unfold fX1_readOperator_29
    rw [a1]
    simp only [Option.bind_some]
    rw [← ht]
    rw [if_neg (show ¬ nI 1 = 2 by decide)]
    exact b1
  · rw [show ne = nI L.length from hL.2.1]
    exact b2_
theorem c_op149 (hL : LwC (s :: L, some x) E B wt ne le code st) (hW : WfL (s :: L)) (h6 : L.length ≤ 5) (hB : B ≤ 1000) (ht : ct = nI 149) (hn : fX5_next len signs words cb cp tp ct cnu cnm = some yn) :
    ∃ E' wt' le' code' st', fX1_readOperator len signs words wt le cb cp tp ct cnu 0 cnm code st = some (wt', le', yn.1, yn.2.1, yn.2.2.1, yn.2.2.2.1, yn.2.2.2.2.1, 0, yn.2.2.2.2.2, code', st') ∧ LwC (astS s L x 27) E' (B + 1) wt' ne le' code' st' := by
  obtain ⟨E', code', a1, a2, a3, a4, a5, a6, _⟩ := c_dn (r := 1) (s' := (mkL s.o 0 0 0 0 s.kv s.av s.sv s.tv)) (x' := r1 s x) (by omega) hL h6 hB (tw1 hW).1 (tw1 hW).2 (fun e => evD1 (by omega) (WfL_O hW))
  obtain ⟨wt', st', b1, b2_⟩ := c_68 (s' := (mkL s.o 0 0 0 0 s.kv s.av s.sv s.tv)) (s'' := (mkL s.o 27 0 0 0 (r1 s x) s.av s.sv s.tv)) (x' := r1 s x) (a := 149) h6 ht rfl a2 a3 a4 a5 a6 rfl (fun e => rfl) hn
  refine ⟨E', wt', nI E'.1, code', st', ?_, ?_⟩
  · unfold fX1_readOperator
    rw [ht, c_rank (by omega)]
    simp only [Option.bind_some]
    rw [show rk 149 = 1 from rfl, if_neg (show ¬ nI 1 = 0 by decide)]
    rw [if_neg (show ¬ nI 1 = 2 by decide)]
    unfold fX1_readOperator_29
    rw [a1]
    simp only [Option.bind_some]
    rw [← ht]
    rw [if_neg (show ¬ nI 1 = 2 by decide)]
    exact b1
  · rw [show ne = nI L.length from hL.2.1]
    exact b2_
theorem c_opF60 {f : Int32} (hL : LwC (s :: L, some x) E B wt ne le code st) (hW : WfL (s :: L)) (h6 : L.length ≤ 5) (hB : B ≤ 1000) (ht : ct = nI 60) (hag : s.ag ≠ 0) (hr : fX5_refuse cp 0 1 = some f) :
    ok (fX1_readOperator len signs words wt le cb cp tp ct cnu 0 cnm code st) (fun r => r.2.2.2.2.2.2.2.1 = f ∧ LwT r.1 r.2.1 r.2.2.2.2.2.2.2.2.2.1 r.2.2.2.2.2.2.2.2.2.2) := by
  obtain ⟨E', code', a1, a2, a3, a4, a5, a6, _⟩ := c_dn (r := 3) (s' := (mkL s.o s.kb s.ag 0 0 s.kv s.av s.sv s.tv)) (x' := r3 s x) (by omega) hL h6 hB (tw3 hW).1 (tw3 hW).2 (fun e => evD3 (by omega) (WfL_O hW))
  unfold fX1_readOperator
  rw [ht, c_rank (by omega)]
  simp only [Option.bind_some]
  rw [show rk 60 = 2 from rfl, if_neg (show ¬ nI 2 = 0 by decide), if_pos (show nI 2 = 2 from rfl)]
  unfold fX1_readOperator_29
  rw [show (3 : Int32) = nI 3 from rfl, a1]
  simp only [Option.bind_some]
  have hh := (hd2 hW).mpr hag
  rw [if_pos (show nI 2 = 2 from rfl)]
  have hl := osl_le ((mkL s.o s.kb s.ag 0 0 s.kv s.av s.sv s.tv) :: L)
  have hl : (osl ((mkL s.o s.kb s.ag 0 0 s.kv s.av s.sv s.tv) :: L)).length ≤ 5 * (L.length + 1) := hl
  have hm := osl_mem ((mkL s.o s.kb s.ag 0 0 s.kv s.av s.sv s.tv) :: L)
  generalize osl ((mkL s.o s.kb s.ag 0 0 s.kv s.av s.sv s.tv) :: L) = l at a4 a5 hl hm hh ⊢
  cases l with
  | nil => exact absurd hh (by decide)
  | cons w l =>
    have hl : l.length + 1 ≤ 5 * (L.length + 1) := hl
    have hw := hm w (List.mem_cons_self ..)
    have hh : rk w = 2 := hh
    have a5 : E'.1 + (l.length + 1) ≤ B := a5
    have w1' : nI ((w :: l).length) - 1 = nI l.length := nsub (b := 1) (a := l.length + 1) (by omega)
    rw [if_neg (show ¬ nI (w :: l).length ≤ 0 from fun q => absurd (show (0 : Int32) < nI (l.length + 1) from nI_lt (a := 0) (by omega) (by omega)) (Int32.not_lt.mpr q)), w1', nB (by omega) (by omega), cond_true, nC (by omega), a4.1, c_rank (by omega)]
    simp only [Option.bind_some]
    rw [if_pos (show nI (rk w) = 2 by rw [hh]; rfl), hr]
    exact ok_some ⟨rfl, w :: l, E', rfl, rfl, a2, a4, by show l.length + 1 ≤ 32; omega, by show E'.1 + (l.length + 1) ≤ 1000; omega, hm⟩
theorem c_opF61 {f : Int32} (hL : LwC (s :: L, some x) E B wt ne le code st) (hW : WfL (s :: L)) (h6 : L.length ≤ 5) (hB : B ≤ 1000) (ht : ct = nI 61) (hag : s.ag ≠ 0) (hr : fX5_refuse cp 0 1 = some f) :
    ok (fX1_readOperator len signs words wt le cb cp tp ct cnu 0 cnm code st) (fun r => r.2.2.2.2.2.2.2.1 = f ∧ LwT r.1 r.2.1 r.2.2.2.2.2.2.2.2.2.1 r.2.2.2.2.2.2.2.2.2.2) := by
  obtain ⟨E', code', a1, a2, a3, a4, a5, a6, _⟩ := c_dn (r := 3) (s' := (mkL s.o s.kb s.ag 0 0 s.kv s.av s.sv s.tv)) (x' := r3 s x) (by omega) hL h6 hB (tw3 hW).1 (tw3 hW).2 (fun e => evD3 (by omega) (WfL_O hW))
  unfold fX1_readOperator
  rw [ht, c_rank (by omega)]
  simp only [Option.bind_some]
  rw [show rk 61 = 2 from rfl, if_neg (show ¬ nI 2 = 0 by decide), if_pos (show nI 2 = 2 from rfl)]
  unfold fX1_readOperator_29
  rw [show (3 : Int32) = nI 3 from rfl, a1]
  simp only [Option.bind_some]
  have hh := (hd2 hW).mpr hag
  rw [if_pos (show nI 2 = 2 from rfl)]
  have hl := osl_le ((mkL s.o s.kb s.ag 0 0 s.kv s.av s.sv s.tv) :: L)
  have hl : (osl ((mkL s.o s.kb s.ag 0 0 s.kv s.av s.sv s.tv) :: L)).length ≤ 5 * (L.length + 1) := hl
  have hm := osl_mem ((mkL s.o s.kb s.ag 0 0 s.kv s.av s.sv s.tv) :: L)
  generalize osl ((mkL s.o s.kb s.ag 0 0 s.kv s.av s.sv s.tv) :: L) = l at a4 a5 hl hm hh ⊢
  cases l with
  | nil => exact absurd hh (by decide)
  | cons w l =>
    have hl : l.length + 1 ≤ 5 * (L.length + 1) := hl
    have hw := hm w (List.mem_cons_self ..)
    have hh : rk w = 2 := hh
    have a5 : E'.1 + (l.length + 1) ≤ B := a5
    have w1' : nI ((w :: l).length) - 1 = nI l.length := nsub (b := 1) (a := l.length + 1) (by omega)
    rw [if_neg (show ¬ nI (w :: l).length ≤ 0 from fun q => absurd (show (0 : Int32) < nI (l.length + 1) from nI_lt (a := 0) (by omega) (by omega)) (Int32.not_lt.mpr q)), w1', nB (by omega) (by omega), cond_true, nC (by omega), a4.1, c_rank (by omega)]
    simp only [Option.bind_some]
    rw [if_pos (show nI (rk w) = 2 by rw [hh]; rfl), hr]
    exact ok_some ⟨rfl, w :: l, E', rfl, rfl, a2, a4, by show l.length + 1 ≤ 32; omega, by show E'.1 + (l.length + 1) ≤ 1000; omega, hm⟩
theorem c_op0 {a : Nat} {f : Int32} (ht : ct = nI a) (ha : a < 1000) (h0 : rk a = 0) (hr : fX5_refuse cp 0 1 = some f) (hT : LwT wt le code st) :
    ok (fX1_readOperator len signs words wt le cb cp tp ct cnu 0 cnm code st) (fun r => r.2.2.2.2.2.2.2.1 = f ∧ LwT r.1 r.2.1 r.2.2.2.2.2.2.2.2.2.1 r.2.2.2.2.2.2.2.2.2.2) := by
  unfold fX1_readOperator
  rw [ht, c_rank (by omega)]
  simp only [Option.bind_some]
  rw [h0, if_pos (show nI 0 = 0 from rfl), hr]
  exact ok_some ⟨rfl, hT⟩
theorem c_close (hL : LwC (s :: L, some x) E B wt ne le code st) (hW : WfL (s :: L)) (hs : s.o ≠ 1) (h0 : L ≠ []) (h6 : L.length ≤ 5) (hB : B ≤ 1000) (hn : fX5_next len signs words cb cp tp ct cnu cnm = some yn) :
    ∃ E' wt' ne' le' code', fX1_closeBracket len st signs words wt ne le cb cp tp ct cnu cnm code = some (wt', ne', le', yn.1, yn.2.1, yn.2.2.1, yn.2.2.2.1, yn.2.2.2.2.1, yn.2.2.2.2.2, code') ∧ LwC (arS (arr L (r1 s x))) E' (B + 1) wt' ne' le' code' st := by
  obtain ⟨E', code', a1, a2, a3, a4, a5, a6, _⟩ := c_dn (r := 1) (s' := (mkL s.o 0 0 0 0 s.kv s.av s.sv s.tv)) (x' := r1 s x) (by omega) hL h6 hB (tw1 hW).1 (tw1 hW).2 (fun e => evD1 (by omega) (WfL_O hW))
  have o2 : s.o = 2 := by
    rcases WfL_o hW with q | q | q
    · exact absurd q.2 h0
    · exact absurd q hs
    · exact q
  have eo : osl ((mkL s.o 0 0 0 0 s.kv s.av s.sv s.tv) :: L) = 40 :: osl L := by
    show opo s ++ osl L = _
    unfold opo
    rw [o2]; rfl
  rw [eo] at a1 a4 a5
  have a5 : E'.1 + ((osl L).length + 1) ≤ B := a5
  have hl := osl_le L
  have hp : 0 < L.length := List.length_pos_iff.mpr h0
  have a6 : ∀ e, crun e E' = r1 s x e :: vsl e L := a6
  obtain ⟨y, ey, E2, b1, b2_, b3, b4, b5, b6, b7, b8, b9⟩ := c_closeN (st := st) (zz := fun _ _ _ _ => none) L (r1 s x) FU E' code' (WfL_t hW h0) (by omega) (by unfold FU; omega) a4.2 a2 a3 (by omega) a6
  refine ⟨E2, y.1, y.2.1, y.2.2.1, y.2.2.2, ?_, b1, b2_, b3, b4, b5, b8, by show E2.1 + (osl (arr L (r1 s x)).1).length ≤ B + 1; omega, b9⟩
  unfold fX1_closeBracket fX1_closeNots
  rw [show (1 : Int32) = nI 1 from rfl, a1]
  simp only [Option.bind_some]
  have hpop : fX1_pop st (nI (40 :: osl L).length) = some (nI 40, nI (osl L).length) := by
    unfold fX1_pop
    have w1' : nI ((40 :: osl L).length) - 1 = nI (osl L).length := nsub (b := 1) (a := (osl L).length + 1) (by omega)
    rw [if_neg (show ¬ nI (40 :: osl L).length = 0 from fun q => by have := (nI_eq (a := (osl L).length + 1) (b := 0) (by omega) (by omega)).mp q; omega), w1', nB (by omega) (by omega), cond_true, nC (by omega), a4.1]
  rw [hpop]
  simp only [Option.bind_some]
  rw [show ne = nI L.length from hL.2.1, show nI L.length - nI 1 = nI (L.length - 1) from nsub (by omega)]
  show Option.bind (itr (fun kk => fX1_closeNots_0 st kk) (fun _ _ _ _ => none) FU (nI (osl L).length) (nI (L.length - 1)) (nI E'.1) code') _ = _
  rw [ey]
  simp only [Option.bind_some]
  rw [hn]
  rfl
theorem c_end (hL : LwC ([s], some x) E B wt ne le code st) (hW : WfL [s]) (hB : B ≤ 1000) {f : Int32} :
    ∃ E' wt' code', fX1_readFrom_105 len signs words wt ne le cb cp tp ct cnu f cnm code st = some (wt', ne, nI E'.1, cb, cp, tp, ct, cnu, f, cnm, code', st) ∧ CdR code' 0 E' ∧ gdE E' ∧ E'.1 ≤ B ∧ (∀ e, crun e E' = [r1 s x e]) ∧ E.1 ≤ E'.1 := by
  obtain ⟨E', code', a1, a2, a3, a4, a5, a6, a7⟩ := c_dn (r := 1) (s' := (mkL s.o 0 0 0 0 s.kv s.av s.sv s.tv)) (x' := r1 s x) (by omega) hL (by simp) hB (tw1 hW).1 (tw1 hW).2 (fun e => evD1 (by simp) (WfL_O hW))
  refine ⟨E', nI (osl [(mkL s.o 0 0 0 0 s.kv s.av s.sv s.tv)]).length, code', ?_, a2, a3, by omega, a6, a7⟩
  unfold fX1_readFrom_105
  rw [show (1 : Int32) = nI 1 from rfl, a1]
  rfl
end PO
