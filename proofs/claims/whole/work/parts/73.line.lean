/-! one line of a winter, both sides -/
def addL (L : Pln) (a g h : Nat) : Pln := (L.1 + 1, fun i => if i = L.1 then a else pW L i, fun i => if i = L.1 then g else pG L i, fun i => if i = L.1 then h else pH L i)
theorem addL_s {L : Pln} {a g h : Nat} : pW (addL L a g h) L.1 = a ∧ pG (addL L a g h) L.1 = g ∧ pH (addL L a g h) L.1 = h := ⟨if_pos rfl, if_pos rfl, if_pos rfl⟩
theorem addL_n {L : Pln} {a g h i : Nat} (e : i ≠ L.1) : pW (addL L a g h) i = pW L i ∧ pG (addL L a g h) i = pG L i ∧ pH (addL L a g h) i = pH L i := ⟨if_neg e, if_neg e, if_neg e⟩
def WLh (H G : Nat) (L : Pln) : Prop := L.1 ≤ 40 ∧ ∀ i, i < L.1 → pW L i ≤ 4 ∧ (pW L i < 3 → pG L i < G) ∧ (pW L i = 0 ∨ pW L i = 2 ∨ pW L i = 3 → pH L i < H)
theorem WLh_add {H G a g h : Nat} {L : Pln} (hL : WLh H G L) (h40 : L.1 < 40) (ha : a ≤ 4) (hg : a < 3 → g < G) (hh : a = 0 ∨ a = 2 ∨ a = 3 → h < H) : WLh H G (addL L a g h) := by
  refine ⟨h40, fun i hi => ?_⟩
  have hi : i < L.1 + 1 := hi
  by_cases e : i = L.1
  · rw [e, addL_s.1, addL_s.2.1, addL_s.2.2]; exact ⟨ha, hg, hh⟩
  · rw [(addL_n e).1, (addL_n e).2.1, (addL_n e).2.2]; exact hL.2 i (by omega)
theorem CL_add {a g h : Nat} {L : Pln} {lines gv hv : Int32} {gs hs vs : Nat → Int32} (hL : CL L lines gs hs vs) (hg : a < 3 → gv = nI g) (hh : a = 0 ∨ a = 2 ∨ a = 3 → hv = nI h) (h1 : a = 1 → hv = -1) : CL (addL L a g h) (nI (L.1 + 1)) (upd gs L.1 gv) (upd hs L.1 hv) (upd vs L.1 (nI (138 + a))) := by
  refine ⟨rfl, fun i hi => ?_⟩
  have hi : i < L.1 + 1 := hi
  by_cases e : i = L.1
  · rw [e, addL_s.1, addL_s.2.1, addL_s.2.2, pk_us, pk_us, pk_us]; exact ⟨rfl, hg, hh, h1⟩
  · rw [(addL_n e).1, (addL_n e).2.1, (addL_n e).2.2, pk_un e, pk_un e, pk_un e]; exact hL.2 i (by omega)
theorem ML_add {a g h : Nat} {L : Pln} {ln lw la lb la' lb' : Nat → Int32} (hL : ML L 5 ln lw la lb) (hla : ∀ j, j ≠ 200 + L.1 → la' j = la j) (hlb : ∀ j, j ≠ 200 + L.1 → lb' j = lb j) (hg : a < 3 → la' (200 + L.1) = nI g) (hh : a = 0 ∨ a = 2 ∨ a = 3 → lb' (200 + L.1) = nI h) : ML (addL L a g h) 5 (upd ln 5 (ln 5 + 1)) (upd lw (200 + L.1) (nI a)) la' lb' := by
  refine ⟨?_, fun i hi => ?_⟩
  · rw [pk_us, hL.1, nI_1]; rfl
  have hi : i < L.1 + 1 := hi
  have q := hL.2 i
  rw [show 40 * 5 + i = 200 + i by omega] at q ⊢
  by_cases e : i = L.1
  · rw [e, addL_s.1, addL_s.2.1, addL_s.2.2, pk_us]; exact ⟨rfl, hg, hh⟩
  · rw [(addL_n e).1, (addL_n e).2.1, (addL_n e).2.2, pk_un (by omega), hla _ (by omega), hlb _ (by omega)]; exact q (by omega)
def FrL (ln lw la lb ln' lw' la' lb' : Nat → Int32) : Prop := (∀ k, k ≠ 5 → ln' k = ln k) ∧ ∀ j, j < 200 → lw' j = lw j ∧ la' j = la j ∧ lb' j = lb j
theorem nar_m1b : vp_nar .byte (i2b_ (-1)) = -1 := by decide
section LN
variable {z : Nat → Nat} {n : Nat} {signs tape : Nat → Int32} {words : Nat → Int64}
/-- the hole's half of a line -/
theorem p_lhole {NH : Nms} {a l H : Nat} {G' x0 : Int32} {hn gn mhn mgn : Nat → Int64} {te gs hs vs ln lw la lb : Nat → Int32} {cb cp tp ct cnu mp mb mt mnu wr gv : Int32} {cnm mwd : Int64} (hT : TpR z n signs tape words) (h : RdR z n cb cp ct cnu cnm mp mb mt mnu mwd) (ha : a ≤ 4) (hl : l < 40) (hH : H ≤ 5) (hN : WN NH H) (hC : CN_ NH H hn) (hM : MN_ NH H 0 mhn) (hte : te 0 = nI H) :
    (∃ (i : Nat) (cb' cp' tp' ct' cn' : Int32) (cm' : Int64) (mp' mb' mt' mn' : Int32) (mw' : Int64) (gv' hv : Int32) (lb' : Nat → Int32), RdR z n cb' cp' ct' cn' cm' mp' mb' mt' mn' mw' ∧ (a = 0 ∨ a = 2 ∨ a = 3 → i < H ∧ hv = nI i ∧ lb' (200 + l) = nI i) ∧ (a = 1 → hv = -1) ∧ (∀ j, j ≠ 200 + l → lb' j = lb j) ∧ fX7_readLine_131 (nI n) (nI H) G' signs words hn gn (nI l) cb cp tp ct cnu 0 cnm gs hs vs (if a = 1 ∨ a = 4 then 0 else 1) x0 (nI l) = some (nI (l + 1), cb', cp', tp', ct', cn', 0, cm', upd gs l (vp_nar .byte (i2b_ x0)), upd hs l hv, vs) ∧ fX9_readsLine_149 (nI n) tape te mhn mgn mp mb mt mnu wr gv mwd ln lw la lb (nI a) (nI (200 + l)) = fX9_readsLine_183 (nI n) tape te mhn mgn mp' mb' mt' mn' wr gv' mw' ln lw la lb') ∨
    (∃ f : Int32, ¬ f = 0 ∧ ok (fX7_readLine_131 (nI n) (nI H) G' signs words hn gn (nI l) cb cp tp ct cnu 0 cnm gs hs vs (if a = 1 ∨ a = 4 then 0 else 1) x0 (nI l)) (fun r => r.2.2.2.2.2.2.1 = f) ∧ ok (fX9_readsLine_149 (nI n) tape te mhn mgn mp mb mt mnu wr gv mwd ln lw la lb (nI a) (nI (200 + l))) (fun r => r.1 = 0 ∧ r.2.2.2.2.2.1 = f ∧ r.2.2.2.2.2.2.2.2 = (ln, lw, la, lb))) := by
  have hi : inb (nI l) 40 = true := nB hl (by omega)
  have hj : inb (nI (200 + l)) 240 = true := nB (by omega) (by omega)
  have cl : (nI l).toNatClampNeg = l := nC (by omega)
  have cj : (nI (200 + l)).toNatClampNeg = 200 + l := nC (by omega)
  by_cases x : a = 1 ∨ a = 4
  · refine Or.inl ⟨0, cb, cp, tp, ct, cnu, cnm, mp, mb, mt, mnu, mwd, gv, -1, lb, h, fun e => by omega, fun _ => rfl, fun _ _ => rfl, ?_, ?_⟩
    · unfold fX7_readLine_131 fX7_readLine_155
      rw [if_pos x, hi, cond_true, if_pos rfl, cond_true, cl, nar_m1b, nI_1]
    · unfold fX9_readsLine_149
      rcases x with e | e
      · rw [e, if_pos (show nI 1 = 1 from rfl)]
      · rw [e, if_neg (show ¬ nI 4 = 1 by decide), if_pos (show nI 4 = 4 from rfl)]
  have n1 : ¬ nI a = 1 := fun e => x (Or.inl ((nI_eq (b := 1) (by omega) (by omega)).mp e))
  have n4 : ¬ nI a = 4 := fun e => x (Or.inr ((nI_eq (b := 4) (by omega) (by omega)).mp e))
  rw [if_neg x]
  rcases p_holeName (N := NH) (m := H) (t := 0) (names := hn) (mnames := mhn) (te := te) (tp := tp) (wr := wr) (gv := gv) hT h (by omega) hH hN hC hM hte with ⟨i, hiH, cb', cp', ct', cn', cm', mp', mb', mt', mn', mw', hR, e1, e2, e3⟩ | ⟨f, hf, e1, e2⟩
  · have e2 : fX9_needsHole mb mt mwd te mhn wr gv 0 = some (1, wr, nI i) := e2
    refine Or.inl ⟨i, cb', cp', cp, ct', cn', cm', mp', mb', mt', mn', mw', nI i, nI i, upd lb (200 + l) (nI i), hR, fun _ => ⟨hiH, rfl, pk_us⟩, fun e => absurd (Or.inl e) x, fun j e => pk_un e, ?_, ?_⟩
    · unfold fX7_readLine_131
      rw [hi, cond_true, if_neg (by decide : ¬ (1 : Int32) = 0), e1]
      simp only [Option.bind_some]
      unfold fX7_readLine_155
      rw [hi, cond_true, cl, nar_byte i (by omega), nI_1]
    · unfold fX9_readsLine_149
      rw [if_neg n1, if_neg n4, e2]
      simp only [Option.bind_some]
      rw [if_neg (by decide : ¬ (1 : Int32) = 0), hj, cond_true, e3, cj]
      simp only [Option.bind_some]
  · have e2 : ok (fX9_needsHole mb mt mwd te mhn wr gv 0) (fun r => r.1 = 0 ∧ r.2.1 = f) := e2
    refine Or.inr ⟨f, hf, ?_, ?_⟩
    · unfold fX7_readLine_131
      refine ok_g hi (ok_f (by decide : ¬ (1 : Int32) = 0) (ok_bind (ok_mono e1 (fun y e => ?_))))
      unfold fX7_readLine_155
      exact ok_g hi (ok_some e)
    · unfold fX9_readsLine_149
      refine ok_f n1 (ok_f n4 (ok_bind (ok_mono e2 (fun y e => ok_t e.1 (ok_some ⟨rfl, e.2, rfl⟩)))))
end LN
