/-! one line of a winter, both sides: whole -/
section LQ
variable {z : Nat → Nat} {n : Nat} {signs tape : Nat → Int32} {words : Nat → Int64}
def NmR (NH NG : Nms) (H G : Nat) (hn gn mhn mgn : Nat → Int64) (te : Nat → Int32) : Prop := H ≤ 5 ∧ G ≤ 5 ∧ WN NH H ∧ CN_ NH H hn ∧ MN_ NH H 0 mhn ∧ te 0 = nI H ∧ WN NG G ∧ CN_ NG G gn ∧ MN_ NG G 0 mgn ∧ te 1 = nI G
theorem m_noverb2 {q : Nat} {sz mp mb mt mnu wr gv : Int32} {mwd : Int64} {hn gn : Nat → Int64} {te ln lw la lb : Nat → Int32} (hq : q ≤ 1000) (em : mb = nI q) : ok (fX9_readsLine_71 sz tape te hn gn mp mb mt mnu wr gv mwd ln lw la lb (-1)) (fun r => r.1 = 0 ∧ r.2.2.2.2.2.1 = nI (1 + 16 * q) ∧ r.2.2.2.2.2.2.2.2 = (ln, lw, la, lb)) := by
  have fl := flt hq (c := 1) (by omega) (by omega)
  unfold fX9_readsLine_71 fX9_fails
  rw [if_neg (by decide)]
  exact ok_some ⟨show vp_nar FieldType.boolean 0 = 0 by decide, by rw [em, ← fl.1]; rfl, rfl⟩
theorem FrL_rfl {ln lw la lb : Nat → Int32} : FrL ln lw la lb ln lw la lb := ⟨fun _ _ => rfl, fun _ _ => ⟨rfl, rfl, rfl⟩⟩
theorem FrL_tr {ln lw la lb ln' lw' la' lb' ln2 lw2 la2 lb2 : Nat → Int32} (h : FrL ln lw la lb ln' lw' la' lb') (g : FrL ln' lw' la' lb' ln2 lw2 la2 lb2) : FrL ln lw la lb ln2 lw2 la2 lb2 := ⟨fun k e => (g.1 k e).trans (h.1 k e), fun j e => ⟨(g.2 j e).1.trans (h.2 j e).1, (g.2 j e).2.1.trans (h.2 j e).2.1, (g.2 j e).2.2.trans (h.2 j e).2.2⟩⟩
theorem p_wline {NH NG : Nms} {L : Pln} {H G : Nat} {hn gn mhn mgn : Nat → Int64} {te gs hs vs ln lw la lb : Nat → Int32} {lines cb cp tp ct cnu mp mb mt mnu wr gv : Int32} {cnm mwd : Int64} (hT : TpR z n signs tape words) (h : RdR z n cb cp ct cnu cnm mp mb mt mnu mwd) (hz : ∀ i, i < n → z i < 127) (hN : NmR NH NG H G hn gn mhn mgn te) (hW : WLh H G L) (hCL : CL L lines gs hs vs) (hML : ML L 5 ln lw la lb) :
    (∃ (L' : Pln) (cb' cp' tp' ct' cn' : Int32) (cm' : Int64) (mp' mb' mt' mn' : Int32) (mw' : Int64) (gv' : Int32) (gs' hs' vs' lw' la' lb' : Nat → Int32), L'.1 = L.1 + 1 ∧ RdR z n cb' cp' ct' cn' cm' mp' mb' mt' mn' mw' ∧ WLh H G L' ∧ CL L' (nI (L.1 + 1)) gs' hs' vs' ∧ ML L' 5 (upd ln 5 (ln 5 + 1)) lw' la' lb' ∧ FrL ln lw la lb ln lw' la' lb' ∧ fX7_readLine (nI n) (nI H) (nI G) signs words hn gn lines cb cp tp ct cnu 0 cnm gs hs vs = some (nI (L.1 + 1), cb', cp', tp', ct', cn', 0, cm', gs', hs', vs') ∧ fX9_readsLine (nI n) tape te mhn mgn mp mb mt mnu wr gv mwd ln lw la lb = fX9_readsLine_183 (nI n) tape te mhn mgn mp' mb' mt' mn' wr gv' mw' ln lw' la' lb') ∨
    (∃ f : Int32, ¬ f = 0 ∧ ok (fX7_readLine (nI n) (nI H) (nI G) signs words hn gn lines cb cp tp ct cnu 0 cnm gs hs vs) (fun r => r.2.2.2.2.2.2.1 = f) ∧ ok (fX9_readsLine (nI n) tape te mhn mgn mp mb mt mnu wr gv mwd ln lw la lb) (fun r => r.1 = 0 ∧ r.2.2.2.2.2.1 = f ∧ FrL ln lw la lb r.2.2.2.2.2.2.2.2.1 r.2.2.2.2.2.2.2.2.2.1 r.2.2.2.2.2.2.2.2.2.2.1 r.2.2.2.2.2.2.2.2.2.2.2)) := by
  obtain ⟨hH, hG, n1, n2, n3, n4, n5, n6, n7, n8⟩ := hN
  have hl : lines = nI L.1 := hCL.1
  subst hl
  have h0 := h
  obtain ⟨q, r, e1, e2, e3, e4, tk⟩ := h
  obtain ⟨a, ha, ea⟩ := tok_val tk
  have hq : q ≤ 1000 := by have := tk.1; have := hT.1; omega
  rw [m_what tk hz ha ea]
  by_cases hv : ¬ (138 ≤ a ∧ a ≤ 142)
  · have fl := flt hq (c := 1) (by omega) (by omega)
    rw [if_neg hv]
    exact Or.inr ⟨nI (1 + 16 * q), fl.2, p_noverb hq ha hv ea e2, ok_mono (m_noverb2 hq e4) (fun y e => ⟨e.1, e.2.1, by rw [e.2.2]; exact FrL_rfl⟩)⟩
  have hv := Decidable.not_not.mp hv
  rw [if_pos hv]
  have p0 : (0 : Int32) ≤ nI (a - 138) := nI_le (a := 0) (by omega) (by omega)
  have hln : ln 5 = nI L.1 := hML.1
  by_cases h40 : ¬ (L.1 < 40)
  · have e40 : L.1 = 40 := by have := hW.1; omega
    have fl := flt hq (c := 5) (by omega) (by omega)
    refine Or.inr ⟨nI (5 + 16 * q), fl.2, ?_, ?_⟩
    · have hw : fX8_isWithin ct 138 142 = some 1 := by
        unfold fX8_isWithin
        rw [ea, if_neg (show ¬ nI a < 138 from nI_nlt (b := 138) (by omega) (by omega)), if_neg (show ¬ 142 < nI a from nI_nlt (a := 142) (by omega) (by omega))]
      have hr : fX5_refuse cp 0 5 = some (nI (5 + 16 * q)) := by
        unfold fX5_refuse
        rw [if_pos rfl, e2, ← fl.1]; rfl
      unfold fX7_readLine
      rw [hw]
      simp only [Option.bind_some]
      rw [if_neg (by decide : ¬ (1 : Int32) = 0), e40, if_neg (show ¬ nI 40 < 40 by decide), hr]
      exact ok_some rfl
    · unfold fX9_readsLine_71 fX9_fails
      rw [if_pos p0, hln, e40, if_pos (show nI 40 = 40 from rfl)]
      exact ok_some ⟨show vp_nar FieldType.boolean 0 = 0 by decide, by rw [e4, ← fl.1]; rfl, FrL_rfl⟩
  have h40 := Decidable.not_not.mp h40
  have n40 : ¬ ln 5 = 40 := by
    rw [hln]
    exact fun e => by have := (nI_eq (b := 40) (by omega) (by omega)).mp e; omega
  have e200 : 200 + ln 5 = nI (200 + L.1) := by
    rw [hln, show (200 : Int32) = nI 200 from rfl, nI_add]
  have hj : inb (nI (200 + L.1)) 240 = true := nB (by omega) (by omega)
  have cj : (nI (200 + L.1)).toNatClampNeg = 200 + L.1 := nC (by omega)
  obtain ⟨cb1, cp1, ct1, cn1, cm1, mp1, mb1, mt1, mn1, mw1, hR1, hc1, hm1⟩ := p_next2 (tp := tp) hT h0
  rw [c_verb hv ea h40 hc1]
  have eh : (if a = 139 ∨ a = 142 then (0 : Int32) else 1) = (if a - 138 = 1 ∨ a - 138 = 4 then 0 else 1) := by
    by_cases x : a = 139 ∨ a = 142
    · rw [if_pos x, if_pos (by omega)]
    · rw [if_neg x, if_neg (by omega)]
  rw [eh]
  by_cases hg : ¬ (a ≤ 140)
  · have m71 : fX9_readsLine_71 (nI n) tape te mhn mgn mp mb mt mnu wr gv mwd ln lw la lb (nI (a - 138)) = fX9_readsLine_149 (nI n) tape te mhn mgn mp1 mb1 mt1 mn1 wr gv mw1 ln (upd lw (200 + L.1) (nI (a - 138))) la lb (nI (a - 138)) (nI (200 + L.1)) := by
      unfold fX9_readsLine_71
      rw [if_pos p0, if_neg n40, hm1]
      simp only [Option.bind_some]
      rw [e200, hj, cond_true, if_pos (show (3 : Int32) ≤ nI (a - 138) from nI_le (a := 3) (by omega) (by omega)), cj]
    rw [m71, if_neg hg]
    unfold fX7_readLine_107
    rw [if_pos rfl]
    rcases p_lhole (NH := NH) (a := a - 138) (l := L.1) (H := H) (G' := nI G) (x0 := -1) (hn := hn) (gn := gn) (mhn := mhn) (mgn := mgn) (te := te) (gs := gs) (hs := hs) (vs := upd vs L.1 (nI a)) (ln := ln) (lw := upd lw (200 + L.1) (nI (a - 138))) (la := la) (lb := lb) (tp := cp) (wr := wr) (gv := gv) hT hR1 (by omega) h40 hH n1 n2 n3 n4 with ⟨i, cb', cp', tp', ct', cn', cm', mp', mb', mt', mn', mw', gv', hvv, lb', hR, q1, q2, q3, e5, e6⟩ | ⟨f, hf, e5, e6⟩
    · refine Or.inl ⟨addL L (a - 138) 0 i, cb', cp', tp', ct', cn', cm', mp', mb', mt', mn', mw', gv', _, _, _, _, la, lb', rfl, hR, WLh_add hW h40 (by omega) (fun e => by omega) (fun e => (q1 e).1), ?_, ML_add hML (fun _ _ => rfl) q3 (fun e => by omega) (fun e => (q1 e).2.2), ⟨fun _ _ => rfl, fun j e => ⟨pk_un (by omega), rfl, q3 j (by omega)⟩⟩, e5, e6⟩
      have c := CL_add (a := a - 138) (g := 0) (h := i) (gv := vp_nar .byte (i2b_ (-1))) (hv := hvv) hCL (fun e => by omega) (fun e => (q1 e).2.1) q2
      rw [show 138 + (a - 138) = a by omega] at c
      exact c
    · exact Or.inr ⟨f, hf, e5, ok_mono e6 (fun y e => ⟨e.1, e.2.1, by rw [e.2.2]; exact ⟨fun _ _ => rfl, fun j e => ⟨pk_un (by omega), rfl, rfl⟩⟩⟩)⟩
  have hg := Decidable.not_not.mp hg
  rw [if_pos hg]
  have n3' : ¬ (3 : Int32) ≤ nI (a - 138) := fun e => absurd (show nI (a - 138) < 3 from nI_lt (b := 3) (by omega) (by omega)) (Int32.not_lt.mpr e)
  rcases p_guestName (N := NG) (m := G) (names := gn) (mnames := mgn) (te := te) (tp := cp) (wr := wr) (gv := gv) hT hR1 hG n5 n6 n7 n8 with ⟨g, hgG, cb2, cp2, ct2, cn2, cm2, mp2, mb2, mt2, mn2, mw2, hR2, c2, m2, m3⟩ | ⟨f, hf, c2, m2⟩
  · have m71 : fX9_readsLine_71 (nI n) tape te mhn mgn mp mb mt mnu wr gv mwd ln lw la lb (nI (a - 138)) = fX9_readsLine_149 (nI n) tape te mhn mgn mp2 mb2 mt2 mn2 wr (nI g) mw2 ln (upd lw (200 + L.1) (nI (a - 138))) (upd la (200 + L.1) (nI g)) lb (nI (a - 138)) (nI (200 + L.1)) := by
      unfold fX9_readsLine_71
      rw [if_pos p0, if_neg n40, hm1]
      simp only [Option.bind_some]
      rw [e200, hj, cond_true, if_neg n3', cj, m2]
      simp only [Option.bind_some]
      rw [if_neg (by decide : ¬ (1 : Int32) = 0), cond_true, m3]
      simp only [Option.bind_some]
    rw [m71]
    unfold fX7_readLine_107
    rw [if_neg (by decide : ¬ (1 : Int32) = 0), c2]
    simp only [Option.bind_some]
    rcases p_lhole (NH := NH) (a := a - 138) (l := L.1) (H := H) (G' := nI G) (x0 := nI g) (hn := hn) (gn := gn) (mhn := mhn) (mgn := mgn) (te := te) (gs := gs) (hs := hs) (vs := upd vs L.1 (nI a)) (ln := ln) (lw := upd lw (200 + L.1) (nI (a - 138))) (la := upd la (200 + L.1) (nI g)) (lb := lb) (tp := cp1) (wr := wr) (gv := nI g) hT hR2 (by omega) h40 hH n1 n2 n3 n4 with ⟨i, cb', cp', tp', ct', cn', cm', mp', mb', mt', mn', mw', gv', hvv, lb', hR, q1, q2, q3, e5, e6⟩ | ⟨f, hf, e5, e6⟩
    · refine Or.inl ⟨addL L (a - 138) g i, cb', cp', tp', ct', cn', cm', mp', mb', mt', mn', mw', gv', _, _, _, _, _, lb', rfl, hR, WLh_add hW h40 (by omega) (fun _ => hgG) (fun e => (q1 e).1), ?_, ML_add hML (fun j e => pk_un e) q3 (fun e => pk_us) (fun e => (q1 e).2.2), ⟨fun _ _ => rfl, fun j e => ⟨pk_un (by omega), pk_un (by omega), q3 j (by omega)⟩⟩, e5, e6⟩
      have c := CL_add (a := a - 138) (g := g) (h := i) (gv := vp_nar .byte (i2b_ (nI g))) (hv := hvv) hCL (fun e => nar_byte g (by omega)) (fun e => (q1 e).2.1) q2
      rw [show 138 + (a - 138) = a by omega] at c
      exact c
    · exact Or.inr ⟨f, hf, e5, ok_mono e6 (fun y e => ⟨e.1, e.2.1, by rw [e.2.2]; exact ⟨fun _ _ => rfl, fun j e => ⟨pk_un (by omega), pk_un (by omega), rfl⟩⟩⟩)⟩
  · refine Or.inr ⟨f, hf, ?_, ?_⟩
    · unfold fX7_readLine_107
      refine ok_f (by decide : ¬ (1 : Int32) = 0) (ok_bind (ok_mono c2 (fun y e => ?_)))
      rw [e]
      exact c_131F hH h40 hf
    · unfold fX9_readsLine_71
      rw [if_pos p0, if_neg n40, hm1]
      simp only [Option.bind_some]
      rw [e200, hj, cond_true, if_neg n3', cj]
      exact ok_bind (ok_mono m2 (fun y e => ok_t e.1 (ok_some ⟨rfl, e.2, ⟨fun _ _ => rfl, fun j e => ⟨pk_un (by omega), rfl, rfl⟩⟩⟩)))
end LQ
