/-! the sentence of a hole, both sides -/
section SH
variable {z : Nat → Nat} {n : Nat} {signs tape : Nat → Int32} {words : Nat → Int64}
theorem Ww_ter : lN (Ww 0) = 168728 ∧ lN (Ww 1) = 126880 ∧ lN (Ww 2) = 70023 ∧ lN (Ww 3) = 1489744 ∧ lN (Ww 4) = 453774 ∧ lN (Ww 5) = 4137608 ∧ lN (Ww 6) = 16812 ∧ lN (Ww 7) = 70312 ∧ lN (Ww 8) = 374798 ∧ lN (Ww 9) = 10656676 ∧ lN (Ww 15) = 8740238 ∧ lN (Ww 16) = 330846583 ∧ lN (Ww 17) = 2949235 ∧ lN (Ww 18) = 2234 := by decide +kernel
/-- what the class has when a hole was read -/
theorem p_hole1 {NH NG : Nms} {H G : Nat} {hn gn mhn mgn : Nat → Int64} {te hf ct_ bu mhf mct mbu mwl : Nat → Int32} {cb cp tp ct cnu mp mb mt mnu wr gv : Int32} {cnm mwd fr : Int64} (hT : TpR z n signs tape words) (h : RdR z n cb cp ct cnu cnm mp mb mt mnu mwd) (h5 : ¬ ct = 0) (hH : H ≤ 5) (hG : G ≤ 5) (h1 : WN NH H) (h2 : CN_ NH H hn) (h3 : MN_ NH H 1 mhn) (h4 : te 4 = nI H) (g1 : WN NG G) (g2 : CN_ NG G gn) (g3 : MN_ NG G 1 mgn) (g4 : te 5 = nI G) :
    (H < 5 ∧ ∃ (nn : Nat × (Nat → Nat)) (v1 v2 v3 : Nat), gN nn ∧ v1 ≤ 9 ∧ v2 ≤ 60 ∧ v3 ≤ 9 ∧ ∃ (cb' cp' tp' ct' cn' : Int32) (cm' : Int64) (mp' mb' mt' mn' gv' : Int32) (mw' : Int64), RdR z n cb' cp' ct' cn' cm' mp' mb' mt' mn' mw' ∧ fX6_readHole (nI G) (nI n) signs gn words (nI H) cb cp tp ct cnu 0 cnm hf ct_ bu hn = some (nI (H + 1), cb', cp', tp', ct', cn', 0, cm', upd hf H (nI v1), upd ct_ H (nI v2), upd bu H (nI v3), vp_updL hn H (lN (nm nn.2 0 nn.1))) ∧ fX9_readsHole (nI n) tape mgn mp mb mt mnu wr gv mwd fr te mhf mct mbu mwl mhn = Option.bind (fX9_closes (nI n) tape mp' mb' mt' mn' wr mw') (fun y16 => some (vp_nar .boolean y16.1, y16.2.1, y16.2.2.1, y16.2.2.2.1, y16.2.2.2.2.1, y16.2.2.2.2.2.1, gv', y16.2.2.2.2.2.2, lN (wd_ nn.2 0 nn.1), upd te 4 (nI (H + 1)), upd mhf (5 + H) (nI v1), upd mct (5 + H) (nI v2), upd mbu (5 + H) (nI v3), upd mwl (5 + H) 0, vp_updL mhn (5 + H) (lN (wd_ nn.2 0 nn.1))))) ∨
    (∃ f : Int32, ¬ f = 0 ∧ ok (fX6_readHole (nI G) (nI n) signs gn words (nI H) cb cp tp ct cnu 0 cnm hf ct_ bu hn) (fun r => r.2.2.2.2.2.2.1 = f) ∧ ok (fX9_readsHole (nI n) tape mgn mp mb mt mnu wr gv mwd fr te mhf mct mbu mwl mhn) (fun r => r.1 = 0 ∧ r.2.2.2.2.2.1 = f ∧ r.2.2.2.2.2.2.2.2.2.1 = te ∧ (∀ j, j < 5 → r.2.2.2.2.2.2.2.2.2.2.1 j = mhf j) ∧ (∀ j, j < 5 → r.2.2.2.2.2.2.2.2.2.2.2.1 j = mct j) ∧ r.2.2.2.2.2.2.2.2.2.2.2.2.1 = mbu ∧ r.2.2.2.2.2.2.2.2.2.2.2.2.2.1 = mwl ∧ r.2.2.2.2.2.2.2.2.2.2.2.2.2.2 = mhn)) := by
  have h0 := h
  obtain ⟨q, r, e1, e2, e3, e4, tk⟩ := h
  have hq : q ≤ 1000 := by have := tk.1; have := hT.1; omega
  by_cases x : H = 5
  · have fl := flt hq (c := 5) (by omega) (by omega)
    refine Or.inr ⟨nI (5 + 16 * q), fl.2, ?_, ?_⟩
    · have hr : fX5_refuse cp 0 5 = some (nI (5 + 16 * q)) := by
        unfold fX5_refuse
        rw [if_pos rfl, e2, ← fl.1]; rfl
      unfold fX6_readHole
      rw [x, if_neg (show ¬ nI 5 < 5 by decide), hr]
      exact ok_some rfl
    · unfold fX9_readsHole fX9_fails
      rw [h4, x, if_pos (show (5 : Int32) + nI 5 = 10 by decide)]
      exact ok_some ⟨show vp_nar FieldType.boolean 0 = 0 by decide, by rw [e4, ← fl.1]; rfl, rfl, fun _ _ => rfl, fun _ _ => rfl, rfl, rfl, rfl⟩
  have hH5 : H < 5 := by omega
  have lt5' : nI H < 5 := nI_lt (b := 5) hH5 (by omega)
  have hi : inb (nI H) 5 = true := nB hH5 (by omega)
  have ci : (nI H).toNatClampNeg = H := nC (by omega)
  have e5 : (5 : Int32) + te 4 = nI (5 + H) := by rw [h4]; exact nI_add 5 H
  have n10 : ¬ nI (5 + H) = 10 := fun q => by have := (nI_eq (b := 10) (by omega) (by omega)).mp q; omega
  have hj : inb (nI (5 + H)) 10 = true := nB (by omega) (by omega)
  have cj : (nI (5 + H)).toNatClampNeg = 5 + H := nC (by omega)
  obtain ⟨wA, w1_, w2_, w3_, _⟩ := Ww_ter
  obtain ⟨cb1, cp1, ct1, cn1, cm1, mp1, mb1, mt1, mn1, mw1, hR1, hc1, hm1⟩ := p_next2 (tp := tp) hT h0
  -- what becomes of a fault in the class: nothing more
  have tail3 : ∀ (y11 : Int32 × Int32 × Int32 × Int32 × Int32 × Int32 × Int64) (f : Int32) (a b : Int32) (c : Int64), ¬ f = 0 → ok (fX5_expectNumber (nI n) signs words y11.1 y11.2.1 y11.2.2.1 y11.2.2.2.1 y11.2.2.2.2.1 y11.2.2.2.2.2.1 y11.2.2.2.2.2.2 0 9) (fun r => r.1 = nI 0 ∧ r.2.2.2.2.2.2.1 = f) → ok (Option.bind (fX5_expectNumber (nI n) signs words y11.1 y11.2.1 y11.2.2.1 y11.2.2.2.1 y11.2.2.2.2.1 y11.2.2.2.2.2.1 y11.2.2.2.2.2.2 0 9) fun y12 => bif inb (nI H) 5 then some (nI H + 1, y12.2.1, y12.2.2.1, y12.2.2.2.1, y12.2.2.2.2.1, y12.2.2.2.2.2.1, y12.2.2.2.2.2.2.1, y12.2.2.2.2.2.2.2, upd hf (nI H).toNatClampNeg a, upd ct_ (nI H).toNatClampNeg b, upd bu (nI H).toNatClampNeg y12.1, vp_updL hn (nI H).toNatClampNeg c) else none) (fun r => r.2.2.2.2.2.2.1 = f) :=
    fun y11 f a b c hf0 hh => ok_bind (ok_mono hh (fun r e => ok_g hi (ok_some e.2)))
  have tail2 : ∀ (y8 : Int32 × Int32 × Int32 × Int32 × Int32 × Int32 × Int64) (f : Int32) (a : Int32) (c : Int64), ¬ f = 0 → ok (fX5_expectNumber (nI n) signs words y8.1 y8.2.1 y8.2.2.1 y8.2.2.2.1 y8.2.2.2.2.1 y8.2.2.2.2.2.1 y8.2.2.2.2.2.2 0 60) (fun r => r.1 = nI 0 ∧ r.2.2.2.2.2.2.1 = f) → ok (Option.bind (fX5_expectNumber (nI n) signs words y8.1 y8.2.1 y8.2.2.1 y8.2.2.2.1 y8.2.2.2.2.1 y8.2.2.2.2.2.1 y8.2.2.2.2.2.2 0 60) fun y9 => bif inb (nI H) 5 then Option.bind (fX5_expect (nI n) signs words y9.2.1 y9.2.2.1 y9.2.2.2.1 y9.2.2.2.2.1 y9.2.2.2.2.2.1 y9.2.2.2.2.2.2.1 y9.2.2.2.2.2.2.2 131) fun y11 => Option.bind (fX5_expectNumber (nI n) signs words y11.1 y11.2.1 y11.2.2.1 y11.2.2.2.1 y11.2.2.2.2.1 y11.2.2.2.2.2.1 y11.2.2.2.2.2.2 0 9) fun y12 => bif inb (nI H) 5 then some (nI H + 1, y12.2.1, y12.2.2.1, y12.2.2.2.1, y12.2.2.2.2.1, y12.2.2.2.2.2.1, y12.2.2.2.2.2.2.1, y12.2.2.2.2.2.2.2, upd hf (nI H).toNatClampNeg a, upd ct_ (nI H).toNatClampNeg y9.1, upd bu (nI H).toNatClampNeg y12.1, vp_updL hn (nI H).toNatClampNeg c) else none else none) (fun r => r.2.2.2.2.2.2.1 = f) :=
    fun y8 f a c hf0 hh => ok_bind (ok_mono hh (fun r e => ok_g hi (by
      rw [e.2, c_expectF hf0, Option.bind_some]
      exact tail3 (r.2.1, r.2.2.1, r.2.2.2.1, r.2.2.2.2.1, r.2.2.2.2.2.1, f, r.2.2.2.2.2.2.2) f a r.1 c hf0 (ok_of (c_expNumF hf0) ⟨rfl, rfl⟩))))
  have tail1 : ∀ (y5 : Int32 × Int32 × Int32 × Int32 × Int32 × Int32 × Int64) (f : Int32) (c : Int64), ¬ f = 0 → ok (fX5_expectNumber (nI n) signs words y5.1 y5.2.1 y5.2.2.1 y5.2.2.2.1 y5.2.2.2.2.1 y5.2.2.2.2.2.1 y5.2.2.2.2.2.2 0 9) (fun r => r.1 = nI 0 ∧ r.2.2.2.2.2.2.1 = f) → ok (Option.bind (fX5_expectNumber (nI n) signs words y5.1 y5.2.1 y5.2.2.1 y5.2.2.2.1 y5.2.2.2.2.1 y5.2.2.2.2.2.1 y5.2.2.2.2.2.2 0 9) fun y6 => bif inb (nI H) 5 then Option.bind (fX5_expect (nI n) signs words y6.2.1 y6.2.2.1 y6.2.2.2.1 y6.2.2.2.2.1 y6.2.2.2.2.2.1 y6.2.2.2.2.2.2.1 y6.2.2.2.2.2.2.2 130) fun y8 => Option.bind (fX5_expectNumber (nI n) signs words y8.1 y8.2.1 y8.2.2.1 y8.2.2.2.1 y8.2.2.2.2.1 y8.2.2.2.2.2.1 y8.2.2.2.2.2.2 0 60) fun y9 => bif inb (nI H) 5 then Option.bind (fX5_expect (nI n) signs words y9.2.1 y9.2.2.1 y9.2.2.2.1 y9.2.2.2.2.1 y9.2.2.2.2.2.1 y9.2.2.2.2.2.2.1 y9.2.2.2.2.2.2.2 131) fun y11 => Option.bind (fX5_expectNumber (nI n) signs words y11.1 y11.2.1 y11.2.2.1 y11.2.2.2.1 y11.2.2.2.2.1 y11.2.2.2.2.2.1 y11.2.2.2.2.2.2 0 9) fun y12 => bif inb (nI H) 5 then some (nI H + 1, y12.2.1, y12.2.2.1, y12.2.2.2.1, y12.2.2.2.2.1, y12.2.2.2.2.2.1, y12.2.2.2.2.2.2.1, y12.2.2.2.2.2.2.2, upd hf (nI H).toNatClampNeg y6.1, upd ct_ (nI H).toNatClampNeg y9.1, upd bu (nI H).toNatClampNeg y12.1, vp_updL hn (nI H).toNatClampNeg c) else none else none else none) (fun r => r.2.2.2.2.2.2.1 = f) :=
    fun y5 f c hf0 hh => ok_bind (ok_mono hh (fun r e => ok_g hi (by
      rw [e.2, c_expectF hf0, Option.bind_some]
      exact tail2 (r.2.1, r.2.2.1, r.2.2.2.1, r.2.2.2.2.1, r.2.2.2.2.2.1, f, r.2.2.2.2.2.2.2) f r.1 c hf0 (ok_of (c_expNumF hf0) ⟨rfl, rfl⟩))))
  have c0 : fX6_readHole (nI G) (nI n) signs gn words (nI H) cb cp tp ct cnu 0 cnm hf ct_ bu hn = Option.bind (fX6_readNewName (nI H) (nI G) (nI n) signs hn gn words cb1 cp1 cp ct1 cn1 0 cm1) fun y3 => Option.bind (fX5_expect (nI n) signs words y3.2.1 y3.2.2.1 y3.2.2.2.1 y3.2.2.2.2.1 y3.2.2.2.2.2.1 y3.2.2.2.2.2.2.1 y3.2.2.2.2.2.2.2 129) fun y5 => Option.bind (fX5_expectNumber (nI n) signs words y5.1 y5.2.1 y5.2.2.1 y5.2.2.2.1 y5.2.2.2.2.1 y5.2.2.2.2.2.1 y5.2.2.2.2.2.2 0 9) fun y6 => bif inb (nI H) 5 then Option.bind (fX5_expect (nI n) signs words y6.2.1 y6.2.2.1 y6.2.2.2.1 y6.2.2.2.2.1 y6.2.2.2.2.2.1 y6.2.2.2.2.2.2.1 y6.2.2.2.2.2.2.2 130) fun y8 => Option.bind (fX5_expectNumber (nI n) signs words y8.1 y8.2.1 y8.2.2.1 y8.2.2.2.1 y8.2.2.2.2.1 y8.2.2.2.2.2.1 y8.2.2.2.2.2.2 0 60) fun y9 => bif inb (nI H) 5 then Option.bind (fX5_expect (nI n) signs words y9.2.1 y9.2.2.1 y9.2.2.2.1 y9.2.2.2.2.1 y9.2.2.2.2.2.1 y9.2.2.2.2.2.2.1 y9.2.2.2.2.2.2.2 131) fun y11 => Option.bind (fX5_expectNumber (nI n) signs words y11.1 y11.2.1 y11.2.2.1 y11.2.2.2.1 y11.2.2.2.2.1 y11.2.2.2.2.2.1 y11.2.2.2.2.2.2 0 9) fun y12 => bif inb (nI H) 5 then some (nI H + 1, y12.2.1, y12.2.2.1, y12.2.2.2.1, y12.2.2.2.2.1, y12.2.2.2.2.2.1, y12.2.2.2.2.2.2.1, y12.2.2.2.2.2.2.2, upd hf (nI H).toNatClampNeg y6.1, upd ct_ (nI H).toNatClampNeg y9.1, upd bu (nI H).toNatClampNeg y12.1, vp_updL hn (nI H).toNatClampNeg y3.1) else none else none else none := by
    unfold fX6_readHole
    rw [if_pos lt5', hc1, Option.bind_some]
    dsimp only
    simp only [hi, cond_true]
  rw [c0]
  clear c0
  rcases p_new (tp := cp) (wr := wr) (fr := fr) (te := te) hT hR1 hH hG h1 h2 h3 h4 g1 g2 g3 g4 with ⟨nn, hnn, cb2, cp2, ct2, cn2, cm2, mp2, mb2, mt2, mn2, mw2, hR2, c2, m2⟩ | ⟨f, hf0, c2, m2⟩
  · rw [c2, Option.bind_some]
    dsimp only
    rcases p_both (i := 1) (lo := 0) (hi := 9) (tp := cp1) (wr := wr) (gv := gv) (by omega) (by omega) (by omega) hT hR2 with ⟨v1, _, hv1, y5, cb3, cp3, tp3, ct3, cn3, cm3, mp3, mb3, mt3, mn3, mw3, hR3, c3, c3b, m3⟩ | ⟨f, hf0, c3, m3⟩
    · have c3 : fX5_expect (nI n) signs words cb2 cp2 cp1 ct2 cn2 0 cm2 129 = some y5 := c3
      have c3b : fX5_expectNumber (nI n) signs words y5.1 y5.2.1 y5.2.2.1 y5.2.2.2.1 y5.2.2.2.2.1 y5.2.2.2.2.2.1 y5.2.2.2.2.2.2 0 9 = some (nI v1, cb3, cp3, tp3, ct3, cn3, 0, cm3) := c3b
      have m3 : fX9_needsBoth (nI n) tape mp2 mb2 mt2 mn2 wr gv mw2 126880 0 9 = some (1, mp3, mb3, mt3, mn3, wr, nI v1, mw3) := by rw [← w1_]; exact m3
      rw [c3, Option.bind_some, c3b, Option.bind_some]
      dsimp only
      rw [hi, cond_true]
      rcases p_both (i := 2) (lo := 0) (hi := 60) (tp := tp3) (wr := wr) (gv := nI v1) (by omega) (by omega) (by omega) hT hR3 with ⟨v2, _, hv2, y8, cb4, cp4, tp4, ct4, cn4, cm4, mp4, mb4, mt4, mn4, mw4, hR4, c4, c4b, m4⟩ | ⟨f, hf0, c4, m4⟩
      · have c4 : fX5_expect (nI n) signs words cb3 cp3 tp3 ct3 cn3 0 cm3 130 = some y8 := c4
        have c4b : fX5_expectNumber (nI n) signs words y8.1 y8.2.1 y8.2.2.1 y8.2.2.2.1 y8.2.2.2.2.1 y8.2.2.2.2.2.1 y8.2.2.2.2.2.2 0 60 = some (nI v2, cb4, cp4, tp4, ct4, cn4, 0, cm4) := c4b
        have m4 : fX9_needsBoth (nI n) tape mp3 mb3 mt3 mn3 wr (nI v1) mw3 70023 0 60 = some (1, mp4, mb4, mt4, mn4, wr, nI v2, mw4) := by rw [← w2_]; exact m4
        rw [c4, Option.bind_some, c4b, Option.bind_some]
        dsimp only
        rcases p_both (i := 3) (lo := 0) (hi := 9) (tp := tp4) (wr := wr) (gv := nI v2) (by omega) (by omega) (by omega) hT hR4 with ⟨v3, _, hv3, y11, cb5, cp5, tp5, ct5, cn5, cm5, mp5, mb5, mt5, mn5, mw5, hR5, c5, c5b, m5⟩ | ⟨f, hf0, c5, m5⟩
        · have c5 : fX5_expect (nI n) signs words cb4 cp4 tp4 ct4 cn4 0 cm4 131 = some y11 := c5
          have c5b : fX5_expectNumber (nI n) signs words y11.1 y11.2.1 y11.2.2.1 y11.2.2.2.1 y11.2.2.2.2.1 y11.2.2.2.2.2.1 y11.2.2.2.2.2.2 0 9 = some (nI v3, cb5, cp5, tp5, ct5, cn5, 0, cm5) := c5b
          have m5 : fX9_needsBoth (nI n) tape mp4 mb4 mt4 mn4 wr (nI v2) mw4 1489744 0 9 = some (1, mp5, mb5, mt5, mn5, wr, nI v3, mw5) := by rw [← w3_]; exact m5
          refine Or.inl ⟨hH5, nn, v1, v2, v3, hnn, hv1, hv2, hv3, cb5, cp5, tp5, ct5, cn5, cm5, mp5, mb5, mt5, mn5, nI v3, mw5, hR5, ?_, ?_⟩
          · rw [c5, Option.bind_some, c5b, Option.bind_some]
            dsimp only
            rw [ci, nI_1]
            rfl
          · unfold fX9_readsHole
            rw [e5, if_neg n10, hm1, Option.bind_some]
            dsimp only
            rw [m2, Option.bind_some]
            dsimp only
            rw [if_neg (by decide : ¬ (1 : Int32) = 0), m3, Option.bind_some]
            dsimp only
            rw [if_neg (by decide : ¬ (1 : Int32) = 0), hj, cond_true, m4, Option.bind_some]
            dsimp only
            rw [if_neg (by decide : ¬ (1 : Int32) = 0), cond_true, m5, Option.bind_some]
            dsimp only
            rw [if_neg (by decide : ¬ (1 : Int32) = 0), cond_true, cond_true, cond_true, cj, h4, nI_1]
        · refine Or.inr ⟨f, hf0, ?_, ?_⟩
          · exact ok_bind (ok_mono c5 (fun y e => by have t := tail3 y f (nI v1) (nI v2) (lN (nm nn.2 0 nn.1)) hf0 e; rw [hi] at t; exact t))
          · have m5 : ok (fX9_needsBoth (nI n) tape mp4 mb4 mt4 mn4 wr (nI v2) mw4 1489744 0 9) (fun r => r.1 = 0 ∧ r.2.2.2.2.2.1 = f) := by rw [← w3_]; exact m5
            unfold fX9_readsHole
            rw [e5, if_neg n10, hm1, Option.bind_some]
            dsimp only
            rw [m2, Option.bind_some]
            dsimp only
            rw [if_neg (by decide : ¬ (1 : Int32) = 0), m3, Option.bind_some]
            dsimp only
            rw [if_neg (by decide : ¬ (1 : Int32) = 0), hj, cond_true, m4, Option.bind_some]
            dsimp only
            rw [if_neg (by decide : ¬ (1 : Int32) = 0), cond_true]
            exact ok_bind (ok_mono m5 (fun y e => ok_t e.1 (ok_some ⟨rfl, e.2, rfl, fun j hj2 => by rw [cj]; exact pk_un (by omega), fun j hj2 => by rw [cj]; exact pk_un (by omega), rfl, rfl, rfl⟩)))
      · refine Or.inr ⟨f, hf0, ?_, ?_⟩
        · exact ok_bind (ok_mono c4 (fun y e => by have t := tail2 y f (nI v1) (lN (nm nn.2 0 nn.1)) hf0 e; simp only [hi] at t; exact t))
        · have m4 : ok (fX9_needsBoth (nI n) tape mp3 mb3 mt3 mn3 wr (nI v1) mw3 70023 0 60) (fun r => r.1 = 0 ∧ r.2.2.2.2.2.1 = f) := by rw [← w2_]; exact m4
          unfold fX9_readsHole
          rw [e5, if_neg n10, hm1, Option.bind_some]
          dsimp only
          rw [m2, Option.bind_some]
          dsimp only
          rw [if_neg (by decide : ¬ (1 : Int32) = 0), m3, Option.bind_some]
          dsimp only
          rw [if_neg (by decide : ¬ (1 : Int32) = 0), hj, cond_true]
          exact ok_bind (ok_mono m4 (fun y e => ok_t e.1 (ok_some ⟨rfl, e.2, rfl, fun j hj2 => by rw [cj]; exact pk_un (by omega), fun _ _ => rfl, rfl, rfl, rfl⟩)))
    · refine Or.inr ⟨f, hf0, ?_, ?_⟩
      · exact ok_bind (ok_mono c3 (fun y e => tail1 y f _ hf0 e))
      · have m3 : ok (fX9_needsBoth (nI n) tape mp2 mb2 mt2 mn2 wr gv mw2 126880 0 9) (fun r => r.1 = 0 ∧ r.2.2.2.2.2.1 = f) := by rw [← w1_]; exact m3
        unfold fX9_readsHole
        rw [e5, if_neg n10, hm1, Option.bind_some]
        dsimp only
        rw [m2, Option.bind_some]
        dsimp only
        rw [if_neg (by decide : ¬ (1 : Int32) = 0)]
        exact ok_bind (ok_mono m3 (fun y e => ok_t e.1 (ok_some ⟨rfl, e.2, rfl, fun _ _ => rfl, fun _ _ => rfl, rfl, rfl, rfl⟩)))
  · refine Or.inr ⟨f, hf0, ?_, ?_⟩
    · refine ok_bind (ok_mono c2 (fun y3 e => ?_))
      rw [e, c_expectF hf0, Option.bind_some]
      exact tail1 (y3.2.1, y3.2.2.1, y3.2.2.2.1, y3.2.2.2.2.1, y3.2.2.2.2.2.1, f, y3.2.2.2.2.2.2.2) f y3.1 hf0 (ok_of (c_expNumF hf0) ⟨rfl, rfl⟩)
    · unfold fX9_readsHole
      rw [e5, if_neg n10, hm1, Option.bind_some]
      exact ok_bind (ok_mono m2 (fun y e => ok_t e.1 (ok_some ⟨rfl, e.2, rfl, fun _ _ => rfl, fun _ _ => rfl, rfl, rfl, rfl⟩)))
end SH
