/-! the sentence of a guest, both sides -/
section SG
variable {z : Nat → Nat} {n : Nat} {signs tape : Nat → Int32} {words : Nat → Int64}
def gdF (G : Nat) (gf : Nat → Int32) : Prop := ∀ w, w < G → ∃ v, v ≤ 9 ∧ gf w = nI v
theorem gdF_upd {G v : Nat} {gf : Nat → Int32} (h : gdF G gf) (hv : v ≤ 9) : gdF (G + 1) (upd gf G (nI v)) := by
  intro w hw
  by_cases e : w = G
  · exact ⟨v, hv, by rw [e, pk_us]⟩
  · obtain ⟨u, h1, h2⟩ := h w (by omega)
    exact ⟨u, h1, by rw [pk_un e]; exact h2⟩
theorem c_72F {G : Nat} {H' cb cp tp ct cnu f x0 : Int32} {cnm : Int64} {hn gn : Nat → Int64} {kd gf : Nat → Int32} (hG : G < 5) (hg : gdF G gf) (hf : ¬ f = 0) : ok (fX6_readGuest_72 H' (nI n) signs hn words (nI G) cb cp tp ct cnu f cnm kd gf gn x0) (fun r => r.2.2.2.2.2.2.1 = f ∧ r.1 = nI (G + 1) ∧ gdF (G + 1) r.2.2.2.2.2.2.2.2.2.1) := by
  unfold fX6_readGuest_72
  rw [c_expectF hf, Option.bind_some]
  dsimp only
  rw [c_expectF hf, Option.bind_some]
  dsimp only
  rw [c_expNumF hf, Option.bind_some]
  dsimp only
  rw [nC (by omega)]
  exact ok_g (nB hG (by omega)) (ok_some ⟨rfl, nI_1 _, gdF_upd (v := 0) hg (by omega)⟩)
theorem p_guest1 {NH NG : Nms} {H G : Nat} {hn gn mhn mgn : Nat → Int64} {te kd gf mkd mgf : Nat → Int32} {cb cp tp ct cnu mp mb mt mnu wr gv : Int32} {cnm mwd fr : Int64} (hT : TpR z n signs tape words) (h : RdR z n cb cp ct cnu cnm mp mb mt mnu mwd) (hH : H ≤ 5) (hG : G ≤ 5) (h1 : WN NH H) (h2 : CN_ NH H hn) (h3 : MN_ NH H 1 mhn) (h4 : te 4 = nI H) (g1 : WN NG G) (g2 : CN_ NG G gn) (g3 : MN_ NG G 1 mgn) (g4 : te 5 = nI G) (hgf : gdF G gf) :
    (G < 5 ∧ ∃ (nn : Nat × (Nat → Nat)) (k v : Nat), gN nn ∧ k ≤ 3 ∧ v ≤ 9 ∧ ∃ (cb' cp' tp' ct' cn' : Int32) (cm' : Int64) (mp' mb' mt' mn' gv' : Int32) (mw' : Int64), RdR z n cb' cp' ct' cn' cm' mp' mb' mt' mn' mw' ∧ fX6_readGuest (nI H) (nI n) signs hn words (nI G) cb cp tp ct cnu 0 cnm kd gf gn = some (nI (G + 1), cb', cp', tp', ct', cn', 0, cm', upd kd G (nI (143 + k)), upd gf G (nI v), vp_updL gn G (lN (nm nn.2 0 nn.1))) ∧ fX9_readsGuest (nI n) tape mhn mp mb mt mnu wr gv mwd fr te mkd mgf mgn = Option.bind (fX9_closes (nI n) tape mp' mb' mt' mn' wr mw') (fun y9 => some (vp_nar .boolean y9.1, y9.2.1, y9.2.2.1, y9.2.2.2.1, y9.2.2.2.2.1, y9.2.2.2.2.2.1, gv', y9.2.2.2.2.2.2, lN (wd_ nn.2 0 nn.1), upd te 5 (nI (G + 1)), upd mkd (5 + G) (nI k), upd mgf (5 + G) (nI v), vp_updL mgn (5 + G) (lN (wd_ nn.2 0 nn.1))))) ∨
    (∃ f : Int32, ¬ f = 0 ∧ ok (fX6_readGuest (nI H) (nI n) signs hn words (nI G) cb cp tp ct cnu 0 cnm kd gf gn) (fun r => r.2.2.2.2.2.2.1 = f ∧ ∃ G', G' ≤ 5 ∧ r.1 = nI G' ∧ gdF G' r.2.2.2.2.2.2.2.2.2.1) ∧ ok (fX9_readsGuest (nI n) tape mhn mp mb mt mnu wr gv mwd fr te mkd mgf mgn) (fun r => r.1 = 0 ∧ r.2.2.2.2.2.1 = f ∧ r.2.2.2.2.2.2.2.2.2.1 = te ∧ (∀ j, j < 5 → r.2.2.2.2.2.2.2.2.2.2.1 j = mkd j) ∧ r.2.2.2.2.2.2.2.2.2.2.2.1 = mgf ∧ r.2.2.2.2.2.2.2.2.2.2.2.2 = mgn)) := by
  have h0 := h
  obtain ⟨q, r, e1, e2, e3, e4, tk⟩ := h
  have hq : q ≤ 1000 := by have := tk.1; have := hT.1; omega
  by_cases x : G = 5
  · have fl := flt hq (c := 5) (by omega) (by omega)
    refine Or.inr ⟨nI (5 + 16 * q), fl.2, ?_, ?_⟩
    · have hr : fX5_refuse cp 0 5 = some (nI (5 + 16 * q)) := by
        unfold fX5_refuse
        rw [if_pos rfl, e2, ← fl.1]; rfl
      unfold fX6_readGuest
      rw [x, if_neg (show ¬ nI 5 < 5 by decide), hr]
      exact ok_some ⟨rfl, 5, by omega, rfl, by rw [x] at hgf; exact hgf⟩
    · unfold fX9_readsGuest fX9_fails
      rw [g4, x, if_pos (show (5 : Int32) + nI 5 = 10 by decide)]
      exact ok_some ⟨show vp_nar FieldType.boolean 0 = 0 by decide, by rw [e4, ← fl.1]; rfl, rfl, fun _ _ => rfl, rfl, rfl⟩
  have hG5 : G < 5 := by omega
  have lt5' : nI G < 5 := nI_lt (b := 5) hG5 (by omega)
  have hi : inb (nI G) 5 = true := nB hG5 (by omega)
  have ci : (nI G).toNatClampNeg = G := nC (by omega)
  have e5 : (5 : Int32) + te 5 = nI (5 + G) := by rw [g4]; exact nI_add 5 G
  have n10 : ¬ nI (5 + G) = 10 := fun q => by have := (nI_eq (b := 10) (by omega) (by omega)).mp q; omega
  have hj : inb (nI (5 + G)) 10 = true := nB (by omega) (by omega)
  have cj : (nI (5 + G)).toNatClampNeg = 5 + G := nC (by omega)
  obtain ⟨_, w1_, _, _, _, _, _, _, _, _, w15, w16, w17, w18⟩ := Ww_ter
  obtain ⟨cb1, cp1, ct1, cn1, cm1, mp1, mb1, mt1, mn1, mw1, hR1, hc1, hm1⟩ := p_next2 (tp := tp) hT h0
  rcases p_new (tp := cp) (wr := wr) (fr := fr) (te := te) hT hR1 hH hG h1 h2 h3 h4 g1 g2 g3 g4 with ⟨nn, hnn, cb2, cp2, ct2, cn2, cm2, mp2, mb2, mt2, mn2, mw2, hR2, c2, m2⟩ | ⟨f, hf0, c2, m2⟩
  · have hR2' := hR2
    obtain ⟨q2, r2', e21, e22, e23, e24, tk2⟩ := hR2'
    have hq2 : q2 ≤ 1000 := by have := tk2.1; have := hT.1; omega
    obtain ⟨a, ha, ea⟩ := tok_val tk2
    have w := t_wd tk2 (gd7 hT.2.1) ha ea
    have k15 := w 15 (by omega)
    have k16 := w 16 (by omega)
    have k17 := w 17 (by omega)
    have k18 := w 18 (by omega)
    rw [w15] at k15
    rw [w16] at k16
    rw [w17] at k17
    rw [w18] at k18
    have hw : fX8_isWithin ct2 143 146 = some (nI (b2 (decide (143 ≤ a ∧ a ≤ 146)))) := by rw [ea]; exact isW (v := a) (lo := 143) (hi := 146) (by omega) (by omega) (by omega)
    have mX : fX9_readsGuest (nI n) tape mhn mp mb mt mnu wr gv mwd fr te mkd mgf mgn = fX9_readsGuest_96 (nI n) tape mhn mp2 mb2 mt2 mn2 wr gv mw2 (lN (wd_ nn.2 0 nn.1)) te mkd mgf mgn (nI (5 + G)) (if 143 ≤ a ∧ a ≤ 146 then nI (a - 143) else -1) (nI (5 + G)) := by
      unfold fX9_readsGuest
      rw [e5, if_neg n10, hm1, Option.bind_some]
      dsimp only
      rw [m2, Option.bind_some]
      dsimp only
      rw [if_neg (by decide : ¬ (1 : Int32) = 0), k15, Option.bind_some]
      by_cases x0 : a = 128 + 15
      · rw [if_neg (by rw [b2t x0]; decide), if_pos (by omega), show a - 143 = 0 by omega]; rfl
      rw [if_pos (b2f x0), k16, Option.bind_some]
      by_cases x1 : a = 128 + 16
      · rw [if_neg (by rw [b2t x1]; decide), if_pos (by omega), show a - 143 = 1 by omega]; rfl
      rw [if_pos (b2f x1), k17, Option.bind_some]
      by_cases x2 : a = 128 + 17
      · rw [if_neg (by rw [b2t x2]; decide), if_pos (by omega), show a - 143 = 2 by omega]; rfl
      rw [if_pos (b2f x2), k18, Option.bind_some]
      by_cases x3 : a = 128 + 18
      · rw [if_neg (by rw [b2t x3]; decide), if_pos (by omega), show a - 143 = 3 by omega]; rfl
      rw [if_pos (b2f x3), if_neg (by omega)]
    have cX : fX6_readGuest (nI H) (nI n) signs hn words (nI G) cb cp tp ct cnu 0 cnm kd gf gn = fX6_readGuest_72 (nI H) (nI n) signs hn words (nI G) cb2 cp2 cp1 ct2 cn2 0 cm2 (upd kd G ct2) gf (vp_updL gn G (lN (nm nn.2 0 nn.1))) (if 143 ≤ a ∧ a ≤ 146 then ct2 else 143) := by
      unfold fX6_readGuest
      rw [if_pos lt5', hc1, Option.bind_some]
      dsimp only
      rw [c2, Option.bind_some]
      dsimp only
      rw [hi, cond_true, cond_true, hw, Option.bind_some, ci]
      by_cases y : 143 ≤ a ∧ a ≤ 146
      · rw [if_pos y, if_neg (by rw [b2t y]; decide)]
      · rw [if_neg y, if_pos (b2f y)]
    rw [mX, cX]
    by_cases y : 143 ≤ a ∧ a ≤ 146
    · rw [if_pos y, if_pos y]
      obtain ⟨cb3, cp3, ct3, cn3, cm3, mp3, mb3, mt3, mn3, mw3, hR3, hc3, hm3⟩ := p_next2 (tp := cp1) hT hR2
      have he : fX5_expect (nI n) signs words cb2 cp2 cp1 ct2 cn2 0 cm2 ct2 = some (cb3, cp3, cp2, ct3, cn3, 0, cm3) := by
        unfold fX5_expect fX5_expect_13
        rw [if_pos rfl, if_pos rfl, hc3]; rfl
      have p0 : (0 : Int32) ≤ nI (a - 143) := nI_le (a := 0) (by omega) (by omega)
      rcases p_both (i := 1) (lo := 0) (hi := 9) (tp := cp2) (wr := wr) (gv := gv) (by omega) (by omega) (by omega) hT hR3 with ⟨v1, _, hv1, y5, cb4, cp4, tp4, ct4, cn4, cm4, mp4, mb4, mt4, mn4, mw4, hR4, c4, c4b, m4⟩ | ⟨f, hf0, c4, m4⟩
      · have c4 : fX5_expect (nI n) signs words cb3 cp3 cp2 ct3 cn3 0 cm3 129 = some y5 := c4
        have c4b : fX5_expectNumber (nI n) signs words y5.1 y5.2.1 y5.2.2.1 y5.2.2.2.1 y5.2.2.2.2.1 y5.2.2.2.2.2.1 y5.2.2.2.2.2.2 0 9 = some (nI v1, cb4, cp4, tp4, ct4, cn4, 0, cm4) := c4b
        have m4 : fX9_needsBoth (nI n) tape mp3 mb3 mt3 mn3 wr gv mw3 126880 0 9 = some (1, mp4, mb4, mt4, mn4, wr, nI v1, mw4) := by rw [← w1_]; exact m4
        refine Or.inl ⟨hG5, nn, a - 143, v1, hnn, by omega, hv1, cb4, cp4, tp4, ct4, cn4, cm4, mp4, mb4, mt4, mn4, nI v1, mw4, hR4, ?_, ?_⟩
        · unfold fX6_readGuest_72
          rw [he, Option.bind_some]
          dsimp only
          rw [c4, Option.bind_some, c4b, Option.bind_some]
          dsimp only
          rw [hi, cond_true, ci, nI_1, ea, show 143 + (a - 143) = a by omega]
        · unfold fX9_readsGuest_96
          rw [hj, cond_true, cond_true, cj, pk_us, if_pos p0, hm3, Option.bind_some]
          dsimp only
          rw [m4, Option.bind_some]
          dsimp only
          rw [if_neg (by decide : ¬ (1 : Int32) = 0), cond_true, cond_true, g4, nI_1]
      · refine Or.inr ⟨f, hf0, ?_, ?_⟩
        · unfold fX6_readGuest_72
          rw [he, Option.bind_some]
          dsimp only
          refine ok_bind (ok_mono c4 (fun y5 e => ok_bind (ok_mono e (fun y6 e6 => ok_g hi (ok_some ⟨e6.2, G + 1, by omega, nI_1 _, ?_⟩)))))
          show gdF (G + 1) (upd gf (nI G).toNatClampNeg y6.1)
          rw [e6.1, ci]
          exact gdF_upd hgf (by omega)
        · have m4 : ok (fX9_needsBoth (nI n) tape mp3 mb3 mt3 mn3 wr gv mw3 126880 0 9) (fun r => r.1 = 0 ∧ r.2.2.2.2.2.1 = f) := by rw [← w1_]; exact m4
          unfold fX9_readsGuest_96
          rw [hj, cond_true, cond_true, cj, pk_us, if_pos p0, hm3, Option.bind_some]
          exact ok_bind (ok_mono m4 (fun y e => ok_t e.1 (ok_some ⟨rfl, e.2, rfl, fun j hj2 => pk_un (by omega), rfl, rfl⟩)))
    · rw [if_neg y, if_neg y]
      have fl := flt hq2 (c := 1) (by omega) (by omega)
      have hr : fX5_refuse cp2 0 1 = some (nI (1 + 16 * q2)) := by
        unfold fX5_refuse
        rw [if_pos rfl, e22, ← fl.1]; rfl
      have he : fX5_expect (nI n) signs words cb2 cp2 cp1 ct2 cn2 0 cm2 143 = some (cb2, cp2, cp1, ct2, cn2, nI (1 + 16 * q2), cm2) := by
        unfold fX5_expect fX5_expect_13
        rw [if_neg (show ¬ ct2 = 143 by rw [ea]; exact fun e => by have := (nI_eq (b := 143) (by omega) (by omega)).mp e; omega), hr, Option.bind_some, if_neg fl.2]
      refine Or.inr ⟨nI (1 + 16 * q2), fl.2, ?_, ?_⟩
      · unfold fX6_readGuest_72
        rw [he, Option.bind_some]
        dsimp only
        rw [c_expectF fl.2, Option.bind_some]
        dsimp only
        rw [c_expNumF fl.2, Option.bind_some]
        dsimp only
        rw [ci]
        exact ok_g hi (ok_some ⟨rfl, G + 1, by omega, nI_1 _, gdF_upd (v := 0) hgf (by omega)⟩)
      · unfold fX9_readsGuest_96 fX9_fails
        rw [hj, cond_true, cond_true, cj, pk_us, if_neg (by decide)]
        exact ok_some ⟨show vp_nar FieldType.boolean 0 = 0 by decide, by rw [e24, ← fl.1]; rfl, rfl, fun j hj2 => pk_un (by omega), rfl, rfl⟩
  · refine Or.inr ⟨f, hf0, ?_, ?_⟩
    · unfold fX6_readGuest
      rw [if_pos lt5', hc1, Option.bind_some]
      dsimp only
      refine ok_bind (ok_mono c2 (fun y3 e => ok_g hi (ok_g hi ?_)))
      unfold fX8_isWithin
      refine ok_bind ?_
      have t := fun (x0 : Int32) (kd' : Nat → Int32) (gn' : Nat → Int64) => c_72F (n := n) (signs := signs) (words := words) (H' := nI H) (cb := y3.2.1) (cp := y3.2.2.1) (tp := y3.2.2.2.1) (ct := y3.2.2.2.2.1) (cnu := y3.2.2.2.2.2.1) (x0 := x0) (cnm := y3.2.2.2.2.2.2.2) (hn := hn) (gn := gn') (kd := kd') hG5 hgf hf0
      have t2 : ∀ y6 : Int32, ok (if y6 = 0 then fX6_readGuest_72 (nI H) (nI n) signs hn words (nI G) y3.2.1 y3.2.2.1 y3.2.2.2.1 y3.2.2.2.2.1 y3.2.2.2.2.2.1 y3.2.2.2.2.2.2.1 y3.2.2.2.2.2.2.2 (upd kd (nI G).toNatClampNeg y3.2.2.2.2.1) gf (vp_updL gn (nI G).toNatClampNeg y3.1) 143 else fX6_readGuest_72 (nI H) (nI n) signs hn words (nI G) y3.2.1 y3.2.2.1 y3.2.2.2.1 y3.2.2.2.2.1 y3.2.2.2.2.2.1 y3.2.2.2.2.2.2.1 y3.2.2.2.2.2.2.2 (upd kd (nI G).toNatClampNeg y3.2.2.2.2.1) gf (vp_updL gn (nI G).toNatClampNeg y3.1) y3.2.2.2.2.1) (fun r => r.2.2.2.2.2.2.1 = f ∧ ∃ G', G' ≤ 5 ∧ r.1 = nI G' ∧ gdF G' r.2.2.2.2.2.2.2.2.2.1) := fun y6 => by
        rw [e]
        exact ok_if (fun _ => ok_mono (t _ _ _) (fun r e => ⟨e.1, G + 1, by omega, e.2.1, e.2.2⟩)) (fun _ => ok_mono (t _ _ _) (fun r e => ⟨e.1, G + 1, by omega, e.2.1, e.2.2⟩))
      exact ok_if (fun _ => ok_some (t2 _)) (fun _ => ok_if (fun _ => ok_some (t2 _)) (fun _ => ok_some (t2 _)))
    · unfold fX9_readsGuest
      rw [e5, if_neg n10, hm1, Option.bind_some]
      exact ok_bind (ok_mono m2 (fun y e => ok_t e.1 (ok_some ⟨rfl, e.2, rfl, fun _ _ => rfl, rfl, rfl⟩)))
end SG
