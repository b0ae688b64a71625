/-! a sentence of a terrace -/
section TL
variable {z : Nat → Nat} {n : Nat} {signs tape : Nat → Int32} {words : Nat → Int64}
theorem p_te_cold {zc : Int32 → Int32 → Int32 → Int32 → Int32 → Int32 → Int32 → Int32 → Int32 → Int32 → Int32 → Int32 → Int32 → Int32 → Int32 → Int32 → Int64 → (Nat → Int32) → (Nat → Int32) → (Nat → Int32) → (Nat → Int32) → (Nat → Int32) → (Nat → Int32) → (Nat → Int32) → (Nat → Int32) → (Nat → Int32) → (Nat → Int32) → (Nat → Int32) → (Nat → Int64) → (Nat → Int64) → Int32 → Option RCT} {zm : Int32 → Int32 → Int32 → Int32 → Int32 → Int32 → Int32 → Int32 → Int32 → Int32 → Int64 → Int64 → (Nat → Int32) → (Nat → Int32) → (Nat → Int32) → (Nat → Int32) → (Nat → Int32) → (Nat → Int32) → (Nat → Int32) → (Nat → Int32) → (Nat → Int32) → (Nat → Int32) → (Nat → Int32) → (Nat → Int32) → (Nat → Int32) → (Nat → Int32) → (Nat → Int64) → (Nat → Int64) → Option RMT} {k fc fm t : Nat} {U : Ter} {isS tl : Bool} {NH NG : Nms} {colds holes guests sack cat wan lw ln ll cb cp tp ct cnu ta mp mb mt mnu wr co ms gv : Int32} {cnm mwd fr : Int64} {fw cold hf cto bu be kd gf fo lco lst te mhf mct mbu wl mkd mgf wrs cd lf lt cds op cm : (Nat → Int32)} {hn gn mhn mgn : (Nat → Int64)} (hT : TpR z n signs tape words) (ih : ∀ k', k' < k → TeP z n signs tape words zc zm k') (hk : 138 ≤ pot U isS tl + k) (hfc : k + 2 ≤ fc) (hfm : k + 1 ≤ fm) (ht : t ≤ pot U isS tl) (hR : RdR z n cb cp ct cnu cnm mp mb mt mnu mwd) (hU : WT U) (hC : CU U isS colds holes guests sack fw cold hf cto bu be kd gf) (hM : MU U isS ms te mhf mct mbu wl mkd mgf wrs cd) (hN : NU U NH NG hn gn mhn mgn) (hL : LU tl ll lco lf lt cds co) (ea : ct = nI 135) : ok (itr (fun kk => fX6_readFrom_10 signs words kk) zc fc colds holes guests sack cat wan lw ln ll cb cp tp (nI n) ct cnu 0 cnm fw cold hf cto bu be kd gf fo lco lst hn gn (nI t)) (fun rc => ok (itr (fun kk => fX9_readsAll_39 tape kk) zm fm ta (nI n) mp mb mt mnu wr co ms gv mwd fr te mhf mct mbu wl mkd mgf wrs cd lf lt cds op cm mhn mgn) (fun rm => TEnd ta te mhf mct mbu wl mkd mgf wrs cd lf lt cds mhn mgn rc rm)) := by
  obtain ⟨fc, rfl⟩ : ∃ m, fc = m + 1 + 1 := ⟨fc - 2, by omega⟩
  obtain ⟨fm, rfl⟩ : ∃ m, fm = m + 1 := ⟨fm - 1, by omega⟩
  have hpl := pot_le (isS := isS) (tl := tl) hU
  have n1000 : ¬ (1000 : Int32) ≤ nI t := fun e => absurd (show nI t < 1000 from nI_lt (b := 1000) (by omega) (by omega)) (Int32.not_lt.mpr e)
  have hg := gdF_CU hU hC
  have hgu : guests = nI (tG U) := hC.2.2.1
  have hho : holes = nI (tH U) := hC.2.1
  show ok (fX6_readFrom_10 signs words (itr (fun kk => fX6_readFrom_10 signs words kk) zc (fc + 1)) colds holes guests sack cat wan lw ln ll cb cp tp (nI n) ct cnu 0 cnm fw cold hf cto bu be kd gf fo lco lst hn gn (nI t)) (fun rc => ok (fX9_readsAll_39 tape (itr (fun kk => fX9_readsAll_39 tape kk) zm fm) ta (nI n) mp mb mt mnu wr co ms gv mwd fr te mhf mct mbu wl mkd mgf wrs cd lf lt cds op cm mhn mgn) (fun rm => TEnd ta te mhf mct mbu wl mkd mgf wrs cd lf lt cds mhn mgn rc rm))
  have hR0 := hR
  obtain ⟨q0, r0, _, e02, _, e04, tk0⟩ := hR0
  have hq0 : q0 ≤ 1000 := by have := tk0.1; have := hT.1; omega
  have w0 := t_wd tk0 (gd7 hT.2.1) (by omega) ea
  have ct0 : ¬ ct = 0 := by rw [ea]; decide
  have mt0 : ¬ mt = 0 := fun e => ct0 ((t_zero tk0).mpr e)
  rcases p_cold1 (N := tN U) (co := tco U) (cold := cold) (te := te) (cd := cd) (tp := tp) (wr := wr) hT hR hU.2.2.2.1 hM.2.2.2.2.1 with ⟨hN0, N', co', cb1, cp1, tp1, ct1, cn1, cm1, mp1, mb1, mt1, mn1, mw1, cold', te', cd', b1, b2_, hR1, hcp, ht7, htj, hcj, c1, m1⟩ | ⟨f, hfz, c1, m1⟩
  · have cS : fX6_readFrom_10 signs words (itr (fun kk => fX6_readFrom_10 signs words kk) zc (fc + 1)) colds holes guests sack cat wan lw ln ll cb cp tp (nI n) ct cnu 0 cnm fw cold hf cto bu be kd gf fo lco lst hn gn (nI t) = fX6_readFrom_145 signs words (itr (fun kk => fX6_readFrom_10 signs words kk) zc (fc + 1)) (nI N') holes guests sack cat wan lw ln ll cb1 cp1 tp1 (nI n) ct1 cn1 0 cm1 fw cold' hf cto bu be kd gf fo lco lst hn gn (nI t) := by
      unfold fX6_readFrom_10 fX5_isAtEnd
      rw [if_neg n1000, if_pos (show (0 : Int32) = 0 from rfl), if_neg ct0, Option.bind_some, if_pos (show (0 : Int32) = 0 from rfl), if_neg (show ¬ ct.toInt = 128 by rw [ea]; decide), if_neg (show ¬ ct.toInt = 132 by rw [ea]; decide), if_neg (show ¬ ct.toInt = 133 by rw [ea]; decide), if_neg (show ¬ ct.toInt = 134 by rw [ea]; decide), if_pos (show ct.toInt = 135 by rw [ea]; decide), show colds = nI (tN U) from hC.1, c1, Option.bind_some]
    rw [cS]
    rcases p_closes (tp := tp1) (wr := wr) hT hR1 with ⟨cb2, cp2, ct2, cn2, cm2, mp2, mb2, mt2, mn2, mw2, hR2, c2, m2⟩ | ⟨f, hfz, c2, m2⟩
    · have cE : fX6_readFrom_145 signs words (itr (fun kk => fX6_readFrom_10 signs words kk) zc (fc + 1)) (nI N') holes guests sack cat wan lw ln ll cb1 cp1 tp1 (nI n) ct1 cn1 0 cm1 fw cold' hf cto bu be kd gf fo lco lst hn gn (nI t) = (itr (fun kk => fX6_readFrom_10 signs words kk) zc (fc + 1)) (nI N') holes guests sack cat wan lw ln ll cb2 cp2 cp1 (nI n) ct2 cn2 0 cm2 fw cold' hf cto bu be kd gf fo lco lst hn gn (nI (t + 1)) := by
        unfold fX6_readFrom_145
        rw [c2, Option.bind_some, nI_1]
      have mE : fX9_readsAll_39 tape (itr (fun kk => fX9_readsAll_39 tape kk) zm fm) ta (nI n) mp mb mt mnu wr co ms gv mwd fr te mhf mct mbu wl mkd mgf wrs cd lf lt cds op cm mhn mgn = (itr (fun kk => fX9_readsAll_39 tape kk) zm fm) ta (nI n) mp2 mb2 mt2 mn2 wr co ms gv mw2 fr te' mhf mct mbu wl mkd mgf wrs cd' lf lt cds op cm mhn mgn := by
        unfold fX9_readsAll_39
        rw [if_neg mt0, show fX9_isWord mt mwd 168728 = some 0 by rw [← Ww_ter.1]; exact w0 0 (by omega), Option.bind_some, if_pos (show (0 : Int32) = 0 from rfl), show fX9_isWord mt mwd 453774 = some 0 by rw [← Ww_ter.2.2.2.2.1]; exact w0 4 (by omega), Option.bind_some, if_pos (show (0 : Int32) = 0 from rfl), show fX9_isWord mt mwd 4137608 = some 0 by rw [← Ww_ter.2.2.2.2.2.1]; exact w0 5 (by omega), Option.bind_some, if_pos (show (0 : Int32) = 0 from rfl), show fX9_isWord mt mwd 16812 = some 0 by rw [← Ww_ter.2.2.2.2.2.2.1]; exact w0 6 (by omega), Option.bind_some, if_pos (show (0 : Int32) = 0 from rfl), show fX9_isWord mt mwd 70312 = some 1 by rw [← Ww_ter.2.2.2.2.2.2.2.1]; exact w0 7 (by omega), Option.bind_some, if_neg (by decide : ¬ (1 : Int32) = 0), m1, m2, Option.bind_some, Option.bind_some]
        unfold fX9_readsAll_170
        rw [if_neg (show ¬ vp_nar FieldType.boolean 1 = 0 by decide)]
      rw [cE, mE]
      have hU' : WT (uCold U N' co') := uCold_WT hU b2_ (fun i hi => (hcp i hi).1)
      have hp' : pot U isS tl < pot (uCold U N' co') isS tl := pot_cold hN0 b1
      have hpl' := pot_le (isS := isS) (tl := tl) hU'
      exact ok_mono (ih (k - 1) (by omega) (fc + 1) fm (t + 1) (uCold U N' co') isS tl NH NG _ _ _ _ _ _ _ _ _ _ _ _ _ _ _ _ _ _ _ _ _ _ _ _ _ _ _ _ _ _ _ _ _ _ _ _ _ _ _ _ _ _ _ _ _ _ _ _ _ _ _ _ _ _ _ (by omega) (by omega) (by omega) (by omega) hR2 hU' (CU_cold hC hcp) (MU_cold hM hcp ht7 htj) hN hL) (fun rc e => ok_mono e (fun rm g => TEnd_fr ⟨fun j e => htj j (by omega), fun _ _ => rfl, fun _ _ => rfl, fun _ _ => rfl, fun _ _ => rfl, fun _ _ => rfl, fun _ _ => rfl, fun _ _ => rfl, hcj, rfl, rfl, fun _ _ => rfl, fun _ _ => rfl, fun _ _ => rfl⟩ g))
    · unfold fX6_readFrom_145
      refine ok_bind (ok_mono c2 (fun y e => ?_))
      have mF : ok (fX9_readsAll_39 tape (itr (fun kk => fX9_readsAll_39 tape kk) zm fm) ta (nI n) mp mb mt mnu wr co ms gv mwd fr te mhf mct mbu wl mkd mgf wrs cd lf lt cds op cm mhn mgn) (fun rm => rm.1 = 0 ∧ rm.2.2.2.2.2.2.2.1 = f ∧ rm.2.1 = ta ∧ FrT te mhf mct mbu wl mkd mgf wrs cd lf lt cds mhn mgn rm.2.2.2.2.2.2.2.2.2.2.2.2.2.1 rm.2.2.2.2.2.2.2.2.2.2.2.2.2.2.1 rm.2.2.2.2.2.2.2.2.2.2.2.2.2.2.2.1 rm.2.2.2.2.2.2.2.2.2.2.2.2.2.2.2.2.1 rm.2.2.2.2.2.2.2.2.2.2.2.2.2.2.2.2.2.1 rm.2.2.2.2.2.2.2.2.2.2.2.2.2.2.2.2.2.2.1 rm.2.2.2.2.2.2.2.2.2.2.2.2.2.2.2.2.2.2.2.1 rm.2.2.2.2.2.2.2.2.2.2.2.2.2.2.2.2.2.2.2.2.1 rm.2.2.2.2.2.2.2.2.2.2.2.2.2.2.2.2.2.2.2.2.2.1 rm.2.2.2.2.2.2.2.2.2.2.2.2.2.2.2.2.2.2.2.2.2.2.1 rm.2.2.2.2.2.2.2.2.2.2.2.2.2.2.2.2.2.2.2.2.2.2.2.1 rm.2.2.2.2.2.2.2.2.2.2.2.2.2.2.2.2.2.2.2.2.2.2.2.2.1 rm.2.2.2.2.2.2.2.2.2.2.2.2.2.2.2.2.2.2.2.2.2.2.2.2.2.2.2.1 rm.2.2.2.2.2.2.2.2.2.2.2.2.2.2.2.2.2.2.2.2.2.2.2.2.2.2.2.2) := by
        unfold fX9_readsAll_39
        rw [if_neg mt0, show fX9_isWord mt mwd 168728 = some 0 by rw [← Ww_ter.1]; exact w0 0 (by omega), Option.bind_some, if_pos (show (0 : Int32) = 0 from rfl), show fX9_isWord mt mwd 453774 = some 0 by rw [← Ww_ter.2.2.2.2.1]; exact w0 4 (by omega), Option.bind_some, if_pos (show (0 : Int32) = 0 from rfl), show fX9_isWord mt mwd 4137608 = some 0 by rw [← Ww_ter.2.2.2.2.2.1]; exact w0 5 (by omega), Option.bind_some, if_pos (show (0 : Int32) = 0 from rfl), show fX9_isWord mt mwd 16812 = some 0 by rw [← Ww_ter.2.2.2.2.2.2.1]; exact w0 6 (by omega), Option.bind_some, if_pos (show (0 : Int32) = 0 from rfl), show fX9_isWord mt mwd 70312 = some 1 by rw [← Ww_ter.2.2.2.2.2.2.2.1]; exact w0 7 (by omega), Option.bind_some, if_neg (by decide : ¬ (1 : Int32) = 0), m1, Option.bind_assoc]
        refine ok_bind (ok_mono m2 (fun y2 e2 => ?_))
        rw [Option.bind_some]
        unfold fX9_readsAll_170
        rw [e2.1, if_pos (show vp_nar FieldType.boolean 0 = 0 by decide)]
        exact ok_some ⟨rfl, e2.2, rfl, ⟨fun j e => htj j (by omega), fun _ _ => rfl, fun _ _ => rfl, fun _ _ => rfl, fun _ _ => rfl, fun _ _ => rfl, fun _ _ => rfl, fun _ _ => rfl, hcj, rfl, rfl, fun _ _ => rfl, fun _ _ => rfl, fun _ _ => rfl⟩⟩
      rw [e]
      exact p_terF hgu hU.2.1 hg hfz mF
  · have mF : ok (fX9_readsAll_39 tape (itr (fun kk => fX9_readsAll_39 tape kk) zm fm) ta (nI n) mp mb mt mnu wr co ms gv mwd fr te mhf mct mbu wl mkd mgf wrs cd lf lt cds op cm mhn mgn) (fun rm => rm.1 = 0 ∧ rm.2.2.2.2.2.2.2.1 = f ∧ rm.2.1 = ta ∧ FrT te mhf mct mbu wl mkd mgf wrs cd lf lt cds mhn mgn rm.2.2.2.2.2.2.2.2.2.2.2.2.2.1 rm.2.2.2.2.2.2.2.2.2.2.2.2.2.2.1 rm.2.2.2.2.2.2.2.2.2.2.2.2.2.2.2.1 rm.2.2.2.2.2.2.2.2.2.2.2.2.2.2.2.2.1 rm.2.2.2.2.2.2.2.2.2.2.2.2.2.2.2.2.2.1 rm.2.2.2.2.2.2.2.2.2.2.2.2.2.2.2.2.2.2.1 rm.2.2.2.2.2.2.2.2.2.2.2.2.2.2.2.2.2.2.2.1 rm.2.2.2.2.2.2.2.2.2.2.2.2.2.2.2.2.2.2.2.2.1 rm.2.2.2.2.2.2.2.2.2.2.2.2.2.2.2.2.2.2.2.2.2.1 rm.2.2.2.2.2.2.2.2.2.2.2.2.2.2.2.2.2.2.2.2.2.2.1 rm.2.2.2.2.2.2.2.2.2.2.2.2.2.2.2.2.2.2.2.2.2.2.2.1 rm.2.2.2.2.2.2.2.2.2.2.2.2.2.2.2.2.2.2.2.2.2.2.2.2.1 rm.2.2.2.2.2.2.2.2.2.2.2.2.2.2.2.2.2.2.2.2.2.2.2.2.2.2.2.1 rm.2.2.2.2.2.2.2.2.2.2.2.2.2.2.2.2.2.2.2.2.2.2.2.2.2.2.2.2) := by
      unfold fX9_readsAll_39
      rw [if_neg mt0, show fX9_isWord mt mwd 168728 = some 0 by rw [← Ww_ter.1]; exact w0 0 (by omega), Option.bind_some, if_pos (show (0 : Int32) = 0 from rfl), show fX9_isWord mt mwd 453774 = some 0 by rw [← Ww_ter.2.2.2.2.1]; exact w0 4 (by omega), Option.bind_some, if_pos (show (0 : Int32) = 0 from rfl), show fX9_isWord mt mwd 4137608 = some 0 by rw [← Ww_ter.2.2.2.2.2.1]; exact w0 5 (by omega), Option.bind_some, if_pos (show (0 : Int32) = 0 from rfl), show fX9_isWord mt mwd 16812 = some 0 by rw [← Ww_ter.2.2.2.2.2.2.1]; exact w0 6 (by omega), Option.bind_some, if_pos (show (0 : Int32) = 0 from rfl), show fX9_isWord mt mwd 70312 = some 1 by rw [← Ww_ter.2.2.2.2.2.2.2.1]; exact w0 7 (by omega), Option.bind_some, if_neg (by decide : ¬ (1 : Int32) = 0)]
      refine ok_bind (ok_mono m1 (fun y e => ?_))
      unfold fX9_readsAll_170
      rw [if_pos e.1]
      exact ok_some ⟨rfl, e.2.1, rfl, ⟨fun j h => e.2.2.1 j (by omega), fun _ _ => rfl, fun _ _ => rfl, fun _ _ => rfl, fun _ _ => rfl, fun _ _ => rfl, fun _ _ => rfl, fun _ _ => rfl, e.2.2.2, rfl, rfl, fun _ _ => rfl, fun _ _ => rfl, fun _ _ => rfl⟩⟩
    unfold fX6_readFrom_10 fX5_isAtEnd
    rw [if_neg n1000, if_pos (show (0 : Int32) = 0 from rfl), if_neg ct0, Option.bind_some, if_pos (show (0 : Int32) = 0 from rfl), if_neg (show ¬ ct.toInt = 128 by rw [ea]; decide), if_neg (show ¬ ct.toInt = 132 by rw [ea]; decide), if_neg (show ¬ ct.toInt = 133 by rw [ea]; decide), if_neg (show ¬ ct.toInt = 134 by rw [ea]; decide), if_pos (show ct.toInt = 135 by rw [ea]; decide), show colds = nI (tN U) from hC.1]
    refine ok_bind (ok_mono c1 (fun y e => ?_))
    unfold fX6_readFrom_145
    rw [e, c_expectF hfz, Option.bind_some]
    exact p_terF hgu hU.2.1 hg hfz mF
end TL
