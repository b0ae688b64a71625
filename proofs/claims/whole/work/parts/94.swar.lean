/-! the sentences of a war and of the sack, both sides -/
section SR
variable {z : Nat → Nat} {n : Nat} {signs tape : Nat → Int32} {words : Nat → Int64}
theorem c_43T {i j : Nat} {cb cp tp ct cnu f : Int32} {cnm : Int64} {be : Nat → Int32} (hi : i < 10) (hj : j < 10) : fX6_readWar_43 (nI n) signs words cb cp tp ct cnu f cnm be (nI i) (nI j) = some (cb, cp, tp, ct, cnu, f, cnm, upd (upd be i (be i ||| (1 <<< (nI j &&& 31)))) j ((upd be i (be i ||| (1 <<< (nI j &&& 31)))) j ||| (1 <<< (nI i &&& 31)))) := by
  unfold fX6_readWar_43
  rw [nB hi (by omega), cond_true, cond_true, nB hj (by omega), cond_true, cond_true, nC (by omega), nC (by omega)]
theorem c_warF {i j : Nat} {f : Int32} {y2 y3 : Int32 × Int32 × Int32 × Int32 × Int32 × Int32 × Int32 × Int64} {be : Nat → Int32} (hi : i < 10) (hj : j < 10) (hf : ¬ f = 0) (h2 : y2.1 = nI i) (h3 : y3.1 = nI j) (e : y3.2.2.2.2.2.2.1 = f) :
    ok (if y2.1 = y3.1 then (fX6_readWar_38 (nI n) signs words y3.2.1 y3.2.2.1 y3.2.2.2.1 y3.2.2.2.2.1 y3.2.2.2.2.2.1 y3.2.2.2.2.2.2.1 y3.2.2.2.2.2.2.2 be y2.1 y3.1) else (bif inb y2.1 10 then (if (((be (y2.1).toNatClampNeg) >>> (y3.1 &&& 31)) &&& 1) = 0 then (fX6_readWar_43 (nI n) signs words y3.2.1 y3.2.2.1 y3.2.2.2.1 y3.2.2.2.2.1 y3.2.2.2.2.2.1 y3.2.2.2.2.2.2.1 y3.2.2.2.2.2.2.2 be y2.1 y3.1) else (fX6_readWar_38 (nI n) signs words y3.2.1 y3.2.2.1 y3.2.2.2.1 y3.2.2.2.2.1 y3.2.2.2.2.2.1 y3.2.2.2.2.2.2.1 y3.2.2.2.2.2.2.2 be y2.1 y3.1)) else none)) (fun r => r.2.2.2.2.2.1 = f) := by
  have c43 : ok (fX6_readWar_43 (nI n) signs words y3.2.1 y3.2.2.1 y3.2.2.2.1 y3.2.2.2.2.1 y3.2.2.2.2.2.1 f y3.2.2.2.2.2.2.2 be y2.1 y3.1) (fun r => r.2.2.2.2.2.1 = f) := by
    rw [h2, h3, c_43T (by omega) (by omega)]
    exact ok_some rfl
  have c38 : ok (fX6_readWar_38 (nI n) signs words y3.2.1 y3.2.2.1 y3.2.2.2.1 y3.2.2.2.2.1 y3.2.2.2.2.2.1 f y3.2.2.2.2.2.2.2 be y2.1 y3.1) (fun r => r.2.2.2.2.2.1 = f) := by
    unfold fX6_readWar_38
    rw [c_refTF hf, Option.bind_some]
    exact c43
  rw [e]
  exact ok_if (fun _ => c38) (fun _ => ok_g (by rw [h2]; exact nB (by omega) (by omega)) (ok_if (fun _ => c43) (fun _ => c38)))
theorem p_war1 {wb : Nat → Nat} {fw wrs : Nat → Int32} {cb cp tp ct cnu mp mb mt mnu wr gv : Int32} {cnm mwd : Int64} (hT : TpR z n signs tape words) (h : RdR z n cb cp ct cnu cnm mp mb mt mnu mwd) (hb1 : ∀ j, j < 10 → fw j = nI (wb j)) (hb2 : ∀ j, j < 10 → wrs (10 + j) = nI (wb j)) (hb3 : ∀ j, j < 10 → wb j < 1024) :
    (∃ (i j : Nat), i < 10 ∧ j < 10 ∧ i ≠ j ∧ (wb i).testBit j = false ∧ ∃ (cb' cp' tp' ct' cn' : Int32) (cm' : Int64) (mp' mb' mt' mn' gv' : Int32) (mw' : Int64), RdR z n cb' cp' ct' cn' cm' mp' mb' mt' mn' mw' ∧ fX6_readWar (nI n) signs words cb cp tp ct cnu 0 cnm fw = some (cb', cp', tp', ct', cn', 0, cm', upd (upd fw i (nI (wb i ||| 2 ^ j))) j (nI (wb j ||| 2 ^ i))) ∧ fX9_readsWar (nI n) tape mp mb mt mnu wr gv mwd wrs = Option.bind (fX9_closes (nI n) tape mp' mb' mt' mn' wr mw') (fun y14 => some (vp_nar .boolean y14.1, y14.2.1, y14.2.2.1, y14.2.2.2.1, y14.2.2.2.2.1, y14.2.2.2.2.2.1, gv', y14.2.2.2.2.2.2, upd (upd wrs (10 + i) (nI (wb i ||| 2 ^ j))) (10 + j) (nI (wb j ||| 2 ^ i))))) ∨
    (∃ f : Int32, ¬ f = 0 ∧ ok (fX6_readWar (nI n) signs words cb cp tp ct cnu 0 cnm fw) (fun r => r.2.2.2.2.2.1 = f) ∧ ok (fX9_readsWar (nI n) tape mp mb mt mnu wr gv mwd wrs) (fun r => r.1 = 0 ∧ r.2.2.2.2.2.1 = f ∧ r.2.2.2.2.2.2.2.2 = wrs)) := by
  obtain ⟨cb1, cp1, ct1, cn1, cm1, mp1, mb1, mt1, mn1, mw1, hR1, hc1, hm1⟩ := p_next2 (tp := tp) hT h
  have cA : fX6_readWar (nI n) signs words cb cp tp ct cnu 0 cnm fw = Option.bind (fX5_expectNumber (nI n) signs words cb1 cp1 cp ct1 cn1 0 cm1 0 9) fun y2 => (Option.bind (fX5_expectNumber (nI n) signs words y2.2.1 y2.2.2.1 y2.2.2.2.1 y2.2.2.2.2.1 y2.2.2.2.2.2.1 y2.2.2.2.2.2.2.1 y2.2.2.2.2.2.2.2 0 9) fun y3 => (if y2.1 = y3.1 then (fX6_readWar_38 (nI n) signs words y3.2.1 y3.2.2.1 y3.2.2.2.1 y3.2.2.2.2.1 y3.2.2.2.2.2.1 y3.2.2.2.2.2.2.1 y3.2.2.2.2.2.2.2 fw y2.1 y3.1) else (bif inb y2.1 10 then (if (((fw (y2.1).toNatClampNeg) >>> (y3.1 &&& 31)) &&& 1) = 0 then (fX6_readWar_43 (nI n) signs words y3.2.1 y3.2.2.1 y3.2.2.2.1 y3.2.2.2.2.1 y3.2.2.2.2.2.1 y3.2.2.2.2.2.2.1 y3.2.2.2.2.2.2.2 fw y2.1 y3.1) else (fX6_readWar_38 (nI n) signs words y3.2.1 y3.2.2.1 y3.2.2.2.1 y3.2.2.2.2.1 y3.2.2.2.2.2.1 y3.2.2.2.2.2.2.1 y3.2.2.2.2.2.2.2 fw y2.1 y3.1)) else none))) := by
    unfold fX6_readWar
    rw [hc1, Option.bind_some]
  rw [cA]
  rcases p_number (lo := 0) (hi := 9) (tp := cp) (wr := wr) (gv := gv) (by omega) (by omega) hT hR1 with ⟨i, _, hi9, cb2, cp2, ct2, cn2, cm2, mp2, mb2, mt2, mn2, mw2, hR2, c2, m2⟩ | ⟨f, hf, c2, m2⟩
  · have c2 : fX5_expectNumber (nI n) signs words cb1 cp1 cp ct1 cn1 0 cm1 0 9 = some (nI i, cb2, cp2, cp1, ct2, cn2, 0, cm2) := c2
    have m2 : fX9_needsNumber (nI n) tape mp1 mb1 mt1 mn1 wr gv mw1 0 9 = some (1, mp2, mb2, mt2, mn2, wr, nI i, mw2) := m2
    rw [c2, Option.bind_some]
    dsimp only
    have a10 : (10 : Int32) + nI i = nI (10 + i) := nI_add 10 i
    have hi10 := hb2 i (by omega)
    obtain ⟨q2, hq2, e22, e24, h3⟩ := p_num3 (lo := 0) (hi := 9) (tp := cp1) (by omega) (by omega) hT hR2
    rcases h3 with ⟨m3, c3⟩ | ⟨j, hjv, m3, m3v, cb3, cp3, ct3, cn3, cm3, mp3, mb3, mt3, mn3, mw3, hR3, hm3, h3⟩
    · have c3 : fX5_expectNumber (nI n) signs words cb2 cp2 cp1 ct2 cn2 0 cm2 0 9 = some (nI 0, cb2, cp2, cp1, ct2, cn2, nI (1 + 16 * q2), cm2) := c3
      have fl := flt hq2 (c := 1) (by omega) (by omega)
      refine Or.inr ⟨nI (1 + 16 * q2), fl.2, ?_, ?_⟩
      · rw [c3, Option.bind_some]
        exact c_warF (i := i) (j := 0) (y2 := (nI i, cb2, cp2, cp1, ct2, cn2, 0, cm2)) (y3 := (nI 0, cb2, cp2, cp1, ct2, cn2, nI (1 + 16 * q2), cm2)) (by omega) (by omega) fl.2 rfl rfl rfl
      · unfold fX9_readsWar fX9_fails
        rw [hm1, Option.bind_some]
        dsimp only
        rw [m2, Option.bind_some]
        dsimp only
        rw [if_neg (by decide : ¬ (1 : Int32) = 0), if_neg m3]
        exact ok_some ⟨show vp_nar FieldType.boolean 0 = 0 by decide, by rw [e24, ← fl.1]; rfl, rfl⟩
    · rcases h3 with ⟨hno, c3⟩ | ⟨hyes, c3⟩
      · have c3 : fX5_expectNumber (nI n) signs words cb2 cp2 cp1 ct2 cn2 0 cm2 0 9 = some (nI 0, cb3, cp3, cp2, ct3, cn3, nI (4 + 16 * q2), cm3) := c3
        have fl := flt hq2 (c := 4) (by omega) (by omega)
        refine Or.inr ⟨nI (4 + 16 * q2), fl.2, ?_, ?_⟩
        · rw [c3, Option.bind_some]
          exact c_warF (i := i) (j := 0) (y2 := (nI i, cb2, cp2, cp1, ct2, cn2, 0, cm2)) (y3 := (nI 0, cb3, cp3, cp2, ct3, cn3, nI (4 + 16 * q2), cm3)) (by omega) (by omega) fl.2 rfl rfl rfl
        · unfold fX9_readsWar fX9_fails
          rw [hm1, Option.bind_some]
          dsimp only
          rw [m2, Option.bind_some]
          dsimp only
          rw [if_neg (by decide : ¬ (1 : Int32) = 0), if_pos m3, m3v, if_neg (show ¬ nI j ≤ 9 from fun e => absurd (show (9 : Int32) < nI j from nI_lt (a := 9) (by omega) (by omega)) (Int32.not_lt.mpr e))]
          exact ok_some ⟨show vp_nar FieldType.boolean 0 = 0 by decide, by rw [e24, ← fl.1]; rfl, rfl⟩
      · have c3 : fX5_expectNumber (nI n) signs words cb2 cp2 cp1 ct2 cn2 0 cm2 0 9 = some (nI j, cb3, cp3, cp2, ct3, cn3, 0, cm3) := c3
        have b10 : (10 : Int32) + nI j = nI (10 + j) := nI_add 10 j
        have fl := flt hq2 (c := 3) (by omega) (by omega)
        have hr : fX5_refuseTaken cp2 0 3 = some (nI (3 + 16 * q2)) := by
          unfold fX5_refuseTaken
          rw [if_pos rfl, e22, ← fl.1]; rfl
        have c38 : ok (fX6_readWar_38 (nI n) signs words cb3 cp3 cp2 ct3 cn3 0 cm3 fw (nI i) (nI j)) (fun r => r.2.2.2.2.2.1 = nI (3 + 16 * q2)) := by
          unfold fX6_readWar_38
          rw [hr, Option.bind_some, c_43T (by omega) (by omega)]
          exact ok_some rfl
        have m78 : ∀ w, ok (fX9_readsWar_78 (nI n) tape mp2 mb2 mt2 w wr (nI i) mw2 wrs) (fun r => r.1 = 0 ∧ r.2.2.2.2.2.1 = nI (3 + 16 * q2) ∧ r.2.2.2.2.2.2.2.2 = wrs) := fun w => by
          unfold fX9_readsWar_78 fX9_fails
          exact ok_some ⟨show vp_nar FieldType.boolean 0 = 0 by decide, by rw [e24, ← fl.1]; rfl, rfl⟩
        rw [c3, Option.bind_some]
        dsimp only
        unfold fX9_readsWar
        rw [hm1, Option.bind_some]
        dsimp only
        rw [m2, Option.bind_some]
        dsimp only
        rw [if_neg (by decide : ¬ (1 : Int32) = 0), if_pos m3]
        rw [m3v] at hm3 ⊢
        rw [if_pos (show nI j ≤ 9 from nI_le (b := 9) (by omega) (by omega))]
        by_cases x : i = j
        · refine Or.inr ⟨nI (3 + 16 * q2), fl.2, ?_, ?_⟩
          · rw [if_pos (by rw [x])]
            exact c38
          · rw [if_pos (by rw [x])]
            exact m78 _
        · have nij : ¬ nI i = nI j := fun e => x ((nI_eq (by omega) (by omega)).mp e)
          have nji : ¬ nI j = nI i := fun e => nij e.symm
          rw [if_neg nij, if_neg nji, nB (show i < 10 by omega) (by omega), cond_true, nC (show i < 2147483648 by omega), a10, nB (show 10 + i < 20 by omega) (by omega), cond_true, cond_true, cond_true, b10, nB (show 10 + j < 20 by omega) (by omega), cond_true, cond_true, nC (show 10 + i < 2147483648 by omega), nC (show 10 + j < 2147483648 by omega), hb1 i (by omega), hi10, q_b1 (hb3 i (by omega)) (by omega)]
          by_cases y : (wb i).testBit j = true
          · refine Or.inr ⟨nI (3 + 16 * q2), fl.2, ?_, ?_⟩
            · rw [y, if_neg (by decide)]
              exact c38
            · rw [y, if_pos (by decide)]
              exact m78 _
          · have y : (wb i).testBit j = false := by
              cases hh : (wb i).testBit j with
              | true => exact absurd hh y
              | false => rfl
            refine Or.inl ⟨i, j, by omega, by omega, x, y, cb3, cp3, cp2, ct3, cn3, cm3, mp3, mb3, mt3, mn3, nI i, mw3, hR3, ?_, ?_⟩
            · rw [y, if_pos (by decide), c_43T (by omega) (by omega), pk_un (fun e => x e.symm), hb1 i (by omega), hb1 j (by omega), q_or1 (hb3 i (by omega)) (by omega), q_or1 (hb3 j (by omega)) (by omega)]
            · rw [y, if_neg (by decide), hm3, Option.bind_some]
              dsimp only
              rw [pk_un (show 10 + j ≠ 10 + i by omega), hb2 j (by omega), q_or1 (hb3 i (by omega)) (by omega), q_or1 (hb3 j (by omega)) (by omega)]
  · have c2 : ok (fX5_expectNumber (nI n) signs words cb1 cp1 cp ct1 cn1 0 cm1 0 9) (fun r => r.1 = nI 0 ∧ r.2.2.2.2.2.2.1 = f) := c2
    have m2 : ok (fX9_needsNumber (nI n) tape mp1 mb1 mt1 mn1 wr gv mw1 0 9) (fun r => r.1 = 0 ∧ r.2.2.2.2.2.1 = f) := m2
    refine Or.inr ⟨f, hf, ?_, ?_⟩
    · refine ok_bind (ok_mono c2 (fun y2 e2 => ?_))
      rw [e2.2, c_expNumF hf, Option.bind_some]
      exact c_warF (i := 0) (j := 0) (y3 := (0, y2.2.1, y2.2.2.1, y2.2.2.2.1, y2.2.2.2.2.1, y2.2.2.2.2.2.1, f, y2.2.2.2.2.2.2.2)) (by omega) (by omega) hf e2.1 rfl rfl
    · unfold fX9_readsWar
      rw [hm1, Option.bind_some]
      exact ok_bind (ok_mono m2 (fun y e => ok_t e.1 (ok_some ⟨rfl, e.2, rfl⟩)))
theorem p_sack1 {isS : Bool} {S : Nat} {te : Nat → Int32} {sk ms cb cp tp ct cnu mp mb mt mnu wr gv : Int32} {cnm mwd : Int64} (hT : TpR z n signs tape words) (h : RdR z n cb cp ct cnu cnm mp mb mt mnu mwd) (hS : 1 ≤ S ∧ S ≤ 20) (hs : sk = if isS = true then nI S else 0) (hm : ms = nI (b2 isS)) :
    (isS = false ∧ ∃ v, 1 ≤ v ∧ v ≤ 20 ∧ ∃ (cb' cp' tp' ct' cn' : Int32) (cm' : Int64) (mp' mb' mt' mn' gv' : Int32) (mw' : Int64), RdR z n cb' cp' ct' cn' cm' mp' mb' mt' mn' mw' ∧ fX6_readSack (nI n) signs words sk cb cp tp ct cnu 0 cnm = some (nI v, cb', cp', tp', ct', cn', 0, cm') ∧ fX9_readsSack (nI n) tape mp mb mt mnu wr ms gv mwd te = Option.bind (fX9_closes (nI n) tape mp' mb' mt' mn' wr mw') (fun y5 => some (vp_nar .boolean y5.1, y5.2.1, y5.2.2.1, y5.2.2.2.1, y5.2.2.2.2.1, y5.2.2.2.2.2.1, 1, gv', y5.2.2.2.2.2.2, upd te 6 (nI v)))) ∨
    (∃ f : Int32, ¬ f = 0 ∧ ok (fX6_readSack (nI n) signs words sk cb cp tp ct cnu 0 cnm) (fun r => r.2.2.2.2.2.2.1 = f) ∧ ok (fX9_readsSack (nI n) tape mp mb mt mnu wr ms gv mwd te) (fun r => r.1 = 0 ∧ r.2.2.2.2.2.1 = f ∧ r.2.2.2.2.2.2.2.2.2 = te)) := by
  have h0 := h
  obtain ⟨q, r, e1, e2, e3, e4, tk⟩ := h
  have hq : q ≤ 1000 := by have := tk.1; have := hT.1; omega
  cases isS with
  | true =>
    have hs : sk = nI S := hs
    have fl := flt hq (c := 3) (by omega) (by omega)
    refine Or.inr ⟨nI (3 + 16 * q), fl.2, ?_, ?_⟩
    · have hr : fX5_refuse cp 0 3 = some (nI (3 + 16 * q)) := by
        unfold fX5_refuse
        rw [if_pos rfl, e2, ← fl.1]; rfl
      unfold fX6_readSack
      rw [hs, if_neg (show ¬ nI S ≤ 0 from fun e => absurd (show (0 : Int32) < nI S from nI_lt (a := 0) (by omega) (by omega)) (Int32.not_lt.mpr e)), hr]
      exact ok_some rfl
    · unfold fX9_readsSack fX9_fails
      rw [hm, if_neg (show ¬ nI (b2 true) = 0 by decide)]
      exact ok_some ⟨show vp_nar FieldType.boolean 0 = 0 by decide, by rw [e4, ← fl.1]; rfl, rfl⟩
  | false =>
    have hs : sk = 0 := hs
    obtain ⟨cb1, cp1, ct1, cn1, cm1, mp1, mb1, mt1, mn1, mw1, hR1, hc1, hm1⟩ := p_next2 (tp := tp) hT h0
    rcases p_number (lo := 1) (hi := 20) (tp := cp) (wr := wr) (gv := gv) (by omega) (by omega) hT hR1 with ⟨v, v1, v2, cb2, cp2, ct2, cn2, cm2, mp2, mb2, mt2, mn2, mw2, hR2, c2, m2⟩ | ⟨f, hf, c2, m2⟩
    · have c2 : fX5_expectNumber (nI n) signs words cb1 cp1 cp ct1 cn1 0 cm1 1 20 = some (nI v, cb2, cp2, cp1, ct2, cn2, 0, cm2) := c2
      have m2 : fX9_needsNumber (nI n) tape mp1 mb1 mt1 mn1 wr gv mw1 1 20 = some (1, mp2, mb2, mt2, mn2, wr, nI v, mw2) := m2
      refine Or.inl ⟨rfl, v, v1, v2, cb2, cp2, cp1, ct2, cn2, cm2, mp2, mb2, mt2, mn2, nI v, mw2, hR2, ?_, ?_⟩
      · unfold fX6_readSack
        rw [hs, if_pos (by decide), hc1, Option.bind_some]
        dsimp only
        rw [c2, Option.bind_some]
      · unfold fX9_readsSack
        rw [hm, if_pos (show nI (b2 false) = 0 from rfl), hm1, Option.bind_some]
        dsimp only
        rw [m2, Option.bind_some]
        dsimp only
        rw [if_neg (by decide : ¬ (1 : Int32) = 0)]
    · have c2 : ok (fX5_expectNumber (nI n) signs words cb1 cp1 cp ct1 cn1 0 cm1 1 20) (fun r => r.1 = nI 1 ∧ r.2.2.2.2.2.2.1 = f) := c2
      have m2 : ok (fX9_needsNumber (nI n) tape mp1 mb1 mt1 mn1 wr gv mw1 1 20) (fun r => r.1 = 0 ∧ r.2.2.2.2.2.1 = f) := m2
      refine Or.inr ⟨f, hf, ?_, ?_⟩
      · unfold fX6_readSack
        rw [hs, if_pos (by decide), hc1, Option.bind_some]
        exact ok_bind (ok_mono c2 (fun y e => ok_some e.2))
      · unfold fX9_readsSack
        rw [hm, if_pos (show nI (b2 false) = 0 from rfl), hm1, Option.bind_some]
        exact ok_bind (ok_mono m2 (fun y e => ok_t e.1 (ok_some ⟨rfl, e.2, rfl⟩)))
end SR
