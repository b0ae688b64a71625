/-! the sentences of a wall and of a war, both sides -/
theorem q_or0 : ∀ X, X < 1024 → ∀ j, j < 10 → nI X ||| ((1 : Int32) <<< (nI j &&& 31)) = nI (X ||| 2 ^ j) := by decide +kernel
theorem q_or1 {X j : Nat} (hX : X < 1024) (hj : j < 10) : nI X ||| ((1 : Int32) <<< (nI j &&& 31)) = nI (X ||| 2 ^ j) := q_or0 X hX j hj
theorem q_b1 {X j : Nat} (hX : X < 1024) (hj : j < 10) : (nI X >>> (nI j &&& 31)) &&& 1 = nI (b2 (X.testBit j)) := q_bit1 X hX j hj
section SW
variable {z : Nat → Nat} {n : Nat} {signs tape : Nat → Int32} {words : Nat → Int64}
theorem c_50T {i j : Nat} {H' cb cp tp ct cnu f : Int32} {cnm : Int64} {hn : Nat → Int64} {be : Nat → Int32} (hi : i < 5) (hj : j < 5) : fX6_readWall_50 H' (nI n) signs hn words cb cp tp ct cnu f cnm be (nI i) (nI j) = some (cb, cp, tp, ct, cnu, f, cnm, upd (upd be i (be i ||| (1 <<< (nI j &&& 31)))) j ((upd be i (be i ||| (1 <<< (nI j &&& 31)))) j ||| (1 <<< (nI i &&& 31)))) := by
  unfold fX6_readWall_50
  rw [nB hi (by omega), cond_true, cond_true, nB hj (by omega), cond_true, cond_true, nC (by omega), nC (by omega)]
theorem c_wallF {m : Nat} {f : Int32} {y2 y3 : Int32 × Int32 × Int32 × Int32 × Int32 × Int32 × Int32 × Int64} {H' : Int32} {hn : Nat → Int64} {be : Nat → Int32} (hm : m ≤ 5) (hf : ¬ f = 0) (h2 : y2.1 = -1 ∨ ∃ i, i < m ∧ y2.1 = nI i) (h3 : y3.1 = -1 ∨ ∃ i, i < m ∧ y3.1 = nI i) (e : y3.2.2.2.2.2.2.1 = f) :
    ok (if y2.1 = (-1) then (some (y3.2.1, y3.2.2.1, y3.2.2.2.1, y3.2.2.2.2.1, y3.2.2.2.2.2.1, y3.2.2.2.2.2.2.1, y3.2.2.2.2.2.2.2, be)) else (if y3.1 = (-1) then (some (y3.2.1, y3.2.2.1, y3.2.2.2.1, y3.2.2.2.2.1, y3.2.2.2.2.2.1, y3.2.2.2.2.2.2.1, y3.2.2.2.2.2.2.2, be)) else (if y2.1 = y3.1 then (fX6_readWall_45 H' (nI n) signs hn words y3.2.1 y3.2.2.1 y3.2.2.2.1 y3.2.2.2.2.1 y3.2.2.2.2.2.1 y3.2.2.2.2.2.2.1 y3.2.2.2.2.2.2.2 be y2.1 y3.1) else (bif inb y2.1 5 then (if (((be (y2.1).toNatClampNeg) >>> (y3.1 &&& 31)) &&& 1) = 0 then (fX6_readWall_50 H' (nI n) signs hn words y3.2.1 y3.2.2.1 y3.2.2.2.1 y3.2.2.2.2.1 y3.2.2.2.2.2.1 y3.2.2.2.2.2.2.1 y3.2.2.2.2.2.2.2 be y2.1 y3.1) else (fX6_readWall_45 H' (nI n) signs hn words y3.2.1 y3.2.2.1 y3.2.2.2.1 y3.2.2.2.2.1 y3.2.2.2.2.2.1 y3.2.2.2.2.2.2.1 y3.2.2.2.2.2.2.2 be y2.1 y3.1)) else none)))) (fun r => r.2.2.2.2.2.1 = f) := by
  refine ok_if (fun _ => ok_some e) (fun x2 => ok_if (fun _ => ok_some e) (fun x3 => ?_))
  obtain ⟨i, hi, ei⟩ := h2.resolve_left x2
  obtain ⟨j, hj, ej⟩ := h3.resolve_left x3
  have c50 : ok (fX6_readWall_50 H' (nI n) signs hn words y3.2.1 y3.2.2.1 y3.2.2.2.1 y3.2.2.2.2.1 y3.2.2.2.2.2.1 f y3.2.2.2.2.2.2.2 be y2.1 y3.1) (fun r => r.2.2.2.2.2.1 = f) := by
    rw [ei, ej, c_50T (by omega) (by omega)]
    exact ok_some rfl
  have c45 : ok (fX6_readWall_45 H' (nI n) signs hn words y3.2.1 y3.2.2.1 y3.2.2.2.1 y3.2.2.2.2.1 y3.2.2.2.2.2.1 f y3.2.2.2.2.2.2.2 be y2.1 y3.1) (fun r => r.2.2.2.2.2.1 = f) := by
    unfold fX6_readWall_45
    rw [c_refTF hf, Option.bind_some]
    exact c50
  rw [e]
  exact ok_if (fun _ => c45) (fun _ => ok_g (by rw [ei]; exact nB (by omega) (by omega)) (ok_if (fun _ => c50) (fun _ => c45)))
theorem p_wall1 {NH : Nms} {H : Nat} {be : Nat → Nat} {hn mhn : Nat → Int64} {te cbe wl : Nat → Int32} {cb cp tp ct cnu mp mb mt mnu wr gv : Int32} {cnm mwd : Int64} (hT : TpR z n signs tape words) (h : RdR z n cb cp ct cnu cnm mp mb mt mnu mwd) (hH : H ≤ 5) (h1 : WN NH H) (h2 : CN_ NH H hn) (h3 : MN_ NH H 1 mhn) (h4 : te 4 = nI H) (hb1 : ∀ j, j < H → cbe j = nI (be j)) (hb2 : ∀ j, j < H → wl (5 + j) = nI (be j)) (hb3 : ∀ j, j < H → be j < 1024) :
    (∃ (i j : Nat), i < H ∧ j < H ∧ i ≠ j ∧ (be i).testBit j = false ∧ ∃ (cb' cp' tp' ct' cn' : Int32) (cm' : Int64) (mp' mb' mt' mn' gv' : Int32) (mw' : Int64), RdR z n cb' cp' ct' cn' cm' mp' mb' mt' mn' mw' ∧ fX6_readWall (nI H) (nI n) signs hn words cb cp tp ct cnu 0 cnm cbe = some (cb', cp', tp', ct', cn', 0, cm', upd (upd cbe i (nI (be i ||| 2 ^ j))) j (nI (be j ||| 2 ^ i))) ∧ fX9_readsWall (nI n) tape te mhn mp mb mt mnu wr gv mwd wl = Option.bind (fX9_closes (nI n) tape mp' mb' mt' mn' wr mw') (fun y15 => some (vp_nar .boolean y15.1, y15.2.1, y15.2.2.1, y15.2.2.2.1, y15.2.2.2.2.1, y15.2.2.2.2.2.1, gv', y15.2.2.2.2.2.2, upd (upd wl (5 + i) (nI (be i ||| 2 ^ j))) (5 + j) (nI (be j ||| 2 ^ i))))) ∨
    (∃ f : Int32, ¬ f = 0 ∧ ok (fX6_readWall (nI H) (nI n) signs hn words cb cp tp ct cnu 0 cnm cbe) (fun r => r.2.2.2.2.2.1 = f) ∧ ok (fX9_readsWall (nI n) tape te mhn mp mb mt mnu wr gv mwd wl) (fun r => r.1 = 0 ∧ r.2.2.2.2.2.1 = f ∧ r.2.2.2.2.2.2.2.2 = wl)) := by
  obtain ⟨cb1, cp1, ct1, cn1, cm1, mp1, mb1, mt1, mn1, mw1, hR1, hc1, hm1⟩ := p_next2 (tp := tp) hT h
  have cA : fX6_readWall (nI H) (nI n) signs hn words cb cp tp ct cnu 0 cnm cbe = Option.bind (fX6_readHoleName (nI H) (nI n) signs hn words cb1 cp1 cp ct1 cn1 0 cm1) fun y2 => (Option.bind (fX6_readHoleName (nI H) (nI n) signs hn words y2.2.1 y2.2.2.1 y2.2.2.2.1 y2.2.2.2.2.1 y2.2.2.2.2.2.1 y2.2.2.2.2.2.2.1 y2.2.2.2.2.2.2.2) fun y3 => (if y2.1 = (-1) then (some (y3.2.1, y3.2.2.1, y3.2.2.2.1, y3.2.2.2.2.1, y3.2.2.2.2.2.1, y3.2.2.2.2.2.2.1, y3.2.2.2.2.2.2.2, cbe)) else (if y3.1 = (-1) then (some (y3.2.1, y3.2.2.1, y3.2.2.2.1, y3.2.2.2.2.1, y3.2.2.2.2.2.1, y3.2.2.2.2.2.2.1, y3.2.2.2.2.2.2.2, cbe)) else (if y2.1 = y3.1 then (fX6_readWall_45 (nI H) (nI n) signs hn words y3.2.1 y3.2.2.1 y3.2.2.2.1 y3.2.2.2.2.1 y3.2.2.2.2.2.1 y3.2.2.2.2.2.2.1 y3.2.2.2.2.2.2.2 cbe y2.1 y3.1) else (bif inb y2.1 5 then (if (((cbe (y2.1).toNatClampNeg) >>> (y3.1 &&& 31)) &&& 1) = 0 then (fX6_readWall_50 (nI H) (nI n) signs hn words y3.2.1 y3.2.2.1 y3.2.2.2.1 y3.2.2.2.2.1 y3.2.2.2.2.2.1 y3.2.2.2.2.2.2.1 y3.2.2.2.2.2.2.2 cbe y2.1 y3.1) else (fX6_readWall_45 (nI H) (nI n) signs hn words y3.2.1 y3.2.2.1 y3.2.2.2.1 y3.2.2.2.2.1 y3.2.2.2.2.2.1 y3.2.2.2.2.2.2.1 y3.2.2.2.2.2.2.2 cbe y2.1 y3.1)) else none))))) := by
    unfold fX6_readWall
    rw [hc1, Option.bind_some]
  rw [cA]
  rcases p_holeName (N := NH) (m := H) (t := 1) (names := hn) (mnames := mhn) (te := te) (tp := cp) (wr := wr) (gv := gv) hT hR1 (by omega) hH h1 h2 h3 h4 with ⟨i, hiH, cb2, cp2, ct2, cn2, cm2, mp2, mb2, mt2, mn2, mw2, hR2, c2, m2, m2n⟩ | ⟨f, hf, c2, m2⟩
  · have m2 : fX9_needsHole mb1 mt1 mw1 te mhn wr gv 1 = some (1, wr, nI i) := m2
    rw [c2, Option.bind_some]
    dsimp only
    have hR2' := hR2
    obtain ⟨q2, r2', e21, e22, e23, e24, tk2⟩ := hR2'
    have hq2 : q2 ≤ 1000 := by have := tk2.1; have := hT.1; omega
    have mA : fX9_readsWall (nI n) tape te mhn mp mb mt mnu wr gv mwd wl = Option.bind (fX9_needsHole mb2 mt2 mw2 te mhn wr (nI i) 1) fun y5 => (if y5.1 = 0 then (some (0, mp2, mb2, mt2, mn2, y5.2.1, y5.2.2, mw2, wl)) else (if y5.2.2 = nI i then (fX9_readsWall_60 (nI n) tape te mhn mp2 mb2 mt2 mn2 y5.2.1 y5.2.2 mw2 wl) else (bif inb (5 + nI i) 10 then (if (((wl (5 + nI i).toNatClampNeg) >>> (y5.2.2 &&& 31)) &&& 1) = 1 then (fX9_readsWall_60 (nI n) tape te mhn mp2 mb2 mt2 mn2 y5.2.1 y5.2.2 mw2 wl) else (bif inb (5 + nI i) 10 then (bif inb (5 + nI i) 10 then (bif inb (5 + y5.2.2) 10 then (bif inb (5 + y5.2.2) 10 then (Option.bind (fX9_nextToken (nI n) tape mp2 mb2 mt2 mn2 mw2) fun y14 => (Option.bind (fX9_closes (nI n) tape y14.1 y14.2.1 y14.2.2.1 y14.2.2.2.1 y5.2.1 y14.2.2.2.2) fun y15 => (some ((vp_nar .boolean y15.1), y15.2.1, y15.2.2.1, y15.2.2.2.1, y15.2.2.2.2.1, y15.2.2.2.2.2.1, y5.2.2, y15.2.2.2.2.2.2, (upd (upd wl (5 + nI i).toNatClampNeg ((wl (5 + nI i).toNatClampNeg) ||| (1 <<< (y5.2.2 &&& 31)))) (5 + y5.2.2).toNatClampNeg (((upd wl (5 + nI i).toNatClampNeg ((wl (5 + nI i).toNatClampNeg) ||| (1 <<< (y5.2.2 &&& 31)))) (5 + y5.2.2).toNatClampNeg) ||| (1 <<< (nI i &&& 31)))))))) else none) else none) else none) else none)) else none))) := by
      unfold fX9_readsWall
      rw [hm1, Option.bind_some]
      dsimp only
      rw [m2, Option.bind_some]
      dsimp only
      rw [if_neg (by decide : ¬ (1 : Int32) = 0), m2n, Option.bind_some]
    rw [mA]
    have n1 : ¬ nI i = -1 := fun e => absurd (show (0 : Int32) ≤ nI i from nI_le (a := 0) (by omega) (by omega)) (by rw [e]; decide)
    rcases p_holeName (N := NH) (m := H) (t := 1) (names := hn) (mnames := mhn) (te := te) (tp := cp1) (wr := wr) (gv := nI i) hT hR2 (by omega) hH h1 h2 h3 h4 with ⟨j, hjH, cb3, cp3, ct3, cn3, cm3, mp3, mb3, mt3, mn3, mw3, hR3, c3, m3, m3n⟩ | ⟨f, hf, c3, m3⟩
    · have m3 : fX9_needsHole mb2 mt2 mw2 te mhn wr (nI i) 1 = some (1, wr, nI j) := m3
      have nj1 : ¬ nI j = -1 := fun e => absurd (show (0 : Int32) ≤ nI j from nI_le (a := 0) (by omega) (by omega)) (by rw [e]; decide)
      have a5 : (5 : Int32) + nI i = nI (5 + i) := nI_add 5 i
      have b5 : (5 : Int32) + nI j = nI (5 + j) := nI_add 5 j
      have fl := flt hq2 (c := 3) (by omega) (by omega)
      have hr : fX5_refuseTaken cp2 0 3 = some (nI (3 + 16 * q2)) := by
        unfold fX5_refuseTaken
        rw [if_pos rfl, e22, ← fl.1]; rfl
      have c45 : ok (fX6_readWall_45 (nI H) (nI n) signs hn words cb3 cp3 cp2 ct3 cn3 0 cm3 cbe (nI i) (nI j)) (fun r => r.2.2.2.2.2.1 = nI (3 + 16 * q2)) := by
        unfold fX6_readWall_45
        rw [hr, Option.bind_some, c_50T (by omega) (by omega)]
        exact ok_some rfl
      have m60 : ok (fX9_readsWall_60 (nI n) tape te mhn mp2 mb2 mt2 mn2 wr (nI j) mw2 wl) (fun r => r.1 = 0 ∧ r.2.2.2.2.2.1 = nI (3 + 16 * q2) ∧ r.2.2.2.2.2.2.2.2 = wl) := by
        unfold fX9_readsWall_60 fX9_fails
        exact ok_some ⟨show vp_nar FieldType.boolean 0 = 0 by decide, by rw [e24, ← fl.1]; rfl, rfl⟩
      rw [c3, Option.bind_some, m3, Option.bind_some]
      dsimp only
      rw [if_neg n1, if_neg nj1, if_neg (by decide : ¬ (1 : Int32) = 0)]
      by_cases x : i = j
      · refine Or.inr ⟨nI (3 + 16 * q2), fl.2, ?_, ?_⟩
        · rw [if_pos (by rw [x])]
          exact c45
        · rw [if_pos (by rw [x])]
          exact m60
      · have nij : ¬ nI i = nI j := fun e => x ((nI_eq (by omega) (by omega)).mp e)
        have nji : ¬ nI j = nI i := fun e => nij e.symm
        rw [if_neg nij, if_neg nji, nB (show i < 5 by omega) (by omega), cond_true, nC (show i < 2147483648 by omega), a5, nB (show 5 + i < 10 by omega) (by omega), cond_true, cond_true, cond_true, b5, nB (show 5 + j < 10 by omega) (by omega), cond_true, cond_true, nC (show 5 + i < 2147483648 by omega), nC (show 5 + j < 2147483648 by omega), hb1 i hiH, hb2 i hiH, q_b1 (hb3 i hiH) (by omega)]
        by_cases y : (be i).testBit j = true
        · refine Or.inr ⟨nI (3 + 16 * q2), fl.2, ?_, ?_⟩
          · rw [y, if_neg (by decide)]
            exact c45
          · rw [y, if_pos (by decide)]
            exact m60
        · have y : (be i).testBit j = false := by
            cases hh : (be i).testBit j with
            | true => exact absurd hh y
            | false => rfl
          refine Or.inl ⟨i, j, hiH, hjH, x, y, cb3, cp3, cp2, ct3, cn3, cm3, mp3, mb3, mt3, mn3, nI j, mw3, hR3, ?_, ?_⟩
          · rw [y, if_pos (by decide), c_50T (by omega) (by omega), pk_un (fun e => x e.symm), hb1 i hiH, hb1 j hjH, q_or1 (hb3 i hiH) (by omega), q_or1 (hb3 j hjH) (by omega)]
          · rw [y, if_neg (by decide), m3n, Option.bind_some]
            dsimp only
            rw [pk_un (show 5 + j ≠ 5 + i by omega), hb2 j hjH, q_or1 (hb3 i hiH) (by omega), q_or1 (hb3 j hjH) (by omega)]
    · have m3 : ok (fX9_needsHole mb2 mt2 mw2 te mhn wr (nI i) 1) (fun r => r.1 = 0 ∧ r.2.1 = f) := m3
      refine Or.inr ⟨f, hf, ?_, ?_⟩
      · exact ok_bind (ok_mono (ok_both c3 (c_holeR hH)) (fun y3 e => c_wallF (m := H) (y2 := (nI i, cb2, cp2, cp1, ct2, cn2, 0, cm2)) hH hf (Or.inr ⟨i, hiH, rfl⟩) e.2 e.1))
      · exact ok_bind (ok_mono m3 (fun y e => ok_t e.1 (ok_some ⟨rfl, e.2, rfl⟩)))
  · have m2 : ok (fX9_needsHole mb1 mt1 mw1 te mhn wr gv 1) (fun r => r.1 = 0 ∧ r.2.1 = f) := m2
    refine Or.inr ⟨f, hf, ?_, ?_⟩
    · refine ok_bind (ok_mono (ok_both c2 (c_holeR hH)) (fun y2 e2 => ?_))
      rw [e2.1]
      exact ok_bind (ok_mono (ok_both (c_holeF hH hf) (c_holeR hH)) (fun y3 e => c_wallF (m := H) hH hf e2.2 e.2 e.1))
    · unfold fX9_readsWall
      rw [hm1, Option.bind_some]
      exact ok_bind (ok_mono m2 (fun y e => ok_t e.1 (ok_some ⟨rfl, e.2, rfl⟩)))
end SW
