/-! the sentence of the cold, both sides -/
section SC
variable {z : Nat → Nat} {n : Nat} {signs tape : Nat → Int32} {words : Nat → Int64}
abbrev RCo : Type := Int32 × Int32 × Int32 × Int32 × Int32 × Int32 × Int32 × Int64 × (Nat → Int32)
abbrev RMo : Type := Int32 × Int32 × Int32 × Int32 × Int32 × Int32 × Int64 × (Nat → Int32) × (Nat → Int32)
theorem c_coldF {N v : Nat} {zz : Int32 → Int32 → Int32 → Int32 → Int32 → Int32 → Int32 → Int64 → (Nat → Int32) → Int32 → Option RCo} {len colds b p tp tk nu f : Int32} {nm0 : Int64} {cold : Nat → Int32} (hf : ¬ f = 0) (hv : v ≤ 13) (hN : 13 - v < N) : ok (itr (fun kk => fX6_readCold_19 len signs words kk) zz N colds b p tp tk nu f nm0 cold (nI v)) (fun r => r.2.2.2.2.2.2.1 = f) := by
  refine ok_for9 13 (fun i a1 a2 a3 a4 a5 a6 a7 a8 a9 => a7 = f) ?_ ?_ N v colds b p tp tk nu f nm0 cold hv rfl hN
  · rintro k a1 a2 a3 a4 a5 a6 a7 a8 a9 i hi rfl hk
    have c37 : ok (fX6_readCold_37 len signs words k a1 a2 a3 a4 a5 a6 a7 a8 a9 (nI i)) (fun r => r.2.2.2.2.2.2.1 = a7) := by
      unfold fX6_readCold_37
      rw [c_expNumF hf, Option.bind_some, nI_1]
      dsimp only
      by_cases x : i = 12
      · rw [if_pos (show (12 : Int32) ≤ nI i from nI_le (a := 12) (by omega) (by omega)), c_refTF hf, Option.bind_some]
        exact hk _ _ _ _ _ _ _ _ _ rfl
      · rw [if_neg (show ¬ (12 : Int32) ≤ nI i from fun e => absurd (show nI i < 12 from nI_lt (b := 12) (by omega) (by omega)) (Int32.not_lt.mpr e))]
        exact ok_g (nB (by omega) (by omega)) (hk _ _ _ _ _ _ _ _ _ rfl)
    unfold fX6_readCold_19
    exact ok_if (fun _ => ok_some rfl) (fun _ => ok_if (fun _ => c37) (fun _ => ok_if (fun _ => c37) (fun _ => ok_some rfl)))
  · rintro k a1 a2 a3 a4 a5 a6 a7 a8 a9 rfl
    unfold fX6_readCold_19
    exact ok_t (by decide) (ok_some rfl)
def CoP (N : Nat) (co : Nat → Nat) (cold cd : Nat → Int32) : Prop := ∀ i, i < N → co i ≤ 3 ∧ cold i = nI (co i) ∧ cd (12 + i) = nI (co i)
set_option maxHeartbeats 1000000 in
theorem p_coldL (hT : TpR z n signs tape words) {zc : Int32 → Int32 → Int32 → Int32 → Int32 → Int32 → Int32 → Int64 → (Nat → Int32) → Int32 → Option RCo} {zm : Int32 → Int32 → Int32 → Int32 → Int32 → Int64 → (Nat → Int32) → (Nat → Int32) → Option RMo} : ∀ (k N fc fm : Nat) (co : Nat → Nat) (cb cp tp ct cnu : Int32) (cnm : Int64) (mp mb mt mnu wr : Int32) (mwd : Int64) (cold te cd : Nat → Int32), N ≤ 12 → 12 ≤ N + k → 15 ≤ fc + N → k + 1 ≤ fm → RdR z n cb cp ct cnu cnm mp mb mt mnu mwd → te 7 = nI N → CoP N co cold cd →
    (∃ (N' : Nat) (co' : Nat → Nat) (cb' cp' tp' ct' cn' : Int32) (cm' : Int64) (mp' mb' mt' mn' : Int32) (mw' : Int64) (cold' te' cd' : Nat → Int32), 1 ≤ N' ∧ N' ≤ 12 ∧ RdR z n cb' cp' ct' cn' cm' mp' mb' mt' mn' mw' ∧ CoP N' co' cold' cd' ∧ te' 7 = nI N' ∧ (∀ j, j ≠ 7 → te' j = te j) ∧ (∀ j, j < 12 → cd' j = cd j) ∧ itr (fun kk => fX6_readCold_19 (nI n) signs words kk) zc fc (nI N) cb cp tp ct cnu 0 cnm cold (nI N) = some (nI N', cb', cp', tp', ct', cn', 0, cm', cold') ∧ itr (fun kk => fX9_readsCold_20 (nI n) tape kk) zm fm mp mb mt mnu wr mwd te cd = Option.bind (fX9_closes (nI n) tape mp' mb' mt' mn' wr mw') (fun y3 => some (vp_nar .boolean y3.1, y3.2.1, y3.2.2.1, y3.2.2.2.1, y3.2.2.2.2.1, y3.2.2.2.2.2.1, y3.2.2.2.2.2.2, te', cd'))) ∨
    (∃ f : Int32, ¬ f = 0 ∧ ok (itr (fun kk => fX6_readCold_19 (nI n) signs words kk) zc fc (nI N) cb cp tp ct cnu 0 cnm cold (nI N)) (fun r => r.2.2.2.2.2.2.1 = f) ∧ ok (itr (fun kk => fX9_readsCold_20 (nI n) tape kk) zm fm mp mb mt mnu wr mwd te cd) (fun r => r.1 = 0 ∧ r.2.2.2.2.2.1 = f ∧ (∀ j, j ≠ 7 → r.2.2.2.2.2.2.2.1 j = te j) ∧ ∀ j, j < 12 → r.2.2.2.2.2.2.2.2 j = cd j)) := by
  intro k
  induction k using Nat.strongRecOn with
  | ind k ih =>
  intro N fc fm co cb cp tp ct cnu cnm mp mb mt mnu wr mwd cold te cd hN hk hfc hfm hR hte hco
  obtain ⟨fc, rfl⟩ : ∃ m, fc = m + 1 := ⟨fc - 1, by omega⟩
  obtain ⟨fm, rfl⟩ : ∃ m, fm = m + 1 := ⟨fm - 1, by omega⟩
  have hR' := hR
  obtain ⟨qq, rr, _, _, _, _, tk⟩ := hR'
  have t2 := (t_two tk).1
  have n12 : ¬ (12 : Int32) < nI N := nI_nlt (a := 12) (by omega) (by omega)
  have sc : itr (fun kk => fX6_readCold_19 (nI n) signs words kk) zc (fc + 1) (nI N) cb cp tp ct cnu 0 cnm cold (nI N) = (if N = 0 ∨ mt = 2 then fX6_readCold_37 (nI n) signs words (itr (fun kk => fX6_readCold_19 (nI n) signs words kk) zc fc) (nI N) cb cp tp ct cnu 0 cnm cold (nI N) else some (nI N, cb, cp, tp, ct, cnu, 0, cnm, cold)) := by
    show fX6_readCold_19 (nI n) signs words (itr (fun kk => fX6_readCold_19 (nI n) signs words kk) zc fc) (nI N) cb cp tp ct cnu 0 cnm cold (nI N) = _
    unfold fX6_readCold_19
    rw [if_neg n12]
    by_cases x : N = 0
    · rw [if_pos (show nI N = 0 by rw [x]; rfl), if_pos (Or.inl x)]
    · rw [if_neg (show ¬ nI N = 0 from fun e => x ((nI_eq (b := 0) (by omega) (by omega)).mp e))]
      by_cases y : mt = 2
      · rw [if_pos (t2.mp y), if_pos (Or.inr y)]
      · rw [if_neg (fun e => y (t2.mpr e)), if_neg (fun e => e.elim x y)]
  have sm : itr (fun kk => fX9_readsCold_20 (nI n) tape kk) zm (fm + 1) mp mb mt mnu wr mwd te cd = (if N = 0 ∨ mt = 2 then fX9_readsCold_38 (nI n) tape (itr (fun kk => fX9_readsCold_20 (nI n) tape kk) zm fm) mp mb mt mnu wr mwd te cd else Option.bind (fX9_closes (nI n) tape mp mb mt mnu wr mwd) (fun y3 => some (vp_nar .boolean y3.1, y3.2.1, y3.2.2.1, y3.2.2.2.1, y3.2.2.2.2.1, y3.2.2.2.2.2.1, y3.2.2.2.2.2.2, te, cd))) := by
    show fX9_readsCold_20 (nI n) tape (itr (fun kk => fX9_readsCold_20 (nI n) tape kk) zm fm) mp mb mt mnu wr mwd te cd = _
    unfold fX9_readsCold_20
    rw [hte]
    by_cases x : N = 0
    · rw [if_pos (show nI N = 0 by rw [x]; rfl), if_pos (Or.inl x)]
    · rw [if_neg (show ¬ nI N = 0 from fun e => x ((nI_eq (b := 0) (by omega) (by omega)).mp e))]
      by_cases y : mt = 2
      · rw [if_pos y, if_pos (Or.inr y)]
      · rw [if_neg y, if_neg (fun e => e.elim x y)]
  rw [sc, sm]
  by_cases x : N = 0 ∨ mt = 2
  · rw [if_pos x, if_pos x]
    obtain ⟨q, hq, e2, e4, h3⟩ := p_num3 (lo := 0) (hi := 3) (tp := tp) (by omega) (by omega) hT hR
    have eN : (12 : Int32) + te 7 = nI (12 + N) := by rw [hte]; exact nI_add 12 N
    -- a fault in the class: the loop runs out with it
    have cF : ∀ (y : Int32 × Int32 × Int32 × Int32 × Int32 × Int32 × Int32 × Int64) (f : Int32), ¬ f = 0 → y.2.2.2.2.2.2.1 = f → fX5_expectNumber (nI n) signs words cb cp tp ct cnu 0 cnm (nI 0) (nI 3) = some y → ok (fX6_readCold_37 (nI n) signs words (itr (fun kk => fX6_readCold_19 (nI n) signs words kk) zc fc) (nI N) cb cp tp ct cnu 0 cnm cold (nI N)) (fun r => r.2.2.2.2.2.2.1 = f) := fun y f hf hy he => by
      have he : fX5_expectNumber (nI n) signs words cb cp tp ct cnu 0 cnm 0 3 = some y := he
      unfold fX6_readCold_37
      rw [he, Option.bind_some, hy, nI_1]
      by_cases x12 : N = 12
      · rw [if_pos (show (12 : Int32) ≤ nI N from nI_le (a := 12) (by omega) (by omega)), c_refTF hf, Option.bind_some]
        exact c_coldF hf (by omega) (by omega)
      · rw [if_neg (show ¬ (12 : Int32) ≤ nI N from fun e => absurd (show nI N < 12 from nI_lt (b := 12) (by omega) (by omega)) (Int32.not_lt.mpr e))]
        exact ok_g (nB (by omega) (by omega)) (c_coldF hf (by omega) (by omega))
    rcases h3 with ⟨m1, c1⟩ | ⟨v, hv, m1, m2, cb', cp', ct', cn', cm', mp', mb', mt', mn', mw', hR2, hm, h3⟩
    · have fl := flt hq (c := 1) (by omega) (by omega)
      refine Or.inr ⟨nI (1 + 16 * q), fl.2, cF _ _ fl.2 rfl c1, ?_⟩
      unfold fX9_readsCold_38 fX9_fails
      rw [if_neg m1]
      exact ok_some ⟨show vp_nar FieldType.boolean 0 = 0 by decide, by rw [e4, ← fl.1]; rfl, fun _ _ => rfl, fun _ _ => rfl⟩
    · rcases h3 with ⟨y, c1⟩ | ⟨y, c1⟩
      · have fl := flt hq (c := 4) (by omega) (by omega)
        refine Or.inr ⟨nI (4 + 16 * q), fl.2, cF _ _ fl.2 rfl c1, ?_⟩
        unfold fX9_readsCold_38 fX9_fails
        rw [if_pos m1, m2, if_neg (show ¬ nI v ≤ 3 from fun e => absurd (show (3 : Int32) < nI v from nI_lt (a := 3) (by omega) (by omega)) (Int32.not_lt.mpr e))]
        exact ok_some ⟨show vp_nar FieldType.boolean 0 = 0 by decide, by rw [e4, ← fl.1]; rfl, fun _ _ => rfl, fun _ _ => rfl⟩
      · have v3 : nI v ≤ 3 := nI_le (b := 3) (by omega) (by omega)
        have c1' : fX5_expectNumber (nI n) signs words cb cp tp ct cnu 0 cnm 0 3 = some (nI v, cb', cp', cp, ct', cn', 0, cm') := c1
        by_cases x12 : N = 12
        · have fl := flt hq (c := 5) (by omega) (by omega)
          have hr : fX5_refuseTaken cp 0 5 = some (nI (5 + 16 * q)) := by
            unfold fX5_refuseTaken
            rw [if_pos rfl, e2, ← fl.1]; rfl
          refine Or.inr ⟨nI (5 + 16 * q), fl.2, ?_, ?_⟩
          · unfold fX6_readCold_37
            rw [c1', Option.bind_some, nI_1]
            dsimp only
            rw [if_pos (show (12 : Int32) ≤ nI N from nI_le (a := 12) (by omega) (by omega)), hr, Option.bind_some]
            exact c_coldF fl.2 (by omega) (by omega)
          · unfold fX9_readsCold_38 fX9_fails
            rw [if_pos m1, m2, if_pos v3, hte, x12, if_pos (show nI 12 = 12 from rfl)]
            exact ok_some ⟨show vp_nar FieldType.boolean 0 = 0 by decide, by rw [e4, ← fl.1]; rfl, fun _ _ => rfl, fun _ _ => rfl⟩
        · have n12' : ¬ nI N = 12 := fun e => x12 ((nI_eq (b := 12) (by omega) (by omega)).mp e)
          have c37 : fX6_readCold_37 (nI n) signs words (itr (fun kk => fX6_readCold_19 (nI n) signs words kk) zc fc) (nI N) cb cp tp ct cnu 0 cnm cold (nI N) = itr (fun kk => fX6_readCold_19 (nI n) signs words kk) zc fc (nI (N + 1)) cb' cp' cp ct' cn' 0 cm' (upd cold N (nI v)) (nI (N + 1)) := by
            unfold fX6_readCold_37
            rw [c1', Option.bind_some, nI_1]
            dsimp only
            rw [if_neg (show ¬ (12 : Int32) ≤ nI N from fun e => absurd (show nI N < 12 from nI_lt (b := 12) (by omega) (by omega)) (Int32.not_lt.mpr e)), nB (by omega) (by omega), cond_true, nC (by omega)]
          have m38 : fX9_readsCold_38 (nI n) tape (itr (fun kk => fX9_readsCold_20 (nI n) tape kk) zm fm) mp mb mt mnu wr mwd te cd = itr (fun kk => fX9_readsCold_20 (nI n) tape kk) zm fm mp' mb' mt' mn' wr mw' (upd te 7 (nI (N + 1))) (upd cd (12 + N) (nI v)) := by
            rw [m2] at hm
            unfold fX9_readsCold_38
            rw [if_pos m1, m2, if_pos v3, eN, hte, if_neg n12', nB (by omega) (by omega), cond_true, hm, Option.bind_some, nC (by omega), nI_1]
          rw [c37, m38]
          have hco2 : CoP (N + 1) (fun i => if i = N then v else co i) (upd cold N (nI v)) (upd cd (12 + N) (nI v)) := fun i hi => by
            show (if i = N then v else co i) ≤ 3 ∧ _ = nI (if i = N then v else co i) ∧ _ = nI (if i = N then v else co i)
            by_cases e : i = N
            · rw [if_pos e, e, pk_us, pk_us]; exact ⟨by omega, rfl, rfl⟩
            · rw [if_neg e, pk_un e, pk_un (by omega)]; exact hco i (by omega)
          rcases ih (k - 1) (by omega) (N + 1) fc fm _ cb' cp' cp ct' cn' cm' mp' mb' mt' mn' wr mw' (upd cold N (nI v)) (upd te 7 (nI (N + 1))) (upd cd (12 + N) (nI v)) (by omega) (by omega) (by omega) (by omega) hR2 pk_us hco2 with ⟨N', co', cb2, cp2, tp2, ct2, cn2, cm2, mp2, mb2, mt2, mn2, mw2, cold2, te2, cd2, g1, g2, g3, g4, g5, g6, g7, g8, g9⟩ | ⟨f, hf, g1, g2⟩
          · exact Or.inl ⟨N', co', cb2, cp2, tp2, ct2, cn2, cm2, mp2, mb2, mt2, mn2, mw2, cold2, te2, cd2, g1, g2, g3, g4, g5, fun j hj => (g6 j hj).trans (pk_un hj), fun j hj => (g7 j hj).trans (pk_un (by omega)), g8, g9⟩
          · exact Or.inr ⟨f, hf, g1, ok_mono g2 (fun r e => ⟨e.1, e.2.1, fun j hj => (e.2.2.1 j hj).trans (pk_un hj), fun j hj => (e.2.2.2 j hj).trans (pk_un (by omega))⟩)⟩
  · rw [if_neg x, if_neg x]
    exact Or.inl ⟨N, co, cb, cp, tp, ct, cnu, cnm, mp, mb, mt, mnu, mwd, cold, te, cd, by omega, hN, hR, hco, hte, fun _ _ => rfl, fun _ _ => rfl, rfl, rfl⟩
theorem p_cold1 {N : Nat} {co : Nat → Nat} {cold te cd : Nat → Int32} {cb cp tp ct cnu mp mb mt mnu wr : Int32} {cnm mwd : Int64} (hT : TpR z n signs tape words) (h : RdR z n cb cp ct cnu cnm mp mb mt mnu mwd) (hN : N ≤ 12) (hte : te 7 = nI N) :
    (N = 0 ∧ ∃ (N' : Nat) (co' : Nat → Nat) (cb' cp' tp' ct' cn' : Int32) (cm' : Int64) (mp' mb' mt' mn' : Int32) (mw' : Int64) (cold' te' cd' : Nat → Int32), 1 ≤ N' ∧ N' ≤ 12 ∧ RdR z n cb' cp' ct' cn' cm' mp' mb' mt' mn' mw' ∧ CoP N' co' cold' cd' ∧ te' 7 = nI N' ∧ (∀ j, j ≠ 7 → te' j = te j) ∧ (∀ j, j < 12 → cd' j = cd j) ∧ fX6_readCold (nI n) signs words (nI N) cb cp tp ct cnu 0 cnm cold = some (nI N', cb', cp', tp', ct', cn', 0, cm', cold') ∧ fX9_readsCold (nI n) tape mp mb mt mnu wr mwd te cd = Option.bind (fX9_closes (nI n) tape mp' mb' mt' mn' wr mw') (fun y3 => some (vp_nar .boolean y3.1, y3.2.1, y3.2.2.1, y3.2.2.2.1, y3.2.2.2.2.1, y3.2.2.2.2.2.1, y3.2.2.2.2.2.2, te', cd'))) ∨
    (∃ f : Int32, ¬ f = 0 ∧ ok (fX6_readCold (nI n) signs words (nI N) cb cp tp ct cnu 0 cnm cold) (fun r => r.2.2.2.2.2.2.1 = f) ∧ ok (fX9_readsCold (nI n) tape mp mb mt mnu wr mwd te cd) (fun r => r.1 = 0 ∧ r.2.2.2.2.2.1 = f ∧ (∀ j, j ≠ 7 → r.2.2.2.2.2.2.2.1 j = te j) ∧ ∀ j, j < 12 → r.2.2.2.2.2.2.2.2 j = cd j)) := by
  have h0 := h
  obtain ⟨q, r, e1, e2, e3, e4, tk⟩ := h
  have hq : q ≤ 1000 := by have := tk.1; have := hT.1; omega
  by_cases x : N = 0
  · subst x
    obtain ⟨cb1, cp1, ct1, cn1, cm1, mp1, mb1, mt1, mn1, mw1, hR1, hc1, hm1⟩ := p_next2 (tp := tp) hT h0
    have cA : fX6_readCold (nI n) signs words (nI 0) cb cp tp ct cnu 0 cnm cold = itr (fun kk => fX6_readCold_19 (nI n) signs words kk) (fun _ _ _ _ _ _ _ _ _ _ => none) FU (nI 0) cb1 cp1 cp ct1 cn1 0 cm1 cold (nI 0) := by
      unfold fX6_readCold
      rw [if_pos (show nI 0 ≤ 0 by decide), hc1, Option.bind_some]
      rfl
    have mA : fX9_readsCold (nI n) tape mp mb mt mnu wr mwd te cd = itr (fun kk => fX9_readsCold_20 (nI n) tape kk) (fun _ _ _ _ _ _ _ _ => none) FU mp1 mb1 mt1 mn1 wr mw1 te cd := by
      unfold fX9_readsCold
      rw [hte, if_pos (show nI 0 ≤ 0 by decide), hm1, Option.bind_some]
    rw [cA, mA]
    rcases p_coldL hT (zc := fun _ _ _ _ _ _ _ _ _ _ => none) (zm := fun _ _ _ _ _ _ _ _ => none) 12 0 FU FU co cb1 cp1 cp ct1 cn1 cm1 mp1 mb1 mt1 mn1 wr mw1 cold te cd (by omega) (by omega) (by unfold FU; omega) (by unfold FU; omega) hR1 hte (fun i hi => absurd hi (Nat.not_lt_zero _)) with g | g
    · exact Or.inl ⟨rfl, g⟩
    · exact Or.inr g
  · have fl := flt hq (c := 3) (by omega) (by omega)
    have n0 : ¬ nI N ≤ 0 := fun e => absurd (show (0 : Int32) < nI N from nI_lt (a := 0) (by omega) (by omega)) (Int32.not_lt.mpr e)
    refine Or.inr ⟨nI (3 + 16 * q), fl.2, ?_, ?_⟩
    · have hr : fX5_refuse cp 0 3 = some (nI (3 + 16 * q)) := by
        unfold fX5_refuse
        rw [if_pos rfl, e2, ← fl.1]; rfl
      unfold fX6_readCold
      rw [if_neg n0, hr]
      exact ok_some rfl
    · unfold fX9_readsCold fX9_fails
      rw [hte, if_neg n0]
      exact ok_some ⟨show vp_nar FieldType.boolean 0 = 0 by decide, by rw [e4, ← fl.1]; rfl, fun _ _ => rfl, fun _ _ => rfl⟩
end SC
