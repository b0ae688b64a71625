/-! a winter told: both sides -/
section WR
variable {z : Nat → Nat} {n : Nat} {signs tape : Nat → Int32} {words : Nat → Int64}
theorem t_zero {q r : Nat} {ct cnu mt mnu : Int32} {cnm mwd : Int64} (tk : TokR z n q r ct cnu cnm mt mnu mwd) : ct = 0 ↔ mt = 0 := by
  obtain ⟨_, _, h⟩ := tk
  rcases h with ⟨_, _, e1, e2⟩ | ⟨_, _, _, _, _, e2, h⟩ | ⟨_, e1, e2, _⟩ | ⟨_, h1, h2, _, _, e1, e2⟩ | ⟨_, e1, e2⟩
  · rw [e1, e2]
  · rw [e2]
    rcases h with ⟨i, hi, _, e1⟩ | ⟨_, e1⟩
    · rw [e1]
      exact ⟨fun e => by have := (nI_eq (b := 0) (by omega) (by omega)).mp e; omega, fun e => absurd e (by decide)⟩
    · rw [e1]
      exact ⟨fun e => absurd e (by decide), fun e => absurd e (by decide)⟩
  · rw [e1, e2]
  · rw [e1, e2]
    refine ⟨fun e => by have := (nI_eq (b := 0) (by omega) (by omega)).mp e; omega, fun e => ?_⟩
    split at e <;> exact absurd e (by decide)
  · rw [e1, e2]
    exact ⟨fun e => absurd e (by decide), fun e => absurd e (by decide)⟩
theorem gd7 (hz : ∀ i, i < n → gdB (z i) = true) : ∀ i, i < n → z i < 127 := fun i hi => by
  have := hz i hi
  unfold gdB at this
  simp at this
  omega
def FrM (ln lw la lb ln' lw' la' lb' : Nat → Int32) : Prop := (∀ k, 0 < k → k < 5 → ln' k = ln k) ∧ ∀ j, 40 ≤ j → j < 200 → lw' j = lw j ∧ la' j = la j ∧ lb' j = lb j
/-- once a fault stands the class's loop ends with it -/
theorem c_readF {N : Nat} {zc : Int32 → Int32 → Int32 → Int32 → Int32 → Int32 → Int32 → Int32 → Int64 → (Nat → Int32) → (Nat → Int32) → (Nat → Int32) → Int32 → Option (Int32 × Int32 × Int32 × Int32 × Int32 × Int32 × Int32 × Int32 × Int32 × Int64 × (Nat → Int32) × (Nat → Int32) × (Nat → Int32))} {H G ls cb cp tp le ct cnu f v : Int32} {hn gn : Nat → Int64} {cnm : Int64} {gs hs vs : Nat → Int32} (hf : ¬ f = 0) : ok (itr (fun kk => fX7_readFrom_11 H G signs words hn gn kk) zc (N + 1) ls cb cp tp le ct cnu f cnm gs hs vs v) (fun r => r.1 = f ∧ r.2.2.2.2.2.1 = 0) := by
  show ok (fX7_readFrom_11 H G signs words hn gn (itr (fun kk => fX7_readFrom_11 H G signs words hn gn kk) zc N) ls cb cp tp le ct cnu f cnm gs hs vs v) _
  unfold fX7_readFrom_11 fX7_readFrom_43 fX5_isAtEnd
  refine ok_if (fun _ => ok_some ⟨rfl, rfl⟩) (fun _ => ?_)
  rw [if_neg hf]
  simp only [Option.bind_some]
  exact ok_f (by decide : ¬ (1 : Int32) = 0) (ok_some ⟨rfl, rfl⟩)
set_option maxHeartbeats 1000000 in
theorem p_wloop {NH NG : Nms} {H G : Nat} {hn gn mhn mgn : Nat → Int64} {te : Nat → Int32} {th ta : Int32} {zc : Int32 → Int32 → Int32 → Int32 → Int32 → Int32 → Int32 → Int32 → Int64 → (Nat → Int32) → (Nat → Int32) → (Nat → Int32) → Int32 → Option (Int32 × Int32 × Int32 × Int32 × Int32 × Int32 × Int32 × Int32 × Int32 × Int64 × (Nat → Int32) × (Nat → Int32) × (Nat → Int32))} {zm : Int32 → Int32 → Int32 → Int32 → Int32 → Int32 → Int32 → Int32 → Int32 → Int64 → (Nat → Int32) → (Nat → Int32) → (Nat → Int32) → (Nat → Int32) → Option (Int32 × Int32 × Int32 × Int32 × Int32 × Int32 × Int32 × Int32 × Int32 × Int32 × Int64 × (Nat → Int32) × (Nat → Int32) × (Nat → Int32) × (Nat → Int32))} (hT : TpR z n signs tape words) (hN : NmR NH NG H G hn gn mhn mgn te) :
    ∀ (k fc fm : Nat) (L : Pln) (cb cp tp ct cnu : Int32) (cnm : Int64) (mp mb mt mnu wr gv : Int32) (mwd : Int64) (gs hs vs ln lw la lb : Nat → Int32), 40 ≤ L.1 + k → k + 1 < fc → k + 1 < fm → RdR z n cb cp ct cnu cnm mp mb mt mnu mwd → WLh H G L → CL L (nI L.1) gs hs vs → ML L 5 ln lw la lb →
    ok (itr (fun kk => fX7_readFrom_11 (nI H) (nI G) signs words hn gn kk) zc fc (nI L.1) cb cp tp (nI n) ct cnu 0 cnm gs hs vs (nI L.1)) (fun rc => rc.2.2.2.2.2.1 = 0 ∧ ok (itr (fun kk => fX9_winter_16 tape te mhn mgn kk) zm fm th ta (nI n) mp mb mt mnu wr gv mwd ln lw la lb) (fun rm => rm.1 = rc.1 ∧ rm.2.1 = th ∧ rm.2.2.1 = ta ∧
      ((rc.1 = 0 ∧ ∃ L', WLh H G L' ∧ CL L' rc.2.1 rc.2.2.2.2.2.2.2.2.2.2.1 rc.2.2.2.2.2.2.2.2.2.2.2.1 rc.2.2.2.2.2.2.2.2.2.2.2.2 ∧ ML L' 0 rm.2.2.2.2.2.2.2.2.2.2.2.1 rm.2.2.2.2.2.2.2.2.2.2.2.2.1 rm.2.2.2.2.2.2.2.2.2.2.2.2.2.1 rm.2.2.2.2.2.2.2.2.2.2.2.2.2.2 ∧ FrM ln lw la lb rm.2.2.2.2.2.2.2.2.2.2.2.1 rm.2.2.2.2.2.2.2.2.2.2.2.2.1 rm.2.2.2.2.2.2.2.2.2.2.2.2.2.1 rm.2.2.2.2.2.2.2.2.2.2.2.2.2.2) ∨
       (¬ rc.1 = 0 ∧ FrL ln lw la lb rm.2.2.2.2.2.2.2.2.2.2.2.1 rm.2.2.2.2.2.2.2.2.2.2.2.2.1 rm.2.2.2.2.2.2.2.2.2.2.2.2.2.1 rm.2.2.2.2.2.2.2.2.2.2.2.2.2.2)))) := by
  intro k
  induction k using Nat.strongRecOn with
  | ind k ih =>
  intro fc fm L cb cp tp ct cnu cnm mp mb mt mnu wr gv mwd gs hs vs ln lw la lb hk hfc hfm hR hW hCL hML
  obtain ⟨fc, rfl⟩ : ∃ m, fc = m + 1 + 1 := ⟨fc - 2, by omega⟩
  obtain ⟨fm, rfl⟩ : ∃ m, fm = m + 1 := ⟨fm - 1, by omega⟩
  have h40 := hW.1
  have hz := gd7 hT.2.1
  have n1000 : ¬ (1000 : Int32) ≤ nI L.1 := fun e => absurd (show nI L.1 < 1000 from nI_lt (b := 1000) (by omega) (by omega)) (Int32.not_lt.mpr e)
  have h0 := hR
  obtain ⟨q, r, e1, e2, e3, e4, tk⟩ := hR
  have z0 := t_zero tk
  by_cases x : ct = 0
  · show ok (fX7_readFrom_11 (nI H) (nI G) signs words hn gn (itr (fun kk => fX7_readFrom_11 (nI H) (nI G) signs words hn gn kk) zc (fc + 1)) (nI L.1) cb cp tp (nI n) ct cnu 0 cnm gs hs vs (nI L.1)) _
    unfold fX7_readFrom_11 fX7_readFrom_43 fX5_isAtEnd
    rw [if_neg n1000, if_pos rfl, if_pos x]
    simp only [Option.bind_some]
    refine ok_f (by decide : ¬ (1 : Int32) = 0) (ok_some ⟨rfl, ?_⟩)
    show ok (fX9_winter_16 tape te mhn mgn (itr (fun kk => fX9_winter_16 tape te mhn mgn kk) zm fm) th ta (nI n) mp mb mt mnu wr gv mwd ln lw la lb) _
    unfold fX9_winter_16
    rw [if_pos (z0.mp x)]
    refine ok_bind (ok_mono (m_laysL (f := 5) (t := 0) (by omega) (by omega) (by omega) h40 hML) (fun y e => ok_some ⟨rfl, rfl, rfl, Or.inl ⟨rfl, L, hW, hCL, e.1, ⟨fun k h1 h2 => e.2.1 k (by omega), fun j h1 h2 => e.2.2 j (by omega)⟩⟩⟩))
  · have x' : ¬ mt = 0 := fun e => x (z0.mpr e)
    have A0 : ok (itr (fun kk => fX7_readFrom_11 (nI H) (nI G) signs words hn gn kk) zc (fc + 1 + 1) (nI L.1) cb cp tp (nI n) ct cnu 0 cnm gs hs vs (nI L.1)) = ok (Option.bind (fX7_readLine (nI n) (nI H) (nI G) signs words hn gn (nI L.1) cb cp tp ct cnu 0 cnm gs hs vs) fun y4 => Option.bind (fX5_expect (nI n) signs words y4.2.1 y4.2.2.1 y4.2.2.2.1 y4.2.2.2.2.1 y4.2.2.2.2.2.1 y4.2.2.2.2.2.2.1 y4.2.2.2.2.2.2.2.1 59) fun y5 => itr (fun kk => fX7_readFrom_11 (nI H) (nI G) signs words hn gn kk) zc (fc + 1) y4.1 y5.1 y5.2.1 y5.2.2.1 (nI n) y5.2.2.2.1 y5.2.2.2.2.1 y5.2.2.2.2.2.1 y5.2.2.2.2.2.2 y4.2.2.2.2.2.2.2.2.1 y4.2.2.2.2.2.2.2.2.2.1 y4.2.2.2.2.2.2.2.2.2.2 (nI (L.1 + 1))) := by
      show ok (fX7_readFrom_11 (nI H) (nI G) signs words hn gn (itr (fun kk => fX7_readFrom_11 (nI H) (nI G) signs words hn gn kk) zc (fc + 1)) (nI L.1) cb cp tp (nI n) ct cnu 0 cnm gs hs vs (nI L.1)) = _
      rw [fX7_readFrom_11, fX5_isAtEnd, if_neg n1000, if_pos rfl, if_neg x]
      simp only [Option.bind_some]
      rw [if_pos trivial, nI_1]
    have B0 : ok (itr (fun kk => fX9_winter_16 tape te mhn mgn kk) zm (fm + 1) th ta (nI n) mp mb mt mnu wr gv mwd ln lw la lb) = ok (Option.bind (fX9_readsLine (nI n) tape te mhn mgn mp mb mt mnu wr gv mwd ln lw la lb) fun y3 => if y3.1 = 0 then some (y3.2.2.2.2.2.1, th, ta, nI n, y3.2.1, y3.2.2.1, y3.2.2.2.1, y3.2.2.2.2.1, y3.2.2.2.2.2.1, y3.2.2.2.2.2.2.1, y3.2.2.2.2.2.2.2.1, y3.2.2.2.2.2.2.2.2.1, y3.2.2.2.2.2.2.2.2.2.1, y3.2.2.2.2.2.2.2.2.2.2.1, y3.2.2.2.2.2.2.2.2.2.2.2) else itr (fun kk => fX9_winter_16 tape te mhn mgn kk) zm fm th ta (nI n) y3.2.1 y3.2.2.1 y3.2.2.2.1 y3.2.2.2.2.1 y3.2.2.2.2.2.1 y3.2.2.2.2.2.2.1 y3.2.2.2.2.2.2.2.1 y3.2.2.2.2.2.2.2.2.1 y3.2.2.2.2.2.2.2.2.2.1 y3.2.2.2.2.2.2.2.2.2.2.1 y3.2.2.2.2.2.2.2.2.2.2.2) := by
      show ok (fX9_winter_16 tape te mhn mgn (itr (fun kk => fX9_winter_16 tape te mhn mgn kk) zm fm) th ta (nI n) mp mb mt mnu wr gv mwd ln lw la lb) = _
      rw [fX9_winter_16, if_neg x']
    rw [A0, B0]
    rcases p_wline (tp := tp) (wr := wr) (gv := gv) hT h0 hz hN hW hCL hML with ⟨L', cb', cp', tp', ct', cn', cm', mp', mb', mt', mn', mw', gv', gs', hs', vs', lw', la', lb', eL, hR', hW', hCL', hML', hF, c1, m1⟩ | ⟨f, hf, c1, m1⟩
    · rw [c1, m1]
      simp only [Option.bind_some]
      unfold fX9_readsLine_183
      rcases p_closes (tp := tp') (wr := wr) hT hR' with ⟨cb2, cp2, ct2, cn2, cm2, mp2, mb2, mt2, mn2, mw2, hR2, c2, m2⟩ | ⟨f, hf, c2, m2⟩
      · rw [c2, m2]
        simp only [Option.bind_some]
        rw [if_neg (show ¬ vp_nar FieldType.boolean 1 = 0 by decide)]
        have h41 := hW'.1
        rw [← eL] at hCL' ⊢
        refine ok_mono (ih (k - 1) (by omega) (fc + 1) fm L' cb2 cp2 cp' ct2 cn2 cm2 mp2 mb2 mt2 mn2 wr gv' mw2 gs' hs' vs' _ lw' la' lb' (by omega) (by omega) (by omega) hR2 hW' hCL' hML') (fun rc e => ⟨e.1, ok_mono e.2 (fun rm e => ⟨e.1, e.2.1, e.2.2.1, ?_⟩)⟩)
        rcases e.2.2.2 with ⟨g1, L2, g2, g3, g4, g5⟩ | ⟨g1, g2⟩
        · exact Or.inl ⟨g1, L2, g2, g3, g4, ⟨fun k h1 h2 => (g5.1 k h1 h2).trans (pk_un (by omega)), fun j h1 h2 => ⟨(g5.2 j h1 h2).1.trans (hF.2 j h2).1, (g5.2 j h1 h2).2.1.trans (hF.2 j h2).2.1, (g5.2 j h1 h2).2.2.trans (hF.2 j h2).2.2⟩⟩⟩
        · exact Or.inr ⟨g1, FrL_tr hF (FrL_tr ⟨fun k e => pk_un e, fun j e => ⟨rfl, rfl, rfl⟩⟩ g2)⟩
      · refine ok_bind (ok_mono c2 (fun y e => ?_))
        rw [e]
        refine ok_mono (c_readF hf) (fun rc g => ⟨g.2, ?_⟩)
        rw [Option.bind_assoc]
        refine ok_bind (ok_mono m2 (fun y2 e2 => ?_))
        simp only [Option.bind_some]
        rw [e2.1, if_pos (show vp_nar FieldType.boolean 0 = 0 by decide)]
        exact ok_some ⟨e2.2.trans g.1.symm, rfl, rfl, Or.inr ⟨by rw [g.1]; exact hf, FrL_tr hF ⟨fun k e => pk_un e, fun j e => ⟨rfl, rfl, rfl⟩⟩⟩⟩
    · refine ok_bind (ok_mono c1 (fun y e => ?_))
      rw [e, c_expectF hf]
      simp only [Option.bind_some]
      refine ok_mono (c_readF hf) (fun rc g => ⟨g.2, ?_⟩)
      refine ok_bind (ok_mono m1 (fun y2 e2 => ok_t e2.1 ?_))
      exact ok_some ⟨e2.2.1.trans g.1.symm, rfl, rfl, Or.inr ⟨by rw [g.1]; exact hf, e2.2.2⟩⟩
end WR
