/-! the call winter, both sides -/
section WC
variable {z : Nat → Nat} {n : Nat} {signs tape : Nat → Int32} {words : Nat → Int64}
theorem p_begin {cp tp ct cnu mb mt mnu : Int32} {cnm mwd : Int64} (hT : TpR z n signs tape words) :
    ∃ (cb' cp' ct' cn' : Int32) (cm' : Int64) (mp' mb' mt' mn' : Int32) (mw' : Int64), RdR z n cb' cp' ct' cn' cm' mp' mb' mt' mn' mw' ∧ fX5_next (nI n) signs words 0 cp tp ct cnu cnm = some (cb', cp', cp, ct', cn', cm') ∧ fX9_nextToken (nI n) tape 0 mb mt mnu mwd = some (mp', mb', mt', mn', mw') := by
  obtain ⟨q', r', ct', cn', cm', mt', mn', mw', _, t', c', m'⟩ := p_next (p := 0) cp tp ct cnu cnm mb mt mnu mwd hT.1 hT.2.1 hT.2.2.1 hT.2.2.2.1 hT.2.2.2.2 (Nat.zero_le _)
  exact ⟨nI r', nI q', ct', cn', cm', nI r', nI q', mt', mn', mw', ⟨q', r', rfl, rfl, rfl, rfl, t'⟩, c', m'⟩
theorem p_winter {NH NG : Nms} {H G : Nat} {hn gn mhn mgn : Nat → Int64} {te gs hs vs ln lw la lb : Nat → Int32} {cb cp tp ct cnu fa sl th sz mp mb mt mnu wr gv : Int32} {cnm mwd : Int64} (hT : TpR z n signs tape words) (hN : NmR NH NG H G hn gn mhn mgn te) :
    ok (fX8_winter (nI H) (nI G) signs words hn gn cb cp tp (nI n) ct cnu fa sl cnm gs hs vs) (fun rc => rc.2.2.2.2.2.1 = 0 ∧ ok (fX9_winter tape te mhn mgn th (nI n) sz mp mb mt mnu wr gv mwd ln lw la lb) (fun rm => rm.1 = rc.1 ∧ rm.2.1 = 0 ∧ rm.2.2.1 = 0 ∧
      ((rc.1 = 0 ∧ rc.2.1 = true ∧ ∃ L', WLh H G L' ∧ CL L' rc.2.2.2.2.2.2.2.2.2.1 rc.2.2.2.2.2.2.2.2.2.2.2.1 rc.2.2.2.2.2.2.2.2.2.2.2.2.1 rc.2.2.2.2.2.2.2.2.2.2.2.2.2 ∧ ML L' 0 rm.2.2.2.2.2.2.2.2.2.2.2.1 rm.2.2.2.2.2.2.2.2.2.2.2.2.1 rm.2.2.2.2.2.2.2.2.2.2.2.2.2.1 rm.2.2.2.2.2.2.2.2.2.2.2.2.2.2 ∧ FrM ln lw la lb rm.2.2.2.2.2.2.2.2.2.2.2.1 rm.2.2.2.2.2.2.2.2.2.2.2.2.1 rm.2.2.2.2.2.2.2.2.2.2.2.2.2.1 rm.2.2.2.2.2.2.2.2.2.2.2.2.2.2) ∨
       (¬ rc.1 = 0 ∧ rc.2.1 = false ∧ FrL ln lw la lb rm.2.2.2.2.2.2.2.2.2.2.2.1 rm.2.2.2.2.2.2.2.2.2.2.2.2.1 rm.2.2.2.2.2.2.2.2.2.2.2.2.2.1 rm.2.2.2.2.2.2.2.2.2.2.2.2.2.2)))) := by
  obtain ⟨cb', cp', ct', cn', cm', mp', mb', mt', mn', mw', hR, hc, hm⟩ := p_begin (cp := cp) (tp := tp) (ct := ct) (cnu := cnu) (mb := mb) (mt := mt) (mnu := mnu) (cnm := cnm) (mwd := mwd) hT
  unfold fX8_winter fX7_readFrom fX5_begin
  rw [hc]
  simp only [Option.bind_some]
  have hL0 : WLh H G (0, fun _ => 0, fun _ => 0, fun _ => 0) := ⟨Nat.zero_le _, fun i hi => absurd hi (Nat.not_lt_zero _)⟩
  refine ok_bind (ok_mono (p_wloop (th := 0) (ta := 0) (zm := fun _ _ _ _ _ _ _ _ _ _ _ _ _ _ => none) hT hN 40 FU FU (0, fun _ => 0, fun _ => 0, fun _ => 0) cb' cp' cp ct' cn' cm' mp' mb' mt' mn' wr gv mw' gs hs vs (upd ln 5 0) lw la lb (by omega) (by unfold FU; omega) (by unfold FU; omega) hR hL0 ⟨rfl, fun i hi => absurd hi (Nat.not_lt_zero _)⟩ ⟨pk_us, fun i hi => absurd hi (Nat.not_lt_zero _)⟩) (fun rc e => ?_))
  have em : fX9_winter tape te mhn mgn th (nI n) sz mp mb mt mnu wr gv mwd ln lw la lb = itr (fun kk => fX9_winter_16 tape te mhn mgn kk) (fun _ _ _ _ _ _ _ _ _ _ _ _ _ _ => none) FU 0 0 (nI n) mp' mb' mt' mn' wr gv mw' (upd ln 5 0) lw la lb := by
    unfold fX9_winter fX9_begins
    rw [hm]
    simp only [Option.bind_some]
  rw [em]
  by_cases x : rc.1 = 0
  · rw [if_pos x]
    refine ok_some ⟨e.1, ok_mono e.2 (fun rm g => ⟨g.1.trans x, g.2.1, g.2.2.1, ?_⟩)⟩
    rcases g.2.2.2 with ⟨_, L', g1, g2, g3, g4⟩ | ⟨g1, _⟩
    · exact Or.inl ⟨rfl, rfl, L', g1, g2, g3, ⟨fun k h1 h2 => (g4.1 k h1 h2).trans (pk_un (by omega)), g4.2⟩⟩
    · exact absurd x g1
  · rw [if_neg x]
    refine ok_some ⟨e.1, ok_mono e.2 (fun rm g => ⟨g.1, g.2.1, g.2.2.1, ?_⟩)⟩
    rcases g.2.2.2 with ⟨g1, _⟩ | ⟨_, g2⟩
    · exact absurd g1 x
    · exact Or.inr ⟨x, rfl, ⟨fun k h1 => (g2.1 k h1).trans (pk_un h1), g2.2⟩⟩
end WC
