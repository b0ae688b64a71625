section RP
variable {z : Nat → Nat} {n : Nat} {signs tape : Nat → Int32} {words : Nat → Int64}
/-- a HOLE's name is read: the same place among the names told, or the same fault -/
theorem p_holeName {N : Nms} {m t : Nat} {names mnames : Nat → Int64} {te : Nat → Int32} {cb cp tp ct cnu mp mb mt mnu wr gv : Int32} {cnm mwd : Int64} (hT : TpR z n signs tape words) (h : RdR z n cb cp ct cnu cnm mp mb mt mnu mwd) (ht : t < 2) (hm : m ≤ 5) (hN : WN N m) (hC : CN_ N m names) (hM : MN_ N m t mnames) (hte : te (4 * t) = nI m) :
    (∃ i, i < m ∧ ∃ (cb' cp' ct' cn' : Int32) (cm' : Int64) (mp' mb' mt' mn' : Int32) (mw' : Int64), RdR z n cb' cp' ct' cn' cm' mp' mb' mt' mn' mw' ∧ fX6_readHoleName (nI m) (nI n) signs names words cb cp tp ct cnu 0 cnm = some (nI i, cb', cp', cp, ct', cn', 0, cm') ∧ fX9_needsHole mb mt mwd te mnames wr gv (nI t) = some (1, wr, nI i) ∧ fX9_nextToken (nI n) tape mp mb mt mnu mwd = some (mp', mb', mt', mn', mw')) ∨
    (∃ f : Int32, ¬ f = 0 ∧ ok (fX6_readHoleName (nI m) (nI n) signs names words cb cp tp ct cnu 0 cnm) (fun r => r.2.2.2.2.2.2.1 = f) ∧ ok (fX9_needsHole mb mt mwd te mnames wr gv (nI t)) (fun r => r.1 = 0 ∧ r.2.1 = f)) := by
  have h0 := h
  obtain ⟨q, r, e1, e2, e3, e4, tk⟩ := h
  obtain ⟨a, ha, ea⟩ := tok_val tk
  have hq : q ≤ 1000 := by have := tk.1; have := hT.1; omega
  have kp := t_kept tk
  have ex := c_expN (n := n) (signs := signs) (words := words) (cb := cb) (tp := tp) (cnu := cnu) (cnm := cnm) ha ea e2 hq
  by_cases x : isNm ct
  · obtain ⟨cb', cp', ct', cn', cm', mp', mb', mt', mn', mw', hR, hc, hmm⟩ := p_next2 (tp := tp) hT h0
    obtain ⟨hqr, h8, hl, en, ew, ek⟩ := kp.1 x
    have e := ok_eq.mp (ex.1 x _ hc)
    obtain ⟨v, ev, hv⟩ := c_index (N := N) (q := q) (l := r - q) (z := z) hm hN hC hl
    obtain ⟨v', ev', hv'⟩ := m_holeNamed (N := N) (q := q) (l := r - q) (z := z) (te := te) ht hm hte hN hM (by omega) hl
    have evv : v' = v := IxP_uniq hv' hv
    rw [evv] at ev'
    rw [← en] at ev
    rw [← ew] at ev'
    rcases hv with ⟨i, hi, ei, _, _⟩ | ⟨ei, _⟩
    · refine Or.inl ⟨i, hi, cb', cp', ct', cn', cm', mp', mb', mt', mn', mw', hR, ?_, ?_, hmm⟩
      · have d : ¬ nI i = -1 := fun e => absurd (show (0 : Int32) ≤ nI i from nI_le (a := 0) (by omega) (by omega)) (by rw [e]; decide)
        have ekn : fX6_known cp 0 (nI i) = some (nI i, 0) := by
          unfold fX6_known
          rw [if_neg d]
        rw [ei] at ev
        unfold fX6_readHoleName
        rw [e]
        simp only [Option.bind_some]
        rw [ev]
        simp only [Option.bind_some]
        rw [ekn]
        simp only [Option.bind_some]
      · rw [ei] at ev'
        unfold fX9_needsHole
        rw [ek]
        simp only [Option.bind_some]
        rw [if_pos trivial, ev']
        simp only [Option.bind_some]
        rw [if_pos (show (0 : Int32) ≤ nI i from nI_le (a := 0) (by omega) (by omega))]
    · have fl := flt hq (c := 2) (by omega) (by omega)
      refine Or.inr ⟨nI (2 + 16 * q), fl.2, ?_, ?_⟩
      · rw [ei] at ev
        have ekn : fX6_known cp 0 (-1) = some (-1, nI (2 + 16 * q)) := by
          unfold fX6_known fX5_refuseTaken
          rw [if_pos rfl, if_pos rfl, e2, ← fl.1]; rfl
        unfold fX6_readHoleName
        rw [e]
        simp only [Option.bind_some]
        rw [ev]
        simp only [Option.bind_some]
        rw [ekn]
        exact ok_some rfl
      · rw [ei] at ev'
        unfold fX9_needsHole fX9_fails
        rw [ek]
        simp only [Option.bind_some]
        rw [if_pos trivial, ev']
        simp only [Option.bind_some]
        rw [if_neg (by decide), if_pos trivial]
        exact ok_some ⟨rfl, by rw [e4, ← fl.1]; rfl⟩
  · have fl := flt hq (c := 1) (by omega) (by omega)
    refine Or.inr ⟨nI (1 + 16 * q), fl.2, ?_, ?_⟩
    · unfold fX6_readHoleName
      refine ok_bind (ok_mono (ex.2 x) (fun y e => ?_))
      rw [e]
      exact ok_bind (ok_mono (c_indexT hm) (fun y2 _ => ok_bind (ok_mono (c_knownF fl.2) (fun y3 e3 => ok_some e3))))
    · unfold fX9_needsHole fX9_fails
      rw [kp.2 x]
      simp only [Option.bind_some]
      rw [if_neg (by decide)]
      exact ok_some ⟨rfl, by rw [e4, ← fl.1]; rfl⟩
/-- a GUEST's name is read: the same place among the names told, or the same fault -/
theorem p_guestName {N : Nms} {m : Nat} {names mnames : Nat → Int64} {te : Nat → Int32} {cb cp tp ct cnu mp mb mt mnu wr gv : Int32} {cnm mwd : Int64} (hT : TpR z n signs tape words) (h : RdR z n cb cp ct cnu cnm mp mb mt mnu mwd) (hm : m ≤ 5) (hN : WN N m) (hC : CN_ N m names) (hM : MN_ N m 0 mnames) (hte : te 1 = nI m) :
    (∃ i, i < m ∧ ∃ (cb' cp' ct' cn' : Int32) (cm' : Int64) (mp' mb' mt' mn' : Int32) (mw' : Int64), RdR z n cb' cp' ct' cn' cm' mp' mb' mt' mn' mw' ∧ fX6_readGuestName (nI m) (nI n) signs names words cb cp tp ct cnu 0 cnm = some (nI i, cb', cp', cp, ct', cn', 0, cm') ∧ fX9_needsGuest mb mt mwd te mnames wr gv = some (1, wr, nI i) ∧ fX9_nextToken (nI n) tape mp mb mt mnu mwd = some (mp', mb', mt', mn', mw')) ∨
    (∃ f : Int32, ¬ f = 0 ∧ ok (fX6_readGuestName (nI m) (nI n) signs names words cb cp tp ct cnu 0 cnm) (fun r => r.2.2.2.2.2.2.1 = f) ∧ ok (fX9_needsGuest mb mt mwd te mnames wr gv) (fun r => r.1 = 0 ∧ r.2.1 = f)) := by
  have h0 := h
  obtain ⟨q, r, e1, e2, e3, e4, tk⟩ := h
  obtain ⟨a, ha, ea⟩ := tok_val tk
  have hq : q ≤ 1000 := by have := tk.1; have := hT.1; omega
  have kp := t_kept tk
  have ex := c_expN (n := n) (signs := signs) (words := words) (cb := cb) (tp := tp) (cnu := cnu) (cnm := cnm) ha ea e2 hq
  by_cases x : isNm ct
  · obtain ⟨cb', cp', ct', cn', cm', mp', mb', mt', mn', mw', hR, hc, hmm⟩ := p_next2 (tp := tp) hT h0
    obtain ⟨hqr, h8, hl, en, ew, ek⟩ := kp.1 x
    have e := ok_eq.mp (ex.1 x _ hc)
    obtain ⟨v, ev, hv⟩ := c_index (N := N) (q := q) (l := r - q) (z := z) hm hN hC hl
    obtain ⟨v', ev', hv'⟩ := m_guestNamed (N := N) (q := q) (l := r - q) (z := z) (te := te) (t := 0) (by omega) hm hte hN hM (by omega) hl
    have evv : v' = v := IxP_uniq hv' hv
    rw [evv] at ev'
    rw [← en] at ev
    rw [← ew] at ev'
    rcases hv with ⟨i, hi, ei, _, _⟩ | ⟨ei, _⟩
    · refine Or.inl ⟨i, hi, cb', cp', ct', cn', cm', mp', mb', mt', mn', mw', hR, ?_, ?_, hmm⟩
      · have d : ¬ nI i = -1 := fun e => absurd (show (0 : Int32) ≤ nI i from nI_le (a := 0) (by omega) (by omega)) (by rw [e]; decide)
        have ekn : fX6_known cp 0 (nI i) = some (nI i, 0) := by
          unfold fX6_known
          rw [if_neg d]
        rw [ei] at ev
        unfold fX6_readGuestName
        rw [e]
        simp only [Option.bind_some]
        rw [ev]
        simp only [Option.bind_some]
        rw [ekn]
        simp only [Option.bind_some]
      · rw [ei] at ev'
        have ev2 : fX9_guestNamed mwd te mnames 0 = some (nI i) := ev'
        unfold fX9_needsGuest
        rw [ek]
        simp only [Option.bind_some]
        rw [if_pos trivial, ev2]
        simp only [Option.bind_some]
        rw [if_pos (show (0 : Int32) ≤ nI i from nI_le (a := 0) (by omega) (by omega))]
    · have fl := flt hq (c := 2) (by omega) (by omega)
      refine Or.inr ⟨nI (2 + 16 * q), fl.2, ?_, ?_⟩
      · rw [ei] at ev
        have ekn : fX6_known cp 0 (-1) = some (-1, nI (2 + 16 * q)) := by
          unfold fX6_known fX5_refuseTaken
          rw [if_pos rfl, if_pos rfl, e2, ← fl.1]; rfl
        unfold fX6_readGuestName
        rw [e]
        simp only [Option.bind_some]
        rw [ev]
        simp only [Option.bind_some]
        rw [ekn]
        exact ok_some rfl
      · rw [ei] at ev'
        have ev2 : fX9_guestNamed mwd te mnames 0 = some (-1) := ev'
        unfold fX9_needsGuest fX9_fails
        rw [ek]
        simp only [Option.bind_some]
        rw [if_pos trivial, ev2]
        simp only [Option.bind_some]
        rw [if_neg (by decide), if_pos trivial]
        exact ok_some ⟨rfl, by rw [e4, ← fl.1]; rfl⟩
  · have fl := flt hq (c := 1) (by omega) (by omega)
    refine Or.inr ⟨nI (1 + 16 * q), fl.2, ?_, ?_⟩
    · unfold fX6_readGuestName
      refine ok_bind (ok_mono (ex.2 x) (fun y e => ?_))
      rw [e]
      exact ok_bind (ok_mono (c_indexT hm) (fun y2 _ => ok_bind (ok_mono (c_knownF fl.2) (fun y3 e3 => ok_some e3))))
    · unfold fX9_needsGuest fX9_fails
      rw [kp.2 x]
      simp only [Option.bind_some]
      rw [if_neg (by decide)]
      exact ok_some ⟨rfl, by rw [e4, ← fl.1]; rfl⟩
end RP
