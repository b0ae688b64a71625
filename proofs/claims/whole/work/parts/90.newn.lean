/-! a new name, both sides -/
theorem nm_sh {z : Nat → Nat} {q : Nat} : ∀ l, nm (fun j => z (q + j)) 0 l = nm z q l
  | 0 => rfl
  | l + 1 => by
    show (if l < 8 then nm (fun j => z (q + j)) 0 l * 256 + z (q + (0 + l)) else nm (fun j => z (q + j)) 0 l) = (if l < 8 then nm z q l * 256 + z (q + l) else nm z q l)
    rw [nm_sh l, Nat.zero_add]
theorem wd_sh {z : Nat → Nat} {q : Nat} : ∀ l, wd_ (fun j => z (q + j)) 0 l = wd_ z q l
  | 0 => rfl
  | l + 1 => by
    show (if l < 8 then wd_ (fun j => z (q + j)) 0 l * 27 + z (q + (0 + l)) - 96 else wd_ (fun j => z (q + j)) 0 l) = (if l < 8 then wd_ z q l * 27 + z (q + l) - 96 else wd_ z q l)
    rw [wd_sh l, Nat.zero_add]
section NN
variable {z : Nat → Nat} {n : Nat} {signs tape : Nat → Int32} {words : Nat → Int64}
def gN (m : Nat × (Nat → Nat)) : Prop := 1 ≤ m.1 ∧ m.1 ≤ 8 ∧ ∀ j, j < m.1 → isLt (m.2 j)
theorem c_expT {len b p tp tk nu f : Int32} {nm0 : Int64} {y : Int32 × Int32 × Int32 × Int32 × Int32 × Int64} (h : fX5_next len signs words b p tp tk nu nm0 = some y) : ok (fX5_expectName len signs words b p tp tk nu f nm0) (fun _ => True) := by
  have h28 : ∀ g, ok (fX5_expectName_28 len signs words b p tp tk nu g nm0 nm0) (fun _ => True) := fun g => by
    unfold fX5_expectName_28
    refine ok_if (fun _ => ?_) (fun _ => ok_some trivial)
    rw [h]
    exact ok_some trivial
  unfold fX5_expectName
  refine ok_if (fun _ => h28 _) (fun _ => ok_bind (ok_mono c_facT (fun y _ => ok_if (fun _ => ok_bind ?_) (fun _ => h28 _))))
  unfold fX5_refuse
  exact ok_if (fun _ => ok_some (h28 _)) (fun _ => ok_some (h28 _))
theorem p_new {NH NG : Nms} {H G : Nat} {hn gn mhn mgn : Nat → Int64} {te : Nat → Int32} {cb cp tp ct cnu mp mb mt mnu wr : Int32} {cnm mwd fr : Int64} (hT : TpR z n signs tape words) (h : RdR z n cb cp ct cnu cnm mp mb mt mnu mwd) (hH : H ≤ 5) (hG : G ≤ 5) (h1 : WN NH H) (h2 : CN_ NH H hn) (h3 : MN_ NH H 1 mhn) (h4 : te 4 = nI H) (g1 : WN NG G) (g2 : CN_ NG G gn) (g3 : MN_ NG G 1 mgn) (g4 : te 5 = nI G) :
    (∃ nn, gN nn ∧ ∃ (cb' cp' ct' cn' : Int32) (cm' : Int64) (mp' mb' mt' mn' : Int32) (mw' : Int64), RdR z n cb' cp' ct' cn' cm' mp' mb' mt' mn' mw' ∧ fX6_readNewName (nI H) (nI G) (nI n) signs hn gn words cb cp tp ct cnu 0 cnm = some (lN (nm nn.2 0 nn.1), cb', cp', cp, ct', cn', 0, cm') ∧ fX9_needsNew (nI n) tape te mhn mgn mp mb mt mnu wr mwd fr = some (1, mp', mb', mt', mn', wr, mw', lN (wd_ nn.2 0 nn.1))) ∨
    (∃ f : Int32, ¬ f = 0 ∧ ok (fX6_readNewName (nI H) (nI G) (nI n) signs hn gn words cb cp tp ct cnu 0 cnm) (fun r => r.2.2.2.2.2.2.1 = f) ∧ ok (fX9_needsNew (nI n) tape te mhn mgn mp mb mt mnu wr mwd fr) (fun r => r.1 = 0 ∧ r.2.2.2.2.2.1 = f)) := by
  have h0 := h
  obtain ⟨q, r, e1, e2, e3, e4, tk⟩ := h
  obtain ⟨a, ha, ea⟩ := tok_val tk
  have hq : q ≤ 1000 := by have := tk.1; have := hT.1; omega
  have kp := t_kept tk
  have ex := c_expN (n := n) (signs := signs) (words := words) (cb := cb) (tp := tp) (cnu := cnu) (cnm := cnm) ha ea e2 hq
  by_cases x : isNm ct
  · obtain ⟨cb', cp', ct', cn', cm', mp', mb', mt', mn', mw', hR, hc, hmm⟩ := p_next2 (tp := tp) hT h0
    obtain ⟨hqr, h8, hl, en, ew, ek⟩ := kp.1 x
    have e := ok_eq.mp (ex.1 x _ hc)
    obtain ⟨v, ev, hv⟩ := c_index (N := NH) (q := q) (l := r - q) (z := z) hH h1 h2 hl
    obtain ⟨v', ev', hv'⟩ := m_holeNamed (N := NH) (q := q) (l := r - q) (z := z) (te := te) (t := 1) (by omega) hH h4 h1 h3 (by omega) hl
    have evv : v' = v := IxP_uniq hv' hv
    obtain ⟨u, eu, hu⟩ := c_index (N := NG) (q := q) (l := r - q) (z := z) hG g1 g2 hl
    obtain ⟨u', eu', hu'⟩ := m_guestNamed (N := NG) (q := q) (l := r - q) (z := z) (te := te) (t := 1) (by omega) hG g4 g1 g3 (by omega) hl
    have euu : u' = u := IxP_uniq hu' hu
    rw [evv] at ev'
    rw [euu] at eu'
    have ev' : fX9_holeNamed (lN (wd_ z q (r - q))) te mhn 1 = some v := ev'
    have eu' : fX9_guestNamed (lN (wd_ z q (r - q))) te mgn 1 = some u := eu'
    rw [← en] at ev eu
    rw [← ew] at ev' eu'
    have fl := flt hq (c := 3) (by omega) (by omega)
    have c37 : fX6_readNewName_37 (nI H) (nI G) (nI n) signs hn gn words cb' cp' cp ct' cn' 0 cm' cnm = some (cnm, cb', cp', cp, ct', cn', nI (3 + 16 * q), cm') := by
      unfold fX6_readNewName_37 fX5_refuseTaken
      rw [if_pos rfl, e2, Option.bind_some, ← fl.1]; rfl
    have m29 : ok (fX9_needsNew_29 (nI n) tape te mhn mgn mp mb mt mnu wr mwd fr) (fun r => r.1 = 0 ∧ r.2.2.2.2.2.1 = nI (3 + 16 * q)) := by
      unfold fX9_needsNew_29 fX9_fails
      exact ok_some ⟨show vp_nar FieldType.boolean 0 = 0 by decide, by rw [e4, ← fl.1]; rfl⟩
    rcases hv with ⟨i, hi, ei, _, _⟩ | ⟨ei, _⟩
    · refine Or.inr ⟨nI (3 + 16 * q), fl.2, ?_, ?_⟩
      · have d : ¬ v = -1 := fun q => absurd (show (0 : Int32) ≤ v by rw [ei]; exact nI_le (a := 0) (by omega) (by omega)) (by rw [q]; decide)
        unfold fX6_readNewName
        rw [e, Option.bind_some]
        dsimp only
        rw [ev, Option.bind_some, if_neg d, c37]
        exact ok_some rfl
      · unfold fX9_needsNew
        rw [ek, Option.bind_some, if_pos rfl, ev', Option.bind_some, if_pos (show (0 : Int32) ≤ v by rw [ei]; exact nI_le (a := 0) (by omega) (by omega))]
        exact m29
    · rcases hu with ⟨i, hi, ei2, _, _⟩ | ⟨ei2, _⟩
      · refine Or.inr ⟨nI (3 + 16 * q), fl.2, ?_, ?_⟩
        · have d : ¬ u = -1 := fun q => absurd (show (0 : Int32) ≤ u by rw [ei2]; exact nI_le (a := 0) (by omega) (by omega)) (by rw [q]; decide)
          unfold fX6_readNewName
          rw [e, Option.bind_some]
          dsimp only
          rw [ev, Option.bind_some, if_pos ei, eu, Option.bind_some, if_neg d, c37]
          exact ok_some rfl
        · unfold fX9_needsNew
          rw [ek, Option.bind_some, if_pos rfl, ev', Option.bind_some, if_neg (by rw [ei]; decide), eu', Option.bind_some, if_neg (show ¬ u < 0 by rw [ei2]; exact nI_nlt (b := 0) (by omega) (by omega))]
          exact m29
      · refine Or.inl ⟨(r - q, fun j => z (q + j)), ⟨by show 1 ≤ r - q; omega, by show r - q ≤ 8; omega, hl⟩, cb', cp', ct', cn', cm', mp', mb', mt', mn', mw', hR, ?_, ?_⟩
        · unfold fX6_readNewName
          rw [e, Option.bind_some]
          dsimp only
          rw [ev, Option.bind_some, if_pos ei, eu, Option.bind_some, if_pos ei2, nm_sh, en]
        · unfold fX9_needsNew
          rw [ek, Option.bind_some, if_pos rfl, ev', Option.bind_some, if_neg (by rw [ei]; decide), eu', Option.bind_some, if_pos (show u < 0 by rw [ei2]; decide), hmm, Option.bind_some]
          dsimp only
          rw [wd_sh, ew]
  · have fl := flt hq (c := 1) (by omega) (by omega)
    refine Or.inr ⟨nI (1 + 16 * q), fl.2, ?_, ?_⟩
    · unfold fX6_readNewName
      refine ok_bind (ok_mono (ex.2 x) (fun y e => ?_))
      rw [e]
      have e37 : ∀ v2, fX6_readNewName_37 (nI H) (nI G) (nI n) signs hn gn words cb cp tp ct cnu (nI (1 + 16 * q)) cnm v2 = some (v2, cb, cp, tp, ct, cnu, nI (1 + 16 * q), cnm) := fun v2 => by
        unfold fX6_readNewName_37
        rw [c_refTF fl.2]; rfl
      refine ok_bind (ok_mono (c_indexT hH) (fun y2 _ => ok_if (fun _ => ok_bind (ok_mono (c_indexT hG) (fun y3 _ => ok_if (fun _ => ok_some rfl) (fun _ => ?_)))) (fun _ => ?_)))
      · rw [e37]; exact ok_some rfl
      · rw [e37]; exact ok_some rfl
    · unfold fX9_needsNew fX9_fails
      rw [kp.2 x, Option.bind_some, if_neg (by decide)]
      exact ok_some ⟨show vp_nar FieldType.boolean 0 = 0 by decide, by rw [e4, ← fl.1]; rfl⟩
def adN (N : Nms) (m : Nat) (nn : Nat × (Nat → Nat)) : Nms := fun k => if k = m then nn else N k
theorem adN_W {N : Nms} {m : Nat} {nn : Nat × (Nat → Nat)} (h : WN N m) (hn : gN nn) : WN (adN N m nn) (m + 1) := by
  intro k hk
  show 1 ≤ (if k = m then nn else N k).1 ∧ (if k = m then nn else N k).1 ≤ 8 ∧ ∀ j, j < (if k = m then nn else N k).1 → isLt ((if k = m then nn else N k).2 j)
  by_cases e : k = m
  · rw [if_pos e]; exact hn
  · rw [if_neg e]; exact h k (by omega)
theorem adN_C {N : Nms} {m : Nat} {nn : Nat × (Nat → Nat)} {a : Nat → Int64} (h : CN_ N m a) : CN_ (adN N m nn) (m + 1) (vp_updL a m (lN (nm nn.2 0 nn.1))) := by
  intro k hk
  show _ = lN (nm (if k = m then nn else N k).2 0 (if k = m then nn else N k).1)
  by_cases e : k = m
  · rw [if_pos e, e, pk_uLs]
  · rw [if_neg e, pk_uLn e]; exact h k (by omega)
theorem adN_M {N : Nms} {m : Nat} {nn : Nat × (Nat → Nat)} {a : Nat → Int64} (h : MN_ N m 1 a) : MN_ (adN N m nn) (m + 1) 1 (vp_updL a (5 + m) (lN (wd_ nn.2 0 nn.1))) := by
  intro k hk
  show _ = lN (wd_ (if k = m then nn else N k).2 0 (if k = m then nn else N k).1)
  rw [show 5 * 1 + k = 5 + k by omega]
  by_cases e : k = m
  · rw [if_pos e, e, pk_uLs]
  · rw [if_neg e, pk_uLn (by omega)]
    have := h k (by omega)
    rw [show 5 * 1 + k = 5 + k by omega] at this
    exact this
end NN
