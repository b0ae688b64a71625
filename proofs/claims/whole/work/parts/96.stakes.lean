/-! the sentence of the law, both sides -/
section ST
variable {z : Nat → Nat} {n : Nat} {signs tape : Nat → Int32} {words : Nat → Int64}
theorem LwGood_pos {code codes : Nat → Int32} {le co : Int32} (h : LwGood code codes le co) : (∃ c, 0 < c ∧ c ≤ 1000 ∧ co = nI (1000 + c)) ∧ (∃ c, 0 < c ∧ c ≤ 1000 ∧ le = nI c) := by
  obtain ⟨C, E, s, x, h1, h2, h3, h4, h5, h6, h7, h8, h9, h10⟩ := h
  refine ⟨⟨C.1, ?_, h5, h4⟩, ⟨E.1, ?_, h9, h7⟩⟩
  · rcases Nat.eq_zero_or_pos C.1 with e | e
    · have : arun C = ([z5 0], none) := by
        unfold arun
        rw [e]; rfl
      rw [this] at h2
      exact absurd (congrArg Prod.snd h2) (by simp)
    · exact e
  · rcases Nat.eq_zero_or_pos E.1 with e | e
    · have : crun (0, 0, 0, 0) E = [] := by
        unfold crun
        rw [e]; rfl
      rw [h10] at this
      exact absurd this (by simp)
    · exact e
theorem LwGood_law {code codes : Nat → Int32} {le co : Int32} (h : LwGood code codes le co) : ∃ al, LawC le code al ∧ ∀ (lf lt cds : Nat → Int32), lf 0 = 0 → lt 0 = co - 1000 → (∀ j, j < 1000 → cds j = codes (1000 + j)) → LawM lf lt cds al := by
  obtain ⟨⟨c0, c1, c2, c3⟩, e0, e1, e2, e3⟩ := LwGood_pos h
  obtain ⟨C, E, s, x, h1, h2, h3, h4, h5, h6, h7, h8, h9, h10⟩ := h
  have ec : c0 = C.1 := by
    have := (nI_eq (by omega) (by omega)).mp (c3.symm.trans h4)
    omega
  have ee : e0 = E.1 := (nI_eq (by omega) (by omega)).mp (e3.symm.trans h7)
  subst ec
  subst ee
  refine ⟨fun l i s' d => !decide (r1 s x (l, i, s', d) = 0), ?_, ?_⟩
  · intro wt st l i s' d
    rw [h7]
    have c := c_allows (m := E.1) (f := E.2) (code := code) (st := st) (wt := wt) (l := l) (i := i) (s := s') (d := d) e1 h9 (fun k hk => ⟨by have := h6 k hk; rw [Nat.zero_add] at this; exact this, h8 k hk⟩)
    have hr : crn (l, i, s', d) E.2 E.1 = [r1 s x (l, i, s', d)] := h10 (l, i, s', d)
    rw [hr] at c
    exact c
  · intro lf lt cds hlf hlt hcd
    have hl : lt 0 = nI C.1 := by
      rw [hlt, h4, show (1000 : Int32) = nI 1000 from rfl, nsub (by omega), show 1000 + C.1 - 1000 = C.1 by omega]
    refine Or.inr ⟨?_, fun vo k1 k2 k3 k4 k5 k6 k7 k8 k9 => ?_⟩
    · rw [hl, hlf]
      exact fun e => by have := (nI_eq (b := 0) (by omega) (by omega)).mp e; omega
    · refine ok_mono (m_worked (C := C) (s := s) (x := x) hlf hl h5 (fun k hk => ?_) h1 h2) (fun r e => ?_)
      · rw [Nat.zero_add, hcd k (by omega)]
        exact h3 k hk
      · rw [e]
        constructor
        · intro q
          show (!decide (r1 s x (vo 1, vo 2, vo 3, vo 4) = 0)) = false
          rw [decide_eq_true q]; rfl
        · intro q
          have q : (!decide (r1 s x (vo 1, vo 2, vo 3, vo 4) = 0)) = false := q
          have q : decide (r1 s x (vo 1, vo 2, vo 3, vo 4) = 0) = true := by
            cases hh : decide (r1 s x (vo 1, vo 2, vo 3, vo 4) = 0) with
            | true => rfl
            | false => rw [hh] at q; exact absurd q (by decide)
          exact of_decide_eq_true q
/-- no law told: the common one -/
theorem LawC_0 {code : Nat → Int32} : LawC 0 code (fun l i _ _ => decide (i * 4 < l)) := by
  intro wt st l i s d
  unfold fX1_allows
  rw [if_pos rfl]
  refine ok_if (fun x => ok_some ?_) (fun x => ok_some ?_)
  · show (0 : Int32) = nI (b2 (decide (i * 4 < l)))
    rw [decide_eq_false (Int32.not_lt.mpr x)]; rfl
  · show (1 : Int32) = nI (b2 (decide (i * 4 < l)))
    rw [decide_eq_true (Int32.not_le.mp x)]; rfl
theorem LawM_0 {lf lt cds : Nat → Int32} (h : lt 0 = lf 0) : LawM lf lt cds (fun l i _ _ => decide (i * 4 < l)) := Or.inl ⟨h, fun _ _ _ _ => rfl⟩
/-- a law is told twice -/
theorem p_takes2 {cb cp tp ct cnu mp mb mt mnu wr co wt ne len : Int32} {cnm mwd : Int64} {code st lf lt cds op cm : Nat → Int32} (hT : TpR z n signs tape words) (h : RdR z n cb cp ct cnu cnm mp mb mt mnu mwd) (hL : LwGood code cds len co) (h1 : lf 1 = nI 1000) (h2 : lt 1 = co) :
    ∃ f : Int32, ¬ f = 0 ∧ ok (fX6_readTakes (nI n) signs words wt ne len cb cp tp ct cnu 0 cnm code st) (fun r => r.2.2.2.2.2.2.2.2.1 = f) ∧ ok (fX9_readsTakes (nI n) tape mp mb mt mnu wr co mwd lf lt cds op cm) (fun r => r.1 = 0 ∧ r.2.2.2.2.2.1 = f ∧ r.2.2.2.2.2.2.2.2.1 = lf ∧ r.2.2.2.2.2.2.2.2.2.1 = lt ∧ r.2.2.2.2.2.2.2.2.2.2.1 = cds) := by
  obtain ⟨⟨c0, c1, c2, c3⟩, e0, e1', e2', e3'⟩ := LwGood_pos hL
  obtain ⟨q, r, e1, e2, e3, e4, tk⟩ := h
  have hq : q ≤ 1000 := by have := tk.1; have := hT.1; omega
  have fl := flt hq (c := 3) (by omega) (by omega)
  refine ⟨nI (3 + 16 * q), fl.2, ?_, ?_⟩
  · have hr : fX5_refuse cp 0 3 = some (nI (3 + 16 * q)) := by
      unfold fX5_refuse
      rw [if_pos rfl, e2, ← fl.1]; rfl
    unfold fX6_readTakes
    rw [e3', if_neg (show ¬ nI e0 ≤ 0 from fun e => absurd (show (0 : Int32) < nI e0 from nI_lt (a := 0) (by omega) (by omega)) (Int32.not_lt.mpr e)), hr]
    exact ok_some rfl
  · unfold fX9_readsTakes fX9_fails
    rw [h1, h2, c3, if_neg (show ¬ nI (1000 + c0) ≤ nI 1000 from fun e => absurd (nI_lt (a := 1000) (b := 1000 + c0) (by omega) (by omega)) (Int32.not_lt.mpr e))]
    exact ok_some ⟨show vp_nar FieldType.boolean 0 = 0 by decide, by rw [e4, ← fl.1]; rfl, rfl, rfl, rfl⟩
def TkEnd (z : Nat → Nat) (n : Nat) (signs : Nat → Int32) (words : Nat → Int64) (wr : Int32) (lf lt cds : Nat → Int32) (rc : RC1) (rm : Int32 × Int32 × Int32 × Int32 × Int32 × Int32 × Int32 × Int64 × (Nat → Int32) × (Nat → Int32) × (Nat → Int32) × (Nat → Int32) × (Nat → Int32)) : Prop := (∀ j, j < 1000 → rm.2.2.2.2.2.2.2.2.2.2.1 j = cds j) ∧ rm.2.2.2.2.2.2.2.2.1 = upd lf 1 (nI 1000) ∧
  ((rc.2.2.2.2.2.2.2.2.1 = 0 ∧ rm.1 = 1 ∧ rm.2.2.2.2.2.1 = wr ∧ rm.2.2.2.2.2.2.2.2.2.1 = upd lt 1 rm.2.2.2.2.2.2.1 ∧ LwGood rc.2.2.2.2.2.2.2.2.2.2.1 rm.2.2.2.2.2.2.2.2.2.2.1 rc.2.2.1 rm.2.2.2.2.2.2.1 ∧ rc.2.2.2.2.2.2.1 = 59 ∧ ∃ (cb' cp' ct' cn' : Int32) (cm' : Int64), fX5_next (nI n) signs words rc.2.2.2.1 rc.2.2.2.2.1 rc.2.2.2.2.2.1 rc.2.2.2.2.2.2.1 rc.2.2.2.2.2.2.2.1 rc.2.2.2.2.2.2.2.2.2.1 = some (cb', cp', rc.2.2.2.2.1, ct', cn', cm') ∧ RdR z n cb' cp' ct' cn' cm' rm.2.1 rm.2.2.1 rm.2.2.2.1 rm.2.2.2.2.1 rm.2.2.2.2.2.2.2.1) ∨
   (∃ f : Int32, ¬ f = 0 ∧ rc.2.2.2.2.2.2.2.2.1 = f ∧ rm.1 = 0 ∧ rm.2.2.2.2.2.1 = f ∧ rm.2.2.2.2.2.2.2.2.2.1 = lt))
/-- a law is told for the first time -/
theorem p_takes1 {cb cp tp ct cnu mp mb mt mnu wr co wt ne len : Int32} {cnm mwd : Int64} {code st lf lt cds op cm : Nat → Int32} (hT : TpR z n signs tape words) (h : RdR z n cb cp ct cnu cnm mp mb mt mnu mwd) (h0 : len = nI 0) (h1 : lf 1 = nI 1000) (h2 : lt 1 = nI 1000) (h3 : co = nI 1000) :
    ok (fX6_readTakes (nI n) signs words wt ne len cb cp tp ct cnu 0 cnm code st) (fun rc => ok (fX9_readsTakes (nI n) tape mp mb mt mnu wr co mwd lf lt cds op cm) (fun rm => TkEnd z n signs words wr lf lt cds rc rm)) := by
  have hn := hT.1
  obtain ⟨cb1, cp1, ct1, cn1, cm1, mp1, mb1, mt1, mn1, mw1, hR1, hc1, hm1⟩ := p_next2 (tp := tp) hT h
  obtain ⟨q, r, e1, e2, e3, e4, tk⟩ := hR1
  have hW : WfA ([z5 0], none) := ⟨⟨rfl, LvO_z 0⟩, fun e => absurd rfl e⟩
  have hC : LwC ([z5 0], none) (0, fun _ => 0) q (nI 0) (nI 0) (nI 0) code st := ⟨rfl, rfl, rfl, fun k hk => absurd hk (Nat.not_lt_zero _), fun k hk => absurd hk (Nat.not_lt_zero _), trivial, Nat.zero_le _, fun e => rfl⟩
  have hM : LwM ([z5 0], none) (0, fun _ => 0) q (nI 0) (nI 1000) cds op (upd cm 0 (vp_nar .boolean 0)) := ⟨rfl, fun k hk => absurd hk (Nat.not_lt_zero _), rfl, rfl, fun k hk => absurd hk (Nat.not_lt_zero _), ⟨fun e => absurd e (by decide), (@pk_us cm 0 (vp_nar .boolean 0)).trans (by decide), trivial⟩, Nat.zero_le _⟩
  have hqn := tk.1
  have P := p_law (zc := fun _ _ _ _ _ _ _ _ _ _ _ _ _ _ => none) (zm := fun _ _ _ _ _ _ _ _ _ _ _ _ => none) hT n FU FU q r 0 ([z5 0], none) (0, fun _ => 0) (0, fun _ => 0) cp ct1 cn1 cm1 mt1 mn1 wr mw1 (nI 0) (nI 0) (nI 0) code st (nI 0) (nI 1000) cds op (upd cm 0 (vp_nar .boolean 0)) 1 (by omega) (by unfold FU; omega) (by unfold FU; omega) (Nat.zero_le _) tk hW (by decide) (fun e => absurd rfl e) hC hM rfl
  unfold fX6_readTakes fX1_readFrom
  rw [h0, if_pos (show nI 0 ≤ 0 by decide), hc1, Option.bind_some, e1, e2]
  refine ok_bind (ok_mono P (fun rc e => ok_some ?_))
  unfold fX9_readsTakes fX9_reads
  rw [h1, h2, h3, if_pos (show nI 1000 ≤ nI 1000 from Int32.le_refl _), hm1, Option.bind_some, e3, e4]
  refine ok_bind (ok_mono e (fun rm g => ?_))
  obtain ⟨g1, g2⟩ := g
  rcases g2 with ⟨a1, a2, a3, a4, a5, a6⟩ | ⟨f, a1, a2, a3, a4⟩
  · rw [if_neg (by rw [a2]; decide)]
    exact ok_some ⟨g1, rfl, Or.inl ⟨a1, rfl, a3, rfl, a4, a5, a6⟩⟩
  · rw [if_pos a3]
    exact ok_some ⟨g1, rfl, Or.inr ⟨f, a1, a2, rfl, a4, rfl⟩⟩
end ST
