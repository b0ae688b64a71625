/-! a told terrace's law, said so that a refused terrace leaves it -/
def LawR (lf lt cds : Nat → Int32) (al : Int32 → Int32 → Int32 → Int32 → Bool) : Prop := ∀ lf' lt' cds' : Nat → Int32, lf' 0 = lf 0 → lt' 0 = lt 0 → (∀ j, j < 1000 → cds' j = cds j) → LawM lf' lt' cds' al
theorem m_lays1R {U : Ter} {isS : Bool} {ms len co : Int32} {tl : Bool} {te hf ct bu wl kd gf wr cd lf lt cds code : Nat → Int32} {NH NG : Nms} {hn gn mhn mgn : Nat → Int64} (hM : MU U isS ms te hf ct bu wl kd gf wr cd) (hU : WT U) (hN : NU U NH NG hn gn mhn mgn) (hL : LU tl len code lf lt cds co) : ∃ al, LawC len code al ∧ ok (fX9_lays te hf ct bu wl kd gf wr cd lf lt cds mhn mgn) (fun r => MT (uLaw U al) r.1 r.2.1 r.2.2.1 r.2.2.2.1 r.2.2.2.2.1 r.2.2.2.2.2.1 r.2.2.2.2.2.2.1 r.2.2.2.2.2.2.2.1 r.2.2.2.2.2.2.2.2.1 r.2.2.2.2.2.2.2.2.2.1 r.2.2.2.2.2.2.2.2.2.2.1 r.2.2.2.2.2.2.2.2.2.2.2.1 ∧ MN_ NH (tH U) 0 r.2.2.2.2.2.2.2.2.2.2.2.2.1 ∧ MN_ NG (tG U) 0 r.2.2.2.2.2.2.2.2.2.2.2.2.2 ∧ LawR r.2.2.2.2.2.2.2.2.2.1 r.2.2.2.2.2.2.2.2.2.2.1 r.2.2.2.2.2.2.2.2.2.2.2.1 al) := by
  have law : ∃ al, LawC len code al ∧ ∀ (cds' : Nat → Int32), (∀ j, j < 1000 → cds' j = cds (1000 + j)) → LawR (upd lf 0 (lf 1 - 1000)) (upd lt 0 (lt 1 - 1000)) cds' al := by
    obtain ⟨h1, h2⟩ := hL
    cases tl with
    | true =>
      obtain ⟨h2, h3⟩ : LwGood code cds len co ∧ lt 1 = co := h2
      obtain ⟨al, c, m⟩ := LwGood_law h2
      exact ⟨al, c, fun cds' e lf' lt' c2 g1 g2 e2 => m lf' lt' c2 (by rw [g1, pk_us, h1]; decide) (by rw [g2, pk_us, h3]) (fun j hj => (e2 j hj).trans (e j hj))⟩
    | false =>
      obtain ⟨h2, h3, h4⟩ : len = nI 0 ∧ lt 1 = nI 1000 ∧ co = nI 1000 := h2
      exact ⟨fun l i _ _ => decide (i * 4 < l), by rw [h2]; exact LawC_0, fun cds' e lf' lt' c2 g1 g2 e2 => LawM_0 (by rw [g1, g2, pk_us, pk_us, h1, h3])⟩
  obtain ⟨al, c, m⟩ := law
  obtain ⟨a1, a2, a3, a4, a5, a6, a7, a8, a9, a10, a11, a12, a13⟩ := hM
  have u1 := hU.1
  have u2 := hU.2.1
  have u4 := hU.2.2.2.1
  refine ⟨al, c, ?_⟩
  unfold fX9_lays
  refine ok_bind (ok_mono (m_shifts (n1 := 8) (n := 4) (by omega) (by omega) (by omega)) (fun y1 e1 => ?_))
  refine ok_bind (ok_mono m_shiftsN (fun y2 e2 => ok_bind (ok_mono m_shiftsN (fun y3 e3 => ?_))))
  refine ok_bind (ok_mono (m_shifts (n1 := 10) (n := 5) (by omega) (by omega) (by omega)) (fun y4 e4 => ?_))
  refine ok_bind (ok_mono (m_shifts (n1 := 10) (n := 5) (by omega) (by omega) (by omega)) (fun y5 e5 => ?_))
  refine ok_bind (ok_mono (m_shifts (n1 := 10) (n := 5) (by omega) (by omega) (by omega)) (fun y6 e6 => ?_))
  refine ok_bind (ok_mono (m_shifts (n1 := 10) (n := 5) (by omega) (by omega) (by omega)) (fun y7 e7 => ?_))
  refine ok_bind (ok_mono (m_shifts (n1 := 10) (n := 5) (by omega) (by omega) (by omega)) (fun y8 e8 => ?_))
  refine ok_bind (ok_mono (m_shifts (n1 := 10) (n := 5) (by omega) (by omega) (by omega)) (fun y9 e9 => ?_))
  refine ok_bind (ok_mono (m_shifts (n1 := 20) (n := 10) (by omega) (by omega) (by omega)) (fun y10 e10 => ?_))
  refine ok_bind (ok_mono (m_shifts (n1 := 24) (n := 12) (by omega) (by omega) (by omega)) (fun y11 e11 => ?_))
  refine ok_bind (ok_mono (m_shifts (n1 := 2000) (n := 1000) (by omega) (by omega) (by omega)) (fun y12 e12 => ?_))
  refine ok_some ⟨⟨(e1 0 (by omega)).trans a2, (e1 1 (by omega)).trans a3, (e1 2 (by omega)).trans a4, (e1 3 (by omega)).trans a5, fun i hi => (e11 i (by have : i < tN U := hi; omega)).trans (a7 i hi), fun h hh => (e4 h (by have : h < tH U := hh; omega)).trans (a8 h hh), fun h hh => (e5 h (by have : h < tH U := hh; omega)).trans (a9 h hh), fun h hh => (e6 h (by have : h < tH U := hh; omega)).trans (a10 h hh), fun h hh => (e7 h (by have : h < tH U := hh; omega)).trans (a11 h hh), fun h hh => (e8 h (by have : h < tG U := hh; omega)).trans (a12 h hh), fun h hh => (e9 h (by have : h < tG U := hh; omega)).trans (a13 h hh), fun f hf => (e10 f hf).trans (a6 f hf), (m y12 e12) _ _ _ rfl rfl (fun _ _ => rfl)⟩, fun k hk => ?_, fun k hk => ?_, m y12 e12⟩
  · have := hN.2.2.1 k hk
    rw [show 5 * 0 + k = k by omega]
    show y2 k = _
    rw [e2 k (by omega)]
    exact this
  · have := hN.2.2.2.2.2 k hk
    rw [show 5 * 0 + k = k by omega]
    show y3 k = _
    rw [e3 k (by omega)]
    exact this
section TC
variable {z : Nat → Nat} {n : Nat} {signs tape : Nat → Int32} {words : Nat → Int64}
theorem p_terraceR {past cb cp tp ct cnu fa zz da br hz k0 k1 k2 k3 colds holes guests sack cat wan lw ln ll pl th sz mp mb mt mnu wr co ms gv dn_ : Int32} {cnm mwd fr : Int64} {coal ins fw cold hf cto bu be kd gf fo lco lst te mhf mct mbu wl mkd mgf wrs cd lf lt cds op cm lin hea s il : Nat → Int32} {hn gn mhn mgn : Nat → Int64} (hT : TpR z n signs tape words) : ok (fX8_terrace signs words past cb cp tp (nI n) ct cnu fa zz da br hz k0 k1 k2 k3 colds holes guests sack cat wan lw ln ll pl cnm coal ins fw cold hf cto bu be kd gf fo lco lst hn gn) (fun rc => rc.2.2.2.2.2.2.1 = 0 ∧ ok (fX9_terrace tape th (nI n) sz mp mb mt mnu wr co ms gv dn_ mwd fr te mhf mct mbu wl mkd mgf wrs cd lf lt cds op cm lin hea s il mhn mgn) (fun rm => rm.1 = rc.1 ∧ rm.2.1 = 0 ∧ rm.2.2.1 = 0 ∧
    ((rc.1 = 0 ∧ rc.2.1 = true ∧ ∃ (T : Ter) (NH NG : Nms), WT T ∧ CT T rc.2.2.2.2.2.2.2.2.2.2.2.2.2.2.2.2.2.2.1 rc.2.2.2.2.2.2.2.2.2.2.2.2.2.2.2.2.2.2.2.1 rc.2.2.2.2.2.2.2.2.2.2.2.2.2.2.2.2.2.2.2.2.1 rc.2.2.2.2.2.2.2.2.2.2.2.2.2.2.2.2.2.2.2.2.2.1 rc.2.2.2.2.2.2.2.2.2.2.2.2.2.2.2.2.2.2.2.2.2.2.1 rc.2.2.2.2.2.2.2.2.2.2.2.2.2.2.2.2.2.2.2.2.2.2.2.1 rc.2.2.2.2.2.2.2.2.2.2.2.2.2.2.2.2.2.2.2.2.2.2.2.2.2.2.1 rc.2.2.2.2.2.2.2.2.2.2.2.2.2.2.2.2.2.2.2.2.2.2.2.2.2.2.2.2.2.2.2.2.1 rc.2.2.2.2.2.2.2.2.2.2.2.2.2.2.2.2.2.2.2.2.2.2.2.2.2.2.2.2.2.2.2.2.2.1 rc.2.2.2.2.2.2.2.2.2.2.2.2.2.2.2.2.2.2.2.2.2.2.2.2.2.2.2.2.2.2.2.2.2.2.1 rc.2.2.2.2.2.2.2.2.2.2.2.2.2.2.2.2.2.2.2.2.2.2.2.2.2.2.2.2.2.2.2.2.2.2.2.1 rc.2.2.2.2.2.2.2.2.2.2.2.2.2.2.2.2.2.2.2.2.2.2.2.2.2.2.2.2.2.2.2.2.2.2.2.2.1 rc.2.2.2.2.2.2.2.2.2.2.2.2.2.2.2.2.2.2.2.2.2.2.2.2.2.2.2.2.2.2.2.2.2.2.2.2.2.1 rc.2.2.2.2.2.2.2.2.2.2.2.2.2.2.2.2.2.2.2.2.2.2.2.2.2.2.2.2.2.2.2.2.2.2.2.2.2.2.1 rc.2.2.2.2.2.2.2.2.2.2.2.2.2.2.2.2.2.2.2.2.2.2.2.2.2.2.2.2.2.2.2.2.2.2.2.2.2.2.2.1 rc.2.2.2.2.2.2.2.2.2.2.2.2.2.2.2.2.2.2.2.2.2.2.2.2.2.2.2.2.2.2.2.2.2.2.2.2.2.2.2.2.1 ∧ MT T rm.2.2.2.2.2.2.2.2.2.2.2.2.2.2.2.1 rm.2.2.2.2.2.2.2.2.2.2.2.2.2.2.2.2.1 rm.2.2.2.2.2.2.2.2.2.2.2.2.2.2.2.2.2.1 rm.2.2.2.2.2.2.2.2.2.2.2.2.2.2.2.2.2.2.1 rm.2.2.2.2.2.2.2.2.2.2.2.2.2.2.2.2.2.2.2.1 rm.2.2.2.2.2.2.2.2.2.2.2.2.2.2.2.2.2.2.2.2.1 rm.2.2.2.2.2.2.2.2.2.2.2.2.2.2.2.2.2.2.2.2.2.1 rm.2.2.2.2.2.2.2.2.2.2.2.2.2.2.2.2.2.2.2.2.2.2.1 rm.2.2.2.2.2.2.2.2.2.2.2.2.2.2.2.2.2.2.2.2.2.2.2.1 rm.2.2.2.2.2.2.2.2.2.2.2.2.2.2.2.2.2.2.2.2.2.2.2.2.1 rm.2.2.2.2.2.2.2.2.2.2.2.2.2.2.2.2.2.2.2.2.2.2.2.2.2.1 rm.2.2.2.2.2.2.2.2.2.2.2.2.2.2.2.2.2.2.2.2.2.2.2.2.2.2.1 ∧ WN NH (tH T) ∧ CN_ NH (tH T) rc.2.2.2.2.2.2.2.2.2.2.2.2.2.2.2.2.2.2.2.2.2.2.2.2.2.2.2.2.2.2.2.2.2.2.2.2.2.2.2.2.2.2.1 ∧ MN_ NH (tH T) 0 rm.2.2.2.2.2.2.2.2.2.2.2.2.2.2.2.2.2.2.2.2.2.2.2.2.2.2.2.2.2.2.2.2.2.1 ∧ WN NG (tG T) ∧ CN_ NG (tG T) rc.2.2.2.2.2.2.2.2.2.2.2.2.2.2.2.2.2.2.2.2.2.2.2.2.2.2.2.2.2.2.2.2.2.2.2.2.2.2.2.2.2.2.2 ∧ MN_ NG (tG T) 0 rm.2.2.2.2.2.2.2.2.2.2.2.2.2.2.2.2.2.2.2.2.2.2.2.2.2.2.2.2.2.2.2.2.2.2 ∧ LawR rm.2.2.2.2.2.2.2.2.2.2.2.2.2.2.2.2.2.2.2.2.2.2.2.2.1 rm.2.2.2.2.2.2.2.2.2.2.2.2.2.2.2.2.2.2.2.2.2.2.2.2.2.1 rm.2.2.2.2.2.2.2.2.2.2.2.2.2.2.2.2.2.2.2.2.2.2.2.2.2.2.1 (tal T) ∧ CS T (S0 T) rc.2.2.2.2.2.2.2.2.2.2.1 rc.2.2.2.2.2.2.2.2.2.2.2.1 rc.2.2.2.2.2.2.2.2.2.2.2.2.1 rc.2.2.2.2.2.2.2.2.2.2.2.2.2.2.2.2.2.2.2.2.2.2.2.2.2.2.2.2.2.1 rc.2.2.2.2.2.2.2.2.2.2.2.2.2.2.2.2.2.2.2.2.2.2.2.2.2.2.2.2.2.2.1 ∧ MS (S0 T) rm.2.2.2.2.2.2.2.2.2.2.2.2.2.2.2.2.2.2.2.2.2.2.2.2.2.2.2.2.2.2.2.1 ∧ rc.2.2.1 = 0 ∧ rm.2.2.2.2.2.2.2.2.2.2.2.2.1 = 0 ∧ rc.2.2.2.2.2.2.2.2.2.2.2.2.2.1 = 0 ∧ rc.2.2.2.2.2.2.2.2.2.2.2.2.2.2.1 = 0 ∧ rc.2.2.2.2.2.2.2.2.2.2.2.2.2.2.2.1 = 0 ∧ rc.2.2.2.2.2.2.2.2.2.2.2.2.2.2.2.2.1 = 0 ∧ rc.2.2.2.2.2.2.2.2.2.2.2.2.2.2.2.2.2.1 = 0 ∧ rc.2.2.2.2.2.2.2.2.2.2.2.2.2.2.2.2.2.2.2.2.2.2.2.2.2.2.2.1 = 0 ∧ rm.2.2.2.2.2.2.2.2.2.2.2.2.2.2.2.2.2.2.2.2.2.2.2.2.2.2.2.2.2.1 = upd lin 0 0 ∧ rm.2.2.2.2.2.2.2.2.2.2.2.2.2.2.2.2.2.2.2.2.2.2.2.2.2.2.2.2.2.2.1 = upd hea 0 0 ∧ ∀ k, k < 4 → rm.2.2.2.2.2.2.2.2.2.2.2.2.2.2.2.2.2.2.2.2.2.2.2.2.2.2.2.2.2.2.2.2.1 k = 0) ∨
     (¬ rc.1 = 0 ∧ rc.2.1 = false ∧ rc.2.2.1 = past ∧ rc.2.2.2.2.2.2.2.2.2.2.1 = zz ∧ rc.2.2.2.2.2.2.2.2.2.2.2.1 = da ∧ rc.2.2.2.2.2.2.2.2.2.2.2.2.1 = br ∧ rc.2.2.2.2.2.2.2.2.2.2.2.2.2.1 = hz ∧ rc.2.2.2.2.2.2.2.2.2.2.2.2.2.2.1 = k0 ∧ rc.2.2.2.2.2.2.2.2.2.2.2.2.2.2.2.1 = k1 ∧ rc.2.2.2.2.2.2.2.2.2.2.2.2.2.2.2.2.1 = k2 ∧ rc.2.2.2.2.2.2.2.2.2.2.2.2.2.2.2.2.2.1 = k3 ∧ rc.2.2.2.2.2.2.2.2.2.2.2.2.2.2.2.2.2.2.2.2.2.2.2.2.2.2.2.1 = pl ∧ rc.2.2.2.2.2.2.2.2.2.2.2.2.2.2.2.2.2.2.2.2.2.2.2.2.2.2.2.2.2.1 = coal ∧ rc.2.2.2.2.2.2.2.2.2.2.2.2.2.2.2.2.2.2.2.2.2.2.2.2.2.2.2.2.2.2.1 = ins ∧ rm.2.2.2.2.2.2.2.2.2.2.2.2.1 = dn_ ∧ rm.2.2.2.2.2.2.2.2.2.2.2.2.2.2.2.2.2.2.2.2.2.2.2.2.2.2.2.2.2.1 = lin ∧ rm.2.2.2.2.2.2.2.2.2.2.2.2.2.2.2.2.2.2.2.2.2.2.2.2.2.2.2.2.2.2.1 = hea ∧ rm.2.2.2.2.2.2.2.2.2.2.2.2.2.2.2.2.2.2.2.2.2.2.2.2.2.2.2.2.2.2.2.1 = s ∧ rm.2.2.2.2.2.2.2.2.2.2.2.2.2.2.2.2.2.2.2.2.2.2.2.2.2.2.2.2.2.2.2.2.1 = il ∧ FrT te mhf mct mbu wl mkd mgf wrs cd lf lt cds mhn mgn rm.2.2.2.2.2.2.2.2.2.2.2.2.2.2.2.1 rm.2.2.2.2.2.2.2.2.2.2.2.2.2.2.2.2.1 rm.2.2.2.2.2.2.2.2.2.2.2.2.2.2.2.2.2.1 rm.2.2.2.2.2.2.2.2.2.2.2.2.2.2.2.2.2.2.1 rm.2.2.2.2.2.2.2.2.2.2.2.2.2.2.2.2.2.2.2.1 rm.2.2.2.2.2.2.2.2.2.2.2.2.2.2.2.2.2.2.2.2.1 rm.2.2.2.2.2.2.2.2.2.2.2.2.2.2.2.2.2.2.2.2.2.1 rm.2.2.2.2.2.2.2.2.2.2.2.2.2.2.2.2.2.2.2.2.2.2.1 rm.2.2.2.2.2.2.2.2.2.2.2.2.2.2.2.2.2.2.2.2.2.2.2.1 rm.2.2.2.2.2.2.2.2.2.2.2.2.2.2.2.2.2.2.2.2.2.2.2.2.1 rm.2.2.2.2.2.2.2.2.2.2.2.2.2.2.2.2.2.2.2.2.2.2.2.2.2.1 rm.2.2.2.2.2.2.2.2.2.2.2.2.2.2.2.2.2.2.2.2.2.2.2.2.2.2.1 rm.2.2.2.2.2.2.2.2.2.2.2.2.2.2.2.2.2.2.2.2.2.2.2.2.2.2.2.2.2.2.2.2.2.1 rm.2.2.2.2.2.2.2.2.2.2.2.2.2.2.2.2.2.2.2.2.2.2.2.2.2.2.2.2.2.2.2.2.2.2)))) := by
  obtain ⟨cb', cp', ct', cn', cm', mp', mb', mt', mn', mw', hR, hc, hm⟩ := p_begin (cp := cp) (tp := tp) (ct := ct) (cnu := cnu) (mb := mb) (mt := mt) (mnu := mnu) (cnm := cnm) (mwd := mwd) hT
  obtain ⟨u, eu, u4, u5, u6, u7, uj, uw, uwj⟩ := m_usual1 (te := te) (wrs := wrs)
  unfold fX8_terrace fX6_readFrom fX5_begin
  refine ok_bind ?_
  refine ok_bind (ok_mono c_clear (fun y1 e1 => ?_))
  obtain ⟨z1, z2, z3, z4, z5_, z6, z7⟩ := e1
  rw [hc, Option.bind_some, Option.bind_some, z1, z2, z3, z4, z5_]
  have hC : CU U0 false 0 0 0 0 y1.2.2.2.2.2.1 cold hf cto bu y1.2.2.2.2.2.2 kd gf := ⟨rfl, rfl, rfl, rfl, fun _ => rfl, z6, fun i hi => absurd hi (Nat.not_lt_zero _), fun i hi => absurd hi (Nat.not_lt_zero _), fun i hi => absurd hi (Nat.not_lt_zero _), fun i hi => absurd hi (Nat.not_lt_zero _), fun i hi => absurd hi (Nat.not_lt_zero _), fun h _ h5 => z7 h h5, fun i hi => absurd hi (Nat.not_lt_zero _), fun i hi => absurd hi (Nat.not_lt_zero _)⟩
  have hM : MU U0 false 0 u.1 mhf mct mbu wl mkd mgf u.2 cd := ⟨rfl, u4, u5, u6, u7, uw, fun i hi => absurd hi (Nat.not_lt_zero _), fun i hi => absurd hi (Nat.not_lt_zero _), fun i hi => absurd hi (Nat.not_lt_zero _), fun i hi => absurd hi (Nat.not_lt_zero _), fun i hi => absurd hi (Nat.not_lt_zero _), fun i hi => absurd hi (Nat.not_lt_zero _), fun i hi => absurd hi (Nat.not_lt_zero _)⟩
  have hN : NU U0 (fun _ => (0, fun _ => 0)) (fun _ => (0, fun _ => 0)) hn gn mhn mgn := ⟨fun i hi => absurd hi (Nat.not_lt_zero _), fun i hi => absurd hi (Nat.not_lt_zero _), fun i hi => absurd hi (Nat.not_lt_zero _), fun i hi => absurd hi (Nat.not_lt_zero _), fun i hi => absurd hi (Nat.not_lt_zero _), fun i hi => absurd hi (Nat.not_lt_zero _)⟩
  have hL : LU false 0 lco (upd lf 1 1000) (upd lt 1 1000) cds 1000 := ⟨@pk_us lf 1 1000, rfl, @pk_us lt 1 1000, rfl⟩
  refine ok_mono (p_ter (zm := fun _ _ _ _ _ _ _ _ _ _ _ _ _ _ _ _ _ _ _ _ _ _ _ _ _ _ _ _ => none) hT 138 FU FU 0 U0 false false (fun _ => (0, fun _ => 0)) (fun _ => (0, fun _ => 0)) 0 0 0 0 cat wan lw ln 0 cb' cp' cp ct' cn' 0 mp' mb' mt' mn' wr 1000 0 gv cm' mw' fr y1.2.2.2.2.2.1 cold hf cto bu y1.2.2.2.2.2.2 kd gf fo lco lst u.1 mhf mct mbu wl mkd mgf u.2 cd (upd lf 1 1000) (upd lt 1 1000) cds op cm hn gn mhn mgn (by omega) (by unfold FU; omega) (by unfold FU; omega) (Nat.zero_le _) hR U0_WT hC hM hN hL) (fun r e => ?_)
  obtain ⟨w, ew, e13, eta, efr, ee⟩ := e
  have mA : fX9_readsAll tape (nI n) sz mp mb mt mnu wr co ms gv mwd fr te mhf mct mbu wl mkd mgf wrs cd lf lt cds op cm mhn mgn = some w := by
    unfold fX9_readsAll fX9_begins
    rw [show (1 : Int32) = 1 from rfl, eu, Option.bind_some, hm, Option.bind_some, Option.bind_some]
    exact ew
  rcases ee with ⟨r0, w0_, U, isS, tl, NH, NG, hU, hS, hMU, hNU, hLU⟩ | ⟨f, hf0, r0, w0_, w7⟩
  · obtain ⟨al, lc, hlay⟩ := m_lays1R hMU hU hNU hLU
    obtain ⟨s1, s2, s3, s4, s5, s6, s7, s8, s9, s10, s11, s12, s13, s14⟩ := hS
    have hUT : WT (uLaw U al) := hU
    rw [if_pos r0]
    refine ok_bind (ok_mono (c_begin (T := uLaw U al) hUT s9) (fun y3 e3 => ok_some ⟨e13, ?_⟩))
    unfold fX9_terrace
    rw [mA, Option.bind_some, if_neg (by rw [w0_]; decide)]
    refine ok_bind (ok_mono hlay (fun y4 g4 => ok_bind (ok_mono (m_fresh (T := uLaw U al) hUT g4.1.1 g4.1.2.2.2.2.2.2.1) (fun y5 g5 => ?_))))
    rw [show FU = 2195 + 5 from rfl, show (0 : Int32) = nI 0 from rfl, m_laid]
    refine ok_some ⟨rfl, rfl, eta, Or.inl ⟨rfl, rfl, uLaw U al, NH, NG, hUT, ⟨s1, s2, s3, s4, s5, s6, s7, s8, s9, s10, s11, s12, s13, s14, lc⟩, g4.1, hNU.1, hNU.2.1, g4.2.1, hNU.2.2.2.1, hNU.2.2.2.2.1, g4.2.2.1, g4.2.2.2, e3, g5, rfl, rfl, rfl, rfl, rfl, rfl, rfl, rfl, rfl, rfl, fun k hk => ?_⟩⟩
    show upd (upd (upd (upd il 0 (vp_nar .boolean 0)) 1 (vp_nar .boolean 0)) 2 (vp_nar .boolean 0)) 3 (vp_nar .boolean 0) k = 0
    rcases (show k = 0 ∨ k = 1 ∨ k = 2 ∨ k = 3 by omega) with q | q | q | q
    · rw [q, pk_un (by decide), pk_un (by decide), pk_un (by decide), pk_us]; decide
    · rw [q, pk_un (by decide), pk_un (by decide), pk_us]; decide
    · rw [q, pk_un (by decide), pk_us]; decide
    · rw [q, pk_us]; decide
  · have hfr : FrT te mhf mct mbu wl mkd mgf wrs cd lf lt cds mhn mgn u.1 mhf mct mbu wl mkd mgf u.2 cd (upd lf 1 1000) (upd lt 1 1000) cds mhn mgn := ⟨uj, fun _ _ => rfl, fun _ _ => rfl, fun _ _ => rfl, fun _ _ => rfl, fun _ _ => rfl, fun _ _ => rfl, uwj, fun _ _ => rfl, pk_un (by decide), pk_un (by decide), fun _ _ => rfl, fun _ _ => rfl, fun _ _ => rfl⟩
    have r0' : ¬ r.1 = 0 := by rw [r0]; exact hf0
    rw [if_neg r0']
    refine ok_some ⟨e13, ?_⟩
    unfold fX9_terrace
    rw [mA, Option.bind_some, if_pos w0_]
    exact ok_some ⟨w7.trans r0.symm, rfl, eta, Or.inr ⟨r0', rfl, rfl, rfl, rfl, rfl, rfl, rfl, rfl, rfl, rfl, rfl, rfl, rfl, rfl, rfl, rfl, rfl, rfl, FrT_tr hfr efr⟩⟩
end TC
