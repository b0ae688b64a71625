/-! the law: the reference goes through all codes -/
section WD
variable {lf lt cds vo : Nat → Int32} {k14 : (Nat → Int32) → (Nat → Int32) → (Nat → Int32) → (Nat → Int32) → (Nat → Int32) → (Nat → Int32) → (Nat → Int32) → (Nat → Int32) → (Nat → Int32) → Int32 → Int32 → Int32 → Option (Int32 × (Nat → Int32) × (Nat → Int32) × (Nat → Int32) × (Nat → Int32) × (Nat → Int32) × (Nat → Int32) × (Nat → Int32) × (Nat → Int32) × (Nat → Int32))} {kp kb ah ag sm sb tm tb bn : Nat → Int32} {e : EnvL} {Q : (Int32 × (Nat → Int32) × (Nat → Int32) × (Nat → Int32) × (Nat → Int32) × (Nat → Int32) × (Nat → Int32) × (Nat → Int32) × (Nat → Int32) × (Nat → Int32)) → Prop}
theorem m_opens {i : Nat} (h7 : i < 7) : fX9_opens kb ag sm sb tb (nI i) = some (upd kb i 0, upd ag i 0, upd sm i 0, upd sb i 20, upd tb i 0) := by
  have hi : inb (nI i) 7 = true := nB h7 (by omega)
  have ci : (nI i).toNatClampNeg = i := nC (by omega)
  unfold fX9_opens
  simp only [hi, cond_true, ci]
theorem m_o28 {m k : Nat} {s : Lv} {L : List Lv} (hlt : lt 0 = nI m) (hk : k < m) (hm : m ≤ 1000) (hc : cds k = nI 28) (h6 : L.length < 5) (hR : RegL ⟨kp, kb, ah, ag, sm, sb, tm, tb, bn⟩ e (s :: L)) (hQ : ∀ (kp kb ah ag sm sb tm tb bn : Nat → Int32), RegL ⟨kp, kb, ah, ag, sm, sb, tm, tb, bn⟩ e (z5 2 :: s :: L) → ok (k14 kp kb ah ag sm sb tm tb bn 0 (nI (L.length + 1)) (nI (k + 1))) Q) : ok (fX9_worked_14 lf lt cds vo k14 kp kb ah ag sm sb tm tb bn 0 (nI L.length) (nI k)) Q := by
  have hi2 : inb (0 : Int32) 2 = true := nB (k := 0) (by omega) (by omega)
  have c0 : (0 : Int32).toNatClampNeg = 0 := rfl
  have hkk : inb (nI k) 2000 = true := nB (by omega) (by omega)
  have ck : (nI k).toNatClampNeg = k := nC (by omega)
  have nle : ¬ nI m ≤ nI k := fun q => absurd (nI_lt hk (by omega)) (Int32.not_lt.mpr q)
  have hi : inb (nI (L.length + 1)) 7 = true := nB (by omega) (by omega)
  have ci : (nI (L.length + 1)).toNatClampNeg = L.length + 1 := nC (by omega)
  unfold fX9_worked_14
  rw [hi2, cond_true, c0, hlt, if_neg nle, hkk, cond_true, ck, hc, if_pos (show nI 28 = 28 from rfl)]
  unfold fX9_worked_46 fX9_worked_66
  rw [if_neg (show ¬ nI 28 = 30 by decide), nI_1, hi, cond_true, m_opens (by omega)]
  simp only [Option.bind_some]
  rw [ci, nI_1]
  refine hQ _ _ _ _ _ _ _ _ _ ⟨⟨pk_us, fun q => absurd rfl q, pk_us, fun q => absurd rfl q, pk_us, pk_us, fun _ => ?_⟩, pk_us, fun q => absurd rfl q, RegL_congr hR (fun j hj => ?_)⟩
  · show upd bn (L.length + 1) 0 (L.length + 1) = 1 ↔ 2 = 1
    rw [pk_us]
    exact ⟨fun q => absurd q (by decide), fun q => absurd q (by decide)⟩
  · have hj : j < L.length + 1 := hj
    exact ⟨rfl, pk_un (by omega), rfl, pk_un (by omega), pk_un (by omega), pk_un (by omega), rfl, pk_un (by omega), pk_un (by omega)⟩
theorem m_o30 {m k : Nat} {s : Lv} {L : List Lv} (hlt : lt 0 = nI m) (hk : k < m) (hm : m ≤ 1000) (hc : cds k = nI 30) (h6 : L.length < 5) (hR : RegL ⟨kp, kb, ah, ag, sm, sb, tm, tb, bn⟩ e (s :: L)) (hQ : ∀ (kp kb ah ag sm sb tm tb bn : Nat → Int32), RegL ⟨kp, kb, ah, ag, sm, sb, tm, tb, bn⟩ e (z5 1 :: s :: L) → ok (k14 kp kb ah ag sm sb tm tb bn 0 (nI (L.length + 1)) (nI (k + 1))) Q) : ok (fX9_worked_14 lf lt cds vo k14 kp kb ah ag sm sb tm tb bn 0 (nI L.length) (nI k)) Q := by
  have hi2 : inb (0 : Int32) 2 = true := nB (k := 0) (by omega) (by omega)
  have c0 : (0 : Int32).toNatClampNeg = 0 := rfl
  have hkk : inb (nI k) 2000 = true := nB (by omega) (by omega)
  have ck : (nI k).toNatClampNeg = k := nC (by omega)
  have nle : ¬ nI m ≤ nI k := fun q => absurd (nI_lt hk (by omega)) (Int32.not_lt.mpr q)
  have hi : inb (nI (L.length + 1)) 7 = true := nB (by omega) (by omega)
  have ci : (nI (L.length + 1)).toNatClampNeg = L.length + 1 := nC (by omega)
  unfold fX9_worked_14
  rw [hi2, cond_true, c0, hlt, if_neg nle, hkk, cond_true, ck, hc, if_neg (show ¬ nI 30 = 28 by decide), if_pos (show nI 30 = 30 from rfl)]
  unfold fX9_worked_46 fX9_worked_66
  rw [if_pos (show nI 30 = 30 from rfl), nI_1, hi, cond_true, m_opens (by omega)]
  simp only [Option.bind_some]
  rw [ci, nI_1]
  refine hQ _ _ _ _ _ _ _ _ _ ⟨⟨pk_us, fun q => absurd rfl q, pk_us, fun q => absurd rfl q, pk_us, pk_us, fun _ => ?_⟩, pk_us, fun q => absurd rfl q, RegL_congr hR (fun j hj => ?_)⟩
  · show upd bn (L.length + 1) 1 (L.length + 1) = 1 ↔ 1 = 1
    rw [pk_us]
    exact ⟨fun q => rfl, fun q => rfl⟩
  · have hj : j < L.length + 1 := hj
    exact ⟨rfl, pk_un (by omega), rfl, pk_un (by omega), pk_un (by omega), pk_un (by omega), rfl, pk_un (by omega), pk_un (by omega)⟩
theorem m_f1 {m k : Nat} {L : List Lv} (hlt : lt 0 = nI m) (hk : k < m) (hm : m ≤ 1000) (hc : cds k = nI 1) (hv : vo 1 = fcv e 1) (hW : WfL L) (h6 : L.length ≤ 7) (hR : RegL ⟨kp, kb, ah, ag, sm, sb, tm, tb, bn⟩ e L) (hQ : ∀ tm', RegR ⟨kp, kb, ah, ag, sm, sb, tm', tb, bn⟩ e (arS (arr L (fun e => fcv e 1))) → ok (k14 kp kb ah ag sm sb tm' tb bn 0 (nI ((arr L (fun e => fcv e 1)).1.length - 1)) (nI (k + 1))) Q) : ok (fX9_worked_14 lf lt cds vo k14 kp kb ah ag sm sb tm tb bn 0 (nI (L.length - 1)) (nI k)) Q := by
  have hi2 : inb (0 : Int32) 2 = true := nB (k := 0) (by omega) (by omega)
  have c0 : (0 : Int32).toNatClampNeg = 0 := rfl
  have hkk : inb (nI k) 2000 = true := nB (by omega) (by omega)
  have ck : (nI k).toNatClampNeg = k := nC (by omega)
  have nle : ¬ nI m ≤ nI k := fun q => absurd (nI_lt hk (by omega)) (Int32.not_lt.mpr q)
  unfold fX9_worked_14
  rw [hi2, cond_true, c0, hlt, if_neg nle, hkk, cond_true, ck, hc]
  rw [if_neg (show ¬ nI 1 = 28 by decide), if_neg (show ¬ nI 1 = 30 by decide), if_neg (show ¬ nI 1 = 20 by decide), if_neg (show ¬ nI 1 = 21 by decide), if_neg (show ¬ nI 1 = 22 by decide), if_neg (show ¬ nI 1 = 24 by decide), if_neg (show ¬ nI 1 = 25 by decide), if_neg (show ¬ nI 1 = 26 by decide), if_neg (show ¬ nI 1 = 27 by decide), if_pos (show nI 1 < 100 by decide), if_neg (show ¬ (20 : Int32) ≤ nI 1 by decide), nB (show 1 < 20 by decide) (by decide), cond_true, show (nI 1).toNatClampNeg = 1 from nC (by decide)]
  unfold fX9_worked_243
  rw [if_neg (show ¬ nI 1 = 29 by decide), hv]
  rw [← nI_1] at hQ
  exact m_arr L (fun e => fcv e 1) FU hW h6 (by unfold FU; omega) hR hQ
theorem m_f2 {m k : Nat} {L : List Lv} (hlt : lt 0 = nI m) (hk : k < m) (hm : m ≤ 1000) (hc : cds k = nI 2) (hv : vo 2 = fcv e 2) (hW : WfL L) (h6 : L.length ≤ 7) (hR : RegL ⟨kp, kb, ah, ag, sm, sb, tm, tb, bn⟩ e L) (hQ : ∀ tm', RegR ⟨kp, kb, ah, ag, sm, sb, tm', tb, bn⟩ e (arS (arr L (fun e => fcv e 2))) → ok (k14 kp kb ah ag sm sb tm' tb bn 0 (nI ((arr L (fun e => fcv e 2)).1.length - 1)) (nI (k + 1))) Q) : ok (fX9_worked_14 lf lt cds vo k14 kp kb ah ag sm sb tm tb bn 0 (nI (L.length - 1)) (nI k)) Q := by
  have hi2 : inb (0 : Int32) 2 = true := nB (k := 0) (by omega) (by omega)
  have c0 : (0 : Int32).toNatClampNeg = 0 := rfl
  have hkk : inb (nI k) 2000 = true := nB (by omega) (by omega)
  have ck : (nI k).toNatClampNeg = k := nC (by omega)
  have nle : ¬ nI m ≤ nI k := fun q => absurd (nI_lt hk (by omega)) (Int32.not_lt.mpr q)
  unfold fX9_worked_14
  rw [hi2, cond_true, c0, hlt, if_neg nle, hkk, cond_true, ck, hc]
  rw [if_neg (show ¬ nI 2 = 28 by decide), if_neg (show ¬ nI 2 = 30 by decide), if_neg (show ¬ nI 2 = 20 by decide), if_neg (show ¬ nI 2 = 21 by decide), if_neg (show ¬ nI 2 = 22 by decide), if_neg (show ¬ nI 2 = 24 by decide), if_neg (show ¬ nI 2 = 25 by decide), if_neg (show ¬ nI 2 = 26 by decide), if_neg (show ¬ nI 2 = 27 by decide), if_pos (show nI 2 < 100 by decide), if_neg (show ¬ (20 : Int32) ≤ nI 2 by decide), nB (show 2 < 20 by decide) (by decide), cond_true, show (nI 2).toNatClampNeg = 2 from nC (by decide)]
  unfold fX9_worked_243
  rw [if_neg (show ¬ nI 2 = 29 by decide), hv]
  rw [← nI_1] at hQ
  exact m_arr L (fun e => fcv e 2) FU hW h6 (by unfold FU; omega) hR hQ
theorem m_f3 {m k : Nat} {L : List Lv} (hlt : lt 0 = nI m) (hk : k < m) (hm : m ≤ 1000) (hc : cds k = nI 3) (hv : vo 3 = fcv e 3) (hW : WfL L) (h6 : L.length ≤ 7) (hR : RegL ⟨kp, kb, ah, ag, sm, sb, tm, tb, bn⟩ e L) (hQ : ∀ tm', RegR ⟨kp, kb, ah, ag, sm, sb, tm', tb, bn⟩ e (arS (arr L (fun e => fcv e 3))) → ok (k14 kp kb ah ag sm sb tm' tb bn 0 (nI ((arr L (fun e => fcv e 3)).1.length - 1)) (nI (k + 1))) Q) : ok (fX9_worked_14 lf lt cds vo k14 kp kb ah ag sm sb tm tb bn 0 (nI (L.length - 1)) (nI k)) Q := by
  have hi2 : inb (0 : Int32) 2 = true := nB (k := 0) (by omega) (by omega)
  have c0 : (0 : Int32).toNatClampNeg = 0 := rfl
  have hkk : inb (nI k) 2000 = true := nB (by omega) (by omega)
  have ck : (nI k).toNatClampNeg = k := nC (by omega)
  have nle : ¬ nI m ≤ nI k := fun q => absurd (nI_lt hk (by omega)) (Int32.not_lt.mpr q)
  unfold fX9_worked_14
  rw [hi2, cond_true, c0, hlt, if_neg nle, hkk, cond_true, ck, hc]
  rw [if_neg (show ¬ nI 3 = 28 by decide), if_neg (show ¬ nI 3 = 30 by decide), if_neg (show ¬ nI 3 = 20 by decide), if_neg (show ¬ nI 3 = 21 by decide), if_neg (show ¬ nI 3 = 22 by decide), if_neg (show ¬ nI 3 = 24 by decide), if_neg (show ¬ nI 3 = 25 by decide), if_neg (show ¬ nI 3 = 26 by decide), if_neg (show ¬ nI 3 = 27 by decide), if_pos (show nI 3 < 100 by decide), if_neg (show ¬ (20 : Int32) ≤ nI 3 by decide), nB (show 3 < 20 by decide) (by decide), cond_true, show (nI 3).toNatClampNeg = 3 from nC (by decide)]
  unfold fX9_worked_243
  rw [if_neg (show ¬ nI 3 = 29 by decide), hv]
  rw [← nI_1] at hQ
  exact m_arr L (fun e => fcv e 3) FU hW h6 (by unfold FU; omega) hR hQ
theorem m_f4 {m k : Nat} {L : List Lv} (hlt : lt 0 = nI m) (hk : k < m) (hm : m ≤ 1000) (hc : cds k = nI 4) (hv : vo 4 = fcv e 4) (hW : WfL L) (h6 : L.length ≤ 7) (hR : RegL ⟨kp, kb, ah, ag, sm, sb, tm, tb, bn⟩ e L) (hQ : ∀ tm', RegR ⟨kp, kb, ah, ag, sm, sb, tm', tb, bn⟩ e (arS (arr L (fun e => fcv e 4))) → ok (k14 kp kb ah ag sm sb tm' tb bn 0 (nI ((arr L (fun e => fcv e 4)).1.length - 1)) (nI (k + 1))) Q) : ok (fX9_worked_14 lf lt cds vo k14 kp kb ah ag sm sb tm tb bn 0 (nI (L.length - 1)) (nI k)) Q := by
  have hi2 : inb (0 : Int32) 2 = true := nB (k := 0) (by omega) (by omega)
  have c0 : (0 : Int32).toNatClampNeg = 0 := rfl
  have hkk : inb (nI k) 2000 = true := nB (by omega) (by omega)
  have ck : (nI k).toNatClampNeg = k := nC (by omega)
  have nle : ¬ nI m ≤ nI k := fun q => absurd (nI_lt hk (by omega)) (Int32.not_lt.mpr q)
  unfold fX9_worked_14
  rw [hi2, cond_true, c0, hlt, if_neg nle, hkk, cond_true, ck, hc]
  rw [if_neg (show ¬ nI 4 = 28 by decide), if_neg (show ¬ nI 4 = 30 by decide), if_neg (show ¬ nI 4 = 20 by decide), if_neg (show ¬ nI 4 = 21 by decide), if_neg (show ¬ nI 4 = 22 by decide), if_neg (show ¬ nI 4 = 24 by decide), if_neg (show ¬ nI 4 = 25 by decide), if_neg (show ¬ nI 4 = 26 by decide), if_neg (show ¬ nI 4 = 27 by decide), if_pos (show nI 4 < 100 by decide), if_neg (show ¬ (20 : Int32) ≤ nI 4 by decide), nB (show 4 < 20 by decide) (by decide), cond_true, show (nI 4).toNatClampNeg = 4 from nC (by decide)]
  unfold fX9_worked_243
  rw [if_neg (show ¬ nI 4 = 29 by decide), hv]
  rw [← nI_1] at hQ
  exact m_arr L (fun e => fcv e 4) FU hW h6 (by unfold FU; omega) hR hQ
theorem m_num {m k : Nat} {c : Nat} {L : List Lv} (hlt : lt 0 = nI m) (hk : k < m) (hm : m ≤ 1000) (hc : cds k = nI c) (hcc : 100 ≤ c ∧ c < 10100) (hW : WfL L) (h6 : L.length ≤ 7) (hR : RegL ⟨kp, kb, ah, ag, sm, sb, tm, tb, bn⟩ e L) (hQ : ∀ tm', RegR ⟨kp, kb, ah, ag, sm, sb, tm', tb, bn⟩ e (arS (arr L (fun _ => nI (c - 100)))) → ok (k14 kp kb ah ag sm sb tm' tb bn 0 (nI ((arr L (fun _ => nI (c - 100))).1.length - 1)) (nI (k + 1))) Q) : ok (fX9_worked_14 lf lt cds vo k14 kp kb ah ag sm sb tm tb bn 0 (nI (L.length - 1)) (nI k)) Q := by
  have hi2 : inb (0 : Int32) 2 = true := nB (k := 0) (by omega) (by omega)
  have c0 : (0 : Int32).toNatClampNeg = 0 := rfl
  have hkk : inb (nI k) 2000 = true := nB (by omega) (by omega)
  have ck : (nI k).toNatClampNeg = k := nC (by omega)
  have nle : ¬ nI m ≤ nI k := fun q => absurd (nI_lt hk (by omega)) (Int32.not_lt.mpr q)
  unfold fX9_worked_14
  rw [hi2, cond_true, c0, hlt, if_neg nle, hkk, cond_true, ck, hc]
  rw [if_neg (show ¬ nI c = 28 from fun q => by have := (nI_eq (b := 28) (by omega) (by omega)).mp q; omega), if_neg (show ¬ nI c = 30 from fun q => by have := (nI_eq (b := 30) (by omega) (by omega)).mp q; omega), if_neg (show ¬ nI c = 20 from fun q => by have := (nI_eq (b := 20) (by omega) (by omega)).mp q; omega), if_neg (show ¬ nI c = 21 from fun q => by have := (nI_eq (b := 21) (by omega) (by omega)).mp q; omega), if_neg (show ¬ nI c = 22 from fun q => by have := (nI_eq (b := 22) (by omega) (by omega)).mp q; omega), if_neg (show ¬ nI c = 24 from fun q => by have := (nI_eq (b := 24) (by omega) (by omega)).mp q; omega), if_neg (show ¬ nI c = 25 from fun q => by have := (nI_eq (b := 25) (by omega) (by omega)).mp q; omega), if_neg (show ¬ nI c = 26 from fun q => by have := (nI_eq (b := 26) (by omega) (by omega)).mp q; omega), if_neg (show ¬ nI c = 27 from fun q => by have := (nI_eq (b := 27) (by omega) (by omega)).mp q; omega), if_neg (show ¬ nI c < 100 from nI_nlt (b := 100) (by omega) (by omega))]
  unfold fX9_worked_243
  rw [if_neg (show ¬ nI c = 29 from fun q => by have := (nI_eq (b := 29) (by omega) (by omega)).mp q; omega), show nI c - 100 = nI (c - 100) from nsub (b := 100) hcc.1]
  rw [← nI_1] at hQ
  exact m_arr L (fun _ => nI (c - 100)) FU hW h6 (by unfold FU; omega) hR hQ
theorem m_p22 {m k : Nat} {s : Lv} {L : List Lv} {x : Sv} (hlt : lt 0 = nI m) (hk : k < m) (hm : m ≤ 1000) (hc : cds k = nI 22) (h6 : L.length < 7) (hO : LvO s) (hR : RegR ⟨kp, kb, ah, ag, sm, sb, tm, tb, bn⟩ e (s :: L, some x)) (hQ : ∀ (kp kb ah ag sm sb tm tb bn : Nat → Int32), RegL ⟨kp, kb, ah, ag, sm, sb, tm, tb, bn⟩ e ((mkL s.o s.kb s.ag s.sb 22 s.kv s.av s.sv (r4 s x)) :: L) → ok (k14 kp kb ah ag sm sb tm tb bn 0 (nI L.length) (nI (k + 1))) Q) : ok (fX9_worked_14 lf lt cds vo k14 kp kb ah ag sm sb tm tb bn 0 (nI L.length) (nI k)) Q := by
  have hi2 : inb (0 : Int32) 2 = true := nB (k := 0) (by omega) (by omega)
  have c0 : (0 : Int32).toNatClampNeg = 0 := rfl
  have hkk : inb (nI k) 2000 = true := nB (by omega) (by omega)
  have ck : (nI k).toNatClampNeg = k := nC (by omega)
  have nle : ¬ nI m ≤ nI k := fun q => absurd (nI_lt hk (by omega)) (Int32.not_lt.mpr q)
  have hi : inb (nI L.length) 7 = true := nB h6 (by omega)
  have ci : (nI L.length).toNatClampNeg = L.length := nC (by omega)
  obtain ⟨hS, hx, hL⟩ := hR
  unfold fX9_worked_14
  rw [hi2, cond_true, c0, hlt, if_neg nle, hkk, cond_true, ck, hc, if_neg (show ¬ nI 22 = 28 by decide), if_neg (show ¬ nI 22 = 30 by decide), if_neg (show ¬ nI 22 = 20 by decide), if_neg (show ¬ nI 22 = 21 by decide), if_pos (show nI 22 = 22 from rfl)]
  rw [hi, cond_true, ci, nI_1]
  refine hQ _ _ _ _ _ _ _ _ _ ⟨hS, pk_us, fun _ => hx, RegL_congr hL (fun j hj => ⟨rfl, rfl, rfl, rfl, rfl, rfl, rfl, pk_un (by omega), rfl⟩)⟩
theorem m_p20 {m k : Nat} {s : Lv} {L : List Lv} {x : Sv} (hlt : lt 0 = nI m) (hk : k < m) (hm : m ≤ 1000) (hc : cds k = nI 20) (h6 : L.length < 7) (hO : LvO s) (hR : RegR ⟨kp, kb, ah, ag, sm, sb, tm, tb, bn⟩ e (s :: L, some x)) (hQ : ∀ (kp kb ah ag sm sb tm tb bn : Nat → Int32), RegL ⟨kp, kb, ah, ag, sm, sb, tm, tb, bn⟩ e ((mkL s.o s.kb s.ag 20 0 s.kv s.av (r3 s x) s.tv) :: L) → ok (k14 kp kb ah ag sm sb tm tb bn 0 (nI L.length) (nI (k + 1))) Q) : ok (fX9_worked_14 lf lt cds vo k14 kp kb ah ag sm sb tm tb bn 0 (nI L.length) (nI k)) Q := by
  have hi2 : inb (0 : Int32) 2 = true := nB (k := 0) (by omega) (by omega)
  have c0 : (0 : Int32).toNatClampNeg = 0 := rfl
  have hkk : inb (nI k) 2000 = true := nB (by omega) (by omega)
  have ck : (nI k).toNatClampNeg = k := nC (by omega)
  have nle : ¬ nI m ≤ nI k := fun q => absurd (nI_lt hk (by omega)) (Int32.not_lt.mpr q)
  have hi : inb (nI L.length) 7 = true := nB h6 (by omega)
  have ci : (nI L.length).toNatClampNeg = L.length := nC (by omega)
  obtain ⟨hS, hx, hL⟩ := hR
  unfold fX9_worked_14
  rw [hi2, cond_true, c0, hlt, if_neg nle, hkk, cond_true, ck, hc, if_neg (show ¬ nI 20 = 28 by decide), if_neg (show ¬ nI 20 = 30 by decide), if_pos (show nI 20 = 20 from rfl)]
  unfold fX9_worked_89
  rw [m_sums h6 hS hx hO]
  simp only [Option.bind_some]
  rw [hi, cond_true, ci, nI_1]
  refine hQ _ _ _ _ _ _ _ _ _ ⟨⟨hS.1, hS.2.1, hS.2.2.1, hS.2.2.2.1, pk_us, pk_us, hS.2.2.2.2.2.2⟩, pk_us, fun q => absurd rfl q, RegL_congr hL (fun j hj => ⟨rfl, rfl, rfl, rfl, pk_un (by omega), pk_un (by omega), rfl, pk_un (by omega), rfl⟩)⟩
theorem m_p21 {m k : Nat} {s : Lv} {L : List Lv} {x : Sv} (hlt : lt 0 = nI m) (hk : k < m) (hm : m ≤ 1000) (hc : cds k = nI 21) (h6 : L.length < 7) (hO : LvO s) (hR : RegR ⟨kp, kb, ah, ag, sm, sb, tm, tb, bn⟩ e (s :: L, some x)) (hQ : ∀ (kp kb ah ag sm sb tm tb bn : Nat → Int32), RegL ⟨kp, kb, ah, ag, sm, sb, tm, tb, bn⟩ e ((mkL s.o s.kb s.ag 21 0 s.kv s.av (r3 s x) s.tv) :: L) → ok (k14 kp kb ah ag sm sb tm tb bn 0 (nI L.length) (nI (k + 1))) Q) : ok (fX9_worked_14 lf lt cds vo k14 kp kb ah ag sm sb tm tb bn 0 (nI L.length) (nI k)) Q := by
  have hi2 : inb (0 : Int32) 2 = true := nB (k := 0) (by omega) (by omega)
  have c0 : (0 : Int32).toNatClampNeg = 0 := rfl
  have hkk : inb (nI k) 2000 = true := nB (by omega) (by omega)
  have ck : (nI k).toNatClampNeg = k := nC (by omega)
  have nle : ¬ nI m ≤ nI k := fun q => absurd (nI_lt hk (by omega)) (Int32.not_lt.mpr q)
  have hi : inb (nI L.length) 7 = true := nB h6 (by omega)
  have ci : (nI L.length).toNatClampNeg = L.length := nC (by omega)
  obtain ⟨hS, hx, hL⟩ := hR
  unfold fX9_worked_14
  rw [hi2, cond_true, c0, hlt, if_neg nle, hkk, cond_true, ck, hc, if_neg (show ¬ nI 21 = 28 by decide), if_neg (show ¬ nI 21 = 30 by decide), if_neg (show ¬ nI 21 = 20 by decide), if_pos (show nI 21 = 21 from rfl)]
  unfold fX9_worked_89
  rw [m_sums h6 hS hx hO]
  simp only [Option.bind_some]
  rw [hi, cond_true, ci, nI_1]
  refine hQ _ _ _ _ _ _ _ _ _ ⟨⟨hS.1, hS.2.1, hS.2.2.1, hS.2.2.2.1, pk_us, pk_us, hS.2.2.2.2.2.2⟩, pk_us, fun q => absurd rfl q, RegL_congr hL (fun j hj => ⟨rfl, rfl, rfl, rfl, pk_un (by omega), pk_un (by omega), rfl, pk_un (by omega), rfl⟩)⟩
theorem m_p24 {m k : Nat} {s : Lv} {L : List Lv} {x : Sv} (hlt : lt 0 = nI m) (hk : k < m) (hm : m ≤ 1000) (hc : cds k = nI 24) (h6 : L.length < 7) (hO : LvO s) (hR : RegR ⟨kp, kb, ah, ag, sm, sb, tm, tb, bn⟩ e (s :: L, some x)) (hQ : ∀ (kp kb ah ag sm sb tm tb bn : Nat → Int32), RegL ⟨kp, kb, ah, ag, sm, sb, tm, tb, bn⟩ e ((mkL s.o s.kb 24 0 0 s.kv (r3 s x) s.sv s.tv) :: L) → ok (k14 kp kb ah ag sm sb tm tb bn 0 (nI L.length) (nI (k + 1))) Q) : ok (fX9_worked_14 lf lt cds vo k14 kp kb ah ag sm sb tm tb bn 0 (nI L.length) (nI k)) Q := by
  have hi2 : inb (0 : Int32) 2 = true := nB (k := 0) (by omega) (by omega)
  have c0 : (0 : Int32).toNatClampNeg = 0 := rfl
  have hkk : inb (nI k) 2000 = true := nB (by omega) (by omega)
  have ck : (nI k).toNatClampNeg = k := nC (by omega)
  have nle : ¬ nI m ≤ nI k := fun q => absurd (nI_lt hk (by omega)) (Int32.not_lt.mpr q)
  have hi : inb (nI L.length) 7 = true := nB h6 (by omega)
  have ci : (nI L.length).toNatClampNeg = L.length := nC (by omega)
  obtain ⟨hS, hx, hL⟩ := hR
  unfold fX9_worked_14
  rw [hi2, cond_true, c0, hlt, if_neg nle, hkk, cond_true, ck, hc, if_neg (show ¬ nI 24 = 28 by decide), if_neg (show ¬ nI 24 = 30 by decide), if_neg (show ¬ nI 24 = 20 by decide), if_neg (show ¬ nI 24 = 21 by decide), if_neg (show ¬ nI 24 = 22 by decide), if_pos (show nI 24 = 24 from rfl)]
  unfold fX9_worked_137
  rw [m_sums h6 hS hx hO]
  simp only [Option.bind_some, hi, cond_true, ci]
  rw [nI_1]
  refine hQ _ _ _ _ _ _ _ _ _ ⟨⟨hS.1, hS.2.1, pk_us, fun _ => pk_us.trans pk_us, pk_us, pk_us, hS.2.2.2.2.2.2⟩, pk_us, fun q => absurd rfl q, RegL_congr hL (fun j hj => ⟨rfl, rfl, pk_un (by omega), pk_un (by omega), (pk_un (by omega)).trans (pk_un (by omega)), pk_un (by omega), rfl, pk_un (by omega), rfl⟩)⟩
theorem m_p25 {m k : Nat} {s : Lv} {L : List Lv} {x : Sv} (hlt : lt 0 = nI m) (hk : k < m) (hm : m ≤ 1000) (hc : cds k = nI 25) (h6 : L.length < 7) (hO : LvO s) (hR : RegR ⟨kp, kb, ah, ag, sm, sb, tm, tb, bn⟩ e (s :: L, some x)) (hQ : ∀ (kp kb ah ag sm sb tm tb bn : Nat → Int32), RegL ⟨kp, kb, ah, ag, sm, sb, tm, tb, bn⟩ e ((mkL s.o s.kb 25 0 0 s.kv (r3 s x) s.sv s.tv) :: L) → ok (k14 kp kb ah ag sm sb tm tb bn 0 (nI L.length) (nI (k + 1))) Q) : ok (fX9_worked_14 lf lt cds vo k14 kp kb ah ag sm sb tm tb bn 0 (nI L.length) (nI k)) Q := by
  have hi2 : inb (0 : Int32) 2 = true := nB (k := 0) (by omega) (by omega)
  have c0 : (0 : Int32).toNatClampNeg = 0 := rfl
  have hkk : inb (nI k) 2000 = true := nB (by omega) (by omega)
  have ck : (nI k).toNatClampNeg = k := nC (by omega)
  have nle : ¬ nI m ≤ nI k := fun q => absurd (nI_lt hk (by omega)) (Int32.not_lt.mpr q)
  have hi : inb (nI L.length) 7 = true := nB h6 (by omega)
  have ci : (nI L.length).toNatClampNeg = L.length := nC (by omega)
  obtain ⟨hS, hx, hL⟩ := hR
  unfold fX9_worked_14
  rw [hi2, cond_true, c0, hlt, if_neg nle, hkk, cond_true, ck, hc, if_neg (show ¬ nI 25 = 28 by decide), if_neg (show ¬ nI 25 = 30 by decide), if_neg (show ¬ nI 25 = 20 by decide), if_neg (show ¬ nI 25 = 21 by decide), if_neg (show ¬ nI 25 = 22 by decide), if_neg (show ¬ nI 25 = 24 by decide), if_pos (show nI 25 = 25 from rfl)]
  unfold fX9_worked_137
  rw [m_sums h6 hS hx hO]
  simp only [Option.bind_some, hi, cond_true, ci]
  rw [nI_1]
  refine hQ _ _ _ _ _ _ _ _ _ ⟨⟨hS.1, hS.2.1, pk_us, fun _ => pk_us.trans pk_us, pk_us, pk_us, hS.2.2.2.2.2.2⟩, pk_us, fun q => absurd rfl q, RegL_congr hL (fun j hj => ⟨rfl, rfl, pk_un (by omega), pk_un (by omega), (pk_un (by omega)).trans (pk_un (by omega)), pk_un (by omega), rfl, pk_un (by omega), rfl⟩)⟩
theorem m_p26 {m k : Nat} {s : Lv} {L : List Lv} {x : Sv} (hlt : lt 0 = nI m) (hk : k < m) (hm : m ≤ 1000) (hc : cds k = nI 26) (h6 : L.length < 7) (hO : LvO s) (hR : RegR ⟨kp, kb, ah, ag, sm, sb, tm, tb, bn⟩ e (s :: L, some x)) (hQ : ∀ (kp kb ah ag sm sb tm tb bn : Nat → Int32), RegL ⟨kp, kb, ah, ag, sm, sb, tm, tb, bn⟩ e ((mkL s.o 26 0 0 0 (r1 s x) s.av s.sv s.tv) :: L) → ok (k14 kp kb ah ag sm sb tm tb bn 0 (nI L.length) (nI (k + 1))) Q) : ok (fX9_worked_14 lf lt cds vo k14 kp kb ah ag sm sb tm tb bn 0 (nI L.length) (nI k)) Q := by
  have hi2 : inb (0 : Int32) 2 = true := nB (k := 0) (by omega) (by omega)
  have c0 : (0 : Int32).toNatClampNeg = 0 := rfl
  have hkk : inb (nI k) 2000 = true := nB (by omega) (by omega)
  have ck : (nI k).toNatClampNeg = k := nC (by omega)
  have nle : ¬ nI m ≤ nI k := fun q => absurd (nI_lt hk (by omega)) (Int32.not_lt.mpr q)
  have hi : inb (nI L.length) 7 = true := nB h6 (by omega)
  have ci : (nI L.length).toNatClampNeg = L.length := nC (by omega)
  obtain ⟨hS, hx, hL⟩ := hR
  unfold fX9_worked_14
  rw [hi2, cond_true, c0, hlt, if_neg nle, hkk, cond_true, ck, hc, if_neg (show ¬ nI 26 = 28 by decide), if_neg (show ¬ nI 26 = 30 by decide), if_neg (show ¬ nI 26 = 20 by decide), if_neg (show ¬ nI 26 = 21 by decide), if_neg (show ¬ nI 26 = 22 by decide), if_neg (show ¬ nI 26 = 24 by decide), if_neg (show ¬ nI 26 = 25 by decide), if_pos (show nI 26 = 26 from rfl)]
  unfold fX9_worked_194
  rw [m_tests h6 hS hx hO]
  simp only [Option.bind_some]
  rw [hi, cond_true, ci, nI_1]
  refine hQ _ _ _ _ _ _ _ _ _ ⟨⟨pk_us, fun _ => pk_us, pk_us, fun q => absurd rfl q, pk_us, pk_us, hS.2.2.2.2.2.2⟩, pk_us, fun q => absurd rfl q, RegL_congr hL (fun j hj => ⟨pk_un (by omega), pk_un (by omega), rfl, pk_un (by omega), (pk_un (by omega)).trans (pk_un (by omega)), pk_un (by omega), rfl, pk_un (by omega), rfl⟩)⟩
theorem m_p27 {m k : Nat} {s : Lv} {L : List Lv} {x : Sv} (hlt : lt 0 = nI m) (hk : k < m) (hm : m ≤ 1000) (hc : cds k = nI 27) (h6 : L.length < 7) (hO : LvO s) (hR : RegR ⟨kp, kb, ah, ag, sm, sb, tm, tb, bn⟩ e (s :: L, some x)) (hQ : ∀ (kp kb ah ag sm sb tm tb bn : Nat → Int32), RegL ⟨kp, kb, ah, ag, sm, sb, tm, tb, bn⟩ e ((mkL s.o 27 0 0 0 (r1 s x) s.av s.sv s.tv) :: L) → ok (k14 kp kb ah ag sm sb tm tb bn 0 (nI L.length) (nI (k + 1))) Q) : ok (fX9_worked_14 lf lt cds vo k14 kp kb ah ag sm sb tm tb bn 0 (nI L.length) (nI k)) Q := by
  have hi2 : inb (0 : Int32) 2 = true := nB (k := 0) (by omega) (by omega)
  have c0 : (0 : Int32).toNatClampNeg = 0 := rfl
  have hkk : inb (nI k) 2000 = true := nB (by omega) (by omega)
  have ck : (nI k).toNatClampNeg = k := nC (by omega)
  have nle : ¬ nI m ≤ nI k := fun q => absurd (nI_lt hk (by omega)) (Int32.not_lt.mpr q)
  have hi : inb (nI L.length) 7 = true := nB h6 (by omega)
  have ci : (nI L.length).toNatClampNeg = L.length := nC (by omega)
  obtain ⟨hS, hx, hL⟩ := hR
  unfold fX9_worked_14
  rw [hi2, cond_true, c0, hlt, if_neg nle, hkk, cond_true, ck, hc, if_neg (show ¬ nI 27 = 28 by decide), if_neg (show ¬ nI 27 = 30 by decide), if_neg (show ¬ nI 27 = 20 by decide), if_neg (show ¬ nI 27 = 21 by decide), if_neg (show ¬ nI 27 = 22 by decide), if_neg (show ¬ nI 27 = 24 by decide), if_neg (show ¬ nI 27 = 25 by decide), if_neg (show ¬ nI 27 = 26 by decide), if_pos (show nI 27 = 27 from rfl)]
  unfold fX9_worked_194
  rw [m_tests h6 hS hx hO]
  simp only [Option.bind_some]
  rw [hi, cond_true, ci, nI_1]
  refine hQ _ _ _ _ _ _ _ _ _ ⟨⟨pk_us, fun _ => pk_us, pk_us, fun q => absurd rfl q, pk_us, pk_us, hS.2.2.2.2.2.2⟩, pk_us, fun q => absurd rfl q, RegL_congr hL (fun j hj => ⟨pk_un (by omega), pk_un (by omega), rfl, pk_un (by omega), (pk_un (by omega)).trans (pk_un (by omega)), pk_un (by omega), rfl, pk_un (by omega), rfl⟩)⟩
theorem m_p29 {m k : Nat} {s : Lv} {L : List Lv} {x : Sv} (hlt : lt 0 = nI m) (hk : k < m) (hm : m ≤ 1000) (hc : cds k = nI 29) (h6 : L.length < 7) (h0 : L ≠ []) (hO : LvO s) (hW : WfL L) (hR : RegR ⟨kp, kb, ah, ag, sm, sb, tm, tb, bn⟩ e (s :: L, some x)) (hQ : ∀ (kp kb ah ag sm sb tm tb bn : Nat → Int32), RegR ⟨kp, kb, ah, ag, sm, sb, tm, tb, bn⟩ e (arS (arr L (r1 s x))) → ok (k14 kp kb ah ag sm sb tm tb bn 0 (nI ((arr L (r1 s x)).1.length - 1)) (nI (k + 1))) Q) : ok (fX9_worked_14 lf lt cds vo k14 kp kb ah ag sm sb tm tb bn 0 (nI L.length) (nI k)) Q := by
  have hi2 : inb (0 : Int32) 2 = true := nB (k := 0) (by omega) (by omega)
  have c0 : (0 : Int32).toNatClampNeg = 0 := rfl
  have hkk : inb (nI k) 2000 = true := nB (by omega) (by omega)
  have ck : (nI k).toNatClampNeg = k := nC (by omega)
  have nle : ¬ nI m ≤ nI k := fun q => absurd (nI_lt hk (by omega)) (Int32.not_lt.mpr q)
  have hi : inb (nI L.length) 7 = true := nB h6 (by omega)
  have ci : (nI L.length).toNatClampNeg = L.length := nC (by omega)
  have h1 : 0 < L.length := List.length_pos_iff.mpr h0
  obtain ⟨hS, hx, hL⟩ := hR
  unfold fX9_worked_14
  rw [hi2, cond_true, c0, hlt, if_neg nle, hkk, cond_true, ck, hc, if_neg (show ¬ nI 29 = 28 by decide), if_neg (show ¬ nI 29 = 30 by decide), if_neg (show ¬ nI 29 = 20 by decide), if_neg (show ¬ nI 29 = 21 by decide), if_neg (show ¬ nI 29 = 22 by decide), if_neg (show ¬ nI 29 = 24 by decide), if_neg (show ¬ nI 29 = 25 by decide), if_neg (show ¬ nI 29 = 26 by decide), if_neg (show ¬ nI 29 = 27 by decide), if_pos (show nI 29 < 100 by decide), if_pos (show (20 : Int32) ≤ nI 29 by decide)]
  unfold fX9_worked_243
  rw [if_pos (show nI 29 = 29 from rfl), m_tests h6 hS hx hO]
  simp only [Option.bind_some]
  rw [hi, cond_true, ci, pk_us, sb_m1 h1]
  refine m_arr L (r1 s x) FU hW (by omega) (by unfold FU; omega) (RegL_congr hL (fun j hj => ⟨pk_un (by omega), rfl, rfl, pk_un (by omega), (pk_un (by omega)).trans (pk_un (by omega)), pk_un (by omega), rfl, pk_un (by omega), rfl⟩)) (fun tm' q => ?_)
  rw [nI_1]
  exact hQ _ _ _ _ _ _ _ _ _ q
theorem m_wstep {m k c : Nat} {X : AS} (hlt : lt 0 = nI m) (hk : k < m) (hm : m ≤ 1000) (hc : cds k = nI c) (hv : vo 1 = e.1 ∧ vo 2 = e.2.1 ∧ vo 3 = e.2.2.1 ∧ vo 4 = e.2.2.2) (hW : WfA X) (hg : gds X c) (hR : RegR ⟨kp, kb, ah, ag, sm, sb, tm, tb, bn⟩ e X) (hQ : ∀ (kp kb ah ag sm sb tm tb bn : Nat → Int32), RegR ⟨kp, kb, ah, ag, sm, sb, tm, tb, bn⟩ e (ast X c) → ok (k14 kp kb ah ag sm sb tm tb bn 0 (nI ((ast X c).1.length - 1)) (nI (k + 1))) Q) : ok (fX9_worked_14 lf lt cds vo k14 kp kb ah ag sm sb tm tb bn 0 (nI (X.1.length - 1)) (nI k)) Q := by
  obtain ⟨L, x⟩ := X
  cases x with
  | none =>
    obtain ⟨h5, hg⟩ := hg
    have hW : WfL L := hW.1
    rcases hg with q | q | q | q
    · subst q
      cases L with
      | nil => exact absurd hW id
      | cons s L => exact m_o28 hlt hk hm hc h5 hR hQ
    · subst q
      cases L with
      | nil => exact absurd hW id
      | cons s L => exact m_o30 hlt hk hm hc h5 hR hQ
    · rcases (show c = 1 ∨ c = 2 ∨ c = 3 ∨ c = 4 by omega) with q | q | q | q
      · subst q; exact m_f1 hlt hk hm hc hv.1 hW (show L.length ≤ 7 by omega) hR (fun tm' h => hQ _ _ _ _ _ _ _ _ _ h)
      · subst q; exact m_f2 hlt hk hm hc hv.2.1 hW (show L.length ≤ 7 by omega) hR (fun tm' h => hQ _ _ _ _ _ _ _ _ _ h)
      · subst q; exact m_f3 hlt hk hm hc hv.2.2.1 hW (show L.length ≤ 7 by omega) hR (fun tm' h => hQ _ _ _ _ _ _ _ _ _ h)
      · subst q; exact m_f4 hlt hk hm hc hv.2.2.2 hW (show L.length ≤ 7 by omega) hR (fun tm' h => hQ _ _ _ _ _ _ _ _ _ h)
    · have ea : ast (L, none) c = arS (arr L (fun _ => nI (c - 100))) := by
        show astN L c = _
        unfold astN
        rw [if_neg (by omega), if_neg (by omega), if_neg (by omega)]
      rw [ea] at hQ
      exact m_num hlt hk hm hc q hW (show L.length ≤ 7 by omega) hR (fun tm' h => hQ _ _ _ _ _ _ _ _ _ h)
  | some x =>
    cases L with
    | nil => exact absurd hg id
    | cons s L =>
      have h6 : L.length < 7 := by have : L.length + 1 ≤ 6 := hg.1; omega
      have hO := WfL_O hW.1
      rcases hg.2 with q | q | q | q | q | q | q | q
      · subst q; exact m_p20 hlt hk hm hc h6 hO hR hQ
      · subst q; exact m_p21 hlt hk hm hc h6 hO hR hQ
      · subst q; exact m_p22 hlt hk hm hc h6 hO hR hQ
      · subst q; exact m_p24 hlt hk hm hc h6 hO hR hQ
      · subst q; exact m_p25 hlt hk hm hc h6 hO hR hQ
      · subst q; exact m_p26 hlt hk hm hc h6 hO hR hQ
      · subst q; exact m_p27 hlt hk hm hc h6 hO hR hQ
      · obtain ⟨q, q2⟩ := q
        subst q
        exact m_p29 hlt hk hm hc h6 q2 hO (WfL_t hW.1 q2) hR hQ
end WD
theorem m_worked {lf lt cds vo kp kb ah ag sm sb tm tb bn : Nat → Int32} {C : CC} {s : Lv} {x : Sv} (hlf : lf 0 = 0) (hlt : lt 0 = nI C.1) (hm : C.1 ≤ 1000) (hC : CdR cds 0 C) (hG : Gd C) (hE : arun C = ([s], some x)) : ok (fX9_worked lf lt cds vo kp kb ah ag sm sb tm tb bn 0) (fun r => r.1 = r1 s x (vo 1, vo 2, vo 3, vo 4)) := by
  unfold fX9_worked
  rw [show (0 : Int32) = nI 0 from rfl, m_opens (i := 0) (by omega)]
  simp only [Option.bind_some]
  rw [nB (k := 0) (by omega) (by omega), cond_true, show (nI 0).toNatClampNeg = 0 from rfl, hlf]
  refine ok_for11 C.1 (fun k kp kb ah ag sm sb tm tb bn v1 v2 => v1 = 0 ∧ v2 = nI ((arn C.2 k).1.length - 1) ∧ RegR ⟨kp, kb, ah, ag, sm, sb, tm, tb, bn⟩ (vo 1, vo 2, vo 3, vo 4) (arn C.2 k)) ?_ ?_ FU 0 _ _ _ _ _ _ _ _ _ _ _ (Nat.zero_le _) ⟨rfl, rfl, ⟨@pk_us kb 0 0, fun q => absurd rfl q, @pk_us ag 0 0, fun q => absurd rfl q, @pk_us sb 0 20, @pk_us sm 0 0, fun q => absurd q (by decide)⟩, @pk_us tb 0 0, fun q => absurd rfl q, trivial⟩ (by unfold FU; omega)
  · rintro kk kp kb ah ag sm sb tm tb bn v1 v2 k hk ⟨rfl, rfl, hR⟩ hn
    have hc := hC k hk
    rw [Nat.zero_add] at hc
    exact m_wstep hlt hk hm hc ⟨rfl, rfl, rfl, rfl⟩ (WfA_run (fun j hj => hG j (by omega))) (hG k hk) hR (fun kp kb ah ag sm sb tm tb bn h => hn _ _ _ _ _ _ _ _ _ _ _ ⟨rfl, rfl, h⟩)
  · rintro kk kp kb ah ag sm sb tm tb bn v1 v2 ⟨rfl, rfl, hR⟩
    have hW : WfA (arun C) := WfA_run hG
    have hR : RegR ⟨kp, kb, ah, ag, sm, sb, tm, tb, bn⟩ (vo 1, vo 2, vo 3, vo 4) (arun C) := hR
    rw [hE] at hR hW
    obtain ⟨hS, hx, _⟩ := hR
    unfold fX9_worked_14
    rw [show inb (0 : Int32) 2 = true from nB (k := 0) (n := 2) (by omega) (by omega), cond_true, show (0 : Int32).toNatClampNeg = 0 from rfl, hlt, if_pos (show nI C.1 ≤ nI C.1 from Int32.le_refl _), show (0 : Int32) = nI 0 from rfl, m_tests (i := 0) (s := s) (x := x) (by omega) hS hx (WfL_O hW.1)]
    exact ok_some (@pk_us kp 0 (r1 s x (vo 1, vo 2, vo 3, vo 4)))
