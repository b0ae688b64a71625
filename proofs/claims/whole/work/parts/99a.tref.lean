/-! a terrace half read, both sides -/
theorem ext0 {f : Nat → Int32} {g : Nat → Nat} {n v : Nat} (h : ∀ i, i < n → f i = nI (g i)) : ∀ i, i < n + 1 → upd f n (nI v) i = nI (if i = n then v else g i) := fun i hi => by
  by_cases e : i = n
  · rw [if_pos e, e, pk_us]
  · rw [if_neg e, pk_un e]; exact h i (by omega)
theorem extS {f : Nat → Int32} {g : Nat → Nat} {n v s : Nat} (h : ∀ i, i < n → f (s + i) = nI (g i)) : ∀ i, i < n + 1 → upd f (s + n) (nI v) (s + i) = nI (if i = n then v else g i) := fun i hi => by
  by_cases e : i = n
  · rw [if_pos e, e, pk_us]
  · rw [if_neg e, pk_un (by omega)]; exact h i (by omega)
theorem extK {f : Nat → Int32} {g : Nat → Nat} {n v : Nat} (h : ∀ i, i < n → f i = nI (143 + g i)) : ∀ i, i < n + 1 → upd f n (nI (143 + v)) i = nI (143 + (if i = n then v else g i)) := fun i hi => by
  by_cases e : i = n
  · rw [if_pos e, e, pk_us]
  · rw [if_neg e, pk_un e]; exact h i (by omega)
theorem orb0 {f : Nat → Int32} {g : Nat → Nat} {n i j s : Nat} (hij : i ≠ j) (h : ∀ k, k < n → f (s + k) = nI (g k)) : ∀ k, k < n → upd (upd f (s + i) (nI (g i ||| 2 ^ j))) (s + j) (nI (g j ||| 2 ^ i)) (s + k) = nI (orB g i j k) := fun k hk => by
  unfold orB
  by_cases e : k = j
  · rw [if_pos e, e, pk_us]
  · rw [if_neg e, pk_un (by omega)]
    by_cases e2 : k = i
    · rw [if_pos e2, e2, pk_us]
    · rw [if_neg e2, pk_un (by omega)]; exact h k hk
def CU (U : Ter) (isS : Bool) (colds holes guests sack : Int32) (fw cold hf ct bu be kd gf : Nat → Int32) : Prop := colds = nI (tN U) ∧ holes = nI (tH U) ∧ guests = nI (tG U) ∧ sack = (if isS = true then nI (tS U) else 0) ∧ (isS = false → tS U = 5) ∧ (∀ f, f < 10 → fw f = nI (twb U f)) ∧ (∀ i, i < tN U → cold i = nI (tco U i)) ∧ (∀ h, h < tH U → hf h = nI (tfl U h)) ∧ (∀ h, h < tH U → ct h = nI (tct U h)) ∧ (∀ h, h < tH U → bu h = nI (tbu U h)) ∧ (∀ h, h < tH U → be h = nI (tbe U h)) ∧ (∀ h, tH U ≤ h → h < 5 → be h = 0) ∧ (∀ w, w < tG U → kd w = nI (143 + tkd U w)) ∧ (∀ w, w < tG U → gf w = nI (tgf U w))
def MU (U : Ter) (isS : Bool) (ms : Int32) (te hf ct bu wl kd gf wr cd : Nat → Int32) : Prop := ms = nI (b2 isS) ∧ te 4 = nI (tH U) ∧ te 5 = nI (tG U) ∧ te 6 = nI (tS U) ∧ te 7 = nI (tN U) ∧ (∀ f, f < 10 → wr (10 + f) = nI (twb U f)) ∧ (∀ i, i < tN U → cd (12 + i) = nI (tco U i)) ∧ (∀ h, h < tH U → hf (5 + h) = nI (tfl U h)) ∧ (∀ h, h < tH U → ct (5 + h) = nI (tct U h)) ∧ (∀ h, h < tH U → bu (5 + h) = nI (tbu U h)) ∧ (∀ h, h < tH U → wl (5 + h) = nI (tbe U h)) ∧ (∀ w, w < tG U → kd (5 + w) = nI (tkd U w)) ∧ (∀ w, w < tG U → gf (5 + w) = nI (tgf U w))
def NU (U : Ter) (NH NG : Nms) (hn gn mhn mgn : Nat → Int64) : Prop := WN NH (tH U) ∧ CN_ NH (tH U) hn ∧ MN_ NH (tH U) 1 mhn ∧ WN NG (tG U) ∧ CN_ NG (tG U) gn ∧ MN_ NG (tG U) 1 mgn
def LU (tl : Bool) (len : Int32) (code lf lt cds : Nat → Int32) (co : Int32) : Prop := lf 1 = nI 1000 ∧ (if tl = true then LwGood code cds len co ∧ lt 1 = co else len = nI 0 ∧ lt 1 = nI 1000 ∧ co = nI 1000)
def FrT (te hf ct bu wl kd gf wr cd lf lt cds : Nat → Int32) (hn gn : Nat → Int64) (te' hf' ct' bu' wl' kd' gf' wr' cd' lf' lt' cds' : Nat → Int32) (hn' gn' : Nat → Int64) : Prop := (∀ j, j < 4 → te' j = te j) ∧ (∀ j, j < 5 → hf' j = hf j) ∧ (∀ j, j < 5 → ct' j = ct j) ∧ (∀ j, j < 5 → bu' j = bu j) ∧ (∀ j, j < 5 → wl' j = wl j) ∧ (∀ j, j < 5 → kd' j = kd j) ∧ (∀ j, j < 5 → gf' j = gf j) ∧ (∀ j, j < 10 → wr' j = wr j) ∧ (∀ j, j < 12 → cd' j = cd j) ∧ lf' 0 = lf 0 ∧ lt' 0 = lt 0 ∧ (∀ j, j < 1000 → cds' j = cds j) ∧ (∀ j, j < 5 → hn' j = hn j) ∧ (∀ j, j < 5 → gn' j = gn j)
theorem FrT_rfl {te hf ct bu wl kd gf wr cd lf lt cds : Nat → Int32} {hn gn : Nat → Int64} : FrT te hf ct bu wl kd gf wr cd lf lt cds hn gn te hf ct bu wl kd gf wr cd lf lt cds hn gn := ⟨fun _ _ => rfl, fun _ _ => rfl, fun _ _ => rfl, fun _ _ => rfl, fun _ _ => rfl, fun _ _ => rfl, fun _ _ => rfl, fun _ _ => rfl, fun _ _ => rfl, rfl, rfl, fun _ _ => rfl, fun _ _ => rfl, fun _ _ => rfl⟩
theorem FrT_tr {te hf ct bu wl kd gf wr cd lf lt cds te' hf' ct' bu' wl' kd' gf' wr' cd' lf' lt' cds' te2 hf2 ct2 bu2 wl2 kd2 gf2 wr2 cd2 lf2 lt2 cds2 : Nat → Int32} {hn gn hn' gn' hn2 gn2 : Nat → Int64} (h : FrT te hf ct bu wl kd gf wr cd lf lt cds hn gn te' hf' ct' bu' wl' kd' gf' wr' cd' lf' lt' cds' hn' gn') (g : FrT te' hf' ct' bu' wl' kd' gf' wr' cd' lf' lt' cds' hn' gn' te2 hf2 ct2 bu2 wl2 kd2 gf2 wr2 cd2 lf2 lt2 cds2 hn2 gn2) : FrT te hf ct bu wl kd gf wr cd lf lt cds hn gn te2 hf2 ct2 bu2 wl2 kd2 gf2 wr2 cd2 lf2 lt2 cds2 hn2 gn2 := by
  obtain ⟨a1, a2, a3, a4, a5, a6, a7, a8, a9, a10, a11, a12, a13, a14⟩ := h
  obtain ⟨b1, b2, b3, b4, b5, b6, b7, b8, b9, b10, b11, b12, b13, b14⟩ := g
  exact ⟨fun j e => (b1 j e).trans (a1 j e), fun j e => (b2 j e).trans (a2 j e), fun j e => (b3 j e).trans (a3 j e), fun j e => (b4 j e).trans (a4 j e), fun j e => (b5 j e).trans (a5 j e), fun j e => (b6 j e).trans (a6 j e), fun j e => (b7 j e).trans (a7 j e), fun j e => (b8 j e).trans (a8 j e), fun j e => (b9 j e).trans (a9 j e), b10.trans a10, b11.trans a11, fun j e => (b12 j e).trans (a12 j e), fun j e => (b13 j e).trans (a13 j e), fun j e => (b14 j e).trans (a14 j e)⟩
section UP
variable {U : Ter} {isS : Bool} {colds holes guests sack ms : Int32} {fw cold hf ct bu be kd gf te mhf mct mbu wl mkd mgf wr cd : Nat → Int32} {NH NG : Nms} {hn gn mhn mgn : Nat → Int64}
theorem CU_hole {v1 v2 v3 : Nat} (h : CU U isS colds holes guests sack fw cold hf ct bu be kd gf) (h5 : tH U < 5) : CU (uHole U v1 v2 v3) isS colds (nI (tH U + 1)) guests sack fw cold (upd hf (tH U) (nI v1)) (upd ct (tH U) (nI v2)) (upd bu (tH U) (nI v3)) be kd gf := by
  obtain ⟨a1, a2, a3, a4, a5, a6, a7, a8, a9, a10, a11, a12, a13, a14⟩ := h
  refine ⟨a1, rfl, a3, a4, a5, a6, a7, ext0 a8, ext0 a9, ext0 a10, fun x hx => ?_, fun x hx => ?_, a13, a14⟩
  · have hx : x < tH U + 1 := hx
    show be x = nI (if x = tH U then 0 else tbe U x)
    by_cases e : x = tH U
    · rw [if_pos e, e]; exact a12 _ (Nat.le_refl _) h5
    · rw [if_neg e]; exact a11 x (by omega)
  · have hx : tH U + 1 ≤ x := hx
    exact a12 x (by omega)
theorem MU_hole {v1 v2 v3 : Nat} (h : MU U isS ms te mhf mct mbu wl mkd mgf wr cd) : MU (uHole U v1 v2 v3) isS ms (upd te 4 (nI (tH U + 1))) (upd mhf (5 + tH U) (nI v1)) (upd mct (5 + tH U) (nI v2)) (upd mbu (5 + tH U) (nI v3)) (upd wl (5 + tH U) 0) mkd mgf wr cd := by
  obtain ⟨a1, a2, a3, a4, a5, a6, a7, a8, a9, a10, a11, a12, a13⟩ := h
  exact ⟨a1, pk_us, (pk_un (by decide)).trans a3, (pk_un (by decide)).trans a4, (pk_un (by decide)).trans a5, a6, a7, extS a8, extS a9, extS a10, extS (v := 0) a11, a12, a13⟩
theorem NU_hole {v1 v2 v3 : Nat} {nn : Nat × (Nat → Nat)} (h : NU U NH NG hn gn mhn mgn) (hn_ : gN nn) : NU (uHole U v1 v2 v3) (adN NH (tH U) nn) NG (vp_updL hn (tH U) (lN (nm nn.2 0 nn.1))) gn (vp_updL mhn (5 + tH U) (lN (wd_ nn.2 0 nn.1))) mgn := ⟨adN_W h.1 hn_, adN_C h.2.1, adN_M h.2.2.1, h.2.2.2.1, h.2.2.2.2.1, h.2.2.2.2.2⟩
theorem CU_guest {k v : Nat} (h : CU U isS colds holes guests sack fw cold hf ct bu be kd gf) : CU (uGuest U k v) isS colds holes (nI (tG U + 1)) sack fw cold hf ct bu be (upd kd (tG U) (nI (143 + k))) (upd gf (tG U) (nI v)) := by
  obtain ⟨a1, a2, a3, a4, a5, a6, a7, a8, a9, a10, a11, a12, a13, a14⟩ := h
  exact ⟨a1, a2, rfl, a4, a5, a6, a7, a8, a9, a10, a11, a12, extK a13, ext0 a14⟩
theorem MU_guest {k v : Nat} (h : MU U isS ms te mhf mct mbu wl mkd mgf wr cd) : MU (uGuest U k v) isS ms (upd te 5 (nI (tG U + 1))) mhf mct mbu wl (upd mkd (5 + tG U) (nI k)) (upd mgf (5 + tG U) (nI v)) wr cd := by
  obtain ⟨a1, a2, a3, a4, a5, a6, a7, a8, a9, a10, a11, a12, a13⟩ := h
  exact ⟨a1, (pk_un (by decide)).trans a2, pk_us, (pk_un (by decide)).trans a4, (pk_un (by decide)).trans a5, a6, a7, a8, a9, a10, a11, extS a12, extS a13⟩
theorem NU_guest {k v : Nat} {nn : Nat × (Nat → Nat)} (h : NU U NH NG hn gn mhn mgn) (hn_ : gN nn) : NU (uGuest U k v) NH (adN NG (tG U) nn) hn (vp_updL gn (tG U) (lN (nm nn.2 0 nn.1))) mhn (vp_updL mgn (5 + tG U) (lN (wd_ nn.2 0 nn.1))) := ⟨h.1, h.2.1, h.2.2.1, adN_W h.2.2.2.1 hn_, adN_C h.2.2.2.2.1, adN_M h.2.2.2.2.2⟩
theorem CU_wall {i j : Nat} (h : CU U isS colds holes guests sack fw cold hf ct bu be kd gf) (hi : i < tH U) (hj : j < tH U) (hij : i ≠ j) : CU (uWall U i j) isS colds holes guests sack fw cold hf ct bu (upd (upd be i (nI (tbe U i ||| 2 ^ j))) j (nI (tbe U j ||| 2 ^ i))) kd gf := by
  obtain ⟨a1, a2, a3, a4, a5, a6, a7, a8, a9, a10, a11, a12, a13, a14⟩ := h
  refine ⟨a1, a2, a3, a4, a5, a6, a7, a8, a9, a10, fun x hx => ?_, fun x hx h5 => ?_, a13, a14⟩
  · have := orb0 (f := be) (g := tbe U) (n := tH U) (s := 0) hij (fun k hk => by rw [Nat.zero_add]; exact a11 k hk) x hx
    rw [Nat.zero_add, Nat.zero_add, Nat.zero_add] at this
    exact this
  · have hx : tH U ≤ x := hx
    rw [pk_un (by omega), pk_un (by omega)]
    exact a12 x hx h5
theorem MU_wall {i j : Nat} (h : MU U isS ms te mhf mct mbu wl mkd mgf wr cd) (hij : i ≠ j) : MU (uWall U i j) isS ms te mhf mct mbu (upd (upd wl (5 + i) (nI (tbe U i ||| 2 ^ j))) (5 + j) (nI (tbe U j ||| 2 ^ i))) mkd mgf wr cd := by
  obtain ⟨a1, a2, a3, a4, a5, a6, a7, a8, a9, a10, a11, a12, a13⟩ := h
  exact ⟨a1, a2, a3, a4, a5, a6, a7, a8, a9, a10, orb0 hij a11, a12, a13⟩
theorem CU_war {i j : Nat} (h : CU U isS colds holes guests sack fw cold hf ct bu be kd gf) (hij : i ≠ j) : CU (uWar U i j) isS colds holes guests sack (upd (upd fw i (nI (twb U i ||| 2 ^ j))) j (nI (twb U j ||| 2 ^ i))) cold hf ct bu be kd gf := by
  obtain ⟨a1, a2, a3, a4, a5, a6, a7, a8, a9, a10, a11, a12, a13, a14⟩ := h
  refine ⟨a1, a2, a3, a4, a5, fun x hx => ?_, a7, a8, a9, a10, a11, a12, a13, a14⟩
  have := orb0 (f := fw) (g := twb U) (n := 10) (s := 0) hij (fun k hk => by rw [Nat.zero_add]; exact a6 k hk) x hx
  rw [Nat.zero_add, Nat.zero_add, Nat.zero_add] at this
  exact this
theorem MU_war {i j : Nat} (h : MU U isS ms te mhf mct mbu wl mkd mgf wr cd) (hij : i ≠ j) : MU (uWar U i j) isS ms te mhf mct mbu wl mkd mgf (upd (upd wr (10 + i) (nI (twb U i ||| 2 ^ j))) (10 + j) (nI (twb U j ||| 2 ^ i))) cd := by
  obtain ⟨a1, a2, a3, a4, a5, a6, a7, a8, a9, a10, a11, a12, a13⟩ := h
  exact ⟨a1, a2, a3, a4, a5, orb0 hij a6, a7, a8, a9, a10, a11, a12, a13⟩
theorem CU_cold {N : Nat} {co : Nat → Nat} {cold' cd' : Nat → Int32} (h : CU U isS colds holes guests sack fw cold hf ct bu be kd gf) (hc : CoP N co cold' cd') : CU (uCold U N co) isS (nI N) holes guests sack fw cold' hf ct bu be kd gf := by
  obtain ⟨a1, a2, a3, a4, a5, a6, a7, a8, a9, a10, a11, a12, a13, a14⟩ := h
  exact ⟨rfl, a2, a3, a4, a5, a6, fun i hi => (hc i hi).2.1, a8, a9, a10, a11, a12, a13, a14⟩
theorem MU_cold {N : Nat} {co : Nat → Nat} {cold' te' cd' : Nat → Int32} (h : MU U isS ms te mhf mct mbu wl mkd mgf wr cd) (hc : CoP N co cold' cd') (h7 : te' 7 = nI N) (ht : ∀ j, j ≠ 7 → te' j = te j) : MU (uCold U N co) isS ms te' mhf mct mbu wl mkd mgf wr cd' := by
  obtain ⟨a1, a2, a3, a4, a5, a6, a7, a8, a9, a10, a11, a12, a13⟩ := h
  exact ⟨a1, (ht 4 (by decide)).trans a2, (ht 5 (by decide)).trans a3, (ht 6 (by decide)).trans a4, h7, a6, fun i hi => (hc i hi).2.2, a8, a9, a10, a11, a12, a13⟩
theorem CU_sack {v : Nat} (h : CU U isS colds holes guests sack fw cold hf ct bu be kd gf) : CU (uSack U v) true colds holes guests (nI v) fw cold hf ct bu be kd gf := by
  obtain ⟨a1, a2, a3, a4, a5, a6, a7, a8, a9, a10, a11, a12, a13, a14⟩ := h
  exact ⟨a1, a2, a3, rfl, fun e => absurd e (by decide), a6, a7, a8, a9, a10, a11, a12, a13, a14⟩
theorem MU_sack {v : Nat} (h : MU U isS ms te mhf mct mbu wl mkd mgf wr cd) : MU (uSack U v) true 1 (upd te 6 (nI v)) mhf mct mbu wl mkd mgf wr cd := by
  obtain ⟨a1, a2, a3, a4, a5, a6, a7, a8, a9, a10, a11, a12, a13⟩ := h
  exact ⟨rfl, (pk_un (by decide)).trans a2, (pk_un (by decide)).trans a3, pk_us, (pk_un (by decide)).trans a5, a6, a7, a8, a9, a10, a11, a12, a13⟩
end UP
/-! the reference's rows -/
theorem m_usual1 {te wrs : Nat → Int32} : ok (fX9_usual te wrs 1) (fun r => r.1 4 = 0 ∧ r.1 5 = 0 ∧ r.1 6 = 5 ∧ r.1 7 = 0 ∧ (∀ j, j < 4 → r.1 j = te j) ∧ (∀ f, f < 10 → r.2 (10 + f) = 0) ∧ ∀ j, j < 10 → r.2 j = wrs j) := by
  unfold fX9_usual
  rw [show (4 : Int32) * 1 + 0 = nI 4 by decide, show (4 : Int32) * 1 + 1 = nI 5 by decide, show (4 : Int32) * 1 + 2 = nI 6 by decide, show (4 : Int32) * 1 + 3 = nI 7 by decide]
  refine ok_g (nB (by omega) (by omega)) (ok_g (nB (by omega) (by omega)) (ok_g (nB (by omega) (by omega)) (ok_g (nB (by omega) (by omega)) ?_)))
  rw [nC (by omega), nC (by omega), nC (by omega), nC (by omega)]
  refine ok_for3 10 (fun i a1 a2 a3 => a1 = upd (upd (upd (upd te 4 0) 5 0) 6 5) 7 0 ∧ a3 = nI 1 ∧ (∀ f, f < i → a2 (10 + f) = 0) ∧ ∀ j, j < 10 → a2 j = wrs j) ?_ ?_ FU 0 _ wrs 1 (by omega) ⟨rfl, rfl, fun f hf => absurd hf (Nat.not_lt_zero _), fun _ _ => rfl⟩ (by unfold FU; omega)
  · rintro kk a1 a2 a3 i hi ⟨rfl, rfl, h1, h2⟩ hn
    unfold fX9_usual_46
    rw [show (10 : Int32) * nI 1 = nI 10 by decide, nI_add, nC (by omega), nI_1]
    refine ok_f (show ¬ (10 : Int32) ≤ nI i from nI_ge (b := 10) hi (by omega)) (ok_g (nB (by omega) (by omega)) (hn _ _ _ ⟨rfl, rfl, fun f hf => ?_, fun j hj => (pk_un (by omega)).trans (h2 j hj)⟩))
    by_cases e : f = i
    · rw [e]; exact pk_us
    · rw [pk_un (by omega)]; exact h1 f (by omega)
  · rintro kk a1 a2 a3 ⟨rfl, rfl, h1, h2⟩
    unfold fX9_usual_46
    refine ok_t (by decide) (ok_some ⟨?_, ?_, ?_, @pk_us (upd (upd (upd te 4 0) 5 0) 6 5) 7 0, fun j hj => ?_, h1, h2⟩)
    · show upd (upd (upd (upd te 4 0) 5 0) 6 5) 7 0 4 = 0
      rw [pk_un (by decide), pk_un (by decide), pk_un (by decide), pk_us]
    · show upd (upd (upd (upd te 4 0) 5 0) 6 5) 7 0 5 = 0
      rw [pk_un (by decide), pk_un (by decide), pk_us]
    · show upd (upd (upd (upd te 4 0) 5 0) 6 5) 7 0 6 = 5
      rw [pk_un (by decide), pk_us]
    · show upd (upd (upd (upd te 4 0) 5 0) 6 5) 7 0 j = te j
      rw [pk_un (by omega), pk_un (by omega), pk_un (by omega), pk_un (by omega)]
theorem m_shifts {n1 n : Nat} {a : Nat → Int32} (hn : n ≤ 1000) (h2 : 2 * n ≤ n1) (h1 : n1 ≤ 2000) : ok (fX9_shifts n1 a (nI n)) (fun r => ∀ j, j < n → r j = a (n + j)) := by
  unfold fX9_shifts
  refine ok_for2 n (fun i b v => v = nI n ∧ (∀ j, j < i → b j = a (n + j)) ∧ ∀ j, i ≤ j → b j = a j) ?_ ?_ FU 0 a (nI n) (by omega) ⟨rfl, fun j hj => absurd hj (Nat.not_lt_zero _), fun _ _ => rfl⟩ (by unfold FU; omega)
  · rintro kk b v i hi ⟨rfl, g1, g2⟩ hk
    unfold fX9_shifts_2
    rw [nI_add, nC (show n + i < 2147483648 by omega), nC (show i < 2147483648 by omega), nI_1]
    refine ok_f (nI_ge hi (by omega)) (ok_g (nB (by omega) (by omega)) (ok_g (nB (by omega) (by omega)) (hk _ _ ⟨rfl, fun j hj => ?_, fun j hj => ?_⟩)))
    · by_cases e : j = i
      · rw [e, pk_us]; exact g2 _ (by omega)
      · rw [pk_un e]; exact g1 j (by omega)
    · rw [pk_un (by omega)]; exact g2 j (by omega)
  · rintro kk b v ⟨rfl, g1, g2⟩
    unfold fX9_shifts_2
    exact ok_t (Int32.le_refl _) (ok_some g1)
theorem m_shiftsN {a : Nat → Int64} : ok (fX9_shiftsNames 10 a) (fun r => ∀ j, j < 5 → r j = a (5 + j)) := by
  unfold fX9_shiftsNames
  refine ok_for1 5 (fun i b => (∀ j, j < i → b j = a (5 + j)) ∧ ∀ j, i ≤ j → b j = a j) ?_ ?_ FU 0 a (by omega) ⟨fun j hj => absurd hj (Nat.not_lt_zero _), fun _ _ => rfl⟩ (by unfold FU; omega)
  · rintro kk b i hi ⟨g1, g2⟩ hk
    unfold fX9_shiftsNames_2
    rw [show (5 : Int32) + nI i = nI (5 + i) from nI_add 5 i, nC (show 5 + i < 2147483648 by omega), nC (show i < 2147483648 by omega), nI_1]
    refine ok_f (show ¬ (5 : Int32) ≤ nI i from nI_ge (b := 5) hi (by omega)) (ok_g (nB (by omega) (by omega)) (ok_g (nB (by omega) (by omega)) (hk _ ⟨fun j hj => ?_, fun j hj => ?_⟩)))
    · by_cases e : j = i
      · rw [e, pk_uLs]; exact g2 _ (by omega)
      · rw [pk_uLn e]; exact g1 j (by omega)
    · rw [pk_uLn (by omega)]; exact g2 j (by omega)
  · rintro kk b ⟨g1, g2⟩
    unfold fX9_shiftsNames_2
    exact ok_t (by decide) (ok_some g1)
/-- the terrace read is laid down as the one told -/
theorem m_lays1 {U : Ter} {isS : Bool} {ms len co : Int32} {tl : Bool} {te hf ct bu wl kd gf wr cd lf lt cds code : Nat → Int32} {NH NG : Nms} {hn gn mhn mgn : Nat → Int64} (hM : MU U isS ms te hf ct bu wl kd gf wr cd) (hU : WT U) (hN : NU U NH NG hn gn mhn mgn) (hL : LU tl len code lf lt cds co) : ∃ al, LawC len code al ∧ ok (fX9_lays te hf ct bu wl kd gf wr cd lf lt cds mhn mgn) (fun r => MT (uLaw U al) r.1 r.2.1 r.2.2.1 r.2.2.2.1 r.2.2.2.2.1 r.2.2.2.2.2.1 r.2.2.2.2.2.2.1 r.2.2.2.2.2.2.2.1 r.2.2.2.2.2.2.2.2.1 r.2.2.2.2.2.2.2.2.2.1 r.2.2.2.2.2.2.2.2.2.2.1 r.2.2.2.2.2.2.2.2.2.2.2.1 ∧ MN_ NH (tH U) 0 r.2.2.2.2.2.2.2.2.2.2.2.2.1 ∧ MN_ NG (tG U) 0 r.2.2.2.2.2.2.2.2.2.2.2.2.2) := by
  have law : ∃ al, LawC len code al ∧ ∀ (cds' : Nat → Int32), (∀ j, j < 1000 → cds' j = cds (1000 + j)) → LawM (upd lf 0 (lf 1 - 1000)) (upd lt 0 (lt 1 - 1000)) cds' al := by
    obtain ⟨h1, h2⟩ := hL
    cases tl with
    | true =>
      obtain ⟨h2, h3⟩ : LwGood code cds len co ∧ lt 1 = co := h2
      obtain ⟨al, c, m⟩ := LwGood_law h2
      exact ⟨al, c, fun cds' e => m _ _ cds' (by rw [pk_us, h1]; decide) (by rw [pk_us, h3]) e⟩
    | false =>
      obtain ⟨h2, h3, h4⟩ : len = nI 0 ∧ lt 1 = nI 1000 ∧ co = nI 1000 := h2
      exact ⟨fun l i _ _ => decide (i * 4 < l), by rw [h2]; exact LawC_0, fun cds' e => LawM_0 (by rw [pk_us, pk_us, h1, h3])⟩
  obtain ⟨al, c, m⟩ := law
  obtain ⟨a1, a2, a3, a4, a5, a6, a7, a8, a9, a10, a11, a12, a13⟩ := hM
  have u1 := hU.1
  have u2 := hU.2.1
  have u4 := hU.2.2.2.1
  refine ⟨al, c, ?_⟩
  unfold fX9_lays
  refine ok_bind (ok_mono (m_shifts (n1 := 8) (n := 4) (by omega) (by omega) (by omega)) (fun y1 e1 => ?_))
  refine ok_bind (ok_mono m_shiftsN (fun y2 e2 => ok_bind (ok_mono m_shiftsN (fun y3 e3 => ?_))))
  refine ok_bind (ok_mono (m_shifts (n1 := 10) (n := 5) (by omega) (by omega) (by omega)) (fun y4 e4 => ?_))
  refine ok_bind (ok_mono (m_shifts (n1 := 10) (n := 5) (by omega) (by omega) (by omega)) (fun y5 e5 => ?_))
  refine ok_bind (ok_mono (m_shifts (n1 := 10) (n := 5) (by omega) (by omega) (by omega)) (fun y6 e6 => ?_))
  refine ok_bind (ok_mono (m_shifts (n1 := 10) (n := 5) (by omega) (by omega) (by omega)) (fun y7 e7 => ?_))
  refine ok_bind (ok_mono (m_shifts (n1 := 10) (n := 5) (by omega) (by omega) (by omega)) (fun y8 e8 => ?_))
  refine ok_bind (ok_mono (m_shifts (n1 := 10) (n := 5) (by omega) (by omega) (by omega)) (fun y9 e9 => ?_))
  refine ok_bind (ok_mono (m_shifts (n1 := 20) (n := 10) (by omega) (by omega) (by omega)) (fun y10 e10 => ?_))
  refine ok_bind (ok_mono (m_shifts (n1 := 24) (n := 12) (by omega) (by omega) (by omega)) (fun y11 e11 => ?_))
  refine ok_bind (ok_mono (m_shifts (n1 := 2000) (n := 1000) (by omega) (by omega) (by omega)) (fun y12 e12 => ?_))
  refine ok_some ⟨⟨(e1 0 (by omega)).trans a2, (e1 1 (by omega)).trans a3, (e1 2 (by omega)).trans a4, (e1 3 (by omega)).trans a5, fun i hi => (e11 i (by have : i < tN U := hi; omega)).trans (a7 i hi), fun h hh => (e4 h (by have : h < tH U := hh; omega)).trans (a8 h hh), fun h hh => (e5 h (by have : h < tH U := hh; omega)).trans (a9 h hh), fun h hh => (e6 h (by have : h < tH U := hh; omega)).trans (a10 h hh), fun h hh => (e7 h (by have : h < tH U := hh; omega)).trans (a11 h hh), fun h hh => (e8 h (by have : h < tG U := hh; omega)).trans (a12 h hh), fun h hh => (e9 h (by have : h < tG U := hh; omega)).trans (a13 h hh), fun f hf => (e10 f hf).trans (a6 f hf), m y12 e12⟩, fun k hk => ?_, fun k hk => ?_⟩
  · have := hN.2.2.1 k hk
    rw [show 5 * 0 + k = k by omega]
    show y2 k = _
    rw [e2 k (by omega)]
    exact this
  · have := hN.2.2.2.2.2 k hk
    rw [show 5 * 0 + k = k by omega]
    show y3 k = _
    rw [e3 k (by omega)]
    exact this
