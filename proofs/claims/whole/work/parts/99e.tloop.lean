/-! a terrace is read: the loop -/
section TL
variable {z : Nat → Nat} {n : Nat} {signs tape : Nat → Int32} {words : Nat → Int64}
/-- no sentence begins so -/
theorem p_te_none {zc : Int32 → Int32 → Int32 → Int32 → Int32 → Int32 → Int32 → Int32 → Int32 → Int32 → Int32 → Int32 → Int32 → Int32 → Int32 → Int32 → Int64 → (Nat → Int32) → (Nat → Int32) → (Nat → Int32) → (Nat → Int32) → (Nat → Int32) → (Nat → Int32) → (Nat → Int32) → (Nat → Int32) → (Nat → Int32) → (Nat → Int32) → (Nat → Int32) → (Nat → Int64) → (Nat → Int64) → Int32 → Option RCT} {zm : Int32 → Int32 → Int32 → Int32 → Int32 → Int32 → Int32 → Int32 → Int32 → Int32 → Int64 → Int64 → (Nat → Int32) → (Nat → Int32) → (Nat → Int32) → (Nat → Int32) → (Nat → Int32) → (Nat → Int32) → (Nat → Int32) → (Nat → Int32) → (Nat → Int32) → (Nat → Int32) → (Nat → Int32) → (Nat → Int32) → (Nat → Int32) → (Nat → Int32) → (Nat → Int64) → (Nat → Int64) → Option RMT} {k fc fm t : Nat} {U : Ter} {isS tl : Bool} {NH NG : Nms} {colds holes guests sack cat wan lw ln ll cb cp tp ct cnu ta mp mb mt mnu wr co ms gv : Int32} {cnm mwd fr : Int64} {fw cold hf cto bu be kd gf fo lco lst te mhf mct mbu wl mkd mgf wrs cd lf lt cds op cm : (Nat → Int32)} {hn gn mhn mgn : (Nat → Int64)} (hT : TpR z n signs tape words) (ih : ∀ k', k' < k → TeP z n signs tape words zc zm k') (hk : 138 ≤ pot U isS tl + k) (hfc : k + 2 ≤ fc) (hfm : k + 1 ≤ fm) (ht : t ≤ pot U isS tl) (hR : RdR z n cb cp ct cnu cnm mp mb mt mnu mwd) (hU : WT U) (hC : CU U isS colds holes guests sack fw cold hf cto bu be kd gf) (hM : MU U isS ms te mhf mct mbu wl mkd mgf wrs cd) (hN : NU U NH NG hn gn mhn mgn) (hL : LU tl ll lco lf lt cds co) {a : Nat} (ea : ct = nI a) (ha : a < 154) (h0 : ¬ a = 0) (hno : ¬ (a = 128 ∨ (132 ≤ a ∧ a ≤ 137))) : ok (itr (fun kk => fX6_readFrom_10 signs words kk) zc fc colds holes guests sack cat wan lw ln ll cb cp tp (nI n) ct cnu 0 cnm fw cold hf cto bu be kd gf fo lco lst hn gn (nI t)) (fun rc => ok (itr (fun kk => fX9_readsAll_39 tape kk) zm fm ta (nI n) mp mb mt mnu wr co ms gv mwd fr te mhf mct mbu wl mkd mgf wrs cd lf lt cds op cm mhn mgn) (fun rm => TEnd ta te mhf mct mbu wl mkd mgf wrs cd lf lt cds mhn mgn rc rm)) := by
  obtain ⟨fc, rfl⟩ : ∃ m, fc = m + 1 + 1 := ⟨fc - 2, by omega⟩
  obtain ⟨fm, rfl⟩ : ∃ m, fm = m + 1 := ⟨fm - 1, by omega⟩
  have hpl := pot_le (isS := isS) (tl := tl) hU
  have n1000 : ¬ (1000 : Int32) ≤ nI t := fun e => absurd (show nI t < 1000 from nI_lt (b := 1000) (by omega) (by omega)) (Int32.not_lt.mpr e)
  have hg := gdF_CU hU hC
  have hgu : guests = nI (tG U) := hC.2.2.1
  have hho : holes = nI (tH U) := hC.2.1
  show ok (fX6_readFrom_10 signs words (itr (fun kk => fX6_readFrom_10 signs words kk) zc (fc + 1)) colds holes guests sack cat wan lw ln ll cb cp tp (nI n) ct cnu 0 cnm fw cold hf cto bu be kd gf fo lco lst hn gn (nI t)) (fun rc => ok (fX9_readsAll_39 tape (itr (fun kk => fX9_readsAll_39 tape kk) zm fm) ta (nI n) mp mb mt mnu wr co ms gv mwd fr te mhf mct mbu wl mkd mgf wrs cd lf lt cds op cm mhn mgn) (fun rm => TEnd ta te mhf mct mbu wl mkd mgf wrs cd lf lt cds mhn mgn rc rm))
  have hR0 := hR
  obtain ⟨q0, r0, _, e02, _, e04, tk0⟩ := hR0
  have hq0 : q0 ≤ 1000 := by have := tk0.1; have := hT.1; omega
  have w0 := t_wd tk0 (gd7 hT.2.1) ha ea
  have ct0 : ¬ ct = 0 := by rw [ea]; exact fun e => h0 ((nI_eq (b := 0) (by omega) (by omega)).mp e)
  have mt0 : ¬ mt = 0 := fun e => ct0 ((t_zero tk0).mpr e)
  have nt : ∀ x : Nat, a ≠ x → ¬ ct.toInt = (x : Int) := fun x hx e => hx (by rw [ea] at e; exact (tI (by omega)).mp e)
  have nw : ∀ i, i < 26 → ∀ v : Int64, lN (Ww i) = v → a ≠ 128 + i → fX9_isWord mt mwd v = some 0 := fun i hi v ev hx => by
    rw [← ev, w0 i hi, decide_eq_false hx]; rfl
  have fl := flt hq0 (c := 1) (by omega) (by omega)
  have hr : fX5_refuse cp 0 1 = some (nI (1 + 16 * q0)) := by
    unfold fX5_refuse
    rw [if_pos rfl, e02, ← fl.1]; rfl
  have mF : ok (fX9_readsAll_39 tape (itr (fun kk => fX9_readsAll_39 tape kk) zm fm) ta (nI n) mp mb mt mnu wr co ms gv mwd fr te mhf mct mbu wl mkd mgf wrs cd lf lt cds op cm mhn mgn) (fun rm => rm.1 = 0 ∧ rm.2.2.2.2.2.2.2.1 = nI (1 + 16 * q0) ∧ rm.2.1 = ta ∧ FrT te mhf mct mbu wl mkd mgf wrs cd lf lt cds mhn mgn rm.2.2.2.2.2.2.2.2.2.2.2.2.2.1 rm.2.2.2.2.2.2.2.2.2.2.2.2.2.2.1 rm.2.2.2.2.2.2.2.2.2.2.2.2.2.2.2.1 rm.2.2.2.2.2.2.2.2.2.2.2.2.2.2.2.2.1 rm.2.2.2.2.2.2.2.2.2.2.2.2.2.2.2.2.2.1 rm.2.2.2.2.2.2.2.2.2.2.2.2.2.2.2.2.2.2.1 rm.2.2.2.2.2.2.2.2.2.2.2.2.2.2.2.2.2.2.2.1 rm.2.2.2.2.2.2.2.2.2.2.2.2.2.2.2.2.2.2.2.2.1 rm.2.2.2.2.2.2.2.2.2.2.2.2.2.2.2.2.2.2.2.2.2.1 rm.2.2.2.2.2.2.2.2.2.2.2.2.2.2.2.2.2.2.2.2.2.2.1 rm.2.2.2.2.2.2.2.2.2.2.2.2.2.2.2.2.2.2.2.2.2.2.2.1 rm.2.2.2.2.2.2.2.2.2.2.2.2.2.2.2.2.2.2.2.2.2.2.2.2.1 rm.2.2.2.2.2.2.2.2.2.2.2.2.2.2.2.2.2.2.2.2.2.2.2.2.2.2.2.1 rm.2.2.2.2.2.2.2.2.2.2.2.2.2.2.2.2.2.2.2.2.2.2.2.2.2.2.2.2) := by
    unfold fX9_readsAll_39 fX9_fails
    rw [if_neg mt0, nw 0 (by omega) 168728 Ww_ter.1 (by omega), Option.bind_some, if_pos (show (0 : Int32) = 0 from rfl), nw 4 (by omega) 453774 Ww_ter.2.2.2.2.1 (by omega), Option.bind_some, if_pos (show (0 : Int32) = 0 from rfl), nw 5 (by omega) 4137608 Ww_ter.2.2.2.2.2.1 (by omega), Option.bind_some, if_pos (show (0 : Int32) = 0 from rfl), nw 6 (by omega) 16812 Ww_ter.2.2.2.2.2.2.1 (by omega), Option.bind_some, if_pos (show (0 : Int32) = 0 from rfl), nw 7 (by omega) 70312 Ww_ter.2.2.2.2.2.2.2.1 (by omega), Option.bind_some, if_pos (show (0 : Int32) = 0 from rfl), nw 8 (by omega) 374798 Ww_ter.2.2.2.2.2.2.2.2.1 (by omega), Option.bind_some, if_pos (show (0 : Int32) = 0 from rfl), nw 9 (by omega) 10656676 Ww_ter.2.2.2.2.2.2.2.2.2.1 (by omega), Option.bind_some, if_pos (show (0 : Int32) = 0 from rfl), Option.bind_some]
    unfold fX9_readsAll_170
    rw [if_pos (show (0 : Int32) = 0 from rfl)]
    exact ok_some ⟨rfl, by rw [e04, ← fl.1]; rfl, rfl, FrT_rfl⟩
  have cF : fX6_readFrom_10 signs words (itr (fun kk => fX6_readFrom_10 signs words kk) zc (fc + 1)) colds holes guests sack cat wan lw ln ll cb cp tp (nI n) ct cnu 0 cnm fw cold hf cto bu be kd gf fo lco lst hn gn (nI t) = fX6_readFrom_140 signs words (itr (fun kk => fX6_readFrom_10 signs words kk) zc (fc + 1)) colds holes guests sack cat wan lw ln ll cb cp tp (nI n) ct cnu 0 cnm fw cold hf cto bu be kd gf fo lco lst hn gn (nI t) := by
    unfold fX6_readFrom_10 fX5_isAtEnd
    rw [if_neg n1000, if_pos (show (0 : Int32) = 0 from rfl), if_neg ct0, Option.bind_some, if_pos (show (0 : Int32) = 0 from rfl), if_neg (show ¬ ct.toInt = 128 from nt 128 (by omega)), if_neg (show ¬ ct.toInt = 132 from nt 132 (by omega)), if_neg (show ¬ ct.toInt = 133 from nt 133 (by omega)), if_neg (show ¬ ct.toInt = 134 from nt 134 (by omega)), if_neg (show ¬ ct.toInt = 135 from nt 135 (by omega)), if_neg (show ¬ ct.toInt = 136 from nt 136 (by omega)), if_neg (show ¬ ct.toInt = 137 from nt 137 (by omega))]
  rw [cF]
  unfold fX6_readFrom_140 fX6_readFrom_145
  rw [hr, Option.bind_some, c_expectF fl.2, Option.bind_some]
  exact p_terF hgu hU.2.1 hg fl.2 mF
/-- the end of the tape -/
theorem p_te_end {zc : Int32 → Int32 → Int32 → Int32 → Int32 → Int32 → Int32 → Int32 → Int32 → Int32 → Int32 → Int32 → Int32 → Int32 → Int32 → Int32 → Int64 → (Nat → Int32) → (Nat → Int32) → (Nat → Int32) → (Nat → Int32) → (Nat → Int32) → (Nat → Int32) → (Nat → Int32) → (Nat → Int32) → (Nat → Int32) → (Nat → Int32) → (Nat → Int32) → (Nat → Int64) → (Nat → Int64) → Int32 → Option RCT} {zm : Int32 → Int32 → Int32 → Int32 → Int32 → Int32 → Int32 → Int32 → Int32 → Int32 → Int64 → Int64 → (Nat → Int32) → (Nat → Int32) → (Nat → Int32) → (Nat → Int32) → (Nat → Int32) → (Nat → Int32) → (Nat → Int32) → (Nat → Int32) → (Nat → Int32) → (Nat → Int32) → (Nat → Int32) → (Nat → Int32) → (Nat → Int32) → (Nat → Int32) → (Nat → Int64) → (Nat → Int64) → Option RMT} {k fc fm t : Nat} {U : Ter} {isS tl : Bool} {NH NG : Nms} {colds holes guests sack cat wan lw ln ll cb cp tp ct cnu ta mp mb mt mnu wr co ms gv : Int32} {cnm mwd fr : Int64} {fw cold hf cto bu be kd gf fo lco lst te mhf mct mbu wl mkd mgf wrs cd lf lt cds op cm : (Nat → Int32)} {hn gn mhn mgn : (Nat → Int64)} (hT : TpR z n signs tape words) (ih : ∀ k', k' < k → TeP z n signs tape words zc zm k') (hk : 138 ≤ pot U isS tl + k) (hfc : k + 2 ≤ fc) (hfm : k + 1 ≤ fm) (ht : t ≤ pot U isS tl) (hR : RdR z n cb cp ct cnu cnm mp mb mt mnu mwd) (hU : WT U) (hC : CU U isS colds holes guests sack fw cold hf cto bu be kd gf) (hM : MU U isS ms te mhf mct mbu wl mkd mgf wrs cd) (hN : NU U NH NG hn gn mhn mgn) (hL : LU tl ll lco lf lt cds co) (ea : ct = 0) : ok (itr (fun kk => fX6_readFrom_10 signs words kk) zc fc colds holes guests sack cat wan lw ln ll cb cp tp (nI n) ct cnu 0 cnm fw cold hf cto bu be kd gf fo lco lst hn gn (nI t)) (fun rc => ok (itr (fun kk => fX9_readsAll_39 tape kk) zm fm ta (nI n) mp mb mt mnu wr co ms gv mwd fr te mhf mct mbu wl mkd mgf wrs cd lf lt cds op cm mhn mgn) (fun rm => TEnd ta te mhf mct mbu wl mkd mgf wrs cd lf lt cds mhn mgn rc rm)) := by
  obtain ⟨fc, rfl⟩ : ∃ m, fc = m + 1 + 1 := ⟨fc - 2, by omega⟩
  obtain ⟨fm, rfl⟩ : ∃ m, fm = m + 1 := ⟨fm - 1, by omega⟩
  have hpl := pot_le (isS := isS) (tl := tl) hU
  have n1000 : ¬ (1000 : Int32) ≤ nI t := fun e => absurd (show nI t < 1000 from nI_lt (b := 1000) (by omega) (by omega)) (Int32.not_lt.mpr e)
  have hg := gdF_CU hU hC
  have hgu : guests = nI (tG U) := hC.2.2.1
  have hho : holes = nI (tH U) := hC.2.1
  show ok (fX6_readFrom_10 signs words (itr (fun kk => fX6_readFrom_10 signs words kk) zc (fc + 1)) colds holes guests sack cat wan lw ln ll cb cp tp (nI n) ct cnu 0 cnm fw cold hf cto bu be kd gf fo lco lst hn gn (nI t)) (fun rc => ok (fX9_readsAll_39 tape (itr (fun kk => fX9_readsAll_39 tape kk) zm fm) ta (nI n) mp mb mt mnu wr co ms gv mwd fr te mhf mct mbu wl mkd mgf wrs cd lf lt cds op cm mhn mgn) (fun rm => TEnd ta te mhf mct mbu wl mkd mgf wrs cd lf lt cds mhn mgn rc rm))
  obtain ⟨q0, r0, _, _, _, _, tk0⟩ := hR
  have mt0 : mt = 0 := (t_zero tk0).mp ea
  have sk : sack = nI (tS U) ∨ (sack = 0 ∧ tS U = 5) := by
    have h4 := hC.2.2.2.1
    cases isS with
    | true => exact Or.inl h4
    | false => exact Or.inr ⟨h4, hC.2.2.2.2.1 rfl⟩
  unfold fX6_readFrom_10 fX5_isAtEnd fX6_readFrom_157 fX9_readsAll_39
  rw [if_neg n1000, if_pos (show (0 : Int32) = 0 from rfl), if_pos ea, Option.bind_some, if_neg (by decide : ¬ (1 : Int32) = 0), if_pos mt0, hgu]
  refine ok_bind (ok_mono (c_settle hU sk hC.2.2.2.2.2.2.2.2.2.2.2.2.1 hC.2.2.2.2.2.2.2.2.2.2.2.2.2 hC.2.2.2.2.2.1) (fun s e => ok_some (ok_some ⟨rfl, rfl, FrT_rfl, Or.inl ⟨rfl, rfl, U, isS, tl, NH, NG, hU, ?_, hM, hN, hL⟩⟩)))
  obtain ⟨a1, a2, a3, a4, a5, a6, a7, a8, a9, a10, a11, a12, a13, a14⟩ := hC
  exact ⟨a1, a2, rfl, e.1, e.2.1, e.2.2.1, a7, a8, a9, a10, a11, a13, a14, e.2.2.2⟩
theorem p_ter {zc : Int32 → Int32 → Int32 → Int32 → Int32 → Int32 → Int32 → Int32 → Int32 → Int32 → Int32 → Int32 → Int32 → Int32 → Int32 → Int32 → Int64 → (Nat → Int32) → (Nat → Int32) → (Nat → Int32) → (Nat → Int32) → (Nat → Int32) → (Nat → Int32) → (Nat → Int32) → (Nat → Int32) → (Nat → Int32) → (Nat → Int32) → (Nat → Int32) → (Nat → Int64) → (Nat → Int64) → Int32 → Option RCT} {zm : Int32 → Int32 → Int32 → Int32 → Int32 → Int32 → Int32 → Int32 → Int32 → Int32 → Int64 → Int64 → (Nat → Int32) → (Nat → Int32) → (Nat → Int32) → (Nat → Int32) → (Nat → Int32) → (Nat → Int32) → (Nat → Int32) → (Nat → Int32) → (Nat → Int32) → (Nat → Int32) → (Nat → Int32) → (Nat → Int32) → (Nat → Int32) → (Nat → Int32) → (Nat → Int64) → (Nat → Int64) → Option RMT} (hT : TpR z n signs tape words) : ∀ k, TeP z n signs tape words zc zm k := by
  intro k
  induction k using Nat.strongRecOn with
  | ind k ih =>
  intro fc fm t U isS tl NH NG colds holes guests sack cat wan lw ln ll cb cp tp ct cnu ta mp mb mt mnu wr co ms gv cnm mwd fr fw cold hf cto bu be kd gf fo lco lst te mhf mct mbu wl mkd mgf wrs cd lf lt cds op cm hn gn mhn mgn hk hfc hfm ht hR hU hC hM hN hL
  have hR0 := hR
  obtain ⟨q0, r0, _, _, _, _, tk0⟩ := hR0
  obtain ⟨a, ha, ea⟩ := tok_val tk0
  by_cases x0 : a = 0
  · exact p_te_end hT ih hk hfc hfm ht hR hU hC hM hN hL (by rw [ea, x0]; rfl)
  by_cases x128 : a = 128
  · exact p_te_hole hT ih hk hfc hfm ht hR hU hC hM hN hL (by rw [ea, x128])
  by_cases x132 : a = 132
  · exact p_te_wall hT ih hk hfc hfm ht hR hU hC hM hN hL (by rw [ea, x132])
  by_cases x133 : a = 133
  · exact p_te_guest hT ih hk hfc hfm ht hR hU hC hM hN hL (by rw [ea, x133])
  by_cases x134 : a = 134
  · exact p_te_war hT ih hk hfc hfm ht hR hU hC hM hN hL (by rw [ea, x134])
  by_cases x135 : a = 135
  · exact p_te_cold hT ih hk hfc hfm ht hR hU hC hM hN hL (by rw [ea, x135])
  by_cases x136 : a = 136
  · exact p_te_sack hT ih hk hfc hfm ht hR hU hC hM hN hL (by rw [ea, x136])
  by_cases x137 : a = 137
  · exact p_te_takes hT ih hk hfc hfm ht hR hU hC hM hN hL (by rw [ea, x137])
  exact p_te_none hT ih hk hfc hfm ht hR hU hC hM hN hL ea ha x0 (by omega)
end TL
