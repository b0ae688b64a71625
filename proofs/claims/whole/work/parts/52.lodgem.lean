theorem ok_for18 {ρ A1 A2 A3 A4 A5 A6 A7 A8 A9 A10 A11 A12 A13 A14 A15 A16 A17 A18 : Type} {F : (A1 → A2 → A3 → A4 → A5 → A6 → A7 → A8 → A9 → A10 → A11 → A12 → A13 → A14 → A15 → A16 → A17 → A18 → Int32 → Option ρ) → (A1 → A2 → A3 → A4 → A5 → A6 → A7 → A8 → A9 → A10 → A11 → A12 → A13 → A14 → A15 → A16 → A17 → A18 → Int32 → Option ρ)} {z : A1 → A2 → A3 → A4 → A5 → A6 → A7 → A8 → A9 → A10 → A11 → A12 → A13 → A14 → A15 → A16 → A17 → A18 → Int32 → Option ρ} {Q : ρ → Prop} (n : Nat) (Inv : Nat → A1 → A2 → A3 → A4 → A5 → A6 → A7 → A8 → A9 → A10 → A11 → A12 → A13 → A14 → A15 → A16 → A17 → A18 → Prop) (hs : ∀ (k : A1 → A2 → A3 → A4 → A5 → A6 → A7 → A8 → A9 → A10 → A11 → A12 → A13 → A14 → A15 → A16 → A17 → A18 → Int32 → Option ρ) (a1 : A1) (a2 : A2) (a3 : A3) (a4 : A4) (a5 : A5) (a6 : A6) (a7 : A7) (a8 : A8) (a9 : A9) (a10 : A10) (a11 : A11) (a12 : A12) (a13 : A13) (a14 : A14) (a15 : A15) (a16 : A16) (a17 : A17) (a18 : A18) (i : Nat), i < n → Inv i a1 a2 a3 a4 a5 a6 a7 a8 a9 a10 a11 a12 a13 a14 a15 a16 a17 a18 → (∀ (b1 : A1) (b2 : A2) (b3 : A3) (b4 : A4) (b5 : A5) (b6 : A6) (b7 : A7) (b8 : A8) (b9 : A9) (b10 : A10) (b11 : A11) (b12 : A12) (b13 : A13) (b14 : A14) (b15 : A15) (b16 : A16) (b17 : A17) (b18 : A18), Inv (i + 1) b1 b2 b3 b4 b5 b6 b7 b8 b9 b10 b11 b12 b13 b14 b15 b16 b17 b18 → ok (k b1 b2 b3 b4 b5 b6 b7 b8 b9 b10 b11 b12 b13 b14 b15 b16 b17 b18 (nI (i + 1))) Q) → ok (F k a1 a2 a3 a4 a5 a6 a7 a8 a9 a10 a11 a12 a13 a14 a15 a16 a17 a18 (nI i)) Q) (he : ∀ (k : A1 → A2 → A3 → A4 → A5 → A6 → A7 → A8 → A9 → A10 → A11 → A12 → A13 → A14 → A15 → A16 → A17 → A18 → Int32 → Option ρ) (a1 : A1) (a2 : A2) (a3 : A3) (a4 : A4) (a5 : A5) (a6 : A6) (a7 : A7) (a8 : A8) (a9 : A9) (a10 : A10) (a11 : A11) (a12 : A12) (a13 : A13) (a14 : A14) (a15 : A15) (a16 : A16) (a17 : A17) (a18 : A18), Inv n a1 a2 a3 a4 a5 a6 a7 a8 a9 a10 a11 a12 a13 a14 a15 a16 a17 a18 → ok (F k a1 a2 a3 a4 a5 a6 a7 a8 a9 a10 a11 a12 a13 a14 a15 a16 a17 a18 (nI n)) Q) : ∀ (N i : Nat) (a1 : A1) (a2 : A2) (a3 : A3) (a4 : A4) (a5 : A5) (a6 : A6) (a7 : A7) (a8 : A8) (a9 : A9) (a10 : A10) (a11 : A11) (a12 : A12) (a13 : A13) (a14 : A14) (a15 : A15) (a16 : A16) (a17 : A17) (a18 : A18), i ≤ n → Inv i a1 a2 a3 a4 a5 a6 a7 a8 a9 a10 a11 a12 a13 a14 a15 a16 a17 a18 → n - i < N → ok (itr F z N a1 a2 a3 a4 a5 a6 a7 a8 a9 a10 a11 a12 a13 a14 a15 a16 a17 a18 (nI i)) Q := by
  intro N
  induction N with
  | zero => intro i a1 a2 a3 a4 a5 a6 a7 a8 a9 a10 a11 a12 a13 a14 a15 a16 a17 a18 _ _ h; omega
  | succ N ih =>
    intro i a1 a2 a3 a4 a5 a6 a7 a8 a9 a10 a11 a12 a13 a14 a15 a16 a17 a18 hi hv hm
    rcases Nat.lt_or_ge i n with hlt | hge
    · exact hs _ a1 a2 a3 a4 a5 a6 a7 a8 a9 a10 a11 a12 a13 a14 a15 a16 a17 a18 i hlt hv (fun b1 b2 b3 b4 b5 b6 b7 b8 b9 b10 b11 b12 b13 b14 b15 b16 b17 b18 hv2 => ih (i + 1) b1 b2 b3 b4 b5 b6 b7 b8 b9 b10 b11 b12 b13 b14 b15 b16 b17 b18 (by omega) hv2 (by omega))
    · have e : i = n := by omega
      subst e
      exact he _ a1 a2 a3 a4 a5 a6 a7 a8 a9 a10 a11 a12 a13 a14 a15 a16 a17 a18 hv
/-- the reference's best so far -/
def ME (T : Ter) (a : Acc) (few most : Int32) (best : Nat → Int32) : Prop := match a with
  | none => few = -1
  | some x => ∃ sz ins, few = nI sz ∧ most = nI ins ∧ sz ≤ 6 ∧ ins ≤ tG T ∧ x.1 = 16 * sz + (tG T - ins) ∧ ∀ j, j < tG T → best j = x.2 j
section LM
variable {T : Ter} {S : Sta} {N : Nat}
variable {tr hf' ct' bu' wl kd' gf' wr cd lf lt cds : Nat → Int32}
theorem cnt_not {q : Nat → Bool} {n : Nat} : cnt (fun w => !q w) n = n - cnt q n ∧ cnt q n ≤ n := by
  induction n with
  | zero => exact ⟨rfl, Nat.le_refl _⟩
  | succ n ih =>
    simp only [cnt]
    cases q n
    · simp only [Bool.not_false, b2_t, b2_f]; omega
    · simp only [Bool.not_true, b2_t, b2_f]; omega
theorem m_lodges {n : Nat} (hT : WT T) (hS : WS T N S) (hN : N ≤ 1800) (hn : 1 ≤ n) (hn2 : n ≤ 30) (hM : MT T tr hf' ct' bu' wl kd' gf' wr cd lf lt cds) : ∀ (r w : Nat), w + r = tG T → ∀ (M : Nat), r < M → ∀ (X : Sta) (row : Nat → Int32) (acc : Acc) (few most : Int32) (k1 k2 k3 k4 k5 k6 k7 k8 k9 vo s bf arr best : Nat → Int32), Xof T S X → WS T N X → (∀ j, w ≤ j → isO S j = true → sA X j = 0) → MS X s → ME T acc few most best → (∀ j, j < w → arr j = row j) →
    ok (itr FX9_lodges (fun _ _ _ _ _ _ _ _ _ _ _ _ _ _ _ _ _ _ _ _ _ _ _ _ _ _ _ _ _ => none) M (nI 0) tr hf' bu' kd' gf' wr cd lf lt cds few most k1 k2 k3 k4 k5 k6 k7 k8 k9 vo s bf arr best (nI w) (nI n)) (fun r' => ME T (srch T S n r w X row acc) r'.1 r'.2.1 r'.2.2.2.2.2.2.2.2.2.2.2.2.2.2.2 ∧ MS X r'.2.2.2.2.2.2.2.2.2.2.2.2.1 ∧ ∀ j, j < w → r'.2.2.2.2.2.2.2.2.2.2.2.2.2.2.1 j = row j) := by
  have hH := hT.1
  have hG := hT.2.1
  intro r
  induction r with
  | zero =>
    intro w hw M hM2 X row acc few most k1 k2 k3 k4 k5 k6 k7 k8 k9 vo s bf arr best hX hW ho hs hE harr
    obtain ⟨M', rfl⟩ : ∃ M', M = M' + 1 := ⟨M - 1, by omega⟩
    have eh : w = tG T := by omega
    subst eh
    show ok (FX9_lodges (itr FX9_lodges _ M') (nI 0) tr hf' bu' kd' gf' wr cd lf lt cds few most k1 k2 k3 k4 k5 k6 k7 k8 k9 vo s bf arr best (nI (tG T)) (nI n)) _
    unfold FX9_lodges
    refine ok_t (by rw [hM.2.1]) ?_
    refine ok_bind (ok_mono m_copy13 (fun y5 h5 => ?_))
    have h5 := MS_congr hs h5
    refine ok_bind (ok_mono (m_goesOn hT hW hN (by omega) (by omega) hM hs) (fun y6 h6 => ?_))
    have hcl := dyN_closed (c := 0) hT hW n
    have hz6 : y6 1 = nI (nZ_ T 0 X n) := by rw [h6.2.1, hcl.2.2.2.2.2]
    have hzl : nZ_ T 0 X n < 32 := by
      have := (dyN_WS (c := 0) hT hW n).z hT
      rw [hcl.2.2.2.2.2] at this
      exact this
    rw [hz6, pX9_bits _ (by omega), x_leaf hT hX hW hn]
    refine ok_bind (ok_some ?_)
    have hcf := cnt_not (q := fun w => fOut T S n w (sA X w)) (n := tG T)
    have hcs := cnt_not (q := fun w => fSz T S n w (sA X w)) (n := tG T)
    have hk : kX T S X n = 16 * cnt (fun w => fSz T S n w (sA X w)) (tG T) + cnt (fun w => fOut T S n w (sA X w)) (tG T) := sm_c1 (tG T)
    refine ok_for18 (tG T) (fun i f m _ _ _ _ _ _ _ _ _ _ a b rw_ bw v3 v4 => f = few ∧ m = most ∧ (∀ w, w < tG T → a (8 + w) = y6 (8 + w)) ∧ b = y5 ∧ rw_ = arr ∧ bw = best ∧ v3 = nI (cnt (fun w => fSz T S n w (sA X w)) (tG T)) ∧ v4 = nI (cnt (fun w => !fOut T S n w (sA X w)) i)) ?_ ?_ FU 0 few most _ _ _ _ _ _ _ _ _ _ y6 y5 arr best _ 0 (Nat.zero_le _) ⟨rfl, rfl, fun w _ => rfl, rfl, rfl, rfl, rfl, rfl⟩ (by unfold FU; omega)
    · rintro k f m c1 c2 c3 c4 c5 c6 c7 c8 c9 c10 a b rw_ bw v3 v4 i hi ⟨rfl, rfl, ha, rfl, rfl, rfl, rfl, rfl⟩ hk2
      unfold fX9_lodges_44
      have hai : a (8 + i) = nI (nA_ T 0 X n i) := by rw [ha i hi, h6.2.2.2.2 i (by omega), hcl.2.2.2.1 i hi]
      have hal : nA_ T 0 X n i ≤ 5 := by
        have := (dyN_WS (c := 0) hT hW n).2.2.2.2.1 i
        rw [hcl.2.2.2.1 i hi] at this
        omega
      have hxo := x_nA (n := n) (w := i) hX
      rw [hM.2.1, show (8 : Int32) + nI i = nI (8 + i) from nI_add 8 i, nC (by omega), hai, nI_1]
      refine ok_f (nI_ge hi (by omega)) (ok_g (nB (by omega) (by omega)) ?_)
      by_cases q : nA_ T 0 X n i = 0
      · have e : fOut T S n i (sA X i) = true := by rw [← hxo, q]; rfl
        refine ok_t (by rw [q]; decide) (hk2 _ _ _ _ _ _ _ _ _ _ _ _ _ _ _ _ _ _ ⟨rfl, rfl, ha, rfl, rfl, rfl, rfl, ?_⟩)
        show nI _ + nI 0 = _
        rw [nI_add]
        simp only [cnt, e, Bool.not_true, b2_f]
      · have e : fOut T S n i (sA X i) = false := by rw [← hxo]; simpa using q
        refine ok_f (nI_nle (by omega) (by omega)) (hk2 _ _ _ _ _ _ _ _ _ _ _ _ _ _ _ _ _ _ ⟨rfl, rfl, ha, rfl, rfl, rfl, rfl, ?_⟩)
        rw [nI_1]
        simp only [cnt, e, Bool.not_false, b2_t]
    · rintro k f m c1 c2 c3 c4 c5 c6 c7 c8 c9 c10 a b rw_ bw v3 v4 ⟨rfl, rfl, ha, rfl, rfl, rfl, rfl, rfl⟩
      unfold fX9_lodges_44
      rw [hM.2.1]
      refine ok_t (nI_le (Nat.le_refl _) (by omega)) ?_
      refine ok_bind (ok_mono m_copy13 (fun y2 h2 => ?_))
      have h2 := MS_congr h5 h2
      rw [hcf.1]
      have keepR : (srch T S n 0 (tG T) X row acc = some (kX T S X n, row)) → ok (fX9_lodges_130 (nI 0) tr hf' bu' kd' gf' wr cd lf lt cds (itr FX9_lodges (fun _ _ _ _ _ _ _ _ _ _ _ _ _ _ _ _ _ _ _ _ _ _ _ _ _ _ _ _ _ => none) M') f m c1 c2 c3 c4 c5 c6 c7 c8 c9 c10 y2 b rw_ bw (nI (cnt (fun w => fSz T S n w (sA X w)) (tG T))) (nI (tG T - cnt (fun w => fOut T S n w (sA X w)) (tG T)))) (fun r' => ME T (srch T S n 0 (tG T) X row acc) r'.1 r'.2.1 r'.2.2.2.2.2.2.2.2.2.2.2.2.2.2.2 ∧ MS X r'.2.2.2.2.2.2.2.2.2.2.2.2.1 ∧ ∀ j, j < tG T → r'.2.2.2.2.2.2.2.2.2.2.2.2.2.2.1 j = row j) := by
        intro es
        rw [es]
        unfold fX9_lodges_130
        refine ok_for16 5 (fun i f m _ _ _ _ _ _ _ _ _ _ a b rw2 bw2 => f = nI (cnt (fun w => fSz T S n w (sA X w)) (tG T)) ∧ m = nI (tG T - cnt (fun w => fOut T S n w (sA X w)) (tG T)) ∧ MS X a ∧ rw2 = rw_ ∧ ∀ j, j < i → bw2 j = rw_ j) ?_ ?_ FU 0 _ _ _ _ _ _ _ _ _ _ _ _ y2 b rw_ bw (Nat.zero_le _) ⟨rfl, rfl, h2, rfl, fun j hj => by omega⟩ (by unfold FU; omega)
        · rintro k f m d1 d2 d3 d4 d5 d6 d7 d8 d9 d10 a b rw2 bw2 i hi ⟨rfl, rfl, ha2, rfl, hb2⟩ hk2
          unfold fX9_lodges_144
          simp (disch := omega) only [nlit, nI_add, pk_mul, nC, nB, nT_le, nF_le, nT_lt, nF_lt, nF_eq, nT_eq, nM1_ne, nM1_lt, b2_0, b2_1, b2_nar, nar_0, nar_1, cond_true, if_true, if_false, ob_some]
          refine hk2 _ _ _ _ _ _ _ _ _ _ _ _ _ _ _ _ ⟨rfl, rfl, ha2, rfl, fun j hj => ?_⟩
          by_cases z : j = i
          · subst z; rw [pk_us]
          · rw [pk_un z]; exact hb2 j (by omega)
        · rintro k f m d1 d2 d3 d4 d5 d6 d7 d8 d9 d10 a b rw2 bw2 ⟨rfl, rfl, ha2, rfl, hb2⟩
          unfold fX9_lodges_144
          simp (disch := omega) only [nlit, nI_add, pk_mul, nC, nB, nT_le, nF_le, nT_lt, nF_lt, nF_eq, nT_eq, nM1_ne, nM1_lt, b2_0, b2_1, b2_nar, nar_0, nar_1, cond_true, if_true, if_false, ob_some]
          exact ok_some ⟨⟨_, _, rfl, rfl, by omega, by omega, by rw [hk]; omega, fun j hj => (hb2 j (by omega)).trans (harr j hj)⟩, ha2, harr⟩
      have same : (srch T S n 0 (tG T) X row acc = acc) → ME T (srch T S n 0 (tG T) X row acc) f m bw := fun e => by rw [e]; exact hE
      cases acc with
      | none =>
        have hE : f = -1 := hE
        subst hE
        exact ok_t (by decide) (keepR rfl)
      | some x =>
        obtain ⟨sz, ins, rfl, rfl, e3, e4, e5, e6⟩ := hE
        have es : srch T S n 0 (tG T) X row (some x) = if kX T S X n < x.1 then some (kX T S X n, row) else some x := rfl
        refine ok_f (nI_pos (by omega)) ?_
        refine ok_if (fun z => ok_some ⟨?_, h2, harr⟩) (fun z => ?_)
        · have z := (nI_ltI (by omega) (by omega)).mp z
          exact same (by rw [es, if_neg (by omega)])
        · have z : ¬ sz < cnt (fun w => fSz T S n w (sA X w)) (tG T) := fun y => z (nI_lt y (by omega))
          refine ok_if (fun y => ?_) (fun y => ?_)
          · have y := (nI_eq (by omega) (by omega)).mp y
            refine ok_if (fun x1 => ?_) (fun x1 => ok_some ⟨?_, h2, harr⟩)
            · have x1 := (nI_ltI (by omega) (by omega)).mp x1
              exact keepR (by rw [es, if_pos (by omega)])
            · have x1 : ¬ ins < tG T - cnt (fun w => fOut T S n w (sA X w)) (tG T) := fun y => x1 (nI_lt y (by omega))
              exact same (by rw [es, if_neg (by omega)])
          · have y : ¬ cnt (fun w => fSz T S n w (sA X w)) (tG T) = sz := fun e => y (by rw [e])
            exact keepR (by rw [es, if_pos (by omega)])
  | succ r ih =>
    intro w hw M hM2 X row acc few most k1 k2 k3 k4 k5 k6 k7 k8 k9 vo s bf arr best hX hW ho hs hE harr
    obtain ⟨M', rfl⟩ : ∃ M', M = M' + 1 := ⟨M - 1, by omega⟩
    have hwG : w < tG T := by omega
    show ok (FX9_lodges (itr FX9_lodges _ M') (nI 0) tr hf' bu' kd' gf' wr cd lf lt cds few most k1 k2 k3 k4 k5 k6 k7 k8 k9 vo s bf arr best (nI w) (nI n)) _
    unfold FX9_lodges
    rw [nC (by omega)]
    refine ok_f (by rw [hM.2.1]; exact fun e => by have := (nI_eq (by omega) (by omega)).mp e; omega) (ok_g (nB (by omega) (by omega)) ?_)
    have last : ∀ (acc2 : Acc) (few most : Int32) (k1 k2 k3 k4 k5 k6 k7 k8 k9 vo s bf arr best : Nat → Int32), MS X s → ME T acc2 few most best → (∀ j, j < w → arr j = row j) → srch T S n (r + 1) w X row acc = srch T S n r (w + 1) X (upd row w (-1)) acc2 → ok (fX9_lodges_260 (nI 0) tr hf' bu' kd' gf' wr cd lf lt cds (itr FX9_lodges (fun _ _ _ _ _ _ _ _ _ _ _ _ _ _ _ _ _ _ _ _ _ _ _ _ _ _ _ _ _ => none) M') few most k1 k2 k3 k4 k5 k6 k7 k8 k9 vo s bf (upd arr w (-1)) best (nI w) (nI n)) (fun r' => ME T (srch T S n (r + 1) w X row acc) r'.1 r'.2.1 r'.2.2.2.2.2.2.2.2.2.2.2.2.2.2.2 ∧ MS X r'.2.2.2.2.2.2.2.2.2.2.2.2.1 ∧ ∀ j, j < w → r'.2.2.2.2.2.2.2.2.2.2.2.2.2.2.1 j = row j) := by
      intro acc2 few most k1 k2 k3 k4 k5 k6 k7 k8 k9 vo s bf arr best hs hE harr es
      rw [es]
      unfold fX9_lodges_260
      rw [nI_1]
      refine ok_bind (ok_mono (ih (w + 1) (by omega) M' (by omega) X (upd row w (-1)) acc2 few most _ _ _ _ _ _ _ _ _ _ s bf _ best hX hW (fun j hj => ho j (by omega)) hs hE (fun j hj => ?_)) (fun y hy => ok_some ⟨hy.1, hy.2.1, fun j hj => ?_⟩))
      · by_cases z : j = w
        · subst z; rw [pk_us, pk_us]
        · rw [pk_un z, pk_un z]; exact harr j (by omega)
      · have := hy.2.2 j (by omega)
        rw [pk_un (by omega)] at this
        exact this
    have hou := m_outside hT hW hs (show w < 5 by omega)
    rw [hou]
    refine ok_bind (ok_some ?_)
    have eO : (sA X w == 0 && !(sZ X).testBit w) = isO S w := by
      rw [hX.2.1]
      cases z : isO S w
      · have e := hX.2.2.2.2 w z
        rw [e]; exact z
      · have e := ho w (Nat.le_refl _) z
        rw [e]
        unfold isO at z
        rw [Bool.and_eq_true] at z
        rw [z.2]; rfl
    rw [eO]
    cases q : isO S w
    · refine ok_t rfl (last acc few most _ _ _ _ _ _ _ _ _ _ s bf arr best hs hE harr ?_)
      show (if isO S w = true then _ else _) = _
      rw [q]; rfl
    · refine ok_f (by decide) ?_
      have es : srch T S n (r + 1) w X row acc = srch T S n r (w + 1) X (upd row w (-1)) (lpH (fun h a => if tk T X h w = true then srch T S n r (w + 1) (mv X w (h + 1)) (upd row w (nI h)) a else a) (tH T) acc) := by
        show (if isO S w = true then _ else _) = _
        rw [q]; rfl
      have h0 := ho w (Nat.le_refl _) q
      have hz : (sZ X).testBit w = false := by
        rw [hX.2.1]
        unfold isO at q
        rw [Bool.and_eq_true] at q
        simpa using q.2
      refine ok_for18 (tH T) (fun i f m _ _ _ _ _ _ _ _ _ _ a b rw_ bw v1 v2 => ME T (lpH (fun h a => if tk T X h w = true then srch T S n r (w + 1) (mv X w (h + 1)) (upd row w (nI h)) a else a) i acc) f m bw ∧ MS X a ∧ (∀ j, j < w → rw_ j = row j) ∧ v1 = nI w ∧ v2 = nI n) ?_ ?_ FU 0 few most _ _ _ _ _ _ _ _ _ _ s bf _ best (nI w) (nI n) (Nat.zero_le _) ⟨hE, hs, fun j hj => by rw [pk_un (by omega)]; exact harr j hj, rfl, rfl⟩ (by unfold FU; omega)
      · rintro k f m c1 c2 c3 c4 c5 c6 c7 c8 c9 c10 a b rw_ bw v1 v2 i hi ⟨hE2, ha, hrw, rfl, rfl⟩ hk2
        unfold fX9_lodges_188
        rw [hM.1, nI_1, nI_1]
        refine ok_f (nI_ge hi (by omega)) ?_
        refine ok_bind (ok_mono (m_takes hT hW ha hM hi hwG) (fun y hy => ?_))
        rw [hy]
        have el : lpH (fun h a => if tk T X h w = true then srch T S n r (w + 1) (mv X w (h + 1)) (upd row w (nI h)) a else a) (i + 1) acc = if tk T X i w = true then srch T S n r (w + 1) (mv X w (i + 1)) (upd row w (nI i)) (lpH (fun h a => if tk T X h w = true then srch T S n r (w + 1) (mv X w (h + 1)) (upd row w (nI h)) a else a) i acc) else lpH (fun h a => if tk T X h w = true then srch T S n r (w + 1) (mv X w (h + 1)) (upd row w (nI h)) a else a) i acc := rfl
        cases z : tk T X i w
        · refine ok_t rfl (hk2 _ _ _ _ _ _ _ _ _ _ _ _ _ _ _ _ _ _ ⟨?_, ha, hrw, rfl, rfl⟩)
          rw [el, z]; exact hE2
        · refine ok_f (by decide) ?_
          rw [show (8 : Int32) + nI w = nI (8 + w) from nI_add 8 w, nC (by omega), nC (by omega)]
          refine ok_g (nB (by omega) (by omega)) (ok_g (nB (by omega) (by omega)) ?_)
          have hW2 := mv_WS (h := i + 1) hW hwG (by omega) (fun y => by rw [hz] at y; cases y) (fun k e hk => by
            have : k = i := by omega
            subst this; exact tk_pos z hk)
          refine ok_bind (ok_mono (ih (w + 1) (by omega) M' (by omega) (mv X w (i + 1)) (upd row w (nI i)) _ f m _ _ _ _ _ _ _ _ _ _ _ b _ bw (Xof_mv hX q) hW2 (fun j hj hjo => ?_) (mv_MS ha (by omega)) hE2 (fun j hj => ?_)) (fun y7 hy7 => ?_))
          · show (if j = w then i + 1 else sA X j) = 0
            rw [if_neg (by omega)]; exact ho j (by omega) hjo
          · by_cases y : j = w
            · subst y; rw [pk_us, pk_us]
            · rw [pk_un y, pk_un y]; exact hrw j (by omega)
          · refine ok_g (nB (by omega) (by omega)) (hk2 _ _ _ _ _ _ _ _ _ _ _ _ _ _ _ _ _ _ ⟨?_, ?_, fun j hj => ?_, rfl, rfl⟩)
            · rw [el, z]; exact hy7.1
            · have := mv_MS (w := w) (h := 0) hy7.2.1 (by omega)
              have e : mv (mv X w (i + 1)) w 0 = X := by
                obtain ⟨s1, s2, s3, s4, s5⟩ := X
                unfold mv
                simp only [sD, sZ, sB, sC, sA]
                congr 4
                funext u
                by_cases z : u = w
                · subst z; simp only [if_true]; exact h0.symm
                · simp only [z, if_false]
              rw [e] at this
              exact this
            · have := hy7.2.2 j (by omega)
              rw [pk_un (by omega)] at this
              exact this
      · rintro k f m c1 c2 c3 c4 c5 c6 c7 c8 c9 c10 a b rw_ bw v1 v2 ⟨hE2, ha, hrw, rfl, rfl⟩
        unfold fX9_lodges_188
        rw [hM.1, nC (by omega)]
        refine ok_t (nI_le (Nat.le_refl _) (by omega)) (ok_g (nB (by omega) (by omega)) ?_)
        exact last _ f m _ _ _ _ _ _ _ _ _ _ a b rw_ bw ha hE2 hrw es
end LM
