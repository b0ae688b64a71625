theorem ok_for17 {ρ A1 A2 A3 A4 A5 A6 A7 A8 A9 A10 A11 A12 A13 A14 A15 A16 A17 : Type} {F : (A1 → A2 → A3 → A4 → A5 → A6 → A7 → A8 → A9 → A10 → A11 → A12 → A13 → A14 → A15 → A16 → A17 → Int32 → Option ρ) → (A1 → A2 → A3 → A4 → A5 → A6 → A7 → A8 → A9 → A10 → A11 → A12 → A13 → A14 → A15 → A16 → A17 → Int32 → Option ρ)} {z : A1 → A2 → A3 → A4 → A5 → A6 → A7 → A8 → A9 → A10 → A11 → A12 → A13 → A14 → A15 → A16 → A17 → Int32 → Option ρ} {Q : ρ → Prop} (n : Nat) (Inv : Nat → A1 → A2 → A3 → A4 → A5 → A6 → A7 → A8 → A9 → A10 → A11 → A12 → A13 → A14 → A15 → A16 → A17 → Prop) (hs : ∀ (k : A1 → A2 → A3 → A4 → A5 → A6 → A7 → A8 → A9 → A10 → A11 → A12 → A13 → A14 → A15 → A16 → A17 → Int32 → Option ρ) (a1 : A1) (a2 : A2) (a3 : A3) (a4 : A4) (a5 : A5) (a6 : A6) (a7 : A7) (a8 : A8) (a9 : A9) (a10 : A10) (a11 : A11) (a12 : A12) (a13 : A13) (a14 : A14) (a15 : A15) (a16 : A16) (a17 : A17) (i : Nat), i < n → Inv i a1 a2 a3 a4 a5 a6 a7 a8 a9 a10 a11 a12 a13 a14 a15 a16 a17 → (∀ (b1 : A1) (b2 : A2) (b3 : A3) (b4 : A4) (b5 : A5) (b6 : A6) (b7 : A7) (b8 : A8) (b9 : A9) (b10 : A10) (b11 : A11) (b12 : A12) (b13 : A13) (b14 : A14) (b15 : A15) (b16 : A16) (b17 : A17), Inv (i + 1) b1 b2 b3 b4 b5 b6 b7 b8 b9 b10 b11 b12 b13 b14 b15 b16 b17 → ok (k b1 b2 b3 b4 b5 b6 b7 b8 b9 b10 b11 b12 b13 b14 b15 b16 b17 (nI (i + 1))) Q) → ok (F k a1 a2 a3 a4 a5 a6 a7 a8 a9 a10 a11 a12 a13 a14 a15 a16 a17 (nI i)) Q) (he : ∀ (k : A1 → A2 → A3 → A4 → A5 → A6 → A7 → A8 → A9 → A10 → A11 → A12 → A13 → A14 → A15 → A16 → A17 → Int32 → Option ρ) (a1 : A1) (a2 : A2) (a3 : A3) (a4 : A4) (a5 : A5) (a6 : A6) (a7 : A7) (a8 : A8) (a9 : A9) (a10 : A10) (a11 : A11) (a12 : A12) (a13 : A13) (a14 : A14) (a15 : A15) (a16 : A16) (a17 : A17), Inv n a1 a2 a3 a4 a5 a6 a7 a8 a9 a10 a11 a12 a13 a14 a15 a16 a17 → ok (F k a1 a2 a3 a4 a5 a6 a7 a8 a9 a10 a11 a12 a13 a14 a15 a16 a17 (nI n)) Q) : ∀ (N i : Nat) (a1 : A1) (a2 : A2) (a3 : A3) (a4 : A4) (a5 : A5) (a6 : A6) (a7 : A7) (a8 : A8) (a9 : A9) (a10 : A10) (a11 : A11) (a12 : A12) (a13 : A13) (a14 : A14) (a15 : A15) (a16 : A16) (a17 : A17), i ≤ n → Inv i a1 a2 a3 a4 a5 a6 a7 a8 a9 a10 a11 a12 a13 a14 a15 a16 a17 → n - i < N → ok (itr F z N a1 a2 a3 a4 a5 a6 a7 a8 a9 a10 a11 a12 a13 a14 a15 a16 a17 (nI i)) Q := by
  intro N
  induction N with
  | zero => intro i a1 a2 a3 a4 a5 a6 a7 a8 a9 a10 a11 a12 a13 a14 a15 a16 a17 _ _ h; omega
  | succ N ih =>
    intro i a1 a2 a3 a4 a5 a6 a7 a8 a9 a10 a11 a12 a13 a14 a15 a16 a17 hi hv hm
    rcases Nat.lt_or_ge i n with hlt | hge
    · exact hs _ a1 a2 a3 a4 a5 a6 a7 a8 a9 a10 a11 a12 a13 a14 a15 a16 a17 i hlt hv (fun b1 b2 b3 b4 b5 b6 b7 b8 b9 b10 b11 b12 b13 b14 b15 b16 b17 hv2 => ih (i + 1) b1 b2 b3 b4 b5 b6 b7 b8 b9 b10 b11 b12 b13 b14 b15 b16 b17 (by omega) hv2 (by omega))
    · have e : i = n := by omega
      subst e
      exact he _ a1 a2 a3 a4 a5 a6 a7 a8 a9 a10 a11 a12 a13 a14 a15 a16 a17 hv
/-! winters by draws -/
theorem lcg_ex : ∃ f : Nat → Nat, ∀ g, f g = (g * 1103515245 + 12345) % 2147483648 := ⟨_, fun _ => rfl⟩
noncomputable def lcg : Nat → Nat := Classical.choose lcg_ex
theorem lcg_eq (g : Nat) : lcg g = (g * 1103515245 + 12345) % 2147483648 := Classical.choose_spec lcg_ex g
theorem dwH_ex : ∃ f : Ter → Nat → Nat, ∀ T g, f T g = g / 65536 % tH T := ⟨_, fun _ _ => rfl⟩
noncomputable def dwH : Ter → Nat → Nat := Classical.choose dwH_ex
theorem dwH_eq (T : Ter) (g : Nat) : dwH T g = g / 65536 % tH T := Classical.choose_spec dwH_ex T g
theorem lcg_lt {g : Nat} : lcg g < 2147483648 := by rw [lcg_eq]; exact Nat.mod_lt _ (by decide)
theorem dwH_lt {T : Ter} {g : Nat} (h : 0 < tH T) : dwH T g < tH T := by rw [dwH_eq]; exact Nat.mod_lt _ h
theorem plI_succ (h : Nat) : nI h = plI (h + 1) := by unfold plI; rw [if_neg (by omega)]; rfl
theorem lcg_ok {g : Nat} (hg : g < 2147483648) : ((lN g * 1103515245) + 12345) - ((lN g * 1103515245) + 12345) / 2147483648 * 2147483648 = lN (lcg g) := by
  have e : lN g * 1103515245 + 12345 = lN (g * 1103515245 + 12345) := by
    rw [show (1103515245 : Int64) = lN 1103515245 from rfl, show (12345 : Int64) = lN 12345 from rfl, lN_mul, lN_add]
  rw [e, show (2147483648 : Int64) = lN 2147483648 from rfl, pk_lRem (by omega) (by omega) (by omega), lcg_eq]
theorem drw_ok {T : Ter} {g : Nat} (hH : tH T ≤ 5) (h0 : 0 < tH T) (hg : g < 2147483648) : Int64.toInt32 ((lN g / 65536) - (lN g / 65536) / (Int32.toInt64 (nI (tH T))) * (Int32.toInt64 (nI (tH T)))) = nI (dwH T g) := by
  rw [show (65536 : Int64) = lN 65536 from rfl, pk_lDiv (by omega) (by omega) (by omega), nI_l (by omega), pk_lRem (by omega) h0 (by omega), lN_i, dwH_eq]
theorem c_draw {T : Ter} {g : Nat} (hH : tH T ≤ 5) (h0 : 0 < tH T) (hg : g < 2147483648) : fX8_drawBelow (lN g) (nI (tH T)) = some (nI (dwH T (lcg g)), lN (lcg g)) := by
  unfold fX8_drawBelow
  rw [if_neg (nI_nle h0 (by omega)), if_neg (by rw [nI_l (by omega)]; exact fun e => by have := (lN_eq (b := 0) (by omega) (by omega)).mp e; omega), lcg_ok hg, drw_ok hH h0 lcg_lt]
theorem m_draw {T : Ter} {g : Nat} (hH : tH T ≤ 5) (h0 : 0 < tH T) (hg : g < 2147483648) : fX9_draws (lN g) (nI (tH T)) = some (nI (dwH T (lcg g)), lN (lcg g)) := by
  unfold fX9_draws
  rw [if_neg (by rw [nI_l (by omega)]; exact fun e => by have := (lN_eq (b := 0) (by omega) (by omega)).mp e; omega), lcg_ok hg, drw_ok hH h0 lcg_lt]
def canW (T : Ter) (S : Sta) (w h : Nat) : Bool := ((sA S w == 0 && !(sZ S).testBit w) && tk T S h w) || (!(sA S w == 0) && (tbe T (sA S w - 1)).testBit h && tk T S h w)
theorem canW_WS {T : Ter} {S : Sta} {N w h : Nat} (hS : WS T N S) (hw : w < tG T) (hh : h < tH T) (hc : canW T S w h = true) : WS T N (mv S w (h + 1)) := by
  have key : tk T S h w = true ∧ (sZ S).testBit w = false := by
    unfold canW at hc
    rw [Bool.or_eq_true, Bool.and_eq_true, Bool.and_eq_true, Bool.and_eq_true, Bool.and_eq_true] at hc
    rcases hc with ⟨⟨_, q⟩, q2⟩ | ⟨⟨q, _⟩, q2⟩
    · exact ⟨q2, by simpa using q⟩
    · refine ⟨q2, ?_⟩
      cases z : (sZ S).testBit w
      · rfl
      · have := (hS.2.2.2.2.2.2.1 w z).1
        simp [this] at q
  exact mv_WS hS hw (by omega) (fun y => by rw [key.2] at y; cases y) (fun k e hk => by
    have : k = h := by omega
    subst this; exact tk_pos key.1 hk)
abbrev Lif : Type := Nat × Sta × Nat
noncomputable def goW (T : Ter) (x : Lif) (w : Nat) : Lif := if canW T x.2.1 w (dwH T (lcg x.1)) = true then (lcg x.1, mv x.2.1 w (dwH T (lcg x.1) + 1), x.2.2 + 1) else (lcg x.1, x.2.1, x.2.2)
noncomputable def goN (T : Ter) (x : Lif) : Nat → Lif
  | 0 => x
  | n + 1 => goW T (goN T x n) n
noncomputable def lifT (T : Ter) (x : Lif) : Lif := if tH T = 0 then (x.1, dy T 0 x.2.1, x.2.2) else (lcg (goN T (x.1, x.2.1, 0) (tG T)).1, dy T 0 (brS T (goN T (x.1, x.2.1, 0) (tG T)).2.1 (dwH T (lcg (goN T (x.1, x.2.1, 0) (tG T)).1))), x.2.2 + (goN T (x.1, x.2.1, 0) (tG T)).2.2)
noncomputable def lifN (T : Ter) (x : Lif) : Nat → Lif
  | 0 => x
  | n + 1 => lifT T (lifN T x n)
theorem goN_ok {T : Ter} {x : Lif} {N : Nat} (h0 : 0 < tH T) (hS : WS T N x.2.1) (hg : x.1 < 2147483648) {n : Nat} (hn : n ≤ tG T) : WS T N (goN T x n).2.1 ∧ (goN T x n).1 < 2147483648 ∧ sZ (goN T x n).2.1 = sZ x.2.1 ∧ sD (goN T x n).2.1 = sD x.2.1 := by
  induction n with
  | zero => exact ⟨hS, hg, rfl, rfl⟩
  | succ n ih =>
    obtain ⟨i1, i2, i3, i4⟩ := ih (by omega)
    show WS T N (goW T (goN T x n) n).2.1 ∧ (goW T (goN T x n) n).1 < 2147483648 ∧ sZ (goW T (goN T x n) n).2.1 = _ ∧ sD (goW T (goN T x n) n).2.1 = _
    unfold goW
    by_cases q : canW T (goN T x n).2.1 n (dwH T (lcg (goN T x n).1)) = true
    · rw [if_pos q]
      exact ⟨canW_WS i1 (by omega) (dwH_lt h0) q, lcg_lt, i3, i4⟩
    · rw [if_neg q]
      exact ⟨i1, lcg_lt, i3, i4⟩
theorem lifT_ok {T : Ter} {x : Lif} {N : Nat} (hT : WT T) (hS : WS T N x.2.1) (hg : x.1 < 2147483648) : WS T (N + 1) (lifT T x).2.1 ∧ (lifT T x).1 < 2147483648 := by
  unfold lifT
  by_cases q : tH T = 0
  · rw [if_pos q]; exact ⟨dy_WS hT hS, hg⟩
  · rw [if_neg q]
    have h0 : 0 < tH T := by omega
    have := goN_ok (x := (x.1, x.2.1, 0)) h0 hS hg (Nat.le_refl (tG T))
    exact ⟨dy_WS hT (brS_WS hT this.1 (dwH_lt h0)), lcg_lt⟩
theorem lifN_ok {T : Ter} {x : Lif} {N : Nat} (hT : WT T) (hS : WS T N x.2.1) (hg : x.1 < 2147483648) (n : Nat) : WS T (N + n) (lifN T x n).2.1 ∧ (lifN T x n).1 < 2147483648 := by
  induction n with
  | zero => exact ⟨hS, hg⟩
  | succ n ih => exact lifT_ok hT ih.1 ih.2
section WI
variable {T : Ter} {S : Sta} {N : Nat} {catB wanB len br : Int32} {cold hf ct bu be kd gf fo code coal inside : Nat → Int32}
variable {tr hf' ct' bu' wl kd' gf' wr cd lf lt cds s : Nat → Int32}
theorem c_goBy {g : Nat} {wt : Int32} {st : Nat → Int32} (hT : WT T) (hS : WS T N S) (hg : g < 2147483648) (h0 : 0 < tH T) (hC : CT T (nI (tN T)) (nI (tH T)) (nI (tG T)) (nI (tS T)) catB wanB len cold hf ct bu be kd gf fo code) (hs : CS T S (nI (sZ S)) (nI (sD S)) (sB S) coal inside) :
    ok (fX8_goByDraws (nI (sZ S)) (nI (sD S)) (nI (tH T)) (nI (tG T)) (nI (tS T)) len hf be kd gf fo code (sB S) wt (lN g) coal inside st) (fun r => r.1 = nI (goN T (g, S, 0) (tG T)).2.2 ∧ r.2.2.2.1 = lN (lcg (goN T (g, S, 0) (tG T)).1) ∧ CS T (brS T (goN T (g, S, 0) (tG T)).2.1 (dwH T (lcg (goN T (g, S, 0) (tG T)).1))) (nI (sZ S)) (nI (sD S)) r.2.1 r.2.2.2.2.1 r.2.2.2.2.2.1) := by
  have hH := hT.1
  have hG := hT.2.1
  unfold fX8_goByDraws
  refine ok_f (nI_ne0 h0 (by omega)) ?_
  refine ok_for7 (tG T) (fun i b _ d c n _ v1 => d = lN (goN T (g, S, 0) i).1 ∧ v1 = nI (goN T (g, S, 0) i).2.2 ∧ b = sB (goN T (g, S, 0) i).2.1 ∧ CS T (goN T (g, S, 0) i).2.1 (nI (sZ S)) (nI (sD S)) b c n) ?_ ?_ FU 0 (sB S) wt (lN g) coal inside st 0 (Nat.zero_le _) ⟨rfl, rfl, rfl, hs⟩ (by unfold FU; omega)
  · rintro k b wt d c n st v1 i hlt ⟨rfl, rfl, rfl, hc⟩ hk
    obtain ⟨g1, g2, g3, g4⟩ := goN_ok (T := T) (x := (g, S, 0)) h0 hS hg (show i ≤ tG T by omega)
    have g3 : sZ (goN T (g, S, 0) i).2.1 = sZ S := g3
    have g4 : sD (goN T (g, S, 0) i).2.1 = sD S := g4
    have es : goN T (g, S, 0) (i + 1) = goW T (goN T (g, S, 0) i) i := rfl
    have hd := dwH_lt (g := lcg (goN T (g, S, 0) i).1) h0
    have hc2 := hc
    rw [← g3, ← g4] at hc2
    unfold fX8_goByDraws_16 fX8_goByDraws_71
    refine ok_f (nI_ge hlt (by omega)) ?_
    rw [c_draw hH h0 g2]
    refine ok_bind (ok_some ?_)
    have yes : canW T (goN T (g, S, 0) i).2.1 i (dwH T (lcg (goN T (g, S, 0) i).1)) = true → ∀ (wt2 : Int32) (st2 : Nat → Int32), ok (Option.bind (fX4_move n (nI i) (nI (dwH T (lcg (goN T (g, S, 0) i).1)))) fun y1 => k (sB (goN T (g, S, 0) i).2.1) wt2 (lN (lcg (goN T (g, S, 0) i).1)) c y1 st2 (nI (goN T (g, S, 0) i).2.2 + 1) (nI i + 1)) (fun r => r.1 = nI (goN T (g, S, 0) (tG T)).2.2 ∧ r.2.2.2.1 = lN (lcg (goN T (g, S, 0) (tG T)).1) ∧ CS T (brS T (goN T (g, S, 0) (tG T)).2.1 (dwH T (lcg (goN T (g, S, 0) (tG T)).1))) (nI (sZ S)) (nI (sD S)) r.2.1 r.2.2.2.2.1 r.2.2.2.2.2.1) := by
      intro hcan wt2 st2
      have hv := plI_succ (dwH T (lcg (goN T (g, S, 0) i).1))
      refine ok_bind (ok_mono (c_move (h := dwH T (lcg (goN T (g, S, 0) i).1) + 1) hG hlt hc.2.2.2.2 hv (by omega)) (fun y hy => ?_))
      rw [nI_1, nI_1]
      have e : goN T (g, S, 0) (i + 1) = (lcg (goN T (g, S, 0) i).1, mv (goN T (g, S, 0) i).2.1 i (dwH T (lcg (goN T (g, S, 0) i).1) + 1), (goN T (g, S, 0) i).2.2 + 1) := by rw [es]; unfold goW; rw [if_pos hcan]
      refine hk _ _ _ _ _ _ _ ?_
      rw [e]
      exact ⟨rfl, rfl, rfl, mv_CS hc hy⟩
    obtain ⟨r5, e5, h5⟩ := c_down (wt := wt) (st := st) hT g1 hC hc2 hd hlt
    rw [g3, g4] at e5
    rw [e5]
    refine ok_bind (ok_some ?_)
    show ok (if r5.1 = 0 then _ else _) _
    rw [h5]
    simp only [nlit, b2_0]
    cases z1 : ((sA (goN T (g, S, 0) i).2.1 i == 0 && !(sZ (goN T (g, S, 0) i).2.1).testBit i) && tk T (goN T (g, S, 0) i).2.1 (dwH T (lcg (goN T (g, S, 0) i).1)) i)
    · simp only [if_true]
      obtain ⟨r7, e7, h7⟩ := c_through (wt := r5.2.1) (st := r5.2.2) hT g1 hC hc2 hd hlt
      rw [g4] at e7
      rw [e7]
      refine ok_bind (ok_some ?_)
      show ok (if r7.1 = nI 0 then _ else _) _
      rw [h7]
      simp only [b2_0]
      cases z2 : (!(sA (goN T (g, S, 0) i).2.1 i == 0) && (tbe T (sA (goN T (g, S, 0) i).2.1 i - 1)).testBit (dwH T (lcg (goN T (g, S, 0) i).1)) && tk T (goN T (g, S, 0) i).2.1 (dwH T (lcg (goN T (g, S, 0) i).1)) i)
      · simp only [if_true]
        have hcan : ¬ canW T (goN T (g, S, 0) i).2.1 i (dwH T (lcg (goN T (g, S, 0) i).1)) = true := by unfold canW; rw [z1, z2]; decide
        have e : goN T (g, S, 0) (i + 1) = (lcg (goN T (g, S, 0) i).1, (goN T (g, S, 0) i).2.1, (goN T (g, S, 0) i).2.2) := by rw [es]; unfold goW; rw [if_neg hcan]
        rw [nI_add]
        refine hk _ _ _ _ _ _ _ ?_
        rw [e]
        exact ⟨rfl, rfl, rfl, hc⟩
      · simp only [reduceCtorEq, if_false]
        exact yes (by unfold canW; rw [z1, z2]; rfl) _ _
    · simp only [reduceCtorEq, if_false]
      exact yes (by unfold canW; rw [z1]; rfl) _ _
  · rintro k b wt d c n st v1 ⟨rfl, rfl, rfl, hc⟩
    obtain ⟨g1, g2, g3, g4⟩ := goN_ok (T := T) (x := (g, S, 0)) h0 hS hg (Nat.le_refl (tG T))
    unfold fX8_goByDraws_16
    refine ok_t (nI_le (Nat.le_refl _) (by omega)) ?_
    rw [c_draw hH h0 g2]
    refine ok_bind (ok_some (ok_bind (ok_mono (c_sack hT g1 hc (dwH_lt h0)) (fun y hy => ok_some ⟨rfl, rfl, hy.1⟩))))
theorem m_lives {g : Nat} {k1 k2 k3 k4 k5 k6 k7 k8 k9 vo : Nat → Int32} (hT : WT T) (hS : WS T N S) (hN : N ≤ 1900) (hg : g < 2147483648) (hM : MT T tr hf' ct' bu' wl kd' gf' wr cd lf lt cds) (hm : MS S s) (wn : Nat) :
    ok (fX9_livesDay (nI 0) tr hf' bu' wl kd' gf' wr cd lf lt cds (lN g) k1 k2 k3 k4 k5 k6 k7 k8 k9 vo s) (fun r => nI wn + r.1 = nI (lifT T (g, S, wn)).2.2 ∧ r.2.1 = lN (lifT T (g, S, wn)).1 ∧ MS (lifT T (g, S, wn)).2.1 r.2.2.2.2.2.2.2.2.2.2.2.2) := by
  have hH := hT.1
  have hG := hT.2.1
  unfold fX9_livesDay
  rw [hM.1]
  by_cases h00 : tH T = 0
  · have e : lifT T (g, S, wn) = (g, dy T 0 S, wn) := by unfold lifT; rw [if_pos h00]
    rw [e]
    refine ok_t (show nI (tH T) ≤ 0 by rw [h00]; decide) ?_
    unfold fX9_livesDay_90
    refine ok_bind (ok_mono (m_day hT hS (by omega) (by omega) hM hm) (fun y hy => ok_some ⟨?_, rfl, hy.2⟩))
    show nI wn + nI 0 = nI wn
    rw [nI_add]; rfl
  · have h0 : 0 < tH T := by omega
    have e : lifT T (g, S, wn) = (lcg (goN T (g, S, 0) (tG T)).1, dy T 0 (brS T (goN T (g, S, 0) (tG T)).2.1 (dwH T (lcg (goN T (g, S, 0) (tG T)).1))), wn + (goN T (g, S, 0) (tG T)).2.2) := by unfold lifT; rw [if_neg h00]
    rw [e]
    refine ok_f (nI_nle h0 (by omega)) ?_
    refine ok_for13 (tG T) (fun i d _ _ _ _ _ _ _ _ _ _ a v1 => d = lN (goN T (g, S, 0) i).1 ∧ v1 = nI (goN T (g, S, 0) i).2.2 ∧ MS (goN T (g, S, 0) i).2.1 a) ?_ ?_ FU 0 (lN g) _ _ _ _ _ _ _ _ _ _ s 0 (Nat.zero_le _) ⟨rfl, rfl, hm⟩ (by unfold FU; omega)
    · rintro k d a1 a2 a3 a4 a5 a6 a7 a8 a9 a10 a v1 i hlt ⟨rfl, rfl, ha⟩ hk
      obtain ⟨g1, g2, g3, g4⟩ := goN_ok (T := T) (x := (g, S, 0)) h0 hS hg (show i ≤ tG T by omega)
      have es : goN T (g, S, 0) (i + 1) = goW T (goN T (g, S, 0) i) i := rfl
      have hd := dwH_lt (g := lcg (goN T (g, S, 0) i).1) h0
      unfold fX9_livesDay_13 fX9_livesDay_55
      rw [hM.1, hM.2.1]
      refine ok_f (nI_ge hlt (by omega)) ?_
      rw [m_draw hH h0 g2]
      refine ok_bind (ok_some ?_)
      have e8 : (8 : Int32) + nI i = nI (8 + i) := nI_add 8 i
      have yes : canW T (goN T (g, S, 0) i).2.1 i (dwH T (lcg (goN T (g, S, 0) i).1)) = true → ∀ (b1 b2 b3 b4 b5 b6 b7 b8 b9 b10 : Nat → Int32), ok (bif inb (8 + nI i) 13 then k (lN (lcg (goN T (g, S, 0) i).1)) b1 b2 b3 b4 b5 b6 b7 b8 b9 b10 (upd a (Int32.toNatClampNeg (8 + nI i)) (nI (dwH T (lcg (goN T (g, S, 0) i).1)) + 1)) (nI (goN T (g, S, 0) i).2.2 + 1) (nI i + 1) else none) (fun r => nI wn + r.1 = nI (wn + (goN T (g, S, 0) (tG T)).2.2) ∧ r.2.1 = lN (lcg (goN T (g, S, 0) (tG T)).1) ∧ MS (dy T 0 (brS T (goN T (g, S, 0) (tG T)).2.1 (dwH T (lcg (goN T (g, S, 0) (tG T)).1)))) r.2.2.2.2.2.2.2.2.2.2.2.2) := by
        intro hcan b1 b2 b3 b4 b5 b6 b7 b8 b9 b10
        rw [e8, nC (by omega), nI_1, nI_1, nI_1]
        refine ok_g (nB (by omega) (by omega)) ?_
        have e : goN T (g, S, 0) (i + 1) = (lcg (goN T (g, S, 0) i).1, mv (goN T (g, S, 0) i).2.1 i (dwH T (lcg (goN T (g, S, 0) i).1) + 1), (goN T (g, S, 0) i).2.2 + 1) := by rw [es]; unfold goW; rw [if_pos hcan]
        refine hk _ _ _ _ _ _ _ _ _ _ _ _ _ ?_
        rw [e]
        exact ⟨rfl, rfl, mv_MS ha (by omega)⟩
      obtain ⟨r5, e5, h5⟩ := m_down (k1 := a1) (k2 := a2) (k3 := a3) (k4 := a4) (k5 := a5) (k6 := a6) (k7 := a7) (k8 := a8) (k9 := a9) (vo := a10) hT g1 ha hM hd hlt
      rw [e5]
      refine ok_bind (ok_some ?_)
      show ok (if r5.1 = 0 then _ else _) _
      rw [h5]
      simp only [nlit, b2_0]
      cases z1 : ((sA (goN T (g, S, 0) i).2.1 i == 0 && !(sZ (goN T (g, S, 0) i).2.1).testBit i) && tk T (goN T (g, S, 0) i).2.1 (dwH T (lcg (goN T (g, S, 0) i).1)) i)
      · simp only [if_true]
        obtain ⟨r7, e7, h7⟩ := m_cross (k1 := r5.2.1) (k2 := r5.2.2.1) (k3 := r5.2.2.2.1) (k4 := r5.2.2.2.2.1) (k5 := r5.2.2.2.2.2.1) (k6 := r5.2.2.2.2.2.2.1) (k7 := r5.2.2.2.2.2.2.2.1) (k8 := r5.2.2.2.2.2.2.2.2.1) (k9 := r5.2.2.2.2.2.2.2.2.2.1) (vo := r5.2.2.2.2.2.2.2.2.2.2) hT g1 ha hM hd hlt
        rw [e7]
        refine ok_bind (ok_some ?_)
        show ok (if r7.1 = nI 0 then _ else _) _
        rw [h7]
        simp only [b2_0]
        cases z2 : (!(sA (goN T (g, S, 0) i).2.1 i == 0) && (tbe T (sA (goN T (g, S, 0) i).2.1 i - 1)).testBit (dwH T (lcg (goN T (g, S, 0) i).1)) && tk T (goN T (g, S, 0) i).2.1 (dwH T (lcg (goN T (g, S, 0) i).1)) i)
        · simp only [if_true]
          have hcan : ¬ canW T (goN T (g, S, 0) i).2.1 i (dwH T (lcg (goN T (g, S, 0) i).1)) = true := by unfold canW; rw [z1, z2]; decide
          have e : goN T (g, S, 0) (i + 1) = (lcg (goN T (g, S, 0) i).1, (goN T (g, S, 0) i).2.1, (goN T (g, S, 0) i).2.2) := by rw [es]; unfold goW; rw [if_neg hcan]
          rw [nI_add]
          refine hk _ _ _ _ _ _ _ _ _ _ _ _ _ ?_
          rw [e]
          exact ⟨rfl, rfl, ha⟩
        · simp only [reduceCtorEq, if_false]
          exact yes (by unfold canW; rw [z1, z2]; rfl) _ _ _ _ _ _ _ _ _ _
      · simp only [reduceCtorEq, if_false]
        exact yes (by unfold canW; rw [z1]; rfl) _ _ _ _ _ _ _ _ _ _
    · rintro k d a1 a2 a3 a4 a5 a6 a7 a8 a9 a10 a v1 ⟨rfl, rfl, ha⟩
      obtain ⟨g1, g2, g3, g4⟩ := goN_ok (T := T) (x := (g, S, 0)) h0 hS hg (Nat.le_refl (tG T))
      unfold fX9_livesDay_13 fX9_livesDay_90
      rw [hM.1, hM.2.1]
      refine ok_t (nI_le (Nat.le_refl _) (by omega)) ?_
      rw [m_draw hH h0 g2]
      refine ok_bind (ok_some (ok_bind (ok_mono (m_brings hT g1 ha hM.2.2.1 (dwH_lt h0)) (fun y hy => ok_bind (ok_mono (m_day hT (brS_WS hT g1 (dwH_lt h0)) (by omega) (by omega) hM hy.1) (fun y2 hy2 => ok_some ⟨?_, rfl, hy2.2⟩))))))
      show nI wn + nI _ = _
      rw [nI_add]
end WI
