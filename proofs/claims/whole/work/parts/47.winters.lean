section WJ
variable {T : Ter} {S : Sta} {N : Nat} {catB wanB len br : Int32} {cold hf ct bu be kd gf fo code coal inside : Nat → Int32}
variable {tr hf' ct' bu' wl kd' gf' wr cd lf lt cds s : Nat → Int32}
theorem p_winters {wt th tz td tb : Int32} {dr mg : Int64} {st tc ti asd k1 k2 k3 k4 k5 k6 k7 k8 k9 vo : Nat → Int32} (v1 v2 v3 : Int32) (hT : WT T) (hS : WS T N S) (hN : N ≤ 1800) (hC : CT T (nI (tN T)) (nI (tH T)) (nI (tG T)) (nI (tS T)) catB wanB len cold hf ct bu be kd gf fo code) (hs : CS T S (nI (sZ S)) (nI (sD S)) (sB S) coal inside) (hM : MT T tr hf' ct' bu' wl kd' gf' wr cd lf lt cds) (hm : MS S s) :
    ∃ a, ok (fX8_winters (nI (sZ S)) (nI (sD S)) (sB S) (nI (tN T)) (nI (tH T)) (nI (tG T)) (nI (tS T)) catB wanB len coal inside cold hf bu be kd gf fo code tz td tb wt dr tc ti st v1 v2 v3) (fun r => r.1 = a) ∧ ok (fX9_winters (nI 0) tr hf' bu' wl kd' gf' wr cd lf lt cds th mg k1 k2 k3 k4 k5 k6 k7 k8 k9 vo s asd v1 v2 v3) (fun r => r.1 = a ∧ MS S r.2.2.2.2.2.2.2.2.2.2.2.2.2.1) := by
  have hH := hT.1
  have hG := hT.2.1
  unfold fX8_winters fX9_winters
  simp only [nlit]
  rcases wthn v1 0 9999 (by omega) (by omega) with ⟨g, -, hg, rfl, e1, e1'⟩ | ⟨e1, e1'⟩
  rotate_left
  · rw [e1, e1']; exact ⟨-nI 1, ok_some rfl, ok_some ⟨rfl, hm⟩⟩
  rw [e1, e1']
  rcases wthn v2 1 99 (by omega) (by omega) with ⟨n, hn1, hn2, rfl, e2, e2'⟩ | ⟨e2, e2'⟩
  rotate_left
  · rw [e2, e2']; exact ⟨-nI 1, ok_some rfl, ok_some ⟨rfl, hm⟩⟩
  rw [e2, e2']
  rcases wthn v3 0 2 (by omega) (by omega) with ⟨j, -, hj, rfl, e3, e3'⟩ | ⟨e3, e3'⟩
  rotate_left
  · rw [e3, e3']; exact ⟨-nI 1, ok_some rfl, ok_some ⟨rfl, hm⟩⟩
  rw [e3, e3']
  have h10 : ¬ nI 1 = nI 0 := by decide
  have eg : Int32.toInt64 (nI g) = lN g := nI_l (by omega)
  rw [eg]
  have hL := fun i => lifN_ok (T := T) (x := (g, S, 0)) hT hS (show g < 2147483648 by omega) i
  refine ⟨if j = 0 then nI (lifN T (g, S, 0) n).2.2 else if j = 1 then nI (sZ (lifN T (g, S, 0) n).2.1) else nI (sm (sC (lifN T (g, S, 0) n).2.1) (tH T)), ?_, ?_⟩
  · refine ok_bind (ok_some (ok_f h10 (ok_bind (ok_some (ok_f h10 (ok_bind (ok_some (ok_f h10 ?_))))))))
    refine ok_bind (ok_mono (c_copyFrom hH hs) (fun y hy => ?_))
    refine ok_for11 n (fun i z d b _ q c ins _ w2 w3 w4 => CS T (lifN T (g, S, 0) i).2.1 z d b c ins ∧ q = lN (lifN T (g, S, 0) i).1 ∧ w2 = nI n ∧ w3 = nI j ∧ w4 = nI (lifN T (g, S, 0) i).2.2) ?_ ?_ FU 0 _ _ _ wt (lN g) _ _ st (nI n) (nI j) (nI 0) (Nat.zero_le _) ⟨hy, rfl, rfl, rfl, rfl⟩ (by unfold FU; omega)
    · rintro k z d b wt q c ins st w2 w3 w4 i hlt ⟨hc, rfl, rfl, rfl, rfl⟩ hk
      obtain ⟨l1, l2⟩ := hL i
      have ez := hc.1
      have ed := hc.2.1
      have eb := hc.2.2.1
      subst ez ed eb
      have es : lifN T (g, S, 0) (i + 1) = lifT T (lifN T (g, S, 0) i) := rfl
      generalize lifN T (g, S, 0) i = x at l1 l2 hc es hk
      unfold fX8_winters_55
      refine ok_f (nI_ge hlt (by omega)) ?_
      by_cases h00 : tH T = 0
      · have e : lifT T x = (x.1, dy T 0 x.2.1, x.2.2) := by unfold lifT; rw [if_pos h00]
        have eb : fX8_goByDraws (nI (sZ x.2.1)) (nI (sD x.2.1)) (nI (tH T)) (nI (tG T)) (nI (tS T)) len hf be kd gf fo code (sB x.2.1) wt (lN x.1) c ins st = some (nI 0, sB x.2.1, wt, lN x.1, c, ins, st) := by
          unfold fX8_goByDraws; rw [if_pos (show nI (tH T) = 0 by rw [h00]; rfl)]; rfl
        rw [eb]
        refine ok_bind (ok_some (ok_bind (ok_mono (c_day hT l1 (by omega) hC hc) (fun y6 h6 => ?_))))
        rw [nI_1, nI_add]
        refine hk _ _ _ _ _ _ _ _ _ _ _ ?_
        rw [es, e]
        exact ⟨h6.2, rfl, rfl, rfl, rfl⟩
      · have h0 : 0 < tH T := by omega
        have e : lifT T x = (lcg (goN T (x.1, x.2.1, 0) (tG T)).1, dy T 0 (brS T (goN T (x.1, x.2.1, 0) (tG T)).2.1 (dwH T (lcg (goN T (x.1, x.2.1, 0) (tG T)).1))), x.2.2 + (goN T (x.1, x.2.1, 0) (tG T)).2.2) := by unfold lifT; rw [if_neg h00]
        obtain ⟨g1, g2, g3, g4⟩ := goN_ok (T := T) (x := (x.1, x.2.1, 0)) h0 l1 l2 (Nat.le_refl (tG T))
        have g3 : sZ (brS T (goN T (x.1, x.2.1, 0) (tG T)).2.1 (dwH T (lcg (goN T (x.1, x.2.1, 0) (tG T)).1))) = sZ x.2.1 := g3
        have g4 : sD (brS T (goN T (x.1, x.2.1, 0) (tG T)).2.1 (dwH T (lcg (goN T (x.1, x.2.1, 0) (tG T)).1))) = sD x.2.1 := g4
        refine ok_bind (ok_mono (c_goBy hT l1 l2 h0 hC hc) (fun y5 h5 => ?_))
        obtain ⟨h51, h52, h53⟩ := h5
        have hw := brS_WS (T := T) hT g1 (dwH_lt (g := lcg (goN T (x.1, x.2.1, 0) (tG T)).1) h0)
        have h54 := h53
        rw [← g3, ← g4] at h54
        have hd := c_day hT hw (by omega) hC h54
        rw [g3, g4] at hd
        refine ok_bind (ok_mono hd (fun y6 h6 => ?_))
        rw [nI_1, h51, nI_add]
        refine hk _ _ _ _ _ _ _ _ _ _ _ ?_
        rw [es, e]
        exact ⟨h6.2, h52, rfl, rfl, rfl⟩
    · rintro k z d b wt q c ins st w2 w3 w4 ⟨hc, rfl, rfl, rfl, rfl⟩
      obtain ⟨l1, l2⟩ := hL n
      unfold fX8_winters_55
      refine ok_t (nI_le (Nat.le_refl _) (by omega)) ?_
      have ea : fX4_allCoal (nI (tH T)) c = some (nI (sm (sC (lifN T (g, S, 0) n).2.1) (tH T))) := c_allCoal hH (fun i hi => ⟨hc.2.2.2.1 i hi, l1.2.2.1 i (by omega)⟩)
      have h3 : j = 0 ∨ j = 1 ∨ j = 2 := by omega
      rcases h3 with rfl | rfl | rfl
      · exact ok_t rfl (ok_some rfl)
      · exact ok_f (show ¬ nI 1 = 0 by decide) (ok_t rfl (ok_some hc.1))
      · refine ok_f (show ¬ nI 2 = 0 by decide) (ok_f (show ¬ nI 2 = 1 by decide) ?_)
        rw [ea]
        exact ok_bind (ok_some (ok_some rfl))
  · refine ok_bind (ok_some (ok_f h10 (ok_bind (ok_some (ok_f h10 (ok_bind (ok_some (ok_f h10 ?_))))))))
    refine ok_bind (ok_mono m_copy13 (fun y hy => ?_))
    have hy := MS_congr hm hy
    refine ok_for17 n (fun i _ q _ _ _ _ _ _ _ _ _ _ a b w2 w3 w4 => MS (lifN T (g, S, 0) i).2.1 a ∧ MS S b ∧ q = lN (lifN T (g, S, 0) i).1 ∧ w2 = nI n ∧ w3 = nI j ∧ w4 = nI (lifN T (g, S, 0) i).2.2) ?_ ?_ FU 0 _ (lN g) _ _ _ _ _ _ _ _ _ _ s y (nI n) (nI j) (nI 0) (Nat.zero_le _) ⟨hm, hy, rfl, rfl, rfl, rfl⟩ (by unfold FU; omega)
    · rintro k a0 q a1 a2 a3 a4 a5 a6 a7 a8 a9 a10 a b w2 w3 w4 i hlt ⟨ha, hb, rfl, rfl, rfl, rfl⟩ hk
      obtain ⟨l1, l2⟩ := hL i
      have es : lifN T (g, S, 0) (i + 1) = lifT T (lifN T (g, S, 0) i) := rfl
      generalize lifN T (g, S, 0) i = x at l1 l2 ha es hk
      unfold fX9_winters_62
      refine ok_f (nI_ge hlt (by omega)) ?_
      refine ok_bind (ok_mono (m_lives hT l1 (by omega) l2 hM ha x.2.2) (fun y6 h6 => ?_))
      obtain ⟨h61, h62, h63⟩ := h6
      rw [nI_1, h61]
      refine hk _ _ _ _ _ _ _ _ _ _ _ _ _ _ _ _ _ ?_
      rw [es]
      exact ⟨h63, hb, h62, rfl, rfl, rfl⟩
    · rintro k a0 q a1 a2 a3 a4 a5 a6 a7 a8 a9 a10 a b w2 w3 w4 ⟨ha, hb, rfl, rfl, rfl, rfl⟩
      obtain ⟨l1, l2⟩ := hL n
      unfold fX9_winters_62
      refine ok_t (nI_le (Nat.le_refl _) (by omega)) ?_
      rw [m_allCoal hT l1 ha]
      refine ok_bind (ok_some (ok_bind (ok_mono m_copy13 (fun y3 h3 => ?_))))
      have h3 := MS_congr hb h3
      have hj3 : j = 0 ∨ j = 1 ∨ j = 2 := by omega
      rcases hj3 with rfl | rfl | rfl
      · exact ok_t rfl (ok_some ⟨rfl, h3⟩)
      · exact ok_f (show ¬ nI 1 = 0 by decide) (ok_t rfl (ok_some ⟨ha.2.1, h3⟩))
      · exact ok_f (show ¬ nI 2 = 0 by decide) (ok_f (show ¬ nI 2 = 1 by decide) (ok_some ⟨rfl, h3⟩))
end WJ
