theorem wthm2 {v : Int32} {H : Nat} (hH : H ≤ 5) (h : fX9_within v (-1) (nI H - 1) = some (nI 0)) : v ≠ -1 ∧ vld v H = false := by
  have e2 : (nI H - 1).toInt = (H : Int) - 1 := pk_sub_toInt (b := 1) (by omega) (by omega)
  have e1 : (-1 : Int32).toInt = -1 := by decide
  have bad : ¬ v < -1 → ¬ (nI H - 1 < v) → False := fun h1 h2 => by
    unfold fX9_within at h
    rw [if_neg h1, if_neg h2] at h
    exact absurd (Option.some.inj h) (by decide)
  constructor
  · intro e
    subst e
    refine bad (Int32.lt_irrefl) (fun z => ?_)
    rw [Int32.lt_iff_toInt_lt, e1, e2] at z
    omega
  · cases z : vld v H
    · rfl
    · exfalso
      obtain ⟨j, hj, rfl⟩ := isIn hH z
      refine bad (fun y => ?_) (fun y => ?_)
      · rw [Int32.lt_iff_toInt_lt, e1, nI_toInt (by omega)] at y
        omega
      · rw [Int32.lt_iff_toInt_lt, e2, nI_toInt (by omega)] at y
        omega
theorem srch_some {T : Ter} {S : Sta} {n : Nat} : ∀ (r w : Nat) (X : Sta) (row : Nat → Int32) (a : Acc), ∃ x, srch T S n r w X row a = some x := by
  intro r
  induction r with
  | zero =>
    intro w X row a
    show ∃ x, updA a (kX T S X n) row = some x
    cases a with
    | none => exact ⟨_, rfl⟩
    | some y =>
      show ∃ x, (if kX T S X n < y.1 then some (kX T S X n, row) else some y) = some x
      split
      · exact ⟨_, rfl⟩
      · exact ⟨_, rfl⟩
  | succ r ih =>
    intro w X row a
    show ∃ x, (if isO S w = true then _ else _) = some x
    split
    · exact ih _ _ _ _
    · exact ih _ _ _ _
section LG
variable {T : Ter} {S : Sta} {N : Nat} {catB wanB len br : Int32} {cold hf ct bu be kd gf fo code coal inside : Nat → Int32}
variable {tr hf' ct' bu' wl kd' gf' wr cd lf lt cds s : Nat → Int32}
theorem c_search {n : Nat} {wt dst dla dbc dse : Int32} {st row lf0 law0 best : Nat → Int32} (hT : WT T) (hS : WS T N S) (hN : N ≤ 1800) (hn1 : 1 ≤ n) (hn2 : n ≤ 30) (hC : CT T (nI (tN T)) (nI (tH T)) (nI (tG T)) (nI (tS T)) catB wanB len cold hf ct bu be kd gf fo code) (hs : CS T S (nI (sZ S)) (nI (sD S)) br coal inside) :
    ok (fX2_search (nI (tN T)) (nI (tH T)) (nI (tG T)) wanB len (nI (sZ S)) (nI (sD S)) cold hf bu kd gf fo code coal dst dla dbc dse wt row lf0 law0 best st inside (nI n)) (fun r => ∃ x rw0, srch T S n (tG T) 0 S rw0 none = some x ∧ (∃ p q, p ≤ 5 ∧ Qn T S n + q ≤ 5 ∧ x.1 = C0n T S n + (16 * p + q) ∧ r.2.2.2.1 = nI (Pn T S n + p)) ∧ ∀ j, j < tG T → r.2.2.2.2.2.2.2.2.1 j = x.2 j) := by
  have hH := hT.1
  have hG := hT.2.1
  have hZ := hS.z hT
  have hd := hS.1
  have hcs := csT_le (d := sD S) (n := n) hT
  have es : fX4_streetBits (nI (sZ S)) (nI (tH T)) (nI (tG T)) inside = some (nI (oOut T S)) := c_street hH hG hZ (fun w _ => hS.2.2.2.2.1 w) hs.2.2.2.2
  have hO := oOut_lt (S := S) hT
  have hSX : Xof T S S := ⟨rfl, rfl, rfl, rfl, fun _ _ => rfl⟩
  obtain ⟨L, hL⟩ : ∃ L, L = bs (fun h => decide (tbu T h * csT T (sD S) n < sC S h)) (tH T) := ⟨_, rfl⟩
  have hLl : L < 32 := by rw [hL]; exact bs_le hH
  have ela : fX4_lastingBits (nI (tH T)) coal bu (nI (csT T (sD S) n)) = some (nI L) := by rw [hL]; exact c_lasting hT hS hC hs (by omega)
  have eot : ∃ v, fX4_seizedIfLasting (nI (sZ S)) (nI (tH T)) (nI (tG T)) wanB inside (nI L) = some v ∧ v &&& (nI (oOut T S) ^^^ (-1)) = nI (bs (fun w => !isO S w && fSz T S n w (sA S w)) (tG T)) := by
    refine ⟨_, c_sil hT hS hC hs hLl, ?_⟩
    have e2 : ∀ m, m < 32 → ∀ n, n < 32 → nI m &&& (nI n ^^^ (-1)) = nI (bs (fun u => m.testBit u && !n.testBit u) 5) := by decide +kernel
    have hb := bs_le (p := fun w => (sA S w == 0 || !L.testBit (sA S w - 1)) && tkd T w == 1) hG
    have hor : sZ S ||| bs (fun w => (sA S w == 0 || !L.testBit (sA S w - 1)) && tkd T w == 1) (tG T) < 32 := Nat.or_lt_two_pow (n := 5) hZ hb
    rw [e2 _ hor _ hO]
    congr 1
    apply Nat.eq_of_testBit_eq
    intro u
    rw [bs_bit, bs_bit, Nat.testBit_or, bs_bit]
    by_cases hu : u < tG T
    · have e1 : (oOut T S).testBit u = isO S u := by unfold oOut; rw [bs_bit, decide_eq_true hu]; rfl
      rw [e1, decide_eq_true hu, decide_eq_true (show u < 5 by omega), Bool.true_and, Bool.true_and, Bool.true_and, Bool.and_comm]
      congr 1
      unfold fSz fOut
      have hau := hS.2.2.2.2.1 u
      by_cases h1 : tkd T u = 1
      · have e3 : (tkd T u == 3) = false := by rw [h1]; rfl
        have e4 : (tkd T u == 1) = true := by simpa using h1
        rw [e3, e4]
        by_cases h0 : sA S u = 0
        · rw [h0]; rfl
        · have e0 : (sA S u == 0) = false := by simpa using h0
          have eb : L.testBit (sA S u - 1) = lastB T S n (sA S u - 1) := by rw [hL, bs_bit, decide_eq_true (show sA S u - 1 < tH T by omega)]; rfl
          rw [e0, eb]; rfl
      · have e4 : (tkd T u == 1) = false := by simpa using h1
        rw [e4, Bool.and_false, Bool.and_false]
    · have hz : (sZ S).testBit u = false := Nat.testBit_lt_two_pow (Nat.lt_of_lt_of_le hS.2.1 (Nat.pow_le_pow_right (by decide) (by omega)))
      rw [decide_eq_false hu, hz]; simp
  obtain ⟨v4, ev4, ev5⟩ := eot
  unfold fX2_search
  rw [es, c_coldOver hT hC.2.2.2.2.2.2.1 (by omega) (by omega)]
  refine ok_bind (ok_some (ok_bind (ok_some ?_)))
  rw [ela]
  refine ok_bind (ok_some ?_)
  rw [ev4]
  refine ok_bind (ok_some ?_)
  rw [ev5]
  have hPl : Pn T S n ≤ 5 := Nat.le_trans cnt_le hG
  have fin : ∀ (law : Nat → Int32) (wt : Int32) (st : Nat → Int32), (oOut T S ≠ 0 → LwA T S law) → ok (fX2_search_58 (nI (tN T)) (nI (tH T)) (nI (tG T)) wanB len (nI (sZ S)) (nI (sD S)) cold hf bu kd gf fo code coal (nI (oOut T S)) (nI L) dbc dse wt row lf0 law best st inside (nI (bs (fun w => !isO S w && fSz T S n w (sA S w)) (tG T)))) (fun r => ∃ x rw0, srch T S n (tG T) 0 S rw0 none = some x ∧ (∃ p q, p ≤ 5 ∧ Qn T S n + q ≤ 5 ∧ x.1 = C0n T S n + (16 * p + q) ∧ r.2.2.2.1 = nI (Pn T S n + p)) ∧ ∀ j, j < tG T → r.2.2.2.2.2.2.2.2.1 j = x.2 j) := by
    intro law wt st hlaw
    -- a law that serves where nobody is out, too
    have hone : ∀ w, w < tG T → isO S w = true → LwA T S law := by
      intro w hw hO2
      apply hlaw
      intro e
      have : (oOut T S).testBit w = true := by unfold oOut; rw [bs_bit, decide_eq_true hw]; exact hO2
      rw [e] at this
      simp at this
    obtain ⟨ls, hls⟩ : ∃ ls : Nat → Nat, ∀ w, w < tG T → isO S w = true → fX2_leastCost (nI L) (nI (tH T)) law hf kd gf inside (nI w) = some (nI (ls w)) ∧ ls w ≤ c1 T S n w 0 ∧ ∀ (X : Sta) (M : Nat) (h : Nat), Xof T S X → WS T M X → sA X w = 0 → h < tH T → tk T X h w = true → ls w ≤ c1 T S n w (h + 1) := by
      refine Classical.axiomOfChoice (r := fun w m => w < tG T → isO S w = true → fX2_leastCost (nI L) (nI (tH T)) law hf kd gf inside (nI w) = some (nI m) ∧ m ≤ c1 T S n w 0 ∧ ∀ (X : Sta) (M : Nat) (h : Nat), Xof T S X → WS T M X → sA X w = 0 → h < tH T → tk T X h w = true → m ≤ c1 T S n w (h + 1)) (fun w => ?_)
      by_cases q : w < tG T ∧ isO S w = true
      · obtain ⟨r, er, m, rfl, h1, h2⟩ := c_least hT hS hC hs.2.2.2.2 (hone w q.1 q.2) q.1 q.2 hL
        exact ⟨m, fun _ _ => ⟨er, h1, h2⟩⟩
      · exact ⟨0, fun a b => absurd ⟨a, b⟩ q⟩
    have hlsb : ∀ w, w < tG T → isO S w = true → ls w ≤ 17 := fun w hw z => Nat.le_trans (hls w hw z).2.1 c1_le
    have oSle : ∀ m, m ≤ tG T → oS S ls m ≤ 17 * m := by
      intro m
      induction m with
      | zero => intro _; exact Nat.le_refl _
      | succ m ih =>
        intro hm
        show oS S ls m + (if isO S m = true then ls m else 0) ≤ _
        have := ih (by omega)
        by_cases z : isO S m = true
        · rw [if_pos z]; have := hlsb m (by omega) z; omega
        · rw [if_neg z]; omega
    unfold fX2_search_58
    rw [nC (by omega)]
    refine ok_g (nB (by omega) (by omega)) ?_
    have main : ∀ (m : Nat), m ≤ tG T → ∀ (F : Nat), m < F → ∀ (lfA : Nat → Int32) (d3 d4 : Int32), (∀ j, m ≤ j → j ≤ tG T → lfA j = nI (oS S ls (tG T) - oS S ls j)) → ok (itr (fun kk => fX2_search_76 (nI (tN T)) (nI (tH T)) (nI (tG T)) wanB len (nI (sZ S)) (nI (sD S)) cold hf bu kd gf fo code coal kk) (fun _ _ _ _ _ _ _ _ _ _ _ _ _ => none) F (nI (oOut T S)) (nI L) d3 d4 wt row lfA law best st inside (nI (bs (fun w => !isO S w && fSz T S n w (sA S w)) (tG T))) (plI m)) (fun r => ∃ x rw0, srch T S n (tG T) 0 S rw0 none = some x ∧ (∃ p q, p ≤ 5 ∧ Qn T S n + q ≤ 5 ∧ x.1 = C0n T S n + (16 * p + q) ∧ r.2.2.2.1 = nI (Pn T S n + p)) ∧ ∀ j, j < tG T → r.2.2.2.2.2.2.2.2.1 j = x.2 j) := by
      intro m
      induction m with
      | zero =>
        intro _ F hF lfA d3 d4 hlf
        obtain ⟨F', rfl⟩ : ∃ F', F = F' + 1 := ⟨F - 1, by omega⟩
        show ok (fX2_search_76 _ _ _ _ _ _ _ _ _ _ _ _ _ _ _ _ _ _ _ _ _ _ _ _ _ _ _ _ _) _
        unfold fX2_search_76
        refine ok_t (show plI 0 < 0 by decide) ?_
        have hlodge : ok (fX2_lodge 8 (nI (oOut T S)) (nI L) (nI (tH T)) (nI (tG T)) lfA law hf kd gf fo coal 2147483647 row best inside 0 0) (fun r' => CE T S n (srch T S n (tG T) 0 S row none) r'.1 r'.2.2.1) := by
          by_cases hz : oOut T S = 0
          · have hno : ∀ w, w < tG T → isO S w = false := by
              intro w hw
              have : (oOut T S).testBit w = isO S w := by unfold oOut; rw [bs_bit, decide_eq_true hw]; rfl
              rw [hz] at this
              simpa using this.symm
            -- nobody is out: the law is not asked
            obtain ⟨law2, hl2⟩ : ∃ law2 : Nat → Int32, LwA T S law2 := ⟨fun i => if i % 2 = 0 then nI (lawS T S (i / 2) false) else nI (lawS T S (i / 2) true), fun h _ => ⟨by show (if 2 * h % 2 = 0 then nI (lawS T S (2 * h / 2) false) else _) = _; rw [if_pos (by omega), show 2 * h / 2 = h by omega], by show (if (2 * h + 1) % 2 = 0 then _ else nI (lawS T S ((2 * h + 1) / 2) true)) = _; rw [if_neg (by omega), show (2 * h + 1) / 2 = h by omega]⟩⟩
            have free : ∀ (r w : Nat), w + r = tG T → ∀ (M : Nat), r < M → ∀ (bc : Int32) (arr bst ins : Nat → Int32) (v4 : Int32), itr FX2_lodge (fun _ _ _ _ _ _ _ _ _ _ _ _ _ _ _ _ _ => none) M (nI (oOut T S)) (nI L) (nI (tH T)) (nI (tG T)) lfA law hf kd gf fo coal bc arr bst ins (nI w) v4 = itr FX2_lodge (fun _ _ _ _ _ _ _ _ _ _ _ _ _ _ _ _ _ => none) M (nI (oOut T S)) (nI L) (nI (tH T)) (nI (tG T)) lfA law2 hf kd gf fo coal bc arr bst ins (nI w) v4 := by
              intro r
              induction r with
              | zero =>
                intro w hw M hM bc arr bst ins v4
                obtain ⟨M', rfl⟩ : ∃ M', M = M' + 1 := ⟨M - 1, by omega⟩
                show FX2_lodge _ _ _ _ _ _ _ _ _ _ _ _ _ _ _ _ _ _ = FX2_lodge _ _ _ _ _ _ _ _ _ _ _ _ _ _ _ _ _ _
                unfold FX2_lodge
                have e : nI w = nI (tG T) := by rw [show w = tG T by omega]
                rw [if_pos e, if_pos e]
              | succ r ih =>
                intro w hw M hM bc arr bst ins v4
                obtain ⟨M', rfl⟩ : ∃ M', M = M' + 1 := ⟨M - 1, by omega⟩
                have ih1 := ih (w + 1) (by omega) M' (by omega)
                show FX2_lodge (itr FX2_lodge (fun _ _ _ _ _ _ _ _ _ _ _ _ _ _ _ _ _ => none) M') (nI (oOut T S)) (nI L) (nI (tH T)) (nI (tG T)) lfA law hf kd gf fo coal bc arr bst ins (nI w) v4 = FX2_lodge (itr FX2_lodge (fun _ _ _ _ _ _ _ _ _ _ _ _ _ _ _ _ _ => none) M') (nI (oOut T S)) (nI L) (nI (tH T)) (nI (tG T)) lfA law2 hf kd gf fo coal bc arr bst ins (nI w) v4
                generalize itr FX2_lodge (fun _ _ _ _ _ _ _ _ _ _ _ _ _ _ _ _ _ => none) M' = sf at ih1
                have eli : fX2_isLodged (nI (oOut T S)) (nI w) = some (nI 0) := by
                  rw [hz]
                  unfold fX2_isLodged
                  have h5 : ∀ w, w < 5 → ((nI 0 >>> (nI w &&& 31)) &&& 1) = 0 := by decide +kernel
                  rw [if_pos (h5 w (by omega))]; rfl
                have e147 : ∀ v4, fX2_lodge_147 (nI (oOut T S)) (nI L) (nI (tH T)) (nI (tG T)) lfA law hf kd gf fo coal sf bc arr bst ins (nI w) v4 = fX2_lodge_147 (nI (oOut T S)) (nI L) (nI (tH T)) (nI (tG T)) lfA law2 hf kd gf fo coal sf bc arr bst ins (nI w) v4 := by
                  intro v4
                  unfold fX2_lodge_147
                  rw [nI_1, ih1]
                unfold FX2_lodge
                rw [eli]
                simp only [ob_some]
                rw [if_pos (show nI 0 = 0 from rfl), if_pos (show nI 0 = 0 from rfl), e147]
            have h := c_lodge (N := N) (n := n) (ls := ls) (lfA := lfA) hT hS hC hs.2.2.2.1 hl2 hL (fun w hw z => by rw [hno w hw] at z; cases z) (fun w hw => hlf w (by omega) hw) (tG T) 0 (by omega) 8 (by omega) S row none (nI 2147483647) row best inside hSX hS (fun j _ hj => by
              unfold isO at hj; rw [Bool.and_eq_true] at hj; simpa using hj.1) hs.2.2.2.2 rfl (fun j hj => by omega)
            have e := free (tG T) 0 (by omega) 8 (by omega) (nI 2147483647) row best inside (nI (oS S (fun j => c1 T S n j (sA S j)) 0))
            rw [← e] at h
            exact ok_mono h (fun r hr => hr.1)
          · have h := c_lodge (N := N) (n := n) (ls := ls) (lfA := lfA) hT hS hC hs.2.2.2.1 (hlaw hz) hL (fun w hw z => ⟨hlsb w hw z, (hls w hw z).2.1, fun X M h => (hls w hw z).2.2 X M h⟩) (fun w hw => hlf w (by omega) hw) (tG T) 0 (by omega) 8 (by omega) S row none (nI 2147483647) row best inside hSX hS (fun j _ hj => by
              unfold isO at hj; rw [Bool.and_eq_true] at hj; simpa using hj.1) hs.2.2.2.2 rfl (fun j hj => by omega)
            exact ok_mono h (fun r hr => hr.1)
        refine ok_bind (ok_mono hlodge (fun y2 h2 => ?_))
        have hbl := bs_le (p := fun w => !isO S w && fSz T S n w (sA S w)) hG
        rw [pJ6_bits _ (by omega), pop_bs (by omega)]
        refine ok_bind (ok_some ?_)
        obtain ⟨x, hx⟩ := srch_some (T := T) (S := S) (n := n) (tG T) 0 S row none
        rw [hx] at h2
        obtain ⟨p, q, e1, e2, e3, e4, e5⟩ := h2
        refine ok_some ⟨x, row, hx, ⟨p, q, e1, e2, e3, ?_⟩, e5⟩
        show nI (Pn T S n) + y2.1 / 16 = _
        rw [e4, show (16 : Int32) = nI 16 from rfl, pk_div (by omega) (by omega) (by omega), nI_add]
        congr 2
        omega
      | succ m ih =>
        intro hm F hF lfA d3 d4 hlf
        obtain ⟨F', rfl⟩ : ∃ F', F = F' + 1 := ⟨F - 1, by omega⟩
        have hmono : oS S ls (m + 1) ≤ oS S ls (tG T) := sm_le hm
        have hstep : oS S ls (m + 1) = oS S ls m + (if isO S m = true then ls m else 0) := rfl
        have htl := oSle (tG T) (Nat.le_refl _)
        rw [← plI_succ m]
        show ok (fX2_search_76 _ _ _ _ _ _ _ _ _ _ _ _ _ _ _ _ _ _ _ _ _ _ _ _ _ _ _ _ _) _
        unfold fX2_search_76
        have em : nI m + (-1) = plI m := by
          unfold plI
          split
          · rename_i z; rw [z]; rfl
          · obtain ⟨m', rfl⟩ : ∃ m', m = m' + 1 := ⟨m - 1, by omega⟩
            exact pk_m1 m'
        have eli : fX2_isLodged (nI (oOut T S)) (nI m) = some (nI (b2 (isO S m))) := by
          unfold fX2_isLodged
          have : (oOut T S).testBit m = isO S m := by unfold oOut; rw [bs_bit, decide_eq_true (show m < tG T by omega)]; rfl
          simp (disch := omega) only [nlit, nI_add, pk_mul, nC, nB, nT_le, nF_le, nT_lt, nF_lt, nF_eq, nT_eq, nM1_ne, nM1_lt, b2_0, b2_1, b2_nar, nar_0, nar_1, cond_true, if_true, if_false, ob_some, q_bit, this]
          cases isO S m <;> rfl
        rw [eli, nI_1, nC (by omega), hlf (m + 1) (Nat.le_refl _) hm]
        refine ok_f (nI_pos (by omega)) (ok_g (nB (by omega) (by omega)) (ok_bind (ok_some ?_)))
        have next : ∀ v : Nat, v = (if isO S m = true then ls m else 0) → ok (fX2_search_117 (nI (tN T)) (nI (tH T)) (nI (tG T)) wanB len (nI (sZ S)) (nI (sD S)) cold hf bu kd gf fo code coal (itr (fun kk => fX2_search_76 (nI (tN T)) (nI (tH T)) (nI (tG T)) wanB len (nI (sZ S)) (nI (sD S)) cold hf bu kd gf fo code coal kk) (fun _ _ _ _ _ _ _ _ _ _ _ _ _ => none) F') (nI (oOut T S)) (nI L) d3 d4 wt row lfA law best st inside (nI (bs (fun w => !isO S w && fSz T S n w (sA S w)) (tG T))) (nI m) (nI v) (nI (oS S ls (tG T) - oS S ls (m + 1))) (nI m)) (fun r => ∃ x rw0, srch T S n (tG T) 0 S rw0 none = some x ∧ (∃ p q, p ≤ 5 ∧ Qn T S n + q ≤ 5 ∧ x.1 = C0n T S n + (16 * p + q) ∧ r.2.2.2.1 = nI (Pn T S n + p)) ∧ ∀ j, j < tG T → r.2.2.2.2.2.2.2.2.1 j = x.2 j) := by
          intro v hv
          unfold fX2_search_117
          rw [em, nC (by omega), nI_add]
          refine ok_g (nB (by omega) (by omega)) (ih (by omega) F' (by omega) _ d3 d4 (fun j h1 h2 => ?_))
          by_cases z : j = m
          · subst z
            rw [pk_us]
            congr 1
            omega
          · rw [pk_un z]; exact hlf j (by omega) h2
        cases q : isO S m
        · refine ok_t rfl ?_
          exact next 0 (by rw [q]; rfl)
        · refine ok_f (by decide) ?_
          rw [(hls m (by omega) q).1]
          refine ok_bind (ok_some ?_)
          exact next (ls m) (by rw [q]; rfl)
    have e0 : nI (tG T) - 1 = plI (tG T) := by
      unfold plI
      split
      · rename_i z; rw [z]; rfl
      · exact nsub (b := 1) (by omega)
    rw [e0]
    refine main (tG T) (Nat.le_refl _) FU (by unfold FU; omega) _ _ _ (fun j h1 h2 => ?_)
    have : j = tG T := by omega
    subst this
    rw [pk_us, Nat.sub_self]; rfl
  by_cases q : oOut T S = 0
  · rw [q]
    refine ok_t rfl ?_
    have := fin law0 wt st (fun z => absurd q z)
    rw [q] at this
    exact this
  · refine ok_f (fun e => q ((nI_eq (b := 0) (by omega) (by omega)).mp e)) ?_
    exact ok_bind (ok_mono (c_learn hT hC hs) (fun y hy => fin y.2.1 y.1 y.2.2 (fun _ => hy)))
end LG
