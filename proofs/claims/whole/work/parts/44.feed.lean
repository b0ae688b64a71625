/-! feed, count -/
abbrev Tap : Type := Nat × (Nat → Nat)
def gdB (j : Nat) : Bool := j == 10 || (decide (32 ≤ j) && decide (j ≤ 126))
def WP (Z : Tap) : Prop := Z.1 ≤ 1000 ∧ ∀ i, i < Z.1 → gdB (Z.2 i) = true
def TPR (Z : Tap) (len : Int32) (a : Nat → Int32) : Prop := len = nI Z.1 ∧ ∀ i, i < Z.1 → a i = nI (Z.2 i)
def adB (Z : Tap) (j : Nat) : Tap := if gdB j = true ∧ Z.1 < 1000 then (Z.1 + 1, fun i => if i = Z.1 then j else Z.2 i) else Z
theorem adB_WP {Z : Tap} {j : Nat} (h : WP Z) : WP (adB Z j) := by
  unfold adB
  split
  · rename_i q
    refine ⟨by show Z.1 + 1 ≤ 1000; omega, fun i hi => ?_⟩
    have hi : i < Z.1 + 1 := hi
    show gdB (if i = Z.1 then j else Z.2 i) = true
    split
    · exact q.1
    · exact h.2 i (by omega)
  · exact h
theorem adB_rel {Z : Tap} {j : Nat} {a : Nat → Int32} (h : ∀ i, i < Z.1 → a i = nI (Z.2 i)) (hg : gdB j = true) (hl : Z.1 < 1000) : TPR (adB Z j) (nI (Z.1 + 1)) (upd a Z.1 (nI j)) := by
  unfold adB
  rw [if_pos ⟨hg, hl⟩]
  refine ⟨rfl, fun i hi => ?_⟩
  have hi : i < Z.1 + 1 := hi
  show _ = nI (if i = Z.1 then j else Z.2 i)
  by_cases q : i = Z.1
  · rw [if_pos q, q, pk_us]
  · rw [if_neg q, pk_un q]; exact h i (by omega)
theorem by255 (x : Int64) : ∃ j, j < 256 ∧ Int64.toInt32 (x &&& 255) = nI j := by
  rw [Int64.toInt32_and]
  have h : (Int64.toInt32 255 : Int32) = 255 := by decide +kernel
  rw [h]
  exact pk_andE x.toInt32 (m := 255) 8 (by decide +kernel)
theorem nar_byte : ∀ j, j < 127 → vp_nar .byte (i2b_ (nI j)) = nI j := by decide +kernel
def shB (t : Nat) : Int32 := if t = 8 then -8 else nI (56 - 8 * t)
theorem shB_next : ∀ t, t < 8 → shB t + (-8) = shB (t + 1) := by decide +kernel
theorem shB_neg : ∀ t, t < 8 → ¬ shB t < 0 := by decide +kernel
/-- the bytes of three longs -/
def bysOf (g : Nat → Nat) (Z : Tap) : Nat → Tap
  | 0 => Z
  | n + 1 => adB (bysOf g Z n) (g n)
theorem bys_WP {g : Nat → Nat} {Z : Tap} (h : WP Z) (n : Nat) : WP (bysOf g Z n) := by
  induction n with
  | zero => exact h
  | succ n ih => exact adB_WP ih
theorem bys_add {g : Nat → Nat} {Z : Tap} (m n : Nat) : bysOf g Z (m + n) = bysOf (fun k => g (m + k)) (bysOf g Z m) n := by
  induction n with
  | zero => rfl
  | succ n ih => show adB (bysOf g Z (m + n)) (g (m + n)) = _; rw [ih]; rfl
/-- a step of the class -/
theorem c_byte {Z : Tap} {a : Nat → Int32} {v : Int64} {t j : Nat} {k : Int32 → (Nat → Int32) → Int64 → Int32 → Option (Int32 × (Nat → Int32))} {Q : Int32 × (Nat → Int32) → Prop} (hZ : WP Z) (hr : TPR Z (nI Z.1) a) (ht : t < 8) (hj : j < 256) (ej : Int64.toInt32 ((lush v (shB t)) &&& 255) = nI j) (hk : ∀ (l : Int32) (b : Nat → Int32), TPR (adB Z j) l b → ok (k l b v (shB (t + 1))) Q) : ok (fX5_addBytes_3 k (nI Z.1) a v (shB t)) Q := by
  have hz := hZ.1
  unfold fX5_addBytes_3
  refine ok_f (shB_neg t ht) ?_
  rw [ej, shB_next t ht]
  have bad : gdB j = false → ok (k (nI Z.1) a v (shB (t + 1))) Q := fun e => hk _ _ (by unfold adB; rw [if_neg (fun q => by rw [e] at q; cases q.1)]; exact hr)
  have good : gdB j = true → ok (fX5_addBytes_38 k (nI Z.1) a v (shB t) (nI j)) Q := by
    intro e
    have hj7 : j < 127 := by
      unfold gdB at e
      simp at e
      omega
    unfold fX5_addBytes_38
    rw [shB_next t ht]
    by_cases q : Z.1 < 1000
    · simp (disch := omega) only [nlit, nI_add, pk_mul, nC, nB, nT_le, nF_le, nT_lt, nF_lt, nF_eq, nT_eq, nM1_ne, nM1_lt, b2_0, b2_1, b2_nar, nar_0, nar_1, cond_true, if_true, if_false, ob_some, nar_byte]
      exact hk _ _ (adB_rel hr.2 e q)
    · simp (disch := omega) only [nlit, nI_add, pk_mul, nC, nB, nT_le, nF_le, nT_lt, nF_lt, nF_eq, nT_eq, nM1_ne, nM1_lt, b2_0, b2_1, b2_nar, nar_0, nar_1, cond_true, if_true, if_false, ob_some]
      exact hk _ _ (by unfold adB; rw [if_neg (fun z => q z.2)]; exact hr)
  by_cases q1 : j = 10
  · simp (disch := omega) only [nlit, nI_add, pk_mul, nC, nB, nT_le, nF_le, nT_lt, nF_lt, nF_eq, nT_eq, nM1_ne, nM1_lt, b2_0, b2_1, b2_nar, nar_0, nar_1, cond_true, if_true, if_false, ob_some, q1]
    have := good (by rw [q1]; rfl)
    rw [q1] at this
    exact this
  · by_cases q2 : j < 32
    · simp (disch := omega) only [nlit, nI_add, pk_mul, nC, nB, nT_le, nF_le, nT_lt, nF_lt, nF_eq, nT_eq, nM1_ne, nM1_lt, b2_0, b2_1, b2_nar, nar_0, nar_1, cond_true, if_true, if_false, ob_some]
      exact bad (by unfold gdB; simp; omega)
    · by_cases q3 : 126 < j
      · simp (disch := omega) only [nlit, nI_add, pk_mul, nC, nB, nT_le, nF_le, nT_lt, nF_lt, nF_eq, nT_eq, nM1_ne, nM1_lt, b2_0, b2_1, b2_nar, nar_0, nar_1, cond_true, if_true, if_false, ob_some]
        exact bad (by unfold gdB; simp; omega)
      · simp (disch := omega) only [nlit, nI_add, pk_mul, nC, nB, nT_le, nF_le, nT_lt, nF_lt, nF_eq, nT_eq, nM1_ne, nM1_lt, b2_0, b2_1, b2_nar, nar_0, nar_1, cond_true, if_true, if_false, ob_some]
        exact good (by unfold gdB; simp; omega)
theorem c_addBytes {Z : Tap} {a : Nat → Int32} {v : Int64} {g : Nat → Nat} (hZ : WP Z) (hr : TPR Z (nI Z.1) a) (hg : ∀ t, t < 8 → g t < 256 ∧ Int64.toInt32 ((lush v (shB t)) &&& 255) = nI (g t)) : ok (fX5_addBytes (nI Z.1) a v) (fun r => TPR (bysOf g Z 8) r.1 r.2) := by
  unfold fX5_addBytes
  have main : ∀ (r N t : Nat) (a : Nat → Int32), t + r = 8 → r < N → TPR (bysOf g Z t) (nI (bysOf g Z t).1) a → ok (itr (fun kk => fX5_addBytes_3 kk) (fun _ _ _ _ => none) N (nI (bysOf g Z t).1) a v (shB t)) (fun r => TPR (bysOf g Z 8) r.1 r.2) := by
    intro r
    induction r with
    | zero =>
      intro N t a ht hN h
      obtain ⟨M, rfl⟩ : ∃ M, N = M + 1 := ⟨N - 1, by omega⟩
      have : t = 8 := by omega
      subst this
      show ok (fX5_addBytes_3 _ _ _ _ _) _
      unfold fX5_addBytes_3
      exact ok_t (show shB 8 < 0 by decide) (ok_some h)
    | succ r ih =>
      intro N t a ht hN h
      obtain ⟨M, rfl⟩ : ∃ M, N = M + 1 := ⟨N - 1, by omega⟩
      show ok (fX5_addBytes_3 _ _ _ _ _) _
      refine c_byte (bys_WP hZ t) h (by omega) (hg t (by omega)).1 (hg t (by omega)).2 (fun l b hb => ?_)
      have hb : TPR (bysOf g Z (t + 1)) l b := hb
      rw [hb.1]
      exact ih M (t + 1) b (by omega) (by omega) ⟨rfl, hb.2⟩
  exact main 8 FU 0 a rfl (by unfold FU; omega) hr
theorem p_feed {Z : Tap} {len taped th : Int32} {a a' : Nat → Int32} {v1 v3 v5 : Int64} (hZ : WP Z) (hr : TPR Z len a) (hr' : TPR Z taped a') :
    ∃ (x : Int32) (Z' : Tap), WP Z' ∧ ok (fX8_feed len a v1 v3 v5) (fun r => r.1 = x ∧ TPR Z' r.2.1 r.2.2) ∧ ok (fX9_feed th taped a' v1 v3 v5) (fun r => r.1 = x ∧ TPR Z' r.2.2.1 r.2.2.2) := by
  have bex : ∀ v : Int64, ∃ g : Nat → Nat, ∀ t, t < 8 → g t < 256 ∧ Int64.toInt32 ((lush v (shB t)) &&& 255) = nI (g t) := by
    intro v
    obtain ⟨g, hg⟩ := Classical.axiomOfChoice (fun t => by255 (lush v (shB t)))
    exact ⟨g, fun t _ => hg t⟩
  obtain ⟨g1, h1⟩ := bex v1
  obtain ⟨g2, h2⟩ := bex v3
  obtain ⟨g3, h3⟩ := bex v5
  obtain ⟨rfl, hr2⟩ := hr
  obtain ⟨rfl, hr2'⟩ := hr'
  refine ⟨nI (bysOf g3 (bysOf g2 (bysOf g1 Z 8) 8) 8).1, bysOf g3 (bysOf g2 (bysOf g1 Z 8) 8) 8, bys_WP (bys_WP (bys_WP hZ 8) 8) 8, ?_, ?_⟩
  · unfold fX8_feed
    refine ok_bind (ok_mono (c_addBytes hZ ⟨rfl, hr2⟩ h1) (fun y1 e1 => ?_))
    rw [e1.1]
    refine ok_bind (ok_mono (c_addBytes (bys_WP hZ 8) ⟨rfl, e1.2⟩ h2) (fun y2 e2 => ?_))
    rw [e2.1]
    refine ok_bind (ok_mono (c_addBytes (bys_WP (bys_WP hZ 8) 8) ⟨rfl, e2.2⟩ h3) (fun y3 e3 => ?_))
    exact ok_some ⟨e3.1, e3⟩
  · -- the reference: 24 bytes in one row
    obtain ⟨g, eg⟩ : ∃ g : Nat → Nat, ∀ k, g k = if k < 8 then g1 k else if k < 16 then g2 (k - 8) else g3 (k - 16) := ⟨_, fun k => rfl⟩
    have bx : ∀ (p q : Nat → Nat) (Y : Tap) (n : Nat), (∀ k, k < n → p k = q k) → bysOf p Y n = bysOf q Y n := by
      intro p q Y n
      induction n with
      | zero => intro _; rfl
      | succ n ih => intro h; show adB (bysOf p Y n) (p n) = adB (bysOf q Y n) (q n); rw [ih (fun k hk => h k (by omega)), h n (by omega)]
    have e24 : bysOf g Z 24 = bysOf g3 (bysOf g2 (bysOf g1 Z 8) 8) 8 := by
      rw [show 24 = 16 + 8 by decide, bys_add 16 8, show 16 = 8 + 8 by decide, bys_add 8 8]
      rw [bx g g1 Z 8 (fun k hk => by rw [eg, if_pos hk])]
      rw [bx (fun k => g (8 + k)) g2 _ 8 (fun k hk => by rw [eg, if_neg (by omega), if_pos (by omega)]; congr 1; omega)]
      exact bx _ g3 _ 8 (fun k hk => by rw [eg, if_neg (by omega), if_neg (by omega)]; congr 1; omega)
    rw [← e24]
    unfold fX9_feed
    refine ok_for6 24 (fun i _ l b u1 u3 u5 => TPR (bysOf g Z i) l b ∧ u1 = v1 ∧ u3 = v3 ∧ u5 = v5) ?_ ?_ FU 0 _ (nI Z.1) a' v1 v3 v5 (Nat.zero_le _) ⟨⟨rfl, hr2'⟩, rfl, rfl, rfl⟩ (by unfold FU; omega)
    · rintro k x0 l b u1 u3 u5 i hlt ⟨hb, hu1, hu3, hu5⟩ hk
      rw [hu1, hu3, hu5]
      obtain ⟨hl, hb⟩ := hb
      rw [hl]
      have hW := (bys_WP (g := g) hZ i).1
      have e7 : ∀ i, i < 24 → (56 : Int32) - 8 * (nI i &&& 7) = shB (i % 8) := by decide +kernel
      have go : ∀ (v : Int64) (j : Nat), j = g i → j < 256 → Int64.toInt32 ((lush v (shB (i % 8))) &&& 255) = nI j → ok (fX9_feed_39 k x0 (nI (bysOf g Z i).1) b v1 v3 v5 (nI i) v) (fun r => r.1 = nI (bysOf g Z 24).1 ∧ TPR (bysOf g Z 24) r.2.2.1 r.2.2.2) := by
        intro v j hj1 hj2 ej
        have hk' : ∀ (l : Int32) (b : Nat → Int32), TPR (adB (bysOf g Z i) j) l b → ok (k x0 l b v1 v3 v5 (nI (i + 1))) (fun r => r.1 = nI (bysOf g Z 24).1 ∧ TPR (bysOf g Z 24) r.2.2.1 r.2.2.2) := fun l b h => hk _ _ _ _ _ _ ⟨by rw [hj1] at h; exact h, rfl, rfl, rfl⟩
        unfold fX9_feed_39 fX9_feed_93
        rw [e7 i hlt, ej]
        by_cases q : (bysOf g Z i).1 < 1000
        · have bad : gdB j = false → ok (k x0 (nI (bysOf g Z i).1) b v1 v3 v5 (nI (i + 1))) (fun r => r.1 = nI (bysOf g Z 24).1 ∧ TPR (bysOf g Z 24) r.2.2.1 r.2.2.2) := fun e => hk' _ _ (by unfold adB; rw [if_neg (fun q => by rw [e] at q; cases q.1)]; exact ⟨rfl, hb⟩)
          simp (disch := omega) only [nlit, nI_add, pk_mul, nC, nB, nT_le, nF_le, nT_lt, nF_lt, nF_eq, nT_eq, nM1_ne, nM1_lt, b2_0, b2_1, b2_nar, nar_0, nar_1, cond_true, if_true, if_false, ob_some]
          by_cases q1 : j = 10
          · subst q1
            simp (disch := omega) only [nlit, nI_add, pk_mul, nC, nB, nT_le, nF_le, nT_lt, nF_lt, nF_eq, nT_eq, nM1_ne, nM1_lt, b2_0, b2_1, b2_nar, nar_0, nar_1, cond_true, if_true, if_false, ob_some]
            exact hk' _ _ (adB_rel hb rfl q)
          · by_cases q2 : j < 32
            · simp (disch := omega) only [nlit, nI_add, pk_mul, nC, nB, nT_le, nF_le, nT_lt, nF_lt, nF_eq, nT_eq, nM1_ne, nM1_lt, b2_0, b2_1, b2_nar, nar_0, nar_1, cond_true, if_true, if_false, ob_some]
              exact bad (by unfold gdB; simp; omega)
            · by_cases q3 : 126 < j
              · simp (disch := omega) only [nlit, nI_add, pk_mul, nC, nB, nT_le, nF_le, nT_lt, nF_lt, nF_eq, nT_eq, nM1_ne, nM1_lt, b2_0, b2_1, b2_nar, nar_0, nar_1, cond_true, if_true, if_false, ob_some]
                exact bad (by unfold gdB; simp; omega)
              · simp (disch := omega) only [nlit, nI_add, pk_mul, nC, nB, nT_le, nF_le, nT_lt, nF_lt, nF_eq, nT_eq, nM1_ne, nM1_lt, b2_0, b2_1, b2_nar, nar_0, nar_1, cond_true, if_true, if_false, ob_some]
                exact hk' _ _ (adB_rel hb (by unfold gdB; simp; omega) q)
        · simp (disch := omega) only [nlit, nI_add, pk_mul, nC, nB, nT_le, nF_le, nT_lt, nF_lt, nF_eq, nT_eq, nM1_ne, nM1_lt, b2_0, b2_1, b2_nar, nar_0, nar_1, cond_true, if_true, if_false, ob_some]
          exact hk' _ _ (by unfold adB; rw [if_neg (fun z => q z.2)]; exact ⟨rfl, hb⟩)
      unfold fX9_feed_8
      simp only [nlit]
      refine ok_f (nI_ge hlt (by omega)) ?_
      by_cases c1 : i < 8
      · refine ok_f (nI_ge c1 (by omega)) ?_
        have := h1 i c1
        exact go _ (g1 i) (by rw [eg, if_pos c1]) this.1 (by rw [Nat.mod_eq_of_lt c1]; exact this.2)
      · refine ok_t (nI_le (by omega) (by omega)) ?_
        by_cases c2 : i < 16
        · refine ok_f (nI_ge c2 (by omega)) ?_
          have := h2 (i - 8) (by omega)
          exact go _ (g2 (i - 8)) (by rw [eg, if_neg c1, if_pos c2]) this.1 (by rw [show i % 8 = i - 8 by omega]; exact this.2)
        · refine ok_t (nI_le (by omega) (by omega)) ?_
          have := h3 (i - 16) (by omega)
          exact go _ (g3 (i - 16)) (by rw [eg, if_neg c1, if_neg c2]) this.1 (by rw [show i % 8 = i - 16 by omega]; exact this.2)
    · rintro k x0 l b _ _ _ ⟨hb, rfl, rfl, rfl⟩
      unfold fX9_feed_8
      exact ok_t (show (24 : Int32) ≤ nI 24 by decide) (ok_some ⟨hb.1, hb⟩)
theorem sm_same {f : Nat → Nat} {H : Nat} (h : ∀ i, H ≤ i → f i = 0) {n : Nat} (hn : H ≤ n) : sm f n = sm f H := by
  induction n with
  | zero => rw [show H = 0 by omega]
  | succ n ih =>
    rcases Nat.lt_or_ge n H with q | q
    · rw [show H = n + 1 by omega]
    · show sm f n + f n = _
      rw [h n q, ih q]; rfl
section CN
variable {T : Ter} {S : Sta} {N : Nat} {catB wanB len br : Int32} {cold hf ct bu be kd gf fo code coal inside : Nat → Int32}
variable {tr hf' ct' bu' wl kd' gf' wr cd lf lt cds s : Nat → Int32}
theorem m_allCoal (hT : WT T) (hS : WS T N S) (hm : MS S s) : fX9_allCoal s = some (nI (sm (sC S) (tH T))) := by
  rw [← sm_same (hS.2.2.2.1) hT.1]
  unfold fX9_allCoal
  refine for_eq1 (N := FU) 5 (fun i => nI (sm (sC S) i)) _ ?_ ?_ (by unfold FU; omega)
  · intro k i hlt
    unfold fX9_allCoal_4
    simp (disch := omega) only [nlit, nI_add, pk_mul, nC, nB, nT_le, nF_le, nT_lt, nF_lt, nF_eq, nT_eq, nM1_ne, nM1_lt, b2_0, b2_1, b2_nar, nar_0, nar_1, cond_true, if_true, if_false, ob_some, hm.2.2.2.1 i hlt, sm]
  · intro k
    unfold fX9_allCoal_4
    simp (disch := omega) only [nlit, nI_add, pk_mul, nC, nB, nT_le, nF_le, nT_lt, nF_lt, nF_eq, nT_eq, nM1_ne, nM1_lt, b2_0, b2_1, b2_nar, nar_0, nar_1, cond_true, if_true, if_false, ob_some]
theorem p_count {pk tl done th hz : Int32} {ln : Int32} {lines hd : Nat → Int32} (v1 : Int32) (hT : WT T) (hS : WS T N S) (hN : N ≤ 1800) (hC : CT T (nI (tN T)) (nI (tH T)) (nI (tG T)) (nI (tS T)) catB wanB len cold hf ct bu be kd gf fo code) (hs : CS T S (nI (sZ S)) (nI (sD S)) (sB S) coal inside) (hM : MT T tr hf' ct' bu' wl kd' gf' wr cd lf lt cds) (hm : MS S s) (hl : lines 0 = ln) (hh : hd 0 = hz) :
    ∃ a, fX8_count pk tl (nI (sZ S)) (nI (sD S)) (sB S) hz (nI (tN T)) (nI (tH T)) (nI (tG T)) (nI (tS T)) ln coal inside cold v1 = some a ∧ ok (fX9_count tl pk tr cd lines hd s th v1) (fun r => r.1 = a) := by
  have hH := hT.1
  have hG := hT.2.1
  have hd2 := hS.1
  have es : fX4_streetBits (nI (sZ S)) (nI (tH T)) (nI (tG T)) inside = some (nI (oOut T S)) := c_street hH hG (hS.z hT) (fun w _ => hS.2.2.2.2.1 w) hs.2.2.2.2
  have ea : fX4_allCoal (nI (tH T)) coal = some (nI (sm (sC S) (tH T))) := c_allCoal hH (fun i hi => ⟨hs.2.2.2.1 i hi, hS.2.2.1 i (by omega)⟩)
  unfold fX8_count fX9_count
  simp only [nlit]
  rcases wthn v1 0 12 (by omega) (by omega) with ⟨j, -, hj, rfl, e1, -⟩ | ⟨e1, -⟩
  · rw [e1]
    have hj2 : j = 0 ∨ j = 1 ∨ j = 2 ∨ j = 3 ∨ j = 4 ∨ j = 5 ∨ j = 6 ∨ j = 7 ∨ j = 8 ∨ j = 9 ∨ j = 10 ∨ j = 11 ∨ j = 12 := by omega
    rcases hj2 with rfl | rfl | rfl | rfl | rfl | rfl | rfl | rfl | rfl | rfl | rfl | rfl | rfl
    · simp (disch := omega) only [nlit, nI_add, pk_mul, nC, nB, nT_le, nF_le, nT_lt, nF_lt, nF_eq, nT_eq, nM1_ne, nM1_lt, b2_0, b2_1, b2_nar, nar_0, nar_1, cond_true, if_true, if_false, ob_some, tIl, Int.reduceToNat]; exact ⟨_, rfl, ok_some hM.1⟩
    · simp (disch := omega) only [nlit, nI_add, pk_mul, nC, nB, nT_le, nF_le, nT_lt, nF_lt, nF_eq, nT_eq, nM1_ne, nM1_lt, b2_0, b2_1, b2_nar, nar_0, nar_1, cond_true, if_true, if_false, ob_some, tIl, Int.reduceToNat]; exact ⟨_, rfl, ok_some hM.2.1⟩
    · simp (disch := omega) only [nlit, nI_add, pk_mul, nC, nB, nT_le, nF_le, nT_lt, nF_lt, nF_eq, nT_eq, nM1_ne, nM1_lt, b2_0, b2_1, b2_nar, nar_0, nar_1, cond_true, if_true, if_false, ob_some, tIl, Int.reduceToNat]; exact ⟨_, rfl, ok_some hM.2.2.1⟩
    · simp (disch := omega) only [nlit, nI_add, pk_mul, nC, nB, nT_le, nF_le, nT_lt, nF_lt, nF_eq, nT_eq, nM1_ne, nM1_lt, b2_0, b2_1, b2_nar, nar_0, nar_1, cond_true, if_true, if_false, ob_some, tIl, Int.reduceToNat]; exact ⟨_, rfl, ok_some hm.1⟩
    · simp (disch := omega) only [nlit, nI_add, pk_mul, nC, nB, nT_le, nF_le, nT_lt, nF_lt, nF_eq, nT_eq, nM1_ne, nM1_lt, b2_0, b2_1, b2_nar, nar_0, nar_1, cond_true, if_true, if_false, ob_some, tIl, Int.reduceToNat, c_coldOf hT hC.2.2.2.2.2.2.1, hm.1, m_coldOf hT hM.2.2.2.1 hM.2.2.2.2.1]; exact ⟨_, rfl, ok_some rfl⟩
    · simp (disch := omega) only [nlit, nI_add, pk_mul, nC, nB, nT_le, nF_le, nT_lt, nF_lt, nF_eq, nT_eq, nM1_ne, nM1_lt, b2_0, b2_1, b2_nar, nar_0, nar_1, cond_true, if_true, if_false, ob_some, tIl, Int.reduceToNat, ea, m_allCoal hT hS hm]; exact ⟨_, rfl, ok_some rfl⟩
    · simp (disch := omega) only [nlit, nI_add, pk_mul, nC, nB, nT_le, nF_le, nT_lt, nF_lt, nF_eq, nT_eq, nM1_ne, nM1_lt, b2_0, b2_1, b2_nar, nar_0, nar_1, cond_true, if_true, if_false, ob_some, tIl, Int.reduceToNat, es, m_outsiders hT hS hm hM]; exact ⟨_, rfl, ok_some rfl⟩
    · simp (disch := omega) only [nlit, nI_add, pk_mul, nC, nB, nT_le, nF_le, nT_lt, nF_lt, nF_eq, nT_eq, nM1_ne, nM1_lt, b2_0, b2_1, b2_nar, nar_0, nar_1, cond_true, if_true, if_false, ob_some, tIl, Int.reduceToNat]; exact ⟨_, rfl, ok_some hm.2.1⟩
    · simp (disch := omega) only [nlit, nI_add, pk_mul, nC, nB, nT_le, nF_le, nT_lt, nF_lt, nF_eq, nT_eq, nM1_ne, nM1_lt, b2_0, b2_1, b2_nar, nar_0, nar_1, cond_true, if_true, if_false, ob_some, tIl, Int.reduceToNat]; exact ⟨_, rfl, ok_some hm.2.2.1⟩
    · simp (disch := omega) only [nlit, nI_add, pk_mul, nC, nB, nT_le, nF_le, nT_lt, nF_lt, nF_eq, nT_eq, nM1_ne, nM1_lt, b2_0, b2_1, b2_nar, nar_0, nar_1, cond_true, if_true, if_false, ob_some, tIl, Int.reduceToNat]; exact ⟨_, rfl, ok_some hl⟩
    · simp (disch := omega) only [nlit, nI_add, pk_mul, nC, nB, nT_le, nF_le, nT_lt, nF_lt, nF_eq, nT_eq, nM1_ne, nM1_lt, b2_0, b2_1, b2_nar, nar_0, nar_1, cond_true, if_true, if_false, ob_some, tIl, Int.reduceToNat]; exact ⟨_, rfl, ok_some hh⟩
    · simp (disch := omega) only [nlit, nI_add, pk_mul, nC, nB, nT_le, nF_le, nT_lt, nF_lt, nF_eq, nT_eq, nM1_ne, nM1_lt, b2_0, b2_1, b2_nar, nar_0, nar_1, cond_true, if_true, if_false, ob_some, tIl, Int.reduceToNat]; exact ⟨_, rfl, ok_some rfl⟩
    · simp (disch := omega) only [nlit, nI_add, pk_mul, nC, nB, nT_le, nF_le, nT_lt, nF_lt, nF_eq, nT_eq, nM1_ne, nM1_lt, b2_0, b2_1, b2_nar, nar_0, nar_1, cond_true, if_true, if_false, ob_some, tIl, Int.reduceToNat]; exact ⟨_, rfl, ok_some rfl⟩
  · rw [e1]
    refine ⟨-nI 1, ?_, ok_some rfl⟩
    rcases rng v1 12 (by omega) with ⟨j, hj, rfl⟩ | ⟨-, hne⟩
    · exfalso
      unfold fX9_within at e1
      simp (disch := omega) only [nlit, nI_add, pk_mul, nC, nB, nT_le, nF_le, nT_lt, nF_lt, nF_eq, nT_eq, nM1_ne, nM1_lt, b2_0, b2_1, b2_nar, nar_0, nar_1, cond_true, if_true, if_false, ob_some, Option.some.injEq] at e1
    · simp (disch := omega) only [tIl, Int.reduceToNat, hne 0 (by omega), hne 1 (by omega), hne 2 (by omega), hne 3 (by omega), hne 4 (by omega), hne 5 (by omega), hne 6 (by omega), hne 7 (by omega), hne 8 (by omega), hne 9 (by omega), hne 10 (by omega), hne 11 (by omega), hne 12 (by omega), if_false]
end CN
