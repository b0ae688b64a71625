section JV
variable {T : Ter} {S : Sta} {N : Nat} {catB wanB len br : Int32} {cold hf ct bu be kd gf fo code coal inside : Nat → Int32}
variable {tr hf' ct' bu' wl kd' gf' wr cd lf lt cds s : Nat → Int32}
theorem p_judged {L : Pln} {wt th tz td tb ln mf : Int32} {st tc ti gs hs vs lines wh la lb asd k1 k2 k3 k4 k5 k6 k7 k8 k9 vo : Nat → Int32} (v1 : Int32) (hT : WT T) (hL : WL T L) (hC : CT T (nI (tN T)) (nI (tH T)) (nI (tG T)) (nI (tS T)) catB wanB len cold hf ct bu be kd gf fo code) (hCL : CL L ln gs hs vs) (hM : MT T tr hf' ct' bu' wl kd' gf' wr cd lf lt cds) (hm : MS S s) (hML : ML L 0 lines wh la lb) :
    ∃ a, ok (fX8_judged (nI (tN T)) (nI (tH T)) (nI (tG T)) (nI (tS T)) catB wanB len ln cold hf ct bu be kd gf fo code gs hs vs tz td tb wt tc ti st v1) (fun r => r.1 = a) ∧ ok (fX9_judged (nI 0) tr hf' ct' bu' wl kd' gf' wr cd lf lt cds lines wh la lb th mf k1 k2 k3 k4 k5 k6 k7 k8 k9 vo s asd v1) (fun r => r.1 = a ∧ MS S r.2.2.2.2.2.2.2.2.2.2.2.2.2.1) := by
  have hH := hT.1
  have h40 := hL.1
  have hJ := fun n (hn : n ≤ L.1) => jdN_ok (T := T) hT hL hn
  unfold fX8_judged fX9_judged
  simp only [nlit]
  rcases wthn v1 0 2 (by omega) (by omega) with ⟨j, -, hj, rfl, e1, -⟩ | ⟨e1, -⟩
  · rw [e1]
    refine ⟨if j = 0 then (jdN T L L.1).2.1 else if j = 1 then (jdN T L L.1).2.2 else sB (jdN T L L.1).1, ?_, ?_⟩
    · refine ok_f (nI_pos (by omega)) (ok_t (nI_le hj (by omega)) ?_)
      refine ok_bind (ok_mono ?_ (fun r (hr : r.1 = _) => ok_some hr))
      unfold fX7_judge
      refine ok_bind (ok_mono (c_begin hT hC.2.2.2.2.2.2.2.2.1) (fun y hy => ?_))
      rw [hCL.1]
      refine ok_for10 L.1 (fun i _ z d b _ c n w3 w4 w5 => CS T (jdN T L i).1 z d b c n ∧ w3 = nI j ∧ w4 = (jdN T L i).2.1 ∧ w5 = (jdN T L i).2.2) ?_ ?_ FU 0 wt _ _ _ st _ _ (nI j) (-1) (-1) (Nat.zero_le _) ⟨hy, rfl, rfl, rfl⟩ (by unfold FU; omega)
      · rintro k wt z d b st c n w3 w4 w5 i hlt ⟨hc, rfl, rfl, rfl⟩ hk
        obtain ⟨j1, j2, j3⟩ := hJ i (by omega)
        have ez := hc.1
        have ed := hc.2.1
        have eb := hc.2.2.1
        subst ez ed eb
        have es : jdN T L (i + 1) = jdS T L (jdN T L i) i := rfl
        generalize jdN T L i = x at j1 j2 j3 hc es hk
        have hwn := lnS_WS (a := pW L i) (w := pG L i) (h := pH L i) hT j1 (hL.2 i hlt).2.1 (hL.2 i hlt).2.2
        have hz1 := j1.z hT
        have hz2 := hwn.z hT
        unfold fX7_judge_14
        refine ok_f (nI_ge hlt (by omega)) ?_
        refine ok_bind (ok_mono (c_follow hT j1 (by omega) hL hlt hC hc hCL) (fun r hr => ?_))
        obtain ⟨hr1, hr2⟩ := hr
        have fin : ∀ v4 : Int32, v4 = (if (lnS T x.1 (pW L i) (pG L i) (pH L i)).2 = false ∧ x.2.1 = -1 then nI i else x.2.1) → ok (fX7_judge_50 (nI L.1) (nI (tN T)) (nI (tH T)) (nI (tG T)) (nI (tS T)) catB wanB len gs hs vs cold hf ct bu be kd gf fo code k r.2.1 r.2.2.1 r.2.2.2.1 r.2.2.2.2.1 r.2.2.2.2.2.1 r.2.2.2.2.2.2.1 r.2.2.2.2.2.2.2 (nI j) v4 x.2.2 (nI i) (nI (sZ x.1))) (fun r => r.1 = if j = 0 then (jdN T L L.1).2.1 else if j = 1 then (jdN T L L.1).2.2 else sB (jdN T L L.1).1) := by
          intro v4 hv4
          unfold fX7_judge_50
          rw [hr2.1, nI_1]
          have go : ∀ v5 : Int32, v5 = (if sZ (lnS T x.1 (pW L i) (pG L i) (pH L i)).1 ≠ sZ x.1 ∧ x.2.2 = -1 then nI i else x.2.2) → ok (k r.2.1 (nI (sZ (lnS T x.1 (pW L i) (pG L i) (pH L i)).1)) r.2.2.2.1 r.2.2.2.2.1 r.2.2.2.2.2.1 r.2.2.2.2.2.2.1 r.2.2.2.2.2.2.2 (nI j) v4 v5 (nI (i + 1))) (fun r => r.1 = if j = 0 then (jdN T L L.1).2.1 else if j = 1 then (jdN T L L.1).2.2 else sB (jdN T L L.1).1) := by
            intro v5 hv5
            refine hk _ _ _ _ _ _ _ _ _ _ ?_
            rw [es]
            exact ⟨⟨rfl, hr2.2⟩, rfl, hv4, hv5⟩
          refine ok_if (fun q => ?_) (fun q => ?_)
          · have q := (nI_eq (by omega) (by omega)).mp q
            exact go _ (if_neg (fun z => z.1 q)).symm
          · have q : sZ (lnS T x.1 (pW L i) (pG L i) (pH L i)).1 ≠ sZ x.1 := fun z => q (by rw [z])
            refine ok_if (fun q2 => ?_) (fun q2 => ?_)
            · exact go _ (if_pos ⟨q, q2⟩).symm
            · exact go _ (if_neg (fun z => q2 z.2)).symm
        rw [hr1]
        cases e : (lnS T x.1 (pW L i) (pG L i) (pH L i)).2
        · refine ok_t rfl (ok_if (fun q => ?_) (fun q => ?_))
          · exact fin _ (if_pos ⟨e, q⟩).symm
          · exact fin _ (if_neg (fun z => q z.2)).symm
        · exact ok_f (by decide) (fin _ (if_neg (fun z => by rw [e] at z; cases z.1)).symm)
      · rintro k wt z d b st c n w3 w4 w5 ⟨hc, rfl, rfl, rfl⟩
        unfold fX7_judge_14
        refine ok_t (nI_le (Nat.le_refl _) (by omega)) ?_
        have h3 : j = 0 ∨ j = 1 ∨ j = 2 := by omega
        rcases h3 with rfl | rfl | rfl
        · exact ok_t rfl (ok_some rfl)
        · exact ok_f (show ¬ nI 1 = 0 by decide) (ok_t rfl (ok_some rfl))
        · exact ok_f (show ¬ nI 2 = 0 by decide) (ok_f (show ¬ nI 2 = 1 by decide) (ok_some hc.2.2.1))
    · refine ok_bind (ok_some (ok_f (show ¬ nI 1 = nI 0 by decide) ?_))
      refine ok_bind (ok_mono m_copy13 (fun y3 h3 => ?_))
      have h3 := MS_congr hm h3
      refine ok_bind (ok_mono (m_fresh hT hM.1 hM.2.2.2.2.2.2.1) (fun y4 h4 => ?_))
      refine ok_for16 L.1 (fun i _ f _ _ _ _ _ _ _ _ _ _ a b w1 w2 => MS (jdN T L i).1 a ∧ MS S b ∧ f = (jdN T L i).2.2 ∧ w1 = nI j ∧ w2 = (jdN T L i).2.1) ?_ ?_ FU 0 _ (-1) _ _ _ _ _ _ _ _ _ _ y4 y3 (nI j) (-1) (Nat.zero_le _) ⟨h4, h3, rfl, rfl, rfl⟩ (by unfold FU; omega)
      · rintro k a0 f a1 a2 a3 a4 a5 a6 a7 a8 a9 a10 a b w1 w2 i hlt ⟨ha, hb, rfl, rfl, rfl⟩ hk
        obtain ⟨j1, j2, j3⟩ := hJ i (by omega)
        have es : jdN T L (i + 1) = jdS T L (jdN T L i) i := rfl
        generalize jdN T L i = x at j1 j2 j3 ha es hk
        unfold fX9_judged_43
        rw [hML.1, nI_1]
        refine ok_f (nI_ge hlt (by omega)) ?_
        refine ok_bind (ok_mono (m_goes hT j1 (by omega) hL hlt hM ha hML j3) (fun r hr => ?_))
        obtain ⟨hr1, hr2, hr3⟩ := hr
        have fin : ∀ v2 : Int32, v2 = (if (lnS T x.1 (pW L i) (pG L i) (pH L i)).2 = false ∧ x.2.1 = -1 then nI i else x.2.1) → ok (k a0 r.2.1 r.2.2.1 r.2.2.2.1 r.2.2.2.2.1 r.2.2.2.2.2.1 r.2.2.2.2.2.2.1 r.2.2.2.2.2.2.2.1 r.2.2.2.2.2.2.2.2.1 r.2.2.2.2.2.2.2.2.2.1 r.2.2.2.2.2.2.2.2.2.2.1 r.2.2.2.2.2.2.2.2.2.2.2.1 r.2.2.2.2.2.2.2.2.2.2.2.2 b (nI j) v2 (nI (i + 1))) (fun r => r.1 = (if j = 0 then (jdN T L L.1).2.1 else if j = 1 then (jdN T L L.1).2.2 else sB (jdN T L L.1).1) ∧ MS S r.2.2.2.2.2.2.2.2.2.2.2.2.2.1) := by
          intro v2 hv2
          refine hk _ _ _ _ _ _ _ _ _ _ _ _ _ _ _ _ ?_
          rw [es]
          exact ⟨hr3, hb, hr2, rfl, hv2⟩
        rw [hr1]
        cases e : (lnS T x.1 (pW L i) (pG L i) (pH L i)).2
        · refine ok_t rfl ?_
          rcases j2 with q | ⟨m, hm40, q⟩
          · refine ok_f (by rw [q]; decide) (fin _ (if_pos ⟨e, q⟩).symm)
          · refine ok_t (by rw [q]; exact nI_le (Nat.zero_le _) (by omega)) (fin _ (if_neg (fun z => by have h := z.2; rw [q, nlit, nM1_ne (by omega)] at h; exact h)).symm)
        · exact ok_f (by decide) (fin _ (if_neg (fun z => by rw [e] at z; cases z.1)).symm)
      · rintro k a0 f a1 a2 a3 a4 a5 a6 a7 a8 a9 a10 a b w1 w2 ⟨ha, hb, rfl, rfl, rfl⟩
        unfold fX9_judged_43
        rw [hML.1]
        refine ok_t (nI_le (Nat.le_refl _) (by omega)) ?_
        refine ok_bind (ok_mono m_copy13 (fun y2 h2 => ?_))
        have h2 := MS_congr hb h2
        have h3 : j = 0 ∨ j = 1 ∨ j = 2 := by omega
        rcases h3 with rfl | rfl | rfl
        · exact ok_t rfl (ok_some ⟨rfl, h2⟩)
        · exact ok_f (show ¬ nI 1 = 0 by decide) (ok_t rfl (ok_some ⟨rfl, h2⟩))
        · exact ok_f (show ¬ nI 2 = 0 by decide) (ok_f (show ¬ nI 2 = 1 by decide) (ok_some ⟨ha.2.2.1, h2⟩))
  · rw [e1]
    refine ⟨-nI 2, ?_, ok_some ⟨rfl, hm⟩⟩
    unfold fX9_within at e1
    by_cases q : v1 < nI 0
    · exact ok_t q (ok_some rfl)
    · rw [if_neg q] at e1
      by_cases q2 : nI 2 < v1
      · exact ok_f q (ok_f (Int32.not_le.mpr q2) (ok_some rfl))
      · rw [if_neg q2] at e1
        exact absurd (Option.some.inj e1) (by decide)
end JV
