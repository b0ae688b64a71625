section LH
variable {T : Ter} {S : Sta} {N : Nat} {catB wanB len : Int32} {cold hf ct bu be kd gf fo code coal inside : Nat → Int32}
variable {tr hf' ct' bu' wl kd' gf' wr cd lf lt cds s : Nat → Int32}
theorem p_lodging {wt th tz td tb dst dla dbc dse mf mi : Int32} {st tc ti row lf0 law0 best k1 k2 k3 k4 k5 k6 k7 k8 k9 vo bf mrow mbest : Nat → Int32} (v1 v2 : Int32) (hT : WT T) (hS : WS T N S) (hN : N ≤ 1800) (hC : CT T (nI (tN T)) (nI (tH T)) (nI (tG T)) (nI (tS T)) catB wanB len cold hf ct bu be kd gf fo code) (hs : CS T S (nI (sZ S)) (nI (sD S)) (sB S) coal inside) (hM : MT T tr hf' ct' bu' wl kd' gf' wr cd lf lt cds) (hm : MS S s) :
    ∃ a, ok (fX8_lodging (nI (sZ S)) (nI (sD S)) (sB S) (nI (tN T)) (nI (tH T)) (nI (tG T)) wanB len coal inside cold hf bu kd gf fo code tz td tb dst dla dbc dse wt tc ti row lf0 law0 best st v1 v2) (fun r => r.1 = a) ∧ ok (fX9_lodging (nI 0) tr hf' bu' kd' gf' wr cd lf lt cds th mf mi k1 k2 k3 k4 k5 k6 k7 k8 k9 vo s bf mrow mbest v1 v2) (fun r => r.1 = a ∧ MS S r.2.2.2.2.2.2.2.2.2.2.2.2.2.2.1) := by
  have hH := hT.1
  have hG := hT.2.1
  unfold fX8_lodging fX9_lodging
  rcases wthn v1 1 30 (by omega) (by omega) with ⟨n, hn1, hn2, rfl, e1, e1'⟩ | ⟨e1, e1'⟩
  rotate_left
  · refine ⟨-2, ?_, ?_⟩
    · show ok (Option.bind (fX8_isWithin v1 (nI 1) (nI 30)) _) _
      rw [e1']; exact ok_some rfl
    · show ok (Option.bind (fX9_within v1 (nI 1) (nI 30)) _) _
      rw [e1]; exact ok_some ⟨rfl, hm⟩
  have e1 : fX9_within (nI n) 1 30 = some (nI 1) := e1
  have e1' : fX8_isWithin (nI n) 1 30 = some (nI 1) := e1'
  rw [e1, e1', m_isGuest hM.2.1 hG]
  have h10 : ¬ nI 1 = 0 := by decide
  rcases wthm v2 (tG T) hG with ⟨hv, e2, e2'⟩ | ⟨e2, e2'⟩
  rotate_left
  · obtain ⟨w1, w2⟩ := wthm2 hG e2
    refine ⟨-2, ?_, ?_⟩
    · rw [e2']; exact ok_some rfl
    · refine ok_bind (ok_some (ok_f h10 (ok_f w1 (ok_bind (ok_some ?_)))))
      rw [w2]
      exact ok_t rfl (ok_some ⟨rfl, hm⟩)
  rw [e2']
  have hcp : ok (fX4_copyFrom (nI (sZ S)) (nI (sD S)) (sB S) coal inside tz td tb tc ti) (fun r => CS T S r.1 r.2.1 r.2.2.1 r.2.2.2.1 r.2.2.2.2) := c_copyFrom hH hs
  obtain ⟨y5, ey5, hy5⟩ := hcp
  have hy6 : CS T S (nI (sZ S)) (nI (sD S)) (sB S) y5.2.2.2.1 y5.2.2.2.2 := by
    obtain ⟨z1, z2, z3, z4, z5⟩ := hy5
    exact ⟨rfl, rfl, rfl, z4, z5⟩
  obtain ⟨y, ey, x, rw0, hx, ⟨p, q, h1, h2, h3, h4⟩, h5⟩ := c_search (dst := dst) (dla := dla) (dbc := dbc) (dse := dse) (wt := wt) (st := st) (row := row) (lf0 := lf0) (law0 := law0) (best := best) hT hS hN hn1 hn2 hC hy6
  have hml : ok (fX9_lodges 8 (nI 0) tr hf' bu' kd' gf' wr cd lf lt cds (-1) 0 k1 k2 k3 k4 k5 k6 k7 k8 k9 vo s bf mrow mbest 0 (nI n)) (fun r' => ME T (some x) r'.1 r'.2.1 r'.2.2.2.2.2.2.2.2.2.2.2.2.2.2.2 ∧ MS S r'.2.2.2.2.2.2.2.2.2.2.2.2.1) := by
    have h := m_lodges hT hS hN hn1 hn2 hM (tG T) 0 (by omega) 8 (by omega) S rw0 none (-1) 0 k1 k2 k3 k4 k5 k6 k7 k8 k9 vo s bf mrow mbest ⟨rfl, rfl, rfl, rfl, fun _ _ => rfl⟩ hS (fun j _ hj => by
      unfold isO at hj; rw [Bool.and_eq_true] at hj; simpa using hj.1) hm rfl (fun j hj => by omega)
    rw [hx] at h
    exact ok_mono h (fun r hr => ⟨hr.1, hr.2.1⟩)
  have hC0 := C0_eq (T := T) (S := S) (n := n)
  refine ⟨if v2 = -1 then nI (Pn T S n + p) else x.2 v2.toNatClampNeg, ?_, ?_⟩
  · refine ok_bind (ok_some (ok_f h10 (ok_bind (ok_some (ok_f h10 ?_)))))
    rw [ey5]
    refine ok_bind (ok_some ?_)
    have e5 : y5.1 = nI (sZ S) := hy5.1
    have e6 : y5.2.1 = nI (sD S) := hy5.2.1
    rw [e5, e6, ey]
    refine ok_bind (ok_some ?_)
    refine ok_if (fun z => ok_some ?_) (fun z => ?_)
    · rw [if_pos z]; exact h4
    · rcases hv with w | ⟨j, hj, w⟩
      · exact absurd w z
      · rw [if_neg z, w, nC (by omega)]
        exact ok_g (nB (by omega) (by omega)) (ok_some (h5 j hj))
  · have fin : ok (fX9_lodging_31 (nI 0) tr hf' bu' kd' gf' wr cd lf lt cds 0 mf mi k1 k2 k3 k4 k5 k6 k7 k8 k9 vo s bf mrow mbest (nI n) v2) (fun r => (r.1 = if v2 = -1 then nI (Pn T S n + p) else x.2 v2.toNatClampNeg) ∧ MS S r.2.2.2.2.2.2.2.2.2.2.2.2.2.2.1) := by
      unfold fX9_lodging_31
      refine ok_bind (ok_mono hml (fun r hr => ?_))
      obtain ⟨⟨sz, ins, g1, g2, g3, g4, g5, g6⟩, g7⟩ := hr
      refine ok_if (fun z => ok_some ⟨?_, g7⟩) (fun z => ?_)
      · rw [if_pos z]
        show r.1 = _
        rw [g1]
        congr 1
        omega
      · rcases hv with w | ⟨j, hj, w⟩
        · exact absurd w z
        · rw [if_neg z, w, nC (by omega)]
          exact ok_g (nB (by omega) (by omega)) (ok_some ⟨g6 j hj, g7⟩)
    refine ok_bind (ok_some (ok_f h10 (ok_if (fun z => fin) (fun z => ok_bind (ok_some ?_)))))
    rcases hv with w | ⟨j, hj, w⟩
    · exact absurd w z
    · refine ok_f ?_ fin
      rw [w, inIs hG hj]; decide
end LH
