/-! a step of every call that changes the state -/
set_option maxHeartbeats 4000000 in
set_option maxRecDepth 10000 in
theorem st_up {N : Nat} {I A : MI} {B J : MJ} {I9 A9 : MI} {B9 J9 : MJ} (v1 : Int32) (hN : N ≤ 1800) (R : Rel N I A B I9 A9 B9) : ∃ (r : Int32 × Int32 × Int32 × Int32 × Int32 × Int32 × Int32 × (Nat → Int32) × (Nat → Int32) × List (Nat × Nat × Int32) × List (Nat × (Nat → Int32))) (w : Int32 × Int32 × Int32 × (Nat → Int32) × (Nat → Int32)), fX8_up (I (64 + 3 * Int32.toNatClampNeg (I 0 11)) 2) (I (64 + 3 * Int32.toNatClampNeg (I 0 11)) 3) (I (64 + 3 * Int32.toNatClampNeg (I 0 11)) 4) (A (65 + 3 * Int32.toNatClampNeg (I 0 11))) (A (66 + 3 * Int32.toNatClampNeg (I 0 11))) (I 0 11) (I 0 12) (I 4 2) (I 4 3) (I 4 4) (I 112 14) (A 5) (A 6) v1 = some r ∧ fX9_up (A9 2) (I9 0 0) (I9 0 53) (A9 35) (A9 39) v1 = some w ∧ r.1 = w.1 ∧ Rel N (gp (gp I r.2.2.2.2.2.2.2.2.2.1) [(0, 11, r.2.1), (0, 12, r.2.2.1), (4, 2, r.2.2.2.1), (4, 3, r.2.2.2.2.1), (4, 4, r.2.2.2.2.2.1), (112, 14, r.2.2.2.2.2.2.1)]) (gm (gm A r.2.2.2.2.2.2.2.2.2.2) [(5, r.2.2.2.2.2.2.2.1), (6, r.2.2.2.2.2.2.2.2.1)]) (gm B []) (gp I9 [(0, 0, w.2.1), (0, 53, w.2.2.1)]) (gm A9 [(35, w.2.2.2.1), (39, w.2.2.2.2)]) (gm B9 []) := by
  obtain ⟨Z, T, S, X, Y, L, NH, NG, o0, o1, o2, o3, ⟨⟨t1, t2, t3, t4⟩, ⟨hT, hC, hM, hR⟩, hNm, ⟨hS, hs, hm⟩, ⟨hX, hH, hH2⟩, ⟨hL, hCL, hML⟩, ⟨hY, hQ⟩, hk, h54⟩, hP⟩ := R
  have c1 := hC.1
  have c2 := hC.2.1
  have c3 := hC.2.2.1
  have c4 := hC.2.2.2.1
  have d1 := hs.1
  have d2 := hs.2.1
  have d3 := hs.2.2.1
  have hC1 := hC
  rw [c1, c2, c3, c4] at hC1
  have hs1 := hs
  rw [d1, d2, d3] at hs1
  obtain ⟨a, S1, Y1, hS1, hY1, ⟨r, e8, q8, ⟨m1, m2, m3, m4⟩, x0⟩, ⟨w, e9, q9, m5, m6⟩⟩ := p_up (oz := I (64 + 3 * Int32.toNatClampNeg (I 0 11)) 2) (od := I (64 + 3 * Int32.toNatClampNeg (I 0 11)) 3) (ob := I (64 + 3 * Int32.toNatClampNeg (I 0 11)) 4) (oc := A (65 + 3 * Int32.toNatClampNeg (I 0 11))) (oi := A (66 + 3 * Int32.toNatClampNeg (I 0 11))) (th := I9 0 0) v1 hT hS hY hs1 hP hM hm hQ
  have hCn : CT T (I 112 4) (I 112 13) r.2.2.2.2.2.2.1 (I 112 15) (I 112 16) (I 112 17) (I 124 4) (A 116) (A 117) (A 118) (A 119) (A 120) (A 121) (A 122) (A 123) (A 125) := by
    have h := hC
    rw [c3] at h
    rw [x0]; exact h
  refine ⟨r, w, ?_, ?_, q8.trans q9.symm, Z, T, S1, X, Y1, L, NH, NG, o0, o1, o2, o3, RelN_cut (I := (gp I [(0, 11, r.2.1), (0, 12, r.2.2.1), (4, 2, r.2.2.2.1), (4, 3, r.2.2.2.2.1), (4, 4, r.2.2.2.2.2.1), (112, 14, r.2.2.2.2.2.2.1)])) (A := (gm A [(5, r.2.2.2.2.2.2.2.1), (6, r.2.2.2.2.2.2.2.2.1)])) (fun q k h => gp_base (gp_near m3 h k)) (fun q h => gm_base (gm_near m4 h)) ⟨⟨t1, t2, t3, t4⟩, ⟨hT, hCn, hM, hR⟩, hNm, ⟨hS1, m1, m5⟩, ⟨hX, hH, hH2⟩, ⟨hL, hCL, hML⟩, ⟨hY1, m6⟩, hk, h54⟩, CP_keep rfl rfl m2⟩
  · rw [c3, d1, d2, d3]; exact e8
  · exact e9
set_option maxHeartbeats 4000000 in
set_option maxRecDepth 10000 in
theorem st_bring {N : Nat} {I A : MI} {B J : MJ} {I9 A9 : MI} {B9 J9 : MJ} (v1 : Int32) (hN : N ≤ 1800) (R : Rel N I A B I9 A9 B9) : ∃ (r : Int32 × Int32 × Int32 × Int32 × Int32 × Int32 × Int32 × Int32 × (Nat → Int32) × (Nat → Int32) × List (Nat × Nat × Int32) × List (Nat × (Nat → Int32))) (w : Int32 × Int32 × Int32 × (Nat → Int32) × (Nat → Int32)), fX8_bring (I (64 + 3 * Int32.toNatClampNeg (I 0 11)) 2) (I (64 + 3 * Int32.toNatClampNeg (I 0 11)) 3) (I (64 + 3 * Int32.toNatClampNeg (I 0 11)) 4) (A (65 + 3 * Int32.toNatClampNeg (I 0 11))) (A (66 + 3 * Int32.toNatClampNeg (I 0 11))) (I 0 11) (I 0 12) (I 4 2) (I 4 3) (I 4 4) (I 112 13) (I 112 15) (A 5) (A 6) v1 = some r ∧ fX9_bring (A9 2) (I9 0 0) (I9 0 53) (A9 35) (A9 39) v1 = some w ∧ r.1 = w.1 ∧ Rel N (gp (gp I r.2.2.2.2.2.2.2.2.2.2.1) [(0, 11, r.2.1), (0, 12, r.2.2.1), (4, 2, r.2.2.2.1), (4, 3, r.2.2.2.2.1), (4, 4, r.2.2.2.2.2.1), (112, 13, r.2.2.2.2.2.2.1), (112, 15, r.2.2.2.2.2.2.2.1)]) (gm (gm A r.2.2.2.2.2.2.2.2.2.2.2) [(5, r.2.2.2.2.2.2.2.2.1), (6, r.2.2.2.2.2.2.2.2.2.1)]) (gm B []) (gp I9 [(0, 0, w.2.1), (0, 53, w.2.2.1)]) (gm A9 [(35, w.2.2.2.1), (39, w.2.2.2.2)]) (gm B9 []) := by
  obtain ⟨Z, T, S, X, Y, L, NH, NG, o0, o1, o2, o3, ⟨⟨t1, t2, t3, t4⟩, ⟨hT, hC, hM, hR⟩, hNm, ⟨hS, hs, hm⟩, ⟨hX, hH, hH2⟩, ⟨hL, hCL, hML⟩, ⟨hY, hQ⟩, hk, h54⟩, hP⟩ := R
  have c1 := hC.1
  have c2 := hC.2.1
  have c3 := hC.2.2.1
  have c4 := hC.2.2.2.1
  have d1 := hs.1
  have d2 := hs.2.1
  have d3 := hs.2.2.1
  have hC1 := hC
  rw [c1, c2, c3, c4] at hC1
  have hs1 := hs
  rw [d1, d2, d3] at hs1
  obtain ⟨a, S1, Y1, hS1, hY1, ⟨r, e8, q8, ⟨m1, m2, m3, m4⟩, x0, x1⟩, ⟨w, e9, q9, m5, m6⟩⟩ := p_bring (oz := I (64 + 3 * Int32.toNatClampNeg (I 0 11)) 2) (od := I (64 + 3 * Int32.toNatClampNeg (I 0 11)) 3) (ob := I (64 + 3 * Int32.toNatClampNeg (I 0 11)) 4) (oc := A (65 + 3 * Int32.toNatClampNeg (I 0 11))) (oi := A (66 + 3 * Int32.toNatClampNeg (I 0 11))) (th := I9 0 0) v1 hT hS hY hs1 hP hM hm hQ
  have hCn : CT T (I 112 4) r.2.2.2.2.2.2.1 (I 112 14) r.2.2.2.2.2.2.2.1 (I 112 16) (I 112 17) (I 124 4) (A 116) (A 117) (A 118) (A 119) (A 120) (A 121) (A 122) (A 123) (A 125) := by
    have h := hC
    rw [c2, c4] at h
    rw [x0, x1]; exact h
  refine ⟨r, w, ?_, ?_, q8.trans q9.symm, Z, T, S1, X, Y1, L, NH, NG, o0, o1, o2, o3, RelN_cut (I := (gp I [(0, 11, r.2.1), (0, 12, r.2.2.1), (4, 2, r.2.2.2.1), (4, 3, r.2.2.2.2.1), (4, 4, r.2.2.2.2.2.1), (112, 13, r.2.2.2.2.2.2.1), (112, 15, r.2.2.2.2.2.2.2.1)])) (A := (gm A [(5, r.2.2.2.2.2.2.2.2.1), (6, r.2.2.2.2.2.2.2.2.2.1)])) (fun q k h => gp_base (gp_near m3 h k)) (fun q h => gm_base (gm_near m4 h)) ⟨⟨t1, t2, t3, t4⟩, ⟨hT, hCn, hM, hR⟩, hNm, ⟨hS1, m1, m5⟩, ⟨hX, hH, hH2⟩, ⟨hL, hCL, hML⟩, ⟨hY1, m6⟩, hk, h54⟩, CP_keep rfl rfl m2⟩
  · rw [c2, c4, d1, d2, d3]; exact e8
  · exact e9
set_option maxHeartbeats 4000000 in
set_option maxRecDepth 10000 in
theorem st_day {N : Nat} {I A : MI} {B J : MJ} {I9 A9 : MI} {B9 J9 : MJ} (hN : N ≤ 1800) (R : Rel N I A B I9 A9 B9) : ∃ (r : Int32 × Int32 × Int32 × Int32 × Int32 × Int32 × Int32 × Int32 × Int32 × Int32 × Int32 × (Nat → Int32) × (Nat → Int32) × (Nat → Int32) × (Nat → Int32) × List (Nat × Nat × Int32) × List (Nat × (Nat → Int32))) (w : Int32 × Int32 × Int32 × (Nat → Int32) × (Nat → Int32)), fX8_day (I (64 + 3 * Int32.toNatClampNeg (I 0 11)) 2) (I (64 + 3 * Int32.toNatClampNeg (I 0 11)) 3) (I (64 + 3 * Int32.toNatClampNeg (I 0 11)) 4) (A (65 + 3 * Int32.toNatClampNeg (I 0 11))) (A (66 + 3 * Int32.toNatClampNeg (I 0 11))) (I 0 11) (I 0 12) (I 4 2) (I 4 3) (I 4 4) (I 112 4) (I 112 13) (I 112 14) (I 112 16) (I 112 17) (A 5) (A 6) (A 116) (A 119) = some r ∧ fX9_day (I9 0 54) (A9 2) (A9 7) (A9 9) (A9 12) (I9 0 0) (I9 0 53) (A9 35) (A9 39) = some w ∧ r.1 = w.1 ∧ Rel (N + 1) (gp (gp I r.2.2.2.2.2.2.2.2.2.2.2.2.2.2.2.1) [(0, 11, r.2.1), (0, 12, r.2.2.1), (4, 2, r.2.2.2.1), (4, 3, r.2.2.2.2.1), (4, 4, r.2.2.2.2.2.1), (112, 4, r.2.2.2.2.2.2.1), (112, 13, r.2.2.2.2.2.2.2.1), (112, 14, r.2.2.2.2.2.2.2.2.1), (112, 16, r.2.2.2.2.2.2.2.2.2.1), (112, 17, r.2.2.2.2.2.2.2.2.2.2.1)]) (gm (gm A r.2.2.2.2.2.2.2.2.2.2.2.2.2.2.2.2) [(5, r.2.2.2.2.2.2.2.2.2.2.2.1), (6, r.2.2.2.2.2.2.2.2.2.2.2.2.1), (116, r.2.2.2.2.2.2.2.2.2.2.2.2.2.1), (119, r.2.2.2.2.2.2.2.2.2.2.2.2.2.2.1)]) (gm B []) (gp I9 [(0, 0, w.2.1), (0, 53, w.2.2.1)]) (gm A9 [(35, w.2.2.2.1), (39, w.2.2.2.2)]) (gm B9 []) := by
  obtain ⟨Z, T, S, X, Y, L, NH, NG, o0, o1, o2, o3, ⟨⟨t1, t2, t3, t4⟩, ⟨hT, hC, hM, hR⟩, hNm, ⟨hS, hs, hm⟩, ⟨hX, hH, hH2⟩, ⟨hL, hCL, hML⟩, ⟨hY, hQ⟩, hk, h54⟩, hP⟩ := R
  have c1 := hC.1
  have c2 := hC.2.1
  have c3 := hC.2.2.1
  have c4 := hC.2.2.2.1
  have d1 := hs.1
  have d2 := hs.2.1
  have d3 := hs.2.2.1
  have hC1 := hC
  rw [c1, c2, c3, c4] at hC1
  have hs1 := hs
  rw [d1, d2, d3] at hs1
  obtain ⟨a, S1, Y1, hS1, hY1, ⟨r, e8, q8, ⟨m1, m2, m3, m4⟩, x0, x1, x2, x3, x4, x5, x6⟩, ⟨w, e9, q9, m5, m6⟩⟩ := p_day (oz := I (64 + 3 * Int32.toNatClampNeg (I 0 11)) 2) (od := I (64 + 3 * Int32.toNatClampNeg (I 0 11)) 3) (ob := I (64 + 3 * Int32.toNatClampNeg (I 0 11)) 4) (oc := A (65 + 3 * Int32.toNatClampNeg (I 0 11))) (oi := A (66 + 3 * Int32.toNatClampNeg (I 0 11))) (th := I9 0 0) hT hS hN hY hC1 hs1 hP hM hm hQ
  have hCn : CT T r.2.2.2.2.2.2.1 r.2.2.2.2.2.2.2.1 r.2.2.2.2.2.2.2.2.1 (I 112 15) r.2.2.2.2.2.2.2.2.2.1 r.2.2.2.2.2.2.2.2.2.2.1 (I 124 4) r.2.2.2.2.2.2.2.2.2.2.2.2.2.1 (A 117) (A 118) r.2.2.2.2.2.2.2.2.2.2.2.2.2.2.1 (A 120) (A 121) (A 122) (A 123) (A 125) := by
    have h := hC
    rw [c1, c2, c3] at h
    rw [x0, x1, x2, x3, x4, x5, x6]; exact h
  refine ⟨r, w, ?_, ?_, q8.trans q9.symm, Z, T, S1, X, Y1, L, NH, NG, o0, o1, o2, o3, RelN_cut (I := (gp I [(0, 11, r.2.1), (0, 12, r.2.2.1), (4, 2, r.2.2.2.1), (4, 3, r.2.2.2.2.1), (4, 4, r.2.2.2.2.2.1), (112, 4, r.2.2.2.2.2.2.1), (112, 13, r.2.2.2.2.2.2.2.1), (112, 14, r.2.2.2.2.2.2.2.2.1), (112, 16, r.2.2.2.2.2.2.2.2.2.1), (112, 17, r.2.2.2.2.2.2.2.2.2.2.1)])) (A := (gm A [(5, r.2.2.2.2.2.2.2.2.2.2.2.1), (6, r.2.2.2.2.2.2.2.2.2.2.2.2.1), (116, r.2.2.2.2.2.2.2.2.2.2.2.2.2.1), (119, r.2.2.2.2.2.2.2.2.2.2.2.2.2.2.1)])) (fun q k h => gp_base (gp_near m3 h k)) (fun q h => gm_base (gm_near m4 h)) ⟨⟨t1, t2, t3, t4⟩, ⟨hT, hCn, hM, hR⟩, hNm, ⟨hS1, m1, m5⟩, ⟨hX, hH, hH2⟩, ⟨hL, hCL, hML⟩, ⟨hY1, m6⟩, ⟨⟨fun x hx => ⟨WS_mono (hk.1.1 x hx).1 (Nat.le_succ N), (hk.1.1 x hx).2⟩, hk.1.2⟩, ⟨fun x hx => ⟨WS_mono (hk.2.1.1 x hx).1 (Nat.le_succ N), (hk.2.1.1 x hx).2⟩, hk.2.1.2⟩, ⟨fun x hx => ⟨WS_mono (hk.2.2.1.1 x hx).1 (Nat.le_succ N), (hk.2.2.1.1 x hx).2⟩, hk.2.2.1.2⟩, ⟨fun x hx => ⟨WS_mono (hk.2.2.2.1 x hx).1 (Nat.le_succ N), (hk.2.2.2.1 x hx).2⟩, hk.2.2.2.2⟩⟩, h54⟩, CP_keep rfl rfl m2⟩
  · rw [c1, c2, c3, d1, d2, d3]; exact e8
  · rw [h54]; exact e9
set_option maxHeartbeats 4000000 in
set_option maxRecDepth 10000 in
theorem st_down {N : Nat} {I A : MI} {B J : MJ} {I9 A9 : MI} {B9 J9 : MJ} (v1 : Int32) (v2 : Int32) (hN : N ≤ 1800) (R : Rel N I A B I9 A9 B9) : ∃ (r : Int32 × Int32 × Int32 × Int32 × Int32 × Int32 × Int32 × Int32 × Int32 × Int32 × (Nat → Int32) × (Nat → Int32) × (Nat → Int32) × (Nat → Int32) × (Nat → Int32) × (Nat → Int32) × (Nat → Int32) × (Nat → Int32) × List (Nat × Nat × Int32) × List (Nat × (Nat → Int32))) (w : Int32 × Int32 × Int32 × (Nat → Int32) × (Nat → Int32) × (Nat → Int32) × (Nat → Int32) × (Nat → Int32) × (Nat → Int32) × (Nat → Int32) × (Nat → Int32) × (Nat → Int32) × (Nat → Int32) × (Nat → Int32) × (Nat → Int32)), fX8_down (I (64 + 3 * Int32.toNatClampNeg (I 0 11)) 2) (I (64 + 3 * Int32.toNatClampNeg (I 0 11)) 3) (I (64 + 3 * Int32.toNatClampNeg (I 0 11)) 4) (A (65 + 3 * Int32.toNatClampNeg (I 0 11))) (A (66 + 3 * Int32.toNatClampNeg (I 0 11))) (I 0 11) (I 0 12) (I 4 2) (I 4 3) (I 4 4) (I 112 13) (I 112 14) (I 124 2) (I 124 4) (A 5) (A 6) (A 117) (A 121) (A 122) (A 123) (A 125) (A 126) v1 v2 = some r ∧ fX9_down (A9 2) (A9 5) (A9 9) (A9 10) (A9 11) (A9 13) (A9 14) (A9 15) (I9 0 0) (I9 0 53) (A9 18) (A9 19) (A9 20) (A9 21) (A9 22) (A9 23) (A9 24) (A9 25) (A9 26) (A9 27) (A9 35) (A9 39) v1 v2 = some w ∧ r.1 = w.1 ∧ Rel N (gp (gp I r.2.2.2.2.2.2.2.2.2.2.2.2.2.2.2.2.2.2.1) [(0, 11, r.2.1), (0, 12, r.2.2.1), (4, 2, r.2.2.2.1), (4, 3, r.2.2.2.2.1), (4, 4, r.2.2.2.2.2.1), (112, 13, r.2.2.2.2.2.2.1), (112, 14, r.2.2.2.2.2.2.2.1), (124, 2, r.2.2.2.2.2.2.2.2.1), (124, 4, r.2.2.2.2.2.2.2.2.2.1)]) (gm (gm A r.2.2.2.2.2.2.2.2.2.2.2.2.2.2.2.2.2.2.2) [(5, r.2.2.2.2.2.2.2.2.2.2.1), (6, r.2.2.2.2.2.2.2.2.2.2.2.1), (117, r.2.2.2.2.2.2.2.2.2.2.2.2.1), (121, r.2.2.2.2.2.2.2.2.2.2.2.2.2.1), (122, r.2.2.2.2.2.2.2.2.2.2.2.2.2.2.1), (123, r.2.2.2.2.2.2.2.2.2.2.2.2.2.2.2.1), (125, r.2.2.2.2.2.2.2.2.2.2.2.2.2.2.2.2.1), (126, r.2.2.2.2.2.2.2.2.2.2.2.2.2.2.2.2.2.1)]) (gm B []) (gp I9 [(0, 0, w.2.1), (0, 53, w.2.2.1)]) (gm A9 [(18, w.2.2.2.1), (19, w.2.2.2.2.1), (20, w.2.2.2.2.2.1), (21, w.2.2.2.2.2.2.1), (22, w.2.2.2.2.2.2.2.1), (23, w.2.2.2.2.2.2.2.2.1), (24, w.2.2.2.2.2.2.2.2.2.1), (25, w.2.2.2.2.2.2.2.2.2.2.1), (26, w.2.2.2.2.2.2.2.2.2.2.2.1), (27, w.2.2.2.2.2.2.2.2.2.2.2.2.1), (35, w.2.2.2.2.2.2.2.2.2.2.2.2.2.1), (39, w.2.2.2.2.2.2.2.2.2.2.2.2.2.2)]) (gm B9 []) := by
  obtain ⟨Z, T, S, X, Y, L, NH, NG, o0, o1, o2, o3, ⟨⟨t1, t2, t3, t4⟩, ⟨hT, hC, hM, hR⟩, hNm, ⟨hS, hs, hm⟩, ⟨hX, hH, hH2⟩, ⟨hL, hCL, hML⟩, ⟨hY, hQ⟩, hk, h54⟩, hP⟩ := R
  have c1 := hC.1
  have c2 := hC.2.1
  have c3 := hC.2.2.1
  have c4 := hC.2.2.2.1
  have d1 := hs.1
  have d2 := hs.2.1
  have d3 := hs.2.2.1
  have hC1 := hC
  rw [c1, c2, c3, c4] at hC1
  have hs1 := hs
  rw [d1, d2, d3] at hs1
  obtain ⟨a, S1, Y1, hS1, hY1, ⟨r, e8, q8, ⟨m1, m2, m3, m4⟩, x0, x1, x2, x3, x4, x5, x6, x7⟩, ⟨w, e9, q9, m5, m6⟩⟩ := p_down (oz := I (64 + 3 * Int32.toNatClampNeg (I 0 11)) 2) (od := I (64 + 3 * Int32.toNatClampNeg (I 0 11)) 3) (ob := I (64 + 3 * Int32.toNatClampNeg (I 0 11)) 4) (oc := A (65 + 3 * Int32.toNatClampNeg (I 0 11))) (oi := A (66 + 3 * Int32.toNatClampNeg (I 0 11))) (th := I9 0 0) v1 v2 hT hS hY hC1 hs1 hP hM hm hQ
  have hCn : CT T (I 112 4) r.2.2.2.2.2.2.1 r.2.2.2.2.2.2.2.1 (I 112 15) (I 112 16) (I 112 17) r.2.2.2.2.2.2.2.2.2.1 (A 116) r.2.2.2.2.2.2.2.2.2.2.2.2.1 (A 118) (A 119) (A 120) r.2.2.2.2.2.2.2.2.2.2.2.2.2.1 r.2.2.2.2.2.2.2.2.2.2.2.2.2.2.1 r.2.2.2.2.2.2.2.2.2.2.2.2.2.2.2.1 r.2.2.2.2.2.2.2.2.2.2.2.2.2.2.2.2.1 := by
    have h := hC
    rw [c2, c3] at h
    rw [x0, x1, x2, x3, x4, x5, x6, x7]; exact h
  refine ⟨r, w, ?_, ?_, q8.trans q9.symm, Z, T, S1, X, Y1, L, NH, NG, o0, o1, o2, o3, RelN_cut (I := (gp I [(0, 11, r.2.1), (0, 12, r.2.2.1), (4, 2, r.2.2.2.1), (4, 3, r.2.2.2.2.1), (4, 4, r.2.2.2.2.2.1), (112, 13, r.2.2.2.2.2.2.1), (112, 14, r.2.2.2.2.2.2.2.1), (124, 2, r.2.2.2.2.2.2.2.2.1), (124, 4, r.2.2.2.2.2.2.2.2.2.1)])) (A := (gm A [(5, r.2.2.2.2.2.2.2.2.2.2.1), (6, r.2.2.2.2.2.2.2.2.2.2.2.1), (117, r.2.2.2.2.2.2.2.2.2.2.2.2.1), (121, r.2.2.2.2.2.2.2.2.2.2.2.2.2.1), (122, r.2.2.2.2.2.2.2.2.2.2.2.2.2.2.1), (123, r.2.2.2.2.2.2.2.2.2.2.2.2.2.2.2.1), (125, r.2.2.2.2.2.2.2.2.2.2.2.2.2.2.2.2.1), (126, r.2.2.2.2.2.2.2.2.2.2.2.2.2.2.2.2.2.1)])) (fun q k h => gp_base (gp_near m3 h k)) (fun q h => gm_base (gm_near m4 h)) ⟨⟨t1, t2, t3, t4⟩, ⟨hT, hCn, hM, hR⟩, hNm, ⟨hS1, m1, m5⟩, ⟨hX, hH, hH2⟩, ⟨hL, hCL, hML⟩, ⟨hY1, m6⟩, hk, h54⟩, CP_keep rfl rfl m2⟩
  · rw [c2, c3, d1, d2, d3]; exact e8
  · exact e9
set_option maxHeartbeats 4000000 in
set_option maxRecDepth 10000 in
theorem st_through {N : Nat} {I A : MI} {B J : MJ} {I9 A9 : MI} {B9 J9 : MJ} (v1 : Int32) (v2 : Int32) (hN : N ≤ 1800) (R : Rel N I A B I9 A9 B9) : ∃ (r : Int32 × Int32 × Int32 × Int32 × Int32 × Int32 × Int32 × Int32 × Int32 × Int32 × (Nat → Int32) × (Nat → Int32) × (Nat → Int32) × (Nat → Int32) × (Nat → Int32) × (Nat → Int32) × (Nat → Int32) × (Nat → Int32) × (Nat → Int32) × List (Nat × Nat × Int32) × List (Nat × (Nat → Int32))) (w : Int32 × Int32 × Int32 × (Nat → Int32) × (Nat → Int32) × (Nat → Int32) × (Nat → Int32) × (Nat → Int32) × (Nat → Int32) × (Nat → Int32) × (Nat → Int32) × (Nat → Int32) × (Nat → Int32) × (Nat → Int32) × (Nat → Int32)), fX8_through (I (64 + 3 * Int32.toNatClampNeg (I 0 11)) 2) (I (64 + 3 * Int32.toNatClampNeg (I 0 11)) 3) (I (64 + 3 * Int32.toNatClampNeg (I 0 11)) 4) (A (65 + 3 * Int32.toNatClampNeg (I 0 11))) (A (66 + 3 * Int32.toNatClampNeg (I 0 11))) (I 0 11) (I 0 12) (I 4 2) (I 4 3) (I 4 4) (I 112 13) (I 112 14) (I 124 2) (I 124 4) (A 5) (A 6) (A 117) (A 120) (A 121) (A 122) (A 123) (A 125) (A 126) v1 v2 = some r ∧ fX9_through (A9 2) (A9 5) (A9 8) (A9 9) (A9 10) (A9 11) (A9 13) (A9 14) (A9 15) (I9 0 0) (I9 0 53) (A9 18) (A9 19) (A9 20) (A9 21) (A9 22) (A9 23) (A9 24) (A9 25) (A9 26) (A9 27) (A9 35) (A9 39) v1 v2 = some w ∧ r.1 = w.1 ∧ Rel N (gp (gp I r.2.2.2.2.2.2.2.2.2.2.2.2.2.2.2.2.2.2.2.1) [(0, 11, r.2.1), (0, 12, r.2.2.1), (4, 2, r.2.2.2.1), (4, 3, r.2.2.2.2.1), (4, 4, r.2.2.2.2.2.1), (112, 13, r.2.2.2.2.2.2.1), (112, 14, r.2.2.2.2.2.2.2.1), (124, 2, r.2.2.2.2.2.2.2.2.1), (124, 4, r.2.2.2.2.2.2.2.2.2.1)]) (gm (gm A r.2.2.2.2.2.2.2.2.2.2.2.2.2.2.2.2.2.2.2.2) [(5, r.2.2.2.2.2.2.2.2.2.2.1), (6, r.2.2.2.2.2.2.2.2.2.2.2.1), (117, r.2.2.2.2.2.2.2.2.2.2.2.2.1), (120, r.2.2.2.2.2.2.2.2.2.2.2.2.2.1), (121, r.2.2.2.2.2.2.2.2.2.2.2.2.2.2.1), (122, r.2.2.2.2.2.2.2.2.2.2.2.2.2.2.2.1), (123, r.2.2.2.2.2.2.2.2.2.2.2.2.2.2.2.2.1), (125, r.2.2.2.2.2.2.2.2.2.2.2.2.2.2.2.2.2.1), (126, r.2.2.2.2.2.2.2.2.2.2.2.2.2.2.2.2.2.2.1)]) (gm B []) (gp I9 [(0, 0, w.2.1), (0, 53, w.2.2.1)]) (gm A9 [(18, w.2.2.2.1), (19, w.2.2.2.2.1), (20, w.2.2.2.2.2.1), (21, w.2.2.2.2.2.2.1), (22, w.2.2.2.2.2.2.2.1), (23, w.2.2.2.2.2.2.2.2.1), (24, w.2.2.2.2.2.2.2.2.2.1), (25, w.2.2.2.2.2.2.2.2.2.2.1), (26, w.2.2.2.2.2.2.2.2.2.2.2.1), (27, w.2.2.2.2.2.2.2.2.2.2.2.2.1), (35, w.2.2.2.2.2.2.2.2.2.2.2.2.2.1), (39, w.2.2.2.2.2.2.2.2.2.2.2.2.2.2)]) (gm B9 []) := by
  obtain ⟨Z, T, S, X, Y, L, NH, NG, o0, o1, o2, o3, ⟨⟨t1, t2, t3, t4⟩, ⟨hT, hC, hM, hR⟩, hNm, ⟨hS, hs, hm⟩, ⟨hX, hH, hH2⟩, ⟨hL, hCL, hML⟩, ⟨hY, hQ⟩, hk, h54⟩, hP⟩ := R
  have c1 := hC.1
  have c2 := hC.2.1
  have c3 := hC.2.2.1
  have c4 := hC.2.2.2.1
  have d1 := hs.1
  have d2 := hs.2.1
  have d3 := hs.2.2.1
  have hC1 := hC
  rw [c1, c2, c3, c4] at hC1
  have hs1 := hs
  rw [d1, d2, d3] at hs1
  obtain ⟨a, S1, Y1, hS1, hY1, ⟨r, e8, q8, ⟨m1, m2, m3, m4⟩, x0, x1, x2, x3, x4, x5, x6, x7, x8⟩, ⟨w, e9, q9, m5, m6⟩⟩ := p_through (oz := I (64 + 3 * Int32.toNatClampNeg (I 0 11)) 2) (od := I (64 + 3 * Int32.toNatClampNeg (I 0 11)) 3) (ob := I (64 + 3 * Int32.toNatClampNeg (I 0 11)) 4) (oc := A (65 + 3 * Int32.toNatClampNeg (I 0 11))) (oi := A (66 + 3 * Int32.toNatClampNeg (I 0 11))) (th := I9 0 0) v1 v2 hT hS hY hC1 hs1 hP hM hm hQ
  have hCn : CT T (I 112 4) r.2.2.2.2.2.2.1 r.2.2.2.2.2.2.2.1 (I 112 15) (I 112 16) (I 112 17) r.2.2.2.2.2.2.2.2.2.1 (A 116) r.2.2.2.2.2.2.2.2.2.2.2.2.1 (A 118) (A 119) r.2.2.2.2.2.2.2.2.2.2.2.2.2.1 r.2.2.2.2.2.2.2.2.2.2.2.2.2.2.1 r.2.2.2.2.2.2.2.2.2.2.2.2.2.2.2.1 r.2.2.2.2.2.2.2.2.2.2.2.2.2.2.2.2.1 r.2.2.2.2.2.2.2.2.2.2.2.2.2.2.2.2.2.1 := by
    have h := hC
    rw [c2, c3] at h
    rw [x0, x1, x2, x3, x4, x5, x6, x7, x8]; exact h
  refine ⟨r, w, ?_, ?_, q8.trans q9.symm, Z, T, S1, X, Y1, L, NH, NG, o0, o1, o2, o3, RelN_cut (I := (gp I [(0, 11, r.2.1), (0, 12, r.2.2.1), (4, 2, r.2.2.2.1), (4, 3, r.2.2.2.2.1), (4, 4, r.2.2.2.2.2.1), (112, 13, r.2.2.2.2.2.2.1), (112, 14, r.2.2.2.2.2.2.2.1), (124, 2, r.2.2.2.2.2.2.2.2.1), (124, 4, r.2.2.2.2.2.2.2.2.2.1)])) (A := (gm A [(5, r.2.2.2.2.2.2.2.2.2.2.1), (6, r.2.2.2.2.2.2.2.2.2.2.2.1), (117, r.2.2.2.2.2.2.2.2.2.2.2.2.1), (120, r.2.2.2.2.2.2.2.2.2.2.2.2.2.1), (121, r.2.2.2.2.2.2.2.2.2.2.2.2.2.2.1), (122, r.2.2.2.2.2.2.2.2.2.2.2.2.2.2.2.1), (123, r.2.2.2.2.2.2.2.2.2.2.2.2.2.2.2.2.1), (125, r.2.2.2.2.2.2.2.2.2.2.2.2.2.2.2.2.2.1), (126, r.2.2.2.2.2.2.2.2.2.2.2.2.2.2.2.2.2.2.1)])) (fun q k h => gp_base (gp_near m3 h k)) (fun q h => gm_base (gm_near m4 h)) ⟨⟨t1, t2, t3, t4⟩, ⟨hT, hCn, hM, hR⟩, hNm, ⟨hS1, m1, m5⟩, ⟨hX, hH, hH2⟩, ⟨hL, hCL, hML⟩, ⟨hY1, m6⟩, hk, h54⟩, CP_keep rfl rfl m2⟩
  · rw [c2, c3, d1, d2, d3]; exact e8
  · exact e9
set_option maxHeartbeats 4000000 in
set_option maxRecDepth 10000 in
theorem st_undo {N : Nat} {I A : MI} {B J : MJ} {I9 A9 : MI} {B9 J9 : MJ} (hN : N ≤ 1800) (R : Rel N I A B I9 A9 B9) : ∃ (r : Int32 × Int32 × Int32 × Int32 × Int32 × Int32 × (Nat → Int32) × (Nat → Int32)) (w : Int32 × Int32 × Int32 × (Nat → Int32)), fX8_undo (I (64 + 3 * Int32.toNatClampNeg (undoAt (I 0 11))) 2) (I (64 + 3 * Int32.toNatClampNeg (undoAt (I 0 11))) 3) (I (64 + 3 * Int32.toNatClampNeg (undoAt (I 0 11))) 4) (A (65 + 3 * Int32.toNatClampNeg (undoAt (I 0 11)))) (A (66 + 3 * Int32.toNatClampNeg (undoAt (I 0 11)))) (I 0 11) (I 0 12) (I 4 2) (I 4 3) (I 4 4) (A 5) (A 6) = some r ∧ fX9_undo (A9 39) (I9 0 0) (I9 0 53) (A9 35) = some w ∧ r.1 = w.1 ∧ Rel N (gp I [(0, 11, r.2.1), (0, 12, r.2.2.1), (4, 2, r.2.2.2.1), (4, 3, r.2.2.2.2.1), (4, 4, r.2.2.2.2.2.1)]) (gm A [(5, r.2.2.2.2.2.2.1), (6, r.2.2.2.2.2.2.2)]) (gm B []) (gp I9 [(0, 0, w.2.1), (0, 53, w.2.2.1)]) (gm A9 [(35, w.2.2.2)]) (gm B9 []) := by
  obtain ⟨Z, T, S, X, Y, L, NH, NG, o0, o1, o2, o3, ⟨⟨t1, t2, t3, t4⟩, ⟨hT, hC, hM, hR⟩, hNm, ⟨hS, hs, hm⟩, ⟨hX, hH, hH2⟩, ⟨hL, hCL, hML⟩, ⟨hY, hQ⟩, hk, h54⟩, hP⟩ := R
  have c1 := hC.1
  have c2 := hC.2.1
  have c3 := hC.2.2.1
  have c4 := hC.2.2.2.1
  have d1 := hs.1
  have d2 := hs.2.1
  have d3 := hs.2.2.1
  have hC1 := hC
  rw [c1, c2, c3, c4] at hC1
  have hs1 := hs
  rw [d1, d2, d3] at hs1
  obtain ⟨p, hp, hpn, -⟩ := id hP
  obtain ⟨a, S1, Y1, hS1, hY1, ⟨r, e8, q8, m1, m2⟩, ⟨w, e9, q9, m5, m6⟩⟩ := p_undo (th := I9 0 0) hp hpn hT hS hY hs1 hP hm hQ
  refine ⟨r, w, ?_, e9, q8.trans q9.symm, Z, T, S1, X, Y1, L, NH, NG, o0, o1, o2, o3, ⟨⟨t1, t2, t3, t4⟩, ⟨hT, hC, hM, hR⟩, hNm, ⟨hS1, m1, m5⟩, ⟨hX, hH, hH2⟩, ⟨hL, hCL, hML⟩, ⟨hY1, m6⟩, hk, h54⟩, CP_keep rfl rfl m2⟩
  rw [d1, d2, d3]; exact e8
set_option maxHeartbeats 4000000 in
set_option maxRecDepth 10000 in
theorem st_feed {N : Nat} {I A : MI} {B J : MJ} {I9 A9 : MI} {B9 J9 : MJ} (v1 : Int64) (v3 : Int64) (v5 : Int64) (hN : N ≤ 1800) (R : Rel N I A B I9 A9 B9) : ∃ (r : Int32 × Int32 × (Nat → Int32)) (w : Int32 × Int32 × Int32 × (Nat → Int32)), fX8_feed (I 1 6) (A 2) v1 v3 v5 = some r ∧ fX9_feed (I9 0 0) (I9 0 1) (A9 1) v1 v3 v5 = some w ∧ r.1 = w.1 ∧ Rel N (gp I [(1, 6, r.2.1)]) (gm A [(2, r.2.2)]) (gm B []) (gp I9 [(0, 0, w.2.1), (0, 1, w.2.2.1)]) (gm A9 [(1, w.2.2.2)]) (gm B9 []) := by
  obtain ⟨Z, T, S, X, Y, L, NH, NG, o0, o1, o2, o3, ⟨⟨t1, t2, t3, t4⟩, ⟨hT, hC, hM, hR⟩, hNm, ⟨hS, hs, hm⟩, ⟨hX, hH, hH2⟩, ⟨hL, hCL, hML⟩, ⟨hY, hQ⟩, hk, h54⟩, hP⟩ := R
  have c1 := hC.1
  have c2 := hC.2.1
  have c3 := hC.2.2.1
  have c4 := hC.2.2.2.1
  have d1 := hs.1
  have d2 := hs.2.1
  have d3 := hs.2.2.1
  have hC1 := hC
  rw [c1, c2, c3, c4] at hC1
  have hs1 := hs
  rw [d1, d2, d3] at hs1
  obtain ⟨a, Z1, hZ1, ⟨r, e8, q8, m1⟩, ⟨w, e9, q9, m2⟩⟩ := p_feed (th := I9 0 0) (v1 := v1) (v3 := v3) (v5 := v5) t1 t2 t4
  exact ⟨r, w, e8, e9, q8.trans q9.symm, Z1, T, S, X, Y, L, NH, NG, o0, o1, o2, o3, ⟨⟨hZ1, m1, t3, m2⟩, ⟨hT, hC, hM, hR⟩, hNm, ⟨hS, hs, hm⟩, ⟨hX, hH, hH2⟩, ⟨hL, hCL, hML⟩, ⟨hY, hQ⟩, hk, h54⟩, CP_keep rfl rfl hP⟩
set_option maxHeartbeats 4000000 in
set_option maxRecDepth 10000 in
theorem st_hear {N : Nat} {I A : MI} {B J : MJ} {I9 A9 : MI} {B9 J9 : MJ} (v1 : Int32) (b : Bool) (hN : N ≤ 1800) (R : Rel N I A B I9 A9 B9) : ∃ (r : Int32 × Int32 × (Nat → Int32) × (Nat → Int32)) (w : Int32 × Int32 × (Nat → Int32) × (Nat → Int32) × (Nat → Int32)), fX8_hear (I 10 2) (A 11) (A 12) v1 (nI (b2 b)) = some r ∧ fX9_hear (I9 0 0) (A9 32) (A9 33) (A9 34) v1 (nI (b2 b)) = some w ∧ r.1 = w.1 ∧ Rel N (gp I [(10, 2, r.2.1)]) (gm A [(11, r.2.2.1), (12, r.2.2.2)]) (gm B []) (gp I9 [(0, 0, w.2.1)]) (gm A9 [(32, w.2.2.1), (33, w.2.2.2.1), (34, w.2.2.2.2)]) (gm B9 []) := by
  obtain ⟨Z, T, S, X, Y, L, NH, NG, o0, o1, o2, o3, ⟨⟨t1, t2, t3, t4⟩, ⟨hT, hC, hM, hR⟩, hNm, ⟨hS, hs, hm⟩, ⟨hX, hH, hH2⟩, ⟨hL, hCL, hML⟩, ⟨hY, hQ⟩, hk, h54⟩, hP⟩ := R
  have c1 := hC.1
  have c2 := hC.2.1
  have c3 := hC.2.2.1
  have c4 := hC.2.2.2.1
  have d1 := hs.1
  have d2 := hs.2.1
  have d3 := hs.2.2.1
  have hC1 := hC
  rw [c1, c2, c3, c4] at hC1
  have hs1 := hs
  rw [d1, d2, d3] at hs1
  obtain ⟨a, X1, hX1, ⟨r, e8, q8, m1⟩, ⟨w, e9, q9, m2, m3, m4⟩⟩ := p_hear (th := I9 0 0) (v1 := v1) (b := b) hX hH hH2
  exact ⟨r, w, e8, e9, q8.trans q9.symm, Z, T, S, X1, Y, L, NH, NG, o0, o1, o2, o3, ⟨⟨t1, t2, t3, t4⟩, ⟨hT, hC, hM, hR⟩, hNm, ⟨hS, hs, hm⟩, ⟨hX1, m1, m2⟩, ⟨hL, hCL, hML⟩, ⟨hY, hQ⟩, ⟨⟨hk.1.1, hk.1.2.1, MMk_keep (t := 0) hk.1.1 hk.1.2.2 (by decide) (by decide) (fun _ _ => rfl) rfl (fun _ _ => rfl) (fun _ _ => ⟨rfl, rfl, rfl⟩) m3 (fun j hj => m4 j (by omega))⟩, ⟨hk.2.1.1, hk.2.1.2.1, MMk_keep (t := 0) hk.2.1.1 hk.2.1.2.2 (by decide) (by decide) (fun _ _ => rfl) rfl (fun _ _ => rfl) (fun _ _ => ⟨rfl, rfl, rfl⟩) m3 (fun j hj => m4 j (by omega))⟩, ⟨hk.2.2.1.1, hk.2.2.1.2.1, MMk_keep (t := 0) hk.2.2.1.1 hk.2.2.1.2.2 (by decide) (by decide) (fun _ _ => rfl) rfl (fun _ _ => rfl) (fun _ _ => ⟨rfl, rfl, rfl⟩) m3 (fun j hj => m4 j (by omega))⟩, ⟨hk.2.2.2.1, hk.2.2.2.2.1, MMk_keep (t := 0) hk.2.2.2.1 hk.2.2.2.2.2 (by decide) (by decide) (fun _ _ => rfl) rfl (fun _ _ => rfl) (fun _ _ => ⟨rfl, rfl, rfl⟩) m3 (fun j hj => m4 j (by omega))⟩⟩, h54⟩, CP_keep rfl rfl hP⟩
set_option maxHeartbeats 4000000 in
set_option maxRecDepth 10000 in
theorem st_rests {N : Nat} {I A : MI} {B J : MJ} {I9 A9 : MI} {B9 J9 : MJ} (v1 v2 v3 v4 : Int32) (R : Rel N I A B I9 A9 B9) : ∃ w : Int32 × Int32, fX9_rests (I9 0 0) v1 v2 v3 v4 = some w ∧ Rel N I A B (gp I9 [(0, 0, w.2)]) A9 B9 ∧ ((w.2 = 0 ∧ fX8_rests v1 v2 v3 v4 = some w.1) ∨ (w.2 = 1 ∧ fX8_restsT v1 v2 v3 v4 = some ())) := by
  obtain ⟨Z, T, S, X, Y, L, NH, NG, o0, o1, o2, o3, ⟨⟨t1, t2, t3, t4⟩, ⟨hT, hC, hM, hR⟩, hNm, ⟨hS, hs, hm⟩, ⟨hX, hH, hH2⟩, ⟨hL, hCL, hML⟩, ⟨hY, hQ⟩, hk, h54⟩, hP⟩ := R
  have c1 := hC.1
  have c2 := hC.2.1
  have c3 := hC.2.2.1
  have c4 := hC.2.2.2.1
  have d1 := hs.1
  have d2 := hs.2.1
  have d3 := hs.2.2.1
  have hC1 := hC
  rw [c1, c2, c3, c4] at hC1
  have hs1 := hs
  rw [d1, d2, d3] at hs1
  have key : ∀ x : Int32, Rel N I A B (gp I9 [(0, 0, x)]) A9 B9 := fun x => ⟨Z, T, S, X, Y, L, NH, NG, o0, o1, o2, o3, ⟨⟨t1, t2, t3, t4⟩, ⟨hT, hC, hM, hR⟩, hNm, ⟨hS, hs, hm⟩, ⟨hX, hH, hH2⟩, ⟨hL, hCL, hML⟩, ⟨hY, hQ⟩, hk, h54⟩, hP⟩
  rcases p_rests (th := I9 0 0) (v1 := v1) (v2 := v2) (v3 := v3) (v4 := v4) with ⟨r, e8, e9⟩ | ⟨e8, x, e9⟩
  · exact ⟨(r, 0), e9, key 0, Or.inl ⟨rfl, e8⟩⟩
  · exact ⟨(x, 1), e9, key 1, Or.inr ⟨rfl, e8⟩⟩
