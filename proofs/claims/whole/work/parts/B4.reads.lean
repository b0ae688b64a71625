/-! a step of every call that only reads -/
set_option maxHeartbeats 4000000 in
set_option maxRecDepth 10000 in
theorem st_hole {N : Nat} {I A : MI} {B J : MJ} {I9 A9 : MI} {B9 J9 : MJ} (v1 : Int32) (v2 : Int32) (hN : N ≤ 1800) (R : Rel N I A B I9 A9 B9) : ∃ (r : Int32 × Int32 × (Nat → Int32)) (w : Int32 × Int32 × (Nat → Int32) × (Nat → Int32) × (Nat → Int32) × (Nat → Int32) × (Nat → Int32) × (Nat → Int32) × (Nat → Int32) × (Nat → Int32) × (Nat → Int32) × (Nat → Int32)), fX8_hole (I 4 3) (I 112 13) (I 112 14) (I 124 4) (A 5) (A 6) (A 117) (A 119) (A 120) (A 121) (A 122) (A 123) (A 125) (I 124 2) (A 126) v1 v2 = some r ∧ fX9_hole (A9 2) (A9 5) (A9 7) (A9 8) (A9 9) (A9 10) (A9 11) (A9 13) (A9 14) (A9 15) (A9 35) (I9 0 0) (A9 18) (A9 19) (A9 20) (A9 21) (A9 22) (A9 23) (A9 24) (A9 25) (A9 26) (A9 27) v1 v2 = some w ∧ r.1 = w.1 ∧ Rel N (gp I [(124, 2, r.2.1)]) (gm A [(126, r.2.2)]) (gm B []) (gp I9 [(0, 0, w.2.1)]) (gm A9 [(18, w.2.2.1), (19, w.2.2.2.1), (20, w.2.2.2.2.1), (21, w.2.2.2.2.2.1), (22, w.2.2.2.2.2.2.1), (23, w.2.2.2.2.2.2.2.1), (24, w.2.2.2.2.2.2.2.2.1), (25, w.2.2.2.2.2.2.2.2.2.1), (26, w.2.2.2.2.2.2.2.2.2.2.1), (27, w.2.2.2.2.2.2.2.2.2.2.2)]) (gm B9 []) := by
  obtain ⟨Z, T, S, X, Y, L, NH, NG, o0, o1, o2, o3, ⟨⟨t1, t2, t3, t4⟩, ⟨hT, hC, hM, hR⟩, hNm, ⟨hS, hs, hm⟩, ⟨hX, hH, hH2⟩, ⟨hL, hCL, hML⟩, ⟨hY, hQ⟩, hk, h54⟩, hP⟩ := R
  have c1 := hC.1
  have c2 := hC.2.1
  have c3 := hC.2.2.1
  have c4 := hC.2.2.2.1
  have d1 := hs.1
  have d2 := hs.2.1
  have d3 := hs.2.2.1
  have hC1 := hC
  rw [c1, c2, c3, c4] at hC1
  have hs1 := hs
  rw [d1, d2, d3] at hs1
  obtain ⟨a, ⟨r, e8, q8⟩, h9⟩ := p_hole v1 v2 hT hS hC1 hs1 hM hm
  obtain ⟨w, e9, q9⟩ := h9
  refine ⟨r, w, ?_, ?_, q8.trans q9.symm, Z, T, S, X, Y, L, NH, NG, o0, o1, o2, o3, ⟨⟨t1, t2, t3, t4⟩, ⟨hT, hC, hM, hR⟩, hNm, ⟨hS, hs, hm⟩, ⟨hX, hH, hH2⟩, ⟨hL, hCL, hML⟩, ⟨hY, hQ⟩, hk, h54⟩, CP_keep rfl rfl hP⟩
  · rw [c2, c3, d2]; exact e8
  · exact e9
set_option maxHeartbeats 4000000 in
set_option maxRecDepth 10000 in
theorem st_guest {N : Nat} {I A : MI} {B J : MJ} {I9 A9 : MI} {B9 J9 : MJ} (v1 : Int32) (v2 : Int32) (hN : N ≤ 1800) (R : Rel N I A B I9 A9 B9) : ∃ (r : Int32) (w : Int32 × Int32), fX8_guest (I 4 2) (I 112 13) (I 112 14) (A 6) (A 121) (A 122) (A 123) v1 v2 = some r ∧ fX9_guest (A9 2) (A9 9) (A9 10) (A9 11) (A9 35) (I9 0 0) v1 v2 = some w ∧ r = w.1 ∧ Rel N (gp I []) (gm A []) (gm B []) (gp I9 [(0, 0, w.2)]) (gm A9 []) (gm B9 []) := by
  obtain ⟨Z, T, S, X, Y, L, NH, NG, o0, o1, o2, o3, ⟨⟨t1, t2, t3, t4⟩, ⟨hT, hC, hM, hR⟩, hNm, ⟨hS, hs, hm⟩, ⟨hX, hH, hH2⟩, ⟨hL, hCL, hML⟩, ⟨hY, hQ⟩, hk, h54⟩, hP⟩ := R
  have c1 := hC.1
  have c2 := hC.2.1
  have c3 := hC.2.2.1
  have c4 := hC.2.2.2.1
  have d1 := hs.1
  have d2 := hs.2.1
  have d3 := hs.2.2.1
  have hC1 := hC
  rw [c1, c2, c3, c4] at hC1
  have hs1 := hs
  rw [d1, d2, d3] at hs1
  obtain ⟨a, e8, h9⟩ := p_guest v1 v2 hT hS hC1 hs1 hM hm
  obtain ⟨w, e9, q9⟩ := h9
  refine ⟨a, w, ?_, ?_, q9.symm, Z, T, S, X, Y, L, NH, NG, o0, o1, o2, o3, ⟨⟨t1, t2, t3, t4⟩, ⟨hT, hC, hM, hR⟩, hNm, ⟨hS, hs, hm⟩, ⟨hX, hH, hH2⟩, ⟨hL, hCL, hML⟩, ⟨hY, hQ⟩, hk, h54⟩, CP_keep rfl rfl hP⟩
  · rw [c2, c3, d1]; exact e8
  · exact e9
set_option maxHeartbeats 4000000 in
set_option maxRecDepth 10000 in
theorem st_lasts {N : Nat} {I A : MI} {B J : MJ} {I9 A9 : MI} {B9 J9 : MJ} (v1 : Int32) (hN : N ≤ 1800) (R : Rel N I A B I9 A9 B9) : ∃ (r : Int32) (w : Int32 × Int32 × (Nat → Int32) × (Nat → Int32)), fX8_lasts (I 4 3) (I 112 4) (I 112 13) (A 5) (A 116) (A 119) v1 = some r ∧ fX9_lasts (I9 0 54) (A9 2) (A9 7) (A9 9) (A9 12) (I9 0 0) (A9 35) (A9 37) v1 = some w ∧ r = w.1 ∧ Rel N (gp I []) (gm A []) (gm B []) (gp I9 [(0, 0, w.2.1)]) (gm A9 [(35, w.2.2.1), (37, w.2.2.2)]) (gm B9 []) := by
  obtain ⟨Z, T, S, X, Y, L, NH, NG, o0, o1, o2, o3, ⟨⟨t1, t2, t3, t4⟩, ⟨hT, hC, hM, hR⟩, hNm, ⟨hS, hs, hm⟩, ⟨hX, hH, hH2⟩, ⟨hL, hCL, hML⟩, ⟨hY, hQ⟩, hk, h54⟩, hP⟩ := R
  have c1 := hC.1
  have c2 := hC.2.1
  have c3 := hC.2.2.1
  have c4 := hC.2.2.2.1
  have d1 := hs.1
  have d2 := hs.2.1
  have d3 := hs.2.2.1
  have hC1 := hC
  rw [c1, c2, c3, c4] at hC1
  have hs1 := hs
  rw [d1, d2, d3] at hs1
  obtain ⟨a, e8, h9⟩ := p_lasts v1 hT hS hN hC1 hs1 hM hm
  obtain ⟨w, e9, q9⟩ := h9
  refine ⟨a, w, ?_, ?_, q9.1.symm, Z, T, S, X, Y, L, NH, NG, o0, o1, o2, o3, ⟨⟨t1, t2, t3, t4⟩, ⟨hT, hC, hM, hR⟩, hNm, ⟨hS, hs, q9.2⟩, ⟨hX, hH, hH2⟩, ⟨hL, hCL, hML⟩, ⟨hY, hQ⟩, hk, h54⟩, CP_keep rfl rfl hP⟩
  · rw [c1, c2, d2]; exact e8
  · rw [h54]; exact e9
set_option maxHeartbeats 4000000 in
set_option maxRecDepth 10000 in
theorem st_safe {N : Nat} {I A : MI} {B J : MJ} {I9 A9 : MI} {B9 J9 : MJ} (v1 : Int32) (hN : N ≤ 1800) (R : Rel N I A B I9 A9 B9) : ∃ (r : Int32) (w : Int32 × Int32 × (Nat → Int32) × (Nat → Int32)), fX8_safe (I 4 3) (I 112 4) (I 112 14) (A 5) (A 6) (A 116) (A 119) (A 121) v1 = some r ∧ fX9_safe (I9 0 54) (A9 2) (A9 7) (A9 9) (A9 12) (I9 0 0) (A9 35) (A9 37) v1 = some w ∧ r = w.1 ∧ Rel N (gp I []) (gm A []) (gm B []) (gp I9 [(0, 0, w.2.1)]) (gm A9 [(35, w.2.2.1), (37, w.2.2.2)]) (gm B9 []) := by
  obtain ⟨Z, T, S, X, Y, L, NH, NG, o0, o1, o2, o3, ⟨⟨t1, t2, t3, t4⟩, ⟨hT, hC, hM, hR⟩, hNm, ⟨hS, hs, hm⟩, ⟨hX, hH, hH2⟩, ⟨hL, hCL, hML⟩, ⟨hY, hQ⟩, hk, h54⟩, hP⟩ := R
  have c1 := hC.1
  have c2 := hC.2.1
  have c3 := hC.2.2.1
  have c4 := hC.2.2.2.1
  have d1 := hs.1
  have d2 := hs.2.1
  have d3 := hs.2.2.1
  have hC1 := hC
  rw [c1, c2, c3, c4] at hC1
  have hs1 := hs
  rw [d1, d2, d3] at hs1
  obtain ⟨a, e8, h9⟩ := p_safe v1 hT hS hN hC1 hs1 hM hm
  obtain ⟨w, e9, q9⟩ := h9
  refine ⟨a, w, ?_, ?_, q9.1.symm, Z, T, S, X, Y, L, NH, NG, o0, o1, o2, o3, ⟨⟨t1, t2, t3, t4⟩, ⟨hT, hC, hM, hR⟩, hNm, ⟨hS, hs, q9.2⟩, ⟨hX, hH, hH2⟩, ⟨hL, hCL, hML⟩, ⟨hY, hQ⟩, hk, h54⟩, CP_keep rfl rfl hP⟩
  · rw [c1, c3, d2]; exact e8
  · rw [h54]; exact e9
set_option maxHeartbeats 4000000 in
set_option maxRecDepth 10000 in
theorem st_refuge {N : Nat} {I A : MI} {B J : MJ} {I9 A9 : MI} {B9 J9 : MJ} (v1 : Int32) (hN : N ≤ 1800) (R : Rel N I A B I9 A9 B9) : ∃ (r : Int32 × Int32 × (Nat → Int32)) (w : Int32 × Int32 × (Nat → Int32) × (Nat → Int32) × (Nat → Int32) × (Nat → Int32) × (Nat → Int32) × (Nat → Int32) × (Nat → Int32) × (Nat → Int32) × (Nat → Int32) × (Nat → Int32) × (Nat → Int32) × (Nat → Int32)), fX8_refuge (I 4 2) (I 4 3) (I 112 4) (I 112 13) (I 112 14) (I 124 4) (A 5) (A 6) (A 116) (A 117) (A 119) (A 121) (A 122) (A 123) (A 125) (I 124 2) (A 126) v1 = some r ∧ fX9_refuge (I9 0 54) (A9 2) (A9 5) (A9 7) (A9 9) (A9 10) (A9 11) (A9 12) (A9 13) (A9 14) (A9 15) (I9 0 0) (A9 18) (A9 19) (A9 20) (A9 21) (A9 22) (A9 23) (A9 24) (A9 25) (A9 26) (A9 27) (A9 35) (A9 37) v1 = some w ∧ r.1 = w.1 ∧ Rel N (gp I [(124, 2, r.2.1)]) (gm A [(126, r.2.2)]) (gm B []) (gp I9 [(0, 0, w.2.1)]) (gm A9 [(18, w.2.2.1), (19, w.2.2.2.1), (20, w.2.2.2.2.1), (21, w.2.2.2.2.2.1), (22, w.2.2.2.2.2.2.1), (23, w.2.2.2.2.2.2.2.1), (24, w.2.2.2.2.2.2.2.2.1), (25, w.2.2.2.2.2.2.2.2.2.1), (26, w.2.2.2.2.2.2.2.2.2.2.1), (27, w.2.2.2.2.2.2.2.2.2.2.2.1), (35, w.2.2.2.2.2.2.2.2.2.2.2.2.1), (37, w.2.2.2.2.2.2.2.2.2.2.2.2.2)]) (gm B9 []) := by
  obtain ⟨Z, T, S, X, Y, L, NH, NG, o0, o1, o2, o3, ⟨⟨t1, t2, t3, t4⟩, ⟨hT, hC, hM, hR⟩, hNm, ⟨hS, hs, hm⟩, ⟨hX, hH, hH2⟩, ⟨hL, hCL, hML⟩, ⟨hY, hQ⟩, hk, h54⟩, hP⟩ := R
  have c1 := hC.1
  have c2 := hC.2.1
  have c3 := hC.2.2.1
  have c4 := hC.2.2.2.1
  have d1 := hs.1
  have d2 := hs.2.1
  have d3 := hs.2.2.1
  have hC1 := hC
  rw [c1, c2, c3, c4] at hC1
  have hs1 := hs
  rw [d1, d2, d3] at hs1
  obtain ⟨a, ⟨r, e8, q8⟩, h9⟩ := p_refuge v1 hT hS hN hC1 hs1 hM hm
  obtain ⟨w, e9, q9⟩ := h9
  refine ⟨r, w, ?_, ?_, q8.trans q9.1.symm, Z, T, S, X, Y, L, NH, NG, o0, o1, o2, o3, ⟨⟨t1, t2, t3, t4⟩, ⟨hT, hC, hM, hR⟩, hNm, ⟨hS, hs, q9.2⟩, ⟨hX, hH, hH2⟩, ⟨hL, hCL, hML⟩, ⟨hY, hQ⟩, hk, h54⟩, CP_keep rfl rfl hP⟩
  · rw [c1, c2, c3, d1, d2]; exact e8
  · rw [h54]; exact e9
set_option maxHeartbeats 4000000 in
set_option maxRecDepth 10000 in
theorem st_sacks {N : Nat} {I A : MI} {B J : MJ} {I9 A9 : MI} {B9 J9 : MJ} (v1 : Int32) (v2 : Int32) (hN : N ≤ 1800) (R : Rel N I A B I9 A9 B9) : ∃ (r : Int32) (w : Int32 × Int32 × Int32 × (Nat → Int32) × (Nat → Int32) × (Nat → Int32) × (Nat → Int32)), fX8_sacks (I 4 2) (I 4 3) (I 112 4) (I 112 13) (I 112 14) (I 112 15) (I 112 17) (A 5) (A 6) (A 116) (A 119) v1 v2 = some r ∧ fX9_sacks (I9 0 54) (A9 2) (A9 7) (A9 9) (A9 12) (I9 0 0) (I9 0 58) (A9 35) (A9 37) (A9 41) (A9 42) v1 v2 = some w ∧ r = w.1 ∧ Rel N (gp I []) (gm A []) (gm B []) (gp I9 [(0, 0, w.2.1), (0, 58, w.2.2.1)]) (gm A9 [(35, w.2.2.2.1), (37, w.2.2.2.2.1), (41, w.2.2.2.2.2.1), (42, w.2.2.2.2.2.2)]) (gm B9 []) := by
  obtain ⟨Z, T, S, X, Y, L, NH, NG, o0, o1, o2, o3, ⟨⟨t1, t2, t3, t4⟩, ⟨hT, hC, hM, hR⟩, hNm, ⟨hS, hs, hm⟩, ⟨hX, hH, hH2⟩, ⟨hL, hCL, hML⟩, ⟨hY, hQ⟩, hk, h54⟩, hP⟩ := R
  have c1 := hC.1
  have c2 := hC.2.1
  have c3 := hC.2.2.1
  have c4 := hC.2.2.2.1
  have d1 := hs.1
  have d2 := hs.2.1
  have d3 := hs.2.2.1
  have hC1 := hC
  rw [c1, c2, c3, c4] at hC1
  have hs1 := hs
  rw [d1, d2, d3] at hs1
  obtain ⟨a, e8, h9⟩ := p_sacks v1 v2 hT hS hN hC1 hs1 hM hm
  obtain ⟨w, e9, q9⟩ := h9
  refine ⟨a, w, ?_, ?_, q9.1.symm, Z, T, S, X, Y, L, NH, NG, o0, o1, o2, o3, ⟨⟨t1, t2, t3, t4⟩, ⟨hT, hC, hM, hR⟩, hNm, ⟨hS, hs, q9.2⟩, ⟨hX, hH, hH2⟩, ⟨hL, hCL, hML⟩, ⟨hY, hQ⟩, hk, h54⟩, CP_keep rfl rfl hP⟩
  · rw [c1, c2, c3, c4, d1, d2]; exact e8
  · rw [h54]; exact e9
set_option maxHeartbeats 4000000 in
set_option maxRecDepth 10000 in
theorem st_lodging {N : Nat} {I A : MI} {B J : MJ} {I9 A9 : MI} {B9 J9 : MJ} (v1 : Int32) (v2 : Int32) (hN : N ≤ 1800) (R : Rel N I A B I9 A9 B9) : ∃ (r : Int32 × Int32 × Int32 × Int32 × Int32 × Int32 × Int32 × Int32 × Int32 × (Nat → Int32) × (Nat → Int32) × (Nat → Int32) × (Nat → Int32) × (Nat → Int32) × (Nat → Int32) × (Nat → Int32)) (w : Int32 × Int32 × Int32 × Int32 × (Nat → Int32) × (Nat → Int32) × (Nat → Int32) × (Nat → Int32) × (Nat → Int32) × (Nat → Int32) × (Nat → Int32) × (Nat → Int32) × (Nat → Int32) × (Nat → Int32) × (Nat → Int32) × (Nat → Int32) × (Nat → Int32) × (Nat → Int32)), fX8_lodging (I 4 2) (I 4 3) (I 4 4) (I 112 4) (I 112 13) (I 112 14) (I 112 17) (I 124 4) (A 5) (A 6) (A 116) (A 117) (A 119) (A 121) (A 122) (A 123) (A 125) (I 7 2) (I 7 3) (I 7 4) (I 13 3) (I 13 4) (I 13 5) (I 13 7) (I 124 2) (A 8) (A 9) (A 14) (A 15) (A 16) (A 17) (A 126) v1 v2 = some r ∧ fX9_lodging (I9 0 54) (A9 2) (A9 5) (A9 7) (A9 9) (A9 10) (A9 11) (A9 12) (A9 13) (A9 14) (A9 15) (I9 0 0) (I9 0 59) (I9 0 60) (A9 18) (A9 19) (A9 20) (A9 21) (A9 22) (A9 23) (A9 24) (A9 25) (A9 26) (A9 27) (A9 35) (A9 37) (A9 41) (A9 42) v1 v2 = some w ∧ r.1 = w.1 ∧ Rel N (gp I [(7, 2, r.2.1), (7, 3, r.2.2.1), (7, 4, r.2.2.2.1), (13, 3, r.2.2.2.2.1), (13, 4, r.2.2.2.2.2.1), (13, 5, r.2.2.2.2.2.2.1), (13, 7, r.2.2.2.2.2.2.2.1), (124, 2, r.2.2.2.2.2.2.2.2.1)]) (gm A [(8, r.2.2.2.2.2.2.2.2.2.1), (9, r.2.2.2.2.2.2.2.2.2.2.1), (14, r.2.2.2.2.2.2.2.2.2.2.2.1), (15, r.2.2.2.2.2.2.2.2.2.2.2.2.1), (16, r.2.2.2.2.2.2.2.2.2.2.2.2.2.1), (17, r.2.2.2.2.2.2.2.2.2.2.2.2.2.2.1), (126, r.2.2.2.2.2.2.2.2.2.2.2.2.2.2.2)]) (gm B []) (gp I9 [(0, 0, w.2.1), (0, 59, w.2.2.1), (0, 60, w.2.2.2.1)]) (gm A9 [(18, w.2.2.2.2.1), (19, w.2.2.2.2.2.1), (20, w.2.2.2.2.2.2.1), (21, w.2.2.2.2.2.2.2.1), (22, w.2.2.2.2.2.2.2.2.1), (23, w.2.2.2.2.2.2.2.2.2.1), (24, w.2.2.2.2.2.2.2.2.2.2.1), (25, w.2.2.2.2.2.2.2.2.2.2.2.1), (26, w.2.2.2.2.2.2.2.2.2.2.2.2.1), (27, w.2.2.2.2.2.2.2.2.2.2.2.2.2.1), (35, w.2.2.2.2.2.2.2.2.2.2.2.2.2.2.1), (37, w.2.2.2.2.2.2.2.2.2.2.2.2.2.2.2.1), (41, w.2.2.2.2.2.2.2.2.2.2.2.2.2.2.2.2.1), (42, w.2.2.2.2.2.2.2.2.2.2.2.2.2.2.2.2.2)]) (gm B9 []) := by
  obtain ⟨Z, T, S, X, Y, L, NH, NG, o0, o1, o2, o3, ⟨⟨t1, t2, t3, t4⟩, ⟨hT, hC, hM, hR⟩, hNm, ⟨hS, hs, hm⟩, ⟨hX, hH, hH2⟩, ⟨hL, hCL, hML⟩, ⟨hY, hQ⟩, hk, h54⟩, hP⟩ := R
  have c1 := hC.1
  have c2 := hC.2.1
  have c3 := hC.2.2.1
  have c4 := hC.2.2.2.1
  have d1 := hs.1
  have d2 := hs.2.1
  have d3 := hs.2.2.1
  have hC1 := hC
  rw [c1, c2, c3, c4] at hC1
  have hs1 := hs
  rw [d1, d2, d3] at hs1
  obtain ⟨a, ⟨r, e8, q8⟩, h9⟩ := p_lodging v1 v2 hT hS hN hC1 hs1 hM hm
  obtain ⟨w, e9, q9⟩ := h9
  refine ⟨r, w, ?_, ?_, q8.trans q9.1.symm, Z, T, S, X, Y, L, NH, NG, o0, o1, o2, o3, ⟨⟨t1, t2, t3, t4⟩, ⟨hT, hC, hM, hR⟩, hNm, ⟨hS, hs, q9.2⟩, ⟨hX, hH, hH2⟩, ⟨hL, hCL, hML⟩, ⟨hY, hQ⟩, hk, h54⟩, CP_keep rfl rfl hP⟩
  · rw [c1, c2, c3, d1, d2, d3]; exact e8
  · rw [h54]; exact e9
set_option maxHeartbeats 4000000 in
set_option maxRecDepth 10000 in
theorem st_note {N : Nat} {I A : MI} {B J : MJ} {I9 A9 : MI} {B9 J9 : MJ} (v1 : Int32) (v2 : Int32) (hN : N ≤ 1800) (R : Rel N I A B I9 A9 B9) : ∃ (r : Int32) (w : Int32 × Int32), fX8_note (I 112 13) (A 120) v1 v2 = some r ∧ fX9_note (A9 2) (A9 8) (I9 0 0) v1 v2 = some w ∧ r = w.1 ∧ Rel N (gp I []) (gm A []) (gm B []) (gp I9 [(0, 0, w.2)]) (gm A9 []) (gm B9 []) := by
  obtain ⟨Z, T, S, X, Y, L, NH, NG, o0, o1, o2, o3, ⟨⟨t1, t2, t3, t4⟩, ⟨hT, hC, hM, hR⟩, hNm, ⟨hS, hs, hm⟩, ⟨hX, hH, hH2⟩, ⟨hL, hCL, hML⟩, ⟨hY, hQ⟩, hk, h54⟩, hP⟩ := R
  have c1 := hC.1
  have c2 := hC.2.1
  have c3 := hC.2.2.1
  have c4 := hC.2.2.2.1
  have d1 := hs.1
  have d2 := hs.2.1
  have d3 := hs.2.2.1
  have hC1 := hC
  rw [c1, c2, c3, c4] at hC1
  have hs1 := hs
  rw [d1, d2, d3] at hs1
  obtain ⟨a, e8, h9⟩ := p_note v1 v2 hT hC1 hM
  obtain ⟨w, e9, q9⟩ := h9
  refine ⟨a, w, ?_, ?_, q9.symm, Z, T, S, X, Y, L, NH, NG, o0, o1, o2, o3, ⟨⟨t1, t2, t3, t4⟩, ⟨hT, hC, hM, hR⟩, hNm, ⟨hS, hs, hm⟩, ⟨hX, hH, hH2⟩, ⟨hL, hCL, hML⟩, ⟨hY, hQ⟩, hk, h54⟩, CP_keep rfl rfl hP⟩
  · rw [c2]; exact e8
  · exact e9
set_option maxHeartbeats 4000000 in
set_option maxRecDepth 10000 in
theorem st_full {N : Nat} {I A : MI} {B J : MJ} {I9 A9 : MI} {B9 J9 : MJ} (hN : N ≤ 1800) (R : Rel N I A B I9 A9 B9) : ∃ (r : Int32 × Int32 × (Nat → Int32)) (w : Int32 × Int32 × (Nat → Int32) × (Nat → Int32) × (Nat → Int32) × (Nat → Int32) × (Nat → Int32) × (Nat → Int32) × (Nat → Int32) × (Nat → Int32) × (Nat → Int32) × (Nat → Int32)), fX8_full (I 4 2) (I 4 3) (I 112 13) (I 112 14) (I 124 4) (A 5) (A 6) (A 117) (A 121) (A 122) (A 123) (A 125) (I 124 2) (A 126) = some r ∧ fX9_full (A9 2) (A9 5) (A9 9) (A9 10) (A9 11) (A9 13) (A9 14) (A9 15) (A9 35) (I9 0 0) (A9 18) (A9 19) (A9 20) (A9 21) (A9 22) (A9 23) (A9 24) (A9 25) (A9 26) (A9 27) = some w ∧ r.1 = w.1 ∧ Rel N (gp I [(124, 2, r.2.1)]) (gm A [(126, r.2.2)]) (gm B []) (gp I9 [(0, 0, w.2.1)]) (gm A9 [(18, w.2.2.1), (19, w.2.2.2.1), (20, w.2.2.2.2.1), (21, w.2.2.2.2.2.1), (22, w.2.2.2.2.2.2.1), (23, w.2.2.2.2.2.2.2.1), (24, w.2.2.2.2.2.2.2.2.1), (25, w.2.2.2.2.2.2.2.2.2.1), (26, w.2.2.2.2.2.2.2.2.2.2.1), (27, w.2.2.2.2.2.2.2.2.2.2.2)]) (gm B9 []) := by
  obtain ⟨Z, T, S, X, Y, L, NH, NG, o0, o1, o2, o3, ⟨⟨t1, t2, t3, t4⟩, ⟨hT, hC, hM, hR⟩, hNm, ⟨hS, hs, hm⟩, ⟨hX, hH, hH2⟩, ⟨hL, hCL, hML⟩, ⟨hY, hQ⟩, hk, h54⟩, hP⟩ := R
  have c1 := hC.1
  have c2 := hC.2.1
  have c3 := hC.2.2.1
  have c4 := hC.2.2.2.1
  have d1 := hs.1
  have d2 := hs.2.1
  have d3 := hs.2.2.1
  have hC1 := hC
  rw [c1, c2, c3, c4] at hC1
  have hs1 := hs
  rw [d1, d2, d3] at hs1
  obtain ⟨a, ⟨r, e8, q8⟩, h9⟩ := p_full hT hS hC1 hs1 hM hm
  obtain ⟨w, e9, q9⟩ := h9
  refine ⟨r, w, ?_, ?_, q8.trans q9.symm, Z, T, S, X, Y, L, NH, NG, o0, o1, o2, o3, ⟨⟨t1, t2, t3, t4⟩, ⟨hT, hC, hM, hR⟩, hNm, ⟨hS, hs, hm⟩, ⟨hX, hH, hH2⟩, ⟨hL, hCL, hML⟩, ⟨hY, hQ⟩, hk, h54⟩, CP_keep rfl rfl hP⟩
  · rw [c2, c3, d1, d2]; exact e8
  · exact e9
set_option maxHeartbeats 4000000 in
set_option maxRecDepth 10000 in
theorem st_pairs {N : Nat} {I A : MI} {B J : MJ} {I9 A9 : MI} {B9 J9 : MJ} (hN : N ≤ 1800) (R : Rel N I A B I9 A9 B9) : ∃ (r : Int32) (w : Int32 × Int32), fX8_pairs (I 112 14) (A 123) = some r ∧ fX9_pairs (A9 2) (A9 10) (A9 11) (I9 0 0) = some w ∧ r = w.1 ∧ Rel N (gp I []) (gm A []) (gm B []) (gp I9 [(0, 0, w.2)]) (gm A9 []) (gm B9 []) := by
  obtain ⟨Z, T, S, X, Y, L, NH, NG, o0, o1, o2, o3, ⟨⟨t1, t2, t3, t4⟩, ⟨hT, hC, hM, hR⟩, hNm, ⟨hS, hs, hm⟩, ⟨hX, hH, hH2⟩, ⟨hL, hCL, hML⟩, ⟨hY, hQ⟩, hk, h54⟩, hP⟩ := R
  have c1 := hC.1
  have c2 := hC.2.1
  have c3 := hC.2.2.1
  have c4 := hC.2.2.2.1
  have d1 := hs.1
  have d2 := hs.2.1
  have d3 := hs.2.2.1
  have hC1 := hC
  rw [c1, c2, c3, c4] at hC1
  have hs1 := hs
  rw [d1, d2, d3] at hs1
  obtain ⟨e8, h9⟩ := p_pairs hT hC1 hM
  obtain ⟨w, e9, q9⟩ := h9
  refine ⟨nI (prs (twr T) (tG T)), w, ?_, ?_, q9.symm, Z, T, S, X, Y, L, NH, NG, o0, o1, o2, o3, ⟨⟨t1, t2, t3, t4⟩, ⟨hT, hC, hM, hR⟩, hNm, ⟨hS, hs, hm⟩, ⟨hX, hH, hH2⟩, ⟨hL, hCL, hML⟩, ⟨hY, hQ⟩, hk, h54⟩, CP_keep rfl rfl hP⟩
  · rw [c3]; exact e8
  · exact e9
set_option maxHeartbeats 4000000 in
set_option maxRecDepth 10000 in
theorem st_line {N : Nat} {I A : MI} {B J : MJ} {I9 A9 : MI} {B9 J9 : MJ} (v1 : Int32) (v2 : Int32) (hN : N ≤ 1800) (R : Rel N I A B I9 A9 B9) : ∃ (r : Int32) (w : Int32 × Int32 × (Nat → Int32) × (Nat → Int32)), fX8_line (I 4 3) (I 112 4) (I 112 14) (A 5) (A 6) (A 116) (A 119) (A 123) v1 v2 = some r ∧ fX9_line (I9 0 54) (A9 2) (A9 7) (A9 9) (A9 10) (A9 11) (A9 12) (I9 0 0) (A9 35) (A9 37) v1 v2 = some w ∧ r = w.1 ∧ Rel N (gp I []) (gm A []) (gm B []) (gp I9 [(0, 0, w.2.1)]) (gm A9 [(35, w.2.2.1), (37, w.2.2.2)]) (gm B9 []) := by
  obtain ⟨Z, T, S, X, Y, L, NH, NG, o0, o1, o2, o3, ⟨⟨t1, t2, t3, t4⟩, ⟨hT, hC, hM, hR⟩, hNm, ⟨hS, hs, hm⟩, ⟨hX, hH, hH2⟩, ⟨hL, hCL, hML⟩, ⟨hY, hQ⟩, hk, h54⟩, hP⟩ := R
  have c1 := hC.1
  have c2 := hC.2.1
  have c3 := hC.2.2.1
  have c4 := hC.2.2.2.1
  have d1 := hs.1
  have d2 := hs.2.1
  have d3 := hs.2.2.1
  have hC1 := hC
  rw [c1, c2, c3, c4] at hC1
  have hs1 := hs
  rw [d1, d2, d3] at hs1
  obtain ⟨a, e8, h9⟩ := p_line v1 v2 hT hS hN hC1 hs1 hM hm
  obtain ⟨w, e9, q9⟩ := h9
  refine ⟨a, w, ?_, ?_, q9.1.symm, Z, T, S, X, Y, L, NH, NG, o0, o1, o2, o3, ⟨⟨t1, t2, t3, t4⟩, ⟨hT, hC, hM, hR⟩, hNm, ⟨hS, hs, q9.2⟩, ⟨hX, hH, hH2⟩, ⟨hL, hCL, hML⟩, ⟨hY, hQ⟩, hk, h54⟩, CP_keep rfl rfl hP⟩
  · rw [c1, c3, d2]; exact e8
  · rw [h54]; exact e9
set_option maxHeartbeats 4000000 in
set_option maxRecDepth 10000 in
theorem st_coals {N : Nat} {I A : MI} {B J : MJ} {I9 A9 : MI} {B9 J9 : MJ} (v1 : Int32) (hN : N ≤ 1800) (R : Rel N I A B I9 A9 B9) : ∃ (r : Int32 × Int32 × Int32) (w : Int32 × Int32), fX8_coals (I 4 3) (I 10 2) (I 112 4) (A 11) (A 12) (A 116) (I 10 3) (I 10 4) v1 = some r ∧ fX9_coals (A9 2) (A9 12) (A9 32) (A9 33) (A9 34) (A9 35) (I9 0 0) v1 = some w ∧ r.1 = w.1 ∧ Rel N (gp I [(10, 3, r.2.1), (10, 4, r.2.2)]) (gm A []) (gm B []) (gp I9 [(0, 0, w.2)]) (gm A9 []) (gm B9 []) := by
  obtain ⟨Z, T, S, X, Y, L, NH, NG, o0, o1, o2, o3, ⟨⟨t1, t2, t3, t4⟩, ⟨hT, hC, hM, hR⟩, hNm, ⟨hS, hs, hm⟩, ⟨hX, hH, hH2⟩, ⟨hL, hCL, hML⟩, ⟨hY, hQ⟩, hk, h54⟩, hP⟩ := R
  have c1 := hC.1
  have c2 := hC.2.1
  have c3 := hC.2.2.1
  have c4 := hC.2.2.2.1
  have d1 := hs.1
  have d2 := hs.2.1
  have d3 := hs.2.2.1
  have hC1 := hC
  rw [c1, c2, c3, c4] at hC1
  have hs1 := hs
  rw [d1, d2, d3] at hs1
  obtain ⟨a, ⟨r, e8, q8⟩, h9⟩ := p_coals (v1 := v1) hT (Nat.le_trans hS.1 (by omega)) hX hC.2.2.2.2.2.2.1 hH hM.2.2.2.1 hM.2.2.2.2.1 hm hH2
  obtain ⟨w, e9, q9⟩ := h9
  refine ⟨r, w, ?_, ?_, q8.trans q9.symm, Z, T, S, X, Y, L, NH, NG, o0, o1, o2, o3, ⟨⟨t1, t2, t3, t4⟩, ⟨hT, hC, hM, hR⟩, hNm, ⟨hS, hs, hm⟩, ⟨hX, hH, hH2⟩, ⟨hL, hCL, hML⟩, ⟨hY, hQ⟩, hk, h54⟩, CP_keep rfl rfl hP⟩
  · rw [c1, d2]; exact e8
  · exact e9
set_option maxHeartbeats 4000000 in
set_option maxRecDepth 10000 in
theorem st_ask {N : Nat} {I A : MI} {B J : MJ} {I9 A9 : MI} {B9 J9 : MJ} (hN : N ≤ 1800) (R : Rel N I A B I9 A9 B9) : ∃ (r : Int32 × Int32 × Int32) (w : Int32 × Int32), fX8_ask (I 4 3) (I 10 2) (I 112 4) (A 11) (A 12) (A 116) (I 10 3) (I 10 4) = some r ∧ fX9_ask (A9 2) (A9 12) (A9 32) (A9 33) (A9 34) (A9 35) (I9 0 0) = some w ∧ r.1 = w.1 ∧ Rel N (gp I [(10, 3, r.2.1), (10, 4, r.2.2)]) (gm A []) (gm B []) (gp I9 [(0, 0, w.2)]) (gm A9 []) (gm B9 []) := by
  obtain ⟨Z, T, S, X, Y, L, NH, NG, o0, o1, o2, o3, ⟨⟨t1, t2, t3, t4⟩, ⟨hT, hC, hM, hR⟩, hNm, ⟨hS, hs, hm⟩, ⟨hX, hH, hH2⟩, ⟨hL, hCL, hML⟩, ⟨hY, hQ⟩, hk, h54⟩, hP⟩ := R
  have c1 := hC.1
  have c2 := hC.2.1
  have c3 := hC.2.2.1
  have c4 := hC.2.2.2.1
  have d1 := hs.1
  have d2 := hs.2.1
  have d3 := hs.2.2.1
  have hC1 := hC
  rw [c1, c2, c3, c4] at hC1
  have hs1 := hs
  rw [d1, d2, d3] at hs1
  obtain ⟨a, ⟨r, e8, q8⟩, h9⟩ := p_ask hT (Nat.le_trans hS.1 (by omega)) hX hC.2.2.2.2.2.2.1 hH hM.2.2.2.1 hM.2.2.2.2.1 hm hH2
  obtain ⟨w, e9, q9⟩ := h9
  refine ⟨r, w, ?_, ?_, q8.trans q9.symm, Z, T, S, X, Y, L, NH, NG, o0, o1, o2, o3, ⟨⟨t1, t2, t3, t4⟩, ⟨hT, hC, hM, hR⟩, hNm, ⟨hS, hs, hm⟩, ⟨hX, hH, hH2⟩, ⟨hL, hCL, hML⟩, ⟨hY, hQ⟩, hk, h54⟩, CP_keep rfl rfl hP⟩
  · rw [c1, d2]; exact e8
  · exact e9
set_option maxHeartbeats 4000000 in
set_option maxRecDepth 10000 in
theorem st_colder {N : Nat} {I A : MI} {B J : MJ} {I9 A9 : MI} {B9 J9 : MJ} (v1 : Int32) (v2 : Int32) (hN : N ≤ 1800) (R : Rel N I A B I9 A9 B9) : ∃ (r : Int32) (w : Int32 × Int32 × Int32 × (Nat → Int32) × (Nat → Int32)), fX8_colder (I 4 2) (I 4 3) (I 112 4) (I 112 13) (I 112 14) (I 112 17) (A 5) (A 6) (A 116) (A 119) v1 v2 = some r ∧ fX9_colder (A9 2) (A9 7) (A9 9) (A9 12) (I9 0 0) (I9 0 54) (A9 35) (A9 37) v1 v2 = some w ∧ r = w.1 ∧ Rel N (gp I []) (gm A []) (gm B []) (gp I9 [(0, 0, w.2.1), (0, 54, w.2.2.1)]) (gm A9 [(35, w.2.2.2.1), (37, w.2.2.2.2)]) (gm B9 []) := by
  obtain ⟨Z, T, S, X, Y, L, NH, NG, o0, o1, o2, o3, ⟨⟨t1, t2, t3, t4⟩, ⟨hT, hC, hM, hR⟩, hNm, ⟨hS, hs, hm⟩, ⟨hX, hH, hH2⟩, ⟨hL, hCL, hML⟩, ⟨hY, hQ⟩, hk, h54⟩, hP⟩ := R
  have c1 := hC.1
  have c2 := hC.2.1
  have c3 := hC.2.2.1
  have c4 := hC.2.2.2.1
  have d1 := hs.1
  have d2 := hs.2.1
  have d3 := hs.2.2.1
  have hC1 := hC
  rw [c1, c2, c3, c4] at hC1
  have hs1 := hs
  rw [d1, d2, d3] at hs1
  obtain ⟨a, e8, h9⟩ := p_colder (m0 := 0) v1 v2 hT hS hN hC1 hs1 hM hm
  obtain ⟨w, e9, q9⟩ := h9
  refine ⟨a, w, ?_, ?_, q9.1.symm, Z, T, S, X, Y, L, NH, NG, o0, o1, o2, o3, ⟨⟨t1, t2, t3, t4⟩, ⟨hT, hC, hM, hR⟩, hNm, ⟨hS, hs, q9.2.2⟩, ⟨hX, hH, hH2⟩, ⟨hL, hCL, hML⟩, ⟨hY, hQ⟩, hk, q9.2.1⟩, CP_keep rfl rfl hP⟩
  · rw [c1, c2, c3, d1, d2]; exact e8
  · rw [h54]; exact e9
set_option maxHeartbeats 4000000 in
set_option maxRecDepth 10000 in
theorem st_winters {N : Nat} {I A : MI} {B J : MJ} {I9 A9 : MI} {B9 J9 : MJ} (v1 : Int32) (v2 : Int32) (v3 : Int32) (hN : N ≤ 1800) (R : Rel N I A B I9 A9 B9) : ∃ (r : Int32 × Int32 × Int32 × Int32 × Int32 × Int64 × (Nat → Int32) × (Nat → Int32) × (Nat → Int32)) (w : Int32 × Int32 × Int64 × (Nat → Int32) × (Nat → Int32) × (Nat → Int32) × (Nat → Int32) × (Nat → Int32) × (Nat → Int32) × (Nat → Int32) × (Nat → Int32) × (Nat → Int32) × (Nat → Int32) × (Nat → Int32) × (Nat → Int32)), fX8_winters (I 4 2) (I 4 3) (I 4 4) (I 112 4) (I 112 13) (I 112 14) (I 112 15) (I 112 16) (I 112 17) (I 124 4) (A 5) (A 6) (A 116) (A 117) (A 119) (A 120) (A 121) (A 122) (A 123) (A 125) (I 7 2) (I 7 3) (I 7 4) (I 124 2) (J 0 13) (A 8) (A 9) (A 126) v1 v2 v3 = some r ∧ fX9_winters (I9 0 54) (A9 2) (A9 5) (A9 7) (A9 8) (A9 9) (A9 10) (A9 11) (A9 12) (A9 13) (A9 14) (A9 15) (I9 0 0) (J9 0 61) (A9 18) (A9 19) (A9 20) (A9 21) (A9 22) (A9 23) (A9 24) (A9 25) (A9 26) (A9 27) (A9 35) (A9 36) v1 v2 v3 = some w ∧ r.1 = w.1 ∧ Rel N (gp I [(7, 2, r.2.1), (7, 3, r.2.2.1), (7, 4, r.2.2.2.1), (124, 2, r.2.2.2.2.1)]) (gm A [(8, r.2.2.2.2.2.2.1), (9, r.2.2.2.2.2.2.2.1), (126, r.2.2.2.2.2.2.2.2)]) (gm B []) (gp I9 [(0, 0, w.2.1)]) (gm A9 [(18, w.2.2.2.1), (19, w.2.2.2.2.1), (20, w.2.2.2.2.2.1), (21, w.2.2.2.2.2.2.1), (22, w.2.2.2.2.2.2.2.1), (23, w.2.2.2.2.2.2.2.2.1), (24, w.2.2.2.2.2.2.2.2.2.1), (25, w.2.2.2.2.2.2.2.2.2.2.1), (26, w.2.2.2.2.2.2.2.2.2.2.2.1), (27, w.2.2.2.2.2.2.2.2.2.2.2.2.1), (35, w.2.2.2.2.2.2.2.2.2.2.2.2.2.1), (36, w.2.2.2.2.2.2.2.2.2.2.2.2.2.2)]) (gm B9 []) := by
  obtain ⟨Z, T, S, X, Y, L, NH, NG, o0, o1, o2, o3, ⟨⟨t1, t2, t3, t4⟩, ⟨hT, hC, hM, hR⟩, hNm, ⟨hS, hs, hm⟩, ⟨hX, hH, hH2⟩, ⟨hL, hCL, hML⟩, ⟨hY, hQ⟩, hk, h54⟩, hP⟩ := R
  have c1 := hC.1
  have c2 := hC.2.1
  have c3 := hC.2.2.1
  have c4 := hC.2.2.2.1
  have d1 := hs.1
  have d2 := hs.2.1
  have d3 := hs.2.2.1
  have hC1 := hC
  rw [c1, c2, c3, c4] at hC1
  have hs1 := hs
  rw [d1, d2, d3] at hs1
  obtain ⟨a, ⟨r, e8, q8⟩, h9⟩ := p_winters v1 v2 v3 hT hS hN hC1 hs1 hM hm
  obtain ⟨w, e9, q9⟩ := h9
  refine ⟨r, w, ?_, ?_, q8.trans q9.1.symm, Z, T, S, X, Y, L, NH, NG, o0, o1, o2, o3, ⟨⟨t1, t2, t3, t4⟩, ⟨hT, hC, hM, hR⟩, hNm, ⟨hS, hs, q9.2⟩, ⟨hX, hH, hH2⟩, ⟨hL, hCL, hML⟩, ⟨hY, hQ⟩, hk, h54⟩, CP_keep rfl rfl hP⟩
  · rw [c1, c2, c3, c4, d1, d2, d3]; exact e8
  · rw [h54]; exact e9
set_option maxHeartbeats 4000000 in
set_option maxRecDepth 10000 in
theorem st_judged {N : Nat} {I A : MI} {B J : MJ} {I9 A9 : MI} {B9 J9 : MJ} (v1 : Int32) (hN : N ≤ 1800) (R : Rel N I A B I9 A9 B9) : ∃ (r : Int32 × Int32 × Int32 × Int32 × Int32 × (Nat → Int32) × (Nat → Int32) × (Nat → Int32)) (w : Int32 × Int32 × Int32 × (Nat → Int32) × (Nat → Int32) × (Nat → Int32) × (Nat → Int32) × (Nat → Int32) × (Nat → Int32) × (Nat → Int32) × (Nat → Int32) × (Nat → Int32) × (Nat → Int32) × (Nat → Int32) × (Nat → Int32)), fX8_judged (I 112 4) (I 112 13) (I 112 14) (I 112 15) (I 112 16) (I 112 17) (I 124 4) (I 142 3) (A 116) (A 117) (A 118) (A 119) (A 120) (A 121) (A 122) (A 123) (A 125) (A 143) (A 144) (A 145) (I 7 2) (I 7 3) (I 7 4) (I 124 2) (A 8) (A 9) (A 126) v1 = some r ∧ fX9_judged (I9 0 54) (A9 2) (A9 5) (A9 6) (A9 7) (A9 8) (A9 9) (A9 10) (A9 11) (A9 12) (A9 13) (A9 14) (A9 15) (A9 28) (A9 29) (A9 30) (A9 31) (I9 0 0) (I9 0 55) (A9 18) (A9 19) (A9 20) (A9 21) (A9 22) (A9 23) (A9 24) (A9 25) (A9 26) (A9 27) (A9 35) (A9 36) v1 = some w ∧ r.1 = w.1 ∧ Rel N (gp I [(7, 2, r.2.1), (7, 3, r.2.2.1), (7, 4, r.2.2.2.1), (124, 2, r.2.2.2.2.1)]) (gm A [(8, r.2.2.2.2.2.1), (9, r.2.2.2.2.2.2.1), (126, r.2.2.2.2.2.2.2)]) (gm B []) (gp I9 [(0, 0, w.2.1), (0, 55, w.2.2.1)]) (gm A9 [(18, w.2.2.2.1), (19, w.2.2.2.2.1), (20, w.2.2.2.2.2.1), (21, w.2.2.2.2.2.2.1), (22, w.2.2.2.2.2.2.2.1), (23, w.2.2.2.2.2.2.2.2.1), (24, w.2.2.2.2.2.2.2.2.2.1), (25, w.2.2.2.2.2.2.2.2.2.2.1), (26, w.2.2.2.2.2.2.2.2.2.2.2.1), (27, w.2.2.2.2.2.2.2.2.2.2.2.2.1), (35, w.2.2.2.2.2.2.2.2.2.2.2.2.2.1), (36, w.2.2.2.2.2.2.2.2.2.2.2.2.2.2)]) (gm B9 []) := by
  obtain ⟨Z, T, S, X, Y, L, NH, NG, o0, o1, o2, o3, ⟨⟨t1, t2, t3, t4⟩, ⟨hT, hC, hM, hR⟩, hNm, ⟨hS, hs, hm⟩, ⟨hX, hH, hH2⟩, ⟨hL, hCL, hML⟩, ⟨hY, hQ⟩, hk, h54⟩, hP⟩ := R
  have c1 := hC.1
  have c2 := hC.2.1
  have c3 := hC.2.2.1
  have c4 := hC.2.2.2.1
  have d1 := hs.1
  have d2 := hs.2.1
  have d3 := hs.2.2.1
  have hC1 := hC
  rw [c1, c2, c3, c4] at hC1
  have hs1 := hs
  rw [d1, d2, d3] at hs1
  obtain ⟨a, ⟨r, e8, q8⟩, h9⟩ := p_judged v1 hT hL hC1 hCL hM hm hML
  obtain ⟨w, e9, q9⟩ := h9
  refine ⟨r, w, ?_, ?_, q8.trans q9.1.symm, Z, T, S, X, Y, L, NH, NG, o0, o1, o2, o3, ⟨⟨t1, t2, t3, t4⟩, ⟨hT, hC, hM, hR⟩, hNm, ⟨hS, hs, q9.2⟩, ⟨hX, hH, hH2⟩, ⟨hL, hCL, hML⟩, ⟨hY, hQ⟩, hk, h54⟩, CP_keep rfl rfl hP⟩
  · rw [c1, c2, c3, c4]; exact e8
  · rw [h54]; exact e9
set_option maxHeartbeats 4000000 in
set_option maxRecDepth 10000 in
theorem st_count {N : Nat} {I A : MI} {B J : MJ} {I9 A9 : MI} {B9 J9 : MJ} (v1 : Int32) (hN : N ≤ 1800) (R : Rel N I A B I9 A9 B9) : ∃ (r : Int32) (w : Int32 × Int32), fX8_count (I 0 12) (I 1 6) (I 4 2) (I 4 3) (I 4 4) (I 10 2) (I 112 4) (I 112 13) (I 112 14) (I 112 15) (I 142 3) (A 5) (A 6) (A 116) v1 = some r ∧ fX9_count (I9 0 1) (I9 0 53) (A9 2) (A9 12) (A9 28) (A9 32) (A9 35) (I9 0 0) v1 = some w ∧ r = w.1 ∧ Rel N (gp I []) (gm A []) (gm B []) (gp I9 [(0, 0, w.2)]) (gm A9 []) (gm B9 []) := by
  obtain ⟨Z, T, S, X, Y, L, NH, NG, o0, o1, o2, o3, ⟨⟨t1, t2, t3, t4⟩, ⟨hT, hC, hM, hR⟩, hNm, ⟨hS, hs, hm⟩, ⟨hX, hH, hH2⟩, ⟨hL, hCL, hML⟩, ⟨hY, hQ⟩, hk, h54⟩, hP⟩ := R
  have c1 := hC.1
  have c2 := hC.2.1
  have c3 := hC.2.2.1
  have c4 := hC.2.2.2.1
  have d1 := hs.1
  have d2 := hs.2.1
  have d3 := hs.2.2.1
  have hC1 := hC
  rw [c1, c2, c3, c4] at hC1
  have hs1 := hs
  rw [d1, d2, d3] at hs1
  have g1 : A9 28 0 = I 142 3 := hML.1.trans hCL.1.symm
  have g2 : A9 32 0 = I 10 2 := hH2.1.trans hH.1.symm
  have g3 : I9 0 1 = I 1 6 := t4.1.trans t2.1.symm
  have g4 : I9 0 53 = I 0 12 := hQ.1.trans (CP_num hP).symm
  obtain ⟨a, e8, h9⟩ := p_count (done := 0) v1 hT hS hN hC1 hs1 hM hm g1 g2
  obtain ⟨w, e9, q9⟩ := h9
  refine ⟨a, w, ?_, ?_, q9.symm, Z, T, S, X, Y, L, NH, NG, o0, o1, o2, o3, ⟨⟨t1, t2, t3, t4⟩, ⟨hT, hC, hM, hR⟩, hNm, ⟨hS, hs, hm⟩, ⟨hX, hH, hH2⟩, ⟨hL, hCL, hML⟩, ⟨hY, hQ⟩, hk, h54⟩, CP_keep rfl rfl hP⟩
  · rw [c1, c2, c3, c4, d1, d2, d3]; exact e8
  · rw [g3, g4]; exact e9
