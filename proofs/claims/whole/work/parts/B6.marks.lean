/-! a step of mark -/
set_option maxHeartbeats 4000000 in
set_option maxRecDepth 10000 in
theorem st_mark0 {N : Nat} {I A : MI} {B J : MJ} {I9 A9 : MI} {B9 J9 : MJ} (b : Bool) (R : Rel N I A B I9 A9 B9) : ∃ (r : Int32 × Int32 × Int32 × Int32 × Int32 × Int32 × Int32 × Int32 × Int32 × Int32 × Int32 × Int32 × Int32 × (Nat → Int32) × (Nat → Int32) × (Nat → Int32) × (Nat → Int32) × (Nat → Int32) × (Nat → Int32) × (Nat → Int32) × (Nat → Int32) × (Nat → Int32) × (Nat → Int32) × (Nat → Int32) × (Nat → Int32) × (Nat → Int32) × (Nat → Int32)) (w : Int32 × Int32 × Int32 × (Nat → Int32) × (Nat → Int32) × (Nat → Int32) × (Nat → Int32) × (Nat → Int32) × (Nat → Int32) × (Nat → Int32) × (Nat → Int32) × (Nat → Int32) × (Nat → Int32)), fX8_mark0 (I 0 12) (I 4 2) (I 4 3) (I 4 4) (I 10 2) (I 19 3) (I 20 2) (I 20 3) (I 20 4) (I 23 3) (I 27 2) (I 142 3) (A 5) (A 6) (A 11) (A 12) (A 21) (A 22) (A 24) (A 25) (A 26) (A 28) (A 29) (A 143) (A 144) (A 145) (nI (b2 b)) = some r ∧ fX9_mark (I9 0 0) (I9 0 53) (A9 28) (A9 29) (A9 30) (A9 31) (A9 32) (A9 33) (A9 34) (A9 35) (A9 38) (A9 40) 0 (nI (b2 b)) = some w ∧ r.1 = w.1 ∧ Rel N (gp I [(0, 12, r.2.1), (4, 2, r.2.2.1), (4, 3, r.2.2.2.1), (4, 4, r.2.2.2.2.1), (10, 2, r.2.2.2.2.2.1), (19, 3, r.2.2.2.2.2.2.1), (20, 2, r.2.2.2.2.2.2.2.1), (20, 3, r.2.2.2.2.2.2.2.2.1), (20, 4, r.2.2.2.2.2.2.2.2.2.1), (23, 3, r.2.2.2.2.2.2.2.2.2.2.1), (27, 2, r.2.2.2.2.2.2.2.2.2.2.2.1), (142, 3, r.2.2.2.2.2.2.2.2.2.2.2.2.1)]) (gm A [(5, r.2.2.2.2.2.2.2.2.2.2.2.2.2.1), (6, r.2.2.2.2.2.2.2.2.2.2.2.2.2.2.1), (11, r.2.2.2.2.2.2.2.2.2.2.2.2.2.2.2.1), (12, r.2.2.2.2.2.2.2.2.2.2.2.2.2.2.2.2.1), (21, r.2.2.2.2.2.2.2.2.2.2.2.2.2.2.2.2.2.1), (22, r.2.2.2.2.2.2.2.2.2.2.2.2.2.2.2.2.2.2.1), (24, r.2.2.2.2.2.2.2.2.2.2.2.2.2.2.2.2.2.2.2.1), (25, r.2.2.2.2.2.2.2.2.2.2.2.2.2.2.2.2.2.2.2.2.1), (26, r.2.2.2.2.2.2.2.2.2.2.2.2.2.2.2.2.2.2.2.2.2.1), (28, r.2.2.2.2.2.2.2.2.2.2.2.2.2.2.2.2.2.2.2.2.2.2.1), (29, r.2.2.2.2.2.2.2.2.2.2.2.2.2.2.2.2.2.2.2.2.2.2.2.1), (143, r.2.2.2.2.2.2.2.2.2.2.2.2.2.2.2.2.2.2.2.2.2.2.2.2.1), (144, r.2.2.2.2.2.2.2.2.2.2.2.2.2.2.2.2.2.2.2.2.2.2.2.2.2.1), (145, r.2.2.2.2.2.2.2.2.2.2.2.2.2.2.2.2.2.2.2.2.2.2.2.2.2.2)]) (gm B []) (gp I9 [(0, 0, w.2.1), (0, 53, w.2.2.1)]) (gm A9 [(28, w.2.2.2.1), (29, w.2.2.2.2.1), (30, w.2.2.2.2.2.1), (31, w.2.2.2.2.2.2.1), (32, w.2.2.2.2.2.2.2.1), (33, w.2.2.2.2.2.2.2.2.1), (34, w.2.2.2.2.2.2.2.2.2.1), (35, w.2.2.2.2.2.2.2.2.2.2.1), (38, w.2.2.2.2.2.2.2.2.2.2.2.1), (40, w.2.2.2.2.2.2.2.2.2.2.2.2)]) (gm B9 []) := by
  obtain ⟨Z, T, S, X, Y, L, NH, NG, o0, o1, o2, o3, ⟨⟨t1, t2, t3, t4⟩, ⟨hT, hC, hM, hR⟩, hNm, ⟨hS, hs, hm⟩, ⟨hX, hH, hH2⟩, ⟨hL, hCL, hML⟩, ⟨hY, hQ⟩, hk, h54⟩, hP⟩ := R
  have c1 := hC.1
  have c2 := hC.2.1
  have c3 := hC.2.2.1
  have c4 := hC.2.2.2.1
  have d1 := hs.1
  have d2 := hs.2.1
  have d3 := hs.2.2.1
  have hC1 := hC
  rw [c1, c2, c3, c4] at hC1
  have hs1 := hs
  rw [d1, d2, d3] at hs1
  obtain ⟨r, e8, q8⟩ := c_mark (bk := b) (pk := I 0 12) hT hS hL hX hk.1.1 hs hCL hH hk.1.2.1
  obtain ⟨w, e9, q9, qq⟩ := m_mark (bk := b) (th := I9 0 0) (done := I9 0 53) (j := 0) (by decide) hL hX hk.1.1 hm hML hH2 hk.1.2.2
  rcases q8 with ⟨b1, on, rfl⟩ | ⟨b1, a1, a2, a3, a4, a5, a6⟩ | ⟨b1, x, on, a1, a2, a3, a4, a5, a6⟩
  · rcases qq with ⟨g1, gn, g2, g3, g4, g5, g6, g7⟩ | ⟨g1, -⟩ | ⟨g1, x, gn, -⟩
    · have hQ1 : MPs Y w.2.2.1 (A9 39) := by rw [g3]; exact hQ
      exact ⟨_, w, e8, e9, g2.symm, Z, T, S, X, Y, L, NH, NG, o0, o1, o2, o3, ⟨⟨t1, t2, t3, t4⟩, ⟨hT, hC, hM, hR⟩, hNm, ⟨hS, hs, g4⟩, ⟨hX, hH, g6⟩, ⟨hL, hCL, g5⟩, ⟨hY, hQ1⟩, ⟨⟨hk.1.1, hk.1.2.1, g7⟩, ⟨hk.2.1.1, hk.2.1.2.1, q9 1 o1 (by decide) (by decide) hk.2.1.1 hk.2.1.2.2⟩, ⟨hk.2.2.1.1, hk.2.2.1.2.1, q9 2 o2 (by decide) (by decide) hk.2.2.1.1 hk.2.2.1.2.2⟩, ⟨hk.2.2.2.1, hk.2.2.2.2.1, q9 3 o3 (by decide) (by decide) hk.2.2.2.1 hk.2.2.2.2.2⟩⟩, h54⟩, CP_keep rfl rfl hP⟩
    · rw [b1] at g1; cases g1
    · rw [on] at gn; cases gn
  · rcases qq with ⟨g1, -⟩ | ⟨g1, g2, g3, g4, g5, g6, g7⟩ | ⟨g1, -⟩
    · rw [b1] at g1; cases g1
    · have hQ1 : MPs Y w.2.2.1 (A9 39) := by rw [g3]; exact hQ
      have hP1 : CP T Y I A (I 0 11) r.2.1 := by rw [a2]; exact hP
      exact ⟨r, w, e8, e9, a1.trans g2.symm, Z, T, S, X, Y, L, NH, NG, some (S, L, X), o1, o2, o3, ⟨⟨t1, t2, t3, t4⟩, ⟨hT, hC, hM, hR⟩, hNm, ⟨hS, a3, g4⟩, ⟨hX, a5, g6⟩, ⟨hL, a4, g5⟩, ⟨hY, hQ1⟩, ⟨⟨fun x hx => by cases hx; exact ⟨hS, hL, hX⟩, a6, g7⟩, ⟨hk.2.1.1, hk.2.1.2.1, q9 1 o1 (by decide) (by decide) hk.2.1.1 hk.2.1.2.2⟩, ⟨hk.2.2.1.1, hk.2.2.1.2.1, q9 2 o2 (by decide) (by decide) hk.2.2.1.1 hk.2.2.1.2.2⟩, ⟨hk.2.2.2.1, hk.2.2.2.2.1, q9 3 o3 (by decide) (by decide) hk.2.2.2.1 hk.2.2.2.2.2⟩⟩, h54⟩, CP_keep rfl rfl hP1⟩
    · rw [b1] at g1; cases g1
  · rcases qq with ⟨g1, gn, -⟩ | ⟨g1, -⟩ | ⟨g1, y, gn, g2, g3, g4, g5, g6, g7⟩
    · rw [on] at gn; cases gn
    · rw [b1] at g1; cases g1
    · rw [on] at gn
      cases gn
      obtain ⟨v1, v2, v3⟩ := hk.1.1 x on
      obtain ⟨p, hp, hpn, -⟩ := hP
      have hP1 : CP T (0, Y.2) I A (I 0 11) r.2.1 := ⟨p, hp, hpn, a2, fun j hj => absurd hj (Nat.not_lt_zero _)⟩
      exact ⟨r, w, e8, e9, a1.trans g2.symm, Z, T, x.1, x.2.2, (0, Y.2), x.2.1, NH, NG, o0, o1, o2, o3, ⟨⟨t1, t2, t3, t4⟩, ⟨hT, hC, hM, hR⟩, hNm, ⟨v1, a3, g4⟩, ⟨v3, a5, g6⟩, ⟨v2, a4, g5⟩, ⟨⟨Nat.zero_le _, fun j hj => absurd hj (Nat.not_lt_zero _)⟩, ⟨g3, fun j hj => absurd hj (Nat.not_lt_zero _)⟩⟩, ⟨⟨hk.1.1, a6, g7⟩, ⟨hk.2.1.1, hk.2.1.2.1, q9 1 o1 (by decide) (by decide) hk.2.1.1 hk.2.1.2.2⟩, ⟨hk.2.2.1.1, hk.2.2.1.2.1, q9 2 o2 (by decide) (by decide) hk.2.2.1.1 hk.2.2.1.2.2⟩, ⟨hk.2.2.2.1, hk.2.2.2.2.1, q9 3 o3 (by decide) (by decide) hk.2.2.2.1 hk.2.2.2.2.2⟩⟩, h54⟩, CP_keep rfl rfl hP1⟩
set_option maxHeartbeats 4000000 in
set_option maxRecDepth 10000 in
theorem st_mark1 {N : Nat} {I A : MI} {B J : MJ} {I9 A9 : MI} {B9 J9 : MJ} (b : Bool) (R : Rel N I A B I9 A9 B9) : ∃ (r : Int32 × Int32 × Int32 × Int32 × Int32 × Int32 × Int32 × Int32 × Int32 × Int32 × Int32 × Int32 × Int32 × (Nat → Int32) × (Nat → Int32) × (Nat → Int32) × (Nat → Int32) × (Nat → Int32) × (Nat → Int32) × (Nat → Int32) × (Nat → Int32) × (Nat → Int32) × (Nat → Int32) × (Nat → Int32) × (Nat → Int32) × (Nat → Int32) × (Nat → Int32)) (w : Int32 × Int32 × Int32 × (Nat → Int32) × (Nat → Int32) × (Nat → Int32) × (Nat → Int32) × (Nat → Int32) × (Nat → Int32) × (Nat → Int32) × (Nat → Int32) × (Nat → Int32) × (Nat → Int32)), fX8_mark1 (I 0 12) (I 4 2) (I 4 3) (I 4 4) (I 10 2) (I 30 3) (I 31 2) (I 31 3) (I 31 4) (I 34 3) (I 38 2) (I 142 3) (A 5) (A 6) (A 11) (A 12) (A 32) (A 33) (A 35) (A 36) (A 37) (A 39) (A 40) (A 143) (A 144) (A 145) (nI (b2 b)) = some r ∧ fX9_mark (I9 0 0) (I9 0 53) (A9 28) (A9 29) (A9 30) (A9 31) (A9 32) (A9 33) (A9 34) (A9 35) (A9 38) (A9 40) 1 (nI (b2 b)) = some w ∧ r.1 = w.1 ∧ Rel N (gp I [(0, 12, r.2.1), (4, 2, r.2.2.1), (4, 3, r.2.2.2.1), (4, 4, r.2.2.2.2.1), (10, 2, r.2.2.2.2.2.1), (30, 3, r.2.2.2.2.2.2.1), (31, 2, r.2.2.2.2.2.2.2.1), (31, 3, r.2.2.2.2.2.2.2.2.1), (31, 4, r.2.2.2.2.2.2.2.2.2.1), (34, 3, r.2.2.2.2.2.2.2.2.2.2.1), (38, 2, r.2.2.2.2.2.2.2.2.2.2.2.1), (142, 3, r.2.2.2.2.2.2.2.2.2.2.2.2.1)]) (gm A [(5, r.2.2.2.2.2.2.2.2.2.2.2.2.2.1), (6, r.2.2.2.2.2.2.2.2.2.2.2.2.2.2.1), (11, r.2.2.2.2.2.2.2.2.2.2.2.2.2.2.2.1), (12, r.2.2.2.2.2.2.2.2.2.2.2.2.2.2.2.2.1), (32, r.2.2.2.2.2.2.2.2.2.2.2.2.2.2.2.2.2.1), (33, r.2.2.2.2.2.2.2.2.2.2.2.2.2.2.2.2.2.2.1), (35, r.2.2.2.2.2.2.2.2.2.2.2.2.2.2.2.2.2.2.2.1), (36, r.2.2.2.2.2.2.2.2.2.2.2.2.2.2.2.2.2.2.2.2.1), (37, r.2.2.2.2.2.2.2.2.2.2.2.2.2.2.2.2.2.2.2.2.2.1), (39, r.2.2.2.2.2.2.2.2.2.2.2.2.2.2.2.2.2.2.2.2.2.2.1), (40, r.2.2.2.2.2.2.2.2.2.2.2.2.2.2.2.2.2.2.2.2.2.2.2.1), (143, r.2.2.2.2.2.2.2.2.2.2.2.2.2.2.2.2.2.2.2.2.2.2.2.2.1), (144, r.2.2.2.2.2.2.2.2.2.2.2.2.2.2.2.2.2.2.2.2.2.2.2.2.2.1), (145, r.2.2.2.2.2.2.2.2.2.2.2.2.2.2.2.2.2.2.2.2.2.2.2.2.2.2)]) (gm B []) (gp I9 [(0, 0, w.2.1), (0, 53, w.2.2.1)]) (gm A9 [(28, w.2.2.2.1), (29, w.2.2.2.2.1), (30, w.2.2.2.2.2.1), (31, w.2.2.2.2.2.2.1), (32, w.2.2.2.2.2.2.2.1), (33, w.2.2.2.2.2.2.2.2.1), (34, w.2.2.2.2.2.2.2.2.2.1), (35, w.2.2.2.2.2.2.2.2.2.2.1), (38, w.2.2.2.2.2.2.2.2.2.2.2.1), (40, w.2.2.2.2.2.2.2.2.2.2.2.2)]) (gm B9 []) := by
  obtain ⟨Z, T, S, X, Y, L, NH, NG, o0, o1, o2, o3, ⟨⟨t1, t2, t3, t4⟩, ⟨hT, hC, hM, hR⟩, hNm, ⟨hS, hs, hm⟩, ⟨hX, hH, hH2⟩, ⟨hL, hCL, hML⟩, ⟨hY, hQ⟩, hk, h54⟩, hP⟩ := R
  have c1 := hC.1
  have c2 := hC.2.1
  have c3 := hC.2.2.1
  have c4 := hC.2.2.2.1
  have d1 := hs.1
  have d2 := hs.2.1
  have d3 := hs.2.2.1
  have hC1 := hC
  rw [c1, c2, c3, c4] at hC1
  have hs1 := hs
  rw [d1, d2, d3] at hs1
  obtain ⟨r, e8, q8⟩ := c_mark (bk := b) (pk := I 0 12) hT hS hL hX hk.2.1.1 hs hCL hH hk.2.1.2.1
  obtain ⟨w, e9, q9, qq⟩ := m_mark (bk := b) (th := I9 0 0) (done := I9 0 53) (j := 1) (by decide) hL hX hk.2.1.1 hm hML hH2 hk.2.1.2.2
  rw [← mk_1] at e8
  rcases q8 with ⟨b1, on, rfl⟩ | ⟨b1, a1, a2, a3, a4, a5, a6⟩ | ⟨b1, x, on, a1, a2, a3, a4, a5, a6⟩
  · rcases qq with ⟨g1, gn, g2, g3, g4, g5, g6, g7⟩ | ⟨g1, -⟩ | ⟨g1, x, gn, -⟩
    · have hQ1 : MPs Y w.2.2.1 (A9 39) := by rw [g3]; exact hQ
      exact ⟨_, w, e8, e9, g2.symm, Z, T, S, X, Y, L, NH, NG, o0, o1, o2, o3, ⟨⟨t1, t2, t3, t4⟩, ⟨hT, hC, hM, hR⟩, hNm, ⟨hS, hs, g4⟩, ⟨hX, hH, g6⟩, ⟨hL, hCL, g5⟩, ⟨hY, hQ1⟩, ⟨⟨hk.1.1, hk.1.2.1, q9 0 o0 (by decide) (by decide) hk.1.1 hk.1.2.2⟩, ⟨hk.2.1.1, hk.2.1.2.1, g7⟩, ⟨hk.2.2.1.1, hk.2.2.1.2.1, q9 2 o2 (by decide) (by decide) hk.2.2.1.1 hk.2.2.1.2.2⟩, ⟨hk.2.2.2.1, hk.2.2.2.2.1, q9 3 o3 (by decide) (by decide) hk.2.2.2.1 hk.2.2.2.2.2⟩⟩, h54⟩, CP_keep rfl rfl hP⟩
    · rw [b1] at g1; cases g1
    · rw [on] at gn; cases gn
  · rcases qq with ⟨g1, -⟩ | ⟨g1, g2, g3, g4, g5, g6, g7⟩ | ⟨g1, -⟩
    · rw [b1] at g1; cases g1
    · have hQ1 : MPs Y w.2.2.1 (A9 39) := by rw [g3]; exact hQ
      have hP1 : CP T Y I A (I 0 11) r.2.1 := by rw [a2]; exact hP
      exact ⟨r, w, e8, e9, a1.trans g2.symm, Z, T, S, X, Y, L, NH, NG, o0, some (S, L, X), o2, o3, ⟨⟨t1, t2, t3, t4⟩, ⟨hT, hC, hM, hR⟩, hNm, ⟨hS, a3, g4⟩, ⟨hX, a5, g6⟩, ⟨hL, a4, g5⟩, ⟨hY, hQ1⟩, ⟨⟨hk.1.1, hk.1.2.1, q9 0 o0 (by decide) (by decide) hk.1.1 hk.1.2.2⟩, ⟨fun x hx => by cases hx; exact ⟨hS, hL, hX⟩, a6, g7⟩, ⟨hk.2.2.1.1, hk.2.2.1.2.1, q9 2 o2 (by decide) (by decide) hk.2.2.1.1 hk.2.2.1.2.2⟩, ⟨hk.2.2.2.1, hk.2.2.2.2.1, q9 3 o3 (by decide) (by decide) hk.2.2.2.1 hk.2.2.2.2.2⟩⟩, h54⟩, CP_keep rfl rfl hP1⟩
    · rw [b1] at g1; cases g1
  · rcases qq with ⟨g1, gn, -⟩ | ⟨g1, -⟩ | ⟨g1, y, gn, g2, g3, g4, g5, g6, g7⟩
    · rw [on] at gn; cases gn
    · rw [b1] at g1; cases g1
    · rw [on] at gn
      cases gn
      obtain ⟨v1, v2, v3⟩ := hk.2.1.1 x on
      obtain ⟨p, hp, hpn, -⟩ := hP
      have hP1 : CP T (0, Y.2) I A (I 0 11) r.2.1 := ⟨p, hp, hpn, a2, fun j hj => absurd hj (Nat.not_lt_zero _)⟩
      exact ⟨r, w, e8, e9, a1.trans g2.symm, Z, T, x.1, x.2.2, (0, Y.2), x.2.1, NH, NG, o0, o1, o2, o3, ⟨⟨t1, t2, t3, t4⟩, ⟨hT, hC, hM, hR⟩, hNm, ⟨v1, a3, g4⟩, ⟨v3, a5, g6⟩, ⟨v2, a4, g5⟩, ⟨⟨Nat.zero_le _, fun j hj => absurd hj (Nat.not_lt_zero _)⟩, ⟨g3, fun j hj => absurd hj (Nat.not_lt_zero _)⟩⟩, ⟨⟨hk.1.1, hk.1.2.1, q9 0 o0 (by decide) (by decide) hk.1.1 hk.1.2.2⟩, ⟨hk.2.1.1, a6, g7⟩, ⟨hk.2.2.1.1, hk.2.2.1.2.1, q9 2 o2 (by decide) (by decide) hk.2.2.1.1 hk.2.2.1.2.2⟩, ⟨hk.2.2.2.1, hk.2.2.2.2.1, q9 3 o3 (by decide) (by decide) hk.2.2.2.1 hk.2.2.2.2.2⟩⟩, h54⟩, CP_keep rfl rfl hP1⟩
set_option maxHeartbeats 4000000 in
set_option maxRecDepth 10000 in
theorem st_mark2 {N : Nat} {I A : MI} {B J : MJ} {I9 A9 : MI} {B9 J9 : MJ} (b : Bool) (R : Rel N I A B I9 A9 B9) : ∃ (r : Int32 × Int32 × Int32 × Int32 × Int32 × Int32 × Int32 × Int32 × Int32 × Int32 × Int32 × Int32 × Int32 × (Nat → Int32) × (Nat → Int32) × (Nat → Int32) × (Nat → Int32) × (Nat → Int32) × (Nat → Int32) × (Nat → Int32) × (Nat → Int32) × (Nat → Int32) × (Nat → Int32) × (Nat → Int32) × (Nat → Int32) × (Nat → Int32) × (Nat → Int32)) (w : Int32 × Int32 × Int32 × (Nat → Int32) × (Nat → Int32) × (Nat → Int32) × (Nat → Int32) × (Nat → Int32) × (Nat → Int32) × (Nat → Int32) × (Nat → Int32) × (Nat → Int32) × (Nat → Int32)), fX8_mark2 (I 0 12) (I 4 2) (I 4 3) (I 4 4) (I 10 2) (I 41 3) (I 42 2) (I 42 3) (I 42 4) (I 45 3) (I 49 2) (I 142 3) (A 5) (A 6) (A 11) (A 12) (A 43) (A 44) (A 46) (A 47) (A 48) (A 50) (A 51) (A 143) (A 144) (A 145) (nI (b2 b)) = some r ∧ fX9_mark (I9 0 0) (I9 0 53) (A9 28) (A9 29) (A9 30) (A9 31) (A9 32) (A9 33) (A9 34) (A9 35) (A9 38) (A9 40) 2 (nI (b2 b)) = some w ∧ r.1 = w.1 ∧ Rel N (gp I [(0, 12, r.2.1), (4, 2, r.2.2.1), (4, 3, r.2.2.2.1), (4, 4, r.2.2.2.2.1), (10, 2, r.2.2.2.2.2.1), (41, 3, r.2.2.2.2.2.2.1), (42, 2, r.2.2.2.2.2.2.2.1), (42, 3, r.2.2.2.2.2.2.2.2.1), (42, 4, r.2.2.2.2.2.2.2.2.2.1), (45, 3, r.2.2.2.2.2.2.2.2.2.2.1), (49, 2, r.2.2.2.2.2.2.2.2.2.2.2.1), (142, 3, r.2.2.2.2.2.2.2.2.2.2.2.2.1)]) (gm A [(5, r.2.2.2.2.2.2.2.2.2.2.2.2.2.1), (6, r.2.2.2.2.2.2.2.2.2.2.2.2.2.2.1), (11, r.2.2.2.2.2.2.2.2.2.2.2.2.2.2.2.1), (12, r.2.2.2.2.2.2.2.2.2.2.2.2.2.2.2.2.1), (43, r.2.2.2.2.2.2.2.2.2.2.2.2.2.2.2.2.2.1), (44, r.2.2.2.2.2.2.2.2.2.2.2.2.2.2.2.2.2.2.1), (46, r.2.2.2.2.2.2.2.2.2.2.2.2.2.2.2.2.2.2.2.1), (47, r.2.2.2.2.2.2.2.2.2.2.2.2.2.2.2.2.2.2.2.2.1), (48, r.2.2.2.2.2.2.2.2.2.2.2.2.2.2.2.2.2.2.2.2.2.1), (50, r.2.2.2.2.2.2.2.2.2.2.2.2.2.2.2.2.2.2.2.2.2.2.1), (51, r.2.2.2.2.2.2.2.2.2.2.2.2.2.2.2.2.2.2.2.2.2.2.2.1), (143, r.2.2.2.2.2.2.2.2.2.2.2.2.2.2.2.2.2.2.2.2.2.2.2.2.1), (144, r.2.2.2.2.2.2.2.2.2.2.2.2.2.2.2.2.2.2.2.2.2.2.2.2.2.1), (145, r.2.2.2.2.2.2.2.2.2.2.2.2.2.2.2.2.2.2.2.2.2.2.2.2.2.2)]) (gm B []) (gp I9 [(0, 0, w.2.1), (0, 53, w.2.2.1)]) (gm A9 [(28, w.2.2.2.1), (29, w.2.2.2.2.1), (30, w.2.2.2.2.2.1), (31, w.2.2.2.2.2.2.1), (32, w.2.2.2.2.2.2.2.1), (33, w.2.2.2.2.2.2.2.2.1), (34, w.2.2.2.2.2.2.2.2.2.1), (35, w.2.2.2.2.2.2.2.2.2.2.1), (38, w.2.2.2.2.2.2.2.2.2.2.2.1), (40, w.2.2.2.2.2.2.2.2.2.2.2.2)]) (gm B9 []) := by
  obtain ⟨Z, T, S, X, Y, L, NH, NG, o0, o1, o2, o3, ⟨⟨t1, t2, t3, t4⟩, ⟨hT, hC, hM, hR⟩, hNm, ⟨hS, hs, hm⟩, ⟨hX, hH, hH2⟩, ⟨hL, hCL, hML⟩, ⟨hY, hQ⟩, hk, h54⟩, hP⟩ := R
  have c1 := hC.1
  have c2 := hC.2.1
  have c3 := hC.2.2.1
  have c4 := hC.2.2.2.1
  have d1 := hs.1
  have d2 := hs.2.1
  have d3 := hs.2.2.1
  have hC1 := hC
  rw [c1, c2, c3, c4] at hC1
  have hs1 := hs
  rw [d1, d2, d3] at hs1
  obtain ⟨r, e8, q8⟩ := c_mark (bk := b) (pk := I 0 12) hT hS hL hX hk.2.2.1.1 hs hCL hH hk.2.2.1.2.1
  obtain ⟨w, e9, q9, qq⟩ := m_mark (bk := b) (th := I9 0 0) (done := I9 0 53) (j := 2) (by decide) hL hX hk.2.2.1.1 hm hML hH2 hk.2.2.1.2.2
  rw [← mk_2] at e8
  rcases q8 with ⟨b1, on, rfl⟩ | ⟨b1, a1, a2, a3, a4, a5, a6⟩ | ⟨b1, x, on, a1, a2, a3, a4, a5, a6⟩
  · rcases qq with ⟨g1, gn, g2, g3, g4, g5, g6, g7⟩ | ⟨g1, -⟩ | ⟨g1, x, gn, -⟩
    · have hQ1 : MPs Y w.2.2.1 (A9 39) := by rw [g3]; exact hQ
      exact ⟨_, w, e8, e9, g2.symm, Z, T, S, X, Y, L, NH, NG, o0, o1, o2, o3, ⟨⟨t1, t2, t3, t4⟩, ⟨hT, hC, hM, hR⟩, hNm, ⟨hS, hs, g4⟩, ⟨hX, hH, g6⟩, ⟨hL, hCL, g5⟩, ⟨hY, hQ1⟩, ⟨⟨hk.1.1, hk.1.2.1, q9 0 o0 (by decide) (by decide) hk.1.1 hk.1.2.2⟩, ⟨hk.2.1.1, hk.2.1.2.1, q9 1 o1 (by decide) (by decide) hk.2.1.1 hk.2.1.2.2⟩, ⟨hk.2.2.1.1, hk.2.2.1.2.1, g7⟩, ⟨hk.2.2.2.1, hk.2.2.2.2.1, q9 3 o3 (by decide) (by decide) hk.2.2.2.1 hk.2.2.2.2.2⟩⟩, h54⟩, CP_keep rfl rfl hP⟩
    · rw [b1] at g1; cases g1
    · rw [on] at gn; cases gn
  · rcases qq with ⟨g1, -⟩ | ⟨g1, g2, g3, g4, g5, g6, g7⟩ | ⟨g1, -⟩
    · rw [b1] at g1; cases g1
    · have hQ1 : MPs Y w.2.2.1 (A9 39) := by rw [g3]; exact hQ
      have hP1 : CP T Y I A (I 0 11) r.2.1 := by rw [a2]; exact hP
      exact ⟨r, w, e8, e9, a1.trans g2.symm, Z, T, S, X, Y, L, NH, NG, o0, o1, some (S, L, X), o3, ⟨⟨t1, t2, t3, t4⟩, ⟨hT, hC, hM, hR⟩, hNm, ⟨hS, a3, g4⟩, ⟨hX, a5, g6⟩, ⟨hL, a4, g5⟩, ⟨hY, hQ1⟩, ⟨⟨hk.1.1, hk.1.2.1, q9 0 o0 (by decide) (by decide) hk.1.1 hk.1.2.2⟩, ⟨hk.2.1.1, hk.2.1.2.1, q9 1 o1 (by decide) (by decide) hk.2.1.1 hk.2.1.2.2⟩, ⟨fun x hx => by cases hx; exact ⟨hS, hL, hX⟩, a6, g7⟩, ⟨hk.2.2.2.1, hk.2.2.2.2.1, q9 3 o3 (by decide) (by decide) hk.2.2.2.1 hk.2.2.2.2.2⟩⟩, h54⟩, CP_keep rfl rfl hP1⟩
    · rw [b1] at g1; cases g1
  · rcases qq with ⟨g1, gn, -⟩ | ⟨g1, -⟩ | ⟨g1, y, gn, g2, g3, g4, g5, g6, g7⟩
    · rw [on] at gn; cases gn
    · rw [b1] at g1; cases g1
    · rw [on] at gn
      cases gn
      obtain ⟨v1, v2, v3⟩ := hk.2.2.1.1 x on
      obtain ⟨p, hp, hpn, -⟩ := hP
      have hP1 : CP T (0, Y.2) I A (I 0 11) r.2.1 := ⟨p, hp, hpn, a2, fun j hj => absurd hj (Nat.not_lt_zero _)⟩
      exact ⟨r, w, e8, e9, a1.trans g2.symm, Z, T, x.1, x.2.2, (0, Y.2), x.2.1, NH, NG, o0, o1, o2, o3, ⟨⟨t1, t2, t3, t4⟩, ⟨hT, hC, hM, hR⟩, hNm, ⟨v1, a3, g4⟩, ⟨v3, a5, g6⟩, ⟨v2, a4, g5⟩, ⟨⟨Nat.zero_le _, fun j hj => absurd hj (Nat.not_lt_zero _)⟩, ⟨g3, fun j hj => absurd hj (Nat.not_lt_zero _)⟩⟩, ⟨⟨hk.1.1, hk.1.2.1, q9 0 o0 (by decide) (by decide) hk.1.1 hk.1.2.2⟩, ⟨hk.2.1.1, hk.2.1.2.1, q9 1 o1 (by decide) (by decide) hk.2.1.1 hk.2.1.2.2⟩, ⟨hk.2.2.1.1, a6, g7⟩, ⟨hk.2.2.2.1, hk.2.2.2.2.1, q9 3 o3 (by decide) (by decide) hk.2.2.2.1 hk.2.2.2.2.2⟩⟩, h54⟩, CP_keep rfl rfl hP1⟩
set_option maxHeartbeats 4000000 in
set_option maxRecDepth 10000 in
theorem st_mark3 {N : Nat} {I A : MI} {B J : MJ} {I9 A9 : MI} {B9 J9 : MJ} (b : Bool) (R : Rel N I A B I9 A9 B9) : ∃ (r : Int32 × Int32 × Int32 × Int32 × Int32 × Int32 × Int32 × Int32 × Int32 × Int32 × Int32 × Int32 × Int32 × (Nat → Int32) × (Nat → Int32) × (Nat → Int32) × (Nat → Int32) × (Nat → Int32) × (Nat → Int32) × (Nat → Int32) × (Nat → Int32) × (Nat → Int32) × (Nat → Int32) × (Nat → Int32) × (Nat → Int32) × (Nat → Int32) × (Nat → Int32)) (w : Int32 × Int32 × Int32 × (Nat → Int32) × (Nat → Int32) × (Nat → Int32) × (Nat → Int32) × (Nat → Int32) × (Nat → Int32) × (Nat → Int32) × (Nat → Int32) × (Nat → Int32) × (Nat → Int32)), fX8_mark3 (I 0 12) (I 4 2) (I 4 3) (I 4 4) (I 10 2) (I 52 3) (I 53 2) (I 53 3) (I 53 4) (I 56 3) (I 60 2) (I 142 3) (A 5) (A 6) (A 11) (A 12) (A 54) (A 55) (A 57) (A 58) (A 59) (A 61) (A 62) (A 143) (A 144) (A 145) (nI (b2 b)) = some r ∧ fX9_mark (I9 0 0) (I9 0 53) (A9 28) (A9 29) (A9 30) (A9 31) (A9 32) (A9 33) (A9 34) (A9 35) (A9 38) (A9 40) 3 (nI (b2 b)) = some w ∧ r.1 = w.1 ∧ Rel N (gp I [(0, 12, r.2.1), (4, 2, r.2.2.1), (4, 3, r.2.2.2.1), (4, 4, r.2.2.2.2.1), (10, 2, r.2.2.2.2.2.1), (52, 3, r.2.2.2.2.2.2.1), (53, 2, r.2.2.2.2.2.2.2.1), (53, 3, r.2.2.2.2.2.2.2.2.1), (53, 4, r.2.2.2.2.2.2.2.2.2.1), (56, 3, r.2.2.2.2.2.2.2.2.2.2.1), (60, 2, r.2.2.2.2.2.2.2.2.2.2.2.1), (142, 3, r.2.2.2.2.2.2.2.2.2.2.2.2.1)]) (gm A [(5, r.2.2.2.2.2.2.2.2.2.2.2.2.2.1), (6, r.2.2.2.2.2.2.2.2.2.2.2.2.2.2.1), (11, r.2.2.2.2.2.2.2.2.2.2.2.2.2.2.2.1), (12, r.2.2.2.2.2.2.2.2.2.2.2.2.2.2.2.2.1), (54, r.2.2.2.2.2.2.2.2.2.2.2.2.2.2.2.2.2.1), (55, r.2.2.2.2.2.2.2.2.2.2.2.2.2.2.2.2.2.2.1), (57, r.2.2.2.2.2.2.2.2.2.2.2.2.2.2.2.2.2.2.2.1), (58, r.2.2.2.2.2.2.2.2.2.2.2.2.2.2.2.2.2.2.2.2.1), (59, r.2.2.2.2.2.2.2.2.2.2.2.2.2.2.2.2.2.2.2.2.2.1), (61, r.2.2.2.2.2.2.2.2.2.2.2.2.2.2.2.2.2.2.2.2.2.2.1), (62, r.2.2.2.2.2.2.2.2.2.2.2.2.2.2.2.2.2.2.2.2.2.2.2.1), (143, r.2.2.2.2.2.2.2.2.2.2.2.2.2.2.2.2.2.2.2.2.2.2.2.2.1), (144, r.2.2.2.2.2.2.2.2.2.2.2.2.2.2.2.2.2.2.2.2.2.2.2.2.2.1), (145, r.2.2.2.2.2.2.2.2.2.2.2.2.2.2.2.2.2.2.2.2.2.2.2.2.2.2)]) (gm B []) (gp I9 [(0, 0, w.2.1), (0, 53, w.2.2.1)]) (gm A9 [(28, w.2.2.2.1), (29, w.2.2.2.2.1), (30, w.2.2.2.2.2.1), (31, w.2.2.2.2.2.2.1), (32, w.2.2.2.2.2.2.2.1), (33, w.2.2.2.2.2.2.2.2.1), (34, w.2.2.2.2.2.2.2.2.2.1), (35, w.2.2.2.2.2.2.2.2.2.2.1), (38, w.2.2.2.2.2.2.2.2.2.2.2.1), (40, w.2.2.2.2.2.2.2.2.2.2.2.2)]) (gm B9 []) := by
  obtain ⟨Z, T, S, X, Y, L, NH, NG, o0, o1, o2, o3, ⟨⟨t1, t2, t3, t4⟩, ⟨hT, hC, hM, hR⟩, hNm, ⟨hS, hs, hm⟩, ⟨hX, hH, hH2⟩, ⟨hL, hCL, hML⟩, ⟨hY, hQ⟩, hk, h54⟩, hP⟩ := R
  have c1 := hC.1
  have c2 := hC.2.1
  have c3 := hC.2.2.1
  have c4 := hC.2.2.2.1
  have d1 := hs.1
  have d2 := hs.2.1
  have d3 := hs.2.2.1
  have hC1 := hC
  rw [c1, c2, c3, c4] at hC1
  have hs1 := hs
  rw [d1, d2, d3] at hs1
  obtain ⟨r, e8, q8⟩ := c_mark (bk := b) (pk := I 0 12) hT hS hL hX hk.2.2.2.1 hs hCL hH hk.2.2.2.2.1
  obtain ⟨w, e9, q9, qq⟩ := m_mark (bk := b) (th := I9 0 0) (done := I9 0 53) (j := 3) (by decide) hL hX hk.2.2.2.1 hm hML hH2 hk.2.2.2.2.2
  rw [← mk_3] at e8
  rcases q8 with ⟨b1, on, rfl⟩ | ⟨b1, a1, a2, a3, a4, a5, a6⟩ | ⟨b1, x, on, a1, a2, a3, a4, a5, a6⟩
  · rcases qq with ⟨g1, gn, g2, g3, g4, g5, g6, g7⟩ | ⟨g1, -⟩ | ⟨g1, x, gn, -⟩
    · have hQ1 : MPs Y w.2.2.1 (A9 39) := by rw [g3]; exact hQ
      exact ⟨_, w, e8, e9, g2.symm, Z, T, S, X, Y, L, NH, NG, o0, o1, o2, o3, ⟨⟨t1, t2, t3, t4⟩, ⟨hT, hC, hM, hR⟩, hNm, ⟨hS, hs, g4⟩, ⟨hX, hH, g6⟩, ⟨hL, hCL, g5⟩, ⟨hY, hQ1⟩, ⟨⟨hk.1.1, hk.1.2.1, q9 0 o0 (by decide) (by decide) hk.1.1 hk.1.2.2⟩, ⟨hk.2.1.1, hk.2.1.2.1, q9 1 o1 (by decide) (by decide) hk.2.1.1 hk.2.1.2.2⟩, ⟨hk.2.2.1.1, hk.2.2.1.2.1, q9 2 o2 (by decide) (by decide) hk.2.2.1.1 hk.2.2.1.2.2⟩, ⟨hk.2.2.2.1, hk.2.2.2.2.1, g7⟩⟩, h54⟩, CP_keep rfl rfl hP⟩
    · rw [b1] at g1; cases g1
    · rw [on] at gn; cases gn
  · rcases qq with ⟨g1, -⟩ | ⟨g1, g2, g3, g4, g5, g6, g7⟩ | ⟨g1, -⟩
    · rw [b1] at g1; cases g1
    · have hQ1 : MPs Y w.2.2.1 (A9 39) := by rw [g3]; exact hQ
      have hP1 : CP T Y I A (I 0 11) r.2.1 := by rw [a2]; exact hP
      exact ⟨r, w, e8, e9, a1.trans g2.symm, Z, T, S, X, Y, L, NH, NG, o0, o1, o2, some (S, L, X), ⟨⟨t1, t2, t3, t4⟩, ⟨hT, hC, hM, hR⟩, hNm, ⟨hS, a3, g4⟩, ⟨hX, a5, g6⟩, ⟨hL, a4, g5⟩, ⟨hY, hQ1⟩, ⟨⟨hk.1.1, hk.1.2.1, q9 0 o0 (by decide) (by decide) hk.1.1 hk.1.2.2⟩, ⟨hk.2.1.1, hk.2.1.2.1, q9 1 o1 (by decide) (by decide) hk.2.1.1 hk.2.1.2.2⟩, ⟨hk.2.2.1.1, hk.2.2.1.2.1, q9 2 o2 (by decide) (by decide) hk.2.2.1.1 hk.2.2.1.2.2⟩, ⟨fun x hx => by cases hx; exact ⟨hS, hL, hX⟩, a6, g7⟩⟩, h54⟩, CP_keep rfl rfl hP1⟩
    · rw [b1] at g1; cases g1
  · rcases qq with ⟨g1, gn, -⟩ | ⟨g1, -⟩ | ⟨g1, y, gn, g2, g3, g4, g5, g6, g7⟩
    · rw [on] at gn; cases gn
    · rw [b1] at g1; cases g1
    · rw [on] at gn
      cases gn
      obtain ⟨v1, v2, v3⟩ := hk.2.2.2.1 x on
      obtain ⟨p, hp, hpn, -⟩ := hP
      have hP1 : CP T (0, Y.2) I A (I 0 11) r.2.1 := ⟨p, hp, hpn, a2, fun j hj => absurd hj (Nat.not_lt_zero _)⟩
      exact ⟨r, w, e8, e9, a1.trans g2.symm, Z, T, x.1, x.2.2, (0, Y.2), x.2.1, NH, NG, o0, o1, o2, o3, ⟨⟨t1, t2, t3, t4⟩, ⟨hT, hC, hM, hR⟩, hNm, ⟨v1, a3, g4⟩, ⟨v3, a5, g6⟩, ⟨v2, a4, g5⟩, ⟨⟨Nat.zero_le _, fun j hj => absurd hj (Nat.not_lt_zero _)⟩, ⟨g3, fun j hj => absurd hj (Nat.not_lt_zero _)⟩⟩, ⟨⟨hk.1.1, hk.1.2.1, q9 0 o0 (by decide) (by decide) hk.1.1 hk.1.2.2⟩, ⟨hk.2.1.1, hk.2.1.2.1, q9 1 o1 (by decide) (by decide) hk.2.1.1 hk.2.1.2.2⟩, ⟨hk.2.2.1.1, hk.2.2.1.2.1, q9 2 o2 (by decide) (by decide) hk.2.2.1.1 hk.2.2.1.2.2⟩, ⟨hk.2.2.2.1, a6, g7⟩⟩, h54⟩, CP_keep rfl rfl hP1⟩
set_option maxHeartbeats 4000000 in
set_option maxRecDepth 10000 in
theorem st_marko {N : Nat} {I A : MI} {B J : MJ} {I9 A9 : MI} {B9 J9 : MJ} (v1 v2 : Int32) (R : Rel N I A B I9 A9 B9) (h : ¬ (v1 = 0 ∨ v1 = 1 ∨ v1 = 2 ∨ v1 = 3)) : ∃ (r : Int32) (w : Int32 × Int32 × Int32 × (Nat → Int32) × (Nat → Int32) × (Nat → Int32) × (Nat → Int32) × (Nat → Int32) × (Nat → Int32) × (Nat → Int32) × (Nat → Int32) × (Nat → Int32) × (Nat → Int32)), fX8_marko v1 v2 = some r ∧ fX9_mark (I9 0 0) (I9 0 53) (A9 28) (A9 29) (A9 30) (A9 31) (A9 32) (A9 33) (A9 34) (A9 35) (A9 38) (A9 40) v1 v2 = some w ∧ r = w.1 ∧ Rel N (gp I []) (gm A []) (gm B []) (gp I9 [(0, 0, w.2.1), (0, 53, w.2.2.1)]) (gm A9 [(28, w.2.2.2.1), (29, w.2.2.2.2.1), (30, w.2.2.2.2.2.1), (31, w.2.2.2.2.2.2.1), (32, w.2.2.2.2.2.2.2.1), (33, w.2.2.2.2.2.2.2.2.1), (34, w.2.2.2.2.2.2.2.2.2.1), (35, w.2.2.2.2.2.2.2.2.2.2.1), (38, w.2.2.2.2.2.2.2.2.2.2.2.1), (40, w.2.2.2.2.2.2.2.2.2.2.2.2)]) (gm B9 []) := by
  obtain ⟨Z, T, S, X, Y, L, NH, NG, o0, o1, o2, o3, ⟨⟨t1, t2, t3, t4⟩, ⟨hT, hC, hM, hR⟩, hNm, ⟨hS, hs, hm⟩, ⟨hX, hH, hH2⟩, ⟨hL, hCL, hML⟩, ⟨hY, hQ⟩, hk, h54⟩, hP⟩ := R
  have c1 := hC.1
  have c2 := hC.2.1
  have c3 := hC.2.2.1
  have c4 := hC.2.2.2.1
  have d1 := hs.1
  have d2 := hs.2.1
  have d3 := hs.2.2.1
  have hC1 := hC
  rw [c1, c2, c3, c4] at hC1
  have hs1 := hs
  rw [d1, d2, d3] at hs1
  rcases wthn v1 0 3 (by omega) (by omega) with ⟨j, -, h2, rfl, -⟩ | ⟨e9, e8⟩
  · rcases (show j = 0 ∨ j = 1 ∨ j = 2 ∨ j = 3 by omega) with q | q | q | q
    · exact absurd (Or.inl (by rw [q]; rfl)) h
    · exact absurd (Or.inr (Or.inl (by rw [q]; rfl))) h
    · exact absurd (Or.inr (Or.inr (Or.inl (by rw [q]; rfl)))) h
    · exact absurd (Or.inr (Or.inr (Or.inr (by rw [q]; rfl)))) h
  · refine ⟨0, (0, 0, I9 0 53, A9 28, A9 29, A9 30, A9 31, A9 32, A9 33, A9 34, A9 35, A9 38, A9 40), ?_, ?_, rfl, Z, T, S, X, Y, L, NH, NG, o0, o1, o2, o3, ⟨⟨t1, t2, t3, t4⟩, ⟨hT, hC, hM, hR⟩, hNm, ⟨hS, hs, hm⟩, ⟨hX, hH, hH2⟩, ⟨hL, hCL, hML⟩, ⟨hY, hQ⟩, hk, h54⟩, CP_keep rfl rfl hP⟩
    · unfold fX8_marko
      have e : fX8_isWithin v1 0 3 = some (nI 0) := e8
      rw [e]; rfl
    · unfold fX9_mark
      have e : fX9_within v1 0 3 = some (nI 0) := e9
      rw [e]; rfl
