/-! the states of the past, and the marks, by their numbers -/
def PPast (ad : Nat → Nat) (P : MP) : Prop := ∀ n, n < 16 → P 63 n = some (ad (64 + 3 * n))
def PMark (ad : Nat → Nat) (P : MP) : Prop := ∀ n, n < 4 → P 18 n = some (ad (19 + 11 * n))
def plP (n : Nat) : List Nat := [64 + 3 * n, 65 + 3 * n, 66 + 3 * n, 4, 5, 6]
def plU (n : Nat) : List Nat := [4, 5, 6, 64 + 3 * n, 65 + 3 * n, 66 + 3 * n]
theorem sbP : ∀ n, n < 16 → subB LY_X8 (plP n) LY_X4X4 (plP n) = true := by decide +kernel
theorem ndP : ∀ n, n < 16 → nd_ (plP n) = true := by decide +kernel
theorem sbU : ∀ n, n < 16 → subB LY_X8 (plU n) LY_X4X4 (plU n) = true := by decide +kernel
theorem ndU : ∀ n, n < 16 → nd_ (plU n) = true := by decide +kernel
theorem atP : ∀ n, n < 16 → LY_X8[64 + 3 * n]? = some (.inr (4, [(2, 65 + 3 * n), (2, 66 + 3 * n), (0, 0), (0, 0), (0, 0)])) := by
  intro n h
  have h2 : n = 0 ∨ n = 1 ∨ n = 2 ∨ n = 3 ∨ n = 4 ∨ n = 5 ∨ n = 6 ∨ n = 7 ∨ n = 8 ∨ n = 9 ∨ n = 10 ∨ n = 11 ∨ n = 12 ∨ n = 13 ∨ n = 14 ∨ n = 15 := by omega
  rcases h2 with rfl | rfl | rfl | rfl | rfl | rfl | rfl | rfl | rfl | rfl | rfl | rfl | rfl | rfl | rfl | rfl <;> rfl
/-- what becomes of the cells of the past's n-th state -/
def rI (n : Nat) (y : Int32 × Int32 × Int32 × (Nat → Int32) × (Nat → Int32)) : List (Nat × Nat × Int32) := [(64 + 3 * n, 2, y.1), (64 + 3 * n, 3, y.2.1), (64 + 3 * n, 4, y.2.2.1)]
def rA (n : Nat) (y : Int32 × Int32 × Int32 × (Nat → Int32) × (Nat → Int32)) : List (Nat × (Nat → Int32)) := [(65 + 3 * n, y.2.2.2.1), (66 + 3 * n, y.2.2.2.2)]
theorem rI_in {n : Nat} {y : Int32 × Int32 × Int32 × (Nat → Int32) × (Nat → Int32)} (h : n < 16) : ∀ e ∈ rI n y, 64 ≤ e.1 ∧ e.1 < 112 := by
  intro e he
  simp only [rI, List.mem_cons, List.mem_nil_iff, or_false] at he
  rcases he with rfl | rfl | rfl <;> simp only <;> omega
theorem rA_in {n : Nat} {y : Int32 × Int32 × Int32 × (Nat → Int32) × (Nat → Int32)} (h : n < 16) : ∀ e ∈ rA n y, 64 ≤ e.1 ∧ e.1 < 112 := by
  intro e he
  simp only [rA, List.mem_cons, List.mem_nil_iff, or_false] at he
  rcases he with rfl | rfl <;> simp only <;> omega
def rmX8_remember : Room := { frames := 2, cells := 0, slots := 0, locals := 43 }
def fX8_remember (n_seized n_date n_brought : Int32) (n_coal n_inside : Nat → Int32) (o_seized o_date o_brought : Int32) (o_coal o_inside : Nat → Int32) (pn pk : Int32) : Option (Int32 × Int32 × List (Nat × Nat × Int32) × List (Nat × (Nat → Int32))) :=
  bif inb pn 16 then Option.bind (fX4_copyFrom n_seized n_date n_brought n_coal n_inside o_seized o_date o_brought o_coal o_inside) fun y => some (((pn + 1) - (pn + 1) / 16 * 16), imin (pk + 1) 16, rI (Int32.toNatClampNeg pn) y, rA (Int32.toNatClampNeg pn) y) else none
set_option maxHeartbeats 4000000 in
set_option maxRecDepth 100000 in
theorem KX8_remember (l : Launch) (D : va_G) (cy : Nat → ClassId) (ad : Nat → Nat) (P : MP) (V : MV) (I : MI) (J : MJ) (A : MI) (B : MJ) {res : Int32 × Int32 × List (Nat × Nat × Int32) × List (Nat × (Nat → Int32))} (hPP : PPast ad P)
    (hf : fX8_remember (I 4 2) (I 4 3) (I 4 4) (A 5) (A 6) (I (64 + 3 * Int32.toNatClampNeg (I 0 11)) 2) (I (64 + 3 * Int32.toNatClampNeg (I 0 11)) 3) (I (64 + 3 * Int32.toNatClampNeg (I 0 11)) 4) (A (65 + 3 * Int32.toNatClampNeg (I 0 11))) (A (66 + 3 * Int32.toNatClampNeg (I 0 11))) (I 0 11) (I 0 12) = some res) :
    CG l yX8_remember cX8_remember 1 none rmX8_remember D cy (dn cy LY_X8 ad P V I J A B) [.ref (ad 0)] none (dn cy LY_X8 ad P V (gp (gp I res.2.2.1) [(0, 11, res.1), (0, 12, res.2.1)]) J (gm A res.2.2.2) B) := by
  refine CG.of (own := RX8) (by decide) rfl rfl ?_
  intro p e s m below meth c ls Af C0 hK hN hA hW hl
  have hl : lv_has ls 1 [(0, .ref (ad 0))] := hl
  unfold fX8_remember at hf
  obtain ⟨hb, hf⟩ := g_some hf
  obtain ⟨y, hy, hf⟩ := b_some hf
  obtain rfl := Option.some.inj hf
  have hn := inb_lt hb
  generalize hne : Int32.toNatClampNeg (I 0 11) = n at hy hn hf ⊢
  refine lv_aload_n C0.1 C0.2.1 dX8_remember_0 rfl (lv_at hl 0 rfl) ?_
  refine s_get (v := .ref (ad 63)) C0 hK hW 0 6 LY_X8_0 rfl fg_X8_46 rfl dX8_remember_1 ?_
  refine lv_aload_n C0.1 C0.2.1 dX8_remember_4 rfl (lv_at hl 0 rfl) ?_
  refine s_get (v := .int (I 0 11)) C0 hK hW 0 11 LY_X8_0 rfl fg_X8_172 rfl dX8_remember_5 ?_
  refine s_aald C0 hK hW 63 LY_X8_63 rfl rfl hb (by rw [hne]; exact hPP n hn) dX8_remember_8 ?_
  refine lv_aload_n C0.1 C0.2.1 dX8_remember_9 rfl (lv_at hl 0 rfl) ?_
  refine s_get (v := .ref (ad 4)) C0 hK hW 0 1 LY_X8_0 rfl fg_X8_19 rfl dX8_remember_10 ?_
  refine c_Vv C0 hK hN hl.1 hW hA (KX4_copyFrom l D cy (fun q => ad ((plP n).getD q 0)) (fun q => P ((plP n).getD q 0)) (fun q => Vx LY_X8 ad V ((plP n).getD q 0)) (fun q => I ((plP n).getD q 0)) (fun q => J ((plP n).getD q 0)) (fun q => A ((plP n).getD q 0)) (fun q => B ((plP n).getD q 0)) hy) (JN_sub (pl := plP n) (sbP n hn) (ndP n hn) rfl rfl rfl rfl) (Uw_V uw_695 uw_696 uw_697 uw_7 uw_698) rfl rfl hd_X4_copyFrom ⟨rfl, rfl⟩ rfl (dn_some (atP n hn)) rfl rfl rfl dX8_remember_13 ⟨Nat.zero_le _, Nat.zero_le _⟩ (fun H locs hW => ?_)
  have hW : wd D (dn cy LY_X8 ad P V (gp I (rI n y)) (gp J []) (gm A (rA n y)) (gm B [])) Af s.heap H locs := hW
  have e1 : gp I (rI n y) 0 11 = I 0 11 := gp_near (rI_in hn) (by omega) 11
  have e2 : gp I (rI n y) 0 12 = I 0 12 := gp_near (rI_in hn) (by omega) 12
  have hW : wd D (dn cy LY_X8 ad P V (gp (gp I (rI n y)) [(0, 11, I 0 11), (0, 12, I 0 12)]) (gp J []) (gm A (rA n y)) (gm B [])) Af s.heap H locs := by
    have h := wd_sel [(0, 11), (0, 12)] [] [] [] hW
    have h : wd D (dn cy LY_X8 ad P V (gp (gp I (rI n y)) [(0, 11, gp I (rI n y) 0 11), (0, 12, gp I (rI n y) 0 12)]) (gp J []) (gm A (rA n y)) (gm B [])) Af s.heap H locs := h
    rw [e1, e2] at h
    exact h
  refine lv_aload_n C0.1 C0.2.1 dX8_remember_16 rfl (lv_at hl 0 rfl) ?_
  refine lv_aload_n C0.1 C0.2.1 dX8_remember_17 rfl (lv_at hl 0 rfl) ?_
  refine s_get (v := .int (I 0 11)) C0 hK hW 0 11 LY_X8_0 rfl fg_X8_172 rfl dX8_remember_18 ?_
  refine lv_iconst (v := 1) C0.1 C0.2.1 dX8_remember_21 kI_1 ?_
  refine lv_iadd C0.1 C0.2.1 dX8_remember_22 ?_
  refine lv_bipush (v := 16) C0.1 C0.2.1 dX8_remember_23 kB_16 ?_
  refine lv_irem C0.1 C0.2.1 dX8_remember_25 (by decide) ?_
  refine s_putI C0 hK hW 0 11 LY_X8_0 rfl fg_X8_172 fp_X8_11 rfl dX8_remember_26 (fun H locs hW => ?_)
  have hW : wd D (dn cy LY_X8 ad P V (gp (gp I (rI n y)) [(0, 11, I 0 11 + 1 - (I 0 11 + 1) / 16 * 16), (0, 12, I 0 12)]) (gp J []) (gm A (rA n y)) (gm B [])) Af s.heap H locs := hW
  refine lv_aload_n C0.1 C0.2.1 dX8_remember_29 rfl (lv_at hl 0 rfl) ?_
  refine lv_aload_n C0.1 C0.2.1 dX8_remember_30 rfl (lv_at hl 0 rfl) ?_
  refine s_get (v := .int (I 0 12)) C0 hK hW 0 12 LY_X8_0 rfl fg_X8_93 rfl dX8_remember_31 ?_
  refine lv_iconst (v := 1) C0.1 C0.2.1 dX8_remember_34 kI_1 ?_
  refine lv_iadd C0.1 C0.2.1 dX8_remember_35 ?_
  refine lv_bipush (v := 16) C0.1 C0.2.1 dX8_remember_36 kB_16 ?_
  refine s_min C0 hl.1 uw_699 uw_700 uw_16 uw_701 (Nat.le_of_ble_eq_true rfl) (Nat.le_of_ble_eq_true rfl) (Nat.zero_le _) (Nat.zero_le _) dX8_remember_38 ?_
  refine s_putI C0 hK hW 0 12 LY_X8_0 rfl fg_X8_93 fp_X8_12 rfl dX8_remember_41 (fun H locs hW => ?_)
  have hW : wd D (dn cy LY_X8 ad P V (gp (gp I (rI n y)) [(0, 11, I 0 11 + 1 - (I 0 11 + 1) / 16 * 16), (0, 12, imin (I 0 12 + 1) 16)]) J (gm A (rA n y)) B) Af s.heap H locs := hW
  exact r_void C0 hK hW dX8_remember_44
theorem rem_n {a b c : Int32} {d e : Nat → Int32} {f g h : Int32} {i j : Nat → Int32} {pn pk : Int32} {y : Int32 × Int32 × List (Nat × Nat × Int32) × List (Nat × (Nat → Int32))} (hf : fX8_remember a b c d e f g h i j pn pk = some y) : Int32.toNatClampNeg pn < 16 := by
  unfold fX8_remember at hf
  exact inb_lt (g_some hf).1
theorem rem_d {a b c : Int32} {d e : Nat → Int32} {f g h : Int32} {i j : Nat → Int32} {pn pk : Int32} {y : Int32 × Int32 × List (Nat × Nat × Int32) × List (Nat × (Nat → Int32))} (hf : fX8_remember a b c d e f g h i j pn pk = some y) : (∀ e ∈ y.2.2.1, 64 ≤ e.1 ∧ e.1 < 112) ∧ (∀ e ∈ y.2.2.2, 64 ≤ e.1 ∧ e.1 < 112) := by
  have hn := rem_n hf
  unfold fX8_remember at hf
  obtain ⟨z, hz, hf⟩ := b_some (g_some hf).2
  obtain rfl := Option.some.inj hf
  exact ⟨rI_in hn, rA_in hn⟩
theorem rem_W {D : va_G} {cy : Nat → ClassId} {lay : List Shp} {ad : Nat → Nat} {P : MP} {V : MV} {I : MI} {J : MJ} {A : MI} {B : MJ} {Af : Nat → Prop} {H0 H : Heap} {locs : List Loc} {LI d : List (Nat × Nat × Int32)} {LA dA : List (Nat × (Nat → Int32))} {a b : Int32}
    (hI : farP 64 112 LI = true) (hA : farM 64 112 LA = true) (h1 : ∀ e ∈ d, 64 ≤ e.1 ∧ e.1 < 112) (h2 : ∀ e ∈ dA, 64 ≤ e.1 ∧ e.1 < 112) (hk : kps_ LI [(0, 11, a), (0, 12, b)] = true)
    (hW : wd D (dn cy lay ad P V (gp (gp (gp (gp I []) LI) d) [(0, 11, a), (0, 12, b)]) J (gm (gm (gm A []) LA) dA) B) Af H0 H locs) : wd D (dn cy lay ad P V (gp (gp I d) (rps_ LI [(0, 11, a), (0, 12, b)])) J (gm (gm A dA) LA) B) Af H0 H locs := by
  rw [gp_comm hI h1, gm_comm hA h2, gp_rps hk] at hW
  exact hW
/-! references that are exchanged -/
def plX_I : List Nat := [0, 1, 2, 3, 4, 5, 6, 7, 8, 9, 10, 11, 12, 13, 14, 15, 16, 17, 18, 19, 20, 21, 22, 23, 24, 25, 26, 27, 28, 29, 30, 31, 32, 33, 34, 35, 36, 37, 38, 39, 40, 41, 42, 43, 44, 45, 46, 47, 48, 49, 50, 51, 52, 53, 54, 55, 56, 57, 58, 59, 60, 61, 62, 63, 64, 65, 66, 67, 68, 69, 70, 71, 72, 73, 74, 75, 76, 77, 78, 79, 80, 81, 82, 83, 84, 85, 86, 87, 88, 89, 90, 91, 92, 93, 94, 95, 96, 97, 98, 99, 100, 101, 102, 103, 104, 105, 106, 107, 108, 109, 110, 111, 112, 113, 114, 115, 116, 117, 118, 119, 120, 121, 122, 123, 124, 125, 126, 127, 128, 129, 130, 131, 132, 133, 134, 135, 136, 137, 138, 139, 140, 141, 142, 143, 144, 145, 146, 147, 148, 149]
def plX_T : List Nat := [0, 1, 2, 3, 4, 5, 6, 7, 8, 9, 10, 11, 12, 13, 14, 15, 16, 17, 18, 19, 20, 21, 22, 23, 24, 25, 26, 27, 28, 29, 30, 31, 32, 33, 34, 35, 36, 37, 38, 39, 40, 41, 42, 43, 44, 45, 46, 47, 48, 49, 50, 51, 52, 53, 54, 55, 56, 57, 58, 59, 60, 61, 62, 63, 64, 65, 66, 67, 68, 69, 70, 71, 72, 73, 74, 75, 76, 77, 78, 79, 80, 81, 82, 83, 84, 85, 86, 87, 88, 89, 90, 91, 92, 93, 94, 95, 96, 97, 98, 99, 100, 101, 102, 103, 104, 105, 106, 107, 108, 109, 110, 111, 127, 128, 129, 130, 131, 132, 133, 134, 135, 136, 137, 138, 139, 140, 141, 112, 113, 114, 115, 116, 117, 118, 119, 120, 121, 122, 123, 124, 125, 126, 142, 143, 144, 145, 146, 147, 148, 149]
def plX_W : List Nat := [0, 1, 2, 3, 4, 5, 6, 7, 8, 9, 10, 11, 12, 13, 14, 15, 16, 17, 18, 19, 20, 21, 22, 23, 24, 25, 26, 27, 28, 29, 30, 31, 32, 33, 34, 35, 36, 37, 38, 39, 40, 41, 42, 43, 44, 45, 46, 47, 48, 49, 50, 51, 52, 53, 54, 55, 56, 57, 58, 59, 60, 61, 62, 63, 64, 65, 66, 67, 68, 69, 70, 71, 72, 73, 74, 75, 76, 77, 78, 79, 80, 81, 82, 83, 84, 85, 86, 87, 88, 89, 90, 91, 92, 93, 94, 95, 96, 97, 98, 99, 100, 101, 102, 103, 104, 105, 106, 107, 108, 109, 110, 111, 112, 113, 114, 115, 116, 117, 118, 119, 120, 121, 122, 123, 124, 125, 126, 127, 128, 129, 130, 131, 132, 133, 134, 135, 136, 137, 138, 139, 140, 141, 146, 147, 148, 149, 142, 143, 144, 145]
def plX_S (b : Bool) (pl : List Nat) : List Nat := bif b then pl else plX_I
theorem sbX_I : subB LY_X8 plX_I LY_X8 plX_I = true := by decide +kernel
theorem ndX_I : nd_ plX_I = true := by decide +kernel
theorem sbX_T : subB LY_X8_terrace33 plX_T LY_X8 plX_T = true := by decide +kernel
theorem ndX_T : nd_ plX_T = true := by decide +kernel
theorem sbX_W : subB LY_X8_winter37 plX_W LY_X8 plX_W = true := by decide +kernel
theorem ndX_W : nd_ plX_W = true := by decide +kernel
theorem fp_X8_7 : FP 8 7 (.object "CoalHoles$Terrace") := ⟨RX8, TX8, 14, tyX8, rfl, tyX8_ok, nmX8, rfl, by decide +kernel⟩
theorem fp_X8_8 : FP 8 8 (.object "CoalHoles$Terrace") := ⟨RX8, TX8, 14, tyX8, rfl, tyX8_ok, nmX8, rfl, by decide +kernel⟩
theorem fp_X8_9 : FP 8 9 (.object "CoalHoles$Winter") := ⟨RX8, TX8, 14, tyX8, rfl, tyX8_ok, nmX8, rfl, by decide +kernel⟩
theorem fp_X8_10 : FP 8 10 (.object "CoalHoles$Winter") := ⟨RX8, TX8, 14, tyX8, rfl, tyX8_ok, nmX8, rfl, by decide +kernel⟩
theorem wd_ren {D : va_G} {cy : Nat → ClassId} {lay lay' : List Shp} {pl : List Nat} {ad : Nat → Nat} {P : MP} {V : MV} {I : MI} {J : MJ} {A : MI} {B : MJ} {Af : Nat → Prop} {H0 H : Heap} {locs : List Loc} (hs : subB lay pl lay' pl = true) (hn : nd_ pl = true) (hW : wd D (dn cy lay ad P V I J A B) Af H0 H locs) :
    wd D (dn cy lay' (fun q => ad (pl.getD q 0)) (fun q => P (pl.getD q 0)) (fun q => Vx lay ad V (pl.getD q 0)) (fun q => I (pl.getD q 0)) (fun q => J (pl.getD q 0)) (fun q => A (pl.getD q 0)) (fun q => B (pl.getD q 0))) Af H0 H locs := by
  have h := JN_sub (cy := cy) (ad := ad) (P := P) (V := V) (I := I) (J := J) (A := A) (B := B) (cI := []) (cJ := []) (cA := []) (cB := []) hs hn rfl rfl rfl rfl
  exact ⟨h.sub hW.1, h.subD hW.2.1, hW.2.2⟩
theorem dn_setR {cy : Nat → ClassId} {lay : List Shp} {ad : Nat → Nat} {P : MP} {V : MV} {I : MI} {J : MJ} {A : MI} {B : MJ} {k j c t : Nat} {fs : List (Nat × Nat)} {f : Nat × Nat} (hx : lay[k]? = some (.inr (c, fs))) (hf : fs[j]? = some f) :
    (dn cy lay ad P V I J A B).set k (ad k, .inr (c, (dFs ad V I J k 0 fs).set j (.ref (ad t)))) = dn cy (lay.set k (.inr (c, fs.set j (2, t)))) ad P V I J A B := by
  apply dn_ext
  intro i
  rw [List.getElem?_set, List.getElem?_set]
  by_cases hi : k = i
  · subst hi
    have hl : k < (dn cy lay ad P V I J A B).length := by
      have h1 : (dn cy lay ad P V I J A B)[k]? ≠ none := by rw [dn_some hx]; simp
      exact Classical.byContradiction fun h => h1 (List.getElem?_eq_none (Nat.le_of_not_lt h))
    have hl2 : k < lay.length := (List.getElem?_eq_some_iff.mp hx).1
    rw [if_pos rfl, if_pos hl, if_pos rfl, if_pos hl2]
    simp only [Option.map_some, dE, Option.some.injEq, Prod.mk.injEq, true_and, Sum.inr.injEq]
    apply List.ext_getElem?
    intro b
    rw [List.getElem?_set, dFs_get, dFs_get, dFs_len, List.getElem?_set]
    have hj : j < fs.length := (List.getElem?_eq_some_iff.mp hf).1
    by_cases hb : j = b
    · subst hb
      rw [if_pos rfl, if_pos hj, if_pos rfl, if_pos hj]
      simp [dF]
    · rw [if_neg hb, if_neg hb]
  · rw [if_neg hi, if_neg hi, dn_get]
section PR
variable {p : Program} {l : Launch} {e : Env} {R : Room} {s : State} {m : MethodId} {args : Array Value} {below : List Frame} {meth : Method} {c : Code} {H : Heap} {locs : List Loc} {cells slots : Nat} {Q : State → Prop}
variable {cc : ByteArray} {nL pc : Nat} {ret : Option FieldType} {own : String} {ls : Array Slot} {rest : List Value} {D : va_G} {Af : Nat → Prop} {H0 : Heap}
variable {cy : Nat → ClassId} {lay lay' : List Shp} {ad : Nat → Nat} {P : MP} {V : MV} {I : MI} {J : MJ} {A : MI} {B : MJ}
theorem s_putR (C0 : CX p s m args meth c cc nL ret own) (hK : va_K D vwCl (tyG cy) s) (hW : wd D (dn cy lay ad P V I J A B) Af H0 H locs) (q k : Nat) {ci idx t : Nat} {fs : List (Nat × Nat)} (hx : lay[q]? = some (.inr (ci, fs))) {f : Nat × Nat} (hf : fs[k]? = some f) (hg : FG own idx ci k) {ty : FieldType} (hp : FP ci k ty) (hn : narrow ty (.ref (ad t)) = .ref (ad t)) (hfit : fits ty (.ref (ad t)) = true) (hl : lay.set q (.inr (ci, fs.set k (2, t))) = lay') (hdg : decode cc pc = .ok (.putfield idx, 3))
    (kk : ∀ (H : Heap) (locs : List Loc), wd D (dn cy lay' ad P V I J A B) Af H0 H locs → W p l e R s m args below meth c H locs cells slots Q (F0 m (pc + 3) ls rest)) : W p l e R s m args below meth c H locs cells slots Q (F0 m pc ls (.ref (ad t) :: .ref (ad q) :: rest)) :=
  s_put C0 hK hW q k hx hf hg hp hn hfit (by rw [dn_setR hx hf, hl]) hdg kk
end PR
