/-! the law's rests: the class's world with the law's row behind it -/
def okS (n : Nat) : Shp → Bool
  | .inl _ => true
  | .inr x => x.2.all (fun f => !(Nat.beq f.1 2) || Nat.blt f.2 n)
section CG9
variable {cy : Nat → ClassId} {ad ad' : Nat → Nat} {P : MP} {V : MV} {I : MI} {J : MJ} {A : MI} {B B' : MJ}
theorem dFs_cg {n q : Nat} {fs : List (Nat × Nat)} (hr : fs.all (fun f => !(Nat.beq f.1 2) || Nat.blt f.2 n) = true) (h1 : ∀ q, q < n → ad' q = ad q) {k0 : Nat} : dFs ad' V I J q k0 fs = dFs ad V I J q k0 fs := by
  induction fs generalizing k0 with
  | nil => rfl
  | cons x r ih =>
    rw [List.all_cons, Bool.and_eq_true] at hr
    obtain ⟨ha, hb⟩ := hr
    show dF ad' V I J q k0 x :: dFs ad' V I J q (k0 + 1) r = dF ad V I J q k0 x :: dFs ad V I J q (k0 + 1) r
    rw [ih hb]
    congr 1
    obtain ⟨a, t⟩ := x
    match a with
    | 0 => rfl
    | 1 => rfl
    | 2 =>
      have ht : Nat.blt t n = true := ha
      have ht : t < n := Nat.le_of_ble_eq_true ht
      show Value.ref (ad' t) = Value.ref (ad t)
      rw [h1 t ht]
    | (n + 3) => rfl
theorem dn_cg {lay : List Shp} {n : Nat} (hl : Nat.ble lay.length n = true) (hr : lay.all (okS n) = true) (h1 : ∀ q, q < n → ad' q = ad q) (h2 : ∀ q, q < n → B' q = B q) : dn cy lay ad' P V I J A B' = dn cy lay ad P V I J A B := by
  apply List.ext_getElem?
  intro k
  rw [dn_get, dn_get]
  cases hx : lay[k]? with
  | none => rfl
  | some x =>
    have hk : k < n := Nat.lt_of_lt_of_le (List.getElem?_eq_some_iff.mp hx).1 (Nat.le_of_ble_eq_true hl)
    have ho := List.all_eq_true.mp hr x (List.mem_of_getElem? hx)
    simp only [Option.map_some, Option.some.injEq, Prod.mk.injEq]
    refine ⟨h1 k hk, ?_⟩
    cases x with
    | inl x => simp only [dE, dA, h2 k hk]
    | inr x =>
      show Sum.inr (x.1, dFs ad' V I J k 0 x.2) = Sum.inr (x.1, dFs ad V I J k 0 x.2)
      rw [dFs_cg ho h1]
theorem den_app {lay lay' : List Shp} {q : Nat} : den cy ad P V I J A B q (lay ++ lay') = den cy ad P V I J A B q lay ++ den cy ad P V I J A B (q + lay.length) lay' := by
  induction lay generalizing q with
  | nil => rfl
  | cons x r ih =>
    show (ad q, dE cy ad P V I J A B q x) :: den cy ad P V I J A B (q + 1) (r ++ lay') = _
    rw [ih, show q + 1 + r.length = q + (x :: r).length by rw [List.length_cons]; omega]
    rfl
set_option maxRecDepth 100000 in
theorem LYx_aJ : LY_X8aJ 1 = LY_X8 ++ [.inl (2, 1)] := rfl
set_option maxRecDepth 100000 in
theorem LY_150 : LY_X8.length = 150 := rfl
set_option maxRecDepth 100000 in
theorem LY_ok : LY_X8.all (okS 150) = true := rfl
theorem dn_aJ : dn cy (LY_X8aJ 1) ad P V I J A B = dn cy LY_X8 ad P V I J A B ++ [(ad 150, .inl (cy 2, 1, .inr (.inl (B 150))))] := by
  unfold dn
  rw [LYx_aJ, den_app, LY_150]
  rfl
theorem dn_aJ2 {ao : Nat} {bo : Nat → Int64} : dn cy (LY_X8aJ 1) (va_up ad 150 ao) P V I J A (va_up B 150 bo) = dn cy LY_X8 ad P V I J A B ++ [(ao, .inl (cy 2, 1, .inr (.inl bo)))] := by
  rw [dn_aJ, dn_cg (ad := ad) (ad' := va_up ad 150 ao) (B := B) (B' := va_up B 150 bo) (n := 150) (by rw [LY_150]; rfl) LY_ok (fun q hq => if_neg (by omega)) (fun q hq => if_neg (by omega))]
  simp only [va_up, if_true]
theorem dn_aJ3 {ao : Nat} {bo bo2 : Nat → Int64} : dn cy (LY_X8aJ 1) (va_up ad 150 ao) P V (gp I []) (gp J []) (gm A []) (gm (va_up B 150 bo) [(150, bo2)]) = dn cy LY_X8 ad P V I J A B ++ [(ao, .inl (cy 2, 1, .inr (.inl bo2)))] := by
  have e : gm (va_up B 150 bo) [(150, bo2)] = va_up B 150 bo2 := by
    funext q
    show (bif Nat.beq q 150 then bo2 else va_up B 150 bo q) = va_up B 150 bo2 q
    by_cases hq : q = 150
    · subst hq; simp [va_up]
    · rw [nb_ne hq]; simp [va_up, hq]
  rw [e]
  exact dn_aJ2
end CG9
set_option maxHeartbeats 4000000 in
set_option maxRecDepth 100000 in
theorem sp_rests (l : Launch) (h0 : l.stackTraces = false) (D : va_G) {cy : Nat → ClassId} {N ax am ao : Nat} {wx wm : va_W} {bo : Nat → Int64} (v1 v2 v3 v4 : Int32) (h : LI cy N ax am wx wm) : ∃ (k r : Int32) (bo2 : Nat → Int64) (wm2 : va_W),
    LG l yL_rests cL_rests 7 (some .int) [(0, 14, 17, 13)] rmL_rests D cy (wx ++ [(ao, .inl (cy 2, 1, .inr (.inl bo)))]) [.ref ax, .int v1, .int v2, .int v3, .int v4, .ref ao] (some (.int k)) (wx ++ [(ao, .inl (cy 2, 1, .inr (.inl bo2)))]) ∧
    CG l yX9_rests cX9_rests 9 (some .int) rmX9_rests D cy wm [.ref am, .int v1, .int v2, .int v3, .int v4] (some (.int r)) wm2 ∧ CG l yX9_thrown cX9_thrown 1 (some .int) rmX9_thrown D cy wm2 [.ref am] (some (.int k)) wm2 ∧ (k = 0 → bo2 0 = r.toInt64) ∧ LI cy (N + 1) ax am wx wm2 := by
  obtain ⟨ad, P, V, I, J, A, B, ad9, P9, V9, I9, J9, A9, B9, rfl, rfl, rfl, rfl, hPP, hPM, R⟩ := h
  obtain ⟨w, e9, R2, hh⟩ := st_rests (J := J) (J9 := J9) v1 v2 v3 v4 R
  have k9 := KX9_rests l D cy ad9 P9 V9 I9 J9 A9 B9 v1 v2 v3 v4 e9
  have kt := KX9_thrown l D cy ad9 P9 V9 (gp I9 [(0, 0, w.2)]) (gp J9 []) (gm A9 []) (gm B9 []) (res := w.2) rfl
  have hu : (va_up ad 150 ao) 150 = ao := if_pos rfl
  have hz : (va_up ad 150 ao) 0 = ad 0 := rfl
  rcases hh with ⟨g1, g2⟩ | ⟨g1, g2⟩
  · have hf : fL_rests 1 ((va_up B 150 bo) 150) v1 v2 v3 v4 = some (0, vp_updL ((va_up B 150 bo) 150) (Int32.toNatClampNeg 0) (Int32.toInt64 w.1)) := by
      unfold fL_rests
      rw [g2]
      rfl
    have k8 := KL_rests l D cy 1 (va_up ad 150 ao) P V I J A (va_up B 150 bo) v1 v2 v3 v4 hf
    rw [dn_aJ2, dn_aJ3, hu, hz] at k8
    rw [g1] at kt
    refine ⟨0, w.1, _, _, k8, k9, ?_, fun _ => ?_, ad, P, V, I, J, A, B, ad9, P9, V9, _, _, _, _, rfl, rfl, rfl, rfl, hPP, hPM, Rel_mono (by omega) R2⟩
    · rw [g1]; exact kt
    · rfl
  · have k8 := KL_restsT l h0 D cy 1 (va_up ad 150 ao) P V I J A (va_up B 150 bo) v1 v2 v3 v4 g2
    have e : dn cy (LY_X8aJ 1) (va_up ad 150 ao) P V (gp I []) (gp J []) (gm A []) (gm (va_up B 150 bo) []) = dn cy LY_X8 ad P V I J A B ++ [(ao, .inl (cy 2, 1, .inr (.inl bo)))] := dn_aJ2
    rw [e, dn_aJ2, hu, hz] at k8
    rw [g1] at kt
    refine ⟨1, w.1, _, _, k8, k9, ?_, fun h => absurd h (by decide), ad, P, V, I, J, A, B, ad9, P9, V9, _, _, _, _, rfl, rfl, rfl, rfl, hPP, hPM, Rel_mono (by omega) R2⟩
    rw [g1]; exact kt
