/-! every call: both contracts, one answer, the relation kept -/
def LI (cy : Nat → ClassId) (N ax am : Nat) (wx wm : va_W) : Prop := ∃ (ad : Nat → Nat) (P : MP) (V : MV) (I : MI) (J : MJ) (A : MI) (B : MJ) (ad9 : Nat → Nat) (P9 : MP) (V9 : MV) (I9 : MI) (J9 : MJ) (A9 : MI) (B9 : MJ), wx = dn cy LY_X8 ad P V I J A B ∧ wm = dn cy LY_X9 ad9 P9 V9 I9 J9 A9 B9 ∧ ad 0 = ax ∧ ad9 0 = am ∧ PPast ad P ∧ PMark ad P ∧ Rel N I A B I9 A9 B9
theorem LI.x {cy : Nat → ClassId} {N ax am : Nat} {wx wm : va_W} (h : LI cy N ax am wx wm) : ∃ fs, wx[0]? = some (ax, .inr (8, fs)) := by
  obtain ⟨ad, P, V, I, J, A, B, ad9, P9, V9, I9, J9, A9, B9, rfl, -, rfl, -⟩ := h
  exact ⟨_, dn_some LY_X8_0⟩
theorem LI.m {cy : Nat → ClassId} {N ax am : Nat} {wx wm : va_W} (h : LI cy N ax am wx wm) : ∃ fs, wm[0]? = some (am, .inr (9, fs)) := by
  obtain ⟨ad, P, V, I, J, A, B, ad9, P9, V9, I9, J9, A9, B9, -, rfl, -, rfl, -⟩ := h
  exact ⟨_, dn_some LY_X9_0⟩
theorem PP_at {ad ad' : Nat → Nat} {P P' : MP} (h1 : ∀ q, q < 112 → ad' q = ad q) (h2 : ∀ q, q < 112 → P' q = P q) (h : PPast ad P) : PPast ad' P' := fun n hn => by
  rw [h2 63 (by omega), h1 _ (by omega)]; exact h n hn
theorem PM_at {ad ad' : Nat → Nat} {P P' : MP} (h1 : ∀ q, q < 112 → ad' q = ad q) (h2 : ∀ q, q < 112 → P' q = P q) (h : PMark ad P) : PMark ad' P' := fun n hn => by
  rw [h2 18 (by omega), h1 _ (by omega)]; exact h n hn
set_option maxHeartbeats 4000000 in
set_option maxRecDepth 100000 in
theorem sp_feed (l : Launch) (D : va_G) {cy : Nat → ClassId} {N ax am : Nat} {wx wm : va_W} (v1 : Int64) (v3 : Int64) (v5 : Int64) (hN : N < 1800) (h : LI cy N ax am wx wm) : ∃ (r : Int32) (wx2 wm2 : va_W), CG l yX8_feed cX8_feed 7 (some .int) rmX8_feed D cy wx [.ref ax, .long v1, .long v3, .long v5] (some (.int r)) wx2 ∧ CG l yX9_feed cX9_feed 11 (some .int) rmX9_feed D cy wm [.ref am, .long v1, .long v3, .long v5] (some (.int r)) wm2 ∧ LI cy (N + 1) ax am wx2 wm2 := by
  obtain ⟨ad, P, V, I, J, A, B, ad9, P9, V9, I9, J9, A9, B9, rfl, rfl, rfl, rfl, hPP, hPM, R⟩ := h
  obtain ⟨r, w, e8, e9, hr, R2⟩ := st_feed (J := J) (J9 := J9) v1 v3 v5 (by omega) R
  have k8 := KX8_feed l D cy ad P V I J A B v1 v3 v5  e8
  have k9 := KX9_feed l D cy ad9 P9 V9 I9 J9 A9 B9 v1 v3 v5 e9
  rw [← hr] at k9
  exact ⟨r.1, _, _, k8, k9, ad, P, V, _, _, _, _, ad9, P9, V9, _, _, _, _, rfl, rfl, rfl, rfl, hPP, hPM, Rel_mono (by omega) R2⟩
set_option maxHeartbeats 4000000 in
set_option maxRecDepth 100000 in
theorem sp_terrace (l : Launch) (D : va_G) {cy : Nat → ClassId} {N ax am : Nat} {wx wm : va_W}  (hN : N < 1800) (h : LI cy N ax am wx wm) : ∃ (r : Int32) (wx2 wm2 : va_W), CG l yX8_terrace cX8_terrace 4 (some .int) rmX8_terrace D cy wx [.ref ax] (some (.int r)) wx2 ∧ CG l yX9_terrace cX9_terrace 2 (some .int) rmX9_terrace D cy wm [.ref am] (some (.int r)) wm2 ∧ LI cy (N + 1) ax am wx2 wm2 := by
  obtain ⟨ad, P, V, I, J, A, B, ad9, P9, V9, I9, J9, A9, B9, rfl, rfl, rfl, rfl, hPP, hPM, R⟩ := h
  obtain ⟨r, w, e8, e9, hr, R2⟩ := st_terrace (J := J) (J9 := J9)  (by omega) R
  have k8 := KX8_terrace l D cy ad P V I J A B  hPM e8
  have k9 := KX9_terrace l D cy ad9 P9 V9 I9 J9 A9 B9  e9
  rw [← hr] at k9
  exact ⟨r.1, _, _, k8, k9, _, _, _, _, _, _, _, ad9, P9, V9, _, _, _, _, rfl, rfl, (congrArg ad (plT_id _ 0 (by decide))), rfl, PP_at (fun q hq => congrArg ad (plT_id _ q hq)) (fun q hq => congrArg P (plT_id _ q hq)) hPP, PM_at (fun q hq => congrArg ad (plT_id _ q hq)) (fun q hq => congrArg P (plT_id _ q hq)) hPM, Rel_mono (by omega) R2⟩
set_option maxHeartbeats 4000000 in
set_option maxRecDepth 100000 in
theorem sp_winter (l : Launch) (D : va_G) {cy : Nat → ClassId} {N ax am : Nat} {wx wm : va_W}  (hN : N < 1800) (h : LI cy N ax am wx wm) : ∃ (r : Int32) (wx2 wm2 : va_W), CG l yX8_winter cX8_winter 3 (some .int) rmX8_winter D cy wx [.ref ax] (some (.int r)) wx2 ∧ CG l yX9_winter cX9_winter 1 (some .int) rmX9_winter D cy wm [.ref am] (some (.int r)) wm2 ∧ LI cy (N + 1) ax am wx2 wm2 := by
  obtain ⟨ad, P, V, I, J, A, B, ad9, P9, V9, I9, J9, A9, B9, rfl, rfl, rfl, rfl, hPP, hPM, R⟩ := h
  obtain ⟨r, w, e8, e9, hr, R2⟩ := st_winter (J := J) (J9 := J9)  (by omega) R
  have k8 := KX8_winter l D cy ad P V I J A B   e8
  have k9 := KX9_winter l D cy ad9 P9 V9 I9 J9 A9 B9  e9
  rw [← hr] at k9
  exact ⟨r.1, _, _, k8, k9, _, _, _, _, _, _, _, ad9, P9, V9, _, _, _, _, rfl, rfl, (congrArg ad (plW_id _ 0 (by decide))), rfl, PP_at (fun q hq => congrArg ad (plW_id _ q hq)) (fun q hq => congrArg P (plW_id _ q hq)) hPP, PM_at (fun q hq => congrArg ad (plW_id _ q hq)) (fun q hq => congrArg P (plW_id _ q hq)) hPM, Rel_mono (by omega) R2⟩
set_option maxHeartbeats 4000000 in
set_option maxRecDepth 100000 in
theorem sp_hole (l : Launch) (D : va_G) {cy : Nat → ClassId} {N ax am : Nat} {wx wm : va_W} (v1 : Int32) (v2 : Int32) (hN : N < 1800) (h : LI cy N ax am wx wm) : ∃ (r : Int32) (wx2 wm2 : va_W), CG l yX8_hole cX8_hole 3 (some .int) rmX8_hole D cy wx [.ref ax, .int v1, .int v2] (some (.int r)) wx2 ∧ CG l yX9_hole cX9_hole 6 (some .int) rmX9_hole D cy wm [.ref am, .int v1, .int v2] (some (.int r)) wm2 ∧ LI cy (N + 1) ax am wx2 wm2 := by
  obtain ⟨ad, P, V, I, J, A, B, ad9, P9, V9, I9, J9, A9, B9, rfl, rfl, rfl, rfl, hPP, hPM, R⟩ := h
  obtain ⟨r, w, e8, e9, hr, R2⟩ := st_hole (J := J) (J9 := J9) v1 v2 (by omega) R
  have k8 := KX8_hole l D cy ad P V I J A B v1 v2  e8
  have k9 := KX9_hole l D cy ad9 P9 V9 I9 J9 A9 B9 v1 v2 e9
  rw [← hr] at k9
  exact ⟨r.1, _, _, k8, k9, ad, P, V, _, _, _, _, ad9, P9, V9, _, _, _, _, rfl, rfl, rfl, rfl, hPP, hPM, Rel_mono (by omega) R2⟩
set_option maxHeartbeats 4000000 in
set_option maxRecDepth 100000 in
theorem sp_guest (l : Launch) (D : va_G) {cy : Nat → ClassId} {N ax am : Nat} {wx wm : va_W} (v1 : Int32) (v2 : Int32) (hN : N < 1800) (h : LI cy N ax am wx wm) : ∃ (r : Int32) (wx2 wm2 : va_W), CG l yX8_guest cX8_guest 3 (some .int) rmX8_guest D cy wx [.ref ax, .int v1, .int v2] (some (.int r)) wx2 ∧ CG l yX9_guest cX9_guest 3 (some .int) rmX9_guest D cy wm [.ref am, .int v1, .int v2] (some (.int r)) wm2 ∧ LI cy (N + 1) ax am wx2 wm2 := by
  obtain ⟨ad, P, V, I, J, A, B, ad9, P9, V9, I9, J9, A9, B9, rfl, rfl, rfl, rfl, hPP, hPM, R⟩ := h
  obtain ⟨r, w, e8, e9, hr, R2⟩ := st_guest (J := J) (J9 := J9) v1 v2 (by omega) R
  have k8 := KX8_guest l D cy ad P V I J A B v1 v2  e8
  have k9 := KX9_guest l D cy ad9 P9 V9 I9 J9 A9 B9 v1 v2 e9
  rw [← hr] at k9
  exact ⟨r, _, _, k8, k9, ad, P, V, _, _, _, _, ad9, P9, V9, _, _, _, _, rfl, rfl, rfl, rfl, hPP, hPM, Rel_mono (by omega) R2⟩
set_option maxHeartbeats 4000000 in
set_option maxRecDepth 100000 in
theorem sp_down (l : Launch) (D : va_G) {cy : Nat → ClassId} {N ax am : Nat} {wx wm : va_W} (v1 : Int32) (v2 : Int32) (hN : N < 1800) (h : LI cy N ax am wx wm) : ∃ (r : Int32) (wx2 wm2 : va_W), CG l yX8_down cX8_down 3 (some .boolean) rmX8_down D cy wx [.ref ax, .int v1, .int v2] (some (.int r)) wx2 ∧ CG l yX9_down cX9_down 3 (some .boolean) rmX9_down D cy wm [.ref am, .int v1, .int v2] (some (.int r)) wm2 ∧ LI cy (N + 1) ax am wx2 wm2 := by
  obtain ⟨ad, P, V, I, J, A, B, ad9, P9, V9, I9, J9, A9, B9, rfl, rfl, rfl, rfl, hPP, hPM, R⟩ := h
  obtain ⟨r, w, e8, e9, hr, R2⟩ := st_down (J := J) (J9 := J9) v1 v2 (by omega) R
  have k8 := KX8_down l D cy ad P V I J A B v1 v2 hPP e8
  have k9 := KX9_down l D cy ad9 P9 V9 I9 J9 A9 B9 v1 v2 e9
  rw [← hr] at k9
  exact ⟨r.1, _, _, k8, k9, ad, P, V, _, _, _, _, ad9, P9, V9, _, _, _, _, rfl, rfl, rfl, rfl, hPP, hPM, Rel_mono (by omega) R2⟩
set_option maxHeartbeats 4000000 in
set_option maxRecDepth 100000 in
theorem sp_up (l : Launch) (D : va_G) {cy : Nat → ClassId} {N ax am : Nat} {wx wm : va_W} (v1 : Int32) (hN : N < 1800) (h : LI cy N ax am wx wm) : ∃ (r : Int32) (wx2 wm2 : va_W), CG l yX8_up cX8_up 2 (some .boolean) rmX8_up D cy wx [.ref ax, .int v1] (some (.int r)) wx2 ∧ CG l yX9_up cX9_up 2 (some .boolean) rmX9_up D cy wm [.ref am, .int v1] (some (.int r)) wm2 ∧ LI cy (N + 1) ax am wx2 wm2 := by
  obtain ⟨ad, P, V, I, J, A, B, ad9, P9, V9, I9, J9, A9, B9, rfl, rfl, rfl, rfl, hPP, hPM, R⟩ := h
  obtain ⟨r, w, e8, e9, hr, R2⟩ := st_up (J := J) (J9 := J9) v1 (by omega) R
  have k8 := KX8_up l D cy ad P V I J A B v1 hPP e8
  have k9 := KX9_up l D cy ad9 P9 V9 I9 J9 A9 B9 v1 e9
  rw [← hr] at k9
  exact ⟨r.1, _, _, k8, k9, ad, P, V, _, _, _, _, ad9, P9, V9, _, _, _, _, rfl, rfl, rfl, rfl, hPP, hPM, Rel_mono (by omega) R2⟩
set_option maxHeartbeats 4000000 in
set_option maxRecDepth 100000 in
theorem sp_through (l : Launch) (D : va_G) {cy : Nat → ClassId} {N ax am : Nat} {wx wm : va_W} (v1 : Int32) (v2 : Int32) (hN : N < 1800) (h : LI cy N ax am wx wm) : ∃ (r : Int32) (wx2 wm2 : va_W), CG l yX8_through cX8_through 3 (some .boolean) rmX8_through D cy wx [.ref ax, .int v1, .int v2] (some (.int r)) wx2 ∧ CG l yX9_through cX9_through 3 (some .boolean) rmX9_through D cy wm [.ref am, .int v1, .int v2] (some (.int r)) wm2 ∧ LI cy (N + 1) ax am wx2 wm2 := by
  obtain ⟨ad, P, V, I, J, A, B, ad9, P9, V9, I9, J9, A9, B9, rfl, rfl, rfl, rfl, hPP, hPM, R⟩ := h
  obtain ⟨r, w, e8, e9, hr, R2⟩ := st_through (J := J) (J9 := J9) v1 v2 (by omega) R
  have k8 := KX8_through l D cy ad P V I J A B v1 v2 hPP e8
  have k9 := KX9_through l D cy ad9 P9 V9 I9 J9 A9 B9 v1 v2 e9
  rw [← hr] at k9
  exact ⟨r.1, _, _, k8, k9, ad, P, V, _, _, _, _, ad9, P9, V9, _, _, _, _, rfl, rfl, rfl, rfl, hPP, hPM, Rel_mono (by omega) R2⟩
set_option maxHeartbeats 4000000 in
set_option maxRecDepth 100000 in
theorem sp_bring (l : Launch) (D : va_G) {cy : Nat → ClassId} {N ax am : Nat} {wx wm : va_W} (v1 : Int32) (hN : N < 1800) (h : LI cy N ax am wx wm) : ∃ (r : Int32) (wx2 wm2 : va_W), CG l yX8_bring cX8_bring 2 (some .int) rmX8_bring D cy wx [.ref ax, .int v1] (some (.int r)) wx2 ∧ CG l yX9_bring cX9_bring 2 (some .int) rmX9_bring D cy wm [.ref am, .int v1] (some (.int r)) wm2 ∧ LI cy (N + 1) ax am wx2 wm2 := by
  obtain ⟨ad, P, V, I, J, A, B, ad9, P9, V9, I9, J9, A9, B9, rfl, rfl, rfl, rfl, hPP, hPM, R⟩ := h
  obtain ⟨r, w, e8, e9, hr, R2⟩ := st_bring (J := J) (J9 := J9) v1 (by omega) R
  have k8 := KX8_bring l D cy ad P V I J A B v1 hPP e8
  have k9 := KX9_bring l D cy ad9 P9 V9 I9 J9 A9 B9 v1 e9
  rw [← hr] at k9
  exact ⟨r.1, _, _, k8, k9, ad, P, V, _, _, _, _, ad9, P9, V9, _, _, _, _, rfl, rfl, rfl, rfl, hPP, hPM, Rel_mono (by omega) R2⟩
set_option maxHeartbeats 4000000 in
set_option maxRecDepth 100000 in
theorem sp_day (l : Launch) (D : va_G) {cy : Nat → ClassId} {N ax am : Nat} {wx wm : va_W}  (hN : N < 1800) (h : LI cy N ax am wx wm) : ∃ (r : Int32) (wx2 wm2 : va_W), CG l yX8_day cX8_day 1 (some .int) rmX8_day D cy wx [.ref ax] (some (.int r)) wx2 ∧ CG l yX9_day cX9_day 1 (some .int) rmX9_day D cy wm [.ref am] (some (.int r)) wm2 ∧ LI cy (N + 1) ax am wx2 wm2 := by
  obtain ⟨ad, P, V, I, J, A, B, ad9, P9, V9, I9, J9, A9, B9, rfl, rfl, rfl, rfl, hPP, hPM, R⟩ := h
  obtain ⟨r, w, e8, e9, hr, R2⟩ := st_day (J := J) (J9 := J9)  (by omega) R
  have k8 := KX8_day l D cy ad P V I J A B  hPP e8
  have k9 := KX9_day l D cy ad9 P9 V9 I9 J9 A9 B9  e9
  rw [← hr] at k9
  exact ⟨r.1, _, _, k8, k9, ad, P, V, _, _, _, _, ad9, P9, V9, _, _, _, _, rfl, rfl, rfl, rfl, hPP, hPM, Rel_mono (by omega) R2⟩
set_option maxHeartbeats 4000000 in
set_option maxRecDepth 100000 in
theorem sp_undo (l : Launch) (D : va_G) {cy : Nat → ClassId} {N ax am : Nat} {wx wm : va_W}  (hN : N < 1800) (h : LI cy N ax am wx wm) : ∃ (r : Int32) (wx2 wm2 : va_W), CG l yX8_undo cX8_undo 1 (some .boolean) rmX8_undo D cy wx [.ref ax] (some (.int r)) wx2 ∧ CG l yX9_undo cX9_undo 1 (some .boolean) rmX9_undo D cy wm [.ref am] (some (.int r)) wm2 ∧ LI cy (N + 1) ax am wx2 wm2 := by
  obtain ⟨ad, P, V, I, J, A, B, ad9, P9, V9, I9, J9, A9, B9, rfl, rfl, rfl, rfl, hPP, hPM, R⟩ := h
  obtain ⟨r, w, e8, e9, hr, R2⟩ := st_undo (J := J) (J9 := J9)  (by omega) R
  have k8 := KX8_undo l D cy ad P V I J A B  hPP e8
  have k9 := KX9_undo l D cy ad9 P9 V9 I9 J9 A9 B9  e9
  rw [← hr] at k9
  exact ⟨r.1, _, _, k8, k9, ad, P, V, _, _, _, _, ad9, P9, V9, _, _, _, _, rfl, rfl, rfl, rfl, hPP, hPM, Rel_mono (by omega) R2⟩
set_option maxHeartbeats 4000000 in
set_option maxRecDepth 100000 in
theorem sp_judged (l : Launch) (D : va_G) {cy : Nat → ClassId} {N ax am : Nat} {wx wm : va_W} (v1 : Int32) (hN : N < 1800) (h : LI cy N ax am wx wm) : ∃ (r : Int32) (wx2 wm2 : va_W), CG l yX8_judged cX8_judged 2 (some .int) rmX8_judged D cy wx [.ref ax, .int v1] (some (.int r)) wx2 ∧ CG l yX9_judged cX9_judged 4 (some .int) rmX9_judged D cy wm [.ref am, .int v1] (some (.int r)) wm2 ∧ LI cy (N + 1) ax am wx2 wm2 := by
  obtain ⟨ad, P, V, I, J, A, B, ad9, P9, V9, I9, J9, A9, B9, rfl, rfl, rfl, rfl, hPP, hPM, R⟩ := h
  obtain ⟨r, w, e8, e9, hr, R2⟩ := st_judged (J := J) (J9 := J9) v1 (by omega) R
  have k8 := KX8_judged l D cy ad P V I J A B v1  e8
  have k9 := KX9_judged l D cy ad9 P9 V9 I9 J9 A9 B9 v1 e9
  rw [← hr] at k9
  exact ⟨r.1, _, _, k8, k9, ad, P, V, _, _, _, _, ad9, P9, V9, _, _, _, _, rfl, rfl, rfl, rfl, hPP, hPM, Rel_mono (by omega) R2⟩
set_option maxHeartbeats 4000000 in
set_option maxRecDepth 100000 in
theorem sp_lasts (l : Launch) (D : va_G) {cy : Nat → ClassId} {N ax am : Nat} {wx wm : va_W} (v1 : Int32) (hN : N < 1800) (h : LI cy N ax am wx wm) : ∃ (r : Int32) (wx2 wm2 : va_W), CG l yX8_lasts cX8_lasts 2 (some .int) rmX8_lasts D cy wx [.ref ax, .int v1] (some (.int r)) wx2 ∧ CG l yX9_lasts cX9_lasts 2 (some .int) rmX9_lasts D cy wm [.ref am, .int v1] (some (.int r)) wm2 ∧ LI cy (N + 1) ax am wx2 wm2 := by
  obtain ⟨ad, P, V, I, J, A, B, ad9, P9, V9, I9, J9, A9, B9, rfl, rfl, rfl, rfl, hPP, hPM, R⟩ := h
  obtain ⟨r, w, e8, e9, hr, R2⟩ := st_lasts (J := J) (J9 := J9) v1 (by omega) R
  have k8 := KX8_lasts l D cy ad P V I J A B v1  e8
  have k9 := KX9_lasts l D cy ad9 P9 V9 I9 J9 A9 B9 v1 e9
  rw [← hr] at k9
  exact ⟨r, _, _, k8, k9, ad, P, V, _, _, _, _, ad9, P9, V9, _, _, _, _, rfl, rfl, rfl, rfl, hPP, hPM, Rel_mono (by omega) R2⟩
set_option maxHeartbeats 4000000 in
set_option maxRecDepth 100000 in
theorem sp_safe (l : Launch) (D : va_G) {cy : Nat → ClassId} {N ax am : Nat} {wx wm : va_W} (v1 : Int32) (hN : N < 1800) (h : LI cy N ax am wx wm) : ∃ (r : Int32) (wx2 wm2 : va_W), CG l yX8_safe cX8_safe 3 (some .int) rmX8_safe D cy wx [.ref ax, .int v1] (some (.int r)) wx2 ∧ CG l yX9_safe cX9_safe 3 (some .int) rmX9_safe D cy wm [.ref am, .int v1] (some (.int r)) wm2 ∧ LI cy (N + 1) ax am wx2 wm2 := by
  obtain ⟨ad, P, V, I, J, A, B, ad9, P9, V9, I9, J9, A9, B9, rfl, rfl, rfl, rfl, hPP, hPM, R⟩ := h
  obtain ⟨r, w, e8, e9, hr, R2⟩ := st_safe (J := J) (J9 := J9) v1 (by omega) R
  have k8 := KX8_safe l D cy ad P V I J A B v1  e8
  have k9 := KX9_safe l D cy ad9 P9 V9 I9 J9 A9 B9 v1 e9
  rw [← hr] at k9
  exact ⟨r, _, _, k8, k9, ad, P, V, _, _, _, _, ad9, P9, V9, _, _, _, _, rfl, rfl, rfl, rfl, hPP, hPM, Rel_mono (by omega) R2⟩
set_option maxHeartbeats 4000000 in
set_option maxRecDepth 100000 in
theorem sp_refuge (l : Launch) (D : va_G) {cy : Nat → ClassId} {N ax am : Nat} {wx wm : va_W} (v1 : Int32) (hN : N < 1800) (h : LI cy N ax am wx wm) : ∃ (r : Int32) (wx2 wm2 : va_W), CG l yX8_refuge cX8_refuge 6 (some .int) rmX8_refuge D cy wx [.ref ax, .int v1] (some (.int r)) wx2 ∧ CG l yX9_refuge cX9_refuge 6 (some .int) rmX9_refuge D cy wm [.ref am, .int v1] (some (.int r)) wm2 ∧ LI cy (N + 1) ax am wx2 wm2 := by
  obtain ⟨ad, P, V, I, J, A, B, ad9, P9, V9, I9, J9, A9, B9, rfl, rfl, rfl, rfl, hPP, hPM, R⟩ := h
  obtain ⟨r, w, e8, e9, hr, R2⟩ := st_refuge (J := J) (J9 := J9) v1 (by omega) R
  have k8 := KX8_refuge l D cy ad P V I J A B v1  e8
  have k9 := KX9_refuge l D cy ad9 P9 V9 I9 J9 A9 B9 v1 e9
  rw [← hr] at k9
  exact ⟨r.1, _, _, k8, k9, ad, P, V, _, _, _, _, ad9, P9, V9, _, _, _, _, rfl, rfl, rfl, rfl, hPP, hPM, Rel_mono (by omega) R2⟩
set_option maxHeartbeats 4000000 in
set_option maxRecDepth 100000 in
theorem sp_sacks (l : Launch) (D : va_G) {cy : Nat → ClassId} {N ax am : Nat} {wx wm : va_W} (v1 : Int32) (v2 : Int32) (hN : N < 1800) (h : LI cy N ax am wx wm) : ∃ (r : Int32) (wx2 wm2 : va_W), CG l yX8_sacks cX8_sacks 7 (some .int) rmX8_sacks D cy wx [.ref ax, .int v1, .int v2] (some (.int r)) wx2 ∧ CG l yX9_sacks cX9_sacks 3 (some .int) rmX9_sacks D cy wm [.ref am, .int v1, .int v2] (some (.int r)) wm2 ∧ LI cy (N + 1) ax am wx2 wm2 := by
  obtain ⟨ad, P, V, I, J, A, B, ad9, P9, V9, I9, J9, A9, B9, rfl, rfl, rfl, rfl, hPP, hPM, R⟩ := h
  obtain ⟨r, w, e8, e9, hr, R2⟩ := st_sacks (J := J) (J9 := J9) v1 v2 (by omega) R
  have k8 := KX8_sacks l D cy ad P V I J A B v1 v2  e8
  have k9 := KX9_sacks l D cy ad9 P9 V9 I9 J9 A9 B9 v1 v2 e9
  rw [← hr] at k9
  exact ⟨r, _, _, k8, k9, ad, P, V, _, _, _, _, ad9, P9, V9, _, _, _, _, rfl, rfl, rfl, rfl, hPP, hPM, Rel_mono (by omega) R2⟩
set_option maxHeartbeats 4000000 in
set_option maxRecDepth 100000 in
theorem sp_lodging (l : Launch) (D : va_G) {cy : Nat → ClassId} {N ax am : Nat} {wx wm : va_W} (v1 : Int32) (v2 : Int32) (hN : N < 1800) (h : LI cy N ax am wx wm) : ∃ (r : Int32) (wx2 wm2 : va_W), CG l yX8_lodging cX8_lodging 3 (some .int) rmX8_lodging D cy wx [.ref ax, .int v1, .int v2] (some (.int r)) wx2 ∧ CG l yX9_lodging cX9_lodging 3 (some .int) rmX9_lodging D cy wm [.ref am, .int v1, .int v2] (some (.int r)) wm2 ∧ LI cy (N + 1) ax am wx2 wm2 := by
  obtain ⟨ad, P, V, I, J, A, B, ad9, P9, V9, I9, J9, A9, B9, rfl, rfl, rfl, rfl, hPP, hPM, R⟩ := h
  obtain ⟨r, w, e8, e9, hr, R2⟩ := st_lodging (J := J) (J9 := J9) v1 v2 (by omega) R
  have k8 := KX8_lodging l D cy ad P V I J A B v1 v2  e8
  have k9 := KX9_lodging l D cy ad9 P9 V9 I9 J9 A9 B9 v1 v2 e9
  rw [← hr] at k9
  exact ⟨r.1, _, _, k8, k9, ad, P, V, _, _, _, _, ad9, P9, V9, _, _, _, _, rfl, rfl, rfl, rfl, hPP, hPM, Rel_mono (by omega) R2⟩
set_option maxHeartbeats 4000000 in
set_option maxRecDepth 100000 in
theorem sp_note (l : Launch) (D : va_G) {cy : Nat → ClassId} {N ax am : Nat} {wx wm : va_W} (v1 : Int32) (v2 : Int32) (hN : N < 1800) (h : LI cy N ax am wx wm) : ∃ (r : Int32) (wx2 wm2 : va_W), CG l yX8_note cX8_note 5 (some .int) rmX8_note D cy wx [.ref ax, .int v1, .int v2] (some (.int r)) wx2 ∧ CG l yX9_note cX9_note 7 (some .int) rmX9_note D cy wm [.ref am, .int v1, .int v2] (some (.int r)) wm2 ∧ LI cy (N + 1) ax am wx2 wm2 := by
  obtain ⟨ad, P, V, I, J, A, B, ad9, P9, V9, I9, J9, A9, B9, rfl, rfl, rfl, rfl, hPP, hPM, R⟩ := h
  obtain ⟨r, w, e8, e9, hr, R2⟩ := st_note (J := J) (J9 := J9) v1 v2 (by omega) R
  have k8 := KX8_note l D cy ad P V I J A B v1 v2  e8
  have k9 := KX9_note l D cy ad9 P9 V9 I9 J9 A9 B9 v1 v2 e9
  rw [← hr] at k9
  exact ⟨r, _, _, k8, k9, ad, P, V, _, _, _, _, ad9, P9, V9, _, _, _, _, rfl, rfl, rfl, rfl, hPP, hPM, Rel_mono (by omega) R2⟩
set_option maxHeartbeats 4000000 in
set_option maxRecDepth 100000 in
theorem sp_full (l : Launch) (D : va_G) {cy : Nat → ClassId} {N ax am : Nat} {wx wm : va_W}  (hN : N < 1800) (h : LI cy N ax am wx wm) : ∃ (r : Int32) (wx2 wm2 : va_W), CG l yX8_full cX8_full 4 (some .int) rmX8_full D cy wx [.ref ax] (some (.int r)) wx2 ∧ CG l yX9_full cX9_full 5 (some .int) rmX9_full D cy wm [.ref am] (some (.int r)) wm2 ∧ LI cy (N + 1) ax am wx2 wm2 := by
  obtain ⟨ad, P, V, I, J, A, B, ad9, P9, V9, I9, J9, A9, B9, rfl, rfl, rfl, rfl, hPP, hPM, R⟩ := h
  obtain ⟨r, w, e8, e9, hr, R2⟩ := st_full (J := J) (J9 := J9)  (by omega) R
  have k8 := KX8_full l D cy ad P V I J A B   e8
  have k9 := KX9_full l D cy ad9 P9 V9 I9 J9 A9 B9  e9
  rw [← hr] at k9
  exact ⟨r.1, _, _, k8, k9, ad, P, V, _, _, _, _, ad9, P9, V9, _, _, _, _, rfl, rfl, rfl, rfl, hPP, hPM, Rel_mono (by omega) R2⟩
set_option maxHeartbeats 4000000 in
set_option maxRecDepth 100000 in
theorem sp_pairs (l : Launch) (D : va_G) {cy : Nat → ClassId} {N ax am : Nat} {wx wm : va_W}  (hN : N < 1800) (h : LI cy N ax am wx wm) : ∃ (r : Int32) (wx2 wm2 : va_W), CG l yX8_pairs cX8_pairs 3 (some .int) rmX8_pairs D cy wx [.ref ax] (some (.int r)) wx2 ∧ CG l yX9_pairs cX9_pairs 4 (some .int) rmX9_pairs D cy wm [.ref am] (some (.int r)) wm2 ∧ LI cy (N + 1) ax am wx2 wm2 := by
  obtain ⟨ad, P, V, I, J, A, B, ad9, P9, V9, I9, J9, A9, B9, rfl, rfl, rfl, rfl, hPP, hPM, R⟩ := h
  obtain ⟨r, w, e8, e9, hr, R2⟩ := st_pairs (J := J) (J9 := J9)  (by omega) R
  have k8 := KX8_pairs l D cy ad P V I J A B   e8
  have k9 := KX9_pairs l D cy ad9 P9 V9 I9 J9 A9 B9  e9
  rw [← hr] at k9
  exact ⟨r, _, _, k8, k9, ad, P, V, _, _, _, _, ad9, P9, V9, _, _, _, _, rfl, rfl, rfl, rfl, hPP, hPM, Rel_mono (by omega) R2⟩
set_option maxHeartbeats 4000000 in
set_option maxRecDepth 100000 in
theorem sp_line (l : Launch) (D : va_G) {cy : Nat → ClassId} {N ax am : Nat} {wx wm : va_W} (v1 : Int32) (v2 : Int32) (hN : N < 1800) (h : LI cy N ax am wx wm) : ∃ (r : Int32) (wx2 wm2 : va_W), CG l yX8_line cX8_line 4 (some .int) rmX8_line D cy wx [.ref ax, .int v1, .int v2] (some (.int r)) wx2 ∧ CG l yX9_line cX9_line 3 (some .int) rmX9_line D cy wm [.ref am, .int v1, .int v2] (some (.int r)) wm2 ∧ LI cy (N + 1) ax am wx2 wm2 := by
  obtain ⟨ad, P, V, I, J, A, B, ad9, P9, V9, I9, J9, A9, B9, rfl, rfl, rfl, rfl, hPP, hPM, R⟩ := h
  obtain ⟨r, w, e8, e9, hr, R2⟩ := st_line (J := J) (J9 := J9) v1 v2 (by omega) R
  have k8 := KX8_line l D cy ad P V I J A B v1 v2  e8
  have k9 := KX9_line l D cy ad9 P9 V9 I9 J9 A9 B9 v1 v2 e9
  rw [← hr] at k9
  exact ⟨r, _, _, k8, k9, ad, P, V, _, _, _, _, ad9, P9, V9, _, _, _, _, rfl, rfl, rfl, rfl, hPP, hPM, Rel_mono (by omega) R2⟩
set_option maxHeartbeats 4000000 in
set_option maxRecDepth 100000 in
theorem sp_hear (l : Launch) (D : va_G) {cy : Nat → ClassId} {N ax am : Nat} {wx wm : va_W} (v1 : Int32) (b : Bool) (hN : N < 1800) (h : LI cy N ax am wx wm) : ∃ (r : Int32) (wx2 wm2 : va_W), CG l yX8_hear cX8_hear 3 (some .boolean) rmX8_hear D cy wx [.ref ax, .int v1, .int (nI (b2 b))] (some (.int r)) wx2 ∧ CG l yX9_hear cX9_hear 3 (some .boolean) rmX9_hear D cy wm [.ref am, .int v1, .int (nI (b2 b))] (some (.int r)) wm2 ∧ LI cy (N + 1) ax am wx2 wm2 := by
  obtain ⟨ad, P, V, I, J, A, B, ad9, P9, V9, I9, J9, A9, B9, rfl, rfl, rfl, rfl, hPP, hPM, R⟩ := h
  obtain ⟨r, w, e8, e9, hr, R2⟩ := st_hear (J := J) (J9 := J9) v1 b (by omega) R
  have k8 := KX8_hear l D cy ad P V I J A B v1 (nI (b2 b))  e8
  have k9 := KX9_hear l D cy ad9 P9 V9 I9 J9 A9 B9 v1 (nI (b2 b)) e9
  rw [← hr] at k9
  exact ⟨r.1, _, _, k8, k9, ad, P, V, _, _, _, _, ad9, P9, V9, _, _, _, _, rfl, rfl, rfl, rfl, hPP, hPM, Rel_mono (by omega) R2⟩
set_option maxHeartbeats 4000000 in
set_option maxRecDepth 100000 in
theorem sp_coals (l : Launch) (D : va_G) {cy : Nat → ClassId} {N ax am : Nat} {wx wm : va_W} (v1 : Int32) (hN : N < 1800) (h : LI cy N ax am wx wm) : ∃ (r : Int32) (wx2 wm2 : va_W), CG l yX8_coals cX8_coals 3 (some .int) rmX8_coals D cy wx [.ref ax, .int v1] (some (.int r)) wx2 ∧ CG l yX9_coals cX9_coals 6 (some .int) rmX9_coals D cy wm [.ref am, .int v1] (some (.int r)) wm2 ∧ LI cy (N + 1) ax am wx2 wm2 := by
  obtain ⟨ad, P, V, I, J, A, B, ad9, P9, V9, I9, J9, A9, B9, rfl, rfl, rfl, rfl, hPP, hPM, R⟩ := h
  obtain ⟨r, w, e8, e9, hr, R2⟩ := st_coals (J := J) (J9 := J9) v1 (by omega) R
  have k8 := KX8_coals l D cy ad P V I J A B v1  e8
  have k9 := KX9_coals l D cy ad9 P9 V9 I9 J9 A9 B9 v1 e9
  rw [← hr] at k9
  exact ⟨r.1, _, _, k8, k9, ad, P, V, _, _, _, _, ad9, P9, V9, _, _, _, _, rfl, rfl, rfl, rfl, hPP, hPM, Rel_mono (by omega) R2⟩
set_option maxHeartbeats 4000000 in
set_option maxRecDepth 100000 in
theorem sp_ask (l : Launch) (D : va_G) {cy : Nat → ClassId} {N ax am : Nat} {wx wm : va_W}  (hN : N < 1800) (h : LI cy N ax am wx wm) : ∃ (r : Int32) (wx2 wm2 : va_W), CG l yX8_ask cX8_ask 1 (some .int) rmX8_ask D cy wx [.ref ax] (some (.int r)) wx2 ∧ CG l yX9_ask cX9_ask 7 (some .int) rmX9_ask D cy wm [.ref am] (some (.int r)) wm2 ∧ LI cy (N + 1) ax am wx2 wm2 := by
  obtain ⟨ad, P, V, I, J, A, B, ad9, P9, V9, I9, J9, A9, B9, rfl, rfl, rfl, rfl, hPP, hPM, R⟩ := h
  obtain ⟨r, w, e8, e9, hr, R2⟩ := st_ask (J := J) (J9 := J9)  (by omega) R
  have k8 := KX8_ask l D cy ad P V I J A B   e8
  have k9 := KX9_ask l D cy ad9 P9 V9 I9 J9 A9 B9  e9
  rw [← hr] at k9
  exact ⟨r.1, _, _, k8, k9, ad, P, V, _, _, _, _, ad9, P9, V9, _, _, _, _, rfl, rfl, rfl, rfl, hPP, hPM, Rel_mono (by omega) R2⟩
set_option maxHeartbeats 4000000 in
set_option maxRecDepth 100000 in
theorem sp_colder (l : Launch) (D : va_G) {cy : Nat → ClassId} {N ax am : Nat} {wx wm : va_W} (v1 : Int32) (v2 : Int32) (hN : N < 1800) (h : LI cy N ax am wx wm) : ∃ (r : Int32) (wx2 wm2 : va_W), CG l yX8_colder cX8_colder 4 (some .int) rmX8_colder D cy wx [.ref ax, .int v1, .int v2] (some (.int r)) wx2 ∧ CG l yX9_colder cX9_colder 4 (some .int) rmX9_colder D cy wm [.ref am, .int v1, .int v2] (some (.int r)) wm2 ∧ LI cy (N + 1) ax am wx2 wm2 := by
  obtain ⟨ad, P, V, I, J, A, B, ad9, P9, V9, I9, J9, A9, B9, rfl, rfl, rfl, rfl, hPP, hPM, R⟩ := h
  obtain ⟨r, w, e8, e9, hr, R2⟩ := st_colder (J := J) (J9 := J9) v1 v2 (by omega) R
  have k8 := KX8_colder l D cy ad P V I J A B v1 v2  e8
  have k9 := KX9_colder l D cy ad9 P9 V9 I9 J9 A9 B9 v1 v2 e9
  rw [← hr] at k9
  exact ⟨r, _, _, k8, k9, ad, P, V, _, _, _, _, ad9, P9, V9, _, _, _, _, rfl, rfl, rfl, rfl, hPP, hPM, Rel_mono (by omega) R2⟩
set_option maxHeartbeats 4000000 in
set_option maxRecDepth 100000 in
theorem sp_winters (l : Launch) (D : va_G) {cy : Nat → ClassId} {N ax am : Nat} {wx wm : va_W} (v1 : Int32) (v2 : Int32) (v3 : Int32) (hN : N < 1800) (h : LI cy N ax am wx wm) : ∃ (r : Int32) (wx2 wm2 : va_W), CG l yX8_winters cX8_winters 6 (some .int) rmX8_winters D cy wx [.ref ax, .int v1, .int v2, .int v3] (some (.int r)) wx2 ∧ CG l yX9_winters cX9_winters 7 (some .int) rmX9_winters D cy wm [.ref am, .int v1, .int v2, .int v3] (some (.int r)) wm2 ∧ LI cy (N + 1) ax am wx2 wm2 := by
  obtain ⟨ad, P, V, I, J, A, B, ad9, P9, V9, I9, J9, A9, B9, rfl, rfl, rfl, rfl, hPP, hPM, R⟩ := h
  obtain ⟨r, w, e8, e9, hr, R2⟩ := st_winters (J := J) (J9 := J9) v1 v2 v3 (by omega) R
  have k8 := KX8_winters l D cy ad P V I J A B v1 v2 v3  e8
  have k9 := KX9_winters l D cy ad9 P9 V9 I9 J9 A9 B9 v1 v2 v3 e9
  rw [← hr] at k9
  exact ⟨r.1, _, _, k8, k9, ad, P, V, _, _, _, _, ad9, P9, V9, _, _, _, _, rfl, rfl, rfl, rfl, hPP, hPM, Rel_mono (by omega) R2⟩
set_option maxHeartbeats 4000000 in
set_option maxRecDepth 100000 in
theorem sp_count (l : Launch) (D : va_G) {cy : Nat → ClassId} {N ax am : Nat} {wx wm : va_W} (v1 : Int32) (hN : N < 1800) (h : LI cy N ax am wx wm) : ∃ (r : Int32) (wx2 wm2 : va_W), CG l yX8_count cX8_count 2 (some .int) rmX8_count D cy wx [.ref ax, .int v1] (some (.int r)) wx2 ∧ CG l yX9_count cX9_count 2 (some .int) rmX9_count D cy wm [.ref am, .int v1] (some (.int r)) wm2 ∧ LI cy (N + 1) ax am wx2 wm2 := by
  obtain ⟨ad, P, V, I, J, A, B, ad9, P9, V9, I9, J9, A9, B9, rfl, rfl, rfl, rfl, hPP, hPM, R⟩ := h
  obtain ⟨r, w, e8, e9, hr, R2⟩ := st_count (J := J) (J9 := J9) v1 (by omega) R
  have k8 := KX8_count l D cy ad P V I J A B v1  e8
  have k9 := KX9_count l D cy ad9 P9 V9 I9 J9 A9 B9 v1 e9
  rw [← hr] at k9
  exact ⟨r, _, _, k8, k9, ad, P, V, _, _, _, _, ad9, P9, V9, _, _, _, _, rfl, rfl, rfl, rfl, hPP, hPM, Rel_mono (by omega) R2⟩
def rmX8_mark : Room := { frames := 3, cells := 0, slots := 0, locals := 66 }
set_option maxHeartbeats 4000000 in
set_option maxRecDepth 100000 in
theorem sp_mark (l : Launch) (D : va_G) {cy : Nat → ClassId} {N ax am : Nat} {wx wm : va_W} (v1 : Int32) (b : Bool) (hN : N < 1800) (h : LI cy N ax am wx wm) : ∃ (r : Int32) (rm : Room) (wx2 wm2 : va_W), (rm = rmX8_mark ∨ rm = rmX8_marko) ∧ CG l yX8_mark cX8_mark 3 (some .boolean) rm D cy wx [.ref ax, .int v1, .int (nI (b2 b))] (some (.int r)) wx2 ∧ CG l yX9_mark cX9_mark 5 (some .boolean) rmX9_mark D cy wm [.ref am, .int v1, .int (nI (b2 b))] (some (.int r)) wm2 ∧ LI cy (N + 1) ax am wx2 wm2 := by
  obtain ⟨ad, P, V, I, J, A, B, ad9, P9, V9, I9, J9, A9, B9, rfl, rfl, rfl, rfl, hPP, hPM, R⟩ := h
  by_cases h : v1 = 0 ∨ v1 = 1 ∨ v1 = 2 ∨ v1 = 3
  · rcases h with rfl | rfl | rfl | rfl
    · obtain ⟨r, w, e8, e9, hr, R2⟩ := st_mark0 (J := J) (J9 := J9) b R
      have k8 := KX8_mark0 l D cy ad P V I J A B (nI (b2 b)) hPM e8
      have k9 := KX9_mark l D cy ad9 P9 V9 I9 J9 A9 B9 0 (nI (b2 b)) e9
      rw [← hr] at k9
      exact ⟨r.1, _, _, _, Or.inl rfl, k8, k9, ad, P, V, _, _, _, _, ad9, P9, V9, _, _, _, _, rfl, rfl, rfl, rfl, hPP, hPM, Rel_mono (by omega) R2⟩
    · obtain ⟨r, w, e8, e9, hr, R2⟩ := st_mark1 (J := J) (J9 := J9) b R
      have k8 := KX8_mark1 l D cy ad P V I J A B (nI (b2 b)) hPM e8
      have k9 := KX9_mark l D cy ad9 P9 V9 I9 J9 A9 B9 1 (nI (b2 b)) e9
      rw [← hr] at k9
      exact ⟨r.1, _, _, _, Or.inl rfl, k8, k9, ad, P, V, _, _, _, _, ad9, P9, V9, _, _, _, _, rfl, rfl, rfl, rfl, hPP, hPM, Rel_mono (by omega) R2⟩
    · obtain ⟨r, w, e8, e9, hr, R2⟩ := st_mark2 (J := J) (J9 := J9) b R
      have k8 := KX8_mark2 l D cy ad P V I J A B (nI (b2 b)) hPM e8
      have k9 := KX9_mark l D cy ad9 P9 V9 I9 J9 A9 B9 2 (nI (b2 b)) e9
      rw [← hr] at k9
      exact ⟨r.1, _, _, _, Or.inl rfl, k8, k9, ad, P, V, _, _, _, _, ad9, P9, V9, _, _, _, _, rfl, rfl, rfl, rfl, hPP, hPM, Rel_mono (by omega) R2⟩
    · obtain ⟨r, w, e8, e9, hr, R2⟩ := st_mark3 (J := J) (J9 := J9) b R
      have k8 := KX8_mark3 l D cy ad P V I J A B (nI (b2 b)) hPM e8
      have k9 := KX9_mark l D cy ad9 P9 V9 I9 J9 A9 B9 3 (nI (b2 b)) e9
      rw [← hr] at k9
      exact ⟨r.1, _, _, _, Or.inl rfl, k8, k9, ad, P, V, _, _, _, _, ad9, P9, V9, _, _, _, _, rfl, rfl, rfl, rfl, hPP, hPM, Rel_mono (by omega) R2⟩
  · obtain ⟨r, w, e8, e9, hr, R2⟩ := st_marko (J := J) (J9 := J9) v1 (nI (b2 b)) R h
    have k8 := KX8_marko l D cy ad P V I J A B v1 (nI (b2 b)) e8
    have k9 := KX9_mark l D cy ad9 P9 V9 I9 J9 A9 B9 v1 (nI (b2 b)) e9
    rw [← hr] at k9
    exact ⟨r, _, _, _, Or.inr rfl, k8, k9, ad, P, V, _, _, _, _, ad9, P9, V9, _, _, _, _, rfl, rfl, rfl, rfl, hPP, hPM, Rel_mono (by omega) R2⟩
