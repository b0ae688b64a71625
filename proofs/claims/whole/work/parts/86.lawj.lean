/-! the law: a turn of the reference's loop, by the class's token -/
def TkF (a q : Nat) (mt mnu : Int32) (mwd : Int64) (tape : Nat → Int32) : Prop := fX9_fact mt mwd = some (nI (fac a)) ∧ (∀ i, i < 26 → fX9_isWord mt mwd (lN (Ww i)) = some (nI (b2 (decide (a = 128 + i))))) ∧ (∀ s, isSg s = true → 33 ≤ s ∧ s ≤ 126 → fX9_isSign (nI q) mt tape (nI s) = some (nI (b2 (decide (a = s))))) ∧ (mt = 2 ↔ a = 2)
theorem TkF_of {z : Nat → Nat} {n q r a : Nat} {ct cnu mt mnu : Int32} {cnm mwd : Int64} {tape : Nat → Int32} (h : TokR z n q r ct cnu cnm mt mnu mwd) (hn : n ≤ 1000) (hz : ∀ i, i < n → z i < 127) (hm : ∀ i, i < n → tape i = nI (z i)) (ha : a < 154) (ea : ct = nI a) : TkF a q mt mnu mwd tape := by
  refine ⟨t_fact h hz ha ea, t_wd h hz ha ea, fun s hs hs2 => t_sg h hn hm ha ea hs hs2, ?_⟩
  rw [(t_two h).1, ea]
  exact nI_eq (b := 2) (by omega) (by omega)
section LK
variable {sz mp mt mnu wr co : Int32} {mwd : Int64} {tape cds op cm : Nat → Int32} {a q : Nat} {k11 : Int32 → Int32 → Int32 → Int32 → Int32 → Int32 → Int64 → (Nat → Int32) → (Nat → Int32) → (Nat → Int32) → Int32 → Int32 → Option (Int32 × Int32 × Int32 × Int32 × Int32 × Int32 × Int32 × Int64 × (Nat → Int32) × (Nat → Int32) × (Nat → Int32))} {yn : Int32 × Int32 × Int32 × Int32 × Int64}
theorem b2f {p : Prop} [Decidable p] (h : ¬ p) : nI (b2 (decide p)) = 0 := by rw [decide_eq_false h]; rfl
theorem b2t {p : Prop} [Decidable p] (h : p) : nI (b2 (decide p)) = 1 := by rw [decide_eq_true h]; rfl
theorem F_not (F : TkF a q mt mnu mwd tape) : fX9_isWord mt mwd 10631 = some (nI (b2 (decide (a = 147)))) := by
  have := F.2.1 19 (by omega)
  rw [Ww_law.1] at this
  exact this
theorem F_and (F : TkF a q mt mnu mwd tape) : fX9_isWord mt mwd 1111 = some (nI (b2 (decide (a = 148)))) := by
  have := F.2.1 20 (by omega)
  rw [Ww_law.2.1] at this
  exact this
theorem F_or (F : TkF a q mt mnu mwd tape) : fX9_isWord mt mwd 423 = some (nI (b2 (decide (a = 149)))) := by
  have := F.2.1 21 (by omega)
  rw [Ww_law.2.2.1] at this
  exact this
theorem F_s40 (F : TkF a q mt mnu mwd tape) : fX9_isSign (nI q) mt tape 40 = some (nI (b2 (decide (a = 40)))) := F.2.2.1 40 (by decide) (by omega)
theorem F_s41 (F : TkF a q mt mnu mwd tape) : fX9_isSign (nI q) mt tape 41 = some (nI (b2 (decide (a = 41)))) := F.2.2.1 41 (by decide) (by omega)
theorem F_s42 (F : TkF a q mt mnu mwd tape) : fX9_isSign (nI q) mt tape 42 = some (nI (b2 (decide (a = 42)))) := F.2.2.1 42 (by decide) (by omega)
theorem F_s43 (F : TkF a q mt mnu mwd tape) : fX9_isSign (nI q) mt tape 43 = some (nI (b2 (decide (a = 43)))) := F.2.2.1 43 (by decide) (by omega)
theorem F_s45 (F : TkF a q mt mnu mwd tape) : fX9_isSign (nI q) mt tape 45 = some (nI (b2 (decide (a = 45)))) := F.2.2.1 45 (by decide) (by omega)
theorem F_s59 (F : TkF a q mt mnu mwd tape) : fX9_isSign (nI q) mt tape 59 = some (nI (b2 (decide (a = 59)))) := F.2.2.1 59 (by decide) (by omega)
theorem F_s60 (F : TkF a q mt mnu mwd tape) : fX9_isSign (nI q) mt tape 60 = some (nI (b2 (decide (a = 60)))) := F.2.2.1 60 (by decide) (by omega)
theorem F_s61 (F : TkF a q mt mnu mwd tape) : fX9_isSign (nI q) mt tape 61 = some (nI (b2 (decide (a = 61)))) := F.2.2.1 61 (by decide) (by omega)
/-- a part is due, and may stand -/
theorem m_w1 {dp : Int32} (F : TkF a q mt mnu mwd tape) (h : a = 2 ∨ a = 147 ∨ a = 40 ∨ (150 ≤ a ∧ a ≤ 153)) : fX9_reads_11 sz tape k11 mp (nI q) mt mnu wr co mwd cds op cm dp 1 = fX9_reads_65 sz tape k11 mp (nI q) mt mnu wr co mwd cds op cm dp 1 (nI (fac a)) (nI (b2 (decide (a = 147)))) (nI (b2 (decide (a = 40)))) := by
  unfold fX9_reads_11
  rw [if_neg (by decide : ¬ (1 : Int32) = 0), F.1, F_not F, F_s40 F]
  simp only [Option.bind_some]
  by_cases x1 : nI (fac a) = 0
  · rw [if_pos x1]
    by_cases x2 : a = 147
    · rw [if_neg (by rw [b2t x2]; decide)]
    · rw [if_pos (b2f x2)]
      by_cases x3 : a = 40
      · rw [if_neg (by rw [b2t x3]; decide)]
      · rw [if_pos (b2f x3)]
        have x4 : a = 2 := by
          rcases h with h | h | h | h
          · exact h
          · exact absurd h x2
          · exact absurd h x3
          · have e : fac a = a - 149 := if_pos h
            rw [e] at x1
            have := (nI_eq (b := 0) (by omega) (by omega)).mp x1
            omega
        rw [if_pos (F.2.2.2.mpr x4)]
  · rw [if_neg x1]
/-- a part is due, and this can't stand -/
theorem m_w0 {dp : Int32} (F : TkF a q mt mnu mwd tape) (hq : q ≤ 1000) (h : ¬ (a = 2 ∨ a = 147 ∨ a = 40 ∨ (150 ≤ a ∧ a ≤ 153))) : ok (fX9_reads_11 sz tape k11 mp (nI q) mt mnu wr co mwd cds op cm dp 1) (fun r => r.1 = 0 ∧ r.2.2.2.2.2.1 = nI (1 + 16 * q) ∧ r.2.2.2.2.2.2.2.2.1 = cds) := by
  have fl := flt hq (c := 1) (by omega) (by omega)
  unfold fX9_reads_11 fX9_fails
  have e : fac a = 0 := if_neg (fun q => h (Or.inr (Or.inr (Or.inr q))))
  rw [if_neg (by decide : ¬ (1 : Int32) = 0), F.1, F_not F, F_s40 F]
  simp only [Option.bind_some]
  rw [e, if_pos (show nI 0 = 0 from rfl), if_pos (b2f (fun q => h (Or.inr (Or.inl q)))), if_pos (b2f (fun q => h (Or.inr (Or.inr (Or.inl q))))), if_neg (fun q => h (Or.inl (F.2.2.2.mp q)))]
  exact ok_some ⟨show vp_nar FieldType.boolean 0 = 0 by decide, by rw [← fl.1]; rfl, rfl⟩
/-- five deep already -/
theorem m_w5 {v3 v4 v5 : Int32} (hq : q ≤ 1000) : ok (fX9_reads_65 sz tape k11 mp (nI q) mt mnu wr co mwd cds op cm (nI 5) 1 v3 v4 v5) (fun r => r.1 = 0 ∧ r.2.2.2.2.2.1 = nI (5 + 16 * q) ∧ r.2.2.2.2.2.2.2.2.1 = cds) := by
  have fl := flt hq (c := 5) (by omega) (by omega)
  unfold fX9_reads_65 fX9_fails
  rw [if_pos (show nI 5 = 5 from rfl)]
  exact ok_some ⟨show vp_nar FieldType.boolean 0 = 0 by decide, by rw [← fl.1]; rfl, rfl⟩
theorem m_65f {d : Nat} (hd : d < 5) (h : 150 ≤ a ∧ a ≤ 153) : fX9_reads_65 sz tape k11 mp (nI q) mt mnu wr co mwd cds op cm (nI d) 1 (nI (fac a)) (nI (b2 (decide (a = 147)))) (nI (b2 (decide (a = 40)))) = fX9_reads_147 sz tape k11 mp (nI q) mt mnu wr co mwd cds op cm (nI d) (nI (a - 149)) := by
  unfold fX9_reads_65
  have e : fac a = a - 149 := if_pos h
  rw [if_neg (show ¬ nI d = 5 from fun x => by have := (nI_eq (b := 5) (by omega) (by omega)).mp x; omega), if_pos (b2f (by omega)), if_pos (b2f (by omega)), e, if_neg (show ¬ nI (a - 149) ≤ 0 from fun x => absurd (show (0 : Int32) < nI (a - 149) from nI_lt (a := 0) (by omega) (by omega)) (Int32.not_lt.mpr x))]
theorem m_65n {d v : Nat} (hd : d < 5) (h : a = 2) (hv : mnu = nI v) : fX9_reads_65 sz tape k11 mp (nI q) mt mnu wr co mwd cds op cm (nI d) 1 (nI (fac a)) (nI (b2 (decide (a = 147)))) (nI (b2 (decide (a = 40)))) = fX9_reads_147 sz tape k11 mp (nI q) mt mnu wr co mwd cds op cm (nI d) (nI (100 + v)) := by
  unfold fX9_reads_65
  have e : fac a = 0 := if_neg (by omega)
  rw [if_neg (show ¬ nI d = 5 from fun x => by have := (nI_eq (b := 5) (by omega) (by omega)).mp x; omega), if_pos (b2f (by omega)), if_pos (b2f (by omega)), e, if_pos (show nI 0 ≤ 0 by decide), hv, show (100 : Int32) + nI v = nI (100 + v) from nI_add 100 v]
theorem m_65o {d : Nat} (hd : d < 5) (h : a = 147 ∨ a = 40) : fX9_reads_65 sz tape k11 mp (nI q) mt mnu wr co mwd cds op cm (nI d) 1 (nI (fac a)) (nI (b2 (decide (a = 147)))) (nI (b2 (decide (a = 40)))) = fX9_reads_86 sz tape k11 mp (nI q) mt mnu wr co mwd cds op cm (nI d) 1 (if a = 147 then 1 else 0) := by
  unfold fX9_reads_65
  rw [if_neg (show ¬ nI d = 5 from fun x => by have := (nI_eq (b := 5) (by omega) (by omega)).mp x; omega)]
  rcases h with h | h
  · rw [if_neg (by rw [b2t h]; decide), if_pos h, b2t h]
  · rw [if_pos (b2f (by omega)), if_neg (by rw [b2t h]; decide), if_neg (by omega), b2f (by omega)]
/-- an operator is due -/
theorem m_o1 {dp : Int32} (F : TkF a q mt mnu mwd tape) (h : a = 43 ∨ a = 45 ∨ a = 42) : fX9_reads_11 sz tape k11 mp (nI q) mt mnu wr co mwd cds op cm dp 0 = fX9_reads_237 sz tape k11 mp (nI q) mt mnu wr co mwd cds op cm dp (nI (if a = 43 then 20 else if a = 45 then 21 else 22)) := by
  have e : fX9_reads_206 sz tape k11 mp (nI q) mt mnu wr co mwd cds op cm dp = fX9_reads_237 sz tape k11 mp (nI q) mt mnu wr co mwd cds op cm dp (nI (if a = 43 then 20 else if a = 45 then 21 else 22)) := by
    unfold fX9_reads_206
    rw [F_s43 F, F_s45 F]
    simp only [Option.bind_some]
    by_cases x1 : a = 43
    · rw [if_neg (by rw [b2t x1]; decide), if_pos x1]; rfl
    rw [if_pos (b2f x1), if_neg x1]
    by_cases x2 : a = 45
    · rw [if_neg (by rw [b2t x2]; decide), if_pos x2]; rfl
    rw [if_pos (b2f x2), if_neg x2]; rfl
  unfold fX9_reads_11
  rw [if_pos rfl, F_s43 F]
  simp only [Option.bind_some]
  by_cases x1 : a = 43
  · rw [if_neg (by rw [b2t x1]; decide)]; exact e
  rw [if_pos (b2f x1), F_s45 F]
  simp only [Option.bind_some]
  by_cases x2 : a = 45
  · rw [if_neg (by rw [b2t x2]; decide)]; exact e
  rw [if_pos (b2f x2), F_s42 F]
  simp only [Option.bind_some]
  rw [if_neg (by rw [b2t (show a = 42 by omega)]; decide)]; exact e
theorem m_o2 {dp : Int32} (F : TkF a q mt mnu mwd tape) (h : a = 60 ∨ a = 61) : fX9_reads_11 sz tape k11 mp (nI q) mt mnu wr co mwd cds op cm dp 0 = fX9_reads_263 sz tape k11 mp (nI q) mt mnu wr co mwd cds op cm dp 0 := by
  unfold fX9_reads_11
  rw [if_pos rfl, F_s43 F]
  simp only [Option.bind_some]
  rw [if_pos (b2f (by omega)), F_s45 F]
  simp only [Option.bind_some]
  rw [if_pos (b2f (by omega)), F_s42 F]
  simp only [Option.bind_some]
  rw [if_pos (b2f (by omega)), F_s60 F]
  simp only [Option.bind_some]
  by_cases x : a = 60
  · rw [if_neg (by rw [b2t x]; decide)]
  rw [if_pos (b2f x), F_s61 F]
  simp only [Option.bind_some]
  rw [if_neg (by rw [b2t (show a = 61 by omega)]; decide)]
theorem m_o3 {dp : Int32} (F : TkF a q mt mnu mwd tape) (h : ¬ (a = 43 ∨ a = 45 ∨ a = 42 ∨ a = 60 ∨ a = 61)) : fX9_reads_11 sz tape k11 mp (nI q) mt mnu wr co mwd cds op cm dp 0 = fX9_reads_304 sz tape k11 mp (nI q) mt mnu wr co mwd cds op cm dp 0 := by
  unfold fX9_reads_11
  rw [if_pos rfl, F_s43 F]
  simp only [Option.bind_some]
  rw [if_pos (b2f (by omega)), F_s45 F]
  simp only [Option.bind_some]
  rw [if_pos (b2f (by omega)), F_s42 F]
  simp only [Option.bind_some]
  rw [if_pos (b2f (by omega)), F_s60 F]
  simp only [Option.bind_some]
  rw [if_pos (b2f (by omega)), F_s61 F]
  simp only [Option.bind_some]
  rw [if_pos (b2f (by omega))]
theorem m_237 {C : CC} {c : Nat} {dp : Int32} (hC : C.1 < 1000) (hco : co = nI (1000 + C.1)) (hn : fX9_nextToken sz tape mp (nI q) mt mnu mwd = some yn) : fX9_reads_237 sz tape k11 mp (nI q) mt mnu wr co mwd cds op cm dp (nI c) = k11 yn.1 yn.2.1 yn.2.2.1 yn.2.2.2.1 wr (nI (1000 + (sn C c).1)) yn.2.2.2.2 (upd cds (1000 + C.1) (nI c)) op cm dp 1 := by
  unfold fX9_reads_237 fX9_reads_424
  rw [hco, m_puts hC]
  simp only [Option.bind_some]
  rw [hn]
  rfl
theorem m_263a {C : CC} {d : Nat} (F : TkF a q mt mnu mwd tape) (hd : d < 7) (hc : cm d = 0) (h : a = 60 ∨ a = 61) (hC : C.1 < 1000) (hco : co = nI (1000 + C.1)) (hn : fX9_nextToken sz tape mp (nI q) mt mnu mwd = some yn) : fX9_reads_263 sz tape k11 mp (nI q) mt mnu wr co mwd cds op cm (nI d) 0 = k11 yn.1 yn.2.1 yn.2.2.1 yn.2.2.2.1 wr (nI (1000 + (sn C (if a = 60 then 24 else 25)).1)) yn.2.2.2.2 (upd cds (1000 + C.1) (nI (if a = 60 then 24 else 25))) op (upd cm d (vp_nar .boolean 1)) (nI d) 1 := by
  have e : fX9_reads_289 sz tape k11 mp (nI q) mt mnu wr co mwd cds op cm (nI d) (nI (if a = 60 then 24 else 25)) = k11 yn.1 yn.2.1 yn.2.2.1 yn.2.2.2.1 wr (nI (1000 + (sn C (if a = 60 then 24 else 25)).1)) yn.2.2.2.2 (upd cds (1000 + C.1) (nI (if a = 60 then 24 else 25))) op (upd cm d (vp_nar .boolean 1)) (nI d) 1 := by
    unfold fX9_reads_289 fX9_reads_424
    rw [hco, m_puts hC]
    simp only [Option.bind_some]
    rw [nB hd (by omega), cond_true, nC (by omega), hn]
    rfl
  unfold fX9_reads_263
  rw [nB hd (by omega), cond_true, nC (by omega), if_pos hc, F_s60 F]
  simp only [Option.bind_some]
  by_cases x : a = 60
  · rw [if_neg (by rw [b2t x]; decide)]
    rw [if_pos x] at e ⊢
    exact e
  · rw [if_pos (b2f x)]
    rw [if_neg x] at e ⊢
    exact e
theorem m_263b {d : Nat} (hd : d < 7) (hc : ¬ cm d = 0) : fX9_reads_263 sz tape k11 mp (nI q) mt mnu wr co mwd cds op cm (nI d) 0 = fX9_reads_304 sz tape k11 mp (nI q) mt mnu wr co mwd cds op cm (nI d) 0 := by
  unfold fX9_reads_263
  rw [nB hd (by omega), cond_true, nC (by omega), if_neg hc]
theorem m_304a {C : CC} {d : Nat} (F : TkF a q mt mnu mwd tape) (hd : d < 7) (h : a = 148 ∨ a = 149) (hC : C.1 < 1000) (hco : co = nI (1000 + C.1)) (hn : fX9_nextToken sz tape mp (nI q) mt mnu mwd = some yn) : fX9_reads_304 sz tape k11 mp (nI q) mt mnu wr co mwd cds op cm (nI d) 0 = k11 yn.1 yn.2.1 yn.2.2.1 yn.2.2.2.1 wr (nI (1000 + (sn C (if a = 148 then 26 else 27)).1)) yn.2.2.2.2 (upd cds (1000 + C.1) (nI (if a = 148 then 26 else 27))) op (upd cm d (vp_nar .boolean 0)) (nI d) 1 := by
  have e : fX9_reads_342 sz tape k11 mp (nI q) mt mnu wr co mwd cds op cm (nI d) (nI (if a = 148 then 26 else 27)) = k11 yn.1 yn.2.1 yn.2.2.1 yn.2.2.2.1 wr (nI (1000 + (sn C (if a = 148 then 26 else 27)).1)) yn.2.2.2.2 (upd cds (1000 + C.1) (nI (if a = 148 then 26 else 27))) op (upd cm d (vp_nar .boolean 0)) (nI d) 1 := by
    unfold fX9_reads_342 fX9_reads_424
    rw [hco, m_puts hC]
    simp only [Option.bind_some]
    rw [nB hd (by omega), cond_true, nC (by omega), hn]
    rfl
  have e3 : fX9_reads_324 sz tape k11 mp (nI q) mt mnu wr co mwd cds op cm (nI d) = fX9_reads_342 sz tape k11 mp (nI q) mt mnu wr co mwd cds op cm (nI d) (nI (if a = 148 then 26 else 27)) := by
    unfold fX9_reads_324
    rw [F_and F]
    simp only [Option.bind_some]
    by_cases x : a = 148
    · rw [if_neg (by rw [b2t x]; decide), if_pos x]; rfl
    · rw [if_pos (b2f x), if_neg x]; rfl
  unfold fX9_reads_304
  rw [F_and F]
  simp only [Option.bind_some]
  by_cases x : a = 148
  · rw [if_neg (by rw [b2t x]; decide), e3, e]
  · rw [if_pos (b2f x), F_or F]
    simp only [Option.bind_some]
    rw [if_neg (by rw [b2t (show a = 149 by omega)]; decide), e3, e]
theorem m_304f {d : Nat} (F : TkF a q mt mnu mwd tape) (hq : q ≤ 1000) (hd : d < 7) (h : ¬ (a = 148 ∨ a = 149)) (h1 : ¬ (a = 41 ∧ 0 < d)) (h2 : ¬ (a = 59 ∧ d = 0)) : ok (fX9_reads_304 sz tape k11 mp (nI q) mt mnu wr co mwd cds op cm (nI d) 0) (fun r => r.1 = 0 ∧ r.2.2.2.2.2.1 = nI (1 + 16 * q) ∧ r.2.2.2.2.2.2.2.2.1 = cds) := by
  have fl := flt hq (c := 1) (by omega) (by omega)
  have f418 : ok (fX9_reads_418 sz tape mp (nI q) mt mnu wr co mwd cds op cm) (fun r => r.1 = 0 ∧ r.2.2.2.2.2.1 = nI (1 + 16 * q) ∧ r.2.2.2.2.2.2.2.2.1 = cds) := by
    unfold fX9_reads_418 fX9_fails
    exact ok_some ⟨show vp_nar FieldType.boolean 0 = 0 by decide, by rw [← fl.1]; rfl, rfl⟩
  have f399 : ok (fX9_reads_399 sz tape mp (nI q) mt mnu wr co mwd cds op cm (nI d)) (fun r => r.1 = 0 ∧ r.2.2.2.2.2.1 = nI (1 + 16 * q) ∧ r.2.2.2.2.2.2.2.2.1 = cds) := by
    unfold fX9_reads_399
    by_cases x : d = 0
    · rw [if_pos (show nI d = 0 by rw [x]; rfl), F_s59 F]
      simp only [Option.bind_some]
      rw [if_pos (b2f (fun y => h2 ⟨y, x⟩))]
      exact f418
    · rw [if_neg (show ¬ nI d = 0 from fun y => x ((nI_eq (b := 0) (by omega) (by omega)).mp y))]
      exact f418
  unfold fX9_reads_304
  rw [F_and F]
  simp only [Option.bind_some]
  rw [if_pos (b2f (by omega)), F_or F]
  simp only [Option.bind_some]
  rw [if_pos (b2f (by omega)), F_s41 F]
  simp only [Option.bind_some]
  by_cases x : a = 41
  · rw [if_neg (by rw [b2t x]; decide), if_pos (show nI d ≤ 0 by rw [show d = 0 by omega]; decide)]
    exact f399
  · rw [if_pos (b2f x)]
    exact f399
theorem ast29 {s : Lv} {L : List Lv} {x : Sv} : astS s L x 29 = arS (arr L (r1 s x)) := by
  unfold astS
  rw [if_neg (by decide), if_neg (by decide), if_neg (by decide), if_neg (by decide)]
theorem m_304x {L : List Lv} {v : Sv} {C : CC} (F : TkF a q mt mnu mwd tape) (h : a = 41) (hC : C.1 < 1000) (hL : 0 < L.length) (hW : WfL L) (h6 : L.length < 6) (hO : OpL op cm L) (hco : co = nI (1000 + C.1)) (hn : fX9_nextToken sz tape mp (nI q) mt mnu mwd = some yn) :
    fX9_reads_304 sz tape k11 mp (nI q) mt mnu wr co mwd cds op cm (nI L.length) 0 = k11 yn.1 yn.2.1 yn.2.2.1 yn.2.2.2.1 wr (nI (1000 + (sn C 29).1)) yn.2.2.2.2 (upd cds (1000 + C.1) (nI 29)) op cm (nI ((arr L v).1.length - 1)) 0 := by
  have e9 : ∀ (co : Int32) (cds : Nat → Int32), itr (fun kk => fX9_reads_379 sz tape k11 kk) (fun _ _ _ _ _ _ _ _ _ _ _ _ => none) FU mp (nI q) mt mnu wr co mwd cds op cm (nI (L.length - 1)) 0 = fX9_reads_424 sz tape k11 mp (nI q) mt mnu wr co mwd cds op cm (nI ((arr L v).1.length - 1)) 0 := fun co cds => m_379 L v FU hW (by omega) (by unfold FU; omega) hO
  unfold fX9_reads_304
  generalize itr (fun kk => fX9_reads_379 sz tape k11 kk) (fun _ _ _ _ _ _ _ _ _ _ _ _ => none) FU = W at e9 ⊢
  rw [F_and F]
  simp only [Option.bind_some]
  rw [if_pos (b2f (by omega)), F_or F]
  simp only [Option.bind_some]
  rw [if_pos (b2f (by omega)), F_s41 F]
  simp only [Option.bind_some]
  rw [if_neg (by rw [b2t h]; decide), if_neg (show ¬ nI L.length ≤ 0 from fun x => absurd (show (0 : Int32) < nI L.length from nI_lt (a := 0) (by omega) (by omega)) (Int32.not_lt.mpr x)), hco, show (29 : Int32) = nI 29 from rfl, m_puts hC, Option.bind_some]
  dsimp only
  rw [sb_m1 hL, e9]
  unfold fX9_reads_424
  rw [hn]
  simp only [Option.bind_some]
theorem m_304c {s : Lv} {L : List Lv} {x v : Sv} {C : CC} {B : Nat} {dp : Int32} (F : TkF a q mt mnu mwd tape) (h : a = 41) (hM : LwM (s :: L, some x) C B dp co cds op cm) (hB : B < 1000) (hL : L ≠ []) (hW : WfL L) (h6 : L.length < 6) (hv : v = r1 s x) (hn : fX9_nextToken sz tape mp (nI q) mt mnu mwd = some yn) :
    ∃ dp' co' cds', fX9_reads_304 sz tape k11 mp (nI q) mt mnu wr co mwd cds op cm dp 0 = k11 yn.1 yn.2.1 yn.2.2.1 yn.2.2.2.1 wr co' yn.2.2.2.2 cds' op cm dp' 0 ∧ LwM (arS (arr L v)) (sn C 29) (B + 1) dp' co' cds' op cm ∧ ∀ j, j < 1000 → cds' j = cds j := by
  obtain ⟨hX, hG, hdp, hco, hC, hO, hB2⟩ := hM
  have hdp : dp = nI L.length := hdp
  subst hdp
  have hp : 0 < L.length := List.length_pos_iff.mpr hL
  have hg : gds (arun C) 29 := by
    rw [← hX]
    exact ⟨h6, Or.inr (Or.inr (Or.inr (Or.inr (Or.inr (Or.inr (Or.inr ⟨rfl, hL⟩))))))⟩
  have hx : arS (arr L v) = arun (sn C 29) := by
    rw [arun_sn, ← hX, hv]
    exact ast29.symm
  exact ⟨_, _, _, m_304x (v := v) F h (by omega) hp hW h6 hO.2.2 hco hn, ⟨hx, Gd_sn hG hg, rfl, rfl, CdR_sn hC, OpL_arr hO.2.2, Nat.succ_le_succ hB2⟩, fun j hj => pk_un (by omega)⟩
theorem m_304e (F : TkF a q mt mnu mwd tape) (h : a = 59) (hn : fX9_nextToken sz tape mp (nI q) mt mnu mwd = some yn) : fX9_reads_304 sz tape k11 mp (nI q) mt mnu wr co mwd cds op cm (nI 0) 0 = some (1, yn.1, yn.2.1, yn.2.2.1, yn.2.2.2.1, wr, co, yn.2.2.2.2, cds, op, cm) := by
  unfold fX9_reads_304 fX9_reads_399
  rw [F_and F]
  simp only [Option.bind_some]
  rw [if_pos (b2f (by omega)), F_or F]
  simp only [Option.bind_some]
  rw [if_pos (b2f (by omega)), F_s41 F]
  simp only [Option.bind_some]
  rw [if_pos (b2f (by omega)), if_pos (show nI 0 = 0 from rfl), F_s59 F]
  simp only [Option.bind_some]
  rw [if_neg (by rw [b2t h]; decide), hn]
  rfl
end LK
