/-! the law: the class's operators that wait, and what it writes down of them -/
def oA (s : Lv) : List Nat := if s.tb = 0 then [] else [42]
def oB (s : Lv) : List Nat := if s.sb = 0 then [] else [if s.sb = 20 then 43 else 45]
def oC (s : Lv) : List Nat := if s.ag = 0 then [] else [if s.ag = 24 then 60 else 61]
def oD (s : Lv) : List Nat := if s.kb = 0 then [] else [if s.kb = 26 then 148 else 149]
def opo (s : Lv) : List Nat := if s.o = 0 then [] else if s.o = 1 then [147] else [40]
def osl : List Lv → List Nat
  | [] => []
  | s :: L => oA s ++ (oB s ++ (oC s ++ (oD s ++ (opo s ++ osl L))))
def vA (s : Lv) (e : EnvL) : List Int32 := if s.tb = 0 then [] else [s.tv e]
def vB (s : Lv) (e : EnvL) : List Int32 := if s.sb = 0 then [] else [s.sv e]
def vC (s : Lv) (e : EnvL) : List Int32 := if s.ag = 0 then [] else [s.av e]
def vD (s : Lv) (e : EnvL) : List Int32 := if s.kb = 0 then [] else [s.kv e]
def vsl (e : EnvL) : List Lv → List Int32
  | [] => []
  | s :: L => vA s e ++ (vB s e ++ (vC s e ++ (vD s e ++ vsl e L)))
theorem oA_le (s : Lv) : (oA s).length ≤ 1 := by unfold oA; split <;> decide
theorem oB_le (s : Lv) : (oB s).length ≤ 1 := by unfold oB; split <;> simp
theorem oC_le (s : Lv) : (oC s).length ≤ 1 := by unfold oC; split <;> simp
theorem oD_le (s : Lv) : (oD s).length ≤ 1 := by unfold oD; split <;> simp
theorem opo_le (s : Lv) : (opo s).length ≤ 1 := by
  unfold opo
  split
  · decide
  · split <;> decide
theorem vA_le (s : Lv) (e : EnvL) : (vA s e).length ≤ 1 := by unfold vA; split <;> simp
theorem vB_le (s : Lv) (e : EnvL) : (vB s e).length ≤ 1 := by unfold vB; split <;> simp
theorem vC_le (s : Lv) (e : EnvL) : (vC s e).length ≤ 1 := by unfold vC; split <;> simp
theorem vD_le (s : Lv) (e : EnvL) : (vD s e).length ≤ 1 := by unfold vD; split <;> simp
theorem osl_le : ∀ L : List Lv, (osl L).length ≤ 5 * L.length
  | [] => Nat.le_refl _
  | s :: L => by
    have := oA_le s; have := oB_le s; have := oC_le s; have := oD_le s; have := opo_le s; have := osl_le L
    show (oA s ++ (oB s ++ (oC s ++ (oD s ++ (opo s ++ osl L))))).length ≤ 5 * (L.length + 1)
    simp only [List.length_append]
    omega
theorem vsl_le (e : EnvL) : ∀ L : List Lv, (vsl e L).length ≤ 4 * L.length
  | [] => Nat.le_refl _
  | s :: L => by
    have := vA_le s e; have := vB_le s e; have := vC_le s e; have := vD_le s e; have := vsl_le e L
    show (vA s e ++ (vB s e ++ (vC s e ++ (vD s e ++ vsl e L)))).length ≤ 4 * (L.length + 1)
    simp only [List.length_append]
    omega
def StkN (st : Nat → Int32) : List Nat → Prop
  | [] => True
  | x :: l => st l.length = nI x ∧ StkN st l
theorem StkN_upd {st : Nat → Int32} {k : Nat} {x : Int32} : ∀ {l : List Nat}, StkN st l → l.length ≤ k → StkN (upd st k x) l
  | [], _, _ => trivial
  | y :: l, h, hk => by
    have hk : l.length + 1 ≤ k := hk
    exact ⟨by rw [pk_un (by omega)]; exact h.1, StkN_upd h.2 (by omega)⟩
theorem StkN_app {st : Nat → Int32} : ∀ {l l' : List Nat}, StkN st (l ++ l') → StkN st l'
  | [], _, h => h
  | _ :: _, _, h => StkN_app h.2
def rk (x : Nat) : Nat := if x = 42 then 4 else if x = 43 then 3 else if x = 45 then 3 else if x = 60 then 2 else if x = 61 then 2 else if x = 148 then 1 else if x = 149 then 1 else 0
theorem rk_le (x : Nat) : rk x ≤ 4 := by
  unfold rk
  repeat' (first | decide | split)
theorem c_rank {x : Nat} (hx : x < 2147483648) : fX1_rankOf (nI x) = some (nI (rk x)) := by
  unfold fX1_rankOf rk
  have t := fun k => @tI x k hx
  by_cases x1 : x = 42
  · rw [if_pos (show (nI x).toInt = 42 from (t 42).mpr x1), if_pos x1]; rfl
  rw [if_neg (show ¬ (nI x).toInt = 42 from fun e => x1 ((t 42).mp e)), if_neg x1]
  by_cases x2 : x = 43
  · rw [if_pos (show (nI x).toInt = 43 from (t 43).mpr x2), if_pos x2]; rfl
  rw [if_neg (show ¬ (nI x).toInt = 43 from fun e => x2 ((t 43).mp e)), if_neg x2]
  by_cases x3 : x = 45
  · rw [if_pos (show (nI x).toInt = 45 from (t 45).mpr x3), if_pos x3]; rfl
  rw [if_neg (show ¬ (nI x).toInt = 45 from fun e => x3 ((t 45).mp e)), if_neg x3]
  by_cases x4 : x = 60
  · rw [if_pos (show (nI x).toInt = 60 from (t 60).mpr x4), if_pos x4]; rfl
  rw [if_neg (show ¬ (nI x).toInt = 60 from fun e => x4 ((t 60).mp e)), if_neg x4]
  by_cases x5 : x = 61
  · rw [if_pos (show (nI x).toInt = 61 from (t 61).mpr x5), if_pos x5]; rfl
  rw [if_neg (show ¬ (nI x).toInt = 61 from fun e => x5 ((t 61).mp e)), if_neg x5]
  by_cases x6 : x = 148
  · rw [if_pos (show (nI x).toInt = 148 from (t 148).mpr x6), if_pos x6]; rfl
  rw [if_neg (show ¬ (nI x).toInt = 148 from fun e => x6 ((t 148).mp e)), if_neg x6]
  by_cases x7 : x = 149
  · rw [if_pos (show (nI x).toInt = 149 from (t 149).mpr x7), if_pos x7]; rfl
  rw [if_neg (show ¬ (nI x).toInt = 149 from fun e => x7 ((t 149).mp e)), if_neg x7]; rfl
def gdE (E : CC) : Prop := ∀ k, k < E.1 → E.2 k < 11000
theorem gdE_sn {E : CC} {c : Nat} (h : gdE E) (hc : c < 11000) : gdE (sn E c) := by
  intro k hk
  have hk : k < E.1 + 1 := hk
  show (if k = E.1 then c else E.2 k) < 11000
  by_cases q : k = E.1
  · rw [if_pos q]; exact hc
  · rw [if_neg q]; exact h k (by omega)
theorem c_emit {E : CC} {code : Nat → Int32} {c : Nat} (hE : E.1 < 1000) (hc : CdR code 0 E) : ∃ code', fX1_emit (nI E.1) code (nI c) = some (nI (sn E c).1, code') ∧ CdR code' 0 (sn E c) := by
  refine ⟨upd code E.1 (nI c), ?_, ?_⟩
  · unfold fX1_emit
    rw [if_neg (show ¬ (1000 : Int32) ≤ nI E.1 from fun q => absurd (show nI E.1 < 1000 from nI_lt (b := 1000) hE (by omega)) (Int32.not_lt.mpr q)), nB hE (by omega), cond_true, nC (by omega), nI_1]
    rfl
  · have := CdR_sn (c := c) hc
    rw [Nat.zero_add] at this
    exact this
/-- what is emitted of the operators that wait -/
def ups (l : List Nat) : List Nat := l.map (fun x => 10000 + x)
theorem crun_sns {e : EnvL} : ∀ {l : List Nat} {E : CC}, crun e (sns E l) = l.foldl (cst e) (crun e E)
  | [], _ => rfl
  | c :: l, E => by
    show crun e (sns (sn E c) l) = l.foldl (cst e) (cst e (crun e E) c)
    rw [crun_sns, crun_sn]
theorem sns_1 : ∀ {l : List Nat} {E : CC}, (sns E l).1 = E.1 + l.length
  | [], _ => rfl
  | c :: l, E => by
    show (sns (sn E c) l).1 = E.1 + (l.length + 1)
    rw [sns_1]
    show E.1 + 1 + l.length = _
    omega
theorem gdE_sns : ∀ {l : List Nat} {E : CC}, gdE E → (∀ x, x ∈ l → x < 11000) → gdE (sns E l)
  | [], _, h, _ => h
  | c :: l, E, h, hl => gdE_sns (l := l) (E := sn E c) (gdE_sn h (hl c (List.mem_cons_self ..))) (fun x hx => hl x (List.mem_cons_of_mem _ hx))
theorem c_emitDown {st : Nat → Int32} {r : Nat} {zz : Int32 → Int32 → (Nat → Int32) → Int32 → Option (Int32 × Int32 × (Nat → Int32))} (hr : r ≤ 5) : ∀ (l : List Nat) (N : Nat) (E : CC) (code : Nat → Int32), StkN st l → l.length ≤ 32 → l.length < N → E.1 + l.length ≤ 1000 → (∀ x, x ∈ l → x < 1000) → CdR code 0 E →
    ok (itr (fun kk => fX1_emitDownTo_0 st kk) zz N (nI l.length) (nI E.1) code (nI r)) (fun y => y.1 = nI (l.dropWhile (fun x => decide (r ≤ rk x))).length ∧ y.2.1 = nI (sns E (ups (l.takeWhile (fun x => decide (r ≤ rk x))))).1 ∧ CdR y.2.2 0 (sns E (ups (l.takeWhile (fun x => decide (r ≤ rk x))))))
  | [], N, E, code, _, _, hN, _, _, hC => by
    obtain ⟨N, rfl⟩ : ∃ m, N = m + 1 := ⟨N - 1, by have : 0 < N := hN; omega⟩
    show ok (fX1_emitDownTo_0 st (itr (fun kk => fX1_emitDownTo_0 st kk) zz N) (nI 0) (nI E.1) code (nI r)) _
    unfold fX1_emitDownTo_0
    rw [if_pos (show nI 0 ≤ 0 by decide)]
    exact ok_some ⟨rfl, rfl, hC⟩
  | x :: l, N, E, code, hS, h32, hN, hE, hx, hC => by
    have h32 : l.length + 1 ≤ 32 := h32
    have hN : l.length + 1 < N := hN
    have hE : E.1 + (l.length + 1) ≤ 1000 := hE
    obtain ⟨N, rfl⟩ : ∃ m, N = m + 1 := ⟨N - 1, by omega⟩
    show ok (fX1_emitDownTo_0 st (itr (fun kk => fX1_emitDownTo_0 st kk) zz N) (nI (l.length + 1)) (nI E.1) code (nI r)) _
    have e1 : nI (l.length + 1) - 1 = nI l.length := nsub (b := 1) (by omega)
    have hi : inb (nI l.length) 32 = true := nB (by omega) (by omega)
    have ci : (nI l.length).toNatClampNeg = l.length := nC (by omega)
    have hx1 := hx x (List.mem_cons_self ..)
    have hk := rk_le x
    unfold fX1_emitDownTo_0
    rw [if_neg (show ¬ nI (l.length + 1) ≤ 0 from fun q => absurd (show (0 : Int32) < nI (l.length + 1) from nI_lt (a := 0) (by omega) (by omega)) (Int32.not_lt.mpr q)), e1, hi, cond_true, ci, hS.1, c_rank (by omega)]
    simp only [Option.bind_some]
    by_cases q : r ≤ rk x
    · rw [if_neg (nI_nlt q (by omega)), cond_true, show (10000 : Int32) + nI x = nI (10000 + x) from nI_add 10000 x]
      obtain ⟨code', h1, h2⟩ := c_emit (E := E) (c := 10000 + x) (by omega) hC
      rw [h1]
      simp only [Option.bind_some]
      have ih := c_emitDown (zz := zz) hr l N (sn E (10000 + x)) code' hS.2 (by omega) (by omega) (by show E.1 + 1 + l.length ≤ 1000; omega) (fun y hy => hx y (List.mem_cons_of_mem _ hy)) h2
      rw [List.takeWhile_cons_of_pos (p := fun x => decide (r ≤ rk x)) (decide_eq_true q), List.dropWhile_cons_of_pos (p := fun x => decide (r ≤ rk x)) (decide_eq_true q)]
      exact ih
    · rw [if_pos (nI_lt (show rk x < r by omega) (by omega)), List.takeWhile_cons_of_neg (p := fun x => decide (r ≤ rk x)) (by rw [decide_eq_false q]; decide), List.dropWhile_cons_of_neg (p := fun x => decide (r ≤ rk x)) (by rw [decide_eq_false q]; decide)]
      exact ok_some ⟨rfl, rfl, hC⟩
