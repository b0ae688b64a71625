/-! the law is read: both sides together -/
section LL
variable {z : Nat → Nat} {n : Nat} {signs tape : Nat → Int32} {words : Nat → Int64}
theorem t_len {q r : Nat} {ct cnu mt mnu : Int32} {cnm mwd : Int64} (h : TokR z n q r ct cnu cnm mt mnu mwd) (h0 : ¬ ct = 0) : q < r := by
  obtain ⟨_, _, h⟩ := h
  rcases h with ⟨_, _, e1, _⟩ | ⟨e, _⟩ | ⟨e, _⟩ | ⟨e, _⟩ | ⟨e, _⟩
  · exact absurd e1 h0
  · exact e
  · exact e
  · omega
  · exact e
def LwP (z : Nat → Nat) (n : Nat) (signs tape : Nat → Int32) (words : Nat → Int64) (zc : Int32 → Int32 → Int32 → Int32 → Int32 → Int32 → Int32 → Int32 → Int32 → Int64 → (Nat → Int32) → (Nat → Int32) → Int32 → Int32 → Option RC1) (zm : Int32 → Int32 → Int32 → Int32 → Int32 → Int32 → Int64 → (Nat → Int32) → (Nat → Int32) → (Nat → Int32) → Int32 → Int32 → Option RM9) (k : Nat) : Prop :=
  ∀ (fc fm q r t : Nat) (X : AS) (C E : CC) (tp ct cnu : Int32) (cnm : Int64) (mt mnu wr : Int32) (mwd : Int64) (wt ne le : Int32) (code st : Nat → Int32) (dp co : Int32) (cds op cm : Nat → Int32) (v2 : Int32), n ≤ q + k → k + 2 ≤ fc → k + 1 ≤ fm → t ≤ q → TokR z n q r ct cnu cnm mt mnu mwd → WfA X → X.1.length ≤ 6 → (X.2 ≠ none → X.1.length ≤ 5) → LwC X E q wt ne le code st → LwM X C q dp co cds op cm → v2 = (if X.2.isSome = true then 0 else 1) →
  ok (itr (fun kk => fX1_readFrom_14 (nI n) signs words kk) zc fc wt ne le (nI r) (nI q) tp ct cnu 0 cnm code st v2 (nI t)) (fun rc => ok (itr (fun kk => fX9_reads_11 (nI n) tape kk) zm fm (nI r) (nI q) mt mnu wr co mwd cds op cm dp v2) (fun rm => LwEnd z n signs words wr cds rc rm))
/-- a fault on both sides -/
theorem p_lawF {zc : Int32 → Int32 → Int32 → Int32 → Int32 → Int32 → Int32 → Int32 → Int32 → Int64 → (Nat → Int32) → (Nat → Int32) → Int32 → Int32 → Option RC1} {fc : Nat} {f wr wt ne le cb cp tp ct cnu v2 v3 : Int32} {cnm : Int64} {code st cds : Nat → Int32} {om : Option RM9} (hT : LwT wt le code st) (hf : ¬ f = 0) (hm : ok om (fun r => r.1 = 0 ∧ r.2.2.2.2.2.1 = f ∧ r.2.2.2.2.2.2.2.2.1 = cds)) : ok (itr (fun kk => fX1_readFrom_14 (nI n) signs words kk) zc (fc + 1) wt ne le cb cp tp ct cnu f cnm code st v2 v3) (fun rc => ok om (fun rm => LwEnd z n signs words wr cds rc rm)) :=
  ok_mono (c_lawF hT hf) (fun rc e => ok_mono hm (fun rm g => ⟨fun j _ => by rw [g.2.2], Or.inr ⟨f, hf, e, g.1, g.2.1⟩⟩))
theorem l_ref {q c : Nat} (hq : q ≤ 1000) (h0 : 0 < c) (hc : c < 16) : fX5_refuse (nI q) 0 (nI c) = some (nI (c + 16 * q)) := by
  have fl := flt hq (c := c) h0 hc
  unfold fX5_refuse
  rw [if_pos rfl, ← fl.1]
theorem p_lawN {zc : Int32 → Int32 → Int32 → Int32 → Int32 → Int32 → Int32 → Int32 → Int32 → Int64 → (Nat → Int32) → (Nat → Int32) → Int32 → Int32 → Option RC1} {zm : Int32 → Int32 → Int32 → Int32 → Int32 → Int32 → Int64 → (Nat → Int32) → (Nat → Int32) → (Nat → Int32) → Int32 → Int32 → Option RM9} {k fc fm q r t : Nat} {C E : CC} {tp ct cnu : Int32} {cnm : Int64} {mt mnu wr : Int32} {mwd : Int64} {wt ne le : Int32} {code st : Nat → Int32} {dp co : Int32} {cds op cm : Nat → Int32} {L : List Lv} (hT : TpR z n signs tape words) (ih : ∀ k', k' < k → LwP z n signs tape words zc zm k') (hk : n ≤ q + k) (hfc : k + 2 ≤ fc) (hfm : k + 1 ≤ fm) (htq : t ≤ q) (tk : TokR z n q r ct cnu cnm mt mnu mwd) (hW : WfA (L, none)) (h6 : L.length ≤ 6) (hC : LwC (L, none) E q wt ne le code st) (hM : LwM (L, none) C q dp co cds op cm) : ok (itr (fun kk => fX1_readFrom_14 (nI n) signs words kk) zc fc wt ne le (nI r) (nI q) tp ct cnu 0 cnm code st 1 (nI t)) (fun rc => ok (itr (fun kk => fX9_reads_11 (nI n) tape kk) zm fm (nI r) (nI q) mt mnu wr co mwd cds op cm dp 1) (fun rm => LwEnd z n signs words wr cds rc rm)) := by
  obtain ⟨fc, rfl⟩ : ∃ m, fc = m + 1 + 1 := ⟨fc - 2, by omega⟩
  obtain ⟨fm, rfl⟩ : ∃ m, fm = m + 1 := ⟨fm - 1, by omega⟩
  have hn := hT.1
  have hz := gd7 hT.2.1
  have hqn := tk.1
  have hq : q ≤ 1000 := by omega
  have ht : t ≤ 1000 := by omega
  obtain ⟨a, ha, ea⟩ := tok_val tk
  have F := TkF_of tk hT.1 hz hT.2.2.2.1 ha ea
  show ok (fX1_readFrom_14 (nI n) signs words (itr (fun kk => fX1_readFrom_14 (nI n) signs words kk) zc (fc + 1)) wt ne le (nI r) (nI q) tp ct cnu 0 cnm code st 1 (nI t)) (fun rc => ok (fX9_reads_11 (nI n) tape (itr (fun kk => fX9_reads_11 (nI n) tape kk) zm fm) (nI r) (nI q) mt mnu wr co mwd cds op cm dp 1) (fun rm => LwEnd z n signs words wr cds rc rm))
  have hWL : WfL L := hW.1
  have hdp : dp = nI (L.length - 1) := hM.2.2.1
  have hne : ne = nI (L.length - 1) := hC.2.1
  by_cases hp : a = 2 ∨ a = 147 ∨ a = 40 ∨ (150 ≤ a ∧ a ≤ 153)
  · by_cases h5 : L.length ≤ 5
    · have hp0 : 0 < a := by omega
      have h0 : ¬ ct = 0 := by
        rw [ea]
        exact fun x => by have := (nI_eq (b := 0) (by omega) (by omega)).mp x; omega
      have hqr := t_len tk h0
      have hrn := tk.2.1
      obtain ⟨q', r', ct', cn', cm', mt', mn', mw', hq', tk', hc', hm'⟩ := p_next (p := r) (nI q) tp ct cnu cnm (nI q) mt mnu mwd hT.1 hT.2.1 hT.2.2.1 hT.2.2.2.1 hT.2.2.2.2 hrn
      have go : ∀ (X' : AS) (C' E' : CC) (wt' ne' le' : Int32) (code' st' : Nat → Int32) (dp' co' : Int32) (cds' op' cmm' : Nat → Int32) (v2' : Int32), WfA X' → X'.1.length ≤ 6 → (X'.2 ≠ none → X'.1.length ≤ 5) → LwC X' E' (q + 1) wt' ne' le' code' st' → LwM X' C' (q + 1) dp' co' cds' op' cmm' → v2' = (if X'.2.isSome = true then 0 else 1) → (∀ j, j < 1000 → cds' j = cds j) → ok (itr (fun kk => fX1_readFrom_14 (nI n) signs words kk) zc (fc + 1) wt' ne' le' (nI r') (nI q') (nI q) ct' cn' 0 cm' code' st' v2' (nI (t + 1))) (fun rc => ok (itr (fun kk => fX9_reads_11 (nI n) tape kk) zm fm (nI r') (nI q') mt' mn' wr co' mw' cds' op' cmm' dp' v2') (fun rm => LwEnd z n signs words wr cds rc rm)) := fun X' C' E' wt' ne' le' code' st' dp' co' cds' op' cmm' v2' g1 g2 g3 g4 g5 g6 g7 =>
        ok_mono (ih (k - 1) (by omega) (fc + 1) fm q' r' (t + 1) X' C' E' (nI q) ct' cn' cm' mt' mn' wr mw' wt' ne' le' code' st' dp' co' cds' op' cmm' v2' (by omega) (by omega) (by omega) (by omega) tk' g1 g2 g3 (LwC_m g4 (by omega)) (LwM_m g5 (by omega)) g6) (fun rc e => ok_mono e (fun rm e => LwEnd_cds e g7))
      have hg : ∀ c, (c = 28 ∨ c = 30 ∨ (1 ≤ c ∧ c ≤ 4) ∨ (100 ≤ c ∧ c < 10100)) → gds (L, none) c := fun c hc => ⟨h5, hc⟩
      have hlen : ∀ v, (arr L v).1.length ≤ 5 := fun v => by
        obtain ⟨s', L', e1, _, _, e4⟩ := arr_wf (v := v) hWL
        rw [e1]
        show L'.length + 1 ≤ 5
        omega
      rw [m_w1 F hp, hdp]
      by_cases x2 : a = 2
      · obtain ⟨v, hv, ev, ev2⟩ := (t_two tk).2 (by rw [ea, x2]; rfl)
        obtain ⟨E', wt', ne', le', code', e1, l1⟩ := c_pnum (len := nI n) (signs := signs) (words := words) hC hWL h5 (by omega) (by rw [ea, x2]) hv ev hc'
        rw [c_t2 ht e1, m_65n (by omega) x2 ev2]
        obtain ⟨dp', co', cds', e2, l2, l3⟩ := m_147 (wr := wr) (k11 := itr (fun kk => fX9_reads_11 (nI n) tape kk) zm fm) (c := 100 + v) (v := fun _ => nI v) hM hWL h5 (by omega) (hg _ (by omega)) (by show astN L (100 + v) = _; unfold astN; rw [if_neg (by omega), if_neg (by omega), if_neg (by omega), show 100 + v - 100 = v by omega]) hm'
        rw [hdp] at e2
        rw [e2]
        exact go (arS (arr L (fun _ => nI v))) _ E' wt' ne' le' code' st dp' co' cds' op cm 0 (WfA_ar hWL) (Nat.le_succ_of_le (hlen _)) (fun _ => hlen _) l1 l2 rfl l3
      by_cases x3 : 150 ≤ a
      · have x3 : 150 ≤ a ∧ a ≤ 153 := by omega
        obtain ⟨E', wt', ne', le', code', e1, l1⟩ := c_pfact (len := nI n) (signs := signs) (words := words) hC hWL h5 (by omega) ea x3 hc'
        rw [c_t2 ht e1, m_65f (by omega) x3]
        obtain ⟨dp', co', cds', e2, l2, l3⟩ := m_147 (wr := wr) (k11 := itr (fun kk => fX9_reads_11 (nI n) tape kk) zm fm) (c := a - 149) (v := fun e => fcv e (a - 149)) hM hWL h5 (by omega) (hg _ (by omega)) (by show astN L (a - 149) = _; unfold astN; rw [if_neg (by omega), if_neg (by omega), if_pos (by omega)]) hm'
        rw [hdp] at e2
        rw [e2]
        exact go (arS (arr L (fun e => fcv e (a - 149)))) _ E' wt' ne' le' code' st dp' co' cds' op cm 0 (WfA_ar hWL) (Nat.le_succ_of_le (hlen _)) (fun _ => hlen _) l1 l2 rfl l3
      · have x4 : a = 147 ∨ a = 40 := by omega
        rw [m_65o (by omega) x4]
        rcases x4 with x4 | x4
        · obtain ⟨wt', ne', st', e1, l1⟩ := c_popen (len := nI n) (signs := signs) (words := words) (o := 1) hC hWL h5 ea (Or.inl ⟨x4, rfl⟩) hc'
          obtain ⟨dp', co', cds', op', cmm', e2, l2, l3⟩ := m_86 (wr := wr) (k11 := itr (fun kk => fX9_reads_11 (nI n) tape kk) zm fm) (c := 30) (o := 1) (v4 := 1) hM hWL h5 (by omega) (Or.inl ⟨rfl, rfl, rfl⟩) hm'
          rw [hdp] at e2
          rw [c_t1 ht e1, if_pos x4, e2]
          exact go (z5 1 :: L, none) _ E wt' ne' le code st' dp' co' cds' op' cmm' 1 ⟨WfL_cons hWL (Or.inl rfl), fun e => absurd rfl e⟩ (Nat.succ_le_succ h5) (fun e => absurd rfl e) l1 l2 rfl l3
        · obtain ⟨wt', ne', st', e1, l1⟩ := c_popen (len := nI n) (signs := signs) (words := words) (o := 2) hC hWL h5 ea (Or.inr ⟨x4, rfl⟩) hc'
          obtain ⟨dp', co', cds', op', cmm', e2, l2, l3⟩ := m_86 (wr := wr) (k11 := itr (fun kk => fX9_reads_11 (nI n) tape kk) zm fm) (c := 28) (o := 2) (v4 := 0) hM hWL h5 (by omega) (Or.inr ⟨rfl, rfl, rfl⟩) hm'
          rw [hdp] at e2
          rw [c_t1 ht e1, if_neg (by omega), e2]
          exact go (z5 2 :: L, none) _ E wt' ne' le code st' dp' co' cds' op' cmm' 1 ⟨WfL_cons hWL (Or.inr rfl), fun e => absurd rfl e⟩ (Nat.succ_le_succ h5) (fun e => absurd rfl e) l1 l2 rfl l3
    · have e6 : L.length - 1 = 5 := by omega
      have fl := flt hq (c := 5) (by omega) (by omega)
      rw [e6] at hne hdp
      rw [c_t1 ht (c_part5 ea ha hp hne (l_ref hq (c := 5) (by omega) (by omega))), m_w1 F hp, hdp]
      exact p_lawF (LwC_T hC h6 (by omega)) fl.2 (m_w5 hq)
  · have fl := flt hq (c := 1) (by omega) (by omega)
    rw [c_t1 ht (c_part1 ea ha hp (l_ref hq (c := 1) (by omega) (by omega)))]
    exact p_lawF (LwC_T hC h6 (by omega)) fl.2 (m_w0 F hq hp)
theorem p_lawO42 {zc : Int32 → Int32 → Int32 → Int32 → Int32 → Int32 → Int32 → Int32 → Int32 → Int64 → (Nat → Int32) → (Nat → Int32) → Int32 → Int32 → Option RC1} {zm : Int32 → Int32 → Int32 → Int32 → Int32 → Int32 → Int64 → (Nat → Int32) → (Nat → Int32) → (Nat → Int32) → Int32 → Int32 → Option RM9} {k fc fm q r t : Nat} {C E : CC} {tp ct cnu : Int32} {cnm : Int64} {mt mnu wr : Int32} {mwd : Int64} {wt ne le : Int32} {code st : Nat → Int32} {dp co : Int32} {cds op cm : Nat → Int32} {s : Lv} {L : List Lv} {x : Sv} (hT : TpR z n signs tape words) (ih : ∀ k', k' < k → LwP z n signs tape words zc zm k') (hk : n ≤ q + k) (hfc : k + 2 ≤ fc) (hfm : k + 1 ≤ fm) (htq : t ≤ q) (tk : TokR z n q r ct cnu cnm mt mnu mwd) (hW : WfA (s :: L, some x)) (h5 : L.length < 5) (hC : LwC (s :: L, some x) E q wt ne le code st) (hM : LwM (s :: L, some x) C q dp co cds op cm) (xa : ct = nI 42) : ok (itr (fun kk => fX1_readFrom_14 (nI n) signs words kk) zc fc wt ne le (nI r) (nI q) tp ct cnu 0 cnm code st 0 (nI t)) (fun rc => ok (itr (fun kk => fX9_reads_11 (nI n) tape kk) zm fm (nI r) (nI q) mt mnu wr co mwd cds op cm dp 0) (fun rm => LwEnd z n signs words wr cds rc rm)) := by
  obtain ⟨fc, rfl⟩ : ∃ m, fc = m + 1 + 1 := ⟨fc - 2, by omega⟩
  obtain ⟨fm, rfl⟩ : ∃ m, fm = m + 1 := ⟨fm - 1, by omega⟩
  have hn := hT.1
  have hz := gd7 hT.2.1
  have hqn := tk.1
  have hq : q ≤ 1000 := by omega
  have ht : t ≤ 1000 := by omega
  obtain ⟨a, ha, ea⟩ := tok_val tk
  have F := TkF_of tk hT.1 hz hT.2.2.2.1 ha ea
  show ok (fX1_readFrom_14 (nI n) signs words (itr (fun kk => fX1_readFrom_14 (nI n) signs words kk) zc (fc + 1)) wt ne le (nI r) (nI q) tp ct cnu 0 cnm code st 0 (nI t)) (fun rc => ok (fX9_reads_11 (nI n) tape (itr (fun kk => fX9_reads_11 (nI n) tape kk) zm fm) (nI r) (nI q) mt mnu wr co mwd cds op cm dp 0) (fun rm => LwEnd z n signs words wr cds rc rm))
  have n1 : s.o ≠ 1 := hW.2 (by simp) s L rfl
  have hLO := WfL_O hW.1
  have hdp : dp = nI L.length := hM.2.2.1
  have hco : co = nI (1000 + C.1) := hM.2.2.2.1
  have hO : OpL op cm (s :: L) := hM.2.2.2.2.2.1
  have hCq : C.1 ≤ q := hM.2.2.2.2.2.2
  have hne : ne = nI L.length := hC.2.1
  have xx : a = 42 := (nI_eq (by omega) (by omega)).mp (ea.symm.trans xa)
  have h0 : ¬ ct = 0 := by
    rw [ea]
    exact fun x => by have := (nI_eq (b := 0) (by omega) (by omega)).mp x; omega
  have hqr := t_len tk h0
  have hrn := tk.2.1
  obtain ⟨q', r', ct', cn', cm', mt', mn', mw', hq', tk', hc', hm'⟩ := p_next (p := r) (nI q) tp ct cnu cnm (nI q) mt mnu mwd hT.1 hT.2.1 hT.2.2.1 hT.2.2.2.1 hT.2.2.2.2 hrn
  have go : ∀ (X' : AS) (C' E' : CC) (wt' ne' le' : Int32) (code' st' : Nat → Int32) (dp' co' : Int32) (cds' op' cmm' : Nat → Int32) (v2' : Int32), WfA X' → X'.1.length ≤ 5 → LwC X' E' (q + 1) wt' ne' le' code' st' → LwM X' C' (q + 1) dp' co' cds' op' cmm' → v2' = (if X'.2.isSome = true then 0 else 1) → (∀ j, j < 1000 → cds' j = cds j) → ok (itr (fun kk => fX1_readFrom_14 (nI n) signs words kk) zc (fc + 1) wt' ne' le' (nI r') (nI q') (nI q) ct' cn' 0 cm' code' st' v2' (nI (t + 1))) (fun rc => ok (itr (fun kk => fX9_reads_11 (nI n) tape kk) zm fm (nI r') (nI q') mt' mn' wr co' mw' cds' op' cmm' dp' v2') (fun rm => LwEnd z n signs words wr cds rc rm)) := fun X' C' E' wt' ne' le' code' st' dp' co' cds' op' cmm' v2' g1 g2 g4 g5 g6 g7 =>
    ok_mono (ih (k - 1) (by omega) (fc + 1) fm q' r' (t + 1) X' C' E' (nI q) ct' cn' cm' mt' mn' wr mw' wt' ne' le' code' st' dp' co' cds' op' cmm' v2' (by omega) (by omega) (by omega) (by omega) tk' g1 (Nat.le_succ_of_le g2) (fun _ => g2) (LwC_m g4 (by omega)) (LwM_m g5 (by omega)) g6) (fun rc e => ok_mono e (fun rm e => LwEnd_cds e g7))
  have xx : a = 42 := xx
  obtain ⟨E', wt', le', code', st', e1, l1⟩ := c_op42 (len := nI n) (signs := signs) (words := words) hC hW.1 (by omega) (by omega) (by rw [ea, xx]) hc'
  have l2 := m_op (c := 22) (s2 := (mkL s.o s.kb s.ag s.sb 22 s.kv s.av s.sv (r4 s x))) (cm' := cm) hM (by omega) (by omega) ⟨by show L.length + 1 ≤ 6; omega, by omega⟩ rfl rfl (hO.2.1) (fun j _ => rfl)
  rw [c_t3 ht ea ha hne (by omega) (by omega) (by omega), e1, Option.bind_some, m_o1 F (by omega), if_neg (by omega), if_neg (by omega), hdp, m_237 (C := C) (by omega) hco hm']
  rw [hdp] at l2
  exact go ((mkL s.o s.kb s.ag s.sb 22 s.kv s.av s.sv (r4 s x)) :: L, none) _ E' wt' ne le' code' st' _ _ _ op cm 1 ⟨WfL_top hW.1 rfl n1 ⟨hLO.1, hLO.2.1, hLO.2.2.1, Or.inr rfl⟩, fun e => absurd rfl e⟩ (by show L.length + 1 ≤ 5; omega) l1 l2.1 rfl l2.2
theorem p_lawO43 {zc : Int32 → Int32 → Int32 → Int32 → Int32 → Int32 → Int32 → Int32 → Int32 → Int64 → (Nat → Int32) → (Nat → Int32) → Int32 → Int32 → Option RC1} {zm : Int32 → Int32 → Int32 → Int32 → Int32 → Int32 → Int64 → (Nat → Int32) → (Nat → Int32) → (Nat → Int32) → Int32 → Int32 → Option RM9} {k fc fm q r t : Nat} {C E : CC} {tp ct cnu : Int32} {cnm : Int64} {mt mnu wr : Int32} {mwd : Int64} {wt ne le : Int32} {code st : Nat → Int32} {dp co : Int32} {cds op cm : Nat → Int32} {s : Lv} {L : List Lv} {x : Sv} (hT : TpR z n signs tape words) (ih : ∀ k', k' < k → LwP z n signs tape words zc zm k') (hk : n ≤ q + k) (hfc : k + 2 ≤ fc) (hfm : k + 1 ≤ fm) (htq : t ≤ q) (tk : TokR z n q r ct cnu cnm mt mnu mwd) (hW : WfA (s :: L, some x)) (h5 : L.length < 5) (hC : LwC (s :: L, some x) E q wt ne le code st) (hM : LwM (s :: L, some x) C q dp co cds op cm) (xa : ct = nI 43) : ok (itr (fun kk => fX1_readFrom_14 (nI n) signs words kk) zc fc wt ne le (nI r) (nI q) tp ct cnu 0 cnm code st 0 (nI t)) (fun rc => ok (itr (fun kk => fX9_reads_11 (nI n) tape kk) zm fm (nI r) (nI q) mt mnu wr co mwd cds op cm dp 0) (fun rm => LwEnd z n signs words wr cds rc rm)) := by
  obtain ⟨fc, rfl⟩ : ∃ m, fc = m + 1 + 1 := ⟨fc - 2, by omega⟩
  obtain ⟨fm, rfl⟩ : ∃ m, fm = m + 1 := ⟨fm - 1, by omega⟩
  have hn := hT.1
  have hz := gd7 hT.2.1
  have hqn := tk.1
  have hq : q ≤ 1000 := by omega
  have ht : t ≤ 1000 := by omega
  obtain ⟨a, ha, ea⟩ := tok_val tk
  have F := TkF_of tk hT.1 hz hT.2.2.2.1 ha ea
  show ok (fX1_readFrom_14 (nI n) signs words (itr (fun kk => fX1_readFrom_14 (nI n) signs words kk) zc (fc + 1)) wt ne le (nI r) (nI q) tp ct cnu 0 cnm code st 0 (nI t)) (fun rc => ok (fX9_reads_11 (nI n) tape (itr (fun kk => fX9_reads_11 (nI n) tape kk) zm fm) (nI r) (nI q) mt mnu wr co mwd cds op cm dp 0) (fun rm => LwEnd z n signs words wr cds rc rm))
  have n1 : s.o ≠ 1 := hW.2 (by simp) s L rfl
  have hLO := WfL_O hW.1
  have hdp : dp = nI L.length := hM.2.2.1
  have hco : co = nI (1000 + C.1) := hM.2.2.2.1
  have hO : OpL op cm (s :: L) := hM.2.2.2.2.2.1
  have hCq : C.1 ≤ q := hM.2.2.2.2.2.2
  have hne : ne = nI L.length := hC.2.1
  have xx : a = 43 := (nI_eq (by omega) (by omega)).mp (ea.symm.trans xa)
  have h0 : ¬ ct = 0 := by
    rw [ea]
    exact fun x => by have := (nI_eq (b := 0) (by omega) (by omega)).mp x; omega
  have hqr := t_len tk h0
  have hrn := tk.2.1
  obtain ⟨q', r', ct', cn', cm', mt', mn', mw', hq', tk', hc', hm'⟩ := p_next (p := r) (nI q) tp ct cnu cnm (nI q) mt mnu mwd hT.1 hT.2.1 hT.2.2.1 hT.2.2.2.1 hT.2.2.2.2 hrn
  have go : ∀ (X' : AS) (C' E' : CC) (wt' ne' le' : Int32) (code' st' : Nat → Int32) (dp' co' : Int32) (cds' op' cmm' : Nat → Int32) (v2' : Int32), WfA X' → X'.1.length ≤ 5 → LwC X' E' (q + 1) wt' ne' le' code' st' → LwM X' C' (q + 1) dp' co' cds' op' cmm' → v2' = (if X'.2.isSome = true then 0 else 1) → (∀ j, j < 1000 → cds' j = cds j) → ok (itr (fun kk => fX1_readFrom_14 (nI n) signs words kk) zc (fc + 1) wt' ne' le' (nI r') (nI q') (nI q) ct' cn' 0 cm' code' st' v2' (nI (t + 1))) (fun rc => ok (itr (fun kk => fX9_reads_11 (nI n) tape kk) zm fm (nI r') (nI q') mt' mn' wr co' mw' cds' op' cmm' dp' v2') (fun rm => LwEnd z n signs words wr cds rc rm)) := fun X' C' E' wt' ne' le' code' st' dp' co' cds' op' cmm' v2' g1 g2 g4 g5 g6 g7 =>
    ok_mono (ih (k - 1) (by omega) (fc + 1) fm q' r' (t + 1) X' C' E' (nI q) ct' cn' cm' mt' mn' wr mw' wt' ne' le' code' st' dp' co' cds' op' cmm' v2' (by omega) (by omega) (by omega) (by omega) tk' g1 (Nat.le_succ_of_le g2) (fun _ => g2) (LwC_m g4 (by omega)) (LwM_m g5 (by omega)) g6) (fun rc e => ok_mono e (fun rm e => LwEnd_cds e g7))
  have xx : a = 43 := xx
  obtain ⟨E', wt', le', code', st', e1, l1⟩ := c_op43 (len := nI n) (signs := signs) (words := words) hC hW.1 (by omega) (by omega) (by rw [ea, xx]) hc'
  have l2 := m_op (c := 20) (s2 := (mkL s.o s.kb s.ag 20 0 s.kv s.av (r3 s x) s.tv)) (cm' := cm) hM (by omega) (by omega) ⟨by show L.length + 1 ≤ 6; omega, by omega⟩ rfl rfl (hO.2.1) (fun j _ => rfl)
  rw [c_t3 ht ea ha hne (by omega) (by omega) (by omega), e1, Option.bind_some, m_o1 F (by omega), if_pos xx, hdp, m_237 (C := C) (by omega) hco hm']
  rw [hdp] at l2
  exact go ((mkL s.o s.kb s.ag 20 0 s.kv s.av (r3 s x) s.tv) :: L, none) _ E' wt' ne le' code' st' _ _ _ op cm 1 ⟨WfL_top hW.1 rfl n1 ⟨hLO.1, hLO.2.1, Or.inr (Or.inl rfl), Or.inl rfl⟩, fun e => absurd rfl e⟩ (by show L.length + 1 ≤ 5; omega) l1 l2.1 rfl l2.2
theorem p_lawO45 {zc : Int32 → Int32 → Int32 → Int32 → Int32 → Int32 → Int32 → Int32 → Int32 → Int64 → (Nat → Int32) → (Nat → Int32) → Int32 → Int32 → Option RC1} {zm : Int32 → Int32 → Int32 → Int32 → Int32 → Int32 → Int64 → (Nat → Int32) → (Nat → Int32) → (Nat → Int32) → Int32 → Int32 → Option RM9} {k fc fm q r t : Nat} {C E : CC} {tp ct cnu : Int32} {cnm : Int64} {mt mnu wr : Int32} {mwd : Int64} {wt ne le : Int32} {code st : Nat → Int32} {dp co : Int32} {cds op cm : Nat → Int32} {s : Lv} {L : List Lv} {x : Sv} (hT : TpR z n signs tape words) (ih : ∀ k', k' < k → LwP z n signs tape words zc zm k') (hk : n ≤ q + k) (hfc : k + 2 ≤ fc) (hfm : k + 1 ≤ fm) (htq : t ≤ q) (tk : TokR z n q r ct cnu cnm mt mnu mwd) (hW : WfA (s :: L, some x)) (h5 : L.length < 5) (hC : LwC (s :: L, some x) E q wt ne le code st) (hM : LwM (s :: L, some x) C q dp co cds op cm) (xa : ct = nI 45) : ok (itr (fun kk => fX1_readFrom_14 (nI n) signs words kk) zc fc wt ne le (nI r) (nI q) tp ct cnu 0 cnm code st 0 (nI t)) (fun rc => ok (itr (fun kk => fX9_reads_11 (nI n) tape kk) zm fm (nI r) (nI q) mt mnu wr co mwd cds op cm dp 0) (fun rm => LwEnd z n signs words wr cds rc rm)) := by
  obtain ⟨fc, rfl⟩ : ∃ m, fc = m + 1 + 1 := ⟨fc - 2, by omega⟩
  obtain ⟨fm, rfl⟩ : ∃ m, fm = m + 1 := ⟨fm - 1, by omega⟩
  have hn := hT.1
  have hz := gd7 hT.2.1
  have hqn := tk.1
  have hq : q ≤ 1000 := by omega
  have ht : t ≤ 1000 := by omega
  obtain ⟨a, ha, ea⟩ := tok_val tk
  have F := TkF_of tk hT.1 hz hT.2.2.2.1 ha ea
  show ok (fX1_readFrom_14 (nI n) signs words (itr (fun kk => fX1_readFrom_14 (nI n) signs words kk) zc (fc + 1)) wt ne le (nI r) (nI q) tp ct cnu 0 cnm code st 0 (nI t)) (fun rc => ok (fX9_reads_11 (nI n) tape (itr (fun kk => fX9_reads_11 (nI n) tape kk) zm fm) (nI r) (nI q) mt mnu wr co mwd cds op cm dp 0) (fun rm => LwEnd z n signs words wr cds rc rm))
  have n1 : s.o ≠ 1 := hW.2 (by simp) s L rfl
  have hLO := WfL_O hW.1
  have hdp : dp = nI L.length := hM.2.2.1
  have hco : co = nI (1000 + C.1) := hM.2.2.2.1
  have hO : OpL op cm (s :: L) := hM.2.2.2.2.2.1
  have hCq : C.1 ≤ q := hM.2.2.2.2.2.2
  have hne : ne = nI L.length := hC.2.1
  have xx : a = 45 := (nI_eq (by omega) (by omega)).mp (ea.symm.trans xa)
  have h0 : ¬ ct = 0 := by
    rw [ea]
    exact fun x => by have := (nI_eq (b := 0) (by omega) (by omega)).mp x; omega
  have hqr := t_len tk h0
  have hrn := tk.2.1
  obtain ⟨q', r', ct', cn', cm', mt', mn', mw', hq', tk', hc', hm'⟩ := p_next (p := r) (nI q) tp ct cnu cnm (nI q) mt mnu mwd hT.1 hT.2.1 hT.2.2.1 hT.2.2.2.1 hT.2.2.2.2 hrn
  have go : ∀ (X' : AS) (C' E' : CC) (wt' ne' le' : Int32) (code' st' : Nat → Int32) (dp' co' : Int32) (cds' op' cmm' : Nat → Int32) (v2' : Int32), WfA X' → X'.1.length ≤ 5 → LwC X' E' (q + 1) wt' ne' le' code' st' → LwM X' C' (q + 1) dp' co' cds' op' cmm' → v2' = (if X'.2.isSome = true then 0 else 1) → (∀ j, j < 1000 → cds' j = cds j) → ok (itr (fun kk => fX1_readFrom_14 (nI n) signs words kk) zc (fc + 1) wt' ne' le' (nI r') (nI q') (nI q) ct' cn' 0 cm' code' st' v2' (nI (t + 1))) (fun rc => ok (itr (fun kk => fX9_reads_11 (nI n) tape kk) zm fm (nI r') (nI q') mt' mn' wr co' mw' cds' op' cmm' dp' v2') (fun rm => LwEnd z n signs words wr cds rc rm)) := fun X' C' E' wt' ne' le' code' st' dp' co' cds' op' cmm' v2' g1 g2 g4 g5 g6 g7 =>
    ok_mono (ih (k - 1) (by omega) (fc + 1) fm q' r' (t + 1) X' C' E' (nI q) ct' cn' cm' mt' mn' wr mw' wt' ne' le' code' st' dp' co' cds' op' cmm' v2' (by omega) (by omega) (by omega) (by omega) tk' g1 (Nat.le_succ_of_le g2) (fun _ => g2) (LwC_m g4 (by omega)) (LwM_m g5 (by omega)) g6) (fun rc e => ok_mono e (fun rm e => LwEnd_cds e g7))
  have xx : a = 45 := xx
  obtain ⟨E', wt', le', code', st', e1, l1⟩ := c_op45 (len := nI n) (signs := signs) (words := words) hC hW.1 (by omega) (by omega) (by rw [ea, xx]) hc'
  have l2 := m_op (c := 21) (s2 := (mkL s.o s.kb s.ag 21 0 s.kv s.av (r3 s x) s.tv)) (cm' := cm) hM (by omega) (by omega) ⟨by show L.length + 1 ≤ 6; omega, by omega⟩ rfl rfl (hO.2.1) (fun j _ => rfl)
  rw [c_t3 ht ea ha hne (by omega) (by omega) (by omega), e1, Option.bind_some, m_o1 F (by omega), if_neg (by omega), if_pos xx, hdp, m_237 (C := C) (by omega) hco hm']
  rw [hdp] at l2
  exact go ((mkL s.o s.kb s.ag 21 0 s.kv s.av (r3 s x) s.tv) :: L, none) _ E' wt' ne le' code' st' _ _ _ op cm 1 ⟨WfL_top hW.1 rfl n1 ⟨hLO.1, hLO.2.1, Or.inr (Or.inr rfl), Or.inl rfl⟩, fun e => absurd rfl e⟩ (by show L.length + 1 ≤ 5; omega) l1 l2.1 rfl l2.2
theorem p_lawO60 {zc : Int32 → Int32 → Int32 → Int32 → Int32 → Int32 → Int32 → Int32 → Int32 → Int64 → (Nat → Int32) → (Nat → Int32) → Int32 → Int32 → Option RC1} {zm : Int32 → Int32 → Int32 → Int32 → Int32 → Int32 → Int64 → (Nat → Int32) → (Nat → Int32) → (Nat → Int32) → Int32 → Int32 → Option RM9} {k fc fm q r t : Nat} {C E : CC} {tp ct cnu : Int32} {cnm : Int64} {mt mnu wr : Int32} {mwd : Int64} {wt ne le : Int32} {code st : Nat → Int32} {dp co : Int32} {cds op cm : Nat → Int32} {s : Lv} {L : List Lv} {x : Sv} (hT : TpR z n signs tape words) (ih : ∀ k', k' < k → LwP z n signs tape words zc zm k') (hk : n ≤ q + k) (hfc : k + 2 ≤ fc) (hfm : k + 1 ≤ fm) (htq : t ≤ q) (tk : TokR z n q r ct cnu cnm mt mnu mwd) (hW : WfA (s :: L, some x)) (h5 : L.length < 5) (hC : LwC (s :: L, some x) E q wt ne le code st) (hM : LwM (s :: L, some x) C q dp co cds op cm) (xa : ct = nI 60) (hag : s.ag = 0) : ok (itr (fun kk => fX1_readFrom_14 (nI n) signs words kk) zc fc wt ne le (nI r) (nI q) tp ct cnu 0 cnm code st 0 (nI t)) (fun rc => ok (itr (fun kk => fX9_reads_11 (nI n) tape kk) zm fm (nI r) (nI q) mt mnu wr co mwd cds op cm dp 0) (fun rm => LwEnd z n signs words wr cds rc rm)) := by
  obtain ⟨fc, rfl⟩ : ∃ m, fc = m + 1 + 1 := ⟨fc - 2, by omega⟩
  obtain ⟨fm, rfl⟩ : ∃ m, fm = m + 1 := ⟨fm - 1, by omega⟩
  have hn := hT.1
  have hz := gd7 hT.2.1
  have hqn := tk.1
  have hq : q ≤ 1000 := by omega
  have ht : t ≤ 1000 := by omega
  obtain ⟨a, ha, ea⟩ := tok_val tk
  have F := TkF_of tk hT.1 hz hT.2.2.2.1 ha ea
  show ok (fX1_readFrom_14 (nI n) signs words (itr (fun kk => fX1_readFrom_14 (nI n) signs words kk) zc (fc + 1)) wt ne le (nI r) (nI q) tp ct cnu 0 cnm code st 0 (nI t)) (fun rc => ok (fX9_reads_11 (nI n) tape (itr (fun kk => fX9_reads_11 (nI n) tape kk) zm fm) (nI r) (nI q) mt mnu wr co mwd cds op cm dp 0) (fun rm => LwEnd z n signs words wr cds rc rm))
  have n1 : s.o ≠ 1 := hW.2 (by simp) s L rfl
  have hLO := WfL_O hW.1
  have hdp : dp = nI L.length := hM.2.2.1
  have hco : co = nI (1000 + C.1) := hM.2.2.2.1
  have hO : OpL op cm (s :: L) := hM.2.2.2.2.2.1
  have hCq : C.1 ≤ q := hM.2.2.2.2.2.2
  have hne : ne = nI L.length := hC.2.1
  have xx : a = 60 := (nI_eq (by omega) (by omega)).mp (ea.symm.trans xa)
  have h0 : ¬ ct = 0 := by
    rw [ea]
    exact fun x => by have := (nI_eq (b := 0) (by omega) (by omega)).mp x; omega
  have hqr := t_len tk h0
  have hrn := tk.2.1
  obtain ⟨q', r', ct', cn', cm', mt', mn', mw', hq', tk', hc', hm'⟩ := p_next (p := r) (nI q) tp ct cnu cnm (nI q) mt mnu mwd hT.1 hT.2.1 hT.2.2.1 hT.2.2.2.1 hT.2.2.2.2 hrn
  have go : ∀ (X' : AS) (C' E' : CC) (wt' ne' le' : Int32) (code' st' : Nat → Int32) (dp' co' : Int32) (cds' op' cmm' : Nat → Int32) (v2' : Int32), WfA X' → X'.1.length ≤ 5 → LwC X' E' (q + 1) wt' ne' le' code' st' → LwM X' C' (q + 1) dp' co' cds' op' cmm' → v2' = (if X'.2.isSome = true then 0 else 1) → (∀ j, j < 1000 → cds' j = cds j) → ok (itr (fun kk => fX1_readFrom_14 (nI n) signs words kk) zc (fc + 1) wt' ne' le' (nI r') (nI q') (nI q) ct' cn' 0 cm' code' st' v2' (nI (t + 1))) (fun rc => ok (itr (fun kk => fX9_reads_11 (nI n) tape kk) zm fm (nI r') (nI q') mt' mn' wr co' mw' cds' op' cmm' dp' v2') (fun rm => LwEnd z n signs words wr cds rc rm)) := fun X' C' E' wt' ne' le' code' st' dp' co' cds' op' cmm' v2' g1 g2 g4 g5 g6 g7 =>
    ok_mono (ih (k - 1) (by omega) (fc + 1) fm q' r' (t + 1) X' C' E' (nI q) ct' cn' cm' mt' mn' wr mw' wt' ne' le' code' st' dp' co' cds' op' cmm' v2' (by omega) (by omega) (by omega) (by omega) tk' g1 (Nat.le_succ_of_le g2) (fun _ => g2) (LwC_m g4 (by omega)) (LwM_m g5 (by omega)) g6) (fun rc e => ok_mono e (fun rm e => LwEnd_cds e g7))
  have hcm0 : cm L.length = 0 := by rw [hO.2.1, decide_eq_false (fun y => y hag)]; rfl
  have xx : a = 60 := xx
  obtain ⟨E', wt', le', code', st', e1, l1⟩ := c_op60 (len := nI n) (signs := signs) (words := words) hC hW.1 (by omega) (by omega) (by rw [ea, xx]) hag hc'
  have l2 := m_op (c := 24) (s2 := (mkL s.o s.kb 24 0 0 s.kv (r3 s x) s.sv s.tv)) (cm' := (upd cm L.length (vp_nar .boolean 1))) hM (by omega) (by omega) ⟨by show L.length + 1 ≤ 6; omega, by omega⟩ rfl rfl (by rw [pk_us]; exact (show vp_nar FieldType.boolean 1 = nI (b2 (decide ((24 : Nat) ≠ 0))) by decide)) (fun j e => pk_un e)
  rw [c_t3 ht ea ha hne (by omega) (by omega) (by omega), e1, Option.bind_some, m_o2 F (by omega), hdp, m_263a (C := C) F (by omega) hcm0 (by omega) (by omega) hco hm', if_pos xx]
  rw [hdp] at l2
  exact go ((mkL s.o s.kb 24 0 0 s.kv (r3 s x) s.sv s.tv) :: L, none) _ E' wt' ne le' code' st' _ _ _ op (upd cm L.length (vp_nar .boolean 1)) 1 ⟨WfL_top hW.1 rfl n1 ⟨hLO.1, Or.inr (Or.inl rfl), Or.inl rfl, Or.inl rfl⟩, fun e => absurd rfl e⟩ (by show L.length + 1 ≤ 5; omega) l1 l2.1 rfl l2.2
theorem p_lawO61 {zc : Int32 → Int32 → Int32 → Int32 → Int32 → Int32 → Int32 → Int32 → Int32 → Int64 → (Nat → Int32) → (Nat → Int32) → Int32 → Int32 → Option RC1} {zm : Int32 → Int32 → Int32 → Int32 → Int32 → Int32 → Int64 → (Nat → Int32) → (Nat → Int32) → (Nat → Int32) → Int32 → Int32 → Option RM9} {k fc fm q r t : Nat} {C E : CC} {tp ct cnu : Int32} {cnm : Int64} {mt mnu wr : Int32} {mwd : Int64} {wt ne le : Int32} {code st : Nat → Int32} {dp co : Int32} {cds op cm : Nat → Int32} {s : Lv} {L : List Lv} {x : Sv} (hT : TpR z n signs tape words) (ih : ∀ k', k' < k → LwP z n signs tape words zc zm k') (hk : n ≤ q + k) (hfc : k + 2 ≤ fc) (hfm : k + 1 ≤ fm) (htq : t ≤ q) (tk : TokR z n q r ct cnu cnm mt mnu mwd) (hW : WfA (s :: L, some x)) (h5 : L.length < 5) (hC : LwC (s :: L, some x) E q wt ne le code st) (hM : LwM (s :: L, some x) C q dp co cds op cm) (xa : ct = nI 61) (hag : s.ag = 0) : ok (itr (fun kk => fX1_readFrom_14 (nI n) signs words kk) zc fc wt ne le (nI r) (nI q) tp ct cnu 0 cnm code st 0 (nI t)) (fun rc => ok (itr (fun kk => fX9_reads_11 (nI n) tape kk) zm fm (nI r) (nI q) mt mnu wr co mwd cds op cm dp 0) (fun rm => LwEnd z n signs words wr cds rc rm)) := by
  obtain ⟨fc, rfl⟩ : ∃ m, fc = m + 1 + 1 := ⟨fc - 2, by omega⟩
  obtain ⟨fm, rfl⟩ : ∃ m, fm = m + 1 := ⟨fm - 1, by omega⟩
  have hn := hT.1
  have hz := gd7 hT.2.1
  have hqn := tk.1
  have hq : q ≤ 1000 := by omega
  have ht : t ≤ 1000 := by omega
  obtain ⟨a, ha, ea⟩ := tok_val tk
  have F := TkF_of tk hT.1 hz hT.2.2.2.1 ha ea
  show ok (fX1_readFrom_14 (nI n) signs words (itr (fun kk => fX1_readFrom_14 (nI n) signs words kk) zc (fc + 1)) wt ne le (nI r) (nI q) tp ct cnu 0 cnm code st 0 (nI t)) (fun rc => ok (fX9_reads_11 (nI n) tape (itr (fun kk => fX9_reads_11 (nI n) tape kk) zm fm) (nI r) (nI q) mt mnu wr co mwd cds op cm dp 0) (fun rm => LwEnd z n signs words wr cds rc rm))
  have n1 : s.o ≠ 1 := hW.2 (by simp) s L rfl
  have hLO := WfL_O hW.1
  have hdp : dp = nI L.length := hM.2.2.1
  have hco : co = nI (1000 + C.1) := hM.2.2.2.1
  have hO : OpL op cm (s :: L) := hM.2.2.2.2.2.1
  have hCq : C.1 ≤ q := hM.2.2.2.2.2.2
  have hne : ne = nI L.length := hC.2.1
  have xx : a = 61 := (nI_eq (by omega) (by omega)).mp (ea.symm.trans xa)
  have h0 : ¬ ct = 0 := by
    rw [ea]
    exact fun x => by have := (nI_eq (b := 0) (by omega) (by omega)).mp x; omega
  have hqr := t_len tk h0
  have hrn := tk.2.1
  obtain ⟨q', r', ct', cn', cm', mt', mn', mw', hq', tk', hc', hm'⟩ := p_next (p := r) (nI q) tp ct cnu cnm (nI q) mt mnu mwd hT.1 hT.2.1 hT.2.2.1 hT.2.2.2.1 hT.2.2.2.2 hrn
  have go : ∀ (X' : AS) (C' E' : CC) (wt' ne' le' : Int32) (code' st' : Nat → Int32) (dp' co' : Int32) (cds' op' cmm' : Nat → Int32) (v2' : Int32), WfA X' → X'.1.length ≤ 5 → LwC X' E' (q + 1) wt' ne' le' code' st' → LwM X' C' (q + 1) dp' co' cds' op' cmm' → v2' = (if X'.2.isSome = true then 0 else 1) → (∀ j, j < 1000 → cds' j = cds j) → ok (itr (fun kk => fX1_readFrom_14 (nI n) signs words kk) zc (fc + 1) wt' ne' le' (nI r') (nI q') (nI q) ct' cn' 0 cm' code' st' v2' (nI (t + 1))) (fun rc => ok (itr (fun kk => fX9_reads_11 (nI n) tape kk) zm fm (nI r') (nI q') mt' mn' wr co' mw' cds' op' cmm' dp' v2') (fun rm => LwEnd z n signs words wr cds rc rm)) := fun X' C' E' wt' ne' le' code' st' dp' co' cds' op' cmm' v2' g1 g2 g4 g5 g6 g7 =>
    ok_mono (ih (k - 1) (by omega) (fc + 1) fm q' r' (t + 1) X' C' E' (nI q) ct' cn' cm' mt' mn' wr mw' wt' ne' le' code' st' dp' co' cds' op' cmm' v2' (by omega) (by omega) (by omega) (by omega) tk' g1 (Nat.le_succ_of_le g2) (fun _ => g2) (LwC_m g4 (by omega)) (LwM_m g5 (by omega)) g6) (fun rc e => ok_mono e (fun rm e => LwEnd_cds e g7))
  have hcm0 : cm L.length = 0 := by rw [hO.2.1, decide_eq_false (fun y => y hag)]; rfl
  have xx : a = 61 := xx
  obtain ⟨E', wt', le', code', st', e1, l1⟩ := c_op61 (len := nI n) (signs := signs) (words := words) hC hW.1 (by omega) (by omega) (by rw [ea, xx]) hag hc'
  have l2 := m_op (c := 25) (s2 := (mkL s.o s.kb 25 0 0 s.kv (r3 s x) s.sv s.tv)) (cm' := (upd cm L.length (vp_nar .boolean 1))) hM (by omega) (by omega) ⟨by show L.length + 1 ≤ 6; omega, by omega⟩ rfl rfl (by rw [pk_us]; exact (show vp_nar FieldType.boolean 1 = nI (b2 (decide ((25 : Nat) ≠ 0))) by decide)) (fun j e => pk_un e)
  rw [c_t3 ht ea ha hne (by omega) (by omega) (by omega), e1, Option.bind_some, m_o2 F (by omega), hdp, m_263a (C := C) F (by omega) hcm0 (by omega) (by omega) hco hm', if_neg (show ¬ a = 60 by omega)]
  rw [hdp] at l2
  exact go ((mkL s.o s.kb 25 0 0 s.kv (r3 s x) s.sv s.tv) :: L, none) _ E' wt' ne le' code' st' _ _ _ op (upd cm L.length (vp_nar .boolean 1)) 1 ⟨WfL_top hW.1 rfl n1 ⟨hLO.1, Or.inr (Or.inr rfl), Or.inl rfl, Or.inl rfl⟩, fun e => absurd rfl e⟩ (by show L.length + 1 ≤ 5; omega) l1 l2.1 rfl l2.2
theorem p_lawO148 {zc : Int32 → Int32 → Int32 → Int32 → Int32 → Int32 → Int32 → Int32 → Int32 → Int64 → (Nat → Int32) → (Nat → Int32) → Int32 → Int32 → Option RC1} {zm : Int32 → Int32 → Int32 → Int32 → Int32 → Int32 → Int64 → (Nat → Int32) → (Nat → Int32) → (Nat → Int32) → Int32 → Int32 → Option RM9} {k fc fm q r t : Nat} {C E : CC} {tp ct cnu : Int32} {cnm : Int64} {mt mnu wr : Int32} {mwd : Int64} {wt ne le : Int32} {code st : Nat → Int32} {dp co : Int32} {cds op cm : Nat → Int32} {s : Lv} {L : List Lv} {x : Sv} (hT : TpR z n signs tape words) (ih : ∀ k', k' < k → LwP z n signs tape words zc zm k') (hk : n ≤ q + k) (hfc : k + 2 ≤ fc) (hfm : k + 1 ≤ fm) (htq : t ≤ q) (tk : TokR z n q r ct cnu cnm mt mnu mwd) (hW : WfA (s :: L, some x)) (h5 : L.length < 5) (hC : LwC (s :: L, some x) E q wt ne le code st) (hM : LwM (s :: L, some x) C q dp co cds op cm) (xa : ct = nI 148) : ok (itr (fun kk => fX1_readFrom_14 (nI n) signs words kk) zc fc wt ne le (nI r) (nI q) tp ct cnu 0 cnm code st 0 (nI t)) (fun rc => ok (itr (fun kk => fX9_reads_11 (nI n) tape kk) zm fm (nI r) (nI q) mt mnu wr co mwd cds op cm dp 0) (fun rm => LwEnd z n signs words wr cds rc rm)) := by
  obtain ⟨fc, rfl⟩ : ∃ m, fc = m + 1 + 1 := ⟨fc - 2, by omega⟩
  obtain ⟨fm, rfl⟩ : ∃ m, fm = m + 1 := ⟨fm - 1, by omega⟩
  have hn := hT.1
  have hz := gd7 hT.2.1
  have hqn := tk.1
  have hq : q ≤ 1000 := by omega
  have ht : t ≤ 1000 := by omega
  obtain ⟨a, ha, ea⟩ := tok_val tk
  have F := TkF_of tk hT.1 hz hT.2.2.2.1 ha ea
  show ok (fX1_readFrom_14 (nI n) signs words (itr (fun kk => fX1_readFrom_14 (nI n) signs words kk) zc (fc + 1)) wt ne le (nI r) (nI q) tp ct cnu 0 cnm code st 0 (nI t)) (fun rc => ok (fX9_reads_11 (nI n) tape (itr (fun kk => fX9_reads_11 (nI n) tape kk) zm fm) (nI r) (nI q) mt mnu wr co mwd cds op cm dp 0) (fun rm => LwEnd z n signs words wr cds rc rm))
  have n1 : s.o ≠ 1 := hW.2 (by simp) s L rfl
  have hLO := WfL_O hW.1
  have hdp : dp = nI L.length := hM.2.2.1
  have hco : co = nI (1000 + C.1) := hM.2.2.2.1
  have hO : OpL op cm (s :: L) := hM.2.2.2.2.2.1
  have hCq : C.1 ≤ q := hM.2.2.2.2.2.2
  have hne : ne = nI L.length := hC.2.1
  have xx : a = 148 := (nI_eq (by omega) (by omega)).mp (ea.symm.trans xa)
  have h0 : ¬ ct = 0 := by
    rw [ea]
    exact fun x => by have := (nI_eq (b := 0) (by omega) (by omega)).mp x; omega
  have hqr := t_len tk h0
  have hrn := tk.2.1
  obtain ⟨q', r', ct', cn', cm', mt', mn', mw', hq', tk', hc', hm'⟩ := p_next (p := r) (nI q) tp ct cnu cnm (nI q) mt mnu mwd hT.1 hT.2.1 hT.2.2.1 hT.2.2.2.1 hT.2.2.2.2 hrn
  have go : ∀ (X' : AS) (C' E' : CC) (wt' ne' le' : Int32) (code' st' : Nat → Int32) (dp' co' : Int32) (cds' op' cmm' : Nat → Int32) (v2' : Int32), WfA X' → X'.1.length ≤ 5 → LwC X' E' (q + 1) wt' ne' le' code' st' → LwM X' C' (q + 1) dp' co' cds' op' cmm' → v2' = (if X'.2.isSome = true then 0 else 1) → (∀ j, j < 1000 → cds' j = cds j) → ok (itr (fun kk => fX1_readFrom_14 (nI n) signs words kk) zc (fc + 1) wt' ne' le' (nI r') (nI q') (nI q) ct' cn' 0 cm' code' st' v2' (nI (t + 1))) (fun rc => ok (itr (fun kk => fX9_reads_11 (nI n) tape kk) zm fm (nI r') (nI q') mt' mn' wr co' mw' cds' op' cmm' dp' v2') (fun rm => LwEnd z n signs words wr cds rc rm)) := fun X' C' E' wt' ne' le' code' st' dp' co' cds' op' cmm' v2' g1 g2 g4 g5 g6 g7 =>
    ok_mono (ih (k - 1) (by omega) (fc + 1) fm q' r' (t + 1) X' C' E' (nI q) ct' cn' cm' mt' mn' wr mw' wt' ne' le' code' st' dp' co' cds' op' cmm' v2' (by omega) (by omega) (by omega) (by omega) tk' g1 (Nat.le_succ_of_le g2) (fun _ => g2) (LwC_m g4 (by omega)) (LwM_m g5 (by omega)) g6) (fun rc e => ok_mono e (fun rm e => LwEnd_cds e g7))
  have xx : a = 148 := xx
  obtain ⟨E', wt', le', code', st', e1, l1⟩ := c_op148 (len := nI n) (signs := signs) (words := words) hC hW.1 (by omega) (by omega) (by rw [ea, xx]) hc'
  have l2 := m_op (c := 26) (s2 := (mkL s.o 26 0 0 0 (r1 s x) s.av s.sv s.tv)) (cm' := (upd cm L.length (vp_nar .boolean 0))) hM (by omega) (by omega) ⟨by show L.length + 1 ≤ 6; omega, by omega⟩ rfl rfl (by rw [pk_us]; exact (show vp_nar FieldType.boolean 0 = nI (b2 (decide ((0 : Nat) ≠ 0))) by decide)) (fun j e => pk_un e)
  rw [c_t3 ht ea ha hne (by omega) (by omega) (by omega), e1, Option.bind_some, m_o3 F (by omega), hdp, m_304a (C := C) F (by omega) (by omega) (by omega) hco hm', if_pos xx]
  rw [hdp] at l2
  exact go ((mkL s.o 26 0 0 0 (r1 s x) s.av s.sv s.tv) :: L, none) _ E' wt' ne le' code' st' _ _ _ op (upd cm L.length (vp_nar .boolean 0)) 1 ⟨WfL_top hW.1 rfl n1 ⟨Or.inr (Or.inl rfl), Or.inl rfl, Or.inl rfl, Or.inl rfl⟩, fun e => absurd rfl e⟩ (by show L.length + 1 ≤ 5; omega) l1 l2.1 rfl l2.2
theorem p_lawO149 {zc : Int32 → Int32 → Int32 → Int32 → Int32 → Int32 → Int32 → Int32 → Int32 → Int64 → (Nat → Int32) → (Nat → Int32) → Int32 → Int32 → Option RC1} {zm : Int32 → Int32 → Int32 → Int32 → Int32 → Int32 → Int64 → (Nat → Int32) → (Nat → Int32) → (Nat → Int32) → Int32 → Int32 → Option RM9} {k fc fm q r t : Nat} {C E : CC} {tp ct cnu : Int32} {cnm : Int64} {mt mnu wr : Int32} {mwd : Int64} {wt ne le : Int32} {code st : Nat → Int32} {dp co : Int32} {cds op cm : Nat → Int32} {s : Lv} {L : List Lv} {x : Sv} (hT : TpR z n signs tape words) (ih : ∀ k', k' < k → LwP z n signs tape words zc zm k') (hk : n ≤ q + k) (hfc : k + 2 ≤ fc) (hfm : k + 1 ≤ fm) (htq : t ≤ q) (tk : TokR z n q r ct cnu cnm mt mnu mwd) (hW : WfA (s :: L, some x)) (h5 : L.length < 5) (hC : LwC (s :: L, some x) E q wt ne le code st) (hM : LwM (s :: L, some x) C q dp co cds op cm) (xa : ct = nI 149) : ok (itr (fun kk => fX1_readFrom_14 (nI n) signs words kk) zc fc wt ne le (nI r) (nI q) tp ct cnu 0 cnm code st 0 (nI t)) (fun rc => ok (itr (fun kk => fX9_reads_11 (nI n) tape kk) zm fm (nI r) (nI q) mt mnu wr co mwd cds op cm dp 0) (fun rm => LwEnd z n signs words wr cds rc rm)) := by
  obtain ⟨fc, rfl⟩ : ∃ m, fc = m + 1 + 1 := ⟨fc - 2, by omega⟩
  obtain ⟨fm, rfl⟩ : ∃ m, fm = m + 1 := ⟨fm - 1, by omega⟩
  have hn := hT.1
  have hz := gd7 hT.2.1
  have hqn := tk.1
  have hq : q ≤ 1000 := by omega
  have ht : t ≤ 1000 := by omega
  obtain ⟨a, ha, ea⟩ := tok_val tk
  have F := TkF_of tk hT.1 hz hT.2.2.2.1 ha ea
  show ok (fX1_readFrom_14 (nI n) signs words (itr (fun kk => fX1_readFrom_14 (nI n) signs words kk) zc (fc + 1)) wt ne le (nI r) (nI q) tp ct cnu 0 cnm code st 0 (nI t)) (fun rc => ok (fX9_reads_11 (nI n) tape (itr (fun kk => fX9_reads_11 (nI n) tape kk) zm fm) (nI r) (nI q) mt mnu wr co mwd cds op cm dp 0) (fun rm => LwEnd z n signs words wr cds rc rm))
  have n1 : s.o ≠ 1 := hW.2 (by simp) s L rfl
  have hLO := WfL_O hW.1
  have hdp : dp = nI L.length := hM.2.2.1
  have hco : co = nI (1000 + C.1) := hM.2.2.2.1
  have hO : OpL op cm (s :: L) := hM.2.2.2.2.2.1
  have hCq : C.1 ≤ q := hM.2.2.2.2.2.2
  have hne : ne = nI L.length := hC.2.1
  have xx : a = 149 := (nI_eq (by omega) (by omega)).mp (ea.symm.trans xa)
  have h0 : ¬ ct = 0 := by
    rw [ea]
    exact fun x => by have := (nI_eq (b := 0) (by omega) (by omega)).mp x; omega
  have hqr := t_len tk h0
  have hrn := tk.2.1
  obtain ⟨q', r', ct', cn', cm', mt', mn', mw', hq', tk', hc', hm'⟩ := p_next (p := r) (nI q) tp ct cnu cnm (nI q) mt mnu mwd hT.1 hT.2.1 hT.2.2.1 hT.2.2.2.1 hT.2.2.2.2 hrn
  have go : ∀ (X' : AS) (C' E' : CC) (wt' ne' le' : Int32) (code' st' : Nat → Int32) (dp' co' : Int32) (cds' op' cmm' : Nat → Int32) (v2' : Int32), WfA X' → X'.1.length ≤ 5 → LwC X' E' (q + 1) wt' ne' le' code' st' → LwM X' C' (q + 1) dp' co' cds' op' cmm' → v2' = (if X'.2.isSome = true then 0 else 1) → (∀ j, j < 1000 → cds' j = cds j) → ok (itr (fun kk => fX1_readFrom_14 (nI n) signs words kk) zc (fc + 1) wt' ne' le' (nI r') (nI q') (nI q) ct' cn' 0 cm' code' st' v2' (nI (t + 1))) (fun rc => ok (itr (fun kk => fX9_reads_11 (nI n) tape kk) zm fm (nI r') (nI q') mt' mn' wr co' mw' cds' op' cmm' dp' v2') (fun rm => LwEnd z n signs words wr cds rc rm)) := fun X' C' E' wt' ne' le' code' st' dp' co' cds' op' cmm' v2' g1 g2 g4 g5 g6 g7 =>
    ok_mono (ih (k - 1) (by omega) (fc + 1) fm q' r' (t + 1) X' C' E' (nI q) ct' cn' cm' mt' mn' wr mw' wt' ne' le' code' st' dp' co' cds' op' cmm' v2' (by omega) (by omega) (by omega) (by omega) tk' g1 (Nat.le_succ_of_le g2) (fun _ => g2) (LwC_m g4 (by omega)) (LwM_m g5 (by omega)) g6) (fun rc e => ok_mono e (fun rm e => LwEnd_cds e g7))
  have xx : a = 149 := xx
  obtain ⟨E', wt', le', code', st', e1, l1⟩ := c_op149 (len := nI n) (signs := signs) (words := words) hC hW.1 (by omega) (by omega) (by rw [ea, xx]) hc'
  have l2 := m_op (c := 27) (s2 := (mkL s.o 27 0 0 0 (r1 s x) s.av s.sv s.tv)) (cm' := (upd cm L.length (vp_nar .boolean 0))) hM (by omega) (by omega) ⟨by show L.length + 1 ≤ 6; omega, by omega⟩ rfl rfl (by rw [pk_us]; exact (show vp_nar FieldType.boolean 0 = nI (b2 (decide ((0 : Nat) ≠ 0))) by decide)) (fun j e => pk_un e)
  rw [c_t3 ht ea ha hne (by omega) (by omega) (by omega), e1, Option.bind_some, m_o3 F (by omega), hdp, m_304a (C := C) F (by omega) (by omega) (by omega) hco hm', if_neg (show ¬ a = 148 by omega)]
  rw [hdp] at l2
  exact go ((mkL s.o 27 0 0 0 (r1 s x) s.av s.sv s.tv) :: L, none) _ E' wt' ne le' code' st' _ _ _ op (upd cm L.length (vp_nar .boolean 0)) 1 ⟨WfL_top hW.1 rfl n1 ⟨Or.inr (Or.inr rfl), Or.inl rfl, Or.inl rfl, Or.inl rfl⟩, fun e => absurd rfl e⟩ (by show L.length + 1 ≤ 5; omega) l1 l2.1 rfl l2.2
theorem p_lawC {zc : Int32 → Int32 → Int32 → Int32 → Int32 → Int32 → Int32 → Int32 → Int32 → Int64 → (Nat → Int32) → (Nat → Int32) → Int32 → Int32 → Option RC1} {zm : Int32 → Int32 → Int32 → Int32 → Int32 → Int32 → Int64 → (Nat → Int32) → (Nat → Int32) → (Nat → Int32) → Int32 → Int32 → Option RM9} {k fc fm q r t : Nat} {C E : CC} {tp ct cnu : Int32} {cnm : Int64} {mt mnu wr : Int32} {mwd : Int64} {wt ne le : Int32} {code st : Nat → Int32} {dp co : Int32} {cds op cm : Nat → Int32} {s : Lv} {L : List Lv} {x : Sv} (hT : TpR z n signs tape words) (ih : ∀ k', k' < k → LwP z n signs tape words zc zm k') (hk : n ≤ q + k) (hfc : k + 2 ≤ fc) (hfm : k + 1 ≤ fm) (htq : t ≤ q) (tk : TokR z n q r ct cnu cnm mt mnu mwd) (hW : WfA (s :: L, some x)) (h5 : L.length < 5) (hC : LwC (s :: L, some x) E q wt ne le code st) (hM : LwM (s :: L, some x) C q dp co cds op cm) (xa : ct = nI 41) (hL : L ≠ []) : ok (itr (fun kk => fX1_readFrom_14 (nI n) signs words kk) zc fc wt ne le (nI r) (nI q) tp ct cnu 0 cnm code st 0 (nI t)) (fun rc => ok (itr (fun kk => fX9_reads_11 (nI n) tape kk) zm fm (nI r) (nI q) mt mnu wr co mwd cds op cm dp 0) (fun rm => LwEnd z n signs words wr cds rc rm)) := by
  obtain ⟨fc, rfl⟩ : ∃ m, fc = m + 1 + 1 := ⟨fc - 2, by omega⟩
  obtain ⟨fm, rfl⟩ : ∃ m, fm = m + 1 := ⟨fm - 1, by omega⟩
  have hn := hT.1
  have hz := gd7 hT.2.1
  have hqn := tk.1
  have hq : q ≤ 1000 := by omega
  have ht : t ≤ 1000 := by omega
  obtain ⟨a, ha, ea⟩ := tok_val tk
  have F := TkF_of tk hT.1 hz hT.2.2.2.1 ha ea
  show ok (fX1_readFrom_14 (nI n) signs words (itr (fun kk => fX1_readFrom_14 (nI n) signs words kk) zc (fc + 1)) wt ne le (nI r) (nI q) tp ct cnu 0 cnm code st 0 (nI t)) (fun rc => ok (fX9_reads_11 (nI n) tape (itr (fun kk => fX9_reads_11 (nI n) tape kk) zm fm) (nI r) (nI q) mt mnu wr co mwd cds op cm dp 0) (fun rm => LwEnd z n signs words wr cds rc rm))
  have n1 : s.o ≠ 1 := hW.2 (by simp) s L rfl
  have hLO := WfL_O hW.1
  have hdp : dp = nI L.length := hM.2.2.1
  have hco : co = nI (1000 + C.1) := hM.2.2.2.1
  have hO : OpL op cm (s :: L) := hM.2.2.2.2.2.1
  have hCq : C.1 ≤ q := hM.2.2.2.2.2.2
  have hne : ne = nI L.length := hC.2.1
  have xx : a = 41 := (nI_eq (by omega) (by omega)).mp (ea.symm.trans xa)
  have hp : 0 < L.length := List.length_pos_iff.mpr hL
  have h0 : ¬ ct = 0 := by
    rw [ea]
    exact fun x => by have := (nI_eq (b := 0) (by omega) (by omega)).mp x; omega
  have hqr := t_len tk h0
  have hrn := tk.2.1
  obtain ⟨q', r', ct', cn', cm', mt', mn', mw', hq', tk', hc', hm'⟩ := p_next (p := r) (nI q) tp ct cnu cnm (nI q) mt mnu mwd hT.1 hT.2.1 hT.2.2.1 hT.2.2.2.1 hT.2.2.2.2 hrn
  have go : ∀ (X' : AS) (C' E' : CC) (wt' ne' le' : Int32) (code' st' : Nat → Int32) (dp' co' : Int32) (cds' op' cmm' : Nat → Int32) (v2' : Int32), WfA X' → X'.1.length ≤ 5 → LwC X' E' (q + 1) wt' ne' le' code' st' → LwM X' C' (q + 1) dp' co' cds' op' cmm' → v2' = (if X'.2.isSome = true then 0 else 1) → (∀ j, j < 1000 → cds' j = cds j) → ok (itr (fun kk => fX1_readFrom_14 (nI n) signs words kk) zc (fc + 1) wt' ne' le' (nI r') (nI q') (nI q) ct' cn' 0 cm' code' st' v2' (nI (t + 1))) (fun rc => ok (itr (fun kk => fX9_reads_11 (nI n) tape kk) zm fm (nI r') (nI q') mt' mn' wr co' mw' cds' op' cmm' dp' v2') (fun rm => LwEnd z n signs words wr cds rc rm)) := fun X' C' E' wt' ne' le' code' st' dp' co' cds' op' cmm' v2' g1 g2 g4 g5 g6 g7 =>
    ok_mono (ih (k - 1) (by omega) (fc + 1) fm q' r' (t + 1) X' C' E' (nI q) ct' cn' cm' mt' mn' wr mw' wt' ne' le' code' st' dp' co' cds' op' cmm' v2' (by omega) (by omega) (by omega) (by omega) tk' g1 (Nat.le_succ_of_le g2) (fun _ => g2) (LwC_m g4 (by omega)) (LwM_m g5 (by omega)) g6) (fun rc e => ok_mono e (fun rm e => LwEnd_cds e g7))
  have hWL := WfL_t hW.1 hL
  obtain ⟨E', wt', ne', le', code', e1, l1⟩ := c_close (len := nI n) (signs := signs) (words := words) hC hW.1 n1 hL (by omega) (by omega) hc'
  obtain ⟨dp', co', cds', e2, l2, l3⟩ := m_304c (wr := wr) (k11 := itr (fun kk => fX9_reads_11 (nI n) tape kk) zm fm) (v := r1 s x) F xx hM (by omega) hL hWL (by omega) rfl hm'
  rw [c_t4 ht xa hne ⟨hp, by omega⟩ e1, m_o3 F (by omega), e2]
  obtain ⟨s', L', f1, _, _, f4⟩ := arr_wf (v := r1 s x) hWL
  exact go (arS (arr L (r1 s x))) _ E' wt' ne' le' code' st dp' co' cds' op cm 0 (WfA_ar hWL) (by show (arr L (r1 s x)).1.length ≤ 5; rw [f1]; show L'.length + 1 ≤ 5; omega) l1 l2 rfl l3
theorem p_lawE {zc : Int32 → Int32 → Int32 → Int32 → Int32 → Int32 → Int32 → Int32 → Int32 → Int64 → (Nat → Int32) → (Nat → Int32) → Int32 → Int32 → Option RC1} {zm : Int32 → Int32 → Int32 → Int32 → Int32 → Int32 → Int64 → (Nat → Int32) → (Nat → Int32) → (Nat → Int32) → Int32 → Int32 → Option RM9} {k fc fm q r t : Nat} {C E : CC} {tp ct cnu : Int32} {cnm : Int64} {mt mnu wr : Int32} {mwd : Int64} {wt ne le : Int32} {code st : Nat → Int32} {dp co : Int32} {cds op cm : Nat → Int32} {s : Lv} {x : Sv} (hT : TpR z n signs tape words) (ih : ∀ k', k' < k → LwP z n signs tape words zc zm k') (hk : n ≤ q + k) (hfc : k + 2 ≤ fc) (hfm : k + 1 ≤ fm) (htq : t ≤ q) (tk : TokR z n q r ct cnu cnm mt mnu mwd) (hW : WfA ([s], some x)) (hC : LwC ([s], some x) E q wt ne le code st) (hM : LwM ([s], some x) C q dp co cds op cm) (xa : ct = nI 59) : ok (itr (fun kk => fX1_readFrom_14 (nI n) signs words kk) zc fc wt ne le (nI r) (nI q) tp ct cnu 0 cnm code st 0 (nI t)) (fun rc => ok (itr (fun kk => fX9_reads_11 (nI n) tape kk) zm fm (nI r) (nI q) mt mnu wr co mwd cds op cm dp 0) (fun rm => LwEnd z n signs words wr cds rc rm)) := by
  obtain ⟨fc, rfl⟩ : ∃ m, fc = m + 1 + 1 := ⟨fc - 2, by omega⟩
  obtain ⟨fm, rfl⟩ : ∃ m, fm = m + 1 := ⟨fm - 1, by omega⟩
  have hn := hT.1
  have hz := gd7 hT.2.1
  have hqn := tk.1
  have hq : q ≤ 1000 := by omega
  have ht : t ≤ 1000 := by omega
  obtain ⟨a, ha, ea⟩ := tok_val tk
  have F := TkF_of tk hT.1 hz hT.2.2.2.1 ha ea
  show ok (fX1_readFrom_14 (nI n) signs words (itr (fun kk => fX1_readFrom_14 (nI n) signs words kk) zc (fc + 1)) wt ne le (nI r) (nI q) tp ct cnu 0 cnm code st 0 (nI t)) (fun rc => ok (fX9_reads_11 (nI n) tape (itr (fun kk => fX9_reads_11 (nI n) tape kk) zm fm) (nI r) (nI q) mt mnu wr co mwd cds op cm dp 0) (fun rm => LwEnd z n signs words wr cds rc rm))
  have xx : a = 59 := (nI_eq (by omega) (by omega)).mp (ea.symm.trans xa)
  have hdp : dp = nI 0 := hM.2.2.1
  have hne : ne = nI 0 := hC.2.1
  have h0 : ¬ ct = 0 := by
    rw [ea]
    exact fun x => by have := (nI_eq (b := 0) (by omega) (by omega)).mp x; omega
  have hqr := t_len tk h0
  have hrn := tk.2.1
  obtain ⟨q', r', ct', cn', cm', mt', mn', mw', hq', tk', hc', hm'⟩ := p_next (p := r) (nI q) tp ct cnu cnm (nI q) mt mnu mwd hT.1 hT.2.1 hT.2.2.1 hT.2.2.2.1 hT.2.2.2.2 hrn
  obtain ⟨E', wt', code', e1, f1, f2, f3, f4, f5⟩ := c_end (len := nI n) (signs := signs) (words := words) (cb := nI r) (cp := nI q) (tp := tp) (ct := ct) (cnu := cnu) (cnm := cnm) (f := 0) hC hW.1 (by omega)
  rw [c_t5 ht xa hne, e1, m_o3 F (by omega), hdp, m_304e F xx hm']
  refine ok_some (ok_some ⟨fun j _ => rfl, Or.inl ⟨rfl, rfl, rfl, ⟨C, E', s, x, hM.2.1, hM.1.symm, hM.2.2.2.2.1, hM.2.2.2.1, by have := hM.2.2.2.2.2.2; omega, f1, rfl, f2, by omega, f4⟩, xa, nI r', nI q', ct', cn', cm', hc', ⟨q', r', rfl, rfl, rfl, rfl, tk'⟩⟩⟩)
/-- neither an operator nor a bracket nor the end: the same fault -/
theorem p_lawX {zc : Int32 → Int32 → Int32 → Int32 → Int32 → Int32 → Int32 → Int32 → Int32 → Int64 → (Nat → Int32) → (Nat → Int32) → Int32 → Int32 → Option RC1} {zm : Int32 → Int32 → Int32 → Int32 → Int32 → Int32 → Int64 → (Nat → Int32) → (Nat → Int32) → (Nat → Int32) → Int32 → Int32 → Option RM9} {k fc fm q r t : Nat} {C E : CC} {tp ct cnu : Int32} {cnm : Int64} {mt mnu wr : Int32} {mwd : Int64} {wt ne le : Int32} {code st : Nat → Int32} {dp co : Int32} {cds op cm : Nat → Int32} {s : Lv} {L : List Lv} {x : Sv} (hT : TpR z n signs tape words) (ih : ∀ k', k' < k → LwP z n signs tape words zc zm k') (hk : n ≤ q + k) (hfc : k + 2 ≤ fc) (hfm : k + 1 ≤ fm) (htq : t ≤ q) (tk : TokR z n q r ct cnu cnm mt mnu mwd) (hW : WfA (s :: L, some x)) (h5 : L.length < 5) (hC : LwC (s :: L, some x) E q wt ne le code st) (hM : LwM (s :: L, some x) C q dp co cds op cm) (hx : ∀ a, ct = nI a → a < 154 → (rk a = 0 ∧ ¬ (a = 41 ∧ 0 < L.length) ∧ ¬ (a = 59 ∧ L.length = 0)) ∨ ((a = 60 ∨ a = 61) ∧ s.ag ≠ 0)) : ok (itr (fun kk => fX1_readFrom_14 (nI n) signs words kk) zc fc wt ne le (nI r) (nI q) tp ct cnu 0 cnm code st 0 (nI t)) (fun rc => ok (itr (fun kk => fX9_reads_11 (nI n) tape kk) zm fm (nI r) (nI q) mt mnu wr co mwd cds op cm dp 0) (fun rm => LwEnd z n signs words wr cds rc rm)) := by
  obtain ⟨fc, rfl⟩ : ∃ m, fc = m + 1 + 1 := ⟨fc - 2, by omega⟩
  obtain ⟨fm, rfl⟩ : ∃ m, fm = m + 1 := ⟨fm - 1, by omega⟩
  have hn := hT.1
  have hz := gd7 hT.2.1
  have hqn := tk.1
  have hq : q ≤ 1000 := by omega
  have ht : t ≤ 1000 := by omega
  obtain ⟨a, ha, ea⟩ := tok_val tk
  have F := TkF_of tk hT.1 hz hT.2.2.2.1 ha ea
  show ok (fX1_readFrom_14 (nI n) signs words (itr (fun kk => fX1_readFrom_14 (nI n) signs words kk) zc (fc + 1)) wt ne le (nI r) (nI q) tp ct cnu 0 cnm code st 0 (nI t)) (fun rc => ok (fX9_reads_11 (nI n) tape (itr (fun kk => fX9_reads_11 (nI n) tape kk) zm fm) (nI r) (nI q) mt mnu wr co mwd cds op cm dp 0) (fun rm => LwEnd z n signs words wr cds rc rm))
  have n1 : s.o ≠ 1 := hW.2 (by simp) s L rfl
  have hLO := WfL_O hW.1
  have hdp : dp = nI L.length := hM.2.2.1
  have hco : co = nI (1000 + C.1) := hM.2.2.2.1
  have hO : OpL op cm (s :: L) := hM.2.2.2.2.2.1
  have hCq : C.1 ≤ q := hM.2.2.2.2.2.2
  have hne : ne = nI L.length := hC.2.1
  have fl := flt hq (c := 1) (by omega) (by omega)
  have hLT := LwC_T hC (by show L.length + 1 ≤ 6; omega) (by omega)
  have hr := l_ref hq (c := 1) (by omega) (by omega)
  rcases hx a ea ha with ⟨h0, h1, h2⟩ | ⟨h1, h2⟩
  · have hno : ¬ (a = 43 ∨ a = 45 ∨ a = 42 ∨ a = 60 ∨ a = 61) ∧ ¬ (a = 148 ∨ a = 149) := by
      refine ⟨fun e => ?_, fun e => ?_⟩
      · rcases e with e | e | e | e | e <;> (rw [e] at h0; exact absurd h0 (by decide))
      · rcases e with e | e <;> (rw [e] at h0; exact absurd h0 (by decide))
    rw [c_t3 ht ea ha hne (by omega) h1 h2, m_o3 F hno.1, hdp]
    refine ok_bind (ok_mono (c_op0 ea (by omega) h0 hr hLT) (fun y e => ?_))
    rw [e.1]
    exact p_lawF e.2 fl.2 (m_304f F hq (by omega) hno.2 h1 h2)
  · have hcm : ¬ cm L.length = 0 := by
      rw [hO.2.1, decide_eq_true h2]; decide
    rw [c_t3 ht ea ha hne (by omega) (by omega) (by omega), m_o2 F h1, hdp, m_263b (by omega) hcm]
    have hh : ok (fX1_readOperator (nI n) signs words wt le (nI r) (nI q) tp ct cnu 0 cnm code st) (fun r => r.2.2.2.2.2.2.2.1 = nI (1 + 16 * q) ∧ LwT r.1 r.2.1 r.2.2.2.2.2.2.2.2.2.1 r.2.2.2.2.2.2.2.2.2.2) := by
      rcases h1 with e | e
      · exact c_opF60 hC hW.1 (by omega) (by omega) (by rw [ea, e]) h2 hr
      · exact c_opF61 hC hW.1 (by omega) (by omega) (by rw [ea, e]) h2 hr
    refine ok_bind (ok_mono hh (fun y e => ?_))
    rw [e.1]
    exact p_lawF e.2 fl.2 (m_304f F hq (by omega) (by omega) (by omega) (by omega))
theorem p_law {zc : Int32 → Int32 → Int32 → Int32 → Int32 → Int32 → Int32 → Int32 → Int32 → Int64 → (Nat → Int32) → (Nat → Int32) → Int32 → Int32 → Option RC1} {zm : Int32 → Int32 → Int32 → Int32 → Int32 → Int32 → Int64 → (Nat → Int32) → (Nat → Int32) → (Nat → Int32) → Int32 → Int32 → Option RM9} (hT : TpR z n signs tape words) : ∀ k, LwP z n signs tape words zc zm k := by
  intro k
  induction k using Nat.strongRecOn with
  | ind k ih =>
  intro fc fm q r t X C E tp ct cnu cnm mt mnu wr mwd wt ne le code st dp co cds op cm v2 hk hfc hfm htq tk hW h6 h5 hC hM hv
  obtain ⟨L, x⟩ := X
  cases x with
  | none =>
    have hv : v2 = 1 := hv
    subst hv
    exact p_lawN hT ih hk hfc hfm htq tk hW h6 hC hM
  | some x =>
    have hv : v2 = 0 := hv
    subst hv
    have h5 : L.length ≤ 5 := h5 (by simp)
    cases L with
    | nil => exact absurd hW.1 id
    | cons s L =>
      have h5 : L.length < 5 := h5
      obtain ⟨a, ha, ea⟩ := tok_val tk
      by_cases x42 : a = 42
      · exact p_lawO42 hT ih hk hfc hfm htq tk hW h5 hC hM (by rw [ea, x42])
      by_cases x43 : a = 43
      · exact p_lawO43 hT ih hk hfc hfm htq tk hW h5 hC hM (by rw [ea, x43])
      by_cases x45 : a = 45
      · exact p_lawO45 hT ih hk hfc hfm htq tk hW h5 hC hM (by rw [ea, x45])
      by_cases x148 : a = 148
      · exact p_lawO148 hT ih hk hfc hfm htq tk hW h5 hC hM (by rw [ea, x148])
      by_cases x149 : a = 149
      · exact p_lawO149 hT ih hk hfc hfm htq tk hW h5 hC hM (by rw [ea, x149])
      by_cases x41 : a = 41 ∧ 0 < L.length
      · exact p_lawC hT ih hk hfc hfm htq tk hW h5 hC hM (by rw [ea, x41.1]) (List.length_pos_iff.mp x41.2)
      by_cases x59 : a = 59 ∧ L.length = 0
      · have hL : L = [] := List.length_eq_zero_iff.mp x59.2
        subst hL
        exact p_lawE hT ih hk hfc hfm htq tk hW hC hM (by rw [ea, x59.1])
      by_cases xag : s.ag = 0
      · by_cases x60 : a = 60
        · exact p_lawO60 hT ih hk hfc hfm htq tk hW h5 hC hM (by rw [ea, x60]) xag
        by_cases x61 : a = 61
        · exact p_lawO61 hT ih hk hfc hfm htq tk hW h5 hC hM (by rw [ea, x61]) xag
        refine p_lawX hT ih hk hfc hfm htq tk hW h5 hC hM (fun b hb hb2 => Or.inl ?_)
        have eb : b = a := (nI_eq (by omega) (by omega)).mp (hb.symm.trans ea)
        rw [eb]
        refine ⟨?_, x41, x59⟩
        unfold rk
        rw [if_neg x42, if_neg x43, if_neg x45, if_neg x60, if_neg x61, if_neg x148, if_neg x149]
      · refine p_lawX hT ih hk hfc hfm htq tk hW h5 hC hM (fun b hb hb2 => ?_)
        have eb : b = a := (nI_eq (by omega) (by omega)).mp (hb.symm.trans ea)
        rw [eb]
        by_cases x6 : a = 60 ∨ a = 61
        · exact Or.inr ⟨x6, xag⟩
        · refine Or.inl ⟨?_, x41, x59⟩
          unfold rk
          rw [if_neg x42, if_neg x43, if_neg x45, if_neg (fun e => x6 (Or.inl e)), if_neg (fun e => x6 (Or.inr e)), if_neg x148, if_neg x149]
end LL
