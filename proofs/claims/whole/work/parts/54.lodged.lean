/-! lodgings: the class's search -/
def oS (S : Sta) (f : Nat → Nat) : Nat → Nat := sm (fun j => if isO S j = true then f j else 0)
def nS (S : Sta) (f : Nat → Nat) : Nat → Nat := sm (fun j => if isO S j = true then 0 else f j)
theorem oS_nS {S : Sta} {f : Nat → Nat} (m : Nat) : sm f m = oS S f m + nS S f m := by
  induction m with
  | zero => rfl
  | succ m ih =>
    show sm f m + f m = (oS S f m + if isO S m = true then f m else 0) + (nS S f m + if isO S m = true then 0 else f m)
    rw [ih]
    split <;> omega
theorem sm_ext {f g : Nat → Nat} {m : Nat} (h : ∀ j, j < m → f j = g j) : sm f m = sm g m := by
  induction m with
  | zero => rfl
  | succ m ih => show sm f m + f m = sm g m + g m; rw [ih (fun j hj => h j (by omega)), h m (by omega)]
def Pn (T : Ter) (S : Sta) (n : Nat) : Nat := cnt (fun w => !isO S w && fSz T S n w (sA S w)) (tG T)
def Qn (T : Ter) (S : Sta) (n : Nat) : Nat := cnt (fun w => !isO S w && fOut T S n w (sA S w)) (tG T)
def C0n (T : Ter) (S : Sta) (n : Nat) : Nat := nS S (fun j => c1 T S n j (sA S j)) (tG T)
theorem C0_eq {T : Ter} {S : Sta} {n : Nat} : C0n T S n = 16 * Pn T S n + Qn T S n := by
  unfold C0n Pn Qn
  generalize tG T = m
  induction m with
  | zero => rfl
  | succ m ih =>
    show nS S (fun j => c1 T S n j (sA S j)) m + (if isO S m = true then 0 else c1 T S n m (sA S m)) = _
    rw [ih]
    simp only [cnt]
    cases isO S m
    · simp only [reduceCtorEq, if_false, Bool.not_false, Bool.true_and]; unfold c1; omega
    · simp only [if_true, Bool.not_true, Bool.false_and, b2_f]; omega
theorem oS_eq {T : Ter} {S X : Sta} {n : Nat} (m : Nat) : oS S (fun j => c1 T S n j (sA X j)) m = 16 * cnt (fun w => isO S w && fSz T S n w (sA X w)) m + cnt (fun w => isO S w && fOut T S n w (sA X w)) m := by
  induction m with
  | zero => rfl
  | succ m ih =>
    show oS S (fun j => c1 T S n j (sA X j)) m + (if isO S m = true then c1 T S n m (sA X m) else 0) = _
    rw [ih]
    simp only [cnt]
    cases isO S m
    · simp only [reduceCtorEq, if_false, Bool.false_and, b2_f]; omega
    · simp only [if_true, Bool.true_and]; unfold c1; omega
theorem kX_eq {T : Ter} {S X : Sta} {n : Nat} (hX : Xof T S X) : kX T S X n = C0n T S n + oS S (fun j => c1 T S n j (sA X j)) (tG T) := by
  unfold kX C0n
  rw [oS_nS (S := S) (tG T), Nat.add_comm]
  congr 1
  unfold nS
  apply sm_ext
  intro j hj
  cases z : isO S j
  · simp only [reduceCtorEq, if_false]; rw [hX.2.2.2.2 j z]
  · rfl
theorem cnt_two {p q r : Nat → Bool} {m : Nat} (h : ∀ k, k < m → (p k && q k) = false) (hb : ∀ k, k < m → (p k || q k) = true → r k = true) : cnt p m + cnt q m ≤ cnt r m := by
  induction m with
  | zero => exact Nat.le_refl _
  | succ m ih =>
    have h1 := ih (fun k hk => h k (by omega)) (fun k hk => hb k (by omega))
    have h2 := h m (by omega)
    have h3 := hb m (by omega)
    simp only [cnt]
    cases e1 : p m <;> cases e2 : q m
    · simp only [b2_f]; omega
    · rw [h3 (by rw [e1, e2]; rfl)]; simp only [b2_f, b2_t]; omega
    · rw [h3 (by rw [e1, e2]; rfl)]; simp only [b2_f, b2_t]; omega
    · rw [e1, e2] at h2; cases h2
/-- the class's best so far -/
def CE (T : Ter) (S : Sta) (n : Nat) (a : Acc) (bc : Int32) (best : Nat → Int32) : Prop := match a with
  | none => bc = nI 2147483647
  | some x => ∃ p q, p ≤ 5 ∧ Qn T S n + q ≤ 5 ∧ x.1 = C0n T S n + (16 * p + q) ∧ bc = nI (16 * p + q) ∧ ∀ j, j < tG T → best j = x.2 j
theorem Ins_add {X : Sta} {G w h : Nat} {ins : Nat → Int32} (hG : G ≤ 5) (hw : w < G) (hh : h < 5) (h0 : sA X w = 0) (hi : Ins (sA X) G ins) : Ins (sA (mv X w (h + 1))) G (upd ins h (ins h ||| nI (2 ^ w))) := by
  intro j hj
  have hsA : ∀ u, sA (mv X w (h + 1)) u = if u = w then h + 1 else sA X u := fun u => rfl
  by_cases e : j = h
  · subst e
    have h1 := bs_le (p := fun u => sA X u == j + 1) hG
    have h2 : 2 ^ w < 64 := q_pow (by omega)
    rw [pk_us, hi j hj, q_or _ (by omega) _ h2]
    congr 1
    apply Nat.eq_of_testBit_eq
    intro u
    rw [Nat.testBit_or, bs_bit, bs_bit, hsA]
    by_cases z : u = w
    · subst z
      rw [if_pos rfl, Nat.testBit_two_pow_self, decide_eq_true hw]; simp
    · rw [if_neg z, Nat.testBit_two_pow]
      have : decide (w = u) = false := decide_eq_false (fun y => z y.symm)
      rw [this, Bool.or_false]
  · rw [pk_un e, hi j hj]
    congr 1
    apply bs_ext
    intro u hu
    rw [hsA]
    by_cases z : u = w
    · subst z
      rw [if_pos rfl, h0]
      have : (h + 1 == j + 1) = false := by simpa using fun y => e y.symm
      rw [this]; rfl
    · rw [if_neg z]
theorem Ins_del {X : Sta} {G w h : Nat} {ins : Nat → Int32} (hG : G ≤ 5) (hw : w < G) (hh : h < 5) (h0 : sA X w = 0) (hi : Ins (sA (mv X w (h + 1))) G ins) : Ins (sA X) G (upd ins h (ins h &&& (nI (2 ^ w) ^^^ (-nI 1)))) := by
  have e2 : ∀ n, n < 32 → ∀ k, k < 5 → nI n &&& (nI (2 ^ k) ^^^ (-nI 1)) = nI (bs (fun u => n.testBit u && !(u == k)) 5) := by decide +kernel
  have hsA : ∀ u, sA (mv X w (h + 1)) u = if u = w then h + 1 else sA X u := fun u => rfl
  intro j hj
  by_cases e : j = h
  · subst e
    have h1 := bs_le (p := fun u => sA (mv X w (j + 1)) u == j + 1) hG
    rw [pk_us, hi j hj, e2 _ h1 w (by omega)]
    congr 1
    apply Nat.eq_of_testBit_eq
    intro u
    rw [bs_bit, bs_bit, bs_bit, hsA]
    by_cases z : u = w
    · subst z
      rw [h0]; simp
    · have : (u == w) = false := by simpa using z
      rw [if_neg z, this]
      by_cases y : u < G
      · rw [decide_eq_true y, decide_eq_true (show u < 5 by omega)]; simp
      · rw [decide_eq_false y]; simp
  · rw [pk_un e, hi j hj]
    congr 1
    apply bs_ext
    intro u hu
    rw [hsA]
    by_cases z : u = w
    · subst z
      rw [if_pos rfl, h0]
      have : (h + 1 == j + 1) = false := by simpa using fun y => e y.symm
      rw [this]; rfl
    · rw [if_neg z]
section LS
variable {T : Ter} {S : Sta} {N n : Nat} {catB wanB len br : Int32} {cold hf ct bu be kd gf fo code coal law lfA : Nat → Int32} {ls : Nat → Nat}
theorem c_lodge {L : Nat} (hT : WT T) (hS : WS T N S) (hC : CT T (nI (tN T)) (nI (tH T)) (nI (tG T)) (nI (tS T)) catB wanB len cold hf ct bu be kd gf fo code) (hco : ∀ h, h < tH T → coal h = nI (sC S h)) (hl : LwA T S law) (hL : L = bs (fun h => decide (tbu T h * csT T (sD S) n < sC S h)) (tH T))
    (hls : ∀ w, w < tG T → isO S w = true → ls w ≤ 17 ∧ ls w ≤ c1 T S n w 0 ∧ ∀ (X : Sta) (M h : Nat), Xof T S X → WS T M X → sA X w = 0 → h < tH T → tk T X h w = true → ls w ≤ c1 T S n w (h + 1)) (hlf : ∀ w, w ≤ tG T → lfA w = nI (oS S ls (tG T) - oS S ls w)) :
    ∀ (r w : Nat), w + r = tG T → ∀ (M : Nat), r < M → ∀ (X : Sta) (row : Nat → Int32) (acc : Acc) (bc : Int32) (arr best ins : Nat → Int32), Xof T S X → WS T N X → (∀ j, w ≤ j → isO S j = true → sA X j = 0) → Ins (sA X) (tG T) ins → CE T S n acc bc best → (∀ j, j < w → arr j = row j) →
    ok (itr FX2_lodge (fun _ _ _ _ _ _ _ _ _ _ _ _ _ _ _ _ _ => none) M (nI (oOut T S)) (nI L) (nI (tH T)) (nI (tG T)) lfA law hf kd gf fo coal bc arr best ins (nI w) (nI (oS S (fun j => c1 T S n j (sA X j)) w))) (fun r' => CE T S n (srch T S n r w X row acc) r'.1 r'.2.2.1 ∧ (∀ j, j < w → r'.2.1 j = row j) ∧ Ins (sA X) (tG T) r'.2.2.2) := by
  have hH := hT.1
  have hG := hT.2.1
  have hO := oOut_lt (S := S) hT
  have hLl : L < 32 := by rw [hL]; exact bs_le hH
  have eO : ∀ w, w < tG T → (oOut T S).testBit w = isO S w := fun w hw => by unfold oOut; rw [bs_bit, decide_eq_true hw]; rfl
  have oSle : ∀ (f : Nat → Nat), (∀ j, j < tG T → isO S j = true → f j ≤ 17) → ∀ m, m ≤ tG T → oS S f m ≤ 17 * m := by
    intro f hf2 m
    induction m with
    | zero => intro _; exact Nat.le_refl _
    | succ m ih =>
      intro hm
      show oS S f m + (if isO S m = true then f m else 0) ≤ _
      have := ih (by omega)
      by_cases z : isO S m = true
      · rw [if_pos z]; have := hf2 m (by omega) z; omega
      · rw [if_neg z]; omega
  have oSmono : ∀ (f : Nat → Nat) (a : Nat), a ≤ tG T → oS S f a ≤ oS S f (tG T) := fun f a ha => sm_le ha
  have lsle : oS S ls (tG T) ≤ 85 := Nat.le_trans (oSle ls (fun j hj z => (hls j hj z).1) (tG T) (Nat.le_refl _)) (by omega)
  have cle : ∀ X m, m ≤ tG T → oS S (fun j => c1 T S n j (sA X j)) m ≤ 85 := fun X m hm => Nat.le_trans (oSle (fun j => c1 T S n j (sA X j)) (fun j hj z => c1_le) m hm) (by omega)
  -- pruned
  have prune : ∀ (r w : Nat), w + r = tG T → ∀ (X : Sta) (row : Nat → Int32) (x : Nat × (Nat → Int32)) (d : Nat), Xof T S X → WS T N X → (∀ j, w ≤ j → isO S j = true → sA X j = 0) → x.1 = C0n T S n + d → d ≤ oS S (fun j => c1 T S n j (sA X j)) w + (oS S ls (tG T) - oS S ls w) → srch T S n r w X row (some x) = some x := by
    intro r w hw X row x d hX hW ho hx hd
    obtain ⟨x1, x2⟩ := x
    have hx : x1 = C0n T S n + d := hx
    refine srch_lb (L := fun j => if isO S j = true then ls j else c1 T S n j (sA S j)) hT (fun j _ z => by rw [z]; rfl) (fun j X' N' hj z hX' hW' h0 => ?_) r w hw X row x1 x2 hX hW ho ?_
    · show (if isO S j = true then ls j else c1 T S n j (sA S j)) ≤ c1 T S n j 0 ∧ ∀ h, h < tH T → tk T X' h j = true → (if isO S j = true then ls j else c1 T S n j (sA S j)) ≤ c1 T S n j (h + 1)
      rw [if_pos z]
      exact ⟨(hls j hj z).2.1, fun h hh ht => (hls j hj z).2.2 X' N' h hX' hW' h0 hh ht⟩
    · have eL : ∀ m, sm (fun j => if isO S j = true then ls j else c1 T S n j (sA S j)) m = oS S ls m + nS S (fun j => c1 T S n j (sA S j)) m := by
        intro m
        rw [oS_nS (S := S) m]
        congr 1
        · unfold oS; apply sm_ext; intro j _
          by_cases z : isO S j = true
          · simp only [z, if_true]
          · simp only [z, reduceCtorEq, if_false]
        · unfold nS; apply sm_ext; intro j _
          by_cases z : isO S j = true
          · simp only [z, if_true]
          · simp only [z, reduceCtorEq, if_false]
      have eX : sm (fun j => c1 T S n j (sA X j)) w = oS S (fun j => c1 T S n j (sA X j)) w + nS S (fun j => c1 T S n j (sA S j)) w := by
        rw [oS_nS (S := S) w]
        congr 1
        unfold nS; apply sm_ext; intro j _
        cases z : isO S j
        · simp only [reduceCtorEq, if_false]; rw [hX.2.2.2.2 j z]
        · rfl
      have hn1 : nS S (fun j => c1 T S n j (sA S j)) w ≤ nS S (fun j => c1 T S n j (sA S j)) (tG T) := sm_le (by omega)
      have hn2 := oSmono ls w (by omega)
      have hc0 : C0n T S n = nS S (fun j => c1 T S n j (sA S j)) (tG T) := rfl
      rw [eX, eL, eL]
      omega
  intro r
  induction r with
  | zero =>
    intro w hw M hM2 X row acc bc arr best ins hX hW ho hi hE harr
    obtain ⟨M', rfl⟩ : ∃ M', M = M' + 1 := ⟨M - 1, by omega⟩
    have eh : w = tG T := by omega
    subst eh
    have hcl := cle X (tG T) (Nat.le_refl _)
    show ok (FX2_lodge (itr FX2_lodge _ M') (nI (oOut T S)) (nI L) (nI (tH T)) (nI (tG T)) lfA law hf kd gf fo coal bc arr best ins (nI (tG T)) (nI (oS S (fun j => c1 T S n j (sA X j)) (tG T)))) _
    unfold FX2_lodge
    rw [nC (by omega), hlf _ (Nat.le_refl _), Nat.sub_self, nI_add, Nat.add_zero]
    refine ok_f (nI_nlt (Nat.le_refl _) (by omega)) (ok_g (nB (by omega) (by omega)) ?_)
    have take : (∀ x, acc = some x → kX T S X n < x.1) → ok (if nI (tG T) = nI (tG T) then (Option.bind (fX2_keepRow arr bc best (nI (tG T)) (nI (oS S (fun j => c1 T S n j (sA X j)) (tG T)))) fun y7 => some (y7.1, arr, y7.2, ins)) else (Option.bind (fX2_isLodged (nI (oOut T S)) (nI (tG T))) fun y5 => if y5 = 0 then fX2_lodge_147 (nI (oOut T S)) (nI L) (nI (tH T)) (nI (tG T)) lfA law hf kd gf fo coal (itr FX2_lodge (fun _ _ _ _ _ _ _ _ _ _ _ _ _ _ _ _ _ => none) M') bc arr best ins (nI (tG T)) (nI (oS S (fun j => c1 T S n j (sA X j)) (tG T))) else itr (fun kk => fX2_lodge_52 (nI (oOut T S)) (nI L) (nI (tH T)) (nI (tG T)) lfA law hf kd gf fo coal (itr FX2_lodge (fun _ _ _ _ _ _ _ _ _ _ _ _ _ _ _ _ _ => none) M') kk) (fun _ _ _ _ _ _ _ => none) FU bc arr best ins (nI (tG T)) (nI (oS S (fun j => c1 T S n j (sA X j)) (tG T))) 0)) (fun r' => CE T S n (srch T S n 0 (tG T) X row acc) r'.1 r'.2.2.1 ∧ (∀ j, j < tG T → r'.2.1 j = row j) ∧ Ins (sA X) (tG T) r'.2.2.2) := by
      intro hlt
      have es : srch T S n 0 (tG T) X row acc = some (kX T S X n, row) := by
        show updA acc (kX T S X n) row = _
        cases acc with
        | none => rfl
        | some x => show (if kX T S X n < x.1 then some (kX T S X n, row) else some x) = _; rw [if_pos (hlt x rfl)]
      rw [es]
      refine ok_t rfl ?_
      have hq := cnt_two (p := fun w => !isO S w && fOut T S n w (sA S w)) (q := fun w => isO S w && fOut T S n w (sA X w)) (r := fun _ => true) (m := tG T) (fun k _ => by cases isO S k <;> simp) (fun k _ _ => rfl)
      have hq2 : cnt (fun _ => true) (tG T) ≤ tG T := cnt_le
      have hp2 : cnt (fun w => isO S w && fSz T S n w (sA X w)) (tG T) ≤ tG T := cnt_le
      unfold fX2_keepRow
      refine ok_bind ?_
      refine ok_for3 (tG T) (fun i c bw v1 => c = nI (oS S (fun j => c1 T S n j (sA X j)) (tG T)) ∧ v1 = nI (tG T) ∧ ∀ j, j < i → bw j = arr j) ?_ ?_ FU 0 _ best (nI (tG T)) (Nat.zero_le _) ⟨rfl, rfl, fun j hj => by omega⟩ (by unfold FU; omega)
      · rintro k c bw v1 i hi2 ⟨rfl, rfl, hb⟩ hk
        unfold fX2_keepRow_7
        simp (disch := omega) only [nlit, nI_add, pk_mul, nC, nB, nT_le, nF_le, nT_lt, nF_lt, nF_eq, nT_eq, nM1_ne, nM1_lt, b2_0, b2_1, b2_nar, nar_0, nar_1, cond_true, if_true, if_false, ob_some]
        refine hk _ _ _ ⟨rfl, rfl, fun j hj => ?_⟩
        by_cases z : j = i
        · subst z; rw [pk_us]
        · rw [pk_un z]; exact hb j (by omega)
      · rintro k c bw v1 ⟨rfl, rfl, hb⟩
        unfold fX2_keepRow_7
        refine ok_t (nI_le (Nat.le_refl _) (by omega)) (ok_some (ok_some ⟨⟨cnt (fun w => isO S w && fSz T S n w (sA X w)) (tG T), cnt (fun w => isO S w && fOut T S n w (sA X w)) (tG T), by omega, by unfold Qn; omega, ?_, ?_, fun j hj => (hb j hj).trans (harr j hj)⟩, harr, hi⟩))
        · show kX T S X n = _
          rw [kX_eq hX, oS_eq]
        · show nI (oS S (fun j => c1 T S n j (sA X j)) (tG T)) = _
          rw [oS_eq]
    cases acc with
    | none =>
      have hE : bc = nI 2147483647 := hE
      refine ok_t (by rw [hE]; exact nI_lt (by omega) (by omega)) (take (fun x e => by cases e))
    | some x =>
      obtain ⟨p, q, e1, e2, e3, e4, e5⟩ := hE
      rw [e4]
      refine ok_if (fun z => ?_) (fun z => ok_some ⟨?_, harr, hi⟩)
      · have z := (nI_ltI (by omega) (by omega)).mp z
        have := take (fun y ey => by cases ey; rw [kX_eq hX, e3]; omega)
        rw [e4] at this
        exact this
      · rw [prune 0 (tG T) (by omega) X row x (16 * p + q) hX hW ho e3 (by
          have : ¬ oS S (fun j => c1 T S n j (sA X j)) (tG T) < 16 * p + q := fun y => z (nI_lt y (by omega))
          omega)]
        exact ⟨p, q, e1, e2, e3, rfl, e5⟩
  | succ r ih =>
    intro w hw M hM2 X row acc bc arr best ins hX hW ho hi hE harr
    obtain ⟨M', rfl⟩ : ∃ M', M = M' + 1 := ⟨M - 1, by omega⟩
    have hwG : w < tG T := by omega
    have hcl := cle X w (by omega)
    have hlw := oSmono ls w (by omega)
    show ok (FX2_lodge (itr FX2_lodge _ M') (nI (oOut T S)) (nI L) (nI (tH T)) (nI (tG T)) lfA law hf kd gf fo coal bc arr best ins (nI w) (nI (oS S (fun j => c1 T S n j (sA X j)) w))) _
    unfold FX2_lodge
    rw [nC (by omega), hlf _ (by omega), nI_add]
    refine ok_f (nI_nlt (by omega) (by omega)) (ok_g (nB (by omega) (by omega)) ?_)
    have last : ∀ (acc2 : Acc) (bc : Int32) (arr best ins : Nat → Int32) (cst : Nat), cst = oS S (fun j => c1 T S n j (sA X j)) (w + 1) → Ins (sA X) (tG T) ins → CE T S n acc2 bc best → (∀ j, j < w → arr j = row j) → srch T S n (r + 1) w X row acc = srch T S n r (w + 1) X (upd row w (-1)) acc2 → ok (fX2_lodge_147 (nI (oOut T S)) (nI L) (nI (tH T)) (nI (tG T)) lfA law hf kd gf fo coal (itr FX2_lodge (fun _ _ _ _ _ _ _ _ _ _ _ _ _ _ _ _ _ => none) M') bc arr best ins (nI w) (nI cst)) (fun r' => CE T S n (srch T S n (r + 1) w X row acc) r'.1 r'.2.2.1 ∧ (∀ j, j < w → r'.2.1 j = row j) ∧ Ins (sA X) (tG T) r'.2.2.2) := by
      rintro acc2 bc arr best ins cst rfl hi hE harr es
      rw [es]
      unfold fX2_lodge_147
      rw [nI_1, nC (by omega)]
      refine ok_g (nB (by omega) (by omega)) ?_
      refine ok_bind (ok_mono (ih (w + 1) (by omega) M' (by omega) X (upd row w (-1)) acc2 bc _ best ins hX hW (fun j hj => ho j (by omega)) hi hE (fun j hj => ?_)) (fun y hy => ok_some ⟨hy.1, fun j hj => ?_, hy.2.2⟩))
      · by_cases z : j = w
        · subst z; rw [pk_us, pk_us]
        · rw [pk_un z, pk_un z]; exact harr j (by omega)
      · have := hy.2.1 j (by omega)
        rw [pk_un (by omega)] at this
        exact this
    have go : ok (if nI w = nI (tG T) then (Option.bind (fX2_keepRow arr bc best (nI w) (nI (oS S (fun j => c1 T S n j (sA X j)) w))) fun y7 => some (y7.1, arr, y7.2, ins)) else (Option.bind (fX2_isLodged (nI (oOut T S)) (nI w)) fun y5 => if y5 = 0 then fX2_lodge_147 (nI (oOut T S)) (nI L) (nI (tH T)) (nI (tG T)) lfA law hf kd gf fo coal (itr FX2_lodge (fun _ _ _ _ _ _ _ _ _ _ _ _ _ _ _ _ _ => none) M') bc arr best ins (nI w) (nI (oS S (fun j => c1 T S n j (sA X j)) w)) else itr (fun kk => fX2_lodge_52 (nI (oOut T S)) (nI L) (nI (tH T)) (nI (tG T)) lfA law hf kd gf fo coal (itr FX2_lodge (fun _ _ _ _ _ _ _ _ _ _ _ _ _ _ _ _ _ => none) M') kk) (fun _ _ _ _ _ _ _ => none) FU bc arr best ins (nI w) (nI (oS S (fun j => c1 T S n j (sA X j)) w)) 0)) (fun r' => CE T S n (srch T S n (r + 1) w X row acc) r'.1 r'.2.2.1 ∧ (∀ j, j < w → r'.2.1 j = row j) ∧ Ins (sA X) (tG T) r'.2.2.2) := by
      refine ok_f (fun e => by have := (nI_eq (by omega) (by omega)).mp e; omega) ?_
      have eol : oS S (fun j => c1 T S n j (sA X j)) (w + 1) = oS S (fun j => c1 T S n j (sA X j)) w + (if isO S w = true then c1 T S n w (sA X w) else 0) := rfl
      have eli : fX2_isLodged (nI (oOut T S)) (nI w) = some (nI (b2 (isO S w))) := by
        unfold fX2_isLodged
        simp (disch := omega) only [nlit, nI_add, pk_mul, nC, nB, nT_le, nF_le, nT_lt, nF_lt, nF_eq, nT_eq, nM1_ne, nM1_lt, b2_0, b2_1, b2_nar, nar_0, nar_1, cond_true, if_true, if_false, ob_some, q_bit, eO w hwG]
        cases isO S w <;> rfl
      rw [eli]
      refine ok_bind (ok_some ?_)
      cases q : isO S w
      · refine ok_t rfl (last acc bc arr best ins _ (by rw [eol, q]; rfl) hi hE harr ?_)
        show (if isO S w = true then _ else _) = _
        rw [q]; rfl
      · refine ok_f (by decide) ?_
        have es : srch T S n (r + 1) w X row acc = srch T S n r (w + 1) X (upd row w (-1)) (lpH (fun h a => if tk T X h w = true then srch T S n r (w + 1) (mv X w (h + 1)) (upd row w (nI h)) a else a) (tH T) acc) := by
          show (if isO S w = true then _ else _) = _
          rw [q]; rfl
        have h0 := ho w (Nat.le_refl _) q
        have hzS : (sZ S).testBit w = false := by
          have := q
          unfold isO at this
          rw [Bool.and_eq_true] at this
          simpa using this.2
        have hz : (sZ X).testBit w = false := by rw [hX.2.1]; exact hzS
        have hcm : fX2_costOf (nI L) kd (nI w) (-1) = some (nI (c1 T S n w 0)) := c_cost (h := 0) hT hC hwG (by omega) hzS hL
        have hcoX : ∀ h, h < tH T → coal h = nI (sC X h) := fun h hh => by rw [hX.2.2.1]; exact hco h hh
        refine ok_for6 (tH T) (fun i b a bw n2 v3 v4 => CE T S n (lpH (fun h a => if tk T X h w = true then srch T S n r (w + 1) (mv X w (h + 1)) (upd row w (nI h)) a else a) i acc) b bw ∧ (∀ j, j < w → a j = row j) ∧ Ins (sA X) (tG T) n2 ∧ v3 = nI w ∧ v4 = nI (oS S (fun j => c1 T S n j (sA X j)) w)) ?_ ?_ FU 0 bc arr best ins (nI w) _ (Nat.zero_le _) ⟨hE, harr, hi, rfl, rfl⟩ (by unfold FU; omega)
        · rintro k b a bw n2 v3 v4 i hi2 ⟨hE2, ha, hn2, rfl, rfl⟩ hk
          have hci : fX2_costOf (nI L) kd (nI w) (nI i) = some (nI (c1 T S n w (i + 1))) := by
            rw [plI_succ]; exact c_cost (h := i + 1) hT hC hwG (by omega) hzS hL
          have htk := c_taken2 (br := sB X) hT hX hW hC ⟨rfl, rfl, rfl, hcoX, hn2⟩ hl hwG hi2 h0
          have el : lpH (fun h a => if tk T X h w = true then srch T S n r (w + 1) (mv X w (h + 1)) (upd row w (nI h)) a else a) (i + 1) acc = if tk T X i w = true then srch T S n r (w + 1) (mv X w (i + 1)) (upd row w (nI i)) (lpH (fun h a => if tk T X h w = true then srch T S n r (w + 1) (mv X w (h + 1)) (upd row w (nI h)) a else a) i acc) else lpH (fun h a => if tk T X h w = true then srch T S n r (w + 1) (mv X w (h + 1)) (upd row w (nI h)) a else a) i acc := rfl
          unfold fX2_lodge_52
          rw [htk, hci, nI_1, nI_1, nC (by omega), nC (by omega)]
          refine ok_f (nI_ge hi2 (by omega)) (ok_bind (ok_some ?_))
          cases z : tk T X i w
          · refine ok_t rfl (hk _ _ _ _ _ _ ⟨?_, ha, hn2, rfl, rfl⟩)
            rw [el, z]; exact hE2
          · refine ok_f (by decide) (ok_g (nB (by omega) (by omega)) (ok_g (nB (by omega) (by omega)) (ok_g (nB (by omega) (by omega)) (ok_bind (ok_some ?_)))))
            have hW2 := mv_WS (h := i + 1) hW hwG (by omega) (fun y => by rw [hz] at y; cases y) (fun k2 e hk3 => by
              have hki : k2 = i := by omega
              rw [hki]; exact tk_pos z hk3)
            have e1 : (1 : Int32) <<< (nI w &&& 31) = nI (2 ^ w) := q_one w (by omega)
            have ecs : nI (oS S (fun j => c1 T S n j (sA X j)) w) + nI (c1 T S n w (i + 1)) = nI (oS S (fun j => c1 T S n j (sA (mv X w (i + 1)) j)) (w + 1)) := by
              rw [nI_add]
              congr 1
              show _ = oS S (fun j => c1 T S n j (sA (mv X w (i + 1)) j)) w + (if isO S w = true then c1 T S n w (if w = w then i + 1 else sA X w) else 0)
              rw [if_pos q, if_pos rfl]
              congr 1
              unfold oS
              apply sm_ext
              intro j hj
              show _ = if isO S j = true then c1 T S n j (if j = w then i + 1 else sA X j) else 0
              rw [if_neg (show ¬ j = w by omega)]
            rw [e1, ecs]
            refine ok_bind (ok_mono (ih (w + 1) (by omega) M' (by omega) (mv X w (i + 1)) (upd row w (nI i)) _ b _ bw _ (Xof_mv hX q) hW2 (fun j hj hjo => ?_) (Ins_add hG hwG (by omega) h0 hn2) hE2 (fun j hj => ?_)) (fun y hy => ?_))
            · show (if j = w then i + 1 else sA X j) = 0
              rw [if_neg (by omega)]; exact ho j (by omega) hjo
            · by_cases y : j = w
              · subst y; rw [pk_us, pk_us]
              · rw [pk_un y, pk_un y]; exact ha j (by omega)
            · refine ok_g (nB (by omega) (by omega)) (ok_g (nB (by omega) (by omega)) (hk _ _ _ _ _ _ ⟨?_, fun j hj => ?_, Ins_del hG hwG (by omega) h0 hy.2.2, rfl, rfl⟩))
              · rw [el, z]; exact hy.1
              · have := hy.2.1 j (by omega)
                rw [pk_un (by omega)] at this
                exact this
        · rintro k b a bw n2 v3 v4 ⟨hE2, ha, hn2, rfl, rfl⟩
          unfold fX2_lodge_52
          rw [hcm]
          refine ok_t (nI_le (Nat.le_refl _) (by omega)) (ok_bind (ok_some ?_))
          rw [nI_add]
          exact last _ b a bw n2 _ (by rw [eol, q, if_pos rfl, h0]) hn2 hE2 ha es
    cases acc with
    | none =>
      have hE2 : bc = nI 2147483647 := hE
      exact ok_t (by rw [hE2]; exact nI_lt (by omega) (by omega)) go
    | some x =>
      obtain ⟨p, q, e1, e2, e3, e4, e5⟩ := hE
      refine ok_if (fun z => go) (fun z => ok_some ⟨?_, harr, hi⟩)
      rw [e4] at z
      rw [prune (r + 1) w (by omega) X row x (16 * p + q) hX hW ho e3 (by
        have : ¬ oS S (fun j => c1 T S n j (sA X j)) w + (oS S ls (tG T) - oS S ls w) < 16 * p + q := fun y => z (nI_lt y (by omega))
        omega)]
      exact ⟨p, q, e1, e2, e3, e4, e5⟩
end LS
