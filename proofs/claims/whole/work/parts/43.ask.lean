def bqE (T : Ter) (d L G n : Nat) : Nat := max (min (2 * csT T d n) G + 1 - L) (G + 1 - L - (min (2 * csT T d n) G + 1 - L))
def bqS (T : Ter) (d L G : Nat) (B : Nat → Int32 × Nat) : Prop := B 0 = (-1, G + 1 - L) ∧ ∀ n, B (n + 1) = if (B n).2 ≤ bqE T d L G (n + 1) then B n else (nI (n + 1), bqE T d L G (n + 1))
theorem bq_ex (T : Ter) (d L G : Nat) : ∃ B, bqS T d L G B := ⟨fun n => Nat.rec (-1, G + 1 - L) (fun n b => if b.2 ≤ bqE T d L G (n + 1) then b else (nI (n + 1), bqE T d L G (n + 1))) n, rfl, fun n => rfl⟩
theorem bq_le {T : Ter} {d L G n : Nat} {B : Nat → Int32 × Nat} (hB : bqS T d L G B) (hG : G ≤ 60) : (B n).2 ≤ 61 := by
  induction n with
  | zero => rw [hB.1]; show G + 1 - L ≤ 61; omega
  | succ n ih =>
    rw [hB.2]
    split
    · exact ih
    · show bqE T d L G (n + 1) ≤ 61
      unfold bqE; omega
section AK
variable {T : Ter} {S : Sta} {N : Nat} {X : Hrd} {cold tr cd s size_ : Nat → Int32}
theorem c_best {L G : Nat} {B : Nat → Int32 × Nat} (hB : bqS T (sD S) L G B) (hT : WT T) (hS : sD S ≤ 2000) (hc : ∀ i, i < tN T → cold i = nI (tco T i)) (hL : L ≤ 181) (hG : G ≤ 60) : fX0_bestQuestion (nI L) (nI G) (nI (tN T)) cold (nI (sD S)) = some (B 30).1 := by
  unfold fX0_bestQuestion fX0_many
  have em : imax (nI G - nI L + 1) 0 = nI (G + 1 - L) := nmany (by omega) (by omega)
  rw [em]
  refine ok_eq.mp (ok_bind (ok_some ?_))
  refine ok_for4 31 (fun i v2 v3 v4 v5 => 1 ≤ i ∧ v2 = nI (sD S) ∧ v3 = (B (i - 1)).1 ∧ v4 = nI (B (i - 1)).2 ∧ v5 = nI (2 * csT T (sD S) (i - 1))) ?_ ?_ FU 1 (nI (sD S)) (-1) (nI (G + 1 - L)) 0 (by omega) ⟨by omega, rfl, by rw [show 1 - 1 = 0 by decide, hB.1], by rw [show 1 - 1 = 0 by decide, hB.1], rfl⟩ (by unfold FU; omega)
  · rintro k _ _ _ _ i hlt ⟨h1, rfl, rfl, rfl, rfl⟩ hk
    obtain ⟨n, rfl⟩ : ∃ n, i = n + 1 := ⟨i - 1, by omega⟩
    have e0 : n + 1 - 1 = n := by omega
    rw [e0]
    unfold fX0_bestQuestion_14 fX0_many
    have h4 := csT_le (d := sD S) (n := n) hT
    have h5 := cdT_le (d := sD S + n) hT
    have hb := bq_le (n := n) hB hG
    have e1 : nI (sD S) + nI (n + 1) - 1 = nI (sD S + n) := by
      rw [nI_add, show sD S + (n + 1) = (sD S + n) + 1 by omega]; exact nI_pred (sD S + n)
    have e2 : 2 * csT T (sD S) n + 2 * cdT T (sD S + n) = 2 * csT T (sD S) (n + 1) := by simp only [csT]; omega
    have e3 : imax (imin (nI (2 * csT T (sD S) n) + 2 * nI (cdT T (sD S + n))) (nI G) - nI L + 1) 0 = nI (min (2 * csT T (sD S) (n + 1)) G + 1 - L) := by
      rw [show (2 : Int32) * nI (cdT T (sD S + n)) = nI (2 * cdT T (sD S + n)) from pk_mul 2 _, nI_add, e2, nmin (by have := csT_le (d := sD S) (n := n + 1) hT; omega) (by omega)]
      exact nmany (by have := Nat.min_le_right (2 * csT T (sD S) (n + 1)) G; omega) (by omega)
    have e4 : imax (nI (min (2 * csT T (sD S) (n + 1)) G + 1 - L)) (nI (G + 1 - L) - nI (min (2 * csT T (sD S) (n + 1)) G + 1 - L)) = nI (bqE T (sD S) L G (n + 1)) := by
      rw [nsub (by omega), nmax (by omega) (by omega)]; rfl
    have e5 : bqE T (sD S) L G (n + 1) ≤ 61 := by unfold bqE; omega
    rw [e1, c_coldOf hT hc (by omega), em]
    simp only [ob_some]
    rw [e3, e4]
    have e6 : nI (2 * csT T (sD S) n) + 2 * nI (cdT T (sD S + n)) = nI (2 * csT T (sD S) (n + 1)) := by
      rw [show (2 : Int32) * nI (cdT T (sD S + n)) = nI (2 * cdT T (sD S + n)) from pk_mul 2 _, nI_add, e2]
    rw [e6]
    refine ok_f (show ¬ (30 : Int32) < nI (n + 1) from nI_nlt (a := 30) (b := n + 1) (by omega) (by omega)) ?_
    refine ok_if (fun z => ?_) (fun z => ?_)
    · have z := (nI_leI (by omega) (by omega)).mp z
      rw [nI_1]
      refine hk _ _ _ _ ⟨by omega, rfl, ?_, ?_, by rw [show n + 1 + 1 - 1 = n + 1 by omega]⟩
      · rw [show n + 1 + 1 - 1 = n + 1 by omega]; rw [hB.2, if_pos z]
      · rw [show n + 1 + 1 - 1 = n + 1 by omega]; rw [hB.2, if_pos z]
    · have z : ¬ (B n).2 ≤ bqE T (sD S) L G (n + 1) := fun y => z (nI_le y (by omega))
      rw [nI_1]
      refine hk _ _ _ _ ⟨by omega, rfl, ?_, ?_, by rw [show n + 1 + 1 - 1 = n + 1 by omega]⟩
      · rw [show n + 1 + 1 - 1 = n + 1 by omega]; rw [hB.2, if_neg z]
      · rw [show n + 1 + 1 - 1 = n + 1 by omega]; rw [hB.2, if_neg z]
  · rintro k _ _ _ _ ⟨h1, rfl, rfl, rfl, rfl⟩
    unfold fX0_bestQuestion_14
    refine ok_t (show (30 : Int32) < nI 31 by decide) (ok_some ?_)
    rw [show 31 - 1 = 30 by decide]
theorem m_askL {L G : Nat} {B : Nat → Int32 × Nat} (hB : bqS T (sD S) L G B) {hs days some_ : Nat → Int32} {th : Int32} (hT : WT T) (hS : sD S ≤ 2000) (hX : WH X) (ht : tr 3 = nI (tN T)) (hc : ∀ i, i < tN T → cd i = nI (tco T i)) (hm : MS S s) (hH : MH X 0 hs days some_) (eL : loH T (sD S) X X.1 = L) (eG : hiH T (sD S) X X.1 = G) (hL : L ≤ 181) (hG : G ≤ 60) : ok (fX9_ask tr cd hs days some_ s th) (fun r => r.1 = (B 30).1) := by
  have h0 := m_coalsL (v1 := 0) (th := 0) hT hS hX ht hc hm hH (by omega)
  rw [if_pos rfl, eL, eG] at h0
  unfold fX9_ask
  refine ok_bind (ok_mono h0 (fun y hy => ?_))
  obtain ⟨y1, y2⟩ := y
  have hy : y1 = nI (G + 1 - L) := hy
  subst hy
  show ok (itr (fun kk => fX9_ask_18 tr cd hs days some_ s kk) _ FU y2 (nI (G + 1 - L)) (nI (G + 1 - L)) (-1) 1) _
  refine ok_for4 31 (fun i _ v1 v2 v3 => 1 ≤ i ∧ v1 = nI (G + 1 - L) ∧ v2 = nI (B (i - 1)).2 ∧ v3 = (B (i - 1)).1) ?_ ?_ FU 1 y2 (nI (G + 1 - L)) (nI (G + 1 - L)) (-1) (by omega) ⟨by omega, rfl, by rw [show 1 - 1 = 0 by decide, hB.1], by rw [show 1 - 1 = 0 by decide, hB.1]⟩ (by unfold FU; omega)
  · rintro k a1 _ _ _ i hlt ⟨h1, rfl, rfl, rfl⟩ hk
    obtain ⟨n, rfl⟩ : ∃ n, i = n + 1 := ⟨i - 1, by omega⟩
    have e0 : n + 1 - 1 = n := by omega
    rw [e0]
    unfold fX9_ask_18
    have hb := bq_le (n := n) hB hG
    have h4 := csT_le (d := sD S) (n := n + 1) hT
    refine ok_f (show ¬ (31 : Int32) ≤ nI (n + 1) from nI_ge (b := 31) (a := n + 1) (by omega) (by omega)) ?_
    refine ok_for6 61 (fun j _ v1 v2 v3 v4 v5 => v1 = nI (G + 1 - L) ∧ v2 = nI (B n).2 ∧ v3 = (B n).1 ∧ v4 = nI (n + 1) ∧ v5 = nI (cnt (fun c => decide (max L (2 * csT T (sD S) (n + 1) + 1) ≤ c ∧ c ≤ G)) j)) ?_ ?_ FU 0 _ _ _ _ _ 0 (Nat.zero_le _) ⟨rfl, rfl, rfl, rfl, rfl⟩ (by unfold FU; omega)
    · rintro k2 b1 _ _ _ _ _ j hj ⟨rfl, rfl, rfl, rfl, rfl⟩ hk2
      unfold fX9_ask_31
      have e := m_asHeard hT hS hX ht hc hm hH (c := j) (by omega)
      rw [eL, eG] at e
      rw [e, m_leaves hT hS ht hc hm (c := j) (n := n + 1) (by omega) (by omega)]
      simp only [ob_some, nlit, b2_0]
      refine ok_f (show ¬ nI 61 ≤ nI j from nI_ge hj (by omega)) ?_
      simp only [nI_add]
      have hk3 := fun a => hk2 a _ _ _ _ _ ⟨rfl, rfl, rfl, rfl, rfl⟩
      simp only [cnt] at hk3
      by_cases z : L ≤ j ∧ j ≤ G
      · rw [decide_eq_true z]
        by_cases y : 2 * csT T (sD S) (n + 1) < j
        · rw [decide_eq_true y]
          rw [decide_eq_true (by omega), b2_t] at hk3
          exact hk3 _
        · rw [decide_eq_false y]
          rw [decide_eq_false (by omega), b2_f] at hk3
          exact hk3 _
      · rw [decide_eq_false z]
        rw [decide_eq_false (by omega), b2_f] at hk3
        exact hk3 _
    · rintro k2 b1 _ _ _ _ _ ⟨rfl, rfl, rfl, rfl, rfl⟩
      unfold fX9_ask_31
      rw [cnt_iv]
      have e5 : bqE T (sD S) L G (n + 1) ≤ 61 := by unfold bqE; omega
      have en : imax (nI (min 61 (G + 1) - max L (2 * csT T (sD S) (n + 1) + 1))) (nI (G + 1 - L) - nI (min 61 (G + 1) - max L (2 * csT T (sD S) (n + 1) + 1))) = nI (bqE T (sD S) L G (n + 1)) := by
        rw [nsub (by omega), nmax (by omega) (by omega)]
        exact congrArg nI (by unfold bqE; omega)
      rw [en, nI_1]
      refine ok_t (show (61 : Int32) ≤ nI 61 by decide) ?_
      refine ok_if (fun z => ?_) (fun z => ?_)
      · have z := (nI_ltI (by omega) (by omega)).mp z
        refine hk _ _ _ _ ⟨by omega, rfl, ?_, ?_⟩
        · rw [show n + 1 + 1 - 1 = n + 1 by omega]; rw [hB.2, if_neg (show ¬ (B n).2 ≤ bqE T (sD S) L G (n + 1) by omega)]
        · rw [show n + 1 + 1 - 1 = n + 1 by omega]; rw [hB.2, if_neg (show ¬ (B n).2 ≤ bqE T (sD S) L G (n + 1) by omega)]
      · have z : (B n).2 ≤ bqE T (sD S) L G (n + 1) := Nat.le_of_not_lt (fun y => z (nI_lt y (by omega)))
        refine hk _ _ _ _ ⟨by omega, rfl, ?_, ?_⟩
        · rw [show n + 1 + 1 - 1 = n + 1 by omega]; rw [hB.2, if_pos z]
        · rw [show n + 1 + 1 - 1 = n + 1 by omega]; rw [hB.2, if_pos z]
  · rintro k a1 _ _ _ ⟨h1, rfl, rfl, rfl⟩
    unfold fX9_ask_18
    refine ok_t (show (31 : Int32) ≤ nI 31 by decide) (ok_some ?_)
    show (B (31 - 1)).1 = _
    rw [show 31 - 1 = 30 by decide]
theorem p_ask {th size l g : Int32} {days some_ hs days' some' : Nat → Int32} (hT : WT T) (hS : sD S ≤ 2000) (hX : WH X) (hc : ∀ i, i < tN T → cold i = nI (tco T i)) (hH : CH X size days some_) (ht : tr 3 = nI (tN T)) (hc' : ∀ i, i < tN T → cd i = nI (tco T i)) (hm : MS S s) (hH' : MH X 0 hs days' some') :
    ∃ a, ok (fX8_ask (nI (sD S)) size (nI (tN T)) days some_ cold l g) (fun r => r.1 = a) ∧ ok (fX9_ask tr cd hs days' some' s th) (fun r => r.1 = a) := by
  have hl := loH_le (d := sD S) hT hX (Nat.le_refl _)
  have hh := hiH_le (T := T) (d := sD S) (X := X) (i := X.1)
  obtain ⟨B, hB⟩ := bq_ex T (sD S) (loH T (sD S) X X.1) (hiH T (sD S) X X.1)
  refine ⟨_, ?_, m_askL hB hT hS hX ht hc' hm hH' rfl rfl hl hh⟩
  unfold fX8_ask
  rw [c_narrow hT hS hX hc hH, ob_some, c_best hB hT hS hc hl hh, ob_some]
  exact ok_some rfl
theorem p_hear {size v1 th : Int32} {b : Bool} {days some_ hs days' some' : Nat → Int32} (hX : WH X) (hH : CH X size days some_) (hH' : MH X 0 hs days' some') :
    ∃ (a : Int32) (X' : Hrd), WH X' ∧ ok (fX8_hear size days some_ v1 (nI (b2 b))) (fun r => r.1 = a ∧ CH X' r.2.1 r.2.2.1 r.2.2.2) ∧ ok (fX9_hear th hs days' some' v1 (nI (b2 b))) (fun r => r.1 = a ∧ MH X' 0 r.2.2.1 r.2.2.2.1 r.2.2.2.2 ∧ (∀ j, j ≠ 0 → r.2.2.1 j = hs j) ∧ (∀ j, 8 ≤ j → r.2.2.2.1 j = days' j ∧ r.2.2.2.2 j = some' j)) := by
  obtain ⟨n, dd, ss⟩ := X
  have h8 : n ≤ 8 := hX.1
  have hsz : size = nI n := hH.1
  have hs0 : hs 0 = nI n := hH'.1
  subst hsz
  unfold fX8_hear fX9_hear fX0_add
  simp only [nlit, hs0]
  have no : ∃ (a : Int32) (X' : Hrd), WH X' ∧ ok (some (nI 0, nI n, days, some_)) (fun r => r.1 = a ∧ CH X' r.2.1 r.2.2.1 r.2.2.2) ∧ ok (some (nI 0, nI 0, hs, days', some')) (fun r => r.1 = a ∧ MH X' 0 r.2.2.1 r.2.2.2.1 r.2.2.2.2 ∧ (∀ j, j ≠ 0 → r.2.2.1 j = hs j) ∧ (∀ j, 8 ≤ j → r.2.2.2.1 j = days' j ∧ r.2.2.2.2 j = some' j)) :=
    ⟨nI 0, (n, dd, ss), hX, ok_some ⟨rfl, hH⟩, ok_some ⟨rfl, hH', fun j _ => rfl, fun j _ => ⟨rfl, rfl⟩⟩⟩
  rcases wthn v1 1 30 (by omega) (by omega) with ⟨d, hd1, hd2, rfl, e1, e2⟩ | ⟨e1, e2⟩
  · rw [e1, e2]
    by_cases z : n = 8
    · subst z
      exact no
    · have z2 : n < 8 := by omega
      simp (disch := omega) only [nlit, nI_add, pk_mul, nC, nB, nT_le, nF_le, nT_lt, nF_lt, nF_eq, nT_eq, nM1_ne, nM1_lt, b2_0, b2_1, b2_nar, nar_0, nar_1, cond_true, if_true, if_false, ob_some]
      refine ⟨nI 1, (n + 1, fun i => if i = n then d else dd i, fun i => if i = n then b else ss i), ⟨by show n + 1 ≤ 8; omega, fun i hi => ?_⟩, ok_some ⟨rfl, rfl, fun i hi => ?_, fun i hi => ?_⟩, ok_some ⟨rfl, ⟨?_, fun i hi => ?_, fun i hi => ?_⟩, fun j hj => ?_, fun j hj => ⟨?_, ?_⟩⟩⟩
      · have hi : i < n + 1 := hi
        show 1 ≤ (if i = n then d else dd i) ∧ (if i = n then d else dd i) ≤ 30
        split
        · omega
        · exact hX.2 i (show i < n by omega)
      · have hi : i < n + 1 := hi
        show upd days n (nI d) i = nI (if i = n then d else dd i)
        by_cases y : i = n
        · rw [if_pos y, y, pk_us]
        · rw [if_neg y, pk_un y]; exact hH.2.1 i (show i < n by omega)
      · have hi : i < n + 1 := hi
        show upd some_ n (nI (b2 b)) i = nI (b2 (if i = n then b else ss i))
        by_cases y : i = n
        · rw [if_pos y, y, pk_us]
        · rw [if_neg y, pk_un y]; exact hH.2.2 i (show i < n by omega)
      · show upd hs 0 (nI (n + 1)) 0 = nI (n + 1)
        exact pk_us
      · have hi : i < n + 1 := hi
        show upd days' n (nI d) (8 * 0 + i) = nI (if i = n then d else dd i)
        rw [show 8 * 0 + i = i by omega]
        by_cases y : i = n
        · rw [if_pos y, y, pk_us]
        · rw [if_neg y, pk_un y]; have := hH'.2.1 i (show i < n by omega); rw [show 8 * 0 + i = i by omega] at this; exact this
      · have hi : i < n + 1 := hi
        show upd some' n (nI (b2 b)) (8 * 0 + i) = nI (b2 (if i = n then b else ss i))
        rw [show 8 * 0 + i = i by omega]
        by_cases y : i = n
        · rw [if_pos y, y, pk_us]
        · rw [if_neg y, pk_un y]; have := hH'.2.2 i (show i < n by omega); rw [show 8 * 0 + i = i by omega] at this; exact this
      · exact pk_un hj
      · exact pk_un (by omega)
      · exact pk_un (by omega)
  · rw [e1, e2]
    exact no
end AK
