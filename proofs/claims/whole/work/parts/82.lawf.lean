/-! the law: what is written down means what waits -/
theorem WfL_o {s : Lv} {L : List Lv} (h : WfL (s :: L)) : (s.o = 0 ∧ L = []) ∨ s.o = 1 ∨ s.o = 2 := by
  cases L with
  | nil => exact Or.inl ⟨h.1, rfl⟩
  | cons t L => exact Or.inr h.1
theorem tw4 {s : Lv} {L : List Lv} (h : WfL (s :: L)) : (osl (s :: L)).takeWhile (fun x => decide (4 ≤ rk x)) = oA s ∧ (osl (s :: L)).dropWhile (fun x => decide (4 ≤ rk x)) = osl ((mkL s.o s.kb s.ag s.sb 0 s.kv s.av s.sv s.tv) :: L) := by
  have hO := WfL_O h
  have ho := WfL_o h
  clear h
  obtain ⟨o, kb, ag, sb, tb, kv, av, sv, tv⟩ := s
  obtain ⟨h1, h2, h3, h4⟩ := hO
  have h1 : kb = 0 ∨ kb = 26 ∨ kb = 27 := h1
  have h2 : ag = 0 ∨ ag = 24 ∨ ag = 25 := h2
  have h3 : sb = 0 ∨ sb = 20 ∨ sb = 21 := h3
  have h4 : tb = 0 ∨ tb = 22 := h4
  have ho : (o = 0 ∧ L = []) ∨ o = 1 ∨ o = 2 := ho
  rcases h4 with rfl | rfl <;> rcases h3 with rfl | rfl | rfl <;> rcases h2 with rfl | rfl | rfl <;> rcases h1 with rfl | rfl | rfl <;> rcases ho with ⟨rfl, rfl⟩ | rfl | rfl <;> exact ⟨rfl, rfl⟩
theorem tw3 {s : Lv} {L : List Lv} (h : WfL (s :: L)) : (osl (s :: L)).takeWhile (fun x => decide (3 ≤ rk x)) = oA s ++ oB s ∧ (osl (s :: L)).dropWhile (fun x => decide (3 ≤ rk x)) = osl ((mkL s.o s.kb s.ag 0 0 s.kv s.av s.sv s.tv) :: L) := by
  have hO := WfL_O h
  have ho := WfL_o h
  clear h
  obtain ⟨o, kb, ag, sb, tb, kv, av, sv, tv⟩ := s
  obtain ⟨h1, h2, h3, h4⟩ := hO
  have h1 : kb = 0 ∨ kb = 26 ∨ kb = 27 := h1
  have h2 : ag = 0 ∨ ag = 24 ∨ ag = 25 := h2
  have h3 : sb = 0 ∨ sb = 20 ∨ sb = 21 := h3
  have h4 : tb = 0 ∨ tb = 22 := h4
  have ho : (o = 0 ∧ L = []) ∨ o = 1 ∨ o = 2 := ho
  rcases h4 with rfl | rfl <;> rcases h3 with rfl | rfl | rfl <;> rcases h2 with rfl | rfl | rfl <;> rcases h1 with rfl | rfl | rfl <;> rcases ho with ⟨rfl, rfl⟩ | rfl | rfl <;> exact ⟨rfl, rfl⟩
theorem tw1 {s : Lv} {L : List Lv} (h : WfL (s :: L)) : (osl (s :: L)).takeWhile (fun x => decide (1 ≤ rk x)) = oA s ++ (oB s ++ (oC s ++ oD s)) ∧ (osl (s :: L)).dropWhile (fun x => decide (1 ≤ rk x)) = osl ((mkL s.o 0 0 0 0 s.kv s.av s.sv s.tv) :: L) := by
  have hO := WfL_O h
  have ho := WfL_o h
  clear h
  obtain ⟨o, kb, ag, sb, tb, kv, av, sv, tv⟩ := s
  obtain ⟨h1, h2, h3, h4⟩ := hO
  have h1 : kb = 0 ∨ kb = 26 ∨ kb = 27 := h1
  have h2 : ag = 0 ∨ ag = 24 ∨ ag = 25 := h2
  have h3 : sb = 0 ∨ sb = 20 ∨ sb = 21 := h3
  have h4 : tb = 0 ∨ tb = 22 := h4
  have ho : (o = 0 ∧ L = []) ∨ o = 1 ∨ o = 2 := ho
  rcases h4 with rfl | rfl <;> rcases h3 with rfl | rfl | rfl <;> rcases h2 with rfl | rfl | rfl <;> rcases h1 with rfl | rfl | rfl <;> rcases ho with ⟨rfl, rfl⟩ | rfl | rfl <;> exact ⟨rfl, rfl⟩
theorem hd1 {s : Lv} {L : List Lv} (h : WfL (s :: L)) (hs : s.o ≠ 1) : ((osl (s :: L)).head? == some 147) = false := by
  have hO := WfL_O h
  have ho := WfL_o h
  clear h
  obtain ⟨o, kb, ag, sb, tb, kv, av, sv, tv⟩ := s
  obtain ⟨h1, h2, h3, h4⟩ := hO
  have h1 : kb = 0 ∨ kb = 26 ∨ kb = 27 := h1
  have h2 : ag = 0 ∨ ag = 24 ∨ ag = 25 := h2
  have h3 : sb = 0 ∨ sb = 20 ∨ sb = 21 := h3
  have h4 : tb = 0 ∨ tb = 22 := h4
  have hs : o ≠ 1 := hs
  have ho2 : (o = 0 ∧ L = []) ∨ o = 2 := by
    have ho : (o = 0 ∧ L = []) ∨ o = 1 ∨ o = 2 := ho
    rcases ho with q | q | q
    · exact Or.inl q
    · exact absurd q hs
    · exact Or.inr q
  clear ho hs
  rcases h4 with rfl | rfl <;> rcases h3 with rfl | rfl | rfl <;> rcases h2 with rfl | rfl | rfl <;> rcases h1 with rfl | rfl | rfl <;> rcases ho2 with ⟨rfl, rfl⟩ | rfl <;> rfl
/-- the top of what waits once sums are written down: a comparison, or not -/
def hdr (l : List Nat) : Nat := match l with
  | [] => 0
  | x :: _ => rk x
theorem hd2b {s : Lv} {L : List Lv} (h : WfL (s :: L)) : (hdr (osl ((mkL s.o s.kb s.ag 0 0 s.kv s.av s.sv s.tv) :: L)) == 2) = (s.ag != 0) := by
  have hO := WfL_O h
  have ho := WfL_o h
  clear h
  obtain ⟨o, kb, ag, sb, tb, kv, av, sv, tv⟩ := s
  obtain ⟨h1, h2, h3, h4⟩ := hO
  have h1 : kb = 0 ∨ kb = 26 ∨ kb = 27 := h1
  have h2 : ag = 0 ∨ ag = 24 ∨ ag = 25 := h2
  have ho : (o = 0 ∧ L = []) ∨ o = 1 ∨ o = 2 := ho
  clear h3 h4
  rcases h2 with rfl | rfl | rfl <;> rcases h1 with rfl | rfl | rfl <;> rcases ho with ⟨rfl, rfl⟩ | rfl | rfl <;> rfl
theorem hd2 {s : Lv} {L : List Lv} (h : WfL (s :: L)) : hdr (osl ((mkL s.o s.kb s.ag 0 0 s.kv s.av s.sv s.tv) :: L)) = 2 ↔ s.ag ≠ 0 := by
  have b := hd2b h
  constructor
  · intro q hag
    rw [q, hag] at b
    exact absurd b (by decide)
  · intro q
    rw [bne_iff_ne.mpr q] at b
    exact eq_of_beq b
theorem osl_mem : ∀ (L : List Lv), ∀ x, x ∈ osl L → x < 1000
  | [], x, h => absurd h (List.not_mem_nil)
  | s :: L, x, h => by
    have h : x ∈ oA s ++ (oB s ++ (oC s ++ (oD s ++ (opo s ++ osl L)))) := h
    simp only [List.mem_append] at h
    rcases h with h | h | h | h | h | h
    · unfold oA at h
      split at h
      · exact absurd h (List.not_mem_nil)
      · rw [List.mem_singleton] at h; omega
    · unfold oB at h
      split at h
      · exact absurd h (List.not_mem_nil)
      · rw [List.mem_singleton] at h; split at h <;> omega
    · unfold oC at h
      split at h
      · exact absurd h (List.not_mem_nil)
      · rw [List.mem_singleton] at h; split at h <;> omega
    · unfold oD at h
      split at h
      · exact absurd h (List.not_mem_nil)
      · rw [List.mem_singleton] at h; split at h <;> omega
    · unfold opo at h
      split at h
      · exact absurd h (List.not_mem_nil)
      · split at h <;> (rw [List.mem_singleton] at h; omega)
    · exact osl_mem L x h
theorem cst_op {e : EnvL} {b a : Int32} {S : List Int32} {o : Nat} (hS : S.length < 32) (ho : o = 42 ∨ o = 43 ∨ o = 45 ∨ o = 60 ∨ o = 61 ∨ o = 148 ∨ o = 149) : cst e (b :: a :: S) (10000 + o) = jn o b a :: S := by
  unfold cst
  rw [if_neg (by omega), if_neg (by omega), if_neg (by omega), if_neg (by omega), if_neg (by omega), if_neg (by omega), show 10000 + o - 10000 = o by omega]
  exact psh_lt hS
theorem ev4 {e : EnvL} {s : Lv} {x : Sv} {R : List Int32} (hR : R.length < 32) : (ups (oA s)).foldl (cst e) (x e :: (vA s e ++ R)) = r4 s x e :: R := by
  unfold oA vA r4
  by_cases q : s.tb = 0
  · rw [if_pos q, if_pos q, if_pos q]; rfl
  · rw [if_neg q, if_neg q, if_neg q]
    show cst e (x e :: s.tv e :: R) (10000 + 42) = _
    rw [cst_op hR (by omega)]; rfl
theorem ev3 {e : EnvL} {s : Lv} {x : Sv} {R : List Int32} (hR : R.length < 32) (hO : LvO s) : (ups (oB s)).foldl (cst e) (r4 s x e :: (vB s e ++ R)) = r3 s x e :: R := by
  unfold oB vB r3
  rcases hO.2.2.1 with q | q | q
  · rw [if_pos q, if_pos q, if_pos q]; rfl
  · rw [q]
    show cst e (r4 s x e :: s.sv e :: R) (10000 + 43) = _
    rw [cst_op hR (by omega)]; rfl
  · rw [q]
    show cst e (r4 s x e :: s.sv e :: R) (10000 + 45) = _
    rw [cst_op hR (by omega)]; rfl
theorem ev2 {e : EnvL} {s : Lv} {x : Sv} {R : List Int32} (hR : R.length < 32) (hO : LvO s) : (ups (oC s)).foldl (cst e) (r3 s x e :: (vC s e ++ R)) = r2 s x e :: R := by
  unfold oC vC r2
  rcases hO.2.1 with q | q | q
  · rw [if_pos q, if_pos q, if_pos q]; rfl
  · rw [q]
    show cst e (r3 s x e :: s.av e :: R) (10000 + 60) = _
    rw [cst_op hR (by omega)]; rfl
  · rw [q]
    show cst e (r3 s x e :: s.av e :: R) (10000 + 61) = _
    rw [cst_op hR (by omega)]; rfl
theorem ev1 {e : EnvL} {s : Lv} {x : Sv} {R : List Int32} (hR : R.length < 32) (hO : LvO s) : (ups (oD s)).foldl (cst e) (r2 s x e :: (vD s e ++ R)) = r1 s x e :: R := by
  unfold oD vD r1
  rcases hO.1 with q | q | q
  · rw [if_pos q, if_pos q, if_pos q]; rfl
  · rw [q]
    show cst e (r2 s x e :: s.kv e :: R) (10000 + 148) = _
    rw [cst_op hR (by omega)]; rfl
  · rw [q]
    show cst e (r2 s x e :: s.kv e :: R) (10000 + 149) = _
    rw [cst_op hR (by omega)]; rfl
theorem evD4 {e : EnvL} {s : Lv} {x : Sv} {L : List Lv} (hL : L.length ≤ 6) : (ups (oA s)).foldl (cst e) (x e :: vsl e (s :: L)) = r4 s x e :: vsl e ((mkL s.o s.kb s.ag s.sb 0 s.kv s.av s.sv s.tv) :: L) := by
  have := vB_le s e; have := vC_le s e; have := vD_le s e; have := vsl_le e L
  exact ev4 (by simp only [List.length_append]; omega)
theorem evD3 {e : EnvL} {s : Lv} {x : Sv} {L : List Lv} (hL : L.length ≤ 6) (hO : LvO s) : (ups (oA s ++ oB s)).foldl (cst e) (x e :: vsl e (s :: L)) = r3 s x e :: vsl e ((mkL s.o s.kb s.ag 0 0 s.kv s.av s.sv s.tv) :: L) := by
  have := vB_le s e; have := vC_le s e; have := vD_le s e; have := vsl_le e L
  unfold ups
  rw [List.map_append, List.foldl_append]
  have h4 := evD4 (e := e) (s := s) (x := x) hL
  unfold ups at h4
  rw [h4]
  exact ev3 (R := vC s e ++ (vD s e ++ vsl e L)) (by simp only [List.length_append]; omega) hO
theorem evD1 {e : EnvL} {s : Lv} {x : Sv} {L : List Lv} (hL : L.length ≤ 6) (hO : LvO s) : (ups (oA s ++ (oB s ++ (oC s ++ oD s)))).foldl (cst e) (x e :: vsl e (s :: L)) = r1 s x e :: vsl e L := by
  have := vB_le s e; have := vC_le s e; have := vD_le s e; have := vsl_le e L
  rw [show oA s ++ (oB s ++ (oC s ++ oD s)) = (oA s ++ oB s) ++ (oC s ++ oD s) by simp only [List.append_assoc]]
  unfold ups
  rw [List.map_append, List.foldl_append]
  have h3 := evD3 (e := e) (s := s) (x := x) hL hO
  unfold ups at h3
  rw [h3, List.map_append, List.foldl_append]
  have h2 := ev2 (e := e) (s := s) (x := x) (R := vD s e ++ vsl e L) (by simp only [List.length_append]; omega) hO
  unfold ups at h2
  have h2 : List.foldl (cst e) (r3 s x e :: vsl e ((mkL s.o s.kb s.ag 0 0 s.kv s.av s.sv s.tv) :: L)) ((oC s).map (fun x => 10000 + x)) = r2 s x e :: (vD s e ++ vsl e L) := h2
  rw [h2]
  exact ev1 (by omega) hO
