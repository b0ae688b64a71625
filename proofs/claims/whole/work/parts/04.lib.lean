/-! the words that all methods share -/
def Uw : List Cond := lw_tbl.filter goodWord
theorem Uw_good {w : Cond} (h : w ∈ Uw) : goodWord w = true := (List.mem_filter.mp h).2
theorem Uw_tbl {w : Cond} (h : w ∈ Uw) : w ∈ lw_tbl := (List.mem_filter.mp h).1
theorem Uw_of {w : Cond} (i : Nat) (h : tables_1[i]? = some w) (hg : goodWord w = true) : w ∈ Uw := List.mem_filter.mpr ⟨List.mem_append_right _ (List.mem_of_getElem? h), hg⟩
theorem Uw_sel {w : Cond} (i : Nat) (h : (k2_sels lw_privs)[i]? = some w) (hg : goodWord w = true) : w ∈ Uw := List.mem_filter.mpr ⟨List.mem_append_left _ (List.mem_of_getElem? h), hg⟩
theorem Uw_all : GoodIn Uw Uw := fun w h => ⟨h, good_of_word (Uw_good h)⟩
theorem Uw_cons {c : Cond} {ws : List Cond} (h : c ∈ Uw) (hw : GoodIn Uw ws) : GoodIn Uw (c :: ws) := fun w hw' => (List.mem_cons.mp hw').elim (fun e => by subst e; exact ⟨h, good_of_word (Uw_good h)⟩) (fun q => hw w q)
theorem Uw_V {own : String} {idx : Nat} {C : String} {y : MethodName} {c : Cond} (h1 : Cond.methodLink own idx y ∈ Uw) (h2 : Cond.instanceMethod y ∈ Uw) (h3 : Cond.selects C y y ∈ Uw) (h4 : Cond.initialized C ∈ Uw) (h5 : c ∈ Uw) : GoodIn Uw (wsV own idx C y (c :: Uw)) :=
  Uw_cons h1 (Uw_cons h2 (Uw_cons h3 (Uw_cons h4 (Uw_cons h5 Uw_all))))
theorem Uw_S {own : String} {idx : Nat} {y : MethodName} {c : Cond} (h1 : Cond.methodLink own idx y ∈ Uw) (h2 : Cond.static y ∈ Uw) (h4 : Cond.initialized own ∈ Uw) (h5 : c ∈ Uw) : GoodIn Uw (wsS own idx y (c :: Uw)) :=
  Uw_cons h1 (Uw_cons h2 (Uw_cons h4 (Uw_cons h5 Uw_all)))
/-! maps with changes -/
def gm {α : Type} (f : Nat → α) : List (Nat × α) → Nat → α
  | [], q => f q
  | (a, x) :: r, q => bif Nat.beq q a then x else gm f r q
def gp {α : Type} (f : Nat → Nat → α) : List (Nat × Nat × α) → Nat → Nat → α
  | [], q, k => f q k
  | (a, b, x) :: r, q, k => bif Nat.beq q a && Nat.beq k b then x else gp f r q k
def rm_ {α : Type} : List (Nat × α) → Nat → α → List (Nat × α)
  | [], _, _ => []
  | (a, y) :: r, q, x => bif Nat.beq q a then (a, x) :: r else (a, y) :: rm_ r q x
def rp_ {α : Type} : List (Nat × Nat × α) → Nat → Nat → α → List (Nat × Nat × α)
  | [], _, _, _ => []
  | (a, b, y) :: r, q, k, x => bif Nat.beq q a && Nat.beq k b then (a, b, x) :: r else (a, b, y) :: rp_ r q k x
def km_ {α : Type} : List (Nat × α) → Nat → Bool
  | [], _ => false
  | (a, _) :: r, q => Nat.beq q a || km_ r q
def kp_ {α : Type} : List (Nat × Nat × α) → Nat → Nat → Bool
  | [], _, _ => false
  | (a, b, _) :: r, q, k => (Nat.beq q a && Nat.beq k b) || kp_ r q k
theorem nb_ne {a b : Nat} (h : ¬ a = b) : Nat.beq a b = false := by
  cases hb : Nat.beq a b with
  | false => rfl
  | true => exact absurd (Nat.eq_of_beq_eq_true hb) h
theorem nb_and {a b c d : Nat} (h : ¬ (a = b ∧ c = d)) : (Nat.beq a b && Nat.beq c d) = false := by
  rw [Bool.and_eq_false_iff]
  rw [Classical.not_and_iff_not_or_not] at h
  rcases h with h | h
  · exact Or.inl (nb_ne h)
  · exact Or.inr (nb_ne h)
theorem gm_rm {α : Type} {f : Nat → α} {L : List (Nat × α)} {q : Nat} {x : α} (h : km_ L q = true) : va_up (gm f L) q x = gm f (rm_ L q x) := by
  funext j
  induction L with
  | nil => cases h
  | cons c r ih =>
    obtain ⟨a, y⟩ := c
    by_cases hq : q = a
    · subst hq
      simp only [rm_, gm, va_up, Nat.beq_refl, cond_true]
      by_cases hj : j = q
      · subst hj; simp [Nat.beq_refl]
      · simp [hj, nb_ne hj]
    · have hb : Nat.beq q a = false := nb_ne hq
      have h' : km_ r q = true := by simpa [km_, hb] using h
      have ih' := ih h'
      simp only [rm_, gm, va_up, hb, cond_false] at ih' ⊢
      by_cases hj : j = q
      · subst hj; simp only [if_true, hb, cond_false] at ih' ⊢; exact ih'
      · simp only [hj, if_false] at ih' ⊢; rw [ih']
theorem gp_rp {α : Type} {f : Nat → Nat → α} {L : List (Nat × Nat × α)} {q k : Nat} {x : α} (h : kp_ L q k = true) : (fun i j => if i = q ∧ j = k then x else gp f L i j) = gp f (rp_ L q k x) := by
  funext i j
  induction L with
  | nil => cases h
  | cons c r ih =>
    obtain ⟨a, b, y⟩ := c
    by_cases hq : q = a ∧ k = b
    · obtain ⟨rfl, rfl⟩ := hq
      simp only [rp_, gp, Nat.beq_refl, Bool.and_self, cond_true]
      by_cases hj : i = q ∧ j = k
      · obtain ⟨rfl, rfl⟩ := hj; simp [Nat.beq_refl]
      · have : (Nat.beq i q && Nat.beq j k) = false := nb_and hj
        simp [hj, this]
    · have hb : (Nat.beq q a && Nat.beq k b) = false := nb_and hq
      have h' : kp_ r q k = true := by simpa [kp_, hb] using h
      have ih' := ih h'
      simp only [rp_, gp, hb, cond_false] at ih' ⊢
      by_cases hj : i = q ∧ j = k
      · obtain ⟨rfl, rfl⟩ := hj; simp only [and_self, if_true, hb, cond_false] at ih' ⊢; exact ih'
      · simp only [hj, if_false] at ih' ⊢; rw [ih']
/-! several changes at once -/
def rms_ {α : Type} (L : List (Nat × α)) : List (Nat × α) → List (Nat × α)
  | [] => L
  | (a, x) :: r => rm_ (rms_ L r) a x
def rps_ {α : Type} (L : List (Nat × Nat × α)) : List (Nat × Nat × α) → List (Nat × Nat × α)
  | [] => L
  | (a, b, x) :: r => rp_ (rps_ L r) a b x
def kms_ {α : Type} (L : List (Nat × α)) : List (Nat × α) → Bool
  | [] => true
  | (a, _) :: r => km_ L a && kms_ L r
def kps_ {α : Type} (L : List (Nat × Nat × α)) : List (Nat × Nat × α) → Bool
  | [] => true
  | (a, b, _) :: r => kp_ L a b && kps_ L r
theorem km_rm {α : Type} {L : List (Nat × α)} {q a : Nat} {x : α} : km_ (rm_ L q x) a = km_ L a := by
  induction L with
  | nil => rfl
  | cons c r ih =>
    obtain ⟨b, y⟩ := c
    simp only [rm_]
    cases Nat.beq q b <;> simp [km_, ih]
theorem kp_rp {α : Type} {L : List (Nat × Nat × α)} {q k a b : Nat} {x : α} : kp_ (rp_ L q k x) a b = kp_ L a b := by
  induction L with
  | nil => rfl
  | cons c r ih =>
    obtain ⟨a', b', y⟩ := c
    simp only [rp_]
    cases (Nat.beq q a' && Nat.beq k b') <;> simp [kp_, ih]
theorem km_rms {α : Type} {L c : List (Nat × α)} {a : Nat} : km_ (rms_ L c) a = km_ L a := by
  induction c with
  | nil => rfl
  | cons h r ih => obtain ⟨b, y⟩ := h; simp only [rms_, km_rm, ih]
theorem kp_rps {α : Type} {L c : List (Nat × Nat × α)} {a b : Nat} : kp_ (rps_ L c) a b = kp_ L a b := by
  induction c with
  | nil => rfl
  | cons h r ih => obtain ⟨a', b', y⟩ := h; simp only [rps_, kp_rp, ih]
theorem gm_rms {α : Type} {f : Nat → α} {L c : List (Nat × α)} (h : kms_ L c = true) : gm (gm f L) c = gm f (rms_ L c) := by
  induction c with
  | nil => rfl
  | cons h0 r ih =>
    obtain ⟨a, x⟩ := h0
    simp only [kms_, Bool.and_eq_true] at h
    have h1 : gm (gm f L) ((a, x) :: r) = va_up (gm (gm f L) r) a x := by
      funext j
      simp only [gm, va_up]
      by_cases hj : j = a
      · subst hj; simp [Nat.beq_refl]
      · simp [hj, nb_ne hj]
    rw [h1, ih h.2, gm_rm (by rw [km_rms]; exact h.1)]
    rfl
theorem gp_rps {α : Type} {f : Nat → Nat → α} {L c : List (Nat × Nat × α)} (h : kps_ L c = true) : gp (gp f L) c = gp f (rps_ L c) := by
  induction c with
  | nil => rfl
  | cons h0 r ih =>
    obtain ⟨a, b, x⟩ := h0
    simp only [kps_, Bool.and_eq_true] at h
    have h1 : gp (gp f L) ((a, b, x) :: r) = (fun i j => if i = a ∧ j = b then x else gp (gp f L) r i j) := by
      funext i j
      simp only [gp]
      by_cases hj : i = a ∧ j = b
      · obtain ⟨rfl, rfl⟩ := hj; simp [Nat.beq_refl]
      · have : (Nat.beq i a && Nat.beq j b) = false := nb_and hj
        simp [hj, this]
    rw [h1, ih h.2, gp_rp (by rw [kp_rps]; exact h.1)]
    rfl
