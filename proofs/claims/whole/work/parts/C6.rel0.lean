/-! two new objects are alike -/
theorem us_val : usR.1 0 = 0 ∧ usR.1 1 = 0 ∧ usR.1 2 = 5 ∧ usR.1 3 = 0 ∧ ∀ f, f < 10 → usR.2 f = 0 := by decide +kernel
def T00 : Ter := (0, 0, 5, 0, fun _ => 0, fun _ => 0, fun _ => 0, fun _ => 0, fun _ => 0, fun _ => 0, fun _ => 0, fun _ => 0, fun l i _ _ => decide (i * 4 < l))
def I00 : MI := gp (fun _ _ => 0) [(112, 15, 5), (127, 15, 5)]
def A00 : MI := fun _ _ => 0
def B00 : MJ := gm (fun _ _ => 0) [(3, wF)]
def I90 : MI := gp (fun _ _ => 0) []
def A90 : MI := gm (fun _ _ => 0) [(2, usR.1), (11, usR.2)]
def B90 : MJ := gm (fun _ _ => 0) []
theorem WT_00 : WT T00 := by
  refine ⟨by decide, by decide, by decide, by decide, fun i hi => absurd hi (Nat.not_lt_zero _), fun i hi => absurd hi (Nat.not_lt_zero _), fun i hi => absurd hi (Nat.not_lt_zero _), fun f _ => ?_, fun a b _ _ => (Nat.zero_testBit b).trans (Nat.zero_testBit a).symm, fun a _ => Nat.zero_testBit _, fun a b hi _ => absurd hi (Nat.not_lt_zero _), fun a hi => absurd hi (Nat.not_lt_zero _)⟩
  show 0 < 1024
  decide
theorem Rel_00 : Rel 0 I00 A00 B00 I90 A90 B90 := by
  obtain ⟨u1, u2, u3, u4, u5⟩ := us_val
  have ab : ∀ {P : Nat → Prop}, ∀ j, j < 0 → P j := fun j hj => absurd hj (Nat.not_lt_zero _)
  have no : ∀ {P : Sta × Pln × Hrd → Prop}, ∀ x, (none : Mrk) = some x → P x := fun x hx => by cases hx
  have hLM : LawM (A90 13) (A90 14) (A90 15) (tal T00) := LawM_0 rfl
  refine ⟨(0, fun _ => 0), T00, S0 T00, (0, fun _ => 0, fun _ => false), (0, fun _ => S0 T00), (0, fun _ => 0, fun _ => 0, fun _ => 0), fun _ => (0, fun _ => 0), fun _ => (0, fun _ => 0), none, none, none, none, ⟨?_, ?_, ?_, ?_, ?_, ?_, ?_, ⟨?_, ?_, ?_, ?_⟩, rfl⟩, ⟨0, by decide, rfl, rfl, ab⟩⟩
  · exact ⟨⟨Nat.zero_le _, ab⟩, ⟨rfl, ab⟩, wF_ok, ⟨rfl, ab⟩⟩
  · refine ⟨WT_00, ⟨rfl, rfl, rfl, rfl, rfl, rfl, ab, ab, ab, ab, ab, ab, ab, ab, LawC_0⟩, ⟨u1, u2, u3, u4, ab, ab, ab, ab, ab, ab, ab, u5, hLM⟩, fun lf' lt' cds' e1 e2 _ => LawM_0 (by rw [e1, e2]; rfl)⟩
  · exact ⟨ab, ab, ab, ab, ab, ab⟩
  · refine ⟨WS_0 WT_00, ⟨rfl, rfl, rfl, ab, ?_⟩, ⟨rfl, rfl, rfl, fun h _ => ?_, fun w _ => rfl⟩⟩
    · exact fun i _ => rfl
    · show (0 : Int32) = nI (if h < 0 then 0 else 0)
      rw [if_neg (Nat.not_lt_zero _)]; rfl
  · exact ⟨⟨Nat.zero_le _, ab⟩, ⟨rfl, ab, ab⟩, ⟨rfl, ab, ab⟩⟩
  · exact ⟨⟨Nat.zero_le _, ab⟩, ⟨rfl, ab⟩, ⟨rfl, ab⟩⟩
  · exact ⟨⟨Nat.zero_le _, ab⟩, ⟨rfl, ab⟩⟩
  · exact ⟨no, ⟨rfl, no⟩, ⟨rfl, no⟩⟩
  · exact ⟨no, ⟨rfl, no⟩, ⟨rfl, no⟩⟩
  · exact ⟨no, ⟨rfl, no⟩, ⟨rfl, no⟩⟩
  · exact ⟨no, ⟨rfl, no⟩, ⟨rfl, no⟩⟩
