section LG
variable {z : Nat → Nat} {n : Nat} {signs gs hs vs : Nat → Int32} {words hn gn : Nat → Int64}
/-- no verb, or forty lines already: the same fault on both sides -/
theorem p_noverb {q H G l a : Nat} {cb cp tp ct cnu : Int32} {cnm : Int64} (hq : q ≤ 1000) (ha : a < 154) (hno : ¬ (138 ≤ a ∧ a ≤ 142)) (ea : ct = nI a) (ep : cp = nI q) : ok (fX7_readLine (nI n) (nI H) (nI G) signs words hn gn (nI l) cb cp tp ct cnu 0 cnm gs hs vs) (fun r => r.2.2.2.2.2.2.1 = nI (1 + 16 * q)) := by
  have fl := flt hq (c := 1) (by omega) (by omega)
  have hr : fX5_refuse cp 0 1 = some (nI (1 + 16 * q)) := by
    unfold fX5_refuse
    rw [if_pos rfl, ep, ← fl.1]; rfl
  have hw : fX8_isWithin ct 138 142 = some 0 := by
    unfold fX8_isWithin
    rw [ea]
    by_cases x : a < 138
    · rw [if_pos (show nI a < 138 from nI_lt (b := 138) x (by omega))]
    · rw [if_neg (show ¬ nI a < 138 from nI_nlt (b := 138) (by omega) (by omega)), if_pos (show 142 < nI a from nI_lt (a := 142) (by omega) (by omega))]
  unfold fX7_readLine
  rw [hw]
  simp only [Option.bind_some]
  rw [if_pos trivial, hr]
  exact ok_some rfl
theorem m_noverb {q : Nat} {sz mp mb mt mnu wr gv : Int32} {mwd : Int64} {tape te ln lw la lb : Nat → Int32} (hq : q ≤ 1000) (em : mb = nI q) : ok (fX9_readsLine_71 sz tape te hn gn mp mb mt mnu wr gv mwd ln lw la lb (-1)) (fun r => r.1 = 0 ∧ r.2.2.2.2.2.1 = nI (1 + 16 * q)) := by
  have fl := flt hq (c := 1) (by omega) (by omega)
  unfold fX9_readsLine_71 fX9_fails
  rw [if_neg (by decide)]
  exact ok_some ⟨show vp_nar FieldType.boolean 0 = 0 by decide, by rw [em, ← fl.1]; rfl⟩
end LG
