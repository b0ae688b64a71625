section LF
variable {signs gs hs vs : Nat → Int32} {words hn gn : Nat → Int64}
/-- a guest's name was a fault: the class reads on, and keeps it -/
theorem c_131F {len cb cp tp ct cnu f v5 x0 : Int32} {cnm : Int64} {H G l : Nat} (hH : H ≤ 5) (hl : l < 40) (hf : ¬ f = 0) : ok (fX7_readLine_131 len (nI H) (nI G) signs words hn gn (nI l) cb cp tp ct cnu f cnm gs hs vs v5 x0 (nI l)) (fun r => r.2.2.2.2.2.2.1 = f) := by
  unfold fX7_readLine_131
  refine ok_g (nB hl (by omega)) (ok_if (fun _ => ?_) (fun _ => ok_bind (ok_mono (c_holeF hH hf) (fun y e => ?_))))
  · unfold fX7_readLine_155
    exact ok_g (nB hl (by omega)) (ok_some rfl)
  · unfold fX7_readLine_155
    exact ok_g (nB hl (by omega)) (ok_some e)
end LF
