/-! ===== the reference: looks ===== -/
theorem r_in {l : Launch} {w : WD} {lm : Bool} {d : Nat} {h : AH} {Q : Option AV → AH → Prop} {v lo hi : Int64} (q : Q (some (vi (b2i (decide (lo ≤ v) && decide (v ≤ hi))))) h) : Con l w lm d HX9_in [vl v, vl lo, vl hi] h 0 0 Q := by
  refine Con.of ok_X9_in (nones := []) rfl (by simp) ?_
  refine go ok_X9_in ?_
  refine And.intro (fun c => ?_) (fun c => ?_)
  · refine go ok_X9_in ?_
    refine And.intro (Or.inl rfl) ?_
    have e : decide (lo ≤ v) = false := by
      have := lg_cmp_lt.mp c
      simpa using this
    rw [e] at q
    exact q
  · refine go ok_X9_in ?_
    have c1 : lo ≤ v := by
      have : ¬ v < lo := fun z => c (lg_cmp_lt.mpr z)
      simpa using this
    refine And.intro (fun c2 => ?_) (fun c2 => ?_)
    · refine go ok_X9_in ?_
      refine And.intro (Or.inl rfl) ?_
      have : hi < v := lg_cmp_gt.mp c2
      have e : decide (v ≤ hi) = false := by simpa using this
      rw [e, Bool.and_false] at q
      exact q
    · refine go ok_X9_in ?_
      refine And.intro (Or.inr rfl) ?_
      have : ¬ hi < v := fun z => c2 (lg_cmp_gt.mpr z)
      have e : decide (v ≤ hi) = true := by simpa using this
      rw [e, decide_eq_true c1] at q
      exact q

