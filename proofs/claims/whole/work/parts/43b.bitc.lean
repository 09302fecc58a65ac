/-! ===== the JDK's bitCount ===== -/
section J2
variable {l : Launch} {w : WD} {d : Nat} {h : AH} {Q : Option AV → AH → Prop}
theorem j_bitCountL {s : Int64} (q : Q (some (vi (ons s))) h) : Con l w true d HJ13_bitCount_95d88 [vl s] h 0 0 Q := sorry
theorem j_bitCountI {s : Int32} (hs : 0 ≤ s) (q : Q (some (vi (ons s.toInt64))) h) : Con l w true d HJ6_bitCount_0f7a4 [vi s] h 0 0 Q := sorry
end J2

