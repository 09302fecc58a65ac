/-! ===== the class: texts ===== -/
def wdS (n : Nat) : List Int32 := sBytes.getD n []
theorem wdS_ok : ∀ n, n < 11 → (wdS n).length ≤ 8 ∧ 1 ≤ (wdS n).length ∧ ∀ k, k < (wdS n).length → 97 ≤ (wdS n).getD k 0 ∧ (wdS n).getD k 0 ≤ 122 := by decide
theorem b_char : ∀ n, n < 11 → ∀ k, k < (wdS n).length → (((wdS n).getD k 0 &&& 255).toUInt32 % 65536).toInt32 = (wdS n).getD k 0 := by decide
theorem b_chr : ∀ n, n < 11 → ∀ k, k < (wdS n).length → (((wdS n).getD k 0).toUInt32 % 65536).toInt32 = (wdS n).getD k 0 := by decide
theorem sh0 (x : Int32) : x >>> (0 &&& 31) = x := by
  rw [show (0 : Int32) &&& 31 = 0 from by decide]
  exact Int32.shiftRight_zero
section C23
variable {l : Launch} {w : WD} {d : Nat} {h : AH} {Q : Option AV → AH → Prop}
theorem j_coder (hS : STH h) {n : Nat} (hn : n < 11) (q : Q (some (vi 0)) h) : Con l w true d HJ0_coder_7d493 [vr (2 + n)] h 0 0 Q := by
  obtain ⟨a1, a2, a3, a4, a5⟩ := hS.2.2 n hn
  refine Con.of ok_J0_coder_7d493 (nones := []) rfl (by simp) ?_
  refine go ok_J0_coder_7d493 ?_
  refine And.intro (fun c => absurd c (by decide)) (fun c => ?_)
  refine go ok_J0_coder_7d493 ?_
  refine And.intro a1 ?_
  refine asAnd ?_
  rw [a3]
  exact ⟨rfl, q⟩
theorem j_latin (hS : STH h) {n : Nat} (hn : n < 11) (q : Q (some (vi 1)) h) : Con l w true d HJ0_isLatin1_aae02 [vr (2 + n)] h 0 0 Q := by
  obtain ⟨a1, a2, a3, a4, a5⟩ := hS.2.2 n hn
  refine Con.of ok_J0_isLatin1_aae02 (nones := []) rfl (by simp) ?_
  refine go ok_J0_isLatin1_aae02 ?_
  refine And.intro (fun c => absurd c (by decide)) (fun c => ?_)
  refine go ok_J0_isLatin1_aae02 ?_
  refine And.intro a1 ?_
  refine asAnd ?_
  rw [a3]
  refine And.intro (fun c2 => absurd c2 (by decide)) (fun c2 => ?_)
  refine go ok_J0_isLatin1_aae02 ?_
  refine And.intro (Or.inr rfl) ?_
  exact q
theorem j_len (hS : STH h) {n : Nat} (hn : n < 11) (q : Q (some (vi (nI (wdS n).length))) h) : Con l w true (d + 1) HJ0_length_8abf5 [vr (2 + n)] h 0 0 Q := by
  obtain ⟨a1, a2, a3, a4, a5⟩ := hS.2.2 n hn
  obtain ⟨o1, o2, o3⟩ := wdS_ok n hn
  refine Con.of ok_J0_length_8abf5 (nones := []) rfl (by simp) ?_
  refine go ok_J0_length_8abf5 ?_
  refine And.intro a1 ?_
  refine Or.inr (Or.inr ⟨Or.inl (by rw [a2]; exact a4), ?_⟩)
  refine And.intro a1 ?_
  refine Cal.z (j_coder hS hn ?_)
  refine go ok_J0_length_8abf5 ?_
  rw [a2, a5]
  exact Qv q (by show nI (wdS n).length = nI (wdS n).length >>> (0 &&& 31); exact (sh0 _).symm)
theorem j_checkS {k n : Nat} (hk : k < n) (hn : n < 2 ^ 31) (q : Q none h) : Con l w true (d + 1) HJ0_checkIndex_df160 [vi (nI k), vi (nI n)] h 0 0 Q := by
  refine Con.of ok_J0_checkIndex_df160 (nones := []) rfl (by simp) ?_
  refine go ok_J0_checkIndex_df160 ?_
  intro r
  refine Cal.z (j_checkIndex3 hk hn ?_)
  refine go ok_J0_checkIndex_df160 ?_
  exact q
theorem j_char1 (hS : STH h) {n k : Nat} (hn : n < 11) (hk : k < (wdS n).length) (q : Q (some (vi ((wdS n).getD k 0))) h) : Con l w true (d + 3) HJ1_charAt_3b067 [vr (13 + n), vi (nI k)] h 0 0 Q := by
  obtain ⟨a1, a2, a3, a4, a5⟩ := hS.2.2 n hn
  obtain ⟨o1, o2, o3⟩ := wdS_ok n hn
  replace a5 : aI h (13 + n) = wdS n := a5
  refine Con.of ok_J1_charAt_3b067 (nones := []) rfl (by simp) ?_
  refine go ok_J1_charAt_3b067 ?_
  refine Or.inr (Or.inr ⟨Or.inl a4, ?_⟩)
  refine asCal ?_
  rw [a5]
  refine Cal.z (j_checkS (k := k) (n := (wdS n).length) hk (by omega) ?_)
  refine go ok_J1_charAt_3b067 ?_
  refine And.intro ⟨Or.inr a4, ?_⟩ ?_
  · rw [a5]; exact ix_of rfl hk (by omega)
  · rw [a5, nI_clamp (by omega)]
    have := b_char n hn k hk
    rw [← this] at q
    exact ⟨by rw [this]; exact b_chr n hn k hk, q⟩
theorem j_char (hS : STH h) {n k : Nat} (hn : n < 11) (hk : k < (wdS n).length) (q : Q (some (vi ((wdS n).getD k 0))) h) : Con l w true (d + 4) HJ0_charAt_5068e [vr (2 + n), vi (nI k)] h 0 0 Q := by
  obtain ⟨a1, a2, a3, a4, a5⟩ := hS.2.2 n hn
  obtain ⟨o1, o2, o3⟩ := wdS_ok n hn
  refine Con.of ok_J0_charAt_5068e (nones := []) rfl (by simp) ?_
  refine go ok_J0_charAt_5068e ?_
  refine And.intro a1 ?_
  refine Cal.z (j_latin hS hn ?_)
  refine go ok_J0_charAt_5068e ?_
  refine And.intro (fun c => absurd c (by decide)) (fun c => ?_)
  refine go ok_J0_charAt_5068e ?_
  refine And.intro a1 ?_
  refine asCal ?_
  rw [a2]
  refine Cal.z (j_char1 hS hn hk ?_)
  refine go ok_J0_charAt_5068e ?_
  exact ⟨b_chr n hn k hk, q⟩
end C23

