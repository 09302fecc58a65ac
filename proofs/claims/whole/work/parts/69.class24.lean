/-! ===== the class: texts, their leaves ===== -/
/-- a heap at a place of the text -/
def tH (h : AH) (i : Nat) (k p : Int32) : AH := sI (sI (sI h 450 36 (nI i)) 451 36 k) 452 36 p
theorem sI_cm (h : AH) {f a g b : Nat} (v u : Int32) (hne : ¬ f = g) : sI (sI h f a v) g b u = sI (sI h g b u) f a v := by
  have e : up2 (up2 (hI h) f a v) g b u = up2 (up2 (hI h) g b u) f a v := by
    funext x y
    unfold up2
    by_cases c1 : x = g ∧ y = b
    · rw [if_pos c1, if_neg (fun z => hne (z.1.symm.trans c1.1)), if_pos c1]
    · rw [if_neg c1]
      by_cases c2 : x = f ∧ y = a
      · rw [if_pos c2, if_pos c2]
      · rw [if_neg c2, if_neg c2, if_neg c1]
  show (hC h, up2 (up2 (hI h) f a v) g b u, hL h, hR h, aI h, aL h, aR h, hZ h) = _
  rw [e]
  rfl
theorem tH_i (h : AH) (i j : Nat) (k p : Int32) : sI (tH h i k p) 450 36 (nI j) = tH h j k p := by
  unfold tH
  rw [sI_cm _ p (nI j) (by decide), sI_cm _ k (nI j) (by decide), sI_sI]
theorem tH_k (h : AH) (i : Nat) (k p k2 p2 : Int32) : sI (sI (tH h i k p) 451 36 k2) 452 36 p2 = tH h i k2 p2 := by
  unfold tH
  rw [sI_cm _ p k2 (by decide), sI_sI, sI_sI]
section C24
variable {l : Launch} {w : WD} {d : Nat} {h : AH} {Q : Option AV → AH → Prop} {tx : List Int32} {i j : Nat} {k p : Int32}
theorem TXc.t (hT : TXc tx h) (i : Nat) (k p : Int32) : TXc tx (tH h i k p) := hT
theorem c_byteAt (hT : TXc tx h) (hj : j < 2 ^ 31) (q : Q (some (vi (tAt tx j))) h) : Con l w true d HX6_byteAt [vr 36, vi (nI j)] h 0 0 Q := by
  obtain ⟨t1, t2, t3⟩ := hT
  refine Con.of ok_X6_byteAt (nones := []) rfl (by simp) ?_
  refine Ex.lay (fun hy => ?_)
  refine go ok_X6_byteAt ?_
  refine And.intro (fun c => absurd c (nI_pos (by omega))) (fun c => ?_)
  refine go ok_X6_byteAt ?_
  refine asAnd ?_
  rw [t1, nI_leI (by omega) (by omega)]
  refine And.intro (fun c2 => ?_) (fun c2 => ?_)
  · rw [tAt_out c2] at q
    refine go ok_X6_byteAt ?_
    exact q
  · rw [tAt_in (by omega), ← t3 j (by omega)] at q
    refine go ok_X6_byteAt ?_
    refine Or.inl ⟨yc37 hy, ?_⟩
    refine asAnd ?_
    rw [yn37 hy, nI_ltI (by omega) (by omega)]
    refine And.intro (fun c3 => ?_) (fun c3 => ?_)
    · refine go ok_X6_byteAt ?_
      refine And.intro (ix37 hy rfl (by omega)) ?_
      rw [nI_clamp (by omega)]
      exact q
    · omega
theorem c_isLetter {s : Int32} (q : Q (some (vi (b2i (isLt s)))) h) : Con l w true d HX6_isLetter [vi s] h 0 0 Q := by
  unfold isLt at q
  refine Con.of ok_X6_isLetter (nones := []) rfl (by simp) ?_
  refine go ok_X6_isLetter ?_
  refine And.intro (fun c => ?_) (fun c => ?_)
  · rw [decide_eq_false (fun z => by have := z.1; rw [Int32.lt_iff_toInt_lt] at c; rw [Int32.le_iff_toInt_le] at this; omega)] at q
    refine go ok_X6_isLetter ?_
    refine And.intro (Or.inl rfl) ?_
    exact q
  · refine go ok_X6_isLetter ?_
    refine And.intro (fun c2 => ?_) (fun c2 => ?_)
    · rw [decide_eq_false (fun z => by have := z.2; rw [Int32.lt_iff_toInt_lt] at c2; rw [Int32.le_iff_toInt_le] at this; omega)] at q
      refine go ok_X6_isLetter ?_
      refine And.intro (Or.inl rfl) ?_
      exact q
    · rw [decide_eq_true ⟨by simpa using c, by simpa using c2⟩] at q
      refine go ok_X6_isLetter ?_
      refine And.intro (Or.inr rfl) ?_
      exact q
theorem c_isFigure {s : Int32} (q : Q (some (vi (b2i (isDg s)))) h) : Con l w true d HX6_isFigure [vi s] h 0 0 Q := by
  unfold isDg at q
  refine Con.of ok_X6_isFigure (nones := []) rfl (by simp) ?_
  refine go ok_X6_isFigure ?_
  refine And.intro (fun c => ?_) (fun c => ?_)
  · rw [decide_eq_false (fun z => by have := z.1; rw [Int32.lt_iff_toInt_lt] at c; rw [Int32.le_iff_toInt_le] at this; omega)] at q
    refine go ok_X6_isFigure ?_
    refine And.intro (Or.inl rfl) ?_
    exact q
  · refine go ok_X6_isFigure ?_
    refine And.intro (fun c2 => ?_) (fun c2 => ?_)
    · rw [decide_eq_false (fun z => by have := z.2; rw [Int32.lt_iff_toInt_lt] at c2; rw [Int32.le_iff_toInt_le] at this; omega)] at q
      refine go ok_X6_isFigure ?_
      refine And.intro (Or.inl rfl) ?_
      exact q
    · rw [decide_eq_true ⟨by simpa using c, by simpa using c2⟩] at q
      refine go ok_X6_isFigure ?_
      refine And.intro (Or.inr rfl) ?_
      exact q
theorem c_nextPlace (hT : TXc tx h) (hi : i ≤ tx.length) (q : Q (some (vi (nI (skp tx i)))) (tH h (skp tx i) k p)) : Con l w true (d + 1) HX6_nextPlace [vr 36] (tH h i k p) 0 0 Q := by
  have h200 := hT.2.1
  have k50 : Ex l w true mX6_nextPlace (d + 1) Q 50 [some (vr 36)] [] (tH h (skp tx i) k p) 0 0 := by
    refine go ok_X6_nextPlace ?_
    exact q
  have lp : ∀ n i2, i2 + n = tx.length → skp tx i2 = skp tx i → Ex l w true mX6_nextPlace (d + 1) Q 0 [some (vr 36)] [] (tH h i2 k p) 0 0 := by
    intro n
    induction n with
    | zero =>
      intro i2 hn e
      have : i2 = tx.length := by omega
      subst this
      have e2 : skp tx tx.length = tx.length := run_stop (by rw [tAt_out (Nat.le_refl _)]; rfl)
      rw [← e, e2] at k50
      refine go ok_X6_nextPlace ?_
      refine asAnd ?_
      rw [show hI (tH h tx.length k p) 450 36 = nI tx.length from rfl, show hI (tH h tx.length k p) 449 36 = nI tx.length from hT.1, nI_leI (by omega) (by omega)]
      refine And.intro (fun c => ?_) (fun c => ?_)
      · exact k50
      · omega
    | succ n ih =>
      intro i2 hn e
      have ea : (aI (tH h i2 k p) 37).getD i2 0 = tAt tx i2 := by rw [tAt_in (by omega)]; exact hT.2.2 i2 (by omega)
      refine Ex.lay (fun hy => ?_)
      refine go ok_X6_nextPlace ?_
      refine asAnd ?_
      rw [show hI (tH h i2 k p) 450 36 = nI i2 from rfl, show hI (tH h i2 k p) 449 36 = nI tx.length from hT.1, nI_leI (by omega) (by omega)]
      refine And.intro (fun c => ?_) (fun c => ?_)
      · omega
      · refine go ok_X6_nextPlace ?_
        refine Or.inl ⟨yc37 hy, ?_⟩
        refine asAnd ?_
        rw [yn37 hy, show hI (tH h i2 k p) 450 36 = nI i2 from rfl, nI_leI (by omega) (by omega)]
        refine And.intro (fun c3 => by omega) (fun c3 => ?_)
        refine go ok_X6_nextPlace ?_
        refine And.intro (ix37 hy (k := i2) rfl (by omega)) ?_
        rw [show hI (tH h i2 k p) 450 36 = nI i2 from rfl, nI_clamp (by omega), ea]
        refine And.intro (fun c2 => ?_) (fun c2 => ?_)
        · have e2 : skp tx i2 = i2 := run_stop (by unfold isSp; exact decide_eq_false c2)
          rw [← e, e2] at k50
          exact k50
        · have hh := ih (i2 + 1) (by omega) (by rw [← e]; exact (run_step rfl (by unfold isSp; exact decide_eq_true c2)).symm)
          rw [← tH_i h i2, ← nI_1] at hh
          refine go ok_X6_nextPlace ?_
          exact hh
  exact Con.of ok_X6_nextPlace (nones := []) rfl (by simp) (lp (tx.length - i) i (by omega) rfl)
end C24

