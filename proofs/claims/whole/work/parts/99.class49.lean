/-! ===== the class: look, when a door lets in ===== -/
theorem bl_63 {x : Int64} : bl x 63 = false ↔ 0 ≤ x := by
  rw [Int64.le_iff_toInt_le]
  have e : x.toBitVec.msb = decide (x.toBitVec.toInt < 0) := BitVec.msb_eq_toInt
  have e2 : bl x 63 = x.toBitVec.msb := by unfold bl; rw [BitVec.msb_eq_getLsbD_last]
  rw [e2, e]
  show decide (x.toInt < 0) = false ↔ 0 ≤ x.toInt
  by_cases c : x.toInt < 0
  · simp [c]
  · simp [c]; omega
theorem pc_mask (x : Int64) : x &&& (-1152921504606846976) = 0 ↔ (0 ≤ x ∧ x >>> 60 = 0) := by
  have em : ∀ i, i < 64 → bl (-1152921504606846976) i = decide (60 ≤ i) := by decide +kernel
  have e60 : (60 : Int64) = (nI 60).toInt64 &&& 63 := by decide
  constructor
  · intro h
    have hb : ∀ i, i < 64 → 60 ≤ i → bl x i = false := fun i hi h6 => by
      have : bl (x &&& (-1152921504606846976)) i = false := by rw [h]; exact l_0 i
      rw [l_and, em i hi, decide_eq_true h6, Bool.and_true] at this
      exact this
    refine ⟨bl_63.mp (hb 63 (by decide) (by decide)), l_ext (fun i hi => ?_)⟩
    rw [e60, l_sshr (by decide) x hi, l_0]
    split
    · exact hb _ (by omega) (by omega)
    · exact hb 63 (by decide) (by decide)
  · intro ⟨h0, h6⟩
    refine l_ext (fun i hi => ?_)
    rw [l_and, em i hi, l_0]
    by_cases c : 60 ≤ i
    · have : bl (x >>> 60) (i - 60) = false := by rw [h6]; exact l_0 _
      rw [e60, l_sshr (by decide) x (by omega), if_pos (by omega), show 60 + (i - 60) = i by omega] at this
      rw [this, Bool.false_and]
    · rw [decide_eq_false c, Bool.and_false]
section C49
variable {S : SG}
theorem klR_b (hv : Inv S) (k : Nat) : ∀ n, n ≤ (gD S).length → (-1000 ≤ (klR (gDs S) (gD S) k n).toInt ∧ (klR (gDs S) (gD S) k n).toInt ≤ 3000) ∧ ∀ j, n ≤ j → j < (gD S).length → (klR (gDs S) (gD S) k n).toInt ≤ (hrD (gD S) j).toInt := by
  have hb : ∀ j, j < (gD S).length → 0 ≤ (hrD (gD S) j).toInt ∧ (hrD (gD S) j).toInt ≤ 3000 := fun j hj => by
    have a := (hv.2.2.1 j hj).2.1
    have b := hv.1.2
    have a1 := Int32.le_iff_toInt_le.mp a.1
    have a2 := Int32.le_iff_toInt_le.mp a.2
    have b2 := Int32.le_iff_toInt_le.mp b
    have c0 : (0 : Int32).toInt = 0 := rfl
    have c3 : (3000 : Int32).toInt = 3000 := rfl
    rw [c0] at a1
    rw [c3] at b2
    exact ⟨a1, Int.le_trans a2 b2⟩
  have em : (-1000 : Int32).toInt = -1000 := rfl
  intro n
  induction n with
  | zero =>
    intro _
    rw [klR, em]
    exact ⟨⟨by omega, by omega⟩, fun j _ hj => by have := (hb j hj).1; omega⟩
  | succ n ih =>
    intro hn
    rw [klR]
    split
    · have := hb n (by omega)
      refine ⟨⟨by omega, this.2⟩, fun j h1 h2 => ?_⟩
      exact Int32.le_iff_toInt_le.mp (hv.2.2.2.1 n j (by omega) h2).1
    · obtain ⟨a, b⟩ := ih (by omega)
      exact ⟨a, fun j h1 h2 => b j (by omega) h2⟩
theorem letR_eq (hv : Inv S) {k : Nat} (hk : k < 6) : ∀ n, n ≤ (gD S).length → letR S k n = (decide ((gNv S).getD k 0 = 0) && decide ((gLt S).getD k 0 ≤ gNw S - klR (gDs S) (gD S) k n)) := by
  have hlt := (hv.2.2.2.2.2.1).2.2.1 k hk
  have c0 : (0 : Int32).toInt = 0 := rfl
  have c1 : (1 : Int32).toInt = 1 := rfl
  have c99 : (99 : Int32).toInt = 99 := rfl
  have c3 : (3000 : Int32).toInt = 3000 := rfl
  have l1 := Int32.le_iff_toInt_le.mp hlt.2.1
  have l2 := Int32.le_iff_toInt_le.mp hlt.2.2
  have w1 := Int32.le_iff_toInt_le.mp hv.1.1
  have w2 := Int32.le_iff_toInt_le.mp hv.1.2
  replace l1 : (1 : Int32).toInt ≤ ((gLt S).getD k 0).toInt := l1
  replace l2 : ((gLt S).getD k 0).toInt ≤ (99 : Int32).toInt := l2
  rw [c0] at w1
  rw [c3] at w2
  rw [c1] at l1
  rw [c99] at l2
  have sub : ∀ y : Int32, -1000 ≤ y.toInt → y.toInt ≤ 3000 → (gNw S - y).toInt = (gNw S).toInt - y.toInt := fun y h1 h2 => by
    rw [Int32.toInt_sub]
    apply Int.bmod_eq_of_le
    · omega
    · omega
  intro n
  induction n with
  | zero =>
    intro _
    have em : (-1000 : Int32).toInt = -1000 := rfl
    rw [letR, klR, decide_eq_true (show (gLt S).getD k 0 ≤ gNw S - -1000 by rw [Int32.le_iff_toInt_le, sub _ (by omega) (by omega), em]; omega), Bool.and_true]
  | succ n ih =>
    intro hn
    obtain ⟨⟨b1, b2⟩, b3⟩ := klR_b hv k n (by omega)
    have b4 := b3 n (Nat.le_refl _) (by omega)
    rw [letR, ih (by omega), klR]
    show _ = (_ && decide ((gLt S).getD k 0 ≤ gNw S - (if doorD S n = nI k then hrD (gD S) n else klR (gDs S) (gD S) k n)))
    by_cases c : doorD S n = nI k
    · have hb := (klR_b hv k (n + 1) hn).1
      have e : klR (gDs S) (gD S) k (n + 1) = hrD (gD S) n := by rw [klR]; exact if_pos c
      rw [e] at hb
      rw [if_pos c, decide_eq_true c, Bool.true_and]
      have e1 := sub _ b1 b2
      have e2 := sub _ hb.1 hb.2
      by_cases c2 : gNw S - hrD (gD S) n < (gLt S).getD k 0
      · rw [decide_eq_true c2, decide_eq_false (show ¬ (gLt S).getD k 0 ≤ gNw S - hrD (gD S) n by rw [Int32.le_iff_toInt_le]; rw [Int32.lt_iff_toInt_lt] at c2; omega)]
        simp
      · have c3' : (gLt S).getD k 0 ≤ gNw S - hrD (gD S) n := by rw [Int32.le_iff_toInt_le]; rw [Int32.lt_iff_toInt_lt] at c2; omega
        rw [decide_eq_false c2, decide_eq_true c3', decide_eq_true (show (gLt S).getD k 0 ≤ gNw S - klR (gDs S) (gD S) k n by rw [Int32.le_iff_toInt_le] at c3' ⊢; omega)]
        simp
    · rw [if_neg c, decide_eq_false c]
      simp
end C49

