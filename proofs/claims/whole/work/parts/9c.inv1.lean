/-! ===== what the states keep ===== -/
/-- Inv, and no program where no page is -/
def IV (S : SG) : Prop := Inv S ∧ ∀ p, (gDs S).length ≤ p → prD (gPr S) p = []
section V1
variable {S : SG}
theorem iv_go (hv : IV S) (n : Int32) : IV (goF S n).2 := by
  unfold goF
  split
  · rename_i c
    split
    · rename_i c2
      obtain ⟨⟨v1, v2, v3, v4, v5, v6, v7, v8, v9, v10⟩, vp⟩ := hv
      have c0 : (0 : Int32).toInt = 0 := rfl
      have c5 : (500 : Int32).toInt = 500 := rfl
      have c3 : (3000 : Int32).toInt = 3000 := rfl
      have a1 := Int32.le_iff_toInt_le.mp v1.1
      have a2 := Int32.le_iff_toInt_le.mp v1.2
      have a3 := Int32.le_iff_toInt_le.mp c.1
      have a4 := Int32.le_iff_toInt_le.mp c.2
      have e : (gNw S + n).toInt = (gNw S).toInt + n.toInt := by
        rw [Int32.toInt_add]
        apply Int.bmod_eq_of_le <;> omega
      have le : gNw S ≤ gNw S + n := by rw [Int32.le_iff_toInt_le, e]; omega
      refine ⟨⟨⟨by show (0 : Int32) ≤ gNw S + n; rw [Int32.le_iff_toInt_le, e]; omega, c2⟩, v2, fun i hi => ?_, v4, v5, v6, v7, v8, v9, v10⟩, vp⟩
      have y := v3 i hi
      exact ⟨y.1, ⟨y.2.1.1, Int32.le_trans y.2.1.2 le⟩, y.2.2⟩
    · exact hv
  · exact hv
theorem iv_page (hv : IV S) (d : Int32) : IV (pageF S d).2 := by
  unfold pageF
  split
  · rename_i c
    split
    · exact hv
    · obtain ⟨⟨v1, v2, v3, v4, v5, v6, v7, v8, v9, v10⟩, vp⟩ := hv
      obtain ⟨k, hk, ek⟩ := natOf (n := 5) (by decide) c.1 c.2
      have el : (gDs S ++ [d]).length = (gDs S).length + 1 := by rw [List.length_append]; rfl
      have dd : ∀ i, i < (gD S).length → doorD (sDs S (gDs S ++ [d])) i = doorD S i := fun i hi => getD_snoc_l (v3 i hi).1
      refine ⟨⟨v1, fun i hi => ?_, fun i hi => ?_, fun i j h1 h2 => ?_, v5, v6, v7, v8, v9, v10⟩, fun p hp => vp p ?_⟩
      · replace hi : i < (gDs S ++ [d]).length := hi
        show ∃ k, k < 6 ∧ (gDs S ++ [d]).getD i 0 = nI k
        by_cases e : i = (gDs S).length
        · rw [e, getD_snoc_e]; exact ⟨k, by omega, ek⟩
        · rw [getD_snoc_l (by omega)]; exact v2 i (by omega)
      · have y := v3 i hi
        exact ⟨by show (lkD (gD S) i).1 < (gDs S ++ [d]).length; have := y.1; omega, y.2⟩
      · rw [dd i (by show i < (gD S).length; have : j < (gD S).length := h2; omega), dd j h2]
        exact v4 i j h1 h2
      · have : (gDs S ++ [d]).length ≤ p := hp
        omega
  · exact hv
theorem iv_wipe (hv : IV S) : IV (wipeF S).2 := by
  obtain ⟨⟨v1, v2, v3, v4, v5, v6, v7, v8, v9, v10⟩, vp⟩ := hv
  exact ⟨⟨v1, v2, v3, v4, v5, v6, v7, v8, fun i hi => absurd hi (Nat.not_lt_zero _), fun i j _ hj => absurd hj (Nat.not_lt_zero _)⟩, vp⟩
theorem iv_lose (hv : IV S) (a b : Int32) : IV (loseF S a b).2 := by
  unfold loseF
  split
  · split
    · split
      · exact hv
      · obtain ⟨⟨v1, v2, v3, v4, v5, v6, v7, v8, v9, v10⟩, vp⟩ := hv
        exact ⟨⟨v1, v2, v3, v4, by show ((gHs S).set _ _).length = 3; rw [List.length_set]; exact v5, v6, v7, v8, v9, v10⟩, vp⟩
    · exact hv
  · exact hv
theorem iv_mend (hv : IV S) : IV (mendF S).2 := by
  obtain ⟨⟨v1, v2, v3, v4, v5, v6, v7, v8, v9, v10⟩, vp⟩ := hv
  exact ⟨⟨v1, v2, v3, v4, rfl, v6, v7, v8, v9, v10⟩, vp⟩
theorem hasPg_false {k : Nat} : ∀ n, hasPg S k n = false → ∀ i, i < n → ¬ pgD (gD S) (gN (gWh S) i) = pgD (gD S) k := by
  intro n
  induction n with
  | zero => intro _ i hi; omega
  | succ n ih =>
    intro h i hi
    rw [hasPg, Bool.or_eq_false_iff] at h
    by_cases c : i = n
    · rw [c]; exact of_decide_eq_false h.2
    · exact ih h.1 i (by omega)
theorem iv_part (hv : IV S) (l : Int32) : IV (partF S l).2 := by
  unfold partF
  split
  · exact hv
  · rename_i k ek
    have hk : k < (gD S).length := by
      unfold vwO at ek
      split at ek
      · split at ek
        · rename_i c
          injection ek with ek
          subst ek
          unfold isV at c
          exact of_decide_eq_true (Bool.and_eq_true_iff.mp c).1
        · cases ek
      · cases ek
    split
    · rename_i c
      split
      · exact hv
      · obtain ⟨⟨v1, v2, v3, v4, v5, v6, v7, v8, v9, v10⟩, vp⟩ := hv
        have el : (gWh S ++ [k]).length = (gWh S).length + 1 := by rw [List.length_append]; rfl
        have hf := hasPg_false (gWh S).length c.2
        refine ⟨⟨v1, v2, v3, v4, v5, v6, v7, v8, fun i hi => ?_, fun i j h1 h2 => ?_⟩, vp⟩
        · replace hi : i < (gWh S ++ [k]).length := hi
          show gN (gWh S ++ [k]) i < _ ∧ kdD (gD S) (gN (gWh S ++ [k]) i) = 0
          by_cases e : i = (gWh S).length
          · rw [e, gN_snoc_e]; exact ⟨hk, c.1⟩
          · rw [gN_snoc_l (by omega)]; exact v9 i (by omega)
        · replace h2 : j < (gWh S ++ [k]).length := h2
          show pgD (gD S) (gN (gWh S ++ [k]) i) ≠ pgD (gD S) (gN (gWh S ++ [k]) j)
          rw [gN_snoc_l (show i < (gWh S).length by omega)]
          by_cases e : j = (gWh S).length
          · rw [e, gN_snoc_e]; exact hf i (by omega)
          · rw [gN_snoc_l (by omega)]; exact v10 i j h1 (by omega)
    · exact hv
theorem by255 (y : Int64) : 0 ≤ (y &&& 255).toInt32 ∧ (y &&& 255).toInt32 ≤ 255 := by
  have h1 : (y &&& 255).toBitVec.toNat ≤ 255 := by
    rw [Int64.toBitVec_and, BitVec.toNat_and]
    exact Nat.and_le_right
  have h2 : (y &&& 255).toInt = ((y &&& 255).toBitVec.toNat : Int) := by
    show (y &&& 255).toBitVec.toInt = _
    exact BitVec.toInt_eq_toNat_of_lt (by omega)
  have h3 : (y &&& 255).toInt32.toInt = (y &&& 255).toInt := by
    rw [Int64.toInt_toInt32]
    apply Int.bmod_eq_of_le <;> omega
  have c0 : (0 : Int32).toInt = 0 := rfl
  have c2 : (255 : Int32).toInt = 255 := rfl
  rw [Int32.le_iff_toInt_le, Int32.le_iff_toInt_le]
  omega
theorem fdB_ok (b : Int64) : ∀ n, n ≤ 8 → (fdB b n).length = n ∧ ∀ i, i < n → 0 ≤ (fdB b n).getD i 0 ∧ (fdB b n).getD i 0 ≤ 255 := by
  intro n
  induction n with
  | zero => intro _; exact ⟨rfl, fun i hi => absurd hi (Nat.not_lt_zero _)⟩
  | succ n ih =>
    intro hn
    obtain ⟨a, c⟩ := ih (by omega)
    rw [fdB]
    refine ⟨by rw [List.length_cons, a], fun i hi => ?_⟩
    cases i with
    | zero => exact by255 _
    | succ i => exact c i (by omega)
theorem iv_feed (hv : IV S) (n : Int32) (b : Int64) : IV (feedF S n b).2 := by
  unfold feedF
  split
  · rename_i c
    split
    · obtain ⟨⟨v1, v2, v3, v4, v5, v6, v7, v8, v9, v10⟩, vp⟩ := hv
      obtain ⟨k, hk, ek⟩ := natOf (n := 8) (by decide) (Int32.le_trans (by decide) c.1) c.2
      have ec : n.toNatClampNeg = k := by rw [ek]; exact nI_clamp (by omega)
      refine ⟨⟨v1, v2, v3, v4, v5, v6, fun i hi => ?_, v8, v9, v10⟩, vp⟩
      replace hi : i < (gTx S ++ fdB b n.toNatClampNeg).length := hi
      show 0 ≤ (gTx S ++ fdB b n.toNatClampNeg).getD i 0 ∧ (gTx S ++ fdB b n.toNatClampNeg).getD i 0 ≤ 255
      rw [ec] at hi ⊢
      obtain ⟨f1, f2⟩ := fdB_ok b k (by omega)
      rw [List.length_append, f1] at hi
      rw [List.getD_eq_getElem?_getD, List.getElem?_append]
      split
      · rw [← List.getD_eq_getElem?_getD]; exact v7 i (by assumption)
      · rw [← List.getD_eq_getElem?_getD]; exact f2 _ (by omega)
    · exact hv
  · exact hv
end V1

