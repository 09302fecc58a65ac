/-! ===== lists of the JDK ===== -/
/-- what stood before the law -/
def STH (h : AH) : Prop := hC h 1 = 104 ∧ aR h 1 = [] ∧ ∀ i, i < 11 → hC h (2 + i) = 12 ∧ hR h 704 (2 + i) = 13 + i ∧ hI h 705 (2 + i) = 0 ∧ hC h (13 + i) = 105 ∧ aI h (13 + i) = sBytes.getD i []
def gR (L : List Nat) (i : Nat) : Nat := L.getD i 0
/-- a list: its elements -/
def AL (h : AH) (b : Nat) (L : List Nat) : Prop := hC h b = 1 ∧ hI h 2 b = nI L.length ∧ hC h (hR h 1 b) = 104 ∧ L.length ≤ (aR h (hR h 1 b)).length ∧ (aR h (hR h 1 b)).length ≤ 150 ∧ (∀ i, i < L.length → (aR h (hR h 1 b)).getD i 0 = gN L i) ∧ ((hR h 1 b = 1 ∧ aR h (hR h 1 b) = []) ∨ 32 ≤ hR h 1 b) ∧ (∀ r, r ∈ aR h (hR h 1 b) → eOK h r)
section J1
variable {l : Launch} {w : WD} {d : Nat} {h : AH} {Q : Option AV → AH → Prop} {b : Nat} {L : List Nat}
theorem Ex.old {lm : Bool} {X : MD} {pc : Nat} {ll : List (Option AV)} {st : List AV} {bc bs : Nat} (k : (∀ n, ¬ hC h n = 0 → n < hZ h) → 32 ≤ hZ h → Ex l w lm X d Q pc ll st h bc bs) : Ex l w lm X d Q pc ll st h bc bs := by
  intro p e R s m args below meth c H locs cells slots ls hCx hf hl hcl0 hsl0 hS hL hlen hva
  refine k (fun n hn => ?_) hS.2.1 p e R s m args below meth c H locs cells slots ls hCx hf hl hcl0 hsl0 hS hL hlen hva
  rcases hS.2.2.1 n hn with z | z
  · exact z.2.1
  · have := hS.2.1; omega
theorem Cal.k {lm : Bool} {M : MH} {as : List AV} {bc bs : Nat} {K : Option AV → AH → Nat → Nat → Prop} (c s : Nat) {c2 s2 : Nat} (e1 : bc = c + c2) (e2 : bs = s + s2) (hc : Con l w lm d M as h c s (fun v h' => K v h' c2 s2)) : Cal l w lm d M as h bc bs K := ⟨c, s, c2, s2, e1, e2, hc⟩
theorem j_size (hA : AL h b L) (q : Q (some (vi (nI L.length))) h) : Con l w true d HJx4a65c_size_8abf5 [vr b] h 0 0 Q := by
  refine Con.of ok_Jx4a65c_size_8abf5 (nones := []) rfl (by simp) ?_
  refine go ok_Jx4a65c_size_8abf5 ?_
  refine And.intro hA.1 ?_
  exact Qv q hA.2.1.symm
theorem j_isEmpty (hA : AL h b L) (hl : L.length ≤ 150) (q : Q (some (vi (b2i (decide (L.length = 0))))) h) : Con l w true d HJx4a65c_isEmpty_aae02 [vr b] h 0 0 Q := by
  refine Con.of ok_Jx4a65c_isEmpty_aae02 (nones := []) rfl (by simp) ?_
  refine go ok_Jx4a65c_isEmpty_aae02 ?_
  refine And.intro hA.1 ?_
  refine asAnd ?_
  rw [hA.2.1, show (0 : Int32) = nI 0 from rfl, nI_eq (by omega) (by omega)]
  refine And.intro (fun c => ?_) (fun c => ?_)
  · rw [decide_eq_false c] at q
    refine go ok_Jx4a65c_isEmpty_aae02 ?_
    refine And.intro (Or.inl rfl) ?_
    exact q
  · rw [decide_eq_true c] at q
    refine go ok_Jx4a65c_isEmpty_aae02 ?_
    refine And.intro (Or.inr rfl) ?_
    exact q
theorem j_checkIndex3 {i n : Nat} (hi : i < n) (hn : n < 2 ^ 31) {r : Nat} (q : Q (some (vi (nI i))) h) : Con l w true d HJ3_checkIndex_8e157 [vi (nI i), vi (nI n), vr r] h 0 0 Q := by
  refine Con.of ok_J3_checkIndex_8e157 (nones := []) rfl (by simp) ?_
  refine go ok_J3_checkIndex_8e157 ?_
  refine And.intro (fun c => absurd c (nI_pos (by omega))) (fun c => ?_)
  refine go ok_J3_checkIndex_8e157 ?_
  refine asAnd ?_
  rw [nI_ltI (by omega) (by omega)]
  refine And.intro (fun c2 => ?_) (fun c2 => ?_)
  · refine go ok_J3_checkIndex_8e157 ?_
    exact q
  · omega
theorem j_checkIndex {i n : Nat} (hi : i < n) (hn : n < 2 ^ 31) (q : Q (some (vi (nI i))) h) : Con l w true (d + 1) HJ15_checkIndex_7cf53 [vi (nI i), vi (nI n)] h 0 0 Q := by
  refine Con.of ok_J15_checkIndex_7cf53 (nones := []) rfl (by simp) ?_
  refine go ok_J15_checkIndex_7cf53 ?_
  refine Cal.z (j_checkIndex3 hi hn ?_)
  refine go ok_J15_checkIndex_7cf53 ?_
  exact q
theorem j_elementData (hA : AL h b L) {i : Nat} (hi : i < L.length) (q : Q (some (vr (gN L i))) h) : Con l w true d HJx4a65c_elementData_915e3 [vr b, vi (nI i)] h 0 0 Q := by
  obtain ⟨a1, a2, a3, a4, a5, a6, a7, a8⟩ := hA
  refine Con.of ok_Jx4a65c_elementData_915e3 (nones := []) rfl (by simp) ?_
  refine go ok_Jx4a65c_elementData_915e3 ?_
  refine And.intro a1 ?_
  refine asAnd ?_
  refine And.intro ⟨a3, ix_of rfl (show i < (aR h (hR h 1 b)).length by omega) (by omega)⟩ ?_
  rw [nI_clamp (by omega), a6 i hi]
  exact q
theorem j_get (hA : AL h b L) {i : Nat} (hi : i < L.length) (q : Q (some (vr (gN L i))) h) : Con l w true (d + 2) HJx4a65c_get_915e3 [vr b, vi (nI i)] h 0 0 Q := by
  have h150 : L.length ≤ 150 := Nat.le_trans hA.2.2.2.1 hA.2.2.2.2.1
  refine Con.of ok_Jx4a65c_get_915e3 (nones := []) rfl (by simp) ?_
  refine go ok_Jx4a65c_get_915e3 ?_
  refine And.intro hA.1 ?_
  refine asCal ?_
  rw [hA.2.1]
  refine Cal.z (j_checkIndex hi (by omega) ?_)
  refine go ok_Jx4a65c_get_915e3 ?_
  refine And.intro hA.1 ?_
  refine Cal.z (j_elementData hA hi ?_)
  refine go ok_Jx4a65c_get_915e3 ?_
  exact q
/-- what a list's growing leaves as it was -/
def AF (b : Nat) (h h' : AH) : Prop :=
  (∀ n, ¬ n = hZ h → hC h' n = hC h n) ∧ (∀ f n, ¬ n = hZ h → ¬ ((f = 0 ∨ f = 2) ∧ n = b) → hI h' f n = hI h f n) ∧ (∀ f n, ¬ n = hZ h → hL h' f n = hL h f n) ∧ (∀ f n, ¬ n = hZ h → ¬ (f = 1 ∧ n = b) → hR h' f n = hR h f n) ∧ (∀ n, ¬ n = hZ h → aI h' n = aI h n) ∧ (∀ n, ¬ n = hZ h → aL h' n = aL h n) ∧ (∀ n, ¬ n = hZ h → ¬ (n = hR h 1 b ∧ 32 ≤ n) → aR h' n = aR h n) ∧ hZ h ≤ hZ h' ∧ (hR h' 1 b = hR h 1 b ∨ hR h' 1 b = hZ h)
end J1

